set_option maxHeartbeats 2000000 in
theorem gfX5_no {n : Nat} {u : MU} {a1 : Int32} : FrP (fun k => k < 53) u (zX5_no n u a1) := by
  unfold zX5_no
  repeat' (first | with_reducible exact FrP_none | with_reducible refine FrP_ck (fun _ => ?_) | with_reducible refine FrP_bv (fun _ => ?_) | with_reducible refine FrP_lm ?_ (fun _ _ => ?_) | with_reducible refine FrP_lv (fun _ => ?_) | with_reducible refine FrP_some ?_ | with_reducible assumption | with_reducible exact Ag.rf | (with_reducible refine Ag.up ?_ ?_; rotate_left; (intro k hk; omega)) | (with_reducible refine Ag.cp ?_ ?_; rotate_left; (intro k hk; omega)) | with_reducible refine FrP_if ?_ ?_ | omega)
set_option maxHeartbeats 2000000 in
theorem gfX5_lower {n : Nat} {u : MU} {a1 : Int32} : FrP (fun k => k < 53) u (zX5_lower n u a1) := by
  unfold zX5_lower
  repeat' (first | with_reducible exact FrP_none | with_reducible refine FrP_ck (fun _ => ?_) | with_reducible refine FrP_bv (fun _ => ?_) | with_reducible refine FrP_lm ?_ (fun _ _ => ?_) | with_reducible refine FrP_lv (fun _ => ?_) | with_reducible refine FrP_some ?_ | with_reducible assumption | with_reducible exact Ag.rf | (with_reducible refine Ag.up ?_ ?_; rotate_left; (intro k hk; omega)) | (with_reducible refine Ag.cp ?_ ?_; rotate_left; (intro k hk; omega)) | with_reducible refine FrP_if ?_ ?_ | omega)
set_option maxHeartbeats 2000000 in
theorem gfX5_feed {n : Nat} {u : MU} {a1 : Int32} : FrP (fun k => k < 53) u (zX5_feed n u a1) := by
  unfold zX5_feed
  repeat' (first | with_reducible exact FrP_none | with_reducible refine FrP_ck (fun _ => ?_) | with_reducible refine FrP_bp (gfX5_no ) ?_ (fun _ _ => ?_) | with_reducible refine FrP_bv (fun _ => ?_) | with_reducible refine FrP_lm ?_ (fun _ _ => ?_) | with_reducible refine FrP_lv (fun _ => ?_) | with_reducible refine FrP_some ?_ | with_reducible assumption | with_reducible exact Ag.rf | (with_reducible refine Ag.up ?_ ?_; rotate_left; (intro k hk; omega)) | (with_reducible refine Ag.cp ?_ ?_; rotate_left; (intro k hk; omega)) | with_reducible refine FrP_if ?_ ?_ | omega)
set_option maxHeartbeats 2000000 in
theorem gfX5_readsNumber_L21 {u : MU} {n : Nat} {s1 : Int32} {s2 : Int32} {k : Int32 → Int32 → MU → Option (Int32 × MU)} (hk : ∀ (y0 : Int32) (y1 : Int32) (w : MU), Ag (fun k => k < 53) u w → FrP (fun k => k < 53) u (k y0 y1 w)) : ∀ (m : Nat) (x0 : Int32) (x1 : Int32) (w : MU), Ag (fun k => k < 53) u w → FrP (fun k => k < 53) u (zX5_readsNumber_L21 n s1 s2 k m x0 x1 w) := by
  intro m
  induction m with
  | zero => intros; exact FrP_none
  | succ m ih =>
    intro x0 x1 w hw
    rw [zX5_readsNumber_L21]
    repeat' (first | with_reducible exact FrP_none | with_reducible refine FrP_ck (fun _ => ?_) | with_reducible refine ih _ _ _ ?_ | with_reducible refine hk _ _ _ ?_ | with_reducible refine FrP_bv (fun _ => ?_) | with_reducible refine FrP_lm ?_ (fun _ _ => ?_) | with_reducible refine FrP_lv (fun _ => ?_) | with_reducible refine FrP_some ?_ | with_reducible assumption | with_reducible exact Ag.rf | (with_reducible refine Ag.up ?_ ?_; rotate_left; (intro k hk; omega)) | (with_reducible refine Ag.cp ?_ ?_; rotate_left; (intro k hk; omega)) | with_reducible refine FrP_if ?_ ?_ | omega)
set_option maxHeartbeats 2000000 in
theorem gfX5_readsNumber {n : Nat} {u : MU} {a1 : Int32} {a2 : Int32} : FrP (fun k => k < 53) u (zX5_readsNumber n u a1 a2) := by
  unfold zX5_readsNumber
  repeat' (first | with_reducible exact FrP_none | with_reducible refine FrP_ck (fun _ => ?_) | with_reducible refine gfX5_readsNumber_L21 (fun _ _ _ _ => ?_) _ _ _ _ ?_ | with_reducible refine FrP_bv (fun _ => ?_) | with_reducible refine FrP_lm ?_ (fun _ _ => ?_) | with_reducible refine FrP_lv (fun _ => ?_) | with_reducible refine FrP_some ?_ | with_reducible assumption | with_reducible exact Ag.rf | (with_reducible refine Ag.up ?_ ?_; rotate_left; (intro k hk; omega)) | (with_reducible refine Ag.cp ?_ ?_; rotate_left; (intro k hk; omega)) | with_reducible refine FrP_if ?_ ?_ | omega)
set_option maxHeartbeats 2000000 in
theorem gfX5_statement_L59 {u : MU} {n : Nat} {s1 : Int32} {s2 : Int32} {s3 : Int32} {k : Int32 → MU → Option (Int32 × MU)} (hk : ∀ (y0 : Int32) (w : MU), Ag (fun k => k < 53) u w → FrP (fun k => k < 53) u (k y0 w)) : ∀ (m : Nat) (x0 : Int32) (w : MU), Ag (fun k => k < 53) u w → FrP (fun k => k < 53) u (zX5_statement_L59 n s1 s2 s3 k m x0 w) := by
  intro m
  induction m with
  | zero => intros; exact FrP_none
  | succ m ih =>
    intro x0 w hw
    rw [zX5_statement_L59]
    repeat' (first | with_reducible exact FrP_none | with_reducible refine FrP_ck (fun _ => ?_) | with_reducible refine ih _ _ ?_ | with_reducible refine hk _ _ ?_ | with_reducible refine FrP_bp (gfX5_readsNumber ) ?_ (fun _ _ => ?_) | with_reducible refine FrP_bv (fun _ => ?_) | with_reducible refine FrP_lm ?_ (fun _ _ => ?_) | with_reducible refine FrP_lv (fun _ => ?_) | with_reducible refine FrP_some ?_ | with_reducible assumption | with_reducible exact Ag.rf | (with_reducible refine Ag.up ?_ ?_; rotate_left; (intro k hk; omega)) | (with_reducible refine Ag.cp ?_ ?_; rotate_left; (intro k hk; omega)) | with_reducible refine FrP_if ?_ ?_ | omega)
set_option maxHeartbeats 2000000 in
theorem gfX5_statement {n : Nat} {u : MU} : FrP (fun k => k < 53) u (zX5_statement n u ) := by
  unfold zX5_statement
  repeat' (first | with_reducible exact FrP_none | with_reducible refine FrP_ck (fun _ => ?_) | with_reducible refine gfX5_statement_L59 (fun _ _ _ => ?_) _ _ _ ?_ | with_reducible refine FrP_bp (gfX5_readsNumber ) ?_ (fun _ _ => ?_) | with_reducible refine FrP_bv (fun _ => ?_) | with_reducible refine FrP_lm ?_ (fun _ _ => ?_) | with_reducible refine FrP_lv (fun _ => ?_) | with_reducible refine FrP_some ?_ | with_reducible assumption | with_reducible exact Ag.rf | (with_reducible refine Ag.up ?_ ?_; rotate_left; (intro k hk; omega)) | (with_reducible refine Ag.cp ?_ ?_; rotate_left; (intro k hk; omega)) | with_reducible refine FrP_if ?_ ?_ | omega)
set_option maxHeartbeats 2000000 in
theorem gfX5_begins_L18 {u : MU} {n : Nat} {k : Int32 → MU → Option (Int32 × MU)} (hk : ∀ (y0 : Int32) (w : MU), Ag (fun k => k < 53) u w → FrP (fun k => k < 53) u (k y0 w)) : ∀ (m : Nat) (x0 : Int32) (w : MU), Ag (fun k => k < 53) u w → FrP (fun k => k < 53) u (zX5_begins_L18 n k m x0 w) := by
  intro m
  induction m with
  | zero => intros; exact FrP_none
  | succ m ih =>
    intro x0 w hw
    rw [zX5_begins_L18]
    repeat' (first | with_reducible exact FrP_none | with_reducible refine FrP_ck (fun _ => ?_) | with_reducible refine ih _ _ ?_ | with_reducible refine hk _ _ ?_ | with_reducible refine FrP_bv (fun _ => ?_) | with_reducible refine FrP_lm ?_ (fun _ _ => ?_) | with_reducible refine FrP_lv (fun _ => ?_) | with_reducible refine FrP_some ?_ | with_reducible assumption | with_reducible exact Ag.rf | (with_reducible refine Ag.up ?_ ?_; rotate_left; (intro k hk; omega)) | (with_reducible refine Ag.cp ?_ ?_; rotate_left; (intro k hk; omega)) | with_reducible refine FrP_if ?_ ?_ | omega)
set_option maxHeartbeats 2000000 in
theorem gfX5_begins {n : Nat} {u : MU} {a1 : Int32} : FrP (fun k => k < 53) u (zX5_begins n u a1) := by
  unfold zX5_begins
  repeat' (first | with_reducible exact FrP_none | with_reducible refine FrP_ck (fun _ => ?_) | with_reducible refine gfX5_begins_L18 (fun _ _ _ => ?_) _ _ _ ?_ | with_reducible refine FrP_bv (fun _ => ?_) | with_reducible refine FrP_lm ?_ (fun _ _ => ?_) | with_reducible refine FrP_lv (fun _ => ?_) | with_reducible refine FrP_some ?_ | with_reducible assumption | with_reducible exact Ag.rf | (with_reducible refine Ag.up ?_ ?_; rotate_left; (intro k hk; omega)) | (with_reducible refine Ag.cp ?_ ?_; rotate_left; (intro k hk; omega)) | with_reducible refine FrP_if ?_ ?_ | omega)
set_option maxHeartbeats 2000000 in
theorem gfX5_comesOne_L116 {u : MU} {n : Nat} {k : Int32 → MU → Option (Int32 × MU)} (hk : ∀ (y0 : Int32) (w : MU), Ag (fun k => k < 53) u w → FrP (fun k => k < 53) u (k y0 w)) : ∀ (m : Nat) (x0 : Int32) (w : MU), Ag (fun k => k < 53) u w → FrP (fun k => k < 53) u (zX5_comesOne_L116 n k m x0 w) := by
  intro m
  induction m with
  | zero => intros; exact FrP_none
  | succ m ih =>
    intro x0 w hw
    rw [zX5_comesOne_L116]
    repeat' (first | with_reducible exact FrP_none | with_reducible refine FrP_ck (fun _ => ?_) | with_reducible refine ih _ _ ?_ | with_reducible refine hk _ _ ?_ | with_reducible refine FrP_bv (fun _ => ?_) | with_reducible refine FrP_lm ?_ (fun _ _ => ?_) | with_reducible refine FrP_lv (fun _ => ?_) | with_reducible refine FrP_some ?_ | with_reducible assumption | with_reducible exact Ag.rf | (with_reducible refine Ag.up ?_ ?_; rotate_left; (intro k hk; omega)) | (with_reducible refine Ag.cp ?_ ?_; rotate_left; (intro k hk; omega)) | with_reducible refine FrP_if ?_ ?_ | omega)
set_option maxHeartbeats 2000000 in
theorem gfX5_comesOne {n : Nat} {u : MU} {a1 : Int32} : FrP (fun k => k < 53) u (zX5_comesOne n u a1) := by
  unfold zX5_comesOne
  repeat' (first | with_reducible exact FrP_none | with_reducible refine FrP_ck (fun _ => ?_) | with_reducible refine gfX5_comesOne_L116 (fun _ _ _ => ?_) _ _ _ ?_ | with_reducible refine FrP_bv (fun _ => ?_) | with_reducible refine FrP_lm ?_ (fun _ _ => ?_) | with_reducible refine FrP_lv (fun _ => ?_) | with_reducible refine FrP_some ?_ | with_reducible assumption | with_reducible exact Ag.rf | (with_reducible refine Ag.up ?_ ?_; rotate_left; (intro k hk; omega)) | (with_reducible refine Ag.cp ?_ ?_; rotate_left; (intro k hk; omega)) | with_reducible refine FrP_if ?_ ?_ | omega)
set_option maxHeartbeats 2000000 in
theorem gfX5_sets {n : Nat} {u : MU} {a1 : Int32} {a2 : Int32} : FrO (fun k => k < 53) u (zX5_sets n u a1 a2) := by
  unfold zX5_sets
  repeat' (first | with_reducible exact FrO_none | with_reducible refine FrO_ck (fun _ => ?_) | with_reducible refine FrO_bv (fun _ => ?_) | with_reducible refine FrO_lm ?_ (fun _ _ => ?_) | with_reducible refine FrO_lv (fun _ => ?_) | with_reducible refine FrO_some ?_ | with_reducible assumption | with_reducible exact Ag.rf | (with_reducible refine Ag.up ?_ ?_; rotate_left; (intro k hk; omega)) | (with_reducible refine Ag.cp ?_ ?_; rotate_left; (intro k hk; omega)) | with_reducible refine FrO_if ?_ ?_ | omega)
set_option maxHeartbeats 2000000 in
theorem gfX5_comes {n : Nat} {u : MU} {a1 : Int32} : FrP (fun k => k < 53) u (zX5_comes n u a1) := by
  unfold zX5_comes
  repeat' (first | with_reducible exact FrP_none | with_reducible refine FrP_ck (fun _ => ?_) | with_reducible refine FrP_bp (gfX5_begins ) ?_ (fun _ _ => ?_) | with_reducible refine FrP_bp (gfX5_comesOne ) ?_ (fun _ _ => ?_) | with_reducible refine FrP_bo (gfX5_sets ) ?_ (fun _ _ => ?_) | with_reducible refine FrP_bv (fun _ => ?_) | with_reducible refine FrP_lm ?_ (fun _ _ => ?_) | with_reducible refine FrP_lv (fun _ => ?_) | with_reducible refine FrP_some ?_ | with_reducible assumption | with_reducible exact Ag.rf | (with_reducible refine Ag.up ?_ ?_; rotate_left; (intro k hk; omega)) | (with_reducible refine Ag.cp ?_ ?_; rotate_left; (intro k hk; omega)) | with_reducible refine FrP_if ?_ ?_ | omega)
set_option maxHeartbeats 2000000 in
theorem gfX5_passes_L2 {u : MU} {n : Nat} {c1 : Nat} {c1n : Nat} {k : Int32 → MU → Option (MU)} (hc1 : 53 ≤ c1) (hk : ∀ (y0 : Int32) (w : MU), Ag (fun k => k < 53) u w → FrO (fun k => k < 53) u (k y0 w)) : ∀ (m : Nat) (x0 : Int32) (w : MU), Ag (fun k => k < 53) u w → FrO (fun k => k < 53) u (zX5_passes_L2 n c1 c1n k m x0 w) := by
  intro m
  induction m with
  | zero => intros; exact FrO_none
  | succ m ih =>
    intro x0 w hw
    rw [zX5_passes_L2]
    repeat' (first | with_reducible exact FrO_none | with_reducible refine FrO_ck (fun _ => ?_) | with_reducible refine ih _ _ ?_ | with_reducible refine hk _ _ ?_ | with_reducible refine FrO_bv (fun _ => ?_) | with_reducible refine FrO_lm ?_ (fun _ _ => ?_) | with_reducible refine FrO_lv (fun _ => ?_) | with_reducible refine FrO_some ?_ | with_reducible assumption | with_reducible exact Ag.rf | (with_reducible refine Ag.up ?_ ?_; rotate_left; (intro k hk; omega)) | (with_reducible refine Ag.cp ?_ ?_; rotate_left; (intro k hk; omega)) | with_reducible refine FrO_if ?_ ?_ | omega)
set_option maxHeartbeats 2000000 in
theorem gfX5_passes {n : Nat} {u : MU} {c1 : Nat} {c1n : Nat} (hc1 : 53 ≤ c1) : FrO (fun k => k < 53) u (zX5_passes n u c1 c1n) := by
  unfold zX5_passes
  repeat' (first | with_reducible exact FrO_none | with_reducible refine FrO_ck (fun _ => ?_) | with_reducible refine gfX5_passes_L2 hc1 (fun _ _ _ => ?_) _ _ _ ?_ | with_reducible refine FrO_bv (fun _ => ?_) | with_reducible refine FrO_lm ?_ (fun _ _ => ?_) | with_reducible refine FrO_lv (fun _ => ?_) | with_reducible refine FrO_some ?_ | with_reducible assumption | with_reducible exact Ag.rf | (with_reducible refine Ag.up ?_ ?_; rotate_left; (intro k hk; omega)) | (with_reducible refine Ag.cp ?_ ?_; rotate_left; (intro k hk; omega)) | with_reducible refine FrO_if ?_ ?_ | omega)
set_option maxHeartbeats 2000000 in
theorem gfX5_passOne {n : Nat} {u : MU} {a1 : Int32} : FrP (fun k => k < 53) u (zX5_passOne n u a1) := by
  unfold zX5_passOne
  repeat' (first | with_reducible exact FrP_none | with_reducible refine FrP_ck (fun _ => ?_) | with_reducible refine FrP_bv (fun _ => ?_) | with_reducible refine FrP_lm ?_ (fun _ _ => ?_) | with_reducible refine FrP_lv (fun _ => ?_) | with_reducible refine FrP_some ?_ | with_reducible assumption | with_reducible exact Ag.rf | (with_reducible refine Ag.up ?_ ?_; rotate_left; (intro k hk; omega)) | (with_reducible refine Ag.cp ?_ ?_; rotate_left; (intro k hk; omega)) | with_reducible refine FrP_if ?_ ?_ | omega)
set_option maxHeartbeats 2000000 in
theorem gfX5_passesAll {n : Nat} {u : MU} {a1 : Int32} {a2 : Int32} : FrO (fun k => k < 53) u (zX5_passesAll n u a1 a2) := by
  unfold zX5_passesAll
  repeat' (first | with_reducible exact FrO_none | with_reducible refine FrO_ck (fun _ => ?_) | with_reducible refine FrO_bo (gfX5_passes ?_) ?_ (fun _ _ => ?_) | with_reducible refine FrO_bp (gfX5_passOne ) ?_ (fun _ _ => ?_) | with_reducible refine FrO_bv (fun _ => ?_) | with_reducible refine FrO_lm ?_ (fun _ _ => ?_) | with_reducible refine FrO_lv (fun _ => ?_) | with_reducible refine FrO_some ?_ | with_reducible assumption | with_reducible exact Ag.rf | (with_reducible refine Ag.up ?_ ?_; rotate_left; (intro k hk; omega)) | (with_reducible refine Ag.cp ?_ ?_; rotate_left; (intro k hk; omega)) | with_reducible refine FrO_if ?_ ?_ | omega)
set_option maxHeartbeats 2000000 in
theorem gfX5_river_L12 {u : MU} {n : Nat} {k : Int32 → MU → Option (Int32 × MU)} (hk : ∀ (y0 : Int32) (w : MU), Ag (fun k => k < 53) u w → FrP (fun k => k < 53) u (k y0 w)) : ∀ (m : Nat) (x0 : Int32) (w : MU), Ag (fun k => k < 53) u w → FrP (fun k => k < 53) u (zX5_river_L12 n k m x0 w) := by
  intro m
  induction m with
  | zero => intros; exact FrP_none
  | succ m ih =>
    intro x0 w hw
    rw [zX5_river_L12]
    repeat' (first | with_reducible exact FrP_none | with_reducible refine FrP_ck (fun _ => ?_) | with_reducible refine ih _ _ ?_ | with_reducible refine hk _ _ ?_ | with_reducible refine gfX5_river_L86 (fun _ _ _ => ?_) _ _ _ ?_ | with_reducible refine FrP_bp (gfX5_statement ) ?_ (fun _ _ => ?_) | with_reducible refine FrP_bo (gfX5_passesAll ) ?_ (fun _ _ => ?_) | with_reducible refine FrP_bp (gfX5_comes ) ?_ (fun _ _ => ?_) | with_reducible refine FrP_bv (fun _ => ?_) | with_reducible refine FrP_lm ?_ (fun _ _ => ?_) | with_reducible refine FrP_lv (fun _ => ?_) | with_reducible refine FrP_some ?_ | with_reducible assumption | with_reducible exact Ag.rf | (with_reducible refine Ag.up ?_ ?_; rotate_left; (intro k hk; omega)) | (with_reducible refine Ag.cp ?_ ?_; rotate_left; (intro k hk; omega)) | with_reducible refine FrP_if ?_ ?_ | omega)
set_option maxHeartbeats 2000000 in
theorem gfX5_river_L86 {u : MU} {n : Nat} {k : Int32 → MU → Option (Int32 × MU)} (hk : ∀ (y0 : Int32) (w : MU), Ag (fun k => k < 53) u w → FrP (fun k => k < 53) u (k y0 w)) : ∀ (m : Nat) (x0 : Int32) (w : MU), Ag (fun k => k < 53) u w → FrP (fun k => k < 53) u (zX5_river_L86 n k m x0 w) := by
  intro m
  induction m with
  | zero => intros; exact FrP_none
  | succ m ih =>
    intro x0 w hw
    rw [zX5_river_L86]
    repeat' (first | with_reducible exact FrP_none | with_reducible refine FrP_ck (fun _ => ?_) | with_reducible refine ih _ _ ?_ | with_reducible refine hk _ _ ?_ | with_reducible refine gfX5_river_L12 (fun _ _ _ => ?_) _ _ _ ?_ | with_reducible refine FrP_bp (gfX5_statement ) ?_ (fun _ _ => ?_) | with_reducible refine FrP_bo (gfX5_passesAll ) ?_ (fun _ _ => ?_) | with_reducible refine FrP_bp (gfX5_comes ) ?_ (fun _ _ => ?_) | with_reducible refine FrP_bv (fun _ => ?_) | with_reducible refine FrP_lm ?_ (fun _ _ => ?_) | with_reducible refine FrP_lv (fun _ => ?_) | with_reducible refine FrP_some ?_ | with_reducible assumption | with_reducible exact Ag.rf | (with_reducible refine Ag.up ?_ ?_; rotate_left; (intro k hk; omega)) | (with_reducible refine Ag.cp ?_ ?_; rotate_left; (intro k hk; omega)) | with_reducible refine FrP_if ?_ ?_ | omega)
set_option maxHeartbeats 2000000 in
theorem gfX5_river {n : Nat} {u : MU} : FrP (fun k => k < 53) u (zX5_river n u ) := by
  unfold zX5_river
  repeat' (first | with_reducible exact FrP_none | with_reducible refine FrP_ck (fun _ => ?_) | with_reducible refine gfX5_river_L12 (fun _ _ _ => ?_) _ _ _ ?_ | with_reducible refine gfX5_river_L86 (fun _ _ _ => ?_) _ _ _ ?_ | with_reducible refine FrP_bp (gfX5_statement ) ?_ (fun _ _ => ?_) | with_reducible refine FrP_bo (gfX5_passesAll ) ?_ (fun _ _ => ?_) | with_reducible refine FrP_bp (gfX5_comes ) ?_ (fun _ _ => ?_) | with_reducible refine FrP_bv (fun _ => ?_) | with_reducible refine FrP_lm ?_ (fun _ _ => ?_) | with_reducible refine FrP_lv (fun _ => ?_) | with_reducible refine FrP_some ?_ | with_reducible assumption | with_reducible exact Ag.rf | (with_reducible refine Ag.up ?_ ?_; rotate_left; (intro k hk; omega)) | (with_reducible refine Ag.cp ?_ ?_; rotate_left; (intro k hk; omega)) | with_reducible refine FrP_if ?_ ?_ | omega)
set_option maxHeartbeats 2000000 in
theorem gfX5_image {n : Nat} {u : MU} : FrP (fun k => k < 53) u (zX5_image n u ) := by
  unfold zX5_image
  repeat' (first | with_reducible exact FrP_none | with_reducible refine FrP_ck (fun _ => ?_) | with_reducible refine FrP_bo (gfX5_passesAll ) ?_ (fun _ _ => ?_) | with_reducible refine FrP_bv (fun _ => ?_) | with_reducible refine FrP_lm ?_ (fun _ _ => ?_) | with_reducible refine FrP_lv (fun _ => ?_) | with_reducible refine FrP_some ?_ | with_reducible assumption | with_reducible exact Ag.rf | (with_reducible refine Ag.up ?_ ?_; rotate_left; (intro k hk; omega)) | (with_reducible refine Ag.cp ?_ ?_; rotate_left; (intro k hk; omega)) | with_reducible refine FrP_if ?_ ?_ | omega)
set_option maxHeartbeats 2000000 in
theorem gfX5_restore {n : Nat} {u : MU} : FrP (fun k => k < 53) u (zX5_restore n u ) := by
  unfold zX5_restore
  repeat' (first | with_reducible exact FrP_none | with_reducible refine FrP_ck (fun _ => ?_) | with_reducible refine FrP_bp (gfX5_no ) ?_ (fun _ _ => ?_) | with_reducible refine FrP_bo (gfX5_passesAll ) ?_ (fun _ _ => ?_) | with_reducible refine FrP_bv (fun _ => ?_) | with_reducible refine FrP_lm ?_ (fun _ _ => ?_) | with_reducible refine FrP_lv (fun _ => ?_) | with_reducible refine FrP_some ?_ | with_reducible assumption | with_reducible exact Ag.rf | (with_reducible refine Ag.up ?_ ?_; rotate_left; (intro k hk; omega)) | (with_reducible refine Ag.cp ?_ ?_; rotate_left; (intro k hk; omega)) | with_reducible refine FrP_if ?_ ?_ | omega)
set_option maxHeartbeats 2000000 in
theorem gfX5_yard {n : Nat} {u : MU} {a1 : Int32} {a2 : Int32} : FrP (fun k => k < 53) u (zX5_yard n u a1 a2) := by
  unfold zX5_yard
  repeat' (first | with_reducible exact FrP_none | with_reducible refine FrP_ck (fun _ => ?_) | with_reducible refine FrP_bp (gfX5_no ) ?_ (fun _ _ => ?_) | with_reducible refine FrP_bv (fun _ => ?_) | with_reducible refine FrP_lm ?_ (fun _ _ => ?_) | with_reducible refine FrP_lv (fun _ => ?_) | with_reducible refine FrP_some ?_ | with_reducible assumption | with_reducible exact Ag.rf | (with_reducible refine Ag.up ?_ ?_; rotate_left; (intro k hk; omega)) | (with_reducible refine Ag.cp ?_ ?_; rotate_left; (intro k hk; omega)) | with_reducible refine FrP_if ?_ ?_ | omega)
set_option maxHeartbeats 2000000 in
theorem gfX5_person {n : Nat} {u : MU} {a1 : Int32} {a2 : Int32} : FrP (fun k => k < 53) u (zX5_person n u a1 a2) := by
  unfold zX5_person
  repeat' (first | with_reducible exact FrP_none | with_reducible refine FrP_ck (fun _ => ?_) | with_reducible refine FrP_bp (gfX5_no ) ?_ (fun _ _ => ?_) | with_reducible refine FrP_bv (fun _ => ?_) | with_reducible refine FrP_lm ?_ (fun _ _ => ?_) | with_reducible refine FrP_lv (fun _ => ?_) | with_reducible refine FrP_some ?_ | with_reducible assumption | with_reducible exact Ag.rf | (with_reducible refine Ag.up ?_ ?_; rotate_left; (intro k hk; omega)) | (with_reducible refine Ag.cp ?_ ?_; rotate_left; (intro k hk; omega)) | with_reducible refine FrP_if ?_ ?_ | omega)
set_option maxHeartbeats 2000000 in
theorem gfX5_grudge {n : Nat} {u : MU} {a1 : Int32} {a2 : Int32} : FrP (fun k => k < 53) u (zX5_grudge n u a1 a2) := by
  unfold zX5_grudge
  repeat' (first | with_reducible exact FrP_none | with_reducible refine FrP_ck (fun _ => ?_) | with_reducible refine FrP_bp (gfX5_no ) ?_ (fun _ _ => ?_) | with_reducible refine FrP_bv (fun _ => ?_) | with_reducible refine FrP_lm ?_ (fun _ _ => ?_) | with_reducible refine FrP_lv (fun _ => ?_) | with_reducible refine FrP_some ?_ | with_reducible assumption | with_reducible exact Ag.rf | (with_reducible refine Ag.up ?_ ?_; rotate_left; (intro k hk; omega)) | (with_reducible refine Ag.cp ?_ ?_; rotate_left; (intro k hk; omega)) | with_reducible refine FrP_if ?_ ?_ | omega)
set_option maxHeartbeats 2000000 in
theorem gfX5_quarrel {n : Nat} {u : MU} {a1 : Int32} {a2 : Int32} {a3 : Int32} : FrP (fun k => k < 53) u (zX5_quarrel n u a1 a2 a3) := by
  unfold zX5_quarrel
  repeat' (first | with_reducible exact FrP_none | with_reducible refine FrP_ck (fun _ => ?_) | with_reducible refine FrP_bp (gfX5_no ) ?_ (fun _ _ => ?_) | with_reducible refine FrP_bv (fun _ => ?_) | with_reducible refine FrP_lm ?_ (fun _ _ => ?_) | with_reducible refine FrP_lv (fun _ => ?_) | with_reducible refine FrP_some ?_ | with_reducible assumption | with_reducible exact Ag.rf | (with_reducible refine Ag.up ?_ ?_; rotate_left; (intro k hk; omega)) | (with_reducible refine Ag.cp ?_ ?_; rotate_left; (intro k hk; omega)) | with_reducible refine FrP_if ?_ ?_ | omega)
set_option maxHeartbeats 2000000 in
theorem gfX5_cold {n : Nat} {u : MU} {a1 : Int32} : FrP (fun k => k < 53) u (zX5_cold n u a1) := by
  unfold zX5_cold
  repeat' (first | with_reducible exact FrP_none | with_reducible refine FrP_ck (fun _ => ?_) | with_reducible refine FrP_bp (gfX5_no ) ?_ (fun _ _ => ?_) | with_reducible refine FrP_bv (fun _ => ?_) | with_reducible refine FrP_lm ?_ (fun _ _ => ?_) | with_reducible refine FrP_lv (fun _ => ?_) | with_reducible refine FrP_some ?_ | with_reducible assumption | with_reducible exact Ag.rf | (with_reducible refine Ag.up ?_ ?_; rotate_left; (intro k hk; omega)) | (with_reducible refine Ag.cp ?_ ?_; rotate_left; (intro k hk; omega)) | with_reducible refine FrP_if ?_ ?_ | omega)
set_option maxHeartbeats 2000000 in
theorem gfX5_put {n : Nat} {u : MU} {a1 : Int32} {a2 : Int32} : FrP (fun k => k < 53) u (zX5_put n u a1 a2) := by
  unfold zX5_put
  repeat' (first | with_reducible exact FrP_none | with_reducible refine FrP_ck (fun _ => ?_) | with_reducible refine FrP_bp (gfX5_no ) ?_ (fun _ _ => ?_) | with_reducible refine FrP_bo (gfX5_sets ) ?_ (fun _ _ => ?_) | with_reducible refine FrP_bv (fun _ => ?_) | with_reducible refine FrP_lm ?_ (fun _ _ => ?_) | with_reducible refine FrP_lv (fun _ => ?_) | with_reducible refine FrP_some ?_ | with_reducible assumption | with_reducible exact Ag.rf | (with_reducible refine Ag.up ?_ ?_; rotate_left; (intro k hk; omega)) | (with_reducible refine Ag.cp ?_ ?_; rotate_left; (intro k hk; omega)) | with_reducible refine FrP_if ?_ ?_ | omega)
set_option maxHeartbeats 2000000 in
theorem gfX5_out_L12 {u : MU} {n : Nat} {s1 : Int32} {k : Int32 → MU → Option (Int32 × MU)} (hk : ∀ (y0 : Int32) (w : MU), Ag (fun k => k < 53) u w → FrP (fun k => k < 53) u (k y0 w)) : ∀ (m : Nat) (x0 : Int32) (w : MU), Ag (fun k => k < 53) u w → FrP (fun k => k < 53) u (zX5_out_L12 n s1 k m x0 w) := by
  intro m
  induction m with
  | zero => intros; exact FrP_none
  | succ m ih =>
    intro x0 w hw
    rw [zX5_out_L12]
    repeat' (first | with_reducible exact FrP_none | with_reducible refine FrP_ck (fun _ => ?_) | with_reducible refine ih _ _ ?_ | with_reducible refine hk _ _ ?_ | with_reducible refine gfX5_out_L36 (fun _ _ _ => ?_) _ _ _ ?_ | with_reducible refine FrP_bv (fun _ => ?_) | with_reducible refine FrP_lm ?_ (fun _ _ => ?_) | with_reducible refine FrP_lv (fun _ => ?_) | with_reducible refine FrP_some ?_ | with_reducible assumption | with_reducible exact Ag.rf | (with_reducible refine Ag.up ?_ ?_; rotate_left; (intro k hk; omega)) | (with_reducible refine Ag.cp ?_ ?_; rotate_left; (intro k hk; omega)) | with_reducible refine FrP_if ?_ ?_ | omega)
set_option maxHeartbeats 2000000 in
theorem gfX5_out_L36 {u : MU} {n : Nat} {s1 : Int32} {k : Int32 → MU → Option (Int32 × MU)} (hk : ∀ (y0 : Int32) (w : MU), Ag (fun k => k < 53) u w → FrP (fun k => k < 53) u (k y0 w)) : ∀ (m : Nat) (x0 : Int32) (w : MU), Ag (fun k => k < 53) u w → FrP (fun k => k < 53) u (zX5_out_L36 n s1 k m x0 w) := by
  intro m
  induction m with
  | zero => intros; exact FrP_none
  | succ m ih =>
    intro x0 w hw
    rw [zX5_out_L36]
    repeat' (first | with_reducible exact FrP_none | with_reducible refine FrP_ck (fun _ => ?_) | with_reducible refine ih _ _ ?_ | with_reducible refine hk _ _ ?_ | with_reducible refine gfX5_out_L12 (fun _ _ _ => ?_) _ _ _ ?_ | with_reducible refine FrP_bv (fun _ => ?_) | with_reducible refine FrP_lm ?_ (fun _ _ => ?_) | with_reducible refine FrP_lv (fun _ => ?_) | with_reducible refine FrP_some ?_ | with_reducible assumption | with_reducible exact Ag.rf | (with_reducible refine Ag.up ?_ ?_; rotate_left; (intro k hk; omega)) | (with_reducible refine Ag.cp ?_ ?_; rotate_left; (intro k hk; omega)) | with_reducible refine FrP_if ?_ ?_ | omega)
set_option maxHeartbeats 2000000 in
theorem gfX5_out {n : Nat} {u : MU} : FrP (fun k => k < 53) u (zX5_out n u ) := by
  unfold zX5_out
  repeat' (first | with_reducible exact FrP_none | with_reducible refine FrP_ck (fun _ => ?_) | with_reducible refine gfX5_out_L12 (fun _ _ _ => ?_) _ _ _ ?_ | with_reducible refine gfX5_out_L36 (fun _ _ _ => ?_) _ _ _ ?_ | with_reducible refine FrP_bv (fun _ => ?_) | with_reducible refine FrP_lm ?_ (fun _ _ => ?_) | with_reducible refine FrP_lv (fun _ => ?_) | with_reducible refine FrP_some ?_ | with_reducible assumption | with_reducible exact Ag.rf | (with_reducible refine Ag.up ?_ ?_; rotate_left; (intro k hk; omega)) | (with_reducible refine Ag.cp ?_ ?_; rotate_left; (intro k hk; omega)) | with_reducible refine FrP_if ?_ ?_ | omega)
set_option maxHeartbeats 2000000 in
theorem gfX5_load {n : Nat} {u : MU} {a1 : Int32} : FrP (fun k => k < 53) u (zX5_load n u a1) := by
  unfold zX5_load
  repeat' (first | with_reducible exact FrP_none | with_reducible refine FrP_ck (fun _ => ?_) | with_reducible refine FrP_bp (gfX5_no ) ?_ (fun _ _ => ?_) | with_reducible refine FrP_bv (fun _ => ?_) | with_reducible refine FrP_lm ?_ (fun _ _ => ?_) | with_reducible refine FrP_lv (fun _ => ?_) | with_reducible refine FrP_some ?_ | with_reducible assumption | with_reducible exact Ag.rf | (with_reducible refine Ag.up ?_ ?_; rotate_left; (intro k hk; omega)) | (with_reducible refine Ag.cp ?_ ?_; rotate_left; (intro k hk; omega)) | with_reducible refine FrP_if ?_ ?_ | omega)
set_option maxHeartbeats 2000000 in
theorem gfX5_findSlip_L14 {u : MU} {n : Nat} {k : Int32 → MU → Option (MU)} (hk : ∀ (y0 : Int32) (w : MU), Ag (fun k => k < 53) u w → FrO (fun k => k < 53) u (k y0 w)) : ∀ (m : Nat) (x0 : Int32) (w : MU), Ag (fun k => k < 53) u w → FrO (fun k => k < 53) u (zX5_findSlip_L14 n k m x0 w) := by
  intro m
  induction m with
  | zero => intros; exact FrO_none
  | succ m ih =>
    intro x0 w hw
    rw [zX5_findSlip_L14]
    repeat' (first | with_reducible exact FrO_none | with_reducible refine FrO_ck (fun _ => ?_) | with_reducible refine ih _ _ ?_ | with_reducible refine hk _ _ ?_ | with_reducible refine FrO_bv (fun _ => ?_) | with_reducible refine FrO_lm ?_ (fun _ _ => ?_) | with_reducible refine FrO_lv (fun _ => ?_) | with_reducible refine FrO_some ?_ | with_reducible assumption | with_reducible exact Ag.rf | (with_reducible refine Ag.up ?_ ?_; rotate_left; (intro k hk; omega)) | (with_reducible refine Ag.cp ?_ ?_; rotate_left; (intro k hk; omega)) | with_reducible refine FrO_if ?_ ?_ | omega)
set_option maxHeartbeats 2000000 in
theorem gfX5_findSlip {n : Nat} {u : MU} : FrO (fun k => k < 53) u (zX5_findSlip n u ) := by
  unfold zX5_findSlip
  repeat' (first | with_reducible exact FrO_none | with_reducible refine FrO_ck (fun _ => ?_) | with_reducible refine gfX5_findSlip_L14 (fun _ _ _ => ?_) _ _ _ ?_ | with_reducible refine FrO_bv (fun _ => ?_) | with_reducible refine FrO_lm ?_ (fun _ _ => ?_) | with_reducible refine FrO_lv (fun _ => ?_) | with_reducible refine FrO_some ?_ | with_reducible assumption | with_reducible exact Ag.rf | (with_reducible refine Ag.up ?_ ?_; rotate_left; (intro k hk; omega)) | (with_reducible refine Ag.cp ?_ ?_; rotate_left; (intro k hk; omega)) | with_reducible refine FrO_if ?_ ?_ | omega)
set_option maxHeartbeats 2000000 in
theorem gfX5_doesStand {n : Nat} {u : MU} : FrP (fun k => k < 53) u (zX5_doesStand n u ) := by
  unfold zX5_doesStand
  repeat' (first | with_reducible exact FrP_none | with_reducible refine FrP_ck (fun _ => ?_) | with_reducible refine FrP_bo (gfX5_findSlip ) ?_ (fun _ _ => ?_) | with_reducible refine FrP_bv (fun _ => ?_) | with_reducible refine FrP_lm ?_ (fun _ _ => ?_) | with_reducible refine FrP_lv (fun _ => ?_) | with_reducible refine FrP_some ?_ | with_reducible assumption | with_reducible exact Ag.rf | (with_reducible refine Ag.up ?_ ?_; rotate_left; (intro k hk; omega)) | (with_reducible refine Ag.cp ?_ ?_; rotate_left; (intro k hk; omega)) | with_reducible refine FrP_if ?_ ?_ | omega)
set_option maxHeartbeats 2000000 in
theorem gfX5_slips {n : Nat} {u : MU} {a1 : Int32} : FrP (fun k => k < 53) u (zX5_slips n u a1) := by
  unfold zX5_slips
  repeat' (first | with_reducible exact FrP_none | with_reducible refine FrP_ck (fun _ => ?_) | with_reducible refine FrP_bp (gfX5_no ) ?_ (fun _ _ => ?_) | with_reducible refine FrP_bo (gfX5_findSlip ) ?_ (fun _ _ => ?_) | with_reducible refine FrP_bv (fun _ => ?_) | with_reducible refine FrP_lm ?_ (fun _ _ => ?_) | with_reducible refine FrP_lv (fun _ => ?_) | with_reducible refine FrP_some ?_ | with_reducible assumption | with_reducible exact Ag.rf | (with_reducible refine Ag.up ?_ ?_; rotate_left; (intro k hk; omega)) | (with_reducible refine Ag.cp ?_ ?_; rotate_left; (intro k hk; omega)) | with_reducible refine FrP_if ?_ ?_ | omega)
set_option maxHeartbeats 2000000 in
theorem gfX5_lasts {n : Nat} {u : MU} : FrP (fun k => k < 53) u (zX5_lasts n u ) := by
  unfold zX5_lasts
  repeat' (first | with_reducible exact FrP_none | with_reducible refine FrP_ck (fun _ => ?_) | with_reducible refine FrP_bp (gfX5_doesStand ) ?_ (fun _ _ => ?_) | with_reducible refine FrP_bv (fun _ => ?_) | with_reducible refine FrP_lm ?_ (fun _ _ => ?_) | with_reducible refine FrP_lv (fun _ => ?_) | with_reducible refine FrP_some ?_ | with_reducible assumption | with_reducible exact Ag.rf | (with_reducible refine Ag.up ?_ ?_; rotate_left; (intro k hk; omega)) | (with_reducible refine Ag.cp ?_ ?_; rotate_left; (intro k hk; omega)) | with_reducible refine FrP_if ?_ ?_ | omega)
set_option maxHeartbeats 2000000 in
theorem gfX5_cross_L48 {u : MU} {n : Nat} {s1 : Int32} {k : Int32 → MU → Option (Int32 × MU)} (hk : ∀ (y0 : Int32) (w : MU), Ag (fun k => k < 53) u w → FrP (fun k => k < 53) u (k y0 w)) : ∀ (m : Nat) (x0 : Int32) (w : MU), Ag (fun k => k < 53) u w → FrP (fun k => k < 53) u (zX5_cross_L48 n s1 k m x0 w) := by
  intro m
  induction m with
  | zero => intros; exact FrP_none
  | succ m ih =>
    intro x0 w hw
    rw [zX5_cross_L48]
    repeat' (first | with_reducible exact FrP_none | with_reducible refine FrP_ck (fun _ => ?_) | with_reducible refine ih _ _ ?_ | with_reducible refine hk _ _ ?_ | with_reducible refine FrP_bp (gfX5_no ) ?_ (fun _ _ => ?_) | with_reducible refine FrP_bp (gfX5_doesStand ) ?_ (fun _ _ => ?_) | with_reducible refine FrP_bv (fun _ => ?_) | with_reducible refine FrP_lm ?_ (fun _ _ => ?_) | with_reducible refine FrP_lv (fun _ => ?_) | with_reducible refine FrP_some ?_ | with_reducible assumption | with_reducible exact Ag.rf | (with_reducible refine Ag.up ?_ ?_; rotate_left; (intro k hk; omega)) | (with_reducible refine Ag.cp ?_ ?_; rotate_left; (intro k hk; omega)) | with_reducible refine FrP_if ?_ ?_ | omega)
set_option maxHeartbeats 2000000 in
theorem gfX5_cross {n : Nat} {u : MU} {a1 : Int32} : FrP (fun k => k < 53) u (zX5_cross n u a1) := by
  unfold zX5_cross
  repeat' (first | with_reducible exact FrP_none | with_reducible refine FrP_ck (fun _ => ?_) | with_reducible refine gfX5_cross_L48 (fun _ _ _ => ?_) _ _ _ ?_ | with_reducible refine FrP_bp (gfX5_no ) ?_ (fun _ _ => ?_) | with_reducible refine FrP_bp (gfX5_doesStand ) ?_ (fun _ _ => ?_) | with_reducible refine FrP_bv (fun _ => ?_) | with_reducible refine FrP_lm ?_ (fun _ _ => ?_) | with_reducible refine FrP_lv (fun _ => ?_) | with_reducible refine FrP_some ?_ | with_reducible assumption | with_reducible exact Ag.rf | (with_reducible refine Ag.up ?_ ?_; rotate_left; (intro k hk; omega)) | (with_reducible refine Ag.cp ?_ ?_; rotate_left; (intro k hk; omega)) | with_reducible refine FrP_if ?_ ?_ | omega)
set_option maxHeartbeats 2000000 in
theorem gfX5_putsAway_L2 {u : MU} {n : Nat} {k : Int32 → MU → Option (MU)} (hk : ∀ (y0 : Int32) (w : MU), Ag (fun k => k < 53) u w → FrO (fun k => k < 53) u (k y0 w)) : ∀ (m : Nat) (x0 : Int32) (w : MU), Ag (fun k => k < 53) u w → FrO (fun k => k < 53) u (zX5_putsAway_L2 n k m x0 w) := by
  intro m
  induction m with
  | zero => intros; exact FrO_none
  | succ m ih =>
    intro x0 w hw
    rw [zX5_putsAway_L2]
    repeat' (first | with_reducible exact FrO_none | with_reducible refine FrO_ck (fun _ => ?_) | with_reducible refine ih _ _ ?_ | with_reducible refine hk _ _ ?_ | with_reducible refine FrO_bv (fun _ => ?_) | with_reducible refine FrO_lm ?_ (fun _ _ => ?_) | with_reducible refine FrO_lv (fun _ => ?_) | with_reducible refine FrO_some ?_ | with_reducible assumption | with_reducible exact Ag.rf | (with_reducible refine Ag.up ?_ ?_; rotate_left; (intro k hk; omega)) | (with_reducible refine Ag.cp ?_ ?_; rotate_left; (intro k hk; omega)) | with_reducible refine FrO_if ?_ ?_ | omega)
set_option maxHeartbeats 2000000 in
theorem gfX5_putsAway {n : Nat} {u : MU} : FrO (fun k => k < 53) u (zX5_putsAway n u ) := by
  unfold zX5_putsAway
  repeat' (first | with_reducible exact FrO_none | with_reducible refine FrO_ck (fun _ => ?_) | with_reducible refine gfX5_putsAway_L2 (fun _ _ _ => ?_) _ _ _ ?_ | with_reducible refine FrO_bv (fun _ => ?_) | with_reducible refine FrO_lm ?_ (fun _ _ => ?_) | with_reducible refine FrO_lv (fun _ => ?_) | with_reducible refine FrO_some ?_ | with_reducible assumption | with_reducible exact Ag.rf | (with_reducible refine Ag.up ?_ ?_; rotate_left; (intro k hk; omega)) | (with_reducible refine Ag.cp ?_ ?_; rotate_left; (intro k hk; omega)) | with_reducible refine FrO_if ?_ ?_ | omega)
set_option maxHeartbeats 2000000 in
theorem gfX5_putsBack_L2 {u : MU} {n : Nat} {k : Int32 → MU → Option (MU)} (hk : ∀ (y0 : Int32) (w : MU), Ag (fun k => k < 53) u w → FrO (fun k => k < 53) u (k y0 w)) : ∀ (m : Nat) (x0 : Int32) (w : MU), Ag (fun k => k < 53) u w → FrO (fun k => k < 53) u (zX5_putsBack_L2 n k m x0 w) := by
  intro m
  induction m with
  | zero => intros; exact FrO_none
  | succ m ih =>
    intro x0 w hw
    rw [zX5_putsBack_L2]
    repeat' (first | with_reducible exact FrO_none | with_reducible refine FrO_ck (fun _ => ?_) | with_reducible refine ih _ _ ?_ | with_reducible refine hk _ _ ?_ | with_reducible refine FrO_bv (fun _ => ?_) | with_reducible refine FrO_lm ?_ (fun _ _ => ?_) | with_reducible refine FrO_lv (fun _ => ?_) | with_reducible refine FrO_some ?_ | with_reducible assumption | with_reducible exact Ag.rf | (with_reducible refine Ag.up ?_ ?_; rotate_left; (intro k hk; omega)) | (with_reducible refine Ag.cp ?_ ?_; rotate_left; (intro k hk; omega)) | with_reducible refine FrO_if ?_ ?_ | omega)
set_option maxHeartbeats 2000000 in
theorem gfX5_putsBack {n : Nat} {u : MU} : FrO (fun k => k < 53) u (zX5_putsBack n u ) := by
  unfold zX5_putsBack
  repeat' (first | with_reducible exact FrO_none | with_reducible refine FrO_ck (fun _ => ?_) | with_reducible refine gfX5_putsBack_L2 (fun _ _ _ => ?_) _ _ _ ?_ | with_reducible refine FrO_bv (fun _ => ?_) | with_reducible refine FrO_lm ?_ (fun _ _ => ?_) | with_reducible refine FrO_lv (fun _ => ?_) | with_reducible refine FrO_some ?_ | with_reducible assumption | with_reducible exact Ag.rf | (with_reducible refine Ag.up ?_ ?_; rotate_left; (intro k hk; omega)) | (with_reducible refine Ag.cp ?_ ?_; rotate_left; (intro k hk; omega)) | with_reducible refine FrO_if ?_ ?_ | omega)
set_option maxHeartbeats 2000000 in
theorem gfX5_nextChain_L15 {u : MU} {n : Nat} {k : Int32 → Int32 → Option (Int32 × MU)} {w0 : MU} (h0 : Ag (fun k => k < 53) u w0) (hk : ∀ (y0 : Int32) (y1 : Int32), FrP (fun k => k < 53) u (k y0 y1)) : ∀ (m : Nat) (x0 : Int32) (x1 : Int32), FrP (fun k => k < 53) u (zX5_nextChain_L15 n w0 k m x0 x1) := by
  intro m
  induction m with
  | zero => intros; exact FrP_none
  | succ m ih =>
    intro x0 x1
    rw [zX5_nextChain_L15]
    repeat' (first | with_reducible exact FrP_none | with_reducible refine FrP_ck (fun _ => ?_) | with_reducible refine ih _ _  | with_reducible refine hk _ _  | with_reducible refine gfX5_nextChain_L66 (fun _ _ _ _ => ?_) _ _ _ _ ?_ | with_reducible refine gfX5_nextChain_L46 (fun _ _ => ?_) _ _ ?_ | with_reducible refine FrP_bv (fun _ => ?_) | with_reducible refine FrP_lm ?_ (fun _ _ => ?_) | with_reducible refine FrP_lv (fun _ => ?_) | with_reducible refine FrP_some ?_ | with_reducible assumption | with_reducible exact Ag.rf | (with_reducible refine Ag.up ?_ ?_; rotate_left; (intro k hk; omega)) | (with_reducible refine Ag.cp ?_ ?_; rotate_left; (intro k hk; omega)) | with_reducible refine FrP_if ?_ ?_ | omega)
set_option maxHeartbeats 2000000 in
theorem gfX5_nextChain_L66 {u : MU} {n : Nat} {s1 : Int32} {k : Int32 → Int32 → MU → Option (Int32 × MU)} (hk : ∀ (y0 : Int32) (y1 : Int32) (w : MU), Ag (fun k => k < 53) u w → FrP (fun k => k < 53) u (k y0 y1 w)) : ∀ (m : Nat) (x0 : Int32) (x1 : Int32) (w : MU), Ag (fun k => k < 53) u w → FrP (fun k => k < 53) u (zX5_nextChain_L66 n s1 k m x0 x1 w) := by
  intro m
  induction m with
  | zero => intros; exact FrP_none
  | succ m ih =>
    intro x0 x1 w hw
    rw [zX5_nextChain_L66]
    repeat' (first | with_reducible exact FrP_none | with_reducible refine FrP_ck (fun _ => ?_) | with_reducible refine ih _ _ _ ?_ | with_reducible refine hk _ _ _ ?_ | with_reducible refine gfX5_nextChain_L15 ?_ (fun _ _ => ?_) _ _ _  | with_reducible refine gfX5_nextChain_L46 (fun _ _ => ?_) _ _ ?_ | with_reducible refine FrP_bv (fun _ => ?_) | with_reducible refine FrP_lm ?_ (fun _ _ => ?_) | with_reducible refine FrP_lv (fun _ => ?_) | with_reducible refine FrP_some ?_ | with_reducible assumption | with_reducible exact Ag.rf | (with_reducible refine Ag.up ?_ ?_; rotate_left; (intro k hk; omega)) | (with_reducible refine Ag.cp ?_ ?_; rotate_left; (intro k hk; omega)) | with_reducible refine FrP_if ?_ ?_ | omega)
set_option maxHeartbeats 2000000 in
theorem gfX5_nextChain_L46 {u : MU} {n : Nat} {s1 : Int32} {k : MU → Option (Int32 × MU)} (hk : ∀  (w : MU), Ag (fun k => k < 53) u w → FrP (fun k => k < 53) u (k  w)) : ∀ (m : Nat)  (w : MU), Ag (fun k => k < 53) u w → FrP (fun k => k < 53) u (zX5_nextChain_L46 n s1 k m  w) := by
  intro m
  induction m with
  | zero => intros; exact FrP_none
  | succ m ih =>
    intro  w hw
    rw [zX5_nextChain_L46]
    repeat' (first | with_reducible exact FrP_none | with_reducible refine FrP_ck (fun _ => ?_) | with_reducible refine ih _ ?_ | with_reducible refine hk _ ?_ | with_reducible refine gfX5_nextChain_L15 ?_ (fun _ _ => ?_) _ _ _  | with_reducible refine gfX5_nextChain_L66 (fun _ _ _ _ => ?_) _ _ _ _ ?_ | with_reducible refine FrP_bv (fun _ => ?_) | with_reducible refine FrP_lm ?_ (fun _ _ => ?_) | with_reducible refine FrP_lv (fun _ => ?_) | with_reducible refine FrP_some ?_ | with_reducible assumption | with_reducible exact Ag.rf | (with_reducible refine Ag.up ?_ ?_; rotate_left; (intro k hk; omega)) | (with_reducible refine Ag.cp ?_ ?_; rotate_left; (intro k hk; omega)) | with_reducible refine FrP_if ?_ ?_ | omega)
set_option maxHeartbeats 2000000 in
theorem gfX5_nextChain {n : Nat} {u : MU} : FrP (fun k => k < 53) u (zX5_nextChain n u ) := by
  unfold zX5_nextChain
  repeat' (first | with_reducible exact FrP_none | with_reducible refine FrP_ck (fun _ => ?_) | with_reducible refine gfX5_nextChain_L15 ?_ (fun _ _ => ?_) _ _ _  | with_reducible refine gfX5_nextChain_L66 (fun _ _ _ _ => ?_) _ _ _ _ ?_ | with_reducible refine gfX5_nextChain_L46 (fun _ _ => ?_) _ _ ?_ | with_reducible refine FrP_bv (fun _ => ?_) | with_reducible refine FrP_lm ?_ (fun _ _ => ?_) | with_reducible refine FrP_lv (fun _ => ?_) | with_reducible refine FrP_some ?_ | with_reducible assumption | with_reducible exact Ag.rf | (with_reducible refine Ag.up ?_ ?_; rotate_left; (intro k hk; omega)) | (with_reducible refine Ag.cp ?_ ?_; rotate_left; (intro k hk; omega)) | with_reducible refine FrP_if ?_ ?_ | omega)
set_option maxHeartbeats 2000000 in
theorem gfX5_chains_L6 {u : MU} {n : Nat} {k : Int32 → MU → Option (Int32 × MU)} (hk : ∀ (y0 : Int32) (w : MU), Ag (fun k => k < 53) u w → FrP (fun k => k < 53) u (k y0 w)) : ∀ (m : Nat) (x0 : Int32) (w : MU), Ag (fun k => k < 53) u w → FrP (fun k => k < 53) u (zX5_chains_L6 n k m x0 w) := by
  intro m
  induction m with
  | zero => intros; exact FrP_none
  | succ m ih =>
    intro x0 w hw
    rw [zX5_chains_L6]
    repeat' (first | with_reducible exact FrP_none | with_reducible refine FrP_ck (fun _ => ?_) | with_reducible refine ih _ _ ?_ | with_reducible refine hk _ _ ?_ | with_reducible refine FrP_bo (gfX5_putsAway ) ?_ (fun _ _ => ?_) | with_reducible refine FrP_bp (gfX5_nextChain ) ?_ (fun _ _ => ?_) | with_reducible refine FrP_bp (gfX5_doesStand ) ?_ (fun _ _ => ?_) | with_reducible refine FrP_bo (gfX5_putsBack ) ?_ (fun _ _ => ?_) | with_reducible refine FrP_bv (fun _ => ?_) | with_reducible refine FrP_lm ?_ (fun _ _ => ?_) | with_reducible refine FrP_lv (fun _ => ?_) | with_reducible refine FrP_some ?_ | with_reducible assumption | with_reducible exact Ag.rf | (with_reducible refine Ag.up ?_ ?_; rotate_left; (intro k hk; omega)) | (with_reducible refine Ag.cp ?_ ?_; rotate_left; (intro k hk; omega)) | with_reducible refine FrP_if ?_ ?_ | omega)
set_option maxHeartbeats 2000000 in
theorem gfX5_chains {n : Nat} {u : MU} : FrP (fun k => k < 53) u (zX5_chains n u ) := by
  unfold zX5_chains
  repeat' (first | with_reducible exact FrP_none | with_reducible refine FrP_ck (fun _ => ?_) | with_reducible refine gfX5_chains_L6 (fun _ _ _ => ?_) _ _ _ ?_ | with_reducible refine FrP_bo (gfX5_putsAway ) ?_ (fun _ _ => ?_) | with_reducible refine FrP_bp (gfX5_nextChain ) ?_ (fun _ _ => ?_) | with_reducible refine FrP_bp (gfX5_doesStand ) ?_ (fun _ _ => ?_) | with_reducible refine FrP_bo (gfX5_putsBack ) ?_ (fun _ _ => ?_) | with_reducible refine FrP_bv (fun _ => ?_) | with_reducible refine FrP_lm ?_ (fun _ _ => ?_) | with_reducible refine FrP_lv (fun _ => ?_) | with_reducible refine FrP_some ?_ | with_reducible assumption | with_reducible exact Ag.rf | (with_reducible refine Ag.up ?_ ?_; rotate_left; (intro k hk; omega)) | (with_reducible refine Ag.cp ?_ ?_; rotate_left; (intro k hk; omega)) | with_reducible refine FrP_if ?_ ?_ | omega)
set_option maxHeartbeats 2000000 in
theorem gfX5_findLongest_L12 {u : MU} {n : Nat} {k : Int32 → MU → Option (MU)} (hk : ∀ (y0 : Int32) (w : MU), Ag (fun k => k < 53) u w → FrO (fun k => k < 53) u (k y0 w)) : ∀ (m : Nat) (x0 : Int32) (w : MU), Ag (fun k => k < 53) u w → FrO (fun k => k < 53) u (zX5_findLongest_L12 n k m x0 w) := by
  intro m
  induction m with
  | zero => intros; exact FrO_none
  | succ m ih =>
    intro x0 w hw
    rw [zX5_findLongest_L12]
    repeat' (first | with_reducible exact FrO_none | with_reducible refine FrO_ck (fun _ => ?_) | with_reducible refine ih _ _ ?_ | with_reducible refine hk _ _ ?_ | with_reducible refine gfX5_findLongest_L69 (fun _ _ _ => ?_) _ _ _ ?_ | with_reducible refine gfX5_findLongest_L31 (fun _ _ => ?_) _ _ ?_ | with_reducible refine FrO_bo (gfX5_putsAway ) ?_ (fun _ _ => ?_) | with_reducible refine FrO_bp (gfX5_nextChain ) ?_ (fun _ _ => ?_) | with_reducible refine FrO_bp (gfX5_doesStand ) ?_ (fun _ _ => ?_) | with_reducible refine FrO_bo (gfX5_putsBack ) ?_ (fun _ _ => ?_) | with_reducible refine FrO_bv (fun _ => ?_) | with_reducible refine FrO_lm ?_ (fun _ _ => ?_) | with_reducible refine FrO_lv (fun _ => ?_) | with_reducible refine FrO_some ?_ | with_reducible assumption | with_reducible exact Ag.rf | (with_reducible refine Ag.up ?_ ?_; rotate_left; (intro k hk; omega)) | (with_reducible refine Ag.cp ?_ ?_; rotate_left; (intro k hk; omega)) | with_reducible refine FrO_if ?_ ?_ | omega)
set_option maxHeartbeats 2000000 in
theorem gfX5_findLongest_L69 {u : MU} {n : Nat} {k : Int32 → MU → Option (MU)} (hk : ∀ (y0 : Int32) (w : MU), Ag (fun k => k < 53) u w → FrO (fun k => k < 53) u (k y0 w)) : ∀ (m : Nat) (x0 : Int32) (w : MU), Ag (fun k => k < 53) u w → FrO (fun k => k < 53) u (zX5_findLongest_L69 n k m x0 w) := by
  intro m
  induction m with
  | zero => intros; exact FrO_none
  | succ m ih =>
    intro x0 w hw
    rw [zX5_findLongest_L69]
    repeat' (first | with_reducible exact FrO_none | with_reducible refine FrO_ck (fun _ => ?_) | with_reducible refine ih _ _ ?_ | with_reducible refine hk _ _ ?_ | with_reducible refine gfX5_findLongest_L12 (fun _ _ _ => ?_) _ _ _ ?_ | with_reducible refine gfX5_findLongest_L31 (fun _ _ => ?_) _ _ ?_ | with_reducible refine FrO_bo (gfX5_putsAway ) ?_ (fun _ _ => ?_) | with_reducible refine FrO_bp (gfX5_nextChain ) ?_ (fun _ _ => ?_) | with_reducible refine FrO_bp (gfX5_doesStand ) ?_ (fun _ _ => ?_) | with_reducible refine FrO_bo (gfX5_putsBack ) ?_ (fun _ _ => ?_) | with_reducible refine FrO_bv (fun _ => ?_) | with_reducible refine FrO_lm ?_ (fun _ _ => ?_) | with_reducible refine FrO_lv (fun _ => ?_) | with_reducible refine FrO_some ?_ | with_reducible assumption | with_reducible exact Ag.rf | (with_reducible refine Ag.up ?_ ?_; rotate_left; (intro k hk; omega)) | (with_reducible refine Ag.cp ?_ ?_; rotate_left; (intro k hk; omega)) | with_reducible refine FrO_if ?_ ?_ | omega)
set_option maxHeartbeats 2000000 in
theorem gfX5_findLongest_L31 {u : MU} {n : Nat} {k : MU → Option (MU)} (hk : ∀  (w : MU), Ag (fun k => k < 53) u w → FrO (fun k => k < 53) u (k  w)) : ∀ (m : Nat)  (w : MU), Ag (fun k => k < 53) u w → FrO (fun k => k < 53) u (zX5_findLongest_L31 n k m  w) := by
  intro m
  induction m with
  | zero => intros; exact FrO_none
  | succ m ih =>
    intro  w hw
    rw [zX5_findLongest_L31]
    repeat' (first | with_reducible exact FrO_none | with_reducible refine FrO_ck (fun _ => ?_) | with_reducible refine ih _ ?_ | with_reducible refine hk _ ?_ | with_reducible refine gfX5_findLongest_L12 (fun _ _ _ => ?_) _ _ _ ?_ | with_reducible refine gfX5_findLongest_L69 (fun _ _ _ => ?_) _ _ _ ?_ | with_reducible refine FrO_bo (gfX5_putsAway ) ?_ (fun _ _ => ?_) | with_reducible refine FrO_bp (gfX5_nextChain ) ?_ (fun _ _ => ?_) | with_reducible refine FrO_bp (gfX5_doesStand ) ?_ (fun _ _ => ?_) | with_reducible refine FrO_bo (gfX5_putsBack ) ?_ (fun _ _ => ?_) | with_reducible refine FrO_bv (fun _ => ?_) | with_reducible refine FrO_lm ?_ (fun _ _ => ?_) | with_reducible refine FrO_lv (fun _ => ?_) | with_reducible refine FrO_some ?_ | with_reducible assumption | with_reducible exact Ag.rf | (with_reducible refine Ag.up ?_ ?_; rotate_left; (intro k hk; omega)) | (with_reducible refine Ag.cp ?_ ?_; rotate_left; (intro k hk; omega)) | with_reducible refine FrO_if ?_ ?_ | omega)
set_option maxHeartbeats 2000000 in
theorem gfX5_findLongest {n : Nat} {u : MU} : FrO (fun k => k < 53) u (zX5_findLongest n u ) := by
  unfold zX5_findLongest
  repeat' (first | with_reducible exact FrO_none | with_reducible refine FrO_ck (fun _ => ?_) | with_reducible refine gfX5_findLongest_L12 (fun _ _ _ => ?_) _ _ _ ?_ | with_reducible refine gfX5_findLongest_L69 (fun _ _ _ => ?_) _ _ _ ?_ | with_reducible refine gfX5_findLongest_L31 (fun _ _ => ?_) _ _ ?_ | with_reducible refine FrO_bo (gfX5_putsAway ) ?_ (fun _ _ => ?_) | with_reducible refine FrO_bp (gfX5_nextChain ) ?_ (fun _ _ => ?_) | with_reducible refine FrO_bp (gfX5_doesStand ) ?_ (fun _ _ => ?_) | with_reducible refine FrO_bo (gfX5_putsBack ) ?_ (fun _ _ => ?_) | with_reducible refine FrO_bv (fun _ => ?_) | with_reducible refine FrO_lm ?_ (fun _ _ => ?_) | with_reducible refine FrO_lv (fun _ => ?_) | with_reducible refine FrO_some ?_ | with_reducible assumption | with_reducible exact Ag.rf | (with_reducible refine Ag.up ?_ ?_; rotate_left; (intro k hk; omega)) | (with_reducible refine Ag.cp ?_ ?_; rotate_left; (intro k hk; omega)) | with_reducible refine FrO_if ?_ ?_ | omega)
set_option maxHeartbeats 2000000 in
theorem gfX5_longest {n : Nat} {u : MU} {a1 : Int32} : FrP (fun k => k < 53) u (zX5_longest n u a1) := by
  unfold zX5_longest
  repeat' (first | with_reducible exact FrP_none | with_reducible refine FrP_ck (fun _ => ?_) | with_reducible refine FrP_bp (gfX5_no ) ?_ (fun _ _ => ?_) | with_reducible refine FrP_bo (gfX5_findLongest ) ?_ (fun _ _ => ?_) | with_reducible refine FrP_bv (fun _ => ?_) | with_reducible refine FrP_lm ?_ (fun _ _ => ?_) | with_reducible refine FrP_lv (fun _ => ?_) | with_reducible refine FrP_some ?_ | with_reducible assumption | with_reducible exact Ag.rf | (with_reducible refine Ag.up ?_ ?_; rotate_left; (intro k hk; omega)) | (with_reducible refine Ag.cp ?_ ?_; rotate_left; (intro k hk; omega)) | with_reducible refine FrP_if ?_ ?_ | omega)
set_option maxHeartbeats 2000000 in
theorem gfX5_makeUp_L7 {u : MU} {n : Nat} {k : Int32 → MU → Option (Int32 × MU)} (hk : ∀ (y0 : Int32) (w : MU), Ag (fun k => k < 53) u w → FrP (fun k => k < 53) u (k y0 w)) : ∀ (m : Nat) (x0 : Int32) (w : MU), Ag (fun k => k < 53) u w → FrP (fun k => k < 53) u (zX5_makeUp_L7 n k m x0 w) := by
  intro m
  induction m with
  | zero => intros; exact FrP_none
  | succ m ih =>
    intro x0 w hw
    rw [zX5_makeUp_L7]
    repeat' (first | with_reducible exact FrP_none | with_reducible refine FrP_ck (fun _ => ?_) | with_reducible refine ih _ _ ?_ | with_reducible refine hk _ _ ?_ | with_reducible refine FrP_bo (gfX5_putsAway ) ?_ (fun _ _ => ?_) | with_reducible refine FrP_bp (gfX5_nextChain ) ?_ (fun _ _ => ?_) | with_reducible refine FrP_bo (gfX5_putsBack ) ?_ (fun _ _ => ?_) | with_reducible refine FrP_bv (fun _ => ?_) | with_reducible refine FrP_lm ?_ (fun _ _ => ?_) | with_reducible refine FrP_lv (fun _ => ?_) | with_reducible refine FrP_some ?_ | with_reducible assumption | with_reducible exact Ag.rf | (with_reducible refine Ag.up ?_ ?_; rotate_left; (intro k hk; omega)) | (with_reducible refine Ag.cp ?_ ?_; rotate_left; (intro k hk; omega)) | with_reducible refine FrP_if ?_ ?_ | omega)
set_option maxHeartbeats 2000000 in
theorem gfX5_makeUp {n : Nat} {u : MU} : FrP (fun k => k < 53) u (zX5_makeUp n u ) := by
  unfold zX5_makeUp
  repeat' (first | with_reducible exact FrP_none | with_reducible refine FrP_ck (fun _ => ?_) | with_reducible refine gfX5_makeUp_L7 (fun _ _ _ => ?_) _ _ _ ?_ | with_reducible refine FrP_bo (gfX5_putsAway ) ?_ (fun _ _ => ?_) | with_reducible refine FrP_bp (gfX5_nextChain ) ?_ (fun _ _ => ?_) | with_reducible refine FrP_bo (gfX5_putsBack ) ?_ (fun _ _ => ?_) | with_reducible refine FrP_bv (fun _ => ?_) | with_reducible refine FrP_lm ?_ (fun _ _ => ?_) | with_reducible refine FrP_lv (fun _ => ?_) | with_reducible refine FrP_some ?_ | with_reducible assumption | with_reducible exact Ag.rf | (with_reducible refine Ag.up ?_ ?_; rotate_left; (intro k hk; omega)) | (with_reducible refine Ag.cp ?_ ?_; rotate_left; (intro k hk; omega)) | with_reducible refine FrP_if ?_ ?_ | omega)
set_option maxHeartbeats 2000000 in
theorem gfX5_longestOrNothing {n : Nat} {u : MU} : FrP (fun k => k < 53) u (zX5_longestOrNothing n u ) := by
  unfold zX5_longestOrNothing
  repeat' (first | with_reducible exact FrP_none | with_reducible refine FrP_ck (fun _ => ?_) | with_reducible refine FrP_bo (gfX5_findLongest ) ?_ (fun _ _ => ?_) | with_reducible refine FrP_bv (fun _ => ?_) | with_reducible refine FrP_lm ?_ (fun _ _ => ?_) | with_reducible refine FrP_lv (fun _ => ?_) | with_reducible refine FrP_some ?_ | with_reducible assumption | with_reducible exact Ag.rf | (with_reducible refine Ag.up ?_ ?_; rotate_left; (intro k hk; omega)) | (with_reducible refine Ag.cp ?_ ?_; rotate_left; (intro k hk; omega)) | with_reducible refine FrP_if ?_ ?_ | omega)
set_option maxHeartbeats 2000000 in
theorem gfX5_worth {n : Nat} {u : MU} {a1 : Int32} {a2 : Int32} : FrP (fun k => k < 53) u (zX5_worth n u a1 a2) := by
  unfold zX5_worth
  repeat' (first | with_reducible exact FrP_none | with_reducible refine FrP_ck (fun _ => ?_) | with_reducible refine FrP_bp (gfX5_no ) ?_ (fun _ _ => ?_) | with_reducible refine FrP_bp (gfX5_longestOrNothing ) ?_ (fun _ _ => ?_) | with_reducible refine FrP_bv (fun _ => ?_) | with_reducible refine FrP_lm ?_ (fun _ _ => ?_) | with_reducible refine FrP_lv (fun _ => ?_) | with_reducible refine FrP_some ?_ | with_reducible assumption | with_reducible exact Ag.rf | (with_reducible refine Ag.up ?_ ?_; rotate_left; (intro k hk; omega)) | (with_reducible refine Ag.cp ?_ ?_; rotate_left; (intro k hk; omega)) | with_reducible refine FrP_if ?_ ?_ | omega)
set_option maxHeartbeats 2000000 in
theorem gfX5_change_L40 {u : MU} {n : Nat} {s3 : Int32} {s4 : Int32} {k : Int32 → Int32 → Int32 → MU → Option (Int32 × MU)} (hk : ∀ (y0 : Int32) (y1 : Int32) (y2 : Int32) (w : MU), Ag (fun k => k < 53) u w → FrP (fun k => k < 53) u (k y0 y1 y2 w)) : ∀ (m : Nat) (x0 : Int32) (x1 : Int32) (x2 : Int32) (w : MU), Ag (fun k => k < 53) u w → FrP (fun k => k < 53) u (zX5_change_L40 n s3 s4 k m x0 x1 x2 w) := by
  intro m
  induction m with
  | zero => intros; exact FrP_none
  | succ m ih =>
    intro x0 x1 x2 w hw
    rw [zX5_change_L40]
    repeat' (first | with_reducible exact FrP_none | with_reducible refine FrP_ck (fun _ => ?_) | with_reducible refine ih _ _ _ _ ?_ | with_reducible refine hk _ _ _ _ ?_ | with_reducible refine gfX5_change_L21 (fun _ _ _ _ _ => ?_) _ _ _ _ _ ?_ | with_reducible refine FrP_bp (gfX5_doesStand ) ?_ (fun _ _ => ?_) | with_reducible refine FrP_bv (fun _ => ?_) | with_reducible refine FrP_lm ?_ (fun _ _ => ?_) | with_reducible refine FrP_lv (fun _ => ?_) | with_reducible refine FrP_some ?_ | with_reducible assumption | with_reducible exact Ag.rf | (with_reducible refine Ag.up ?_ ?_; rotate_left; (intro k hk; omega)) | (with_reducible refine Ag.cp ?_ ?_; rotate_left; (intro k hk; omega)) | with_reducible refine FrP_if ?_ ?_ | omega)
set_option maxHeartbeats 2000000 in
theorem gfX5_change_L21 {u : MU} {n : Nat} {k : Int32 → Int32 → Int32 → MU → Option (Int32 × MU)} (hk : ∀ (y0 : Int32) (y1 : Int32) (y2 : Int32) (w : MU), Ag (fun k => k < 53) u w → FrP (fun k => k < 53) u (k y0 y1 y2 w)) : ∀ (m : Nat) (x0 : Int32) (x1 : Int32) (x2 : Int32) (w : MU), Ag (fun k => k < 53) u w → FrP (fun k => k < 53) u (zX5_change_L21 n k m x0 x1 x2 w) := by
  intro m
  induction m with
  | zero => intros; exact FrP_none
  | succ m ih =>
    intro x0 x1 x2 w hw
    rw [zX5_change_L21]
    repeat' (first | with_reducible exact FrP_none | with_reducible refine FrP_ck (fun _ => ?_) | with_reducible refine ih _ _ _ _ ?_ | with_reducible refine hk _ _ _ _ ?_ | with_reducible refine gfX5_change_L40 (fun _ _ _ _ _ => ?_) _ _ _ _ _ ?_ | with_reducible refine FrP_bp (gfX5_doesStand ) ?_ (fun _ _ => ?_) | with_reducible refine FrP_bv (fun _ => ?_) | with_reducible refine FrP_lm ?_ (fun _ _ => ?_) | with_reducible refine FrP_lv (fun _ => ?_) | with_reducible refine FrP_some ?_ | with_reducible assumption | with_reducible exact Ag.rf | (with_reducible refine Ag.up ?_ ?_; rotate_left; (intro k hk; omega)) | (with_reducible refine Ag.cp ?_ ?_; rotate_left; (intro k hk; omega)) | with_reducible refine FrP_if ?_ ?_ | omega)
set_option maxHeartbeats 2000000 in
theorem gfX5_change {n : Nat} {u : MU} : FrP (fun k => k < 53) u (zX5_change n u ) := by
  unfold zX5_change
  repeat' (first | with_reducible exact FrP_none | with_reducible refine FrP_ck (fun _ => ?_) | with_reducible refine gfX5_change_L40 (fun _ _ _ _ _ => ?_) _ _ _ _ _ ?_ | with_reducible refine gfX5_change_L21 (fun _ _ _ _ _ => ?_) _ _ _ _ _ ?_ | with_reducible refine FrP_bp (gfX5_doesStand ) ?_ (fun _ _ => ?_) | with_reducible refine FrP_bv (fun _ => ?_) | with_reducible refine FrP_lm ?_ (fun _ _ => ?_) | with_reducible refine FrP_lv (fun _ => ?_) | with_reducible refine FrP_some ?_ | with_reducible assumption | with_reducible exact Ag.rf | (with_reducible refine Ag.up ?_ ?_; rotate_left; (intro k hk; omega)) | (with_reducible refine Ag.cp ?_ ?_; rotate_left; (intro k hk; omega)) | with_reducible refine FrP_if ?_ ?_ | omega)
set_option maxHeartbeats 2000000 in
theorem gfX5_flood_L26 {u : MU} {n : Nat} {s1 : Int32} {k : Int32 → Int32 → Option (Int32 × MU)} {w0 : MU} (h0 : Ag (fun k => k < 53) u w0) (hk : ∀ (y0 : Int32) (y1 : Int32), FrP (fun k => k < 53) u (k y0 y1)) : ∀ (m : Nat) (x0 : Int32) (x1 : Int32), FrP (fun k => k < 53) u (zX5_flood_L26 n w0 s1 k m x0 x1) := by
  intro m
  induction m with
  | zero => intros; exact FrP_none
  | succ m ih =>
    intro x0 x1
    rw [zX5_flood_L26]
    repeat' (first | with_reducible exact FrP_none | with_reducible refine FrP_ck (fun _ => ?_) | with_reducible refine ih _ _  | with_reducible refine hk _ _  | with_reducible refine gfX5_flood_L14 ?_ (fun _ _ => ?_) _ _ _  | with_reducible refine FrP_bp (gfX5_doesStand ) ?_ (fun _ _ => ?_) | with_reducible refine FrP_bv (fun _ => ?_) | with_reducible refine FrP_lm ?_ (fun _ _ => ?_) | with_reducible refine FrP_lv (fun _ => ?_) | with_reducible refine FrP_some ?_ | with_reducible assumption | with_reducible exact Ag.rf | (with_reducible refine Ag.up ?_ ?_; rotate_left; (intro k hk; omega)) | (with_reducible refine Ag.cp ?_ ?_; rotate_left; (intro k hk; omega)) | with_reducible refine FrP_if ?_ ?_ | omega)
set_option maxHeartbeats 2000000 in
theorem gfX5_flood_L14 {u : MU} {n : Nat} {k : Int32 → Int32 → Option (Int32 × MU)} {w0 : MU} (h0 : Ag (fun k => k < 53) u w0) (hk : ∀ (y0 : Int32) (y1 : Int32), FrP (fun k => k < 53) u (k y0 y1)) : ∀ (m : Nat) (x0 : Int32) (x1 : Int32), FrP (fun k => k < 53) u (zX5_flood_L14 n w0 k m x0 x1) := by
  intro m
  induction m with
  | zero => intros; exact FrP_none
  | succ m ih =>
    intro x0 x1
    rw [zX5_flood_L14]
    repeat' (first | with_reducible exact FrP_none | with_reducible refine FrP_ck (fun _ => ?_) | with_reducible refine ih _ _  | with_reducible refine hk _ _  | with_reducible refine gfX5_flood_L26 ?_ (fun _ _ => ?_) _ _ _  | with_reducible refine FrP_bp (gfX5_doesStand ) ?_ (fun _ _ => ?_) | with_reducible refine FrP_bv (fun _ => ?_) | with_reducible refine FrP_lm ?_ (fun _ _ => ?_) | with_reducible refine FrP_lv (fun _ => ?_) | with_reducible refine FrP_some ?_ | with_reducible assumption | with_reducible exact Ag.rf | (with_reducible refine Ag.up ?_ ?_; rotate_left; (intro k hk; omega)) | (with_reducible refine Ag.cp ?_ ?_; rotate_left; (intro k hk; omega)) | with_reducible refine FrP_if ?_ ?_ | omega)
set_option maxHeartbeats 2000000 in
theorem gfX5_flood {n : Nat} {u : MU} : FrP (fun k => k < 53) u (zX5_flood n u ) := by
  unfold zX5_flood
  repeat' (first | with_reducible exact FrP_none | with_reducible refine FrP_ck (fun _ => ?_) | with_reducible refine gfX5_flood_L26 ?_ (fun _ _ => ?_) _ _ _  | with_reducible refine gfX5_flood_L14 ?_ (fun _ _ => ?_) _ _ _  | with_reducible refine FrP_bp (gfX5_doesStand ) ?_ (fun _ _ => ?_) | with_reducible refine FrP_bv (fun _ => ?_) | with_reducible refine FrP_lm ?_ (fun _ _ => ?_) | with_reducible refine FrP_lv (fun _ => ?_) | with_reducible refine FrP_some ?_ | with_reducible assumption | with_reducible exact Ag.rf | (with_reducible refine Ag.up ?_ ?_; rotate_left; (intro k hk; omega)) | (with_reducible refine Ag.cp ?_ ?_; rotate_left; (intro k hk; omega)) | with_reducible refine FrP_if ?_ ?_ | omega)
set_option maxHeartbeats 2000000 in
theorem gfX5_overs {n : Nat} {u : MU} : FrP (fun k => k < 53) u (zX5_overs n u ) := by
  unfold zX5_overs
  repeat' (first | with_reducible exact FrP_none | with_reducible refine FrP_ck (fun _ => ?_) | with_reducible refine FrP_bp (gfX5_doesStand ) ?_ (fun _ _ => ?_) | with_reducible refine FrP_bv (fun _ => ?_) | with_reducible refine FrP_lm ?_ (fun _ _ => ?_) | with_reducible refine FrP_lv (fun _ => ?_) | with_reducible refine FrP_some ?_ | with_reducible assumption | with_reducible exact Ag.rf | (with_reducible refine Ag.up ?_ ?_; rotate_left; (intro k hk; omega)) | (with_reducible refine Ag.cp ?_ ?_; rotate_left; (intro k hk; omega)) | with_reducible refine FrP_if ?_ ?_ | omega)
set_option maxHeartbeats 2000000 in
theorem gfX5_owes {n : Nat} {u : MU} {a1 : Int32} {a2 : Int32} : FrP (fun k => k < 53) u (zX5_owes n u a1 a2) := by
  unfold zX5_owes
  repeat' (first | with_reducible exact FrP_none | with_reducible refine FrP_ck (fun _ => ?_) | with_reducible refine FrP_bp (gfX5_no ) ?_ (fun _ _ => ?_) | with_reducible refine FrP_bv (fun _ => ?_) | with_reducible refine FrP_lm ?_ (fun _ _ => ?_) | with_reducible refine FrP_lv (fun _ => ?_) | with_reducible refine FrP_some ?_ | with_reducible assumption | with_reducible exact Ag.rf | (with_reducible refine Ag.up ?_ ?_; rotate_left; (intro k hk; omega)) | (with_reducible refine Ag.cp ?_ ?_; rotate_left; (intro k hk; omega)) | with_reducible refine FrP_if ?_ ?_ | omega)
set_option maxHeartbeats 2000000 in
theorem gfX5_owed_L18 {u : MU} {n : Nat} {s1 : Int32} {k : Int32 → Int32 → Option (Int32 × MU)} {w0 : MU} (h0 : Ag (fun k => k < 53) u w0) (hk : ∀ (y0 : Int32) (y1 : Int32), FrP (fun k => k < 53) u (k y0 y1)) : ∀ (m : Nat) (x0 : Int32) (x1 : Int32), FrP (fun k => k < 53) u (zX5_owed_L18 n w0 s1 k m x0 x1) := by
  intro m
  induction m with
  | zero => intros; exact FrP_none
  | succ m ih =>
    intro x0 x1
    rw [zX5_owed_L18]
    repeat' (first | with_reducible exact FrP_none | with_reducible refine FrP_ck (fun _ => ?_) | with_reducible refine ih _ _  | with_reducible refine hk _ _  | with_reducible refine FrP_bp (gfX5_lower ) ?_ (fun _ _ => ?_) | with_reducible refine FrP_bv (fun _ => ?_) | with_reducible refine FrP_lm ?_ (fun _ _ => ?_) | with_reducible refine FrP_lv (fun _ => ?_) | with_reducible refine FrP_some ?_ | with_reducible assumption | with_reducible exact Ag.rf | (with_reducible refine Ag.up ?_ ?_; rotate_left; (intro k hk; omega)) | (with_reducible refine Ag.cp ?_ ?_; rotate_left; (intro k hk; omega)) | with_reducible refine FrP_if ?_ ?_ | omega)
set_option maxHeartbeats 2000000 in
theorem gfX5_owed {n : Nat} {u : MU} {a1 : Int32} : FrP (fun k => k < 53) u (zX5_owed n u a1) := by
  unfold zX5_owed
  repeat' (first | with_reducible exact FrP_none | with_reducible refine FrP_ck (fun _ => ?_) | with_reducible refine gfX5_owed_L18 ?_ (fun _ _ => ?_) _ _ _  | with_reducible refine FrP_bp (gfX5_lower ) ?_ (fun _ _ => ?_) | with_reducible refine FrP_bv (fun _ => ?_) | with_reducible refine FrP_lm ?_ (fun _ _ => ?_) | with_reducible refine FrP_lv (fun _ => ?_) | with_reducible refine FrP_some ?_ | with_reducible assumption | with_reducible exact Ag.rf | (with_reducible refine Ag.up ?_ ?_; rotate_left; (intro k hk; omega)) | (with_reducible refine Ag.cp ?_ ?_; rotate_left; (intro k hk; omega)) | with_reducible refine FrP_if ?_ ?_ | omega)
set_option maxHeartbeats 2000000 in
theorem gfX5_strikesTwo_L14 {u : MU} {n : Nat} {s1 : Int32} {k : Int32 → MU → Option (Int32 × MU)} (hk : ∀ (y0 : Int32) (w : MU), Ag (fun k => k < 53) u w → FrP (fun k => k < 53) u (k y0 w)) : ∀ (m : Nat) (x0 : Int32) (w : MU), Ag (fun k => k < 53) u w → FrP (fun k => k < 53) u (zX5_strikesTwo_L14 n s1 k m x0 w) := by
  intro m
  induction m with
  | zero => intros; exact FrP_none
  | succ m ih =>
    intro x0 w hw
    rw [zX5_strikesTwo_L14]
    repeat' (first | with_reducible exact FrP_none | with_reducible refine FrP_ck (fun _ => ?_) | with_reducible refine ih _ _ ?_ | with_reducible refine hk _ _ ?_ | with_reducible refine gfX5_strikesTwo_L2 (fun _ _ _ => ?_) _ _ _ ?_ | with_reducible refine FrP_bv (fun _ => ?_) | with_reducible refine FrP_lm ?_ (fun _ _ => ?_) | with_reducible refine FrP_lv (fun _ => ?_) | with_reducible refine FrP_some ?_ | with_reducible assumption | with_reducible exact Ag.rf | (with_reducible refine Ag.up ?_ ?_; rotate_left; (intro k hk; omega)) | (with_reducible refine Ag.cp ?_ ?_; rotate_left; (intro k hk; omega)) | with_reducible refine FrP_if ?_ ?_ | omega)
set_option maxHeartbeats 2000000 in
theorem gfX5_strikesTwo_L2 {u : MU} {n : Nat} {k : Int32 → MU → Option (Int32 × MU)} (hk : ∀ (y0 : Int32) (w : MU), Ag (fun k => k < 53) u w → FrP (fun k => k < 53) u (k y0 w)) : ∀ (m : Nat) (x0 : Int32) (w : MU), Ag (fun k => k < 53) u w → FrP (fun k => k < 53) u (zX5_strikesTwo_L2 n k m x0 w) := by
  intro m
  induction m with
  | zero => intros; exact FrP_none
  | succ m ih =>
    intro x0 w hw
    rw [zX5_strikesTwo_L2]
    repeat' (first | with_reducible exact FrP_none | with_reducible refine FrP_ck (fun _ => ?_) | with_reducible refine ih _ _ ?_ | with_reducible refine hk _ _ ?_ | with_reducible refine gfX5_strikesTwo_L14 (fun _ _ _ => ?_) _ _ _ ?_ | with_reducible refine FrP_bv (fun _ => ?_) | with_reducible refine FrP_lm ?_ (fun _ _ => ?_) | with_reducible refine FrP_lv (fun _ => ?_) | with_reducible refine FrP_some ?_ | with_reducible assumption | with_reducible exact Ag.rf | (with_reducible refine Ag.up ?_ ?_; rotate_left; (intro k hk; omega)) | (with_reducible refine Ag.cp ?_ ?_; rotate_left; (intro k hk; omega)) | with_reducible refine FrP_if ?_ ?_ | omega)
set_option maxHeartbeats 2000000 in
theorem gfX5_strikesTwo {n : Nat} {u : MU} : FrP (fun k => k < 53) u (zX5_strikesTwo n u ) := by
  unfold zX5_strikesTwo
  repeat' (first | with_reducible exact FrP_none | with_reducible refine FrP_ck (fun _ => ?_) | with_reducible refine gfX5_strikesTwo_L14 (fun _ _ _ => ?_) _ _ _ ?_ | with_reducible refine gfX5_strikesTwo_L2 (fun _ _ _ => ?_) _ _ _ ?_ | with_reducible refine FrP_bv (fun _ => ?_) | with_reducible refine FrP_lm ?_ (fun _ _ => ?_) | with_reducible refine FrP_lv (fun _ => ?_) | with_reducible refine FrP_some ?_ | with_reducible assumption | with_reducible exact Ag.rf | (with_reducible refine Ag.up ?_ ?_; rotate_left; (intro k hk; omega)) | (with_reducible refine Ag.cp ?_ ?_; rotate_left; (intro k hk; omega)) | with_reducible refine FrP_if ?_ ?_ | omega)
set_option maxHeartbeats 2000000 in
theorem gfX5_strikesThree_L2 {u : MU} {n : Nat} {k : Int32 → MU → Option (Int32 × MU)} (hk : ∀ (y0 : Int32) (w : MU), Ag (fun k => k < 53) u w → FrP (fun k => k < 53) u (k y0 w)) : ∀ (m : Nat) (x0 : Int32) (w : MU), Ag (fun k => k < 53) u w → FrP (fun k => k < 53) u (zX5_strikesThree_L2 n k m x0 w) := by
  intro m
  induction m with
  | zero => intros; exact FrP_none
  | succ m ih =>
    intro x0 w hw
    rw [zX5_strikesThree_L2]
    repeat' (first | with_reducible exact FrP_none | with_reducible refine FrP_ck (fun _ => ?_) | with_reducible refine ih _ _ ?_ | with_reducible refine hk _ _ ?_ | with_reducible refine FrP_bv (fun _ => ?_) | with_reducible refine FrP_lm ?_ (fun _ _ => ?_) | with_reducible refine FrP_lv (fun _ => ?_) | with_reducible refine FrP_some ?_ | with_reducible assumption | with_reducible exact Ag.rf | (with_reducible refine Ag.up ?_ ?_; rotate_left; (intro k hk; omega)) | (with_reducible refine Ag.cp ?_ ?_; rotate_left; (intro k hk; omega)) | with_reducible refine FrP_if ?_ ?_ | omega)
set_option maxHeartbeats 2000000 in
theorem gfX5_strikesThree {n : Nat} {u : MU} : FrP (fun k => k < 53) u (zX5_strikesThree n u ) := by
  unfold zX5_strikesThree
  repeat' (first | with_reducible exact FrP_none | with_reducible refine FrP_ck (fun _ => ?_) | with_reducible refine gfX5_strikesThree_L2 (fun _ _ _ => ?_) _ _ _ ?_ | with_reducible refine FrP_bv (fun _ => ?_) | with_reducible refine FrP_lm ?_ (fun _ _ => ?_) | with_reducible refine FrP_lv (fun _ => ?_) | with_reducible refine FrP_some ?_ | with_reducible assumption | with_reducible exact Ag.rf | (with_reducible refine Ag.up ?_ ?_; rotate_left; (intro k hk; omega)) | (with_reducible refine Ag.cp ?_ ?_; rotate_left; (intro k hk; omega)) | with_reducible refine FrP_if ?_ ?_ | omega)
set_option maxHeartbeats 2000000 in
theorem gfX5_strike_L2 {u : MU} {n : Nat} {k : Int32 → MU → Option (Int32 × MU)} (hk : ∀ (y0 : Int32) (w : MU), Ag (fun k => k < 53) u w → FrP (fun k => k < 53) u (k y0 w)) : ∀ (m : Nat) (x0 : Int32) (w : MU), Ag (fun k => k < 53) u w → FrP (fun k => k < 53) u (zX5_strike_L2 n k m x0 w) := by
  intro m
  induction m with
  | zero => intros; exact FrP_none
  | succ m ih =>
    intro x0 w hw
    rw [zX5_strike_L2]
    repeat' (first | with_reducible exact FrP_none | with_reducible refine FrP_ck (fun _ => ?_) | with_reducible refine ih _ _ ?_ | with_reducible refine hk _ _ ?_ | with_reducible refine FrP_bp (gfX5_strikesTwo ) ?_ (fun _ _ => ?_) | with_reducible refine FrP_bp (gfX5_strikesThree ) ?_ (fun _ _ => ?_) | with_reducible refine FrP_bv (fun _ => ?_) | with_reducible refine FrP_lm ?_ (fun _ _ => ?_) | with_reducible refine FrP_lv (fun _ => ?_) | with_reducible refine FrP_some ?_ | with_reducible assumption | with_reducible exact Ag.rf | (with_reducible refine Ag.up ?_ ?_; rotate_left; (intro k hk; omega)) | (with_reducible refine Ag.cp ?_ ?_; rotate_left; (intro k hk; omega)) | with_reducible refine FrP_if ?_ ?_ | omega)
set_option maxHeartbeats 2000000 in
theorem gfX5_strike {n : Nat} {u : MU} : FrP (fun k => k < 53) u (zX5_strike n u ) := by
  unfold zX5_strike
  repeat' (first | with_reducible exact FrP_none | with_reducible refine FrP_ck (fun _ => ?_) | with_reducible refine gfX5_strike_L2 (fun _ _ _ => ?_) _ _ _ ?_ | with_reducible refine FrP_bp (gfX5_strikesTwo ) ?_ (fun _ _ => ?_) | with_reducible refine FrP_bp (gfX5_strikesThree ) ?_ (fun _ _ => ?_) | with_reducible refine FrP_bv (fun _ => ?_) | with_reducible refine FrP_lm ?_ (fun _ _ => ?_) | with_reducible refine FrP_lv (fun _ => ?_) | with_reducible refine FrP_some ?_ | with_reducible assumption | with_reducible exact Ag.rf | (with_reducible refine Ag.up ?_ ?_; rotate_left; (intro k hk; omega)) | (with_reducible refine Ag.cp ?_ ?_; rotate_left; (intro k hk; omega)) | with_reducible refine FrP_if ?_ ?_ | omega)
set_option maxHeartbeats 2000000 in
theorem gfX5_wet_L57 {u : MU} {n : Nat} {s1 : Int32} {s2 : Int32} {s3 : Int32} {s4 : Int32} {k : Int32 → Int32 → Option (Int32 × MU)} {w0 : MU} (h0 : Ag (fun k => k < 53) u w0) (hk : ∀ (y0 : Int32) (y1 : Int32), FrP (fun k => k < 53) u (k y0 y1)) : ∀ (m : Nat) (x0 : Int32) (x1 : Int32), FrP (fun k => k < 53) u (zX5_wet_L57 n w0 s1 s2 s3 s4 k m x0 x1) := by
  intro m
  induction m with
  | zero => intros; exact FrP_none
  | succ m ih =>
    intro x0 x1
    rw [zX5_wet_L57]
    repeat' (first | with_reducible exact FrP_none | with_reducible refine FrP_ck (fun _ => ?_) | with_reducible refine ih _ _  | with_reducible refine hk _ _  | with_reducible refine gfX5_wet_L108 ?_ (fun _ _ => ?_) _ _ _  | with_reducible refine gfX5_wet_L44 (fun _ _ _ _ => ?_) _ _ _ _ ?_ | with_reducible refine FrP_bp (gfX5_no ) ?_ (fun _ _ => ?_) | with_reducible refine FrP_bo (gfX5_putsAway ) ?_ (fun _ _ => ?_) | with_reducible refine FrP_bp (gfX5_nextChain ) ?_ (fun _ _ => ?_) | with_reducible refine FrP_bp (gfX5_doesStand ) ?_ (fun _ _ => ?_) | with_reducible refine FrP_bo (gfX5_putsBack ) ?_ (fun _ _ => ?_) | with_reducible refine FrP_bv (fun _ => ?_) | with_reducible refine FrP_lm ?_ (fun _ _ => ?_) | with_reducible refine FrP_lv (fun _ => ?_) | with_reducible refine FrP_some ?_ | with_reducible assumption | with_reducible exact Ag.rf | (with_reducible refine Ag.up ?_ ?_; rotate_left; (intro k hk; omega)) | (with_reducible refine Ag.cp ?_ ?_; rotate_left; (intro k hk; omega)) | with_reducible refine FrP_if ?_ ?_ | omega)
set_option maxHeartbeats 2000000 in
theorem gfX5_wet_L108 {u : MU} {n : Nat} {s1 : Int32} {s2 : Int32} {s3 : Int32} {k : Int32 → Int32 → Option (Int32 × MU)} {w0 : MU} (h0 : Ag (fun k => k < 53) u w0) (hk : ∀ (y0 : Int32) (y1 : Int32), FrP (fun k => k < 53) u (k y0 y1)) : ∀ (m : Nat) (x0 : Int32) (x1 : Int32), FrP (fun k => k < 53) u (zX5_wet_L108 n w0 s1 s2 s3 k m x0 x1) := by
  intro m
  induction m with
  | zero => intros; exact FrP_none
  | succ m ih =>
    intro x0 x1
    rw [zX5_wet_L108]
    repeat' (first | with_reducible exact FrP_none | with_reducible refine FrP_ck (fun _ => ?_) | with_reducible refine ih _ _  | with_reducible refine hk _ _  | with_reducible refine gfX5_wet_L57 ?_ (fun _ _ => ?_) _ _ _  | with_reducible refine gfX5_wet_L44 (fun _ _ _ _ => ?_) _ _ _ _ ?_ | with_reducible refine FrP_bp (gfX5_no ) ?_ (fun _ _ => ?_) | with_reducible refine FrP_bo (gfX5_putsAway ) ?_ (fun _ _ => ?_) | with_reducible refine FrP_bp (gfX5_nextChain ) ?_ (fun _ _ => ?_) | with_reducible refine FrP_bp (gfX5_doesStand ) ?_ (fun _ _ => ?_) | with_reducible refine FrP_bo (gfX5_putsBack ) ?_ (fun _ _ => ?_) | with_reducible refine FrP_bv (fun _ => ?_) | with_reducible refine FrP_lm ?_ (fun _ _ => ?_) | with_reducible refine FrP_lv (fun _ => ?_) | with_reducible refine FrP_some ?_ | with_reducible assumption | with_reducible exact Ag.rf | (with_reducible refine Ag.up ?_ ?_; rotate_left; (intro k hk; omega)) | (with_reducible refine Ag.cp ?_ ?_; rotate_left; (intro k hk; omega)) | with_reducible refine FrP_if ?_ ?_ | omega)
set_option maxHeartbeats 2000000 in
theorem gfX5_wet_L44 {u : MU} {n : Nat} {s1 : Int32} {s2 : Int32} {k : Int32 → Int32 → MU → Option (Int32 × MU)} (hk : ∀ (y0 : Int32) (y1 : Int32) (w : MU), Ag (fun k => k < 53) u w → FrP (fun k => k < 53) u (k y0 y1 w)) : ∀ (m : Nat) (x0 : Int32) (x1 : Int32) (w : MU), Ag (fun k => k < 53) u w → FrP (fun k => k < 53) u (zX5_wet_L44 n s1 s2 k m x0 x1 w) := by
  intro m
  induction m with
  | zero => intros; exact FrP_none
  | succ m ih =>
    intro x0 x1 w hw
    rw [zX5_wet_L44]
    repeat' (first | with_reducible exact FrP_none | with_reducible refine FrP_ck (fun _ => ?_) | with_reducible refine ih _ _ _ ?_ | with_reducible refine hk _ _ _ ?_ | with_reducible refine gfX5_wet_L57 ?_ (fun _ _ => ?_) _ _ _  | with_reducible refine gfX5_wet_L108 ?_ (fun _ _ => ?_) _ _ _  | with_reducible refine FrP_bp (gfX5_no ) ?_ (fun _ _ => ?_) | with_reducible refine FrP_bo (gfX5_putsAway ) ?_ (fun _ _ => ?_) | with_reducible refine FrP_bp (gfX5_nextChain ) ?_ (fun _ _ => ?_) | with_reducible refine FrP_bp (gfX5_doesStand ) ?_ (fun _ _ => ?_) | with_reducible refine FrP_bo (gfX5_putsBack ) ?_ (fun _ _ => ?_) | with_reducible refine FrP_bv (fun _ => ?_) | with_reducible refine FrP_lm ?_ (fun _ _ => ?_) | with_reducible refine FrP_lv (fun _ => ?_) | with_reducible refine FrP_some ?_ | with_reducible assumption | with_reducible exact Ag.rf | (with_reducible refine Ag.up ?_ ?_; rotate_left; (intro k hk; omega)) | (with_reducible refine Ag.cp ?_ ?_; rotate_left; (intro k hk; omega)) | with_reducible refine FrP_if ?_ ?_ | omega)
set_option maxHeartbeats 2000000 in
theorem gfX5_wet {n : Nat} {u : MU} {a1 : Int32} {a2 : Int32} : FrP (fun k => k < 53) u (zX5_wet n u a1 a2) := by
  unfold zX5_wet
  repeat' (first | with_reducible exact FrP_none | with_reducible refine FrP_ck (fun _ => ?_) | with_reducible refine gfX5_wet_L57 ?_ (fun _ _ => ?_) _ _ _  | with_reducible refine gfX5_wet_L108 ?_ (fun _ _ => ?_) _ _ _  | with_reducible refine gfX5_wet_L44 (fun _ _ _ _ => ?_) _ _ _ _ ?_ | with_reducible refine FrP_bp (gfX5_no ) ?_ (fun _ _ => ?_) | with_reducible refine FrP_bo (gfX5_putsAway ) ?_ (fun _ _ => ?_) | with_reducible refine FrP_bp (gfX5_nextChain ) ?_ (fun _ _ => ?_) | with_reducible refine FrP_bp (gfX5_doesStand ) ?_ (fun _ _ => ?_) | with_reducible refine FrP_bo (gfX5_putsBack ) ?_ (fun _ _ => ?_) | with_reducible refine FrP_bv (fun _ => ?_) | with_reducible refine FrP_lm ?_ (fun _ _ => ?_) | with_reducible refine FrP_lv (fun _ => ?_) | with_reducible refine FrP_some ?_ | with_reducible assumption | with_reducible exact Ag.rf | (with_reducible refine Ag.up ?_ ?_; rotate_left; (intro k hk; omega)) | (with_reducible refine Ag.cp ?_ ?_; rotate_left; (intro k hk; omega)) | with_reducible refine FrP_if ?_ ?_ | omega)
set_option maxHeartbeats 2000000 in
theorem gfX5_row {n : Nat} {u : MU} {a1 : Int32} : FrP (fun k => k < 53) u (zX5_row n u a1) := by
  unfold zX5_row
  repeat' (first | with_reducible exact FrP_none | with_reducible refine FrP_ck (fun _ => ?_) | with_reducible refine FrP_bp (gfX5_no ) ?_ (fun _ _ => ?_) | with_reducible refine FrP_bv (fun _ => ?_) | with_reducible refine FrP_lm ?_ (fun _ _ => ?_) | with_reducible refine FrP_lv (fun _ => ?_) | with_reducible refine FrP_some ?_ | with_reducible assumption | with_reducible exact Ag.rf | (with_reducible refine Ag.up ?_ ?_; rotate_left; (intro k hk; omega)) | (with_reducible refine Ag.cp ?_ ?_; rotate_left; (intro k hk; omega)) | with_reducible refine FrP_if ?_ ?_ | omega)
set_option maxHeartbeats 2000000 in
theorem gfX5_judge_L14 {u : MU} {n : Nat} {s1 : Int32} {k : Int32 → Int32 → Option (Int32 × MU)} {w0 : MU} (h0 : Ag (fun k => k < 53) u w0) (hk : ∀ (y0 : Int32) (y1 : Int32), FrP (fun k => k < 53) u (k y0 y1)) : ∀ (m : Nat) (x0 : Int32) (x1 : Int32), FrP (fun k => k < 53) u (zX5_judge_L14 n w0 s1 k m x0 x1) := by
  intro m
  induction m with
  | zero => intros; exact FrP_none
  | succ m ih =>
    intro x0 x1
    rw [zX5_judge_L14]
    repeat' (first | with_reducible exact FrP_none | with_reducible refine FrP_ck (fun _ => ?_) | with_reducible refine ih _ _  | with_reducible refine hk _ _  | with_reducible refine FrP_bv (fun _ => ?_) | with_reducible refine FrP_lm ?_ (fun _ _ => ?_) | with_reducible refine FrP_lv (fun _ => ?_) | with_reducible refine FrP_some ?_ | with_reducible assumption | with_reducible exact Ag.rf | (with_reducible refine Ag.up ?_ ?_; rotate_left; (intro k hk; omega)) | (with_reducible refine Ag.cp ?_ ?_; rotate_left; (intro k hk; omega)) | with_reducible refine FrP_if ?_ ?_ | omega)
set_option maxHeartbeats 2000000 in
theorem gfX5_judge {n : Nat} {u : MU} : FrP (fun k => k < 53) u (zX5_judge n u ) := by
  unfold zX5_judge
  repeat' (first | with_reducible exact FrP_none | with_reducible refine FrP_ck (fun _ => ?_) | with_reducible refine gfX5_judge_L14 ?_ (fun _ _ => ?_) _ _ _  | with_reducible refine FrP_bv (fun _ => ?_) | with_reducible refine FrP_lm ?_ (fun _ _ => ?_) | with_reducible refine FrP_lv (fun _ => ?_) | with_reducible refine FrP_some ?_ | with_reducible assumption | with_reducible exact Ag.rf | (with_reducible refine Ag.up ?_ ?_; rotate_left; (intro k hk; omega)) | (with_reducible refine Ag.cp ?_ ?_; rotate_left; (intro k hk; omega)) | with_reducible refine FrP_if ?_ ?_ | omega)
set_option maxHeartbeats 2000000 in
theorem gfX5_seeds_L54 {u : MU} {n : Nat} {s1 : Int32} {s5 : Int32} {s6 : Int32} {k : Int32 → Int32 → MU → Option (Int32 × MU)} (hk : ∀ (y0 : Int32) (y1 : Int32) (w : MU), Ag (fun k => k < 53) u w → FrP (fun k => k < 53) u (k y0 y1 w)) : ∀ (m : Nat) (x0 : Int32) (x1 : Int32) (w : MU), Ag (fun k => k < 53) u w → FrP (fun k => k < 53) u (zX5_seeds_L54 n s1 s5 s6 k m x0 x1 w) := by
  intro m
  induction m with
  | zero => intros; exact FrP_none
  | succ m ih =>
    intro x0 x1 w hw
    rw [zX5_seeds_L54]
    repeat' (first | with_reducible exact FrP_none | with_reducible refine FrP_ck (fun _ => ?_) | with_reducible refine ih _ _ _ ?_ | with_reducible refine hk _ _ _ ?_ | with_reducible refine gfX5_seeds_L45 (fun _ _ _ _ _ => ?_) _ _ _ _ _ ?_ | with_reducible refine FrP_bp (gfX5_no ) ?_ (fun _ _ => ?_) | with_reducible refine FrP_bo (gfX5_putsAway ) ?_ (fun _ _ => ?_) | with_reducible refine FrP_bp (gfX5_doesStand ) ?_ (fun _ _ => ?_) | with_reducible refine FrP_bo (gfX5_putsBack ) ?_ (fun _ _ => ?_) | with_reducible refine FrP_bv (fun _ => ?_) | with_reducible refine FrP_lm ?_ (fun _ _ => ?_) | with_reducible refine FrP_lv (fun _ => ?_) | with_reducible refine FrP_some ?_ | with_reducible assumption | with_reducible exact Ag.rf | (with_reducible refine Ag.up ?_ ?_; rotate_left; (intro k hk; omega)) | (with_reducible refine Ag.cp ?_ ?_; rotate_left; (intro k hk; omega)) | with_reducible refine FrP_if ?_ ?_ | omega)
set_option maxHeartbeats 2000000 in
theorem gfX5_seeds_L45 {u : MU} {n : Nat} {s1 : Int32} {k : Int32 → Int32 → Int32 → MU → Option (Int32 × MU)} (hk : ∀ (y0 : Int32) (y1 : Int32) (y2 : Int32) (w : MU), Ag (fun k => k < 53) u w → FrP (fun k => k < 53) u (k y0 y1 y2 w)) : ∀ (m : Nat) (x0 : Int32) (x1 : Int32) (x2 : Int32) (w : MU), Ag (fun k => k < 53) u w → FrP (fun k => k < 53) u (zX5_seeds_L45 n s1 k m x0 x1 x2 w) := by
  intro m
  induction m with
  | zero => intros; exact FrP_none
  | succ m ih =>
    intro x0 x1 x2 w hw
    rw [zX5_seeds_L45]
    repeat' (first | with_reducible exact FrP_none | with_reducible refine FrP_ck (fun _ => ?_) | with_reducible refine ih _ _ _ _ ?_ | with_reducible refine hk _ _ _ _ ?_ | with_reducible refine gfX5_seeds_L54 (fun _ _ _ _ => ?_) _ _ _ _ ?_ | with_reducible refine FrP_bp (gfX5_no ) ?_ (fun _ _ => ?_) | with_reducible refine FrP_bo (gfX5_putsAway ) ?_ (fun _ _ => ?_) | with_reducible refine FrP_bp (gfX5_doesStand ) ?_ (fun _ _ => ?_) | with_reducible refine FrP_bo (gfX5_putsBack ) ?_ (fun _ _ => ?_) | with_reducible refine FrP_bv (fun _ => ?_) | with_reducible refine FrP_lm ?_ (fun _ _ => ?_) | with_reducible refine FrP_lv (fun _ => ?_) | with_reducible refine FrP_some ?_ | with_reducible assumption | with_reducible exact Ag.rf | (with_reducible refine Ag.up ?_ ?_; rotate_left; (intro k hk; omega)) | (with_reducible refine Ag.cp ?_ ?_; rotate_left; (intro k hk; omega)) | with_reducible refine FrP_if ?_ ?_ | omega)
set_option maxHeartbeats 2000000 in
theorem gfX5_seeds {n : Nat} {u : MU} {a1 : Int32} {a2 : Int32} : FrP (fun k => k < 53) u (zX5_seeds n u a1 a2) := by
  unfold zX5_seeds
  repeat' (first | with_reducible exact FrP_none | with_reducible refine FrP_ck (fun _ => ?_) | with_reducible refine gfX5_seeds_L54 (fun _ _ _ _ => ?_) _ _ _ _ ?_ | with_reducible refine gfX5_seeds_L45 (fun _ _ _ _ _ => ?_) _ _ _ _ _ ?_ | with_reducible refine FrP_bp (gfX5_no ) ?_ (fun _ _ => ?_) | with_reducible refine FrP_bo (gfX5_putsAway ) ?_ (fun _ _ => ?_) | with_reducible refine FrP_bp (gfX5_doesStand ) ?_ (fun _ _ => ?_) | with_reducible refine FrP_bo (gfX5_putsBack ) ?_ (fun _ _ => ?_) | with_reducible refine FrP_bv (fun _ => ?_) | with_reducible refine FrP_lm ?_ (fun _ _ => ?_) | with_reducible refine FrP_lv (fun _ => ?_) | with_reducible refine FrP_some ?_ | with_reducible assumption | with_reducible exact Ag.rf | (with_reducible refine Ag.up ?_ ?_; rotate_left; (intro k hk; omega)) | (with_reducible refine Ag.cp ?_ ?_; rotate_left; (intro k hk; omega)) | with_reducible refine FrP_if ?_ ?_ | omega)
