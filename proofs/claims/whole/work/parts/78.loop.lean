/-! ===== the law's loop ===== -/
theorem SP_of {fc : MU → Option Int32} {fm : MU → Option (Int32 × MU)} (h : OPP fc fm) (hm : ∀ u, FrP (fun k => k < 53) u (fm u)) : ∀ u, CINV u → MREL u u → ∃ (v : Int32) (q8 : Int32 × MU), fc u = some v ∧ fm u = some q8 ∧ v = q8.1 ∧ CINV q8.2 ∧ MREL q8.2 q8.2 := by
  intro u hI hM
  obtain ⟨v, u', e1, e2, e3⟩ := h u u hI hM
  have g : Ag (fun k => k < 53) u u' := hm u (v, u') e2
  exact ⟨v, (v, u'), e1, e2, rfl, CINV_cg (fun k hk => g k (by omega)) hI, MREL_cg (fun k hk => g k hk) (fun _ _ _ => rfl) rfl (fun _ _ => rfl) (fun _ _ => rfl) e3⟩
theorem st_feed {n : Nat} (hn : 20000 ≤ n) (a : Int32) {u : MU} (hI : CINV u) (hM : MREL u u) : ∃ q5 q8 : Int32 × MU, zX4_feed n u a = some q5 ∧ zX5_feed n q5.2 a = some q8 ∧ q5.1 = q8.1 ∧ CINV q8.2 ∧ MREL q8.2 q8.2 := ST_of (op_feed n a) (fun _ => gfX4_feed) (fun _ => gfX5_feed) u hI hM
theorem st_river {n : Nat} (hn : 20000 ≤ n) {u : MU} (hI : CINV u) (hM : MREL u u) : ∃ q5 q8 : Int32 × MU, zX4_river n u = some q5 ∧ zX5_river n q5.2 = some q8 ∧ q5.1 = q8.1 ∧ CINV q8.2 ∧ MREL q8.2 q8.2 := ST_of (op_river n (by omega)) (fun _ => gfX4_river) (fun _ => gfX5_river) u hI hM
theorem st_yard {n : Nat} (hn : 20000 ≤ n) (a b : Int32) {u : MU} (hI : CINV u) (hM : MREL u u) : ∃ q5 q8 : Int32 × MU, zX4_yard n u a b = some q5 ∧ zX5_yard n q5.2 a b = some q8 ∧ q5.1 = q8.1 ∧ CINV q8.2 ∧ MREL q8.2 q8.2 := ST_of (op_yard n a b) (fun _ => gfX4_yard) (fun _ => gfX5_yard) u hI hM
theorem st_person {n : Nat} (hn : 20000 ≤ n) (a b : Int32) {u : MU} (hI : CINV u) (hM : MREL u u) : ∃ q5 q8 : Int32 × MU, zX4_person n u a b = some q5 ∧ zX5_person n q5.2 a b = some q8 ∧ q5.1 = q8.1 ∧ CINV q8.2 ∧ MREL q8.2 q8.2 := ST_of (op_person n (by omega) a b) (fun _ => gfX4_person) (fun _ => gfX5_person) u hI hM
theorem st_grudge {n : Nat} (hn : 20000 ≤ n) (a b : Int32) {u : MU} (hI : CINV u) (hM : MREL u u) : ∃ q5 q8 : Int32 × MU, zX4_grudge n u a b = some q5 ∧ zX5_grudge n q5.2 a b = some q8 ∧ q5.1 = q8.1 ∧ CINV q8.2 ∧ MREL q8.2 q8.2 := ST_of (op_grudge n a b) (fun _ => gfX4_grudge) (fun _ => gfX5_grudge) u hI hM
theorem st_quarrel {n : Nat} (hn : 20000 ≤ n) (a b c : Int32) {u : MU} (hI : CINV u) (hM : MREL u u) : ∃ q5 q8 : Int32 × MU, zX4_quarrel n u a b c = some q5 ∧ zX5_quarrel n q5.2 a b c = some q8 ∧ q5.1 = q8.1 ∧ CINV q8.2 ∧ MREL q8.2 q8.2 := ST_of (op_quarrel n a b c) (fun _ => gfX4_quarrel) (fun _ => gfX5_quarrel) u hI hM
theorem st_cold {n : Nat} (hn : 20000 ≤ n) (a : Int32) {u : MU} (hI : CINV u) (hM : MREL u u) : ∃ q5 q8 : Int32 × MU, zX4_cold n u a = some q5 ∧ zX5_cold n q5.2 a = some q8 ∧ q5.1 = q8.1 ∧ CINV q8.2 ∧ MREL q8.2 q8.2 := ST_of (op_cold n a) (fun _ => gfX4_cold) (fun _ => gfX5_cold) u hI hM
theorem st_put {n : Nat} (hn : 20000 ≤ n) (a b : Int32) {u : MU} (hI : CINV u) (hM : MREL u u) : ∃ q5 q8 : Int32 × MU, zX4_put n u a b = some q5 ∧ zX5_put n q5.2 a b = some q8 ∧ q5.1 = q8.1 ∧ CINV q8.2 ∧ MREL q8.2 q8.2 := ST_of (op_put n (by omega) a b) (fun _ => gfX4_put) (fun _ => gfX5_put) u hI hM
theorem st_out {n : Nat} (hn : 20000 ≤ n) {u : MU} (hI : CINV u) (hM : MREL u u) : ∃ q5 q8 : Int32 × MU, zX4_out n u = some q5 ∧ zX5_out n q5.2 = some q8 ∧ q5.1 = q8.1 ∧ CINV q8.2 ∧ MREL q8.2 q8.2 := ST_of (op_out n (by omega)) (fun _ => gfX4_out) (fun _ => gfX5_out) u hI hM
theorem st_load {n : Nat} (hn : 20000 ≤ n) (a : Int32) {u : MU} (hI : CINV u) (hM : MREL u u) : ∃ q5 q8 : Int32 × MU, zX4_load n u a = some q5 ∧ zX5_load n q5.2 a = some q8 ∧ q5.1 = q8.1 ∧ CINV q8.2 ∧ MREL q8.2 q8.2 := ST_of (op_load n (by omega) a) (fun _ => gfX4_load) (fun _ => gfX5_load) u hI hM
theorem st_slips {n : Nat} (hn : 20000 ≤ n) (a : Int32) {u : MU} (hI : CINV u) (hM : MREL u u) : ∃ q5 q8 : Int32 × MU, zX4_slips n u a = some q5 ∧ zX5_slips n q5.2 a = some q8 ∧ q5.1 = q8.1 ∧ CINV q8.2 ∧ MREL q8.2 q8.2 := ST_of (op_slips n (by omega) a) (fun _ => gfX4_slips) (fun _ => gfX5_slips) u hI hM
theorem sp_lasts {n : Nat} (hn : 20000 ≤ n) {u : MU} (hI : CINV u) (hM : MREL u u) : ∃ (v : Int32) (q8 : Int32 × MU), zX4_lasts n u = some v ∧ zX5_lasts n u = some q8 ∧ v = q8.1 ∧ CINV q8.2 ∧ MREL q8.2 q8.2 := SP_of (op_lasts n (by omega)) (fun _ => gfX5_lasts) u hI hM
theorem st_cross {n : Nat} (hn : 20000 ≤ n) (a : Int32) {u : MU} (hI : CINV u) (hM : MREL u u) : ∃ q5 q8 : Int32 × MU, zX4_cross n u a = some q5 ∧ zX5_cross n q5.2 a = some q8 ∧ q5.1 = q8.1 ∧ CINV q8.2 ∧ MREL q8.2 q8.2 := ST_of (op_cross n (by omega) a) (fun _ => gfX4_cross) (fun _ => gfX5_cross) u hI hM
theorem st_chains {n : Nat} (hn : 20000 ≤ n) {u : MU} (hI : CINV u) (hM : MREL u u) : ∃ q5 q8 : Int32 × MU, zX4_chains n u = some q5 ∧ zX5_chains n q5.2 = some q8 ∧ q5.1 = q8.1 ∧ CINV q8.2 ∧ MREL q8.2 q8.2 := ST_of (op_chains n (by omega)) (fun _ => gfX4_chains) (fun _ => gfX5_chains) u hI hM
theorem st_longest {n : Nat} (hn : 20000 ≤ n) (a : Int32) {u : MU} (hI : CINV u) (hM : MREL u u) : ∃ q5 q8 : Int32 × MU, zX4_longest n u a = some q5 ∧ zX5_longest n q5.2 a = some q8 ∧ q5.1 = q8.1 ∧ CINV q8.2 ∧ MREL q8.2 q8.2 := ST_of (op_longest n (by omega) a) (fun _ => gfX4_longest) (fun _ => gfX5_longest) u hI hM
theorem st_makeUp {n : Nat} (hn : 20000 ≤ n) {u : MU} (hI : CINV u) (hM : MREL u u) : ∃ q5 q8 : Int32 × MU, zX4_makeUp n u = some q5 ∧ zX5_makeUp n q5.2 = some q8 ∧ q5.1 = q8.1 ∧ CINV q8.2 ∧ MREL q8.2 q8.2 := ST_of (op_makeUp n (by omega)) (fun _ => gfX4_makeUp) (fun _ => gfX5_makeUp) u hI hM
theorem st_worth {n : Nat} (hn : 20000 ≤ n) (a b : Int32) {u : MU} (hI : CINV u) (hM : MREL u u) : ∃ q5 q8 : Int32 × MU, zX4_worth n u a b = some q5 ∧ zX5_worth n q5.2 a b = some q8 ∧ q5.1 = q8.1 ∧ CINV q8.2 ∧ MREL q8.2 q8.2 := ST_of (op_worth n (by omega) a b) (fun _ => gfX4_worth) (fun _ => gfX5_worth) u hI hM
theorem st_change {n : Nat} (hn : 20000 ≤ n) {u : MU} (hI : CINV u) (hM : MREL u u) : ∃ q5 q8 : Int32 × MU, zX4_change n u = some q5 ∧ zX5_change n q5.2 = some q8 ∧ q5.1 = q8.1 ∧ CINV q8.2 ∧ MREL q8.2 q8.2 := ST_of (op_change n (by omega)) (fun _ => gfX4_change) (fun _ => gfX5_change) u hI hM
theorem sp_flood {n : Nat} (hn : 20000 ≤ n) {u : MU} (hI : CINV u) (hM : MREL u u) : ∃ (v : Int32) (q8 : Int32 × MU), zX4_flood n u = some v ∧ zX5_flood n u = some q8 ∧ v = q8.1 ∧ CINV q8.2 ∧ MREL q8.2 q8.2 := SP_of (op_flood n (by omega)) (fun _ => gfX5_flood) u hI hM
theorem sp_overs {n : Nat} (hn : 20000 ≤ n) {u : MU} (hI : CINV u) (hM : MREL u u) : ∃ (v : Int32) (q8 : Int32 × MU), zX4_overs n u = some v ∧ zX5_overs n u = some q8 ∧ v = q8.1 ∧ CINV q8.2 ∧ MREL q8.2 q8.2 := SP_of (op_overs n (by omega)) (fun _ => gfX5_overs) u hI hM
theorem st_owes {n : Nat} (hn : 20000 ≤ n) (a b : Int32) {u : MU} (hI : CINV u) (hM : MREL u u) : ∃ q5 q8 : Int32 × MU, zX4_owes n u a b = some q5 ∧ zX5_owes n q5.2 a b = some q8 ∧ q5.1 = q8.1 ∧ CINV q8.2 ∧ MREL q8.2 q8.2 := ST_of (op_owes n a b) (fun _ => gfX4_owes) (fun _ => gfX5_owes) u hI hM
theorem st_owed {n : Nat} (hn : 20000 ≤ n) (a : Int32) {u : MU} (hI : CINV u) (hM : MREL u u) : ∃ q5 q8 : Int32 × MU, zX4_owed n u a = some q5 ∧ zX5_owed n q5.2 a = some q8 ∧ q5.1 = q8.1 ∧ CINV q8.2 ∧ MREL q8.2 q8.2 := ST_of (op_owed n (by omega) a) (fun _ => gfX4_owed) (fun _ => gfX5_owed) u hI hM
theorem st_strike {n : Nat} (hn : 20000 ≤ n) {u : MU} (hI : CINV u) (hM : MREL u u) : ∃ q5 q8 : Int32 × MU, zX4_strike n u = some q5 ∧ zX5_strike n q5.2 = some q8 ∧ q5.1 = q8.1 ∧ CINV q8.2 ∧ MREL q8.2 q8.2 := ST_of (op_strike n (by omega)) (fun _ => gfX4_strike) (fun _ => gfX5_strike) u hI hM
theorem st_wet {n : Nat} (hn : 20000 ≤ n) (a b : Int32) {u : MU} (hI : CINV u) (hM : MREL u u) : ∃ q5 q8 : Int32 × MU, zX4_wet n u a b = some q5 ∧ zX5_wet n q5.2 a b = some q8 ∧ q5.1 = q8.1 ∧ CINV q8.2 ∧ MREL q8.2 q8.2 := ST_of (op_wet n (by omega) a b) (fun _ => gfX4_wet) (fun _ => gfX5_wet) u hI hM
theorem st_row {n : Nat} (hn : 20000 ≤ n) (a : Int32) {u : MU} (hI : CINV u) (hM : MREL u u) : ∃ q5 q8 : Int32 × MU, zX4_row n u a = some q5 ∧ zX5_row n q5.2 a = some q8 ∧ q5.1 = q8.1 ∧ CINV q8.2 ∧ MREL q8.2 q8.2 := ST_of (op_row n a) (fun _ => gfX4_row) (fun _ => gfX5_row) u hI hM
theorem st_judge {n : Nat} (hn : 20000 ≤ n) {u : MU} (hI : CINV u) (hM : MREL u u) : ∃ q5 q8 : Int32 × MU, zX4_judge n u = some q5 ∧ zX5_judge n q5.2 = some q8 ∧ q5.1 = q8.1 ∧ CINV q8.2 ∧ MREL q8.2 q8.2 := ST_of (op_judge n (by omega)) (fun _ => gfX4_judge) (fun _ => gfX5_judge) u hI hM
theorem st_seeds {n : Nat} (hn : 20000 ≤ n) (a b : Int32) {u : MU} (hI : CINV u) (hM : MREL u u) : ∃ q5 q8 : Int32 × MU, zX4_seeds n u a b = some q5 ∧ zX5_seeds n q5.2 a b = some q8 ∧ q5.1 = q8.1 ∧ CINV q8.2 ∧ MREL q8.2 q8.2 := ST_of (op_seeds n (by omega) a b) (fun _ => gfX4_seeds) (fun _ => gfX5_seeds) u hI hM
theorem st_image {n : Nat} (hn : 20000 ≤ n) {u : MU} (hI : CINV u) (hM : MREL u u) : ∃ q5 q8 : Int32 × MU, zX4_image n u = some q5 ∧ zX5_image n q5.2 = some q8 ∧ q5.1 = q8.1 ∧ CINV q8.2 ∧ MREL q8.2 q8.2 := ST_of (op_image n (by omega)) (fun _ => gfX4_image) (fun _ => gfX5_image) u hI hM
theorem st_restore {n : Nat} (hn : 20000 ≤ n) {u : MU} (hI : CINV u) (hM : MREL u u) : ∃ q5 q8 : Int32 × MU, zX4_restore n u = some q5 ∧ zX5_restore n q5.2 = some q8 ∧ q5.1 = q8.1 ∧ CINV q8.2 ∧ MREL q8.2 q8.2 := ST_of (op_restore n (by omega)) (fun _ => gfX4_restore) (fun _ => gfX5_restore) u hI hM
set_option maxHeartbeats 4000000 in
set_option maxRecDepth 100000 in
theorem law_L {n L : Nat} {xs : Nat → Int32} (hn : 20000 ≤ n) (hL : L ≤ 2048) : ∀ (d i m : Nat) (u : MU), L - i ≤ d → i ≤ 4096 → d < m → CINV u → MREL u u → ∃ q, zL_law_L18 n xs L (fun y239 w240 => some (1, w240)) m (nI i) u = some q ∧ q.1 = 1 := by
  have e4 : ∀ i, i ≤ 4096 → ((Int32.ofNat L - 4 < nI i) ↔ L < i + 4) := fun i hi => by
    have h1 : (Int32.ofNat L - 4).toInt = (L : Int) - 4 := pk_sub_toInt (a := L) (b := 4) (by omega) (by omega)
    rw [fa_lt', h1, nI_toInt (by omega)]
    omega
  have fin : ∀ (i m : Nat) (u : MU), L < i + 4 → i ≤ 4096 → 0 < m → ∃ q, zL_law_L18 n xs L (fun y239 w240 => some (1, w240)) m (nI i) u = some q ∧ q.1 = 1 := fun i m u h hi hm => by
    obtain ⟨m, rfl⟩ : ∃ e, m = e + 1 := ⟨m - 1, by omega⟩
    refine ⟨(1, u), ?_, rfl⟩
    rw [zL_law_L18, if_pos ((e4 i hi).mpr h)]
  intro d
  induction d with
  | zero =>
    intro i m u hd hi hm hI hM
    exact fin i m u (by omega) hi hm
  | succ d ih =>
    intro i m u hd hi hm hI hM
    by_cases hx : L < i + 4
    · exact fin i m u hx hi (by omega)
    · obtain ⟨m, rfl⟩ : ∃ e, m = e + 1 := ⟨m - 1, by omega⟩
      have go : ∀ w : MU, CINV w → MREL w w → ∃ q, zL_law_L18 n xs L (fun y239 w240 => some (1, w240)) m (nI (i + 4)) w = some q ∧ q.1 = 1 := fun w h1 h2 => ih (i + 4) m w (by omega) (by omega) (by omega) h1 h2
      have a2 : nI i + 2 = nI (i + 2) := nI_add i 2
      have a3 : nI i + 3 = nI (i + 3) := nI_add i 3
      have a4 : nI i + 4 = nI (i + 4) := nI_add i 4
      have nf : ¬ (false = true) := by decide
      rw [zL_law_L18, if_neg (fun z => hx ((e4 i hi).mp z)), nI_1, a2, a3, a4, oob_no (show i < L by omega) (by omega), oob_no (show i + 1 < L by omega) (by omega), oob_no (show i + 2 < L by omega) (by omega), oob_no (show i + 3 < L by omega) (by omega), tn_nI (show i < 2147483648 by omega), tn_nI (show i + 1 < 2147483648 by omega), tn_nI (show i + 2 < 2147483648 by omega), tn_nI (show i + 3 < 2147483648 by omega), if_neg nf]
      clear ih e4 fin a2 a3 a4
      by_cases h0 : (xs i &&& 31) = 0
      · obtain ⟨q5, q8, e1, e2, e3, e4, e5⟩ := st_feed hn (xs (i + 1)) hI hM
        rw [if_pos h0, if_neg nf, e1, Option.bind_some, if_neg nf, e2, Option.bind_some, if_pos e3]
        exact go q8.2 e4 e5
      rw [if_neg h0]
      by_cases h1 : (xs i &&& 31) = 1
      · obtain ⟨q5, q8, e1, e2, e3, e4, e5⟩ := st_river hn hI hM
        rw [if_pos h1, e1, Option.bind_some, e2, Option.bind_some, if_pos e3]
        exact go q8.2 e4 e5
      rw [if_neg h1]
      by_cases h2 : (xs i &&& 31) = 2
      · obtain ⟨q5, q8, e1, e2, e3, e4, e5⟩ := st_yard hn (xs (i + 1)) (xs (i + 2)) hI hM
        rw [if_pos h2, if_neg nf, if_neg nf, e1, Option.bind_some, if_neg nf, if_neg nf, e2, Option.bind_some, if_pos e3]
        exact go q8.2 e4 e5
      rw [if_neg h2]
      by_cases h3 : (xs i &&& 31) = 3
      · obtain ⟨q5, q8, e1, e2, e3, e4, e5⟩ := st_person hn (xs (i + 1)) (xs (i + 2)) hI hM
        rw [if_pos h3, if_neg nf, if_neg nf, e1, Option.bind_some, if_neg nf, if_neg nf, e2, Option.bind_some, if_pos e3]
        exact go q8.2 e4 e5
      rw [if_neg h3]
      by_cases h4 : (xs i &&& 31) = 4
      · obtain ⟨q5, q8, e1, e2, e3, e4, e5⟩ := st_grudge hn (xs (i + 1)) (xs (i + 2)) hI hM
        rw [if_pos h4, if_neg nf, if_neg nf, e1, Option.bind_some, if_neg nf, if_neg nf, e2, Option.bind_some, if_pos e3]
        exact go q8.2 e4 e5
      rw [if_neg h4]
      by_cases h5 : (xs i &&& 31) = 5
      · obtain ⟨q5, q8, e1, e2, e3, e4, e5⟩ := st_quarrel hn (xs (i + 1)) (xs (i + 2)) (xs (i + 3)) hI hM
        rw [if_pos h5, if_neg nf, if_neg nf, if_neg nf, e1, Option.bind_some, if_neg nf, if_neg nf, if_neg nf, e2, Option.bind_some, if_pos e3]
        exact go q8.2 e4 e5
      rw [if_neg h5]
      by_cases h6 : (xs i &&& 31) = 6
      · obtain ⟨q5, q8, e1, e2, e3, e4, e5⟩ := st_cold hn (xs (i + 1)) hI hM
        rw [if_pos h6, if_neg nf, e1, Option.bind_some, if_neg nf, e2, Option.bind_some, if_pos e3]
        exact go q8.2 e4 e5
      rw [if_neg h6]
      by_cases h7 : (xs i &&& 31) = 7
      · obtain ⟨q5, q8, e1, e2, e3, e4, e5⟩ := st_put hn (xs (i + 1)) (xs (i + 2)) hI hM
        rw [if_pos h7, if_neg nf, if_neg nf, e1, Option.bind_some, if_neg nf, if_neg nf, e2, Option.bind_some, if_pos e3]
        exact go q8.2 e4 e5
      rw [if_neg h7]
      by_cases h8 : (xs i &&& 31) = 8
      · obtain ⟨q5, q8, e1, e2, e3, e4, e5⟩ := st_out hn hI hM
        rw [if_pos h8, e1, Option.bind_some, e2, Option.bind_some, if_pos e3]
        exact go q8.2 e4 e5
      rw [if_neg h8]
      by_cases h9 : (xs i &&& 31) = 9
      · obtain ⟨q5, q8, e1, e2, e3, e4, e5⟩ := st_load hn (xs (i + 1)) hI hM
        rw [if_pos h9, if_neg nf, e1, Option.bind_some, if_neg nf, e2, Option.bind_some, if_pos e3]
        exact go q8.2 e4 e5
      rw [if_neg h9]
      by_cases h10 : (xs i &&& 31) = 10
      · obtain ⟨q5, q8, e1, e2, e3, e4, e5⟩ := st_slips hn (xs (i + 1)) hI hM
        rw [if_pos h10, if_neg nf, e1, Option.bind_some, if_neg nf, e2, Option.bind_some, if_pos e3]
        exact go q8.2 e4 e5
      rw [if_neg h10]
      by_cases h11 : (xs i &&& 31) = 11
      · obtain ⟨v, q8, e1, e2, e3, e4, e5⟩ := sp_lasts hn hI hM
        rw [if_pos h11, e1, Option.bind_some, e2, Option.bind_some, if_pos e3]
        exact go q8.2 e4 e5
      rw [if_neg h11]
      by_cases h12 : (xs i &&& 31) = 12
      · obtain ⟨q5, q8, e1, e2, e3, e4, e5⟩ := st_cross hn (xs (i + 1)) hI hM
        rw [if_pos h12, if_neg nf, e1, Option.bind_some, if_neg nf, e2, Option.bind_some, if_pos e3]
        exact go q8.2 e4 e5
      rw [if_neg h12]
      by_cases h13 : (xs i &&& 31) = 13
      · obtain ⟨q5, q8, e1, e2, e3, e4, e5⟩ := st_chains hn hI hM
        rw [if_pos h13, e1, Option.bind_some, e2, Option.bind_some, if_pos e3]
        exact go q8.2 e4 e5
      rw [if_neg h13]
      by_cases h14 : (xs i &&& 31) = 14
      · obtain ⟨q5, q8, e1, e2, e3, e4, e5⟩ := st_longest hn (xs (i + 1)) hI hM
        rw [if_pos h14, if_neg nf, e1, Option.bind_some, if_neg nf, e2, Option.bind_some, if_pos e3]
        exact go q8.2 e4 e5
      rw [if_neg h14]
      by_cases h15 : (xs i &&& 31) = 15
      · obtain ⟨q5, q8, e1, e2, e3, e4, e5⟩ := st_makeUp hn hI hM
        rw [if_pos h15, e1, Option.bind_some, e2, Option.bind_some, if_pos e3]
        exact go q8.2 e4 e5
      rw [if_neg h15]
      by_cases h16 : (xs i &&& 31) = 16
      · obtain ⟨q5, q8, e1, e2, e3, e4, e5⟩ := st_worth hn (xs (i + 1)) (xs (i + 2)) hI hM
        rw [if_pos h16, if_neg nf, if_neg nf, e1, Option.bind_some, if_neg nf, if_neg nf, e2, Option.bind_some, if_pos e3]
        exact go q8.2 e4 e5
      rw [if_neg h16]
      by_cases h17 : (xs i &&& 31) = 17
      · obtain ⟨q5, q8, e1, e2, e3, e4, e5⟩ := st_change hn hI hM
        rw [if_pos h17, e1, Option.bind_some, e2, Option.bind_some, if_pos e3]
        exact go q8.2 e4 e5
      rw [if_neg h17]
      by_cases h18 : (xs i &&& 31) = 18
      · obtain ⟨v, q8, e1, e2, e3, e4, e5⟩ := sp_flood hn hI hM
        rw [if_pos h18, e1, Option.bind_some, e2, Option.bind_some, if_pos e3]
        exact go q8.2 e4 e5
      rw [if_neg h18]
      by_cases h19 : (xs i &&& 31) = 19
      · obtain ⟨v, q8, e1, e2, e3, e4, e5⟩ := sp_overs hn hI hM
        rw [if_pos h19, e1, Option.bind_some, e2, Option.bind_some, if_pos e3]
        exact go q8.2 e4 e5
      rw [if_neg h19]
      by_cases h20 : (xs i &&& 31) = 20
      · obtain ⟨q5, q8, e1, e2, e3, e4, e5⟩ := st_owes hn (xs (i + 1)) (xs (i + 2)) hI hM
        rw [if_pos h20, if_neg nf, if_neg nf, e1, Option.bind_some, if_neg nf, if_neg nf, e2, Option.bind_some, if_pos e3]
        exact go q8.2 e4 e5
      rw [if_neg h20]
      by_cases h21 : (xs i &&& 31) = 21
      · obtain ⟨q5, q8, e1, e2, e3, e4, e5⟩ := st_owed hn (xs (i + 1)) hI hM
        rw [if_pos h21, if_neg nf, e1, Option.bind_some, if_neg nf, e2, Option.bind_some, if_pos e3]
        exact go q8.2 e4 e5
      rw [if_neg h21]
      by_cases h22 : (xs i &&& 31) = 22
      · obtain ⟨q5, q8, e1, e2, e3, e4, e5⟩ := st_strike hn hI hM
        rw [if_pos h22, e1, Option.bind_some, e2, Option.bind_some, if_pos e3]
        exact go q8.2 e4 e5
      rw [if_neg h22]
      by_cases h23 : (xs i &&& 31) = 23
      · obtain ⟨q5, q8, e1, e2, e3, e4, e5⟩ := st_wet hn (xs (i + 1)) (xs (i + 2)) hI hM
        rw [if_pos h23, if_neg nf, if_neg nf, e1, Option.bind_some, if_neg nf, if_neg nf, e2, Option.bind_some, if_pos e3]
        exact go q8.2 e4 e5
      rw [if_neg h23]
      by_cases h24 : (xs i &&& 31) = 24
      · obtain ⟨q5, q8, e1, e2, e3, e4, e5⟩ := st_row hn (xs (i + 1)) hI hM
        rw [if_pos h24, if_neg nf, e1, Option.bind_some, if_neg nf, e2, Option.bind_some, if_pos e3]
        exact go q8.2 e4 e5
      rw [if_neg h24]
      by_cases h25 : (xs i &&& 31) = 25
      · obtain ⟨q5, q8, e1, e2, e3, e4, e5⟩ := st_judge hn hI hM
        rw [if_pos h25, e1, Option.bind_some, e2, Option.bind_some, if_pos e3]
        exact go q8.2 e4 e5
      rw [if_neg h25]
      by_cases h26 : (xs i &&& 31) = 26
      · obtain ⟨q5, q8, e1, e2, e3, e4, e5⟩ := st_seeds hn (xs (i + 1)) (xs (i + 2)) hI hM
        rw [if_pos h26, if_neg nf, if_neg nf, e1, Option.bind_some, if_neg nf, if_neg nf, e2, Option.bind_some, if_pos e3]
        exact go q8.2 e4 e5
      rw [if_neg h26]
      by_cases h27 : (xs i &&& 31) = 27
      · obtain ⟨q5, q8, e1, e2, e3, e4, e5⟩ := st_image hn hI hM
        rw [if_pos h27, e1, Option.bind_some, e2, Option.bind_some, if_pos e3]
        exact go q8.2 e4 e5
      rw [if_neg h27]
      by_cases h28 : (xs i &&& 31) = 28
      · obtain ⟨q5, q8, e1, e2, e3, e4, e5⟩ := st_restore hn hI hM
        rw [if_pos h28, e1, Option.bind_some, e2, Option.bind_some, if_pos e3]
        exact go q8.2 e4 e5
      rw [if_neg h28]
      by_cases h29 : (xs i &&& 31) = 29
      · obtain ⟨v, e1, e2⟩ := op_count n (by omega) (xs (i + 1)) u u hI hM
        have e1' : zX4_count n u (xs (i + 1)) = some v := e1
        have e2' : zX5_count n u (xs (i + 1)) = some v := e2
        rw [if_pos h29, if_neg nf, e1', Option.bind_some, if_neg nf, e2', Option.bind_some, if_pos rfl]
        exact go u hI hM
      rw [if_neg h29]
      exact go u hI hM
