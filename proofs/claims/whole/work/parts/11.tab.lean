/-! ===== what the tables say: classes, fields, methods, links (written by wip/whole/gen_tab.py) ===== -/
theorem aw_in (i : Nat) {w : Cond} (h : lw_tbl[i]? = some w) (hg : goodWord w = true) : w ∈ aw_gt := List.mem_filter.mpr ⟨List.mem_of_getElem? h, hg⟩
theorem aw_inN (i : Nat) {w : Cond} (h : lw_tbl[i]? = some w) (hg : aw_isN w = true) : w ∈ aw_nt := List.mem_filter.mpr ⟨List.mem_of_getElem? h, hg⟩
theorem kX0 : aw_cls 0 RX0 TX0 2 := ⟨rfl, fun w h => by
  obtain ⟨k, hk, rfl⟩ := List.mem_map.mp h
  have hk := List.mem_range.mp hk
  match k, hk with
  | 0, _ => exact aw_in 215 (by decide +kernel) (by decide +kernel)
  | 1, _ => exact aw_in 217 (by decide +kernel) (by decide +kernel)
  | n + 2, h => exact absurd h (by omega), tyX0_ok, nmX0⟩
theorem kX1 : aw_cls 1 RX1 TX1 8 := ⟨rfl, fun w h => by
  obtain ⟨k, hk, rfl⟩ := List.mem_map.mp h
  have hk := List.mem_range.mp hk
  match k, hk with
  | 0, _ => exact aw_in 239 (by decide +kernel) (by decide +kernel)
  | 1, _ => exact aw_in 241 (by decide +kernel) (by decide +kernel)
  | 2, _ => exact aw_in 243 (by decide +kernel) (by decide +kernel)
  | 3, _ => exact aw_in 245 (by decide +kernel) (by decide +kernel)
  | 4, _ => exact aw_in 247 (by decide +kernel) (by decide +kernel)
  | 5, _ => exact aw_in 249 (by decide +kernel) (by decide +kernel)
  | 6, _ => exact aw_in 251 (by decide +kernel) (by decide +kernel)
  | 7, _ => exact aw_in 253 (by decide +kernel) (by decide +kernel)
  | n + 8, h => exact absurd h (by omega), tyX1_ok, nmX1⟩
theorem kX2 : aw_cls 2 RX2 TX2 6 := ⟨rfl, fun w h => by
  obtain ⟨k, hk, rfl⟩ := List.mem_map.mp h
  have hk := List.mem_range.mp hk
  match k, hk with
  | 0, _ => exact aw_in 147 (by decide +kernel) (by decide +kernel)
  | 1, _ => exact aw_in 149 (by decide +kernel) (by decide +kernel)
  | 2, _ => exact aw_in 151 (by decide +kernel) (by decide +kernel)
  | 3, _ => exact aw_in 153 (by decide +kernel) (by decide +kernel)
  | 4, _ => exact aw_in 155 (by decide +kernel) (by decide +kernel)
  | 5, _ => exact aw_in 157 (by decide +kernel) (by decide +kernel)
  | n + 6, h => exact absurd h (by omega), tyX2_ok, nmX2⟩
theorem kX3 : aw_cls 3 RX3 TX3 10 := ⟨rfl, fun w h => by
  obtain ⟨k, hk, rfl⟩ := List.mem_map.mp h
  have hk := List.mem_range.mp hk
  match k, hk with
  | 0, _ => exact aw_in 185 (by decide +kernel) (by decide +kernel)
  | 1, _ => exact aw_in 187 (by decide +kernel) (by decide +kernel)
  | 2, _ => exact aw_in 189 (by decide +kernel) (by decide +kernel)
  | 3, _ => exact aw_in 191 (by decide +kernel) (by decide +kernel)
  | 4, _ => exact aw_in 193 (by decide +kernel) (by decide +kernel)
  | 5, _ => exact aw_in 195 (by decide +kernel) (by decide +kernel)
  | 6, _ => exact aw_in 197 (by decide +kernel) (by decide +kernel)
  | 7, _ => exact aw_in 199 (by decide +kernel) (by decide +kernel)
  | 8, _ => exact aw_in 201 (by decide +kernel) (by decide +kernel)
  | 9, _ => exact aw_in 203 (by decide +kernel) (by decide +kernel)
  | n + 10, h => exact absurd h (by omega), tyX3_ok, nmX3⟩
theorem kX4 : aw_cls 4 RX4 TX4 9 := ⟨rfl, fun w h => by
  obtain ⟨k, hk, rfl⟩ := List.mem_map.mp h
  have hk := List.mem_range.mp hk
  match k, hk with
  | 0, _ => exact aw_in 265 (by decide +kernel) (by decide +kernel)
  | 1, _ => exact aw_in 267 (by decide +kernel) (by decide +kernel)
  | 2, _ => exact aw_in 269 (by decide +kernel) (by decide +kernel)
  | 3, _ => exact aw_in 271 (by decide +kernel) (by decide +kernel)
  | 4, _ => exact aw_in 273 (by decide +kernel) (by decide +kernel)
  | 5, _ => exact aw_in 275 (by decide +kernel) (by decide +kernel)
  | 6, _ => exact aw_in 277 (by decide +kernel) (by decide +kernel)
  | 7, _ => exact aw_in 279 (by decide +kernel) (by decide +kernel)
  | 8, _ => exact aw_in 281 (by decide +kernel) (by decide +kernel)
  | n + 9, h => exact absurd h (by omega), tyX4_ok, nmX4⟩
theorem kX5 : aw_cls 5 RX5 TX5 35 := ⟨rfl, fun w h => by
  obtain ⟨k, hk, rfl⟩ := List.mem_map.mp h
  have hk := List.mem_range.mp hk
  match k, hk with
  | 0, _ => exact aw_in 737 (by decide +kernel) (by decide +kernel)
  | 1, _ => exact aw_in 739 (by decide +kernel) (by decide +kernel)
  | 2, _ => exact aw_in 741 (by decide +kernel) (by decide +kernel)
  | 3, _ => exact aw_in 743 (by decide +kernel) (by decide +kernel)
  | 4, _ => exact aw_in 745 (by decide +kernel) (by decide +kernel)
  | 5, _ => exact aw_in 747 (by decide +kernel) (by decide +kernel)
  | 6, _ => exact aw_in 749 (by decide +kernel) (by decide +kernel)
  | 7, _ => exact aw_in 751 (by decide +kernel) (by decide +kernel)
  | 8, _ => exact aw_in 753 (by decide +kernel) (by decide +kernel)
  | 9, _ => exact aw_in 755 (by decide +kernel) (by decide +kernel)
  | 10, _ => exact aw_in 757 (by decide +kernel) (by decide +kernel)
  | 11, _ => exact aw_in 759 (by decide +kernel) (by decide +kernel)
  | 12, _ => exact aw_in 761 (by decide +kernel) (by decide +kernel)
  | 13, _ => exact aw_in 763 (by decide +kernel) (by decide +kernel)
  | 14, _ => exact aw_in 765 (by decide +kernel) (by decide +kernel)
  | 15, _ => exact aw_in 767 (by decide +kernel) (by decide +kernel)
  | 16, _ => exact aw_in 769 (by decide +kernel) (by decide +kernel)
  | 17, _ => exact aw_in 771 (by decide +kernel) (by decide +kernel)
  | 18, _ => exact aw_in 773 (by decide +kernel) (by decide +kernel)
  | 19, _ => exact aw_in 775 (by decide +kernel) (by decide +kernel)
  | 20, _ => exact aw_in 777 (by decide +kernel) (by decide +kernel)
  | 21, _ => exact aw_in 779 (by decide +kernel) (by decide +kernel)
  | 22, _ => exact aw_in 781 (by decide +kernel) (by decide +kernel)
  | 23, _ => exact aw_in 783 (by decide +kernel) (by decide +kernel)
  | 24, _ => exact aw_in 785 (by decide +kernel) (by decide +kernel)
  | 25, _ => exact aw_in 787 (by decide +kernel) (by decide +kernel)
  | 26, _ => exact aw_in 789 (by decide +kernel) (by decide +kernel)
  | 27, _ => exact aw_in 791 (by decide +kernel) (by decide +kernel)
  | 28, _ => exact aw_in 793 (by decide +kernel) (by decide +kernel)
  | 29, _ => exact aw_in 795 (by decide +kernel) (by decide +kernel)
  | 30, _ => exact aw_in 797 (by decide +kernel) (by decide +kernel)
  | 31, _ => exact aw_in 799 (by decide +kernel) (by decide +kernel)
  | 32, _ => exact aw_in 801 (by decide +kernel) (by decide +kernel)
  | 33, _ => exact aw_in 803 (by decide +kernel) (by decide +kernel)
  | 34, _ => exact aw_in 805 (by decide +kernel) (by decide +kernel)
  | n + 35, h => exact absurd h (by omega), tyX5_ok, nmX5⟩
abbrev mX0_init : MI := (yX0_init, cX0_init, 1, none)
theorem fX0_init : aw_mf mX0_init 0 := ⟨aw_in 210 (by decide +kernel) rfl, aw_in 102 (by decide +kernel) rfl, ⟨by decide +kernel, by decide +kernel, by decide +kernel⟩, by decide +kernel, Nat.le_of_ble_eq_true rfl, by decide +kernel⟩
theorem vX0_init : aw_mI mX0_init := ⟨rfl, aw_in 209 (by decide +kernel) rfl, rfl⟩
abbrev mX0_take : MI := (yX0_take, cX0_take, 2, none)
theorem fX0_take : aw_mf mX0_take 1 := ⟨aw_in 295 (by decide +kernel) rfl, aw_in 102 (by decide +kernel) rfl, ⟨by decide +kernel, by decide +kernel, by decide +kernel⟩, by decide +kernel, Nat.le_of_ble_eq_true rfl, by decide +kernel⟩
theorem vX0_take : aw_mV mX0_take := ⟨aw_in 294 (by decide +kernel) rfl, aw_in 1 (by decide +kernel) rfl⟩
abbrev mX0_at : MI := (yX0_at, cX0_at, 2, (some .int))
theorem fX0_at : aw_mf mX0_at 1 := ⟨aw_in 315 (by decide +kernel) rfl, aw_in 102 (by decide +kernel) rfl, ⟨by decide +kernel, by decide +kernel, by decide +kernel⟩, by decide +kernel, Nat.le_of_ble_eq_true rfl, by decide +kernel⟩
theorem vX0_at : aw_mV mX0_at := ⟨aw_in 314 (by decide +kernel) rfl, aw_in 5 (by decide +kernel) rfl⟩
abbrev mX0_isDigit : MI := (yX0_isDigit, cX0_isDigit, 2, (some .boolean))
theorem fX0_isDigit : aw_mf mX0_isDigit 1 := ⟨aw_in 329 (by decide +kernel) rfl, aw_in 102 (by decide +kernel) rfl, ⟨by decide +kernel, by decide +kernel, by decide +kernel⟩, by decide +kernel, Nat.le_of_ble_eq_true rfl, by decide +kernel⟩
theorem vX0_isDigit : aw_mV mX0_isDigit := ⟨aw_in 328 (by decide +kernel) rfl, aw_in 7 (by decide +kernel) rfl⟩
abbrev mX0_digit : MI := (yX0_digit, cX0_digit, 2, (some .int))
theorem fX0_digit : aw_mf mX0_digit 1 := ⟨aw_in 352 (by decide +kernel) rfl, aw_in 102 (by decide +kernel) rfl, ⟨by decide +kernel, by decide +kernel, by decide +kernel⟩, by decide +kernel, Nat.le_of_ble_eq_true rfl, by decide +kernel⟩
theorem vX0_digit : aw_mV mX0_digit := ⟨aw_in 351 (by decide +kernel) rfl, aw_in 12 (by decide +kernel) rfl⟩
abbrev mX0_leastDigits : MI := (yX0_leastDigits, cX0_leastDigits, 1, (some .int))
theorem fX0_leastDigits : aw_mf mX0_leastDigits 1 := ⟨aw_in 318 (by decide +kernel) rfl, aw_in 102 (by decide +kernel) rfl, ⟨by decide +kernel, by decide +kernel, by decide +kernel⟩, by decide +kernel, Nat.le_of_ble_eq_true rfl, by decide +kernel⟩
theorem sX0_leastDigits : Cond.static mX0_leastDigits.1 ∈ aw_gt := aw_in 317 (by decide +kernel) rfl
abbrev mX0_mostDigits : MI := (yX0_mostDigits, cX0_mostDigits, 1, (some .int))
theorem fX0_mostDigits : aw_mf mX0_mostDigits 1 := ⟨aw_in 321 (by decide +kernel) rfl, aw_in 102 (by decide +kernel) rfl, ⟨by decide +kernel, by decide +kernel, by decide +kernel⟩, by decide +kernel, Nat.le_of_ble_eq_true rfl, by decide +kernel⟩
theorem sX0_mostDigits : Cond.static mX0_mostDigits.1 ∈ aw_gt := aw_in 320 (by decide +kernel) rfl
abbrev mX0_digitsFrom : MI := (yX0_digitsFrom, cX0_digitsFrom, 4, (some .int))
theorem fX0_digitsFrom : aw_mf mX0_digitsFrom 2 := ⟨aw_in 325 (by decide +kernel) rfl, aw_in 102 (by decide +kernel) rfl, ⟨by decide +kernel, by decide +kernel, by decide +kernel⟩, by decide +kernel, Nat.le_of_ble_eq_true rfl, by decide +kernel⟩
theorem vX0_digitsFrom : aw_mV mX0_digitsFrom := ⟨aw_in 324 (by decide +kernel) rfl, aw_in 6 (by decide +kernel) rfl⟩
abbrev mX0_endOf : MI := (yX0_endOf, cX0_endOf, 5, (some .int))
theorem fX0_endOf : aw_mf mX0_endOf 1 := ⟨aw_in 311 (by decide +kernel) rfl, aw_in 102 (by decide +kernel) rfl, ⟨by decide +kernel, by decide +kernel, by decide +kernel⟩, by decide +kernel, Nat.le_of_ble_eq_true rfl, by decide +kernel⟩
theorem vX0_endOf : aw_mV mX0_endOf := ⟨aw_in 310 (by decide +kernel) rfl, aw_in 4 (by decide +kernel) rfl⟩
abbrev mX0_firstWrong : MI := (yX0_firstWrong, cX0_firstWrong, 4, (some .int))
theorem fX0_firstWrong : aw_mf mX0_firstWrong 0 := ⟨aw_in 307 (by decide +kernel) rfl, aw_in 102 (by decide +kernel) rfl, ⟨by decide +kernel, by decide +kernel, by decide +kernel⟩, by decide +kernel, Nat.le_of_ble_eq_true rfl, by decide +kernel⟩
theorem vX0_firstWrong : aw_mV mX0_firstWrong := ⟨aw_in 306 (by decide +kernel) rfl, aw_in 3 (by decide +kernel) rfl⟩
abbrev mX0_tellTo : MI := (yX0_tellTo, cX0_tellTo, 4, (some .int))
theorem fX0_tellTo : aw_mf mX0_tellTo 1 := ⟨aw_in 344 (by decide +kernel) rfl, aw_in 102 (by decide +kernel) rfl, ⟨by decide +kernel, by decide +kernel, by decide +kernel⟩, by decide +kernel, Nat.le_of_ble_eq_true rfl, by decide +kernel⟩
theorem vX0_tellTo : aw_mV mX0_tellTo := ⟨aw_in 343 (by decide +kernel) rfl, aw_in 10 (by decide +kernel) rfl⟩
abbrev mX0_tellStatement : MI := (yX0_tellStatement, cX0_tellStatement, 6, (some .boolean))
theorem fX0_tellStatement : aw_mf mX0_tellStatement 2 := ⟨aw_in 348 (by decide +kernel) rfl, aw_in 102 (by decide +kernel) rfl, ⟨by decide +kernel, by decide +kernel, by decide +kernel⟩, by decide +kernel, Nat.le_of_ble_eq_true rfl, by decide +kernel⟩
theorem vX0_tellStatement : aw_mV mX0_tellStatement := ⟨aw_in 347 (by decide +kernel) rfl, aw_in 11 (by decide +kernel) rfl⟩
abbrev mX0_warmthAt : MI := (yX0_warmthAt, cX0_warmthAt, 2, (some .int))
theorem fX0_warmthAt : aw_mf mX0_warmthAt 1 := ⟨aw_in 372 (by decide +kernel) rfl, aw_in 102 (by decide +kernel) rfl, ⟨by decide +kernel, by decide +kernel, by decide +kernel⟩, by decide +kernel, Nat.le_of_ble_eq_true rfl, by decide +kernel⟩
theorem vX0_warmthAt : aw_mV mX0_warmthAt := ⟨aw_in 371 (by decide +kernel) rfl, aw_in 17 (by decide +kernel) rfl⟩
abbrev mX1_init : MI := (yX1_init, cX1_init, 1, none)
theorem fX1_init : aw_mf mX1_init 0 := ⟨aw_in 224 (by decide +kernel) rfl, aw_in 103 (by decide +kernel) rfl, ⟨by decide +kernel, by decide +kernel, by decide +kernel⟩, by decide +kernel, Nat.le_of_ble_eq_true rfl, by decide +kernel⟩
theorem vX1_init : aw_mI mX1_init := ⟨rfl, aw_in 223 (by decide +kernel) rfl, rfl⟩
abbrev mX1_thinkOf : MI := (yX1_thinkOf, cX1_thinkOf, 4, none)
theorem fX1_thinkOf : aw_mf mX1_thinkOf 2 := ⟨aw_in 547 (by decide +kernel) rfl, aw_in 103 (by decide +kernel) rfl, ⟨by decide +kernel, by decide +kernel, by decide +kernel⟩, by decide +kernel, Nat.le_of_ble_eq_true rfl, by decide +kernel⟩
theorem vX1_thinkOf : aw_mV mX1_thinkOf := ⟨aw_in 546 (by decide +kernel) rfl, aw_in 43 (by decide +kernel) rfl⟩
abbrev mX1_ableIn : MI := (yX1_ableIn, cX1_ableIn, 5, (some .int))
theorem fX1_ableIn : aw_mf mX1_ableIn 2 := ⟨aw_in 552 (by decide +kernel) rfl, aw_in 103 (by decide +kernel) rfl, ⟨by decide +kernel, by decide +kernel, by decide +kernel⟩, by decide +kernel, Nat.le_of_ble_eq_true rfl, by decide +kernel⟩
theorem vX1_ableIn : aw_mV mX1_ableIn := ⟨aw_in 551 (by decide +kernel) rfl, aw_in 44 (by decide +kernel) rfl⟩
abbrev mX1_extend : MI := (yX1_extend, cX1_extend, 8, none)
theorem fX1_extend : aw_mf mX1_extend 5 := ⟨aw_in 558 (by decide +kernel) rfl, aw_in 103 (by decide +kernel) rfl, ⟨by decide +kernel, by decide +kernel, by decide +kernel⟩, by decide +kernel, Nat.le_of_ble_eq_true rfl, by decide +kernel⟩
theorem vX1_extend : aw_mV mX1_extend := ⟨aw_in 557 (by decide +kernel) rfl, aw_in 45 (by decide +kernel) rfl⟩
abbrev mX1_weigh : MI := (yX1_weigh, cX1_weigh, 5, none)
theorem fX1_weigh : aw_mf mX1_weigh 3 := ⟨aw_in 562 (by decide +kernel) rfl, aw_in 103 (by decide +kernel) rfl, ⟨by decide +kernel, by decide +kernel, by decide +kernel⟩, by decide +kernel, Nat.le_of_ble_eq_true rfl, by decide +kernel⟩
theorem vX1_weigh : aw_mV mX1_weigh := ⟨aw_in 561 (by decide +kernel) rfl, aw_in 46 (by decide +kernel) rfl⟩
abbrev mX1_bestChange : MI := (yX1_bestChange, cX1_bestChange, 7, (some .int))
theorem fX1_bestChange : aw_mf mX1_bestChange 1 := ⟨aw_in 585 (by decide +kernel) rfl, aw_in 103 (by decide +kernel) rfl, ⟨by decide +kernel, by decide +kernel, by decide +kernel⟩, by decide +kernel, Nat.le_of_ble_eq_true rfl, by decide +kernel⟩
theorem vX1_bestChange : aw_mV mX1_bestChange := ⟨aw_in 584 (by decide +kernel) rfl, aw_in 47 (by decide +kernel) rfl⟩
abbrev mX1_standingBySeed : MI := (yX1_standingBySeed, cX1_standingBySeed, 8, (some .int))
theorem fX1_standingBySeed : aw_mf mX1_standingBySeed 3 := ⟨aw_in 668 (by decide +kernel) rfl, aw_in 103 (by decide +kernel) rfl, ⟨by decide +kernel, by decide +kernel, by decide +kernel⟩, by decide +kernel, Nat.le_of_ble_eq_true rfl, by decide +kernel⟩
theorem vX1_standingBySeed : aw_mV mX1_standingBySeed := ⟨aw_in 667 (by decide +kernel) rfl, aw_in 55 (by decide +kernel) rfl⟩
abbrev mX1_drawBelow : MI := (yX1_drawBelow, cX1_drawBelow, 2, (some .int))
theorem fX1_drawBelow : aw_mf mX1_drawBelow 2 := ⟨aw_in 672 (by decide +kernel) rfl, aw_in 103 (by decide +kernel) rfl, ⟨by decide +kernel, by decide +kernel, by decide +kernel⟩, by decide +kernel, Nat.le_of_ble_eq_true rfl, by decide +kernel⟩
theorem sX1_drawBelow : Cond.static mX1_drawBelow.1 ∈ aw_gt := aw_in 671 (by decide +kernel) rfl
abbrev mX2_init : MI := (yX2_init, cX2_init, 1, none)
theorem fX2_init : aw_mf mX2_init 0 := ⟨aw_in 127 (by decide +kernel) rfl, aw_in 101 (by decide +kernel) rfl, ⟨by decide +kernel, by decide +kernel, by decide +kernel⟩, by decide +kernel, Nat.le_of_ble_eq_true rfl, by decide +kernel⟩
theorem vX2_init : aw_mI mX2_init := ⟨rfl, aw_in 126 (by decide +kernel) rfl, rfl⟩
abbrev mX2_copyFrom : MI := (yX2_copyFrom, cX2_copyFrom, 2, none)
theorem fX2_copyFrom : aw_mf mX2_copyFrom 1 := ⟨aw_in 340 (by decide +kernel) rfl, aw_in 101 (by decide +kernel) rfl, ⟨by decide +kernel, by decide +kernel, by decide +kernel⟩, by decide +kernel, Nat.le_of_ble_eq_true rfl, by decide +kernel⟩
theorem vX2_copyFrom : aw_mV mX2_copyFrom := ⟨aw_in 339 (by decide +kernel) rfl, aw_in 9 (by decide +kernel) rfl⟩
abbrev mX2_reaches : MI := (yX2_reaches, cX2_reaches, 1, (some .int))
theorem fX2_reaches : aw_mf mX2_reaches 0 := ⟨aw_in 418 (by decide +kernel) rfl, aw_in 101 (by decide +kernel) rfl, ⟨by decide +kernel, by decide +kernel, by decide +kernel⟩, by decide +kernel, Nat.le_of_ble_eq_true rfl, by decide +kernel⟩
theorem vX2_reaches : aw_mV mX2_reaches := ⟨aw_in 417 (by decide +kernel) rfl, aw_in 26 (by decide +kernel) rfl⟩
abbrev mX2_holds : MI := (yX2_holds, cX2_holds, 1, (some .int))
theorem fX2_holds : aw_mf mX2_holds 0 := ⟨aw_in 422 (by decide +kernel) rfl, aw_in 101 (by decide +kernel) rfl, ⟨by decide +kernel, by decide +kernel, by decide +kernel⟩, by decide +kernel, Nat.le_of_ble_eq_true rfl, by decide +kernel⟩
theorem vX2_holds : aw_mV mX2_holds := ⟨aw_in 421 (by decide +kernel) rfl, aw_in 27 (by decide +kernel) rfl⟩
abbrev mX2_cools : MI := (yX2_cools, cX2_cools, 2, (some .int))
theorem fX2_cools : aw_mf mX2_cools 1 := ⟨aw_in 429 (by decide +kernel) rfl, aw_in 101 (by decide +kernel) rfl, ⟨by decide +kernel, by decide +kernel, by decide +kernel⟩, by decide +kernel, Nat.le_of_ble_eq_true rfl, by decide +kernel⟩
theorem vX2_cools : aw_mV mX2_cools := ⟨aw_in 428 (by decide +kernel) rfl, aw_in 28 (by decide +kernel) rfl⟩
abbrev mX2_minutes : MI := (yX2_minutes, cX2_minutes, 3, (some .int))
theorem fX2_minutes : aw_mf mX2_minutes 1 := ⟨aw_in 512 (by decide +kernel) rfl, aw_in 101 (by decide +kernel) rfl, ⟨by decide +kernel, by decide +kernel, by decide +kernel⟩, by decide +kernel, Nat.le_of_ble_eq_true rfl, by decide +kernel⟩
theorem vX2_minutes : aw_mV mX2_minutes := ⟨aw_in 511 (by decide +kernel) rfl, aw_in 37 (by decide +kernel) rfl⟩
abbrev mX3_init : MI := (yX3_init, cX3_init, 2, none)
theorem fX3_init : aw_mf mX3_init 0 := ⟨aw_in 120 (by decide +kernel) rfl, aw_in 100 (by decide +kernel) rfl, ⟨by decide +kernel, by decide +kernel, by decide +kernel⟩, by decide +kernel, Nat.le_of_ble_eq_true rfl, by decide +kernel⟩
theorem vX3_init : aw_mI mX3_init := ⟨rfl, aw_in 119 (by decide +kernel) rfl, rfl⟩
abbrev mX3_copyFrom : MI := (yX3_copyFrom, cX3_copyFrom, 3, none)
theorem fX3_copyFrom : aw_mf mX3_copyFrom 1 := ⟨aw_in 333 (by decide +kernel) rfl, aw_in 100 (by decide +kernel) rfl, ⟨by decide +kernel, by decide +kernel, by decide +kernel⟩, by decide +kernel, Nat.le_of_ble_eq_true rfl, by decide +kernel⟩
theorem vX3_copyFrom : aw_mV mX3_copyFrom := ⟨aw_in 332 (by decide +kernel) rfl, aw_in 8 (by decide +kernel) rfl⟩
abbrev mX3_isYard : MI := (yX3_isYard, cX3_isYard, 2, (some .boolean))
theorem fX3_isYard : aw_mf mX3_isYard 1 := ⟨aw_in 368 (by decide +kernel) rfl, aw_in 100 (by decide +kernel) rfl, ⟨by decide +kernel, by decide +kernel, by decide +kernel⟩, by decide +kernel, Nat.le_of_ble_eq_true rfl, by decide +kernel⟩
theorem vX3_isYard : aw_mV mX3_isYard := ⟨aw_in 367 (by decide +kernel) rfl, aw_in 16 (by decide +kernel) rfl⟩
abbrev mX3_isPerson : MI := (yX3_isPerson, cX3_isPerson, 2, (some .boolean))
theorem fX3_isPerson : aw_mf mX3_isPerson 1 := ⟨aw_in 388 (by decide +kernel) rfl, aw_in 100 (by decide +kernel) rfl, ⟨by decide +kernel, by decide +kernel, by decide +kernel⟩, by decide +kernel, Nat.le_of_ble_eq_true rfl, by decide +kernel⟩
theorem vX3_isPerson : aw_mV mX3_isPerson := ⟨aw_in 387 (by decide +kernel) rfl, aw_in 21 (by decide +kernel) rfl⟩
abbrev mX3_areTwo : MI := (yX3_areTwo, cX3_areTwo, 3, (some .boolean))
theorem fX3_areTwo : aw_mf mX3_areTwo 2 := ⟨aw_in 384 (by decide +kernel) rfl, aw_in 100 (by decide +kernel) rfl, ⟨by decide +kernel, by decide +kernel, by decide +kernel⟩, by decide +kernel, Nat.le_of_ble_eq_true rfl, by decide +kernel⟩
theorem vX3_areTwo : aw_mV mX3_areTwo := ⟨aw_in 383 (by decide +kernel) rfl, aw_in 20 (by decide +kernel) rfl⟩
abbrev mX3_placeOf : MI := (yX3_placeOf, cX3_placeOf, 3, (some .int))
theorem fX3_placeOf : aw_mf mX3_placeOf 1 := ⟨aw_in 433 (by decide +kernel) rfl, aw_in 100 (by decide +kernel) rfl, ⟨by decide +kernel, by decide +kernel, by decide +kernel⟩, by decide +kernel, Nat.le_of_ble_eq_true rfl, by decide +kernel⟩
theorem vX3_placeOf : aw_mV mX3_placeOf := ⟨aw_in 432 (by decide +kernel) rfl, aw_in 29 (by decide +kernel) rfl⟩
abbrev mX3_isNear : MI := (yX3_isNear, cX3_isNear, 2, (some .boolean))
theorem fX3_isNear : aw_mf mX3_isNear 1 := ⟨aw_in 521 (by decide +kernel) rfl, aw_in 100 (by decide +kernel) rfl, ⟨by decide +kernel, by decide +kernel, by decide +kernel⟩, by decide +kernel, Nat.le_of_ble_eq_true rfl, by decide +kernel⟩
theorem vX3_isNear : aw_mV mX3_isNear := ⟨aw_in 520 (by decide +kernel) rfl, aw_in 38 (by decide +kernel) rfl⟩
abbrev mX3_inWater : MI := (yX3_inWater, cX3_inWater, 3, (some .int))
theorem fX3_inWater : aw_mf mX3_inWater 0 := ⟨aw_in 461 (by decide +kernel) rfl, aw_in 100 (by decide +kernel) rfl, ⟨by decide +kernel, by decide +kernel, by decide +kernel⟩, by decide +kernel, Nat.le_of_ble_eq_true rfl, by decide +kernel⟩
theorem vX3_inWater : aw_mV mX3_inWater := ⟨aw_in 460 (by decide +kernel) rfl, aw_in 30 (by decide +kernel) rfl⟩
abbrev mX3_overThere : MI := (yX3_overThere, cX3_overThere, 3, (some .int))
theorem fX3_overThere : aw_mf mX3_overThere 0 := ⟨aw_in 465 (by decide +kernel) rfl, aw_in 100 (by decide +kernel) rfl, ⟨by decide +kernel, by decide +kernel, by decide +kernel⟩, by decide +kernel, Nat.le_of_ble_eq_true rfl, by decide +kernel⟩
theorem vX3_overThere : aw_mV mX3_overThere := ⟨aw_in 464 (by decide +kernel) rfl, aw_in 31 (by decide +kernel) rfl⟩
abbrev mX3_nearBank : MI := (yX3_nearBank, cX3_nearBank, 1, (some .int))
theorem fX3_nearBank : aw_mf mX3_nearBank 0 := ⟨aw_in 601 (by decide +kernel) rfl, aw_in 100 (by decide +kernel) rfl, ⟨by decide +kernel, by decide +kernel, by decide +kernel⟩, by decide +kernel, Nat.le_of_ble_eq_true rfl, by decide +kernel⟩
theorem vX3_nearBank : aw_mV mX3_nearBank := ⟨aw_in 600 (by decide +kernel) rfl, aw_in 48 (by decide +kernel) rfl⟩
abbrev mX3_notOver : MI := (yX3_notOver, cX3_notOver, 3, (some .int))
theorem fX3_notOver : aw_mf mX3_notOver 0 := ⟨aw_in 543 (by decide +kernel) rfl, aw_in 100 (by decide +kernel) rfl, ⟨by decide +kernel, by decide +kernel, by decide +kernel⟩, by decide +kernel, Nat.le_of_ble_eq_true rfl, by decide +kernel⟩
theorem vX3_notOver : aw_mV mX3_notOver := ⟨aw_in 542 (by decide +kernel) rfl, aw_in 42 (by decide +kernel) rfl⟩
abbrev mX3_emptyWater : MI := (yX3_emptyWater, cX3_emptyWater, 2, none)
theorem fX3_emptyWater : aw_mf mX3_emptyWater 0 := ⟨aw_in 360 (by decide +kernel) rfl, aw_in 100 (by decide +kernel) rfl, ⟨by decide +kernel, by decide +kernel, by decide +kernel⟩, by decide +kernel, Nat.le_of_ble_eq_true rfl, by decide +kernel⟩
theorem vX3_emptyWater : aw_mV mX3_emptyWater := ⟨aw_in 359 (by decide +kernel) rfl, aw_in 14 (by decide +kernel) rfl⟩
abbrev mX3_enter : MI := (yX3_enter, cX3_enter, 4, none)
theorem fX3_enter : aw_mf mX3_enter 2 := ⟨aw_in 404 (by decide +kernel) rfl, aw_in 100 (by decide +kernel) rfl, ⟨by decide +kernel, by decide +kernel, by decide +kernel⟩, by decide +kernel, Nat.le_of_ble_eq_true rfl, by decide +kernel⟩
theorem vX3_enter : aw_mV mX3_enter := ⟨aw_in 403 (by decide +kernel) rfl, aw_in 25 (by decide +kernel) rfl⟩
abbrev mX3_grudgeOf : MI := (yX3_grudgeOf, cX3_grudgeOf, 3, (some .int))
theorem fX3_grudgeOf : aw_mf mX3_grudgeOf 2 := ⟨aw_in 392 (by decide +kernel) rfl, aw_in 100 (by decide +kernel) rfl, ⟨by decide +kernel, by decide +kernel, by decide +kernel⟩, by decide +kernel, Nat.le_of_ble_eq_true rfl, by decide +kernel⟩
theorem vX3_grudgeOf : aw_mV mX3_grudgeOf := ⟨aw_in 391 (by decide +kernel) rfl, aw_in 22 (by decide +kernel) rfl⟩
abbrev mX3_setGrudge : MI := (yX3_setGrudge, cX3_setGrudge, 4, none)
theorem fX3_setGrudge : aw_mf mX3_setGrudge 3 := ⟨aw_in 396 (by decide +kernel) rfl, aw_in 100 (by decide +kernel) rfl, ⟨by decide +kernel, by decide +kernel, by decide +kernel⟩, by decide +kernel, Nat.le_of_ble_eq_true rfl, by decide +kernel⟩
theorem vX3_setGrudge : aw_mV mX3_setGrudge := ⟨aw_in 395 (by decide +kernel) rfl, aw_in 23 (by decide +kernel) rfl⟩
abbrev mX3_allGrudges : MI := (yX3_allGrudges, cX3_allGrudges, 3, (some .int))
theorem fX3_allGrudges : aw_mf mX3_allGrudges 0 := ⟨aw_in 690 (by decide +kernel) rfl, aw_in 100 (by decide +kernel) rfl, ⟨by decide +kernel, by decide +kernel, by decide +kernel⟩, by decide +kernel, Nat.le_of_ble_eq_true rfl, by decide +kernel⟩
theorem vX3_allGrudges : aw_mV mX3_allGrudges := ⟨aw_in 689 (by decide +kernel) rfl, aw_in 56 (by decide +kernel) rfl⟩
abbrev mX3_loadOf : MI := (yX3_loadOf, cX3_loadOf, 5, (some .int))
theorem fX3_loadOf : aw_mf mX3_loadOf 1 := ⟨aw_in 474 (by decide +kernel) rfl, aw_in 100 (by decide +kernel) rfl, ⟨by decide +kernel, by decide +kernel, by decide +kernel⟩, by decide +kernel, Nat.le_of_ble_eq_true rfl, by decide +kernel⟩
theorem vX3_loadOf : aw_mV mX3_loadOf := ⟨aw_in 473 (by decide +kernel) rfl, aw_in 32 (by decide +kernel) rfl⟩
abbrev mX3_whyNot : MI := (yX3_whyNot, cX3_whyNot, 3, (some .int))
theorem fX3_whyNot : aw_mf mX3_whyNot 2 := ⟨aw_in 493 (by decide +kernel) rfl, aw_in 100 (by decide +kernel) rfl, ⟨by decide +kernel, by decide +kernel, by decide +kernel⟩, by decide +kernel, Nat.le_of_ble_eq_true rfl, by decide +kernel⟩
theorem vX3_whyNot : aw_mV mX3_whyNot := ⟨aw_in 492 (by decide +kernel) rfl, aw_in 35 (by decide +kernel) rfl⟩
abbrev mX3_whySlips : MI := (yX3_whySlips, cX3_whySlips, 6, (some .int))
theorem fX3_whySlips : aw_mf mX3_whySlips 2 := ⟨aw_in 489 (by decide +kernel) rfl, aw_in 100 (by decide +kernel) rfl, ⟨by decide +kernel, by decide +kernel, by decide +kernel⟩, by decide +kernel, Nat.le_of_ble_eq_true rfl, by decide +kernel⟩
theorem vX3_whySlips : aw_mV mX3_whySlips := ⟨aw_in 488 (by decide +kernel) rfl, aw_in 34 (by decide +kernel) rfl⟩
abbrev mX3_firstSlip : MI := (yX3_firstSlip, cX3_firstSlip, 3, (some .int))
theorem fX3_firstSlip : aw_mf mX3_firstSlip 1 := ⟨aw_in 485 (by decide +kernel) rfl, aw_in 100 (by decide +kernel) rfl, ⟨by decide +kernel, by decide +kernel, by decide +kernel⟩, by decide +kernel, Nat.le_of_ble_eq_true rfl, by decide +kernel⟩
theorem vX3_firstSlip : aw_mV mX3_firstSlip := ⟨aw_in 484 (by decide +kernel) rfl, aw_in 33 (by decide +kernel) rfl⟩
abbrev mX3_minutesOf : MI := (yX3_minutesOf, cX3_minutesOf, 4, (some .int))
theorem fX3_minutesOf : aw_mf mX3_minutesOf 1 := ⟨aw_in 506 (by decide +kernel) rfl, aw_in 100 (by decide +kernel) rfl, ⟨by decide +kernel, by decide +kernel, by decide +kernel⟩, by decide +kernel, Nat.le_of_ble_eq_true rfl, by decide +kernel⟩
theorem vX3_minutesOf : aw_mV mX3_minutesOf := ⟨aw_in 505 (by decide +kernel) rfl, aw_in 36 (by decide +kernel) rfl⟩
abbrev mX3_bringOver : MI := (yX3_bringOver, cX3_bringOver, 5, none)
theorem fX3_bringOver : aw_mf mX3_bringOver 1 := ⟨aw_in 526 (by decide +kernel) rfl, aw_in 100 (by decide +kernel) rfl, ⟨by decide +kernel, by decide +kernel, by decide +kernel⟩, by decide +kernel, Nat.le_of_ble_eq_true rfl, by decide +kernel⟩
theorem vX3_bringOver : aw_mV mX3_bringOver := ⟨aw_in 525 (by decide +kernel) rfl, aw_in 39 (by decide +kernel) rfl⟩
abbrev mX3_firstAmiss : MI := (yX3_firstAmiss, cX3_firstAmiss, 5, (some .int))
theorem fX3_firstAmiss : aw_mf mX3_firstAmiss 2 := ⟨aw_in 656 (by decide +kernel) rfl, aw_in 100 (by decide +kernel) rfl, ⟨by decide +kernel, by decide +kernel, by decide +kernel⟩, by decide +kernel, Nat.le_of_ble_eq_true rfl, by decide +kernel⟩
theorem vX3_firstAmiss : aw_mV mX3_firstAmiss := ⟨aw_in 655 (by decide +kernel) rfl, aw_in 53 (by decide +kernel) rfl⟩
abbrev mX3_canCome : MI := (yX3_canCome, cX3_canCome, 5, (some .boolean))
theorem fX3_canCome : aw_mf mX3_canCome 2 := ⟨aw_in 660 (by decide +kernel) rfl, aw_in 100 (by decide +kernel) rfl, ⟨by decide +kernel, by decide +kernel, by decide +kernel⟩, by decide +kernel, Nat.le_of_ble_eq_true rfl, by decide +kernel⟩
theorem vX3_canCome : aw_mV mX3_canCome := ⟨aw_in 659 (by decide +kernel) rfl, aw_in 54 (by decide +kernel) rfl⟩
abbrev mX3_hoursOf : MI := (yX3_hoursOf, cX3_hoursOf, 3, (some .int))
theorem fX3_hoursOf : aw_mf mX3_hoursOf 2 := ⟨aw_in 531 (by decide +kernel) rfl, aw_in 100 (by decide +kernel) rfl, ⟨by decide +kernel, by decide +kernel, by decide +kernel⟩, by decide +kernel, Nat.le_of_ble_eq_true rfl, by decide +kernel⟩
theorem vX3_hoursOf : aw_mV mX3_hoursOf := ⟨aw_in 530 (by decide +kernel) rfl, aw_in 40 (by decide +kernel) rfl⟩
abbrev mX3_setHours : MI := (yX3_setHours, cX3_setHours, 4, none)
theorem fX3_setHours : aw_mf mX3_setHours 3 := ⟨aw_in 535 (by decide +kernel) rfl, aw_in 100 (by decide +kernel) rfl, ⟨by decide +kernel, by decide +kernel, by decide +kernel⟩, by decide +kernel, Nat.le_of_ble_eq_true rfl, by decide +kernel⟩
theorem vX3_setHours : aw_mV mX3_setHours := ⟨aw_in 534 (by decide +kernel) rfl, aw_in 41 (by decide +kernel) rfl⟩
abbrev mX3_lessenHours : MI := (yX3_lessenHours, cX3_lessenHours, 4, none)
theorem fX3_lessenHours : aw_mf mX3_lessenHours 3 := ⟨aw_in 626 (by decide +kernel) rfl, aw_in 100 (by decide +kernel) rfl, ⟨by decide +kernel, by decide +kernel, by decide +kernel⟩, by decide +kernel, Nat.le_of_ble_eq_true rfl, by decide +kernel⟩
theorem vX3_lessenHours : aw_mV mX3_lessenHours := ⟨aw_in 625 (by decide +kernel) rfl, aw_in 50 (by decide +kernel) rfl⟩
abbrev mX3_allHours : MI := (yX3_allHours, cX3_allHours, 3, (some .int))
theorem fX3_allHours : aw_mf mX3_allHours 0 := ⟨aw_in 695 (by decide +kernel) rfl, aw_in 100 (by decide +kernel) rfl, ⟨by decide +kernel, by decide +kernel, by decide +kernel⟩, by decide +kernel, Nat.le_of_ble_eq_true rfl, by decide +kernel⟩
theorem vX3_allHours : aw_mV mX3_allHours := ⟨aw_in 694 (by decide +kernel) rfl, aw_in 57 (by decide +kernel) rfl⟩
abbrev mX3_strikeTwos : MI := (yX3_strikeTwos, cX3_strikeTwos, 5, (some .int))
theorem fX3_strikeTwos : aw_mf mX3_strikeTwos 0 := ⟨aw_in 622 (by decide +kernel) rfl, aw_in 100 (by decide +kernel) rfl, ⟨by decide +kernel, by decide +kernel, by decide +kernel⟩, by decide +kernel, Nat.le_of_ble_eq_true rfl, by decide +kernel⟩
theorem vX3_strikeTwos : aw_mV mX3_strikeTwos := ⟨aw_in 621 (by decide +kernel) rfl, aw_in 49 (by decide +kernel) rfl⟩
abbrev mX3_strikeThrees : MI := (yX3_strikeThrees, cX3_strikeThrees, 5, (some .int))
theorem fX3_strikeThrees : aw_mf mX3_strikeThrees 0 := ⟨aw_in 630 (by decide +kernel) rfl, aw_in 100 (by decide +kernel) rfl, ⟨by decide +kernel, by decide +kernel, by decide +kernel⟩, by decide +kernel, Nat.le_of_ble_eq_true rfl, by decide +kernel⟩
theorem vX3_strikeThrees : aw_mV mX3_strikeThrees := ⟨aw_in 629 (by decide +kernel) rfl, aw_in 51 (by decide +kernel) rfl⟩
abbrev mX3_strikeThree : MI := (yX3_strikeThree, cX3_strikeThree, 5, (some .int))
theorem fX3_strikeThree : aw_mf mX3_strikeThree 3 := ⟨aw_in 634 (by decide +kernel) rfl, aw_in 100 (by decide +kernel) rfl, ⟨by decide +kernel, by decide +kernel, by decide +kernel⟩, by decide +kernel, Nat.le_of_ble_eq_true rfl, by decide +kernel⟩
theorem vX3_strikeThree : aw_mV mX3_strikeThree := ⟨aw_in 633 (by decide +kernel) rfl, aw_in 52 (by decide +kernel) rfl⟩
abbrev mX3_tellYards : MI := (yX3_tellYards, cX3_tellYards, 3, (some .boolean))
theorem fX3_tellYards : aw_mf mX3_tellYards 1 := ⟨aw_in 356 (by decide +kernel) rfl, aw_in 100 (by decide +kernel) rfl, ⟨by decide +kernel, by decide +kernel, by decide +kernel⟩, by decide +kernel, Nat.le_of_ble_eq_true rfl, by decide +kernel⟩
theorem vX3_tellYards : aw_mV mX3_tellYards := ⟨aw_in 355 (by decide +kernel) rfl, aw_in 13 (by decide +kernel) rfl⟩
abbrev mX3_tellYard : MI := (yX3_tellYard, cX3_tellYard, 4, (some .boolean))
theorem fX3_tellYard : aw_mf mX3_tellYard 3 := ⟨aw_in 364 (by decide +kernel) rfl, aw_in 100 (by decide +kernel) rfl, ⟨by decide +kernel, by decide +kernel, by decide +kernel⟩, by decide +kernel, Nat.le_of_ble_eq_true rfl, by decide +kernel⟩
theorem vX3_tellYard : aw_mV mX3_tellYard := ⟨aw_in 363 (by decide +kernel) rfl, aw_in 15 (by decide +kernel) rfl⟩
abbrev mX3_tellPerson : MI := (yX3_tellPerson, cX3_tellPerson, 7, (some .boolean))
theorem fX3_tellPerson : aw_mf mX3_tellPerson 5 := ⟨aw_in 376 (by decide +kernel) rfl, aw_in 100 (by decide +kernel) rfl, ⟨by decide +kernel, by decide +kernel, by decide +kernel⟩, by decide +kernel, Nat.le_of_ble_eq_true rfl, by decide +kernel⟩
theorem vX3_tellPerson : aw_mV mX3_tellPerson := ⟨aw_in 375 (by decide +kernel) rfl, aw_in 18 (by decide +kernel) rfl⟩
abbrev mX3_tellGrudge : MI := (yX3_tellGrudge, cX3_tellGrudge, 3, (some .boolean))
theorem fX3_tellGrudge : aw_mf mX3_tellGrudge 2 := ⟨aw_in 380 (by decide +kernel) rfl, aw_in 100 (by decide +kernel) rfl, ⟨by decide +kernel, by decide +kernel, by decide +kernel⟩, by decide +kernel, Nat.le_of_ble_eq_true rfl, by decide +kernel⟩
theorem vX3_tellGrudge : aw_mV mX3_tellGrudge := ⟨aw_in 379 (by decide +kernel) rfl, aw_in 19 (by decide +kernel) rfl⟩
abbrev mX3_tellIn : MI := (yX3_tellIn, cX3_tellIn, 3, (some .boolean))
theorem fX3_tellIn : aw_mf mX3_tellIn 2 := ⟨aw_in 400 (by decide +kernel) rfl, aw_in 100 (by decide +kernel) rfl, ⟨by decide +kernel, by decide +kernel, by decide +kernel⟩, by decide +kernel, Nat.le_of_ble_eq_true rfl, by decide +kernel⟩
theorem vX3_tellIn : aw_mV mX3_tellIn := ⟨aw_in 399 (by decide +kernel) rfl, aw_in 24 (by decide +kernel) rfl⟩
abbrev mX4_init : MI := (yX4_init, cX4_init, 1, none)
theorem fX4_init : aw_mf mX4_init 0 := ⟨aw_in 112 (by decide +kernel) rfl, aw_in 99 (by decide +kernel) rfl, ⟨by decide +kernel, by decide +kernel, by decide +kernel⟩, by decide +kernel, Nat.le_of_ble_eq_true rfl, by decide +kernel⟩
theorem vX4_init : aw_mI mX4_init := ⟨rfl, aw_in 111 (by decide +kernel) rfl, rfl⟩
abbrev mX4_feed : MI := (yX4_feed, cX4_feed, 2, (some .int))
theorem fX4_feed : aw_mf mX4_feed 1 := ⟨aw_in 287 (by decide +kernel) rfl, aw_in 99 (by decide +kernel) rfl, ⟨by decide +kernel, by decide +kernel, by decide +kernel⟩, by decide +kernel, Nat.le_of_ble_eq_true rfl, by decide +kernel⟩
theorem vX4_feed : aw_mV mX4_feed := ⟨aw_in 285 (by decide +kernel) rfl, aw_in 286 (by decide +kernel) rfl⟩
abbrev mX4_river : MI := (yX4_river, cX4_river, 2, (some .int))
theorem fX4_river : aw_mf mX4_river 0 := ⟨aw_in 299 (by decide +kernel) rfl, aw_in 99 (by decide +kernel) rfl, ⟨by decide +kernel, by decide +kernel, by decide +kernel⟩, by decide +kernel, Nat.le_of_ble_eq_true rfl, by decide +kernel⟩
theorem vX4_river : aw_mV mX4_river := ⟨aw_in 297 (by decide +kernel) rfl, aw_in 298 (by decide +kernel) rfl⟩
abbrev mX4_yard : MI := (yX4_yard, cX4_yard, 3, (some .int))
theorem fX4_yard : aw_mf mX4_yard 2 := ⟨aw_in 408 (by decide +kernel) rfl, aw_in 99 (by decide +kernel) rfl, ⟨by decide +kernel, by decide +kernel, by decide +kernel⟩, by decide +kernel, Nat.le_of_ble_eq_true rfl, by decide +kernel⟩
theorem vX4_yard : aw_mV mX4_yard := ⟨aw_in 406 (by decide +kernel) rfl, aw_in 407 (by decide +kernel) rfl⟩
abbrev mX4_person : MI := (yX4_person, cX4_person, 4, (some .int))
theorem fX4_person : aw_mf mX4_person 2 := ⟨aw_in 413 (by decide +kernel) rfl, aw_in 99 (by decide +kernel) rfl, ⟨by decide +kernel, by decide +kernel, by decide +kernel⟩, by decide +kernel, Nat.le_of_ble_eq_true rfl, by decide +kernel⟩
theorem vX4_person : aw_mV mX4_person := ⟨aw_in 411 (by decide +kernel) rfl, aw_in 412 (by decide +kernel) rfl⟩
abbrev mX4_grudge : MI := (yX4_grudge, cX4_grudge, 3, (some .int))
theorem fX4_grudge : aw_mf mX4_grudge 2 := ⟨aw_in 437 (by decide +kernel) rfl, aw_in 99 (by decide +kernel) rfl, ⟨by decide +kernel, by decide +kernel, by decide +kernel⟩, by decide +kernel, Nat.le_of_ble_eq_true rfl, by decide +kernel⟩
theorem vX4_grudge : aw_mV mX4_grudge := ⟨aw_in 435 (by decide +kernel) rfl, aw_in 436 (by decide +kernel) rfl⟩
abbrev mX4_quarrel : MI := (yX4_quarrel, cX4_quarrel, 5, (some .int))
theorem fX4_quarrel : aw_mf mX4_quarrel 3 := ⟨aw_in 443 (by decide +kernel) rfl, aw_in 99 (by decide +kernel) rfl, ⟨by decide +kernel, by decide +kernel, by decide +kernel⟩, by decide +kernel, Nat.le_of_ble_eq_true rfl, by decide +kernel⟩
theorem vX4_quarrel : aw_mV mX4_quarrel := ⟨aw_in 441 (by decide +kernel) rfl, aw_in 442 (by decide +kernel) rfl⟩
abbrev mX4_cold : MI := (yX4_cold, cX4_cold, 3, (some .int))
theorem fX4_cold : aw_mf mX4_cold 1 := ⟨aw_in 448 (by decide +kernel) rfl, aw_in 99 (by decide +kernel) rfl, ⟨by decide +kernel, by decide +kernel, by decide +kernel⟩, by decide +kernel, Nat.le_of_ble_eq_true rfl, by decide +kernel⟩
theorem vX4_cold : aw_mV mX4_cold := ⟨aw_in 446 (by decide +kernel) rfl, aw_in 447 (by decide +kernel) rfl⟩
abbrev mX4_put : MI := (yX4_put, cX4_put, 4, (some .int))
theorem fX4_put : aw_mf mX4_put 2 := ⟨aw_in 452 (by decide +kernel) rfl, aw_in 99 (by decide +kernel) rfl, ⟨by decide +kernel, by decide +kernel, by decide +kernel⟩, by decide +kernel, Nat.le_of_ble_eq_true rfl, by decide +kernel⟩
theorem vX4_put : aw_mV mX4_put := ⟨aw_in 450 (by decide +kernel) rfl, aw_in 451 (by decide +kernel) rfl⟩
abbrev mX4_out : MI := (yX4_out, cX4_out, 3, (some .int))
theorem fX4_out : aw_mf mX4_out 0 := ⟨aw_in 457 (by decide +kernel) rfl, aw_in 99 (by decide +kernel) rfl, ⟨by decide +kernel, by decide +kernel, by decide +kernel⟩, by decide +kernel, Nat.le_of_ble_eq_true rfl, by decide +kernel⟩
theorem vX4_out : aw_mV mX4_out := ⟨aw_in 455 (by decide +kernel) rfl, aw_in 456 (by decide +kernel) rfl⟩
abbrev mX4_load : MI := (yX4_load, cX4_load, 2, (some .int))
theorem fX4_load : aw_mf mX4_load 1 := ⟨aw_in 470 (by decide +kernel) rfl, aw_in 99 (by decide +kernel) rfl, ⟨by decide +kernel, by decide +kernel, by decide +kernel⟩, by decide +kernel, Nat.le_of_ble_eq_true rfl, by decide +kernel⟩
theorem vX4_load : aw_mV mX4_load := ⟨aw_in 468 (by decide +kernel) rfl, aw_in 469 (by decide +kernel) rfl⟩
abbrev mX4_slips : MI := (yX4_slips, cX4_slips, 3, (some .int))
theorem fX4_slips : aw_mf mX4_slips 1 := ⟨aw_in 481 (by decide +kernel) rfl, aw_in 99 (by decide +kernel) rfl, ⟨by decide +kernel, by decide +kernel, by decide +kernel⟩, by decide +kernel, Nat.le_of_ble_eq_true rfl, by decide +kernel⟩
theorem vX4_slips : aw_mV mX4_slips := ⟨aw_in 479 (by decide +kernel) rfl, aw_in 480 (by decide +kernel) rfl⟩
abbrev mX4_lasts : MI := (yX4_lasts, cX4_lasts, 1, (some .int))
theorem fX4_lasts : aw_mf mX4_lasts 0 := ⟨aw_in 502 (by decide +kernel) rfl, aw_in 99 (by decide +kernel) rfl, ⟨by decide +kernel, by decide +kernel, by decide +kernel⟩, by decide +kernel, Nat.le_of_ble_eq_true rfl, by decide +kernel⟩
theorem vX4_lasts : aw_mV mX4_lasts := ⟨aw_in 500 (by decide +kernel) rfl, aw_in 501 (by decide +kernel) rfl⟩
abbrev mX4_cross : MI := (yX4_cross, cX4_cross, 2, (some .int))
theorem fX4_cross : aw_mf mX4_cross 1 := ⟨aw_in 517 (by decide +kernel) rfl, aw_in 99 (by decide +kernel) rfl, ⟨by decide +kernel, by decide +kernel, by decide +kernel⟩, by decide +kernel, Nat.le_of_ble_eq_true rfl, by decide +kernel⟩
theorem vX4_cross : aw_mV mX4_cross := ⟨aw_in 515 (by decide +kernel) rfl, aw_in 516 (by decide +kernel) rfl⟩
abbrev mX4_chains : MI := (yX4_chains, cX4_chains, 1, (some .int))
theorem fX4_chains : aw_mf mX4_chains 0 := ⟨aw_in 539 (by decide +kernel) rfl, aw_in 99 (by decide +kernel) rfl, ⟨by decide +kernel, by decide +kernel, by decide +kernel⟩, by decide +kernel, Nat.le_of_ble_eq_true rfl, by decide +kernel⟩
theorem vX4_chains : aw_mV mX4_chains := ⟨aw_in 537 (by decide +kernel) rfl, aw_in 538 (by decide +kernel) rfl⟩
abbrev mX4_longest : MI := (yX4_longest, cX4_longest, 2, (some .int))
theorem fX4_longest : aw_mf mX4_longest 1 := ⟨aw_in 569 (by decide +kernel) rfl, aw_in 99 (by decide +kernel) rfl, ⟨by decide +kernel, by decide +kernel, by decide +kernel⟩, by decide +kernel, Nat.le_of_ble_eq_true rfl, by decide +kernel⟩
theorem vX4_longest : aw_mV mX4_longest := ⟨aw_in 567 (by decide +kernel) rfl, aw_in 568 (by decide +kernel) rfl⟩
abbrev mX4_makeUp : MI := (yX4_makeUp, cX4_makeUp, 1, (some .int))
theorem fX4_makeUp : aw_mf mX4_makeUp 0 := ⟨aw_in 573 (by decide +kernel) rfl, aw_in 99 (by decide +kernel) rfl, ⟨by decide +kernel, by decide +kernel, by decide +kernel⟩, by decide +kernel, Nat.le_of_ble_eq_true rfl, by decide +kernel⟩
theorem vX4_makeUp : aw_mV mX4_makeUp := ⟨aw_in 571 (by decide +kernel) rfl, aw_in 572 (by decide +kernel) rfl⟩
abbrev mX4_worth : MI := (yX4_worth, cX4_worth, 4, (some .int))
theorem fX4_worth : aw_mf mX4_worth 2 := ⟨aw_in 577 (by decide +kernel) rfl, aw_in 99 (by decide +kernel) rfl, ⟨by decide +kernel, by decide +kernel, by decide +kernel⟩, by decide +kernel, Nat.le_of_ble_eq_true rfl, by decide +kernel⟩
theorem vX4_worth : aw_mV mX4_worth := ⟨aw_in 575 (by decide +kernel) rfl, aw_in 576 (by decide +kernel) rfl⟩
abbrev mX4_change : MI := (yX4_change, cX4_change, 1, (some .int))
theorem fX4_change : aw_mf mX4_change 0 := ⟨aw_in 581 (by decide +kernel) rfl, aw_in 99 (by decide +kernel) rfl, ⟨by decide +kernel, by decide +kernel, by decide +kernel⟩, by decide +kernel, Nat.le_of_ble_eq_true rfl, by decide +kernel⟩
theorem vX4_change : aw_mV mX4_change := ⟨aw_in 579 (by decide +kernel) rfl, aw_in 580 (by decide +kernel) rfl⟩
abbrev mX4_flood : MI := (yX4_flood, cX4_flood, 3, (some .int))
theorem fX4_flood : aw_mf mX4_flood 0 := ⟨aw_in 592 (by decide +kernel) rfl, aw_in 99 (by decide +kernel) rfl, ⟨by decide +kernel, by decide +kernel, by decide +kernel⟩, by decide +kernel, Nat.le_of_ble_eq_true rfl, by decide +kernel⟩
theorem vX4_flood : aw_mV mX4_flood := ⟨aw_in 590 (by decide +kernel) rfl, aw_in 591 (by decide +kernel) rfl⟩
abbrev mX4_overs : MI := (yX4_overs, cX4_overs, 1, (some .int))
theorem fX4_overs : aw_mf mX4_overs 0 := ⟨aw_in 597 (by decide +kernel) rfl, aw_in 99 (by decide +kernel) rfl, ⟨by decide +kernel, by decide +kernel, by decide +kernel⟩, by decide +kernel, Nat.le_of_ble_eq_true rfl, by decide +kernel⟩
theorem vX4_overs : aw_mV mX4_overs := ⟨aw_in 595 (by decide +kernel) rfl, aw_in 596 (by decide +kernel) rfl⟩
abbrev mX4_owes : MI := (yX4_owes, cX4_owes, 3, (some .int))
theorem fX4_owes : aw_mf mX4_owes 2 := ⟨aw_in 608 (by decide +kernel) rfl, aw_in 99 (by decide +kernel) rfl, ⟨by decide +kernel, by decide +kernel, by decide +kernel⟩, by decide +kernel, Nat.le_of_ble_eq_true rfl, by decide +kernel⟩
theorem vX4_owes : aw_mV mX4_owes := ⟨aw_in 606 (by decide +kernel) rfl, aw_in 607 (by decide +kernel) rfl⟩
abbrev mX4_owed : MI := (yX4_owed, cX4_owed, 4, (some .int))
theorem fX4_owed : aw_mf mX4_owed 1 := ⟨aw_in 613 (by decide +kernel) rfl, aw_in 99 (by decide +kernel) rfl, ⟨by decide +kernel, by decide +kernel, by decide +kernel⟩, by decide +kernel, Nat.le_of_ble_eq_true rfl, by decide +kernel⟩
theorem vX4_owed : aw_mV mX4_owed := ⟨aw_in 611 (by decide +kernel) rfl, aw_in 612 (by decide +kernel) rfl⟩
abbrev mX4_strike : MI := (yX4_strike, cX4_strike, 1, (some .int))
theorem fX4_strike : aw_mf mX4_strike 0 := ⟨aw_in 618 (by decide +kernel) rfl, aw_in 99 (by decide +kernel) rfl, ⟨by decide +kernel, by decide +kernel, by decide +kernel⟩, by decide +kernel, Nat.le_of_ble_eq_true rfl, by decide +kernel⟩
theorem vX4_strike : aw_mV mX4_strike := ⟨aw_in 616 (by decide +kernel) rfl, aw_in 617 (by decide +kernel) rfl⟩
abbrev mX4_wet : MI := (yX4_wet, cX4_wet, 3, (some .int))
theorem fX4_wet : aw_mf mX4_wet 2 := ⟨aw_in 638 (by decide +kernel) rfl, aw_in 99 (by decide +kernel) rfl, ⟨by decide +kernel, by decide +kernel, by decide +kernel⟩, by decide +kernel, Nat.le_of_ble_eq_true rfl, by decide +kernel⟩
theorem vX4_wet : aw_mV mX4_wet := ⟨aw_in 636 (by decide +kernel) rfl, aw_in 637 (by decide +kernel) rfl⟩
abbrev mX4_row : MI := (yX4_row, cX4_row, 2, (some .int))
theorem fX4_row : aw_mf mX4_row 1 := ⟨aw_in 648 (by decide +kernel) rfl, aw_in 99 (by decide +kernel) rfl, ⟨by decide +kernel, by decide +kernel, by decide +kernel⟩, by decide +kernel, Nat.le_of_ble_eq_true rfl, by decide +kernel⟩
theorem vX4_row : aw_mV mX4_row := ⟨aw_in 646 (by decide +kernel) rfl, aw_in 647 (by decide +kernel) rfl⟩
abbrev mX4_judge : MI := (yX4_judge, cX4_judge, 2, (some .int))
theorem fX4_judge : aw_mf mX4_judge 0 := ⟨aw_in 652 (by decide +kernel) rfl, aw_in 99 (by decide +kernel) rfl, ⟨by decide +kernel, by decide +kernel, by decide +kernel⟩, by decide +kernel, Nat.le_of_ble_eq_true rfl, by decide +kernel⟩
theorem vX4_judge : aw_mV mX4_judge := ⟨aw_in 650 (by decide +kernel) rfl, aw_in 651 (by decide +kernel) rfl⟩
abbrev mX4_seeds : MI := (yX4_seeds, cX4_seeds, 3, (some .int))
theorem fX4_seeds : aw_mf mX4_seeds 2 := ⟨aw_in 664 (by decide +kernel) rfl, aw_in 99 (by decide +kernel) rfl, ⟨by decide +kernel, by decide +kernel, by decide +kernel⟩, by decide +kernel, Nat.le_of_ble_eq_true rfl, by decide +kernel⟩
theorem vX4_seeds : aw_mV mX4_seeds := ⟨aw_in 662 (by decide +kernel) rfl, aw_in 663 (by decide +kernel) rfl⟩
abbrev mX4_image : MI := (yX4_image, cX4_image, 1, (some .int))
theorem fX4_image : aw_mf mX4_image 0 := ⟨aw_in 678 (by decide +kernel) rfl, aw_in 99 (by decide +kernel) rfl, ⟨by decide +kernel, by decide +kernel, by decide +kernel⟩, by decide +kernel, Nat.le_of_ble_eq_true rfl, by decide +kernel⟩
theorem vX4_image : aw_mV mX4_image := ⟨aw_in 676 (by decide +kernel) rfl, aw_in 677 (by decide +kernel) rfl⟩
abbrev mX4_restore : MI := (yX4_restore, cX4_restore, 1, (some .int))
theorem fX4_restore : aw_mf mX4_restore 0 := ⟨aw_in 682 (by decide +kernel) rfl, aw_in 99 (by decide +kernel) rfl, ⟨by decide +kernel, by decide +kernel, by decide +kernel⟩, by decide +kernel, Nat.le_of_ble_eq_true rfl, by decide +kernel⟩
theorem vX4_restore : aw_mV mX4_restore := ⟨aw_in 680 (by decide +kernel) rfl, aw_in 681 (by decide +kernel) rfl⟩
abbrev mX4_count : MI := (yX4_count, cX4_count, 2, (some .int))
theorem fX4_count : aw_mf mX4_count 1 := ⟨aw_in 686 (by decide +kernel) rfl, aw_in 99 (by decide +kernel) rfl, ⟨by decide +kernel, by decide +kernel, by decide +kernel⟩, by decide +kernel, Nat.le_of_ble_eq_true rfl, by decide +kernel⟩
theorem vX4_count : aw_mV mX4_count := ⟨aw_in 684 (by decide +kernel) rfl, aw_in 685 (by decide +kernel) rfl⟩
abbrev mX4_refuse : MI := (yX4_refuse, cX4_refuse, 2, (some .int))
theorem fX4_refuse : aw_mf mX4_refuse 1 := ⟨aw_in 291 (by decide +kernel) rfl, aw_in 99 (by decide +kernel) rfl, ⟨by decide +kernel, by decide +kernel, by decide +kernel⟩, by decide +kernel, Nat.le_of_ble_eq_true rfl, by decide +kernel⟩
theorem vX4_refuse : aw_mV mX4_refuse := ⟨aw_in 290 (by decide +kernel) rfl, aw_in 0 (by decide +kernel) rfl⟩
abbrev mX4_tellRiver : MI := (yX4_tellRiver, cX4_tellRiver, 3, (some .int))
theorem fX4_tellRiver : aw_mf mX4_tellRiver 0 := ⟨aw_in 303 (by decide +kernel) rfl, aw_in 99 (by decide +kernel) rfl, ⟨by decide +kernel, by decide +kernel, by decide +kernel⟩, by decide +kernel, Nat.le_of_ble_eq_true rfl, by decide +kernel⟩
theorem vX4_tellRiver : aw_mV mX4_tellRiver := ⟨aw_in 302 (by decide +kernel) rfl, aw_in 2 (by decide +kernel) rfl⟩
abbrev mX5_init : MI := (yX5_init, cX5_init, 1, none)
theorem fX5_init : aw_mf mX5_init 0 := ⟨aw_in 700 (by decide +kernel) rfl, aw_in 104 (by decide +kernel) rfl, ⟨by decide +kernel, by decide +kernel, by decide +kernel⟩, by decide +kernel, Nat.le_of_ble_eq_true rfl, by decide +kernel⟩
theorem vX5_init : aw_mI mX5_init := ⟨rfl, aw_in 699 (by decide +kernel) rfl, rfl⟩
abbrev mX5_no : MI := (yX5_no, cX5_no, 2, (some .int))
theorem fX5_no : aw_mf mX5_no 1 := ⟨aw_in 818 (by decide +kernel) rfl, aw_in 104 (by decide +kernel) rfl, ⟨by decide +kernel, by decide +kernel, by decide +kernel⟩, by decide +kernel, Nat.le_of_ble_eq_true rfl, by decide +kernel⟩
theorem vX5_no : aw_mV mX5_no := ⟨aw_in 817 (by decide +kernel) rfl, aw_in 58 (by decide +kernel) rfl⟩
abbrev mX5_lower : MI := (yX5_lower, cX5_lower, 2, (some .int))
theorem fX5_lower : aw_mf mX5_lower 1 := ⟨aw_in 1055 (by decide +kernel) rfl, aw_in 104 (by decide +kernel) rfl, ⟨by decide +kernel, by decide +kernel, by decide +kernel⟩, by decide +kernel, Nat.le_of_ble_eq_true rfl, by decide +kernel⟩
theorem vX5_lower : aw_mV mX5_lower := ⟨aw_in 1054 (by decide +kernel) rfl, aw_in 92 (by decide +kernel) rfl⟩
abbrev mX5_isIn : MI := (yX5_isIn, cX5_isIn, 3, (some .boolean))
theorem fX5_isIn : aw_mf mX5_isIn 3 := ⟨aw_in 840 (by decide +kernel) rfl, aw_in 104 (by decide +kernel) rfl, ⟨by decide +kernel, by decide +kernel, by decide +kernel⟩, by decide +kernel, Nat.le_of_ble_eq_true rfl, by decide +kernel⟩
theorem sX5_isIn : Cond.static mX5_isIn.1 ∈ aw_gt := aw_in 839 (by decide +kernel) rfl
abbrev mX5_bound : MI := (yX5_bound, cX5_bound, 3, (some .int))
theorem fX5_bound : aw_mf mX5_bound 3 := ⟨aw_in 814 (by decide +kernel) rfl, aw_in 104 (by decide +kernel) rfl, ⟨by decide +kernel, by decide +kernel, by decide +kernel⟩, by decide +kernel, Nat.le_of_ble_eq_true rfl, by decide +kernel⟩
theorem sX5_bound : Cond.static mX5_bound.1 ∈ aw_gt := aw_in 813 (by decide +kernel) rfl
abbrev mX5_least : MI := (yX5_least, cX5_least, 2, (some .int))
theorem fX5_least : aw_mf mX5_least 2 := ⟨aw_in 951 (by decide +kernel) rfl, aw_in 104 (by decide +kernel) rfl, ⟨by decide +kernel, by decide +kernel, by decide +kernel⟩, by decide +kernel, Nat.le_of_ble_eq_true rfl, by decide +kernel⟩
theorem sX5_least : Cond.static mX5_least.1 ∈ aw_gt := aw_in 950 (by decide +kernel) rfl
abbrev mX5_isYard : MI := (yX5_isYard, cX5_isYard, 2, (some .boolean))
theorem fX5_isYard : aw_mf mX5_isYard 1 := ⟨aw_in 864 (by decide +kernel) rfl, aw_in 104 (by decide +kernel) rfl, ⟨by decide +kernel, by decide +kernel, by decide +kernel⟩, by decide +kernel, Nat.le_of_ble_eq_true rfl, by decide +kernel⟩
theorem vX5_isYard : aw_mV mX5_isYard := ⟨aw_in 863 (by decide +kernel) rfl, aw_in 67 (by decide +kernel) rfl⟩
abbrev mX5_isOne : MI := (yX5_isOne, cX5_isOne, 2, (some .boolean))
theorem fX5_isOne : aw_mf mX5_isOne 1 := ⟨aw_in 876 (by decide +kernel) rfl, aw_in 104 (by decide +kernel) rfl, ⟨by decide +kernel, by decide +kernel, by decide +kernel⟩, by decide +kernel, Nat.le_of_ble_eq_true rfl, by decide +kernel⟩
theorem vX5_isOne : aw_mV mX5_isOne := ⟨aw_in 875 (by decide +kernel) rfl, aw_in 70 (by decide +kernel) rfl⟩
abbrev mX5_areTwo : MI := (yX5_areTwo, cX5_areTwo, 3, (some .boolean))
theorem fX5_areTwo : aw_mf mX5_areTwo 2 := ⟨aw_in 872 (by decide +kernel) rfl, aw_in 104 (by decide +kernel) rfl, ⟨by decide +kernel, by decide +kernel, by decide +kernel⟩, by decide +kernel, Nat.le_of_ble_eq_true rfl, by decide +kernel⟩
theorem vX5_areTwo : aw_mV mX5_areTwo := ⟨aw_in 871 (by decide +kernel) rfl, aw_in 69 (by decide +kernel) rfl⟩
abbrev mX5_yardOf : MI := (yX5_yardOf, cX5_yardOf, 3, (some .int))
theorem fX5_yardOf : aw_mf mX5_yardOf 1 := ⟨aw_in 884 (by decide +kernel) rfl, aw_in 104 (by decide +kernel) rfl, ⟨by decide +kernel, by decide +kernel, by decide +kernel⟩, by decide +kernel, Nat.le_of_ble_eq_true rfl, by decide +kernel⟩
theorem vX5_yardOf : aw_mV mX5_yardOf := ⟨aw_in 883 (by decide +kernel) rfl, aw_in 72 (by decide +kernel) rfl⟩
abbrev mX5_feed : MI := (yX5_feed, cX5_feed, 3, (some .int))
theorem fX5_feed : aw_mf mX5_feed 1 := ⟨aw_in 811 (by decide +kernel) rfl, aw_in 104 (by decide +kernel) rfl, ⟨by decide +kernel, by decide +kernel, by decide +kernel⟩, by decide +kernel, Nat.le_of_ble_eq_true rfl, by decide +kernel⟩
theorem vX5_feed : aw_mV mX5_feed := ⟨aw_in 809 (by decide +kernel) rfl, aw_in 810 (by decide +kernel) rfl⟩
abbrev mX5_next : MI := (yX5_next, cX5_next, 1, (some .int))
theorem fX5_next : aw_mf mX5_next 0 := ⟨aw_in 830 (by decide +kernel) rfl, aw_in 104 (by decide +kernel) rfl, ⟨by decide +kernel, by decide +kernel, by decide +kernel⟩, by decide +kernel, Nat.le_of_ble_eq_true rfl, by decide +kernel⟩
theorem vX5_next : aw_mV mX5_next := ⟨aw_in 829 (by decide +kernel) rfl, aw_in 60 (by decide +kernel) rfl⟩
abbrev mX5_readsNumber : MI := (yX5_readsNumber, cX5_readsNumber, 5, (some .boolean))
theorem fX5_readsNumber : aw_mf mX5_readsNumber 2 := ⟨aw_in 837 (by decide +kernel) rfl, aw_in 104 (by decide +kernel) rfl, ⟨by decide +kernel, by decide +kernel, by decide +kernel⟩, by decide +kernel, Nat.le_of_ble_eq_true rfl, by decide +kernel⟩
theorem vX5_readsNumber : aw_mV mX5_readsNumber := ⟨aw_in 836 (by decide +kernel) rfl, aw_in 61 (by decide +kernel) rfl⟩
abbrev mX5_onesOf : MI := (yX5_onesOf, cX5_onesOf, 1, (some .int))
theorem fX5_onesOf : aw_mf mX5_onesOf 1 := ⟨aw_in 833 (by decide +kernel) rfl, aw_in 104 (by decide +kernel) rfl, ⟨by decide +kernel, by decide +kernel, by decide +kernel⟩, by decide +kernel, Nat.le_of_ble_eq_true rfl, by decide +kernel⟩
theorem sX5_onesOf : Cond.static mX5_onesOf.1 ∈ aw_gt := aw_in 832 (by decide +kernel) rfl
abbrev mX5_statement : MI := (yX5_statement, cX5_statement, 5, (some .boolean))
theorem fX5_statement : aw_mf mX5_statement 0 := ⟨aw_in 826 (by decide +kernel) rfl, aw_in 104 (by decide +kernel) rfl, ⟨by decide +kernel, by decide +kernel, by decide +kernel⟩, by decide +kernel, Nat.le_of_ble_eq_true rfl, by decide +kernel⟩
theorem vX5_statement : aw_mV mX5_statement := ⟨aw_in 825 (by decide +kernel) rfl, aw_in 59 (by decide +kernel) rfl⟩
abbrev mX5_begins : MI := (yX5_begins, cX5_begins, 3, (some .boolean))
theorem fX5_begins : aw_mf mX5_begins 1 := ⟨aw_in 860 (by decide +kernel) rfl, aw_in 104 (by decide +kernel) rfl, ⟨by decide +kernel, by decide +kernel, by decide +kernel⟩, by decide +kernel, Nat.le_of_ble_eq_true rfl, by decide +kernel⟩
theorem vX5_begins : aw_mV mX5_begins := ⟨aw_in 859 (by decide +kernel) rfl, aw_in 66 (by decide +kernel) rfl⟩
abbrev mX5_comesOne : MI := (yX5_comesOne, cX5_comesOne, 3, (some .boolean))
theorem fX5_comesOne : aw_mf mX5_comesOne 1 := ⟨aw_in 868 (by decide +kernel) rfl, aw_in 104 (by decide +kernel) rfl, ⟨by decide +kernel, by decide +kernel, by decide +kernel⟩, by decide +kernel, Nat.le_of_ble_eq_true rfl, by decide +kernel⟩
theorem vX5_comesOne : aw_mV mX5_comesOne := ⟨aw_in 867 (by decide +kernel) rfl, aw_in 68 (by decide +kernel) rfl⟩
abbrev mX5_sets : MI := (yX5_sets, cX5_sets, 4, none)
theorem fX5_sets : aw_mf mX5_sets 2 := ⟨aw_in 880 (by decide +kernel) rfl, aw_in 104 (by decide +kernel) rfl, ⟨by decide +kernel, by decide +kernel, by decide +kernel⟩, by decide +kernel, Nat.le_of_ble_eq_true rfl, by decide +kernel⟩
theorem vX5_sets : aw_mV mX5_sets := ⟨aw_in 879 (by decide +kernel) rfl, aw_in 71 (by decide +kernel) rfl⟩
abbrev mX5_comes : MI := (yX5_comes, cX5_comes, 5, (some .boolean))
theorem fX5_comes : aw_mf mX5_comes 1 := ⟨aw_in 856 (by decide +kernel) rfl, aw_in 104 (by decide +kernel) rfl, ⟨by decide +kernel, by decide +kernel, by decide +kernel⟩, by decide +kernel, Nat.le_of_ble_eq_true rfl, by decide +kernel⟩
theorem vX5_comes : aw_mV mX5_comes := ⟨aw_in 855 (by decide +kernel) rfl, aw_in 65 (by decide +kernel) rfl⟩
abbrev mX5_river : MI := (yX5_river, cX5_river, 3, (some .int))
theorem fX5_river : aw_mf mX5_river 0 := ⟨aw_in 822 (by decide +kernel) rfl, aw_in 104 (by decide +kernel) rfl, ⟨by decide +kernel, by decide +kernel, by decide +kernel⟩, by decide +kernel, Nat.le_of_ble_eq_true rfl, by decide +kernel⟩
theorem vX5_river : aw_mV mX5_river := ⟨aw_in 820 (by decide +kernel) rfl, aw_in 821 (by decide +kernel) rfl⟩
abbrev mX5_passes : MI := (yX5_passes, cX5_passes, 3, none)
theorem fX5_passes : aw_mf mX5_passes 1 := ⟨aw_in 848 (by decide +kernel) rfl, aw_in 104 (by decide +kernel) rfl, ⟨by decide +kernel, by decide +kernel, by decide +kernel⟩, by decide +kernel, Nat.le_of_ble_eq_true rfl, by decide +kernel⟩
theorem vX5_passes : aw_mV mX5_passes := ⟨aw_in 847 (by decide +kernel) rfl, aw_in 63 (by decide +kernel) rfl⟩
abbrev mX5_passOne : MI := (yX5_passOne, cX5_passOne, 3, (some .int))
theorem fX5_passOne : aw_mf mX5_passOne 1 := ⟨aw_in 852 (by decide +kernel) rfl, aw_in 104 (by decide +kernel) rfl, ⟨by decide +kernel, by decide +kernel, by decide +kernel⟩, by decide +kernel, Nat.le_of_ble_eq_true rfl, by decide +kernel⟩
theorem vX5_passOne : aw_mV mX5_passOne := ⟨aw_in 851 (by decide +kernel) rfl, aw_in 64 (by decide +kernel) rfl⟩
abbrev mX5_passesAll : MI := (yX5_passesAll, cX5_passesAll, 3, none)
theorem fX5_passesAll : aw_mf mX5_passesAll 2 := ⟨aw_in 844 (by decide +kernel) rfl, aw_in 104 (by decide +kernel) rfl, ⟨by decide +kernel, by decide +kernel, by decide +kernel⟩, by decide +kernel, Nat.le_of_ble_eq_true rfl, by decide +kernel⟩
theorem vX5_passesAll : aw_mV mX5_passesAll := ⟨aw_in 843 (by decide +kernel) rfl, aw_in 62 (by decide +kernel) rfl⟩
abbrev mX5_image : MI := (yX5_image, cX5_image, 1, (some .int))
theorem fX5_image : aw_mf mX5_image 0 := ⟨aw_in 888 (by decide +kernel) rfl, aw_in 104 (by decide +kernel) rfl, ⟨by decide +kernel, by decide +kernel, by decide +kernel⟩, by decide +kernel, Nat.le_of_ble_eq_true rfl, by decide +kernel⟩
theorem vX5_image : aw_mV mX5_image := ⟨aw_in 886 (by decide +kernel) rfl, aw_in 887 (by decide +kernel) rfl⟩
abbrev mX5_restore : MI := (yX5_restore, cX5_restore, 1, (some .int))
theorem fX5_restore : aw_mf mX5_restore 0 := ⟨aw_in 892 (by decide +kernel) rfl, aw_in 104 (by decide +kernel) rfl, ⟨by decide +kernel, by decide +kernel, by decide +kernel⟩, by decide +kernel, Nat.le_of_ble_eq_true rfl, by decide +kernel⟩
theorem vX5_restore : aw_mV mX5_restore := ⟨aw_in 890 (by decide +kernel) rfl, aw_in 891 (by decide +kernel) rfl⟩
abbrev mX5_reachOf : MI := (yX5_reachOf, cX5_reachOf, 2, (some .int))
theorem fX5_reachOf : aw_mf mX5_reachOf 1 := ⟨aw_in 904 (by decide +kernel) rfl, aw_in 104 (by decide +kernel) rfl, ⟨by decide +kernel, by decide +kernel, by decide +kernel⟩, by decide +kernel, Nat.le_of_ble_eq_true rfl, by decide +kernel⟩
theorem vX5_reachOf : aw_mV mX5_reachOf := ⟨aw_in 903 (by decide +kernel) rfl, aw_in 73 (by decide +kernel) rfl⟩
abbrev mX5_holdOf : MI := (yX5_holdOf, cX5_holdOf, 2, (some .int))
theorem fX5_holdOf : aw_mf mX5_holdOf 1 := ⟨aw_in 908 (by decide +kernel) rfl, aw_in 104 (by decide +kernel) rfl, ⟨by decide +kernel, by decide +kernel, by decide +kernel⟩, by decide +kernel, Nat.le_of_ble_eq_true rfl, by decide +kernel⟩
theorem vX5_holdOf : aw_mV mX5_holdOf := ⟨aw_in 907 (by decide +kernel) rfl, aw_in 74 (by decide +kernel) rfl⟩
abbrev mX5_coolOf : MI := (yX5_coolOf, cX5_coolOf, 2, (some .int))
theorem fX5_coolOf : aw_mf mX5_coolOf 1 := ⟨aw_in 912 (by decide +kernel) rfl, aw_in 104 (by decide +kernel) rfl, ⟨by decide +kernel, by decide +kernel, by decide +kernel⟩, by decide +kernel, Nat.le_of_ble_eq_true rfl, by decide +kernel⟩
theorem vX5_coolOf : aw_mV mX5_coolOf := ⟨aw_in 911 (by decide +kernel) rfl, aw_in 75 (by decide +kernel) rfl⟩
abbrev mX5_yard : MI := (yX5_yard, cX5_yard, 3, (some .int))
theorem fX5_yard : aw_mf mX5_yard 2 := ⟨aw_in 896 (by decide +kernel) rfl, aw_in 104 (by decide +kernel) rfl, ⟨by decide +kernel, by decide +kernel, by decide +kernel⟩, by decide +kernel, Nat.le_of_ble_eq_true rfl, by decide +kernel⟩
theorem vX5_yard : aw_mV mX5_yard := ⟨aw_in 894 (by decide +kernel) rfl, aw_in 895 (by decide +kernel) rfl⟩
abbrev mX5_person : MI := (yX5_person, cX5_person, 3, (some .int))
theorem fX5_person : aw_mf mX5_person 2 := ⟨aw_in 900 (by decide +kernel) rfl, aw_in 104 (by decide +kernel) rfl, ⟨by decide +kernel, by decide +kernel, by decide +kernel⟩, by decide +kernel, Nat.le_of_ble_eq_true rfl, by decide +kernel⟩
theorem vX5_person : aw_mV mX5_person := ⟨aw_in 898 (by decide +kernel) rfl, aw_in 899 (by decide +kernel) rfl⟩
abbrev mX5_grudge : MI := (yX5_grudge, cX5_grudge, 3, (some .int))
theorem fX5_grudge : aw_mf mX5_grudge 2 := ⟨aw_in 916 (by decide +kernel) rfl, aw_in 104 (by decide +kernel) rfl, ⟨by decide +kernel, by decide +kernel, by decide +kernel⟩, by decide +kernel, Nat.le_of_ble_eq_true rfl, by decide +kernel⟩
theorem vX5_grudge : aw_mV mX5_grudge := ⟨aw_in 914 (by decide +kernel) rfl, aw_in 915 (by decide +kernel) rfl⟩
abbrev mX5_quarrel : MI := (yX5_quarrel, cX5_quarrel, 5, (some .int))
theorem fX5_quarrel : aw_mf mX5_quarrel 3 := ⟨aw_in 920 (by decide +kernel) rfl, aw_in 104 (by decide +kernel) rfl, ⟨by decide +kernel, by decide +kernel, by decide +kernel⟩, by decide +kernel, Nat.le_of_ble_eq_true rfl, by decide +kernel⟩
theorem vX5_quarrel : aw_mV mX5_quarrel := ⟨aw_in 918 (by decide +kernel) rfl, aw_in 919 (by decide +kernel) rfl⟩
abbrev mX5_cold : MI := (yX5_cold, cX5_cold, 4, (some .int))
theorem fX5_cold : aw_mf mX5_cold 1 := ⟨aw_in 924 (by decide +kernel) rfl, aw_in 104 (by decide +kernel) rfl, ⟨by decide +kernel, by decide +kernel, by decide +kernel⟩, by decide +kernel, Nat.le_of_ble_eq_true rfl, by decide +kernel⟩
theorem vX5_cold : aw_mV mX5_cold := ⟨aw_in 922 (by decide +kernel) rfl, aw_in 923 (by decide +kernel) rfl⟩
abbrev mX5_put : MI := (yX5_put, cX5_put, 4, (some .int))
theorem fX5_put : aw_mf mX5_put 2 := ⟨aw_in 928 (by decide +kernel) rfl, aw_in 104 (by decide +kernel) rfl, ⟨by decide +kernel, by decide +kernel, by decide +kernel⟩, by decide +kernel, Nat.le_of_ble_eq_true rfl, by decide +kernel⟩
theorem vX5_put : aw_mV mX5_put := ⟨aw_in 926 (by decide +kernel) rfl, aw_in 927 (by decide +kernel) rfl⟩
abbrev mX5_wetMany : MI := (yX5_wetMany, cX5_wetMany, 3, (some .int))
theorem fX5_wetMany : aw_mf mX5_wetMany 0 := ⟨aw_in 936 (by decide +kernel) rfl, aw_in 104 (by decide +kernel) rfl, ⟨by decide +kernel, by decide +kernel, by decide +kernel⟩, by decide +kernel, Nat.le_of_ble_eq_true rfl, by decide +kernel⟩
theorem vX5_wetMany : aw_mV mX5_wetMany := ⟨aw_in 935 (by decide +kernel) rfl, aw_in 76 (by decide +kernel) rfl⟩
abbrev mX5_out : MI := (yX5_out, cX5_out, 3, (some .int))
theorem fX5_out : aw_mf mX5_out 0 := ⟨aw_in 932 (by decide +kernel) rfl, aw_in 104 (by decide +kernel) rfl, ⟨by decide +kernel, by decide +kernel, by decide +kernel⟩, by decide +kernel, Nat.le_of_ble_eq_true rfl, by decide +kernel⟩
theorem vX5_out : aw_mV mX5_out := ⟨aw_in 930 (by decide +kernel) rfl, aw_in 931 (by decide +kernel) rfl⟩
abbrev mX5_loadOf : MI := (yX5_loadOf, cX5_loadOf, 5, (some .int))
theorem fX5_loadOf : aw_mf mX5_loadOf 1 := ⟨aw_in 948 (by decide +kernel) rfl, aw_in 104 (by decide +kernel) rfl, ⟨by decide +kernel, by decide +kernel, by decide +kernel⟩, by decide +kernel, Nat.le_of_ble_eq_true rfl, by decide +kernel⟩
theorem vX5_loadOf : aw_mV mX5_loadOf := ⟨aw_in 947 (by decide +kernel) rfl, aw_in 78 (by decide +kernel) rfl⟩
abbrev mX5_load : MI := (yX5_load, cX5_load, 2, (some .int))
theorem fX5_load : aw_mf mX5_load 1 := ⟨aw_in 944 (by decide +kernel) rfl, aw_in 104 (by decide +kernel) rfl, ⟨by decide +kernel, by decide +kernel, by decide +kernel⟩, by decide +kernel, Nat.le_of_ble_eq_true rfl, by decide +kernel⟩
theorem vX5_load : aw_mV mX5_load := ⟨aw_in 942 (by decide +kernel) rfl, aw_in 943 (by decide +kernel) rfl⟩
abbrev mX5_doesReach : MI := (yX5_doesReach, cX5_doesReach, 4, (some .boolean))
theorem fX5_doesReach : aw_mf mX5_doesReach 3 := ⟨aw_in 967 (by decide +kernel) rfl, aw_in 104 (by decide +kernel) rfl, ⟨by decide +kernel, by decide +kernel, by decide +kernel⟩, by decide +kernel, Nat.le_of_ble_eq_true rfl, by decide +kernel⟩
theorem vX5_doesReach : aw_mV mX5_doesReach := ⟨aw_in 966 (by decide +kernel) rfl, aw_in 81 (by decide +kernel) rfl⟩
abbrev mX5_doesHold : MI := (yX5_doesHold, cX5_doesHold, 3, (some .boolean))
theorem fX5_doesHold : aw_mf mX5_doesHold 2 := ⟨aw_in 971 (by decide +kernel) rfl, aw_in 104 (by decide +kernel) rfl, ⟨by decide +kernel, by decide +kernel, by decide +kernel⟩, by decide +kernel, Nat.le_of_ble_eq_true rfl, by decide +kernel⟩
theorem vX5_doesHold : aw_mV mX5_doesHold := ⟨aw_in 970 (by decide +kernel) rfl, aw_in 82 (by decide +kernel) rfl⟩
abbrev mX5_slipsIn : MI := (yX5_slipsIn, cX5_slipsIn, 4, (some .int))
theorem fX5_slipsIn : aw_mf mX5_slipsIn 3 := ⟨aw_in 963 (by decide +kernel) rfl, aw_in 104 (by decide +kernel) rfl, ⟨by decide +kernel, by decide +kernel, by decide +kernel⟩, by decide +kernel, Nat.le_of_ble_eq_true rfl, by decide +kernel⟩
theorem vX5_slipsIn : aw_mV mX5_slipsIn := ⟨aw_in 962 (by decide +kernel) rfl, aw_in 80 (by decide +kernel) rfl⟩
abbrev mX5_findSlip : MI := (yX5_findSlip, cX5_findSlip, 3, none)
theorem fX5_findSlip : aw_mf mX5_findSlip 0 := ⟨aw_in 959 (by decide +kernel) rfl, aw_in 104 (by decide +kernel) rfl, ⟨by decide +kernel, by decide +kernel, by decide +kernel⟩, by decide +kernel, Nat.le_of_ble_eq_true rfl, by decide +kernel⟩
theorem vX5_findSlip : aw_mV mX5_findSlip := ⟨aw_in 958 (by decide +kernel) rfl, aw_in 79 (by decide +kernel) rfl⟩
abbrev mX5_doesStand : MI := (yX5_doesStand, cX5_doesStand, 1, (some .boolean))
theorem fX5_doesStand : aw_mf mX5_doesStand 0 := ⟨aw_in 979 (by decide +kernel) rfl, aw_in 104 (by decide +kernel) rfl, ⟨by decide +kernel, by decide +kernel, by decide +kernel⟩, by decide +kernel, Nat.le_of_ble_eq_true rfl, by decide +kernel⟩
theorem vX5_doesStand : aw_mV mX5_doesStand := ⟨aw_in 978 (by decide +kernel) rfl, aw_in 83 (by decide +kernel) rfl⟩
abbrev mX5_lastsNow : MI := (yX5_lastsNow, cX5_lastsNow, 3, (some .int))
theorem fX5_lastsNow : aw_mf mX5_lastsNow 0 := ⟨aw_in 983 (by decide +kernel) rfl, aw_in 104 (by decide +kernel) rfl, ⟨by decide +kernel, by decide +kernel, by decide +kernel⟩, by decide +kernel, Nat.le_of_ble_eq_true rfl, by decide +kernel⟩
theorem vX5_lastsNow : aw_mV mX5_lastsNow := ⟨aw_in 982 (by decide +kernel) rfl, aw_in 84 (by decide +kernel) rfl⟩
abbrev mX5_slips : MI := (yX5_slips, cX5_slips, 2, (some .int))
theorem fX5_slips : aw_mf mX5_slips 1 := ⟨aw_in 955 (by decide +kernel) rfl, aw_in 104 (by decide +kernel) rfl, ⟨by decide +kernel, by decide +kernel, by decide +kernel⟩, by decide +kernel, Nat.le_of_ble_eq_true rfl, by decide +kernel⟩
theorem vX5_slips : aw_mV mX5_slips := ⟨aw_in 953 (by decide +kernel) rfl, aw_in 954 (by decide +kernel) rfl⟩
abbrev mX5_lasts : MI := (yX5_lasts, cX5_lasts, 1, (some .int))
theorem fX5_lasts : aw_mf mX5_lasts 0 := ⟨aw_in 975 (by decide +kernel) rfl, aw_in 104 (by decide +kernel) rfl, ⟨by decide +kernel, by decide +kernel, by decide +kernel⟩, by decide +kernel, Nat.le_of_ble_eq_true rfl, by decide +kernel⟩
theorem vX5_lasts : aw_mV mX5_lasts := ⟨aw_in 973 (by decide +kernel) rfl, aw_in 974 (by decide +kernel) rfl⟩
abbrev mX5_overMany : MI := (yX5_overMany, cX5_overMany, 3, (some .int))
theorem fX5_overMany : aw_mf mX5_overMany 0 := ⟨aw_in 940 (by decide +kernel) rfl, aw_in 104 (by decide +kernel) rfl, ⟨by decide +kernel, by decide +kernel, by decide +kernel⟩, by decide +kernel, Nat.le_of_ble_eq_true rfl, by decide +kernel⟩
theorem vX5_overMany : aw_mV mX5_overMany := ⟨aw_in 939 (by decide +kernel) rfl, aw_in 77 (by decide +kernel) rfl⟩
abbrev mX5_cross : MI := (yX5_cross, cX5_cross, 4, (some .int))
theorem fX5_cross : aw_mf mX5_cross 1 := ⟨aw_in 987 (by decide +kernel) rfl, aw_in 104 (by decide +kernel) rfl, ⟨by decide +kernel, by decide +kernel, by decide +kernel⟩, by decide +kernel, Nat.le_of_ble_eq_true rfl, by decide +kernel⟩
theorem vX5_cross : aw_mV mX5_cross := ⟨aw_in 985 (by decide +kernel) rfl, aw_in 986 (by decide +kernel) rfl⟩
abbrev mX5_putsAway : MI := (yX5_putsAway, cX5_putsAway, 2, none)
theorem fX5_putsAway : aw_mf mX5_putsAway 0 := ⟨aw_in 995 (by decide +kernel) rfl, aw_in 104 (by decide +kernel) rfl, ⟨by decide +kernel, by decide +kernel, by decide +kernel⟩, by decide +kernel, Nat.le_of_ble_eq_true rfl, by decide +kernel⟩
theorem vX5_putsAway : aw_mV mX5_putsAway := ⟨aw_in 994 (by decide +kernel) rfl, aw_in 85 (by decide +kernel) rfl⟩
abbrev mX5_putsBack : MI := (yX5_putsBack, cX5_putsBack, 2, none)
theorem fX5_putsBack : aw_mf mX5_putsBack 0 := ⟨aw_in 1007 (by decide +kernel) rfl, aw_in 104 (by decide +kernel) rfl, ⟨by decide +kernel, by decide +kernel, by decide +kernel⟩, by decide +kernel, Nat.le_of_ble_eq_true rfl, by decide +kernel⟩
theorem vX5_putsBack : aw_mV mX5_putsBack := ⟨aw_in 1006 (by decide +kernel) rfl, aw_in 88 (by decide +kernel) rfl⟩
abbrev mX5_areUnlike : MI := (yX5_areUnlike, cX5_areUnlike, 3, (some .boolean))
theorem fX5_areUnlike : aw_mf mX5_areUnlike 0 := ⟨aw_in 1003 (by decide +kernel) rfl, aw_in 104 (by decide +kernel) rfl, ⟨by decide +kernel, by decide +kernel, by decide +kernel⟩, by decide +kernel, Nat.le_of_ble_eq_true rfl, by decide +kernel⟩
theorem vX5_areUnlike : aw_mV mX5_areUnlike := ⟨aw_in 1002 (by decide +kernel) rfl, aw_in 87 (by decide +kernel) rfl⟩
abbrev mX5_nextChain : MI := (yX5_nextChain, cX5_nextChain, 4, (some .boolean))
theorem fX5_nextChain : aw_mf mX5_nextChain 0 := ⟨aw_in 999 (by decide +kernel) rfl, aw_in 104 (by decide +kernel) rfl, ⟨by decide +kernel, by decide +kernel, by decide +kernel⟩, by decide +kernel, Nat.le_of_ble_eq_true rfl, by decide +kernel⟩
theorem vX5_nextChain : aw_mV mX5_nextChain := ⟨aw_in 998 (by decide +kernel) rfl, aw_in 86 (by decide +kernel) rfl⟩
abbrev mX5_chains : MI := (yX5_chains, cX5_chains, 2, (some .int))
theorem fX5_chains : aw_mf mX5_chains 0 := ⟨aw_in 991 (by decide +kernel) rfl, aw_in 104 (by decide +kernel) rfl, ⟨by decide +kernel, by decide +kernel, by decide +kernel⟩, by decide +kernel, Nat.le_of_ble_eq_true rfl, by decide +kernel⟩
theorem vX5_chains : aw_mV mX5_chains := ⟨aw_in 989 (by decide +kernel) rfl, aw_in 990 (by decide +kernel) rfl⟩
abbrev mX5_findLongest : MI := (yX5_findLongest, cX5_findLongest, 2, none)
theorem fX5_findLongest : aw_mf mX5_findLongest 0 := ⟨aw_in 1015 (by decide +kernel) rfl, aw_in 104 (by decide +kernel) rfl, ⟨by decide +kernel, by decide +kernel, by decide +kernel⟩, by decide +kernel, Nat.le_of_ble_eq_true rfl, by decide +kernel⟩
theorem vX5_findLongest : aw_mV mX5_findLongest := ⟨aw_in 1014 (by decide +kernel) rfl, aw_in 89 (by decide +kernel) rfl⟩
abbrev mX5_longest : MI := (yX5_longest, cX5_longest, 2, (some .int))
theorem fX5_longest : aw_mf mX5_longest 1 := ⟨aw_in 1011 (by decide +kernel) rfl, aw_in 104 (by decide +kernel) rfl, ⟨by decide +kernel, by decide +kernel, by decide +kernel⟩, by decide +kernel, Nat.le_of_ble_eq_true rfl, by decide +kernel⟩
theorem vX5_longest : aw_mV mX5_longest := ⟨aw_in 1009 (by decide +kernel) rfl, aw_in 1010 (by decide +kernel) rfl⟩
abbrev mX5_grudgesIn : MI := (yX5_grudgesIn, cX5_grudgesIn, 4, (some .int))
theorem fX5_grudgesIn : aw_mf mX5_grudgesIn 0 := ⟨aw_in 1023 (by decide +kernel) rfl, aw_in 104 (by decide +kernel) rfl, ⟨by decide +kernel, by decide +kernel, by decide +kernel⟩, by decide +kernel, Nat.le_of_ble_eq_true rfl, by decide +kernel⟩
theorem vX5_grudgesIn : aw_mV mX5_grudgesIn := ⟨aw_in 1022 (by decide +kernel) rfl, aw_in 90 (by decide +kernel) rfl⟩
abbrev mX5_makeUp : MI := (yX5_makeUp, cX5_makeUp, 3, (some .int))
theorem fX5_makeUp : aw_mf mX5_makeUp 0 := ⟨aw_in 1019 (by decide +kernel) rfl, aw_in 104 (by decide +kernel) rfl, ⟨by decide +kernel, by decide +kernel, by decide +kernel⟩, by decide +kernel, Nat.le_of_ble_eq_true rfl, by decide +kernel⟩
theorem vX5_makeUp : aw_mV mX5_makeUp := ⟨aw_in 1017 (by decide +kernel) rfl, aw_in 1018 (by decide +kernel) rfl⟩
abbrev mX5_longestOrNothing : MI := (yX5_longestOrNothing, cX5_longestOrNothing, 1, (some .int))
theorem fX5_longestOrNothing : aw_mf mX5_longestOrNothing 0 := ⟨aw_in 1031 (by decide +kernel) rfl, aw_in 104 (by decide +kernel) rfl, ⟨by decide +kernel, by decide +kernel, by decide +kernel⟩, by decide +kernel, Nat.le_of_ble_eq_true rfl, by decide +kernel⟩
theorem vX5_longestOrNothing : aw_mV mX5_longestOrNothing := ⟨aw_in 1030 (by decide +kernel) rfl, aw_in 91 (by decide +kernel) rfl⟩
abbrev mX5_worth : MI := (yX5_worth, cX5_worth, 5, (some .int))
theorem fX5_worth : aw_mf mX5_worth 2 := ⟨aw_in 1027 (by decide +kernel) rfl, aw_in 104 (by decide +kernel) rfl, ⟨by decide +kernel, by decide +kernel, by decide +kernel⟩, by decide +kernel, Nat.le_of_ble_eq_true rfl, by decide +kernel⟩
theorem vX5_worth : aw_mV mX5_worth := ⟨aw_in 1025 (by decide +kernel) rfl, aw_in 1026 (by decide +kernel) rfl⟩
abbrev mX5_change : MI := (yX5_change, cX5_change, 6, (some .int))
theorem fX5_change : aw_mf mX5_change 0 := ⟨aw_in 1035 (by decide +kernel) rfl, aw_in 104 (by decide +kernel) rfl, ⟨by decide +kernel, by decide +kernel, by decide +kernel⟩, by decide +kernel, Nat.le_of_ble_eq_true rfl, by decide +kernel⟩
theorem vX5_change : aw_mV mX5_change := ⟨aw_in 1033 (by decide +kernel) rfl, aw_in 1034 (by decide +kernel) rfl⟩
abbrev mX5_flood : MI := (yX5_flood, cX5_flood, 4, (some .int))
theorem fX5_flood : aw_mf mX5_flood 0 := ⟨aw_in 1039 (by decide +kernel) rfl, aw_in 104 (by decide +kernel) rfl, ⟨by decide +kernel, by decide +kernel, by decide +kernel⟩, by decide +kernel, Nat.le_of_ble_eq_true rfl, by decide +kernel⟩
theorem vX5_flood : aw_mV mX5_flood := ⟨aw_in 1037 (by decide +kernel) rfl, aw_in 1038 (by decide +kernel) rfl⟩
abbrev mX5_overs : MI := (yX5_overs, cX5_overs, 1, (some .int))
theorem fX5_overs : aw_mf mX5_overs 0 := ⟨aw_in 1043 (by decide +kernel) rfl, aw_in 104 (by decide +kernel) rfl, ⟨by decide +kernel, by decide +kernel, by decide +kernel⟩, by decide +kernel, Nat.le_of_ble_eq_true rfl, by decide +kernel⟩
theorem vX5_overs : aw_mV mX5_overs := ⟨aw_in 1041 (by decide +kernel) rfl, aw_in 1042 (by decide +kernel) rfl⟩
abbrev mX5_owes : MI := (yX5_owes, cX5_owes, 3, (some .int))
theorem fX5_owes : aw_mf mX5_owes 2 := ⟨aw_in 1047 (by decide +kernel) rfl, aw_in 104 (by decide +kernel) rfl, ⟨by decide +kernel, by decide +kernel, by decide +kernel⟩, by decide +kernel, Nat.le_of_ble_eq_true rfl, by decide +kernel⟩
theorem vX5_owes : aw_mV mX5_owes := ⟨aw_in 1045 (by decide +kernel) rfl, aw_in 1046 (by decide +kernel) rfl⟩
abbrev mX5_owed : MI := (yX5_owed, cX5_owed, 4, (some .int))
theorem fX5_owed : aw_mf mX5_owed 1 := ⟨aw_in 1051 (by decide +kernel) rfl, aw_in 104 (by decide +kernel) rfl, ⟨by decide +kernel, by decide +kernel, by decide +kernel⟩, by decide +kernel, Nat.le_of_ble_eq_true rfl, by decide +kernel⟩
theorem vX5_owed : aw_mV mX5_owed := ⟨aw_in 1049 (by decide +kernel) rfl, aw_in 1050 (by decide +kernel) rfl⟩
abbrev mX5_doesOwe : MI := (yX5_doesOwe, cX5_doesOwe, 3, (some .boolean))
theorem fX5_doesOwe : aw_mf mX5_doesOwe 2 := ⟨aw_in 1068 (by decide +kernel) rfl, aw_in 104 (by decide +kernel) rfl, ⟨by decide +kernel, by decide +kernel, by decide +kernel⟩, by decide +kernel, Nat.le_of_ble_eq_true rfl, by decide +kernel⟩
theorem vX5_doesOwe : aw_mV mX5_doesOwe := ⟨aw_in 1067 (by decide +kernel) rfl, aw_in 94 (by decide +kernel) rfl⟩
abbrev mX5_strikesTwo : MI := (yX5_strikesTwo, cX5_strikesTwo, 4, (some .boolean))
theorem fX5_strikesTwo : aw_mf mX5_strikesTwo 0 := ⟨aw_in 1064 (by decide +kernel) rfl, aw_in 104 (by decide +kernel) rfl, ⟨by decide +kernel, by decide +kernel, by decide +kernel⟩, by decide +kernel, Nat.le_of_ble_eq_true rfl, by decide +kernel⟩
theorem vX5_strikesTwo : aw_mV mX5_strikesTwo := ⟨aw_in 1063 (by decide +kernel) rfl, aw_in 93 (by decide +kernel) rfl⟩
abbrev mX5_strikesThree : MI := (yX5_strikesThree, cX5_strikesThree, 6, (some .boolean))
theorem fX5_strikesThree : aw_mf mX5_strikesThree 0 := ⟨aw_in 1072 (by decide +kernel) rfl, aw_in 104 (by decide +kernel) rfl, ⟨by decide +kernel, by decide +kernel, by decide +kernel⟩, by decide +kernel, Nat.le_of_ble_eq_true rfl, by decide +kernel⟩
theorem vX5_strikesThree : aw_mV mX5_strikesThree := ⟨aw_in 1071 (by decide +kernel) rfl, aw_in 95 (by decide +kernel) rfl⟩
abbrev mX5_strike : MI := (yX5_strike, cX5_strike, 2, (some .int))
theorem fX5_strike : aw_mf mX5_strike 0 := ⟨aw_in 1060 (by decide +kernel) rfl, aw_in 104 (by decide +kernel) rfl, ⟨by decide +kernel, by decide +kernel, by decide +kernel⟩, by decide +kernel, Nat.le_of_ble_eq_true rfl, by decide +kernel⟩
theorem vX5_strike : aw_mV mX5_strike := ⟨aw_in 1058 (by decide +kernel) rfl, aw_in 1059 (by decide +kernel) rfl⟩
abbrev mX5_areDry : MI := (yX5_areDry, cX5_areDry, 3, (some .boolean))
theorem fX5_areDry : aw_mf mX5_areDry 1 := ⟨aw_in 1080 (by decide +kernel) rfl, aw_in 104 (by decide +kernel) rfl, ⟨by decide +kernel, by decide +kernel, by decide +kernel⟩, by decide +kernel, Nat.le_of_ble_eq_true rfl, by decide +kernel⟩
theorem vX5_areDry : aw_mV mX5_areDry := ⟨aw_in 1079 (by decide +kernel) rfl, aw_in 96 (by decide +kernel) rfl⟩
abbrev mX5_wet : MI := (yX5_wet, cX5_wet, 7, (some .int))
theorem fX5_wet : aw_mf mX5_wet 2 := ⟨aw_in 1076 (by decide +kernel) rfl, aw_in 104 (by decide +kernel) rfl, ⟨by decide +kernel, by decide +kernel, by decide +kernel⟩, by decide +kernel, Nat.le_of_ble_eq_true rfl, by decide +kernel⟩
theorem vX5_wet : aw_mV mX5_wet := ⟨aw_in 1074 (by decide +kernel) rfl, aw_in 1075 (by decide +kernel) rfl⟩
abbrev mX5_row : MI := (yX5_row, cX5_row, 3, (some .int))
theorem fX5_row : aw_mf mX5_row 1 := ⟨aw_in 1084 (by decide +kernel) rfl, aw_in 104 (by decide +kernel) rfl, ⟨by decide +kernel, by decide +kernel, by decide +kernel⟩, by decide +kernel, Nat.le_of_ble_eq_true rfl, by decide +kernel⟩
theorem vX5_row : aw_mV mX5_row := ⟨aw_in 1082 (by decide +kernel) rfl, aw_in 1083 (by decide +kernel) rfl⟩
abbrev mX5_judge : MI := (yX5_judge, cX5_judge, 5, (some .int))
theorem fX5_judge : aw_mf mX5_judge 0 := ⟨aw_in 1088 (by decide +kernel) rfl, aw_in 104 (by decide +kernel) rfl, ⟨by decide +kernel, by decide +kernel, by decide +kernel⟩, by decide +kernel, Nat.le_of_ble_eq_true rfl, by decide +kernel⟩
theorem vX5_judge : aw_mV mX5_judge := ⟨aw_in 1086 (by decide +kernel) rfl, aw_in 1087 (by decide +kernel) rfl⟩
abbrev mX5_seeds : MI := (yX5_seeds, cX5_seeds, 8, (some .int))
theorem fX5_seeds : aw_mf mX5_seeds 2 := ⟨aw_in 1092 (by decide +kernel) rfl, aw_in 104 (by decide +kernel) rfl, ⟨by decide +kernel, by decide +kernel, by decide +kernel⟩, by decide +kernel, Nat.le_of_ble_eq_true rfl, by decide +kernel⟩
theorem vX5_seeds : aw_mV mX5_seeds := ⟨aw_in 1090 (by decide +kernel) rfl, aw_in 1091 (by decide +kernel) rfl⟩
abbrev mX5_sumOf : MI := (yX5_sumOf, cX5_sumOf, 4, (some .int))
theorem fX5_sumOf : aw_mf mX5_sumOf 1 := ⟨aw_in 1103 (by decide +kernel) rfl, aw_in 104 (by decide +kernel) rfl, ⟨by decide +kernel, by decide +kernel, by decide +kernel⟩, by decide +kernel, Nat.le_of_ble_eq_true rfl, by decide +kernel⟩
theorem vX5_sumOf : aw_mV mX5_sumOf := ⟨aw_in 1102 (by decide +kernel) rfl, aw_in 97 (by decide +kernel) rfl⟩
abbrev mX5_count : MI := (yX5_count, cX5_count, 2, (some .int))
theorem fX5_count : aw_mf mX5_count 1 := ⟨aw_in 1099 (by decide +kernel) rfl, aw_in 104 (by decide +kernel) rfl, ⟨by decide +kernel, by decide +kernel, by decide +kernel⟩, by decide +kernel, Nat.le_of_ble_eq_true rfl, by decide +kernel⟩
theorem vX5_count : aw_mV mX5_count := ⟨aw_in 1097 (by decide +kernel) rfl, aw_in 1098 (by decide +kernel) rfl⟩
abbrev mJ6_bitCount_0f7a4 : MI := (yJ6_bitCount_0f7a4, cJ6_bitCount_0f7a4, 1, (some .int))
theorem fJ6_bitCount_0f7a4 : aw_mf mJ6_bitCount_0f7a4 1 := ⟨aw_in 641 (by decide +kernel) rfl, aw_in 107 (by decide +kernel) rfl, ⟨by decide +kernel, by decide +kernel, by decide +kernel⟩, by decide +kernel, Nat.le_of_ble_eq_true rfl, by decide +kernel⟩
theorem sJ6_bitCount_0f7a4 : Cond.static mJ6_bitCount_0f7a4.1 ∈ aw_gt := aw_in 640 (by decide +kernel) rfl
abbrev mL_law : MI := (x, code, maxLocals, ret)
theorem oL : Cond.initialized RL ∈ aw_gt := aw_in 98 (by decide +kernel) rfl
theorem oX4 : Cond.initialized RX4 ∈ aw_gt := aw_in 99 (by decide +kernel) rfl
theorem oX3 : Cond.initialized RX3 ∈ aw_gt := aw_in 100 (by decide +kernel) rfl
theorem oX2 : Cond.initialized RX2 ∈ aw_gt := aw_in 101 (by decide +kernel) rfl
theorem oX0 : Cond.initialized RX0 ∈ aw_gt := aw_in 102 (by decide +kernel) rfl
theorem oX1 : Cond.initialized RX1 ∈ aw_gt := aw_in 103 (by decide +kernel) rfl
theorem oX5 : Cond.initialized RX5 ∈ aw_gt := aw_in 104 (by decide +kernel) rfl
theorem oJ10 : Cond.initialized RJ10 ∈ aw_gt := aw_in 105 (by decide +kernel) rfl
theorem oJ9 : Cond.initialized RJ9 ∈ aw_gt := aw_in 106 (by decide +kernel) rfl
theorem oJ6 : Cond.initialized RJ6 ∈ aw_gt := aw_in 107 (by decide +kernel) rfl
theorem cL_7 : Cond.classLink RL 7 RX4 ∈ aw_gt := aw_in 108 (by decide +kernel) rfl
theorem tX4 : Cond.instantiable RX4 9 ∈ aw_gt := aw_in 109 (by decide +kernel) rfl
theorem lL_9 : aw_ml RL 9 yX4_init := Or.inl (aw_in 110 (by decide +kernel) rfl)
theorem lX4_1 : Cond.methodLink RX4 1 objectInit ∈ aw_gt := aw_in 113 (by decide +kernel) rfl
theorem cX4_7 : Cond.classLink RX4 7 RX3 ∈ aw_gt := aw_in 116 (by decide +kernel) rfl
theorem tX3 : Cond.instantiable RX3 10 ∈ aw_gt := aw_in 117 (by decide +kernel) rfl
theorem lX4_9 : aw_ml RX4 9 yX3_init := Or.inr ⟨"OverByTheHand", aw_inN 118 (by decide +kernel) rfl⟩
theorem lX3_3 : Cond.methodLink RX3 3 objectInit ∈ aw_gt := aw_in 121 (by decide +kernel) rfl
theorem cX3_34 : Cond.classLink RX3 34 RX2 ∈ aw_gt := aw_in 122 (by decide +kernel) rfl
theorem tX2 : Cond.instantiable RX2 6 ∈ aw_gt := aw_in 124 (by decide +kernel) rfl
theorem lX3_46 : aw_ml RX3 46 yX2_init := Or.inr ⟨"OverByTheHand", aw_inN 125 (by decide +kernel) rfl⟩
theorem lX2_3 : Cond.methodLink RX2 3 objectInit ∈ aw_gt := aw_in 128 (by decide +kernel) rfl
theorem gX2_9 : aw_fl RX2 9 2 0 false false := ⟨RX2, TX2, 6, kX2, Nat.le_of_ble_eq_true rfl, rfl, (fun h => by cases h), Or.inl ⟨rfl, aw_in 129 (by decide +kernel) rfl⟩⟩
theorem gX4_86 : aw_fl RX4 86 2 0 false true := ⟨RX2, TX2, 6, kX2, Nat.le_of_ble_eq_true rfl, rfl, (fun h => by cases h), Or.inr ⟨rfl, "OverByTheHand", aw_inN 130 (by decide +kernel) rfl⟩⟩
theorem gX3_147 : aw_fl RX3 147 2 0 false true := ⟨RX2, TX2, 6, kX2, Nat.le_of_ble_eq_true rfl, rfl, (fun h => by cases h), Or.inr ⟨rfl, "OverByTheHand", aw_inN 131 (by decide +kernel) rfl⟩⟩
theorem gX2_15 : aw_fl RX2 15 2 1 false false := ⟨RX2, TX2, 6, kX2, Nat.le_of_ble_eq_true rfl, rfl, (fun h => by cases h), Or.inl ⟨rfl, aw_in 132 (by decide +kernel) rfl⟩⟩
theorem gX4_91 : aw_fl RX4 91 2 1 false true := ⟨RX2, TX2, 6, kX2, Nat.le_of_ble_eq_true rfl, rfl, (fun h => by cases h), Or.inr ⟨rfl, "OverByTheHand", aw_inN 133 (by decide +kernel) rfl⟩⟩
theorem gX3_150 : aw_fl RX3 150 2 1 false true := ⟨RX2, TX2, 6, kX2, Nat.le_of_ble_eq_true rfl, rfl, (fun h => by cases h), Or.inr ⟨rfl, "OverByTheHand", aw_inN 134 (by decide +kernel) rfl⟩⟩
theorem gX2_18 : aw_fl RX2 18 2 2 false false := ⟨RX2, TX2, 6, kX2, Nat.le_of_ble_eq_true rfl, rfl, (fun h => by cases h), Or.inl ⟨rfl, aw_in 135 (by decide +kernel) rfl⟩⟩
theorem gX4_94 : aw_fl RX4 94 2 2 false true := ⟨RX2, TX2, 6, kX2, Nat.le_of_ble_eq_true rfl, rfl, (fun h => by cases h), Or.inr ⟨rfl, "OverByTheHand", aw_inN 136 (by decide +kernel) rfl⟩⟩
theorem gX3_153 : aw_fl RX3 153 2 2 false true := ⟨RX2, TX2, 6, kX2, Nat.le_of_ble_eq_true rfl, rfl, (fun h => by cases h), Or.inr ⟨rfl, "OverByTheHand", aw_inN 137 (by decide +kernel) rfl⟩⟩
theorem gX2_21 : aw_fl RX2 21 2 3 false false := ⟨RX2, TX2, 6, kX2, Nat.le_of_ble_eq_true rfl, rfl, (fun h => by cases h), Or.inl ⟨rfl, aw_in 138 (by decide +kernel) rfl⟩⟩
theorem gX4_97 : aw_fl RX4 97 2 3 false true := ⟨RX2, TX2, 6, kX2, Nat.le_of_ble_eq_true rfl, rfl, (fun h => by cases h), Or.inr ⟨rfl, "OverByTheHand", aw_inN 139 (by decide +kernel) rfl⟩⟩
theorem gX3_156 : aw_fl RX3 156 2 3 false true := ⟨RX2, TX2, 6, kX2, Nat.le_of_ble_eq_true rfl, rfl, (fun h => by cases h), Or.inr ⟨rfl, "OverByTheHand", aw_inN 140 (by decide +kernel) rfl⟩⟩
theorem gX2_24 : aw_fl RX2 24 2 4 false false := ⟨RX2, TX2, 6, kX2, Nat.le_of_ble_eq_true rfl, rfl, (fun h => by cases h), Or.inl ⟨rfl, aw_in 141 (by decide +kernel) rfl⟩⟩
theorem gX4_100 : aw_fl RX4 100 2 4 false true := ⟨RX2, TX2, 6, kX2, Nat.le_of_ble_eq_true rfl, rfl, (fun h => by cases h), Or.inr ⟨rfl, "OverByTheHand", aw_inN 142 (by decide +kernel) rfl⟩⟩
theorem gX3_117 : aw_fl RX3 117 2 4 false true := ⟨RX2, TX2, 6, kX2, Nat.le_of_ble_eq_true rfl, rfl, (fun h => by cases h), Or.inr ⟨rfl, "OverByTheHand", aw_inN 143 (by decide +kernel) rfl⟩⟩
theorem gX2_27 : aw_fl RX2 27 2 5 false false := ⟨RX2, TX2, 6, kX2, Nat.le_of_ble_eq_true rfl, rfl, (fun h => by cases h), Or.inl ⟨rfl, aw_in 144 (by decide +kernel) rfl⟩⟩
theorem gX3_61 : aw_fl RX3 61 2 5 false true := ⟨RX2, TX2, 6, kX2, Nat.le_of_ble_eq_true rfl, rfl, (fun h => by cases h), Or.inr ⟨rfl, "OverByTheHand", aw_inN 145 (by decide +kernel) rfl⟩⟩
theorem gX4_130 : aw_fl RX4 130 2 5 false true := ⟨RX2, TX2, 6, kX2, Nat.le_of_ble_eq_true rfl, rfl, (fun h => by cases h), Or.inr ⟨rfl, "OverByTheHand", aw_inN 146 (by decide +kernel) rfl⟩⟩
theorem aw_arr : Cond.arrayClass .int ∈ aw_gt := aw_in 160 (by decide +kernel) rfl
theorem gX3_9 : aw_fl RX3 9 3 0 false false := ⟨RX3, TX3, 10, kX3, Nat.le_of_ble_eq_true rfl, rfl, (fun h => by cases h), Or.inl ⟨rfl, aw_in 161 (by decide +kernel) rfl⟩⟩
theorem gX1_51 : aw_fl RX1 51 3 0 false true := ⟨RX3, TX3, 10, kX3, Nat.le_of_ble_eq_true rfl, rfl, (fun h => by cases h), Or.inr ⟨rfl, "OverByTheHand", aw_inN 162 (by decide +kernel) rfl⟩⟩
theorem gX4_149 : aw_fl RX4 149 3 0 false true := ⟨RX3, TX3, 10, kX3, Nat.le_of_ble_eq_true rfl, rfl, (fun h => by cases h), Or.inr ⟨rfl, "OverByTheHand", aw_inN 163 (by decide +kernel) rfl⟩⟩
theorem gX3_15 : aw_fl RX3 15 3 1 false false := ⟨RX3, TX3, 10, kX3, Nat.le_of_ble_eq_true rfl, rfl, (fun h => by cases h), Or.inl ⟨rfl, aw_in 164 (by decide +kernel) rfl⟩⟩
theorem gX1_43 : aw_fl RX1 43 3 1 false true := ⟨RX3, TX3, 10, kX3, Nat.le_of_ble_eq_true rfl, rfl, (fun h => by cases h), Or.inr ⟨rfl, "OverByTheHand", aw_inN 165 (by decide +kernel) rfl⟩⟩
theorem gX4_109 : aw_fl RX4 109 3 1 false true := ⟨RX3, TX3, 10, kX3, Nat.le_of_ble_eq_true rfl, rfl, (fun h => by cases h), Or.inr ⟨rfl, "OverByTheHand", aw_inN 166 (by decide +kernel) rfl⟩⟩
theorem gX0_56 : aw_fl RX0 56 3 1 false true := ⟨RX3, TX3, 10, kX3, Nat.le_of_ble_eq_true rfl, rfl, (fun h => by cases h), Or.inr ⟨rfl, "OverByTheHand", aw_inN 167 (by decide +kernel) rfl⟩⟩
theorem gX3_18 : aw_fl RX3 18 3 2 false false := ⟨RX3, TX3, 10, kX3, Nat.le_of_ble_eq_true rfl, rfl, (fun h => by cases h), Or.inl ⟨rfl, aw_in 168 (by decide +kernel) rfl⟩⟩
theorem gX4_235 : aw_fl RX4 235 3 2 false true := ⟨RX3, TX3, 10, kX3, Nat.le_of_ble_eq_true rfl, rfl, (fun h => by cases h), Or.inr ⟨rfl, "OverByTheHand", aw_inN 169 (by decide +kernel) rfl⟩⟩
theorem gX3_21 : aw_fl RX3 21 3 3 false false := ⟨RX3, TX3, 10, kX3, Nat.le_of_ble_eq_true rfl, rfl, (fun h => by cases h), Or.inl ⟨rfl, aw_in 170 (by decide +kernel) rfl⟩⟩
theorem gX1_65 : aw_fl RX1 65 3 3 false true := ⟨RX3, TX3, 10, kX3, Nat.le_of_ble_eq_true rfl, rfl, (fun h => by cases h), Or.inr ⟨rfl, "OverByTheHand", aw_inN 171 (by decide +kernel) rfl⟩⟩
theorem gX4_146 : aw_fl RX4 146 3 3 false true := ⟨RX3, TX3, 10, kX3, Nat.le_of_ble_eq_true rfl, rfl, (fun h => by cases h), Or.inr ⟨rfl, "OverByTheHand", aw_inN 172 (by decide +kernel) rfl⟩⟩
theorem gX3_24 : aw_fl RX3 24 3 4 true false := ⟨RX3, TX3, 10, kX3, Nat.le_of_ble_eq_true rfl, rfl, (fun _ => rfl), Or.inl ⟨rfl, aw_in 173 (by decide +kernel) rfl⟩⟩
theorem gX4_70 : aw_fl RX4 70 3 4 true true := ⟨RX3, TX3, 10, kX3, Nat.le_of_ble_eq_true rfl, rfl, (fun _ => rfl), Or.inr ⟨rfl, "OverByTheHand", aw_inN 174 (by decide +kernel) rfl⟩⟩
theorem gX3_28 : aw_fl RX3 28 3 5 true false := ⟨RX3, TX3, 10, kX3, Nat.le_of_ble_eq_true rfl, rfl, (fun _ => rfl), Or.inl ⟨rfl, aw_in 175 (by decide +kernel) rfl⟩⟩
theorem gX4_73 : aw_fl RX4 73 3 5 true true := ⟨RX3, TX3, 10, kX3, Nat.le_of_ble_eq_true rfl, rfl, (fun _ => rfl), Or.inr ⟨rfl, "OverByTheHand", aw_inN 176 (by decide +kernel) rfl⟩⟩
theorem gX3_31 : aw_fl RX3 31 3 6 true false := ⟨RX3, TX3, 10, kX3, Nat.le_of_ble_eq_true rfl, rfl, (fun _ => rfl), Or.inl ⟨rfl, aw_in 177 (by decide +kernel) rfl⟩⟩
theorem gX4_76 : aw_fl RX4 76 3 6 true true := ⟨RX3, TX3, 10, kX3, Nat.le_of_ble_eq_true rfl, rfl, (fun _ => rfl), Or.inr ⟨rfl, "OverByTheHand", aw_inN 178 (by decide +kernel) rfl⟩⟩
theorem gX1_90 : aw_fl RX1 90 3 6 true true := ⟨RX3, TX3, 10, kX3, Nat.le_of_ble_eq_true rfl, rfl, (fun _ => rfl), Or.inr ⟨rfl, "OverByTheHand", aw_inN 179 (by decide +kernel) rfl⟩⟩
theorem gX3_36 : aw_fl RX3 36 3 7 true false := ⟨RX3, TX3, 10, kX3, Nat.le_of_ble_eq_true rfl, rfl, (fun _ => rfl), Or.inl ⟨rfl, aw_in 180 (by decide +kernel) rfl⟩⟩
theorem gX1_37 : aw_fl RX1 37 3 7 true true := ⟨RX3, TX3, 10, kX3, Nat.le_of_ble_eq_true rfl, rfl, (fun _ => rfl), Or.inr ⟨rfl, "OverByTheHand", aw_inN 181 (by decide +kernel) rfl⟩⟩
theorem gX4_82 : aw_fl RX4 82 3 7 true true := ⟨RX3, TX3, 10, kX3, Nat.le_of_ble_eq_true rfl, rfl, (fun _ => rfl), Or.inr ⟨rfl, "OverByTheHand", aw_inN 182 (by decide +kernel) rfl⟩⟩
theorem gX3_40 : aw_fl RX3 40 3 8 true false := ⟨RX3, TX3, 10, kX3, Nat.le_of_ble_eq_true rfl, rfl, (fun _ => rfl), Or.inl ⟨rfl, aw_in 183 (by decide +kernel) rfl⟩⟩
theorem gX3_43 : aw_fl RX3 43 3 9 true false := ⟨RX3, TX3, 10, kX3, Nat.le_of_ble_eq_true rfl, rfl, (fun _ => rfl), Or.inl ⟨rfl, aw_in 184 (by decide +kernel) rfl⟩⟩
theorem cX4_26 : Cond.classLink RX4 26 RX0 ∈ aw_gt := aw_in 206 (by decide +kernel) rfl
theorem tX0 : Cond.instantiable RX0 2 ∈ aw_gt := aw_in 207 (by decide +kernel) rfl
theorem lX4_28 : aw_ml RX4 28 yX0_init := Or.inr ⟨"OverByTheHand", aw_inN 208 (by decide +kernel) rfl⟩
theorem lX0_3 : Cond.methodLink RX0 3 objectInit ∈ aw_gt := aw_in 211 (by decide +kernel) rfl
theorem gX0_9 : aw_fl RX0 9 0 0 true false := ⟨RX0, TX0, 2, kX0, Nat.le_of_ble_eq_true rfl, rfl, (fun _ => rfl), Or.inl ⟨rfl, aw_in 212 (by decide +kernel) rfl⟩⟩
theorem gX0_15 : aw_fl RX0 15 0 1 false false := ⟨RX0, TX0, 2, kX0, Nat.le_of_ble_eq_true rfl, rfl, (fun h => by cases h), Or.inl ⟨rfl, aw_in 213 (by decide +kernel) rfl⟩⟩
theorem gX4_55 : aw_fl RX4 55 0 1 false true := ⟨RX0, TX0, 2, kX0, Nat.le_of_ble_eq_true rfl, rfl, (fun h => by cases h), Or.inr ⟨rfl, "OverByTheHand", aw_inN 214 (by decide +kernel) rfl⟩⟩
theorem cX4_33 : Cond.classLink RX4 33 RX1 ∈ aw_gt := aw_in 220 (by decide +kernel) rfl
theorem tX1 : Cond.instantiable RX1 8 ∈ aw_gt := aw_in 221 (by decide +kernel) rfl
theorem lX4_35 : aw_ml RX4 35 yX1_init := Or.inr ⟨"OverByTheHand", aw_inN 222 (by decide +kernel) rfl⟩
theorem lX1_3 : Cond.methodLink RX1 3 objectInit ∈ aw_gt := aw_in 225 (by decide +kernel) rfl
theorem gX1_9 : aw_fl RX1 9 1 0 true false := ⟨RX1, TX1, 8, kX1, Nat.le_of_ble_eq_true rfl, rfl, (fun _ => rfl), Or.inl ⟨rfl, aw_in 226 (by decide +kernel) rfl⟩⟩
theorem gX1_15 : aw_fl RX1 15 1 1 true false := ⟨RX1, TX1, 8, kX1, Nat.le_of_ble_eq_true rfl, rfl, (fun _ => rfl), Or.inl ⟨rfl, aw_in 227 (by decide +kernel) rfl⟩⟩
theorem gX1_18 : aw_fl RX1 18 1 2 true false := ⟨RX1, TX1, 8, kX1, Nat.le_of_ble_eq_true rfl, rfl, (fun _ => rfl), Or.inl ⟨rfl, aw_in 228 (by decide +kernel) rfl⟩⟩
theorem gX1_21 : aw_fl RX1 21 1 3 false false := ⟨RX1, TX1, 8, kX1, Nat.le_of_ble_eq_true rfl, rfl, (fun h => by cases h), Or.inl ⟨rfl, aw_in 229 (by decide +kernel) rfl⟩⟩
theorem gX4_179 : aw_fl RX4 179 1 3 false true := ⟨RX1, TX1, 8, kX1, Nat.le_of_ble_eq_true rfl, rfl, (fun h => by cases h), Or.inr ⟨rfl, "OverByTheHand", aw_inN 230 (by decide +kernel) rfl⟩⟩
theorem gX1_25 : aw_fl RX1 25 1 4 false false := ⟨RX1, TX1, 8, kX1, Nat.le_of_ble_eq_true rfl, rfl, (fun h => by cases h), Or.inl ⟨rfl, aw_in 231 (by decide +kernel) rfl⟩⟩
theorem gX4_182 : aw_fl RX4 182 1 4 false true := ⟨RX1, TX1, 8, kX1, Nat.le_of_ble_eq_true rfl, rfl, (fun h => by cases h), Or.inr ⟨rfl, "OverByTheHand", aw_inN 232 (by decide +kernel) rfl⟩⟩
theorem gX1_28 : aw_fl RX1 28 1 5 true false := ⟨RX1, TX1, 8, kX1, Nat.le_of_ble_eq_true rfl, rfl, (fun _ => rfl), Or.inl ⟨rfl, aw_in 233 (by decide +kernel) rfl⟩⟩
theorem gX4_185 : aw_fl RX4 185 1 5 true true := ⟨RX1, TX1, 8, kX1, Nat.le_of_ble_eq_true rfl, rfl, (fun _ => rfl), Or.inr ⟨rfl, "OverByTheHand", aw_inN 234 (by decide +kernel) rfl⟩⟩
theorem gX1_31 : aw_fl RX1 31 1 6 false false := ⟨RX1, TX1, 8, kX1, Nat.le_of_ble_eq_true rfl, rfl, (fun h => by cases h), Or.inl ⟨rfl, aw_in 235 (by decide +kernel) rfl⟩⟩
theorem gX4_188 : aw_fl RX4 188 1 6 false true := ⟨RX1, TX1, 8, kX1, Nat.le_of_ble_eq_true rfl, rfl, (fun h => by cases h), Or.inr ⟨rfl, "OverByTheHand", aw_inN 236 (by decide +kernel) rfl⟩⟩
theorem gX1_34 : aw_fl RX1 34 1 7 true false := ⟨RX1, TX1, 8, kX1, Nat.le_of_ble_eq_true rfl, rfl, (fun _ => rfl), Or.inl ⟨rfl, aw_in 237 (by decide +kernel) rfl⟩⟩
theorem gX4_225 : aw_fl RX4 225 1 7 true true := ⟨RX1, TX1, 8, kX1, Nat.le_of_ble_eq_true rfl, rfl, (fun _ => rfl), Or.inr ⟨rfl, "OverByTheHand", aw_inN 238 (by decide +kernel) rfl⟩⟩
theorem gX4_10 : aw_fl RX4 10 4 0 true false := ⟨RX4, TX4, 9, kX4, Nat.le_of_ble_eq_true rfl, rfl, (fun _ => rfl), Or.inl ⟨rfl, aw_in 256 (by decide +kernel) rfl⟩⟩
theorem gX4_16 : aw_fl RX4 16 4 1 true false := ⟨RX4, TX4, 9, kX4, Nat.le_of_ble_eq_true rfl, rfl, (fun _ => rfl), Or.inl ⟨rfl, aw_in 257 (by decide +kernel) rfl⟩⟩
theorem gX4_19 : aw_fl RX4 19 4 2 true false := ⟨RX4, TX4, 9, kX4, Nat.le_of_ble_eq_true rfl, rfl, (fun _ => rfl), Or.inl ⟨rfl, aw_in 258 (by decide +kernel) rfl⟩⟩
theorem gX4_22 : aw_fl RX4 22 4 3 false false := ⟨RX4, TX4, 9, kX4, Nat.le_of_ble_eq_true rfl, rfl, (fun h => by cases h), Or.inl ⟨rfl, aw_in 259 (by decide +kernel) rfl⟩⟩
theorem gX4_29 : aw_fl RX4 29 4 4 true false := ⟨RX4, TX4, 9, kX4, Nat.le_of_ble_eq_true rfl, rfl, (fun _ => rfl), Or.inl ⟨rfl, aw_in 260 (by decide +kernel) rfl⟩⟩
theorem gX4_36 : aw_fl RX4 36 4 5 true false := ⟨RX4, TX4, 9, kX4, Nat.le_of_ble_eq_true rfl, rfl, (fun _ => rfl), Or.inl ⟨rfl, aw_in 261 (by decide +kernel) rfl⟩⟩
theorem gX4_40 : aw_fl RX4 40 4 6 true false := ⟨RX4, TX4, 9, kX4, Nat.le_of_ble_eq_true rfl, rfl, (fun _ => rfl), Or.inl ⟨rfl, aw_in 262 (by decide +kernel) rfl⟩⟩
theorem gX4_44 : aw_fl RX4 44 4 7 false false := ⟨RX4, TX4, 9, kX4, Nat.le_of_ble_eq_true rfl, rfl, (fun h => by cases h), Or.inl ⟨rfl, aw_in 263 (by decide +kernel) rfl⟩⟩
theorem gX4_48 : aw_fl RX4 48 4 8 true false := ⟨RX4, TX4, 9, kX4, Nat.le_of_ble_eq_true rfl, rfl, (fun _ => rfl), Or.inl ⟨rfl, aw_in 264 (by decide +kernel) rfl⟩⟩
theorem lL_13 : aw_ml RL 13 yX4_feed := Or.inl (aw_in 284 (by decide +kernel) rfl)
theorem lX4_51 : aw_ml RX4 51 yX4_refuse := Or.inl (aw_in 288 (by decide +kernel) rfl)
theorem lX4_58 : aw_ml RX4 58 yX0_take := Or.inr ⟨"OverByTheHand", aw_inN 292 (by decide +kernel) rfl⟩
theorem lL_18 : aw_ml RL 18 yX4_river := Or.inl (aw_in 296 (by decide +kernel) rfl)
theorem lX4_62 : aw_ml RX4 62 yX4_tellRiver := Or.inl (aw_in 300 (by decide +kernel) rfl)
theorem lX4_244 : aw_ml RX4 244 yX0_firstWrong := Or.inr ⟨"OverByTheHand", aw_inN 304 (by decide +kernel) rfl⟩
theorem lX0_37 : aw_ml RX0 37 yX0_endOf := Or.inl (aw_in 308 (by decide +kernel) rfl)
theorem lX0_19 : aw_ml RX0 19 yX0_at := Or.inl (aw_in 312 (by decide +kernel) rfl)
theorem lX0_27 : aw_ml RX0 27 yX0_leastDigits := Or.inl (aw_in 316 (by decide +kernel) rfl)
theorem lX0_30 : aw_ml RX0 30 yX0_mostDigits := Or.inl (aw_in 319 (by decide +kernel) rfl)
theorem lX0_33 : aw_ml RX0 33 yX0_digitsFrom := Or.inl (aw_in 322 (by decide +kernel) rfl)
theorem lX0_23 : aw_ml RX0 23 yX0_isDigit := Or.inl (aw_in 326 (by decide +kernel) rfl)
theorem lX4_191 : aw_ml RX4 191 yX3_copyFrom := Or.inr ⟨"OverByTheHand", aw_inN 330 (by decide +kernel) rfl⟩
theorem lX3_47 : Cond.methodLink RX3 47 arraycopyName ∈ aw_gt := aw_in 334 (by decide +kernel) rfl
theorem lX3_53 : aw_ml RX3 53 yX2_copyFrom := Or.inr ⟨"OverByTheHand", aw_inN 337 (by decide +kernel) rfl⟩
theorem lX4_247 : aw_ml RX4 247 yX0_tellTo := Or.inr ⟨"OverByTheHand", aw_inN 341 (by decide +kernel) rfl⟩
theorem lX0_40 : aw_ml RX0 40 yX0_tellStatement := Or.inl (aw_in 345 (by decide +kernel) rfl)
theorem lX0_44 : aw_ml RX0 44 yX0_digit := Or.inl (aw_in 349 (by decide +kernel) rfl)
theorem lX0_47 : aw_ml RX0 47 yX3_tellYards := Or.inr ⟨"OverByTheHand", aw_inN 353 (by decide +kernel) rfl⟩
theorem lX3_141 : aw_ml RX3 141 yX3_emptyWater := Or.inl (aw_in 357 (by decide +kernel) rfl)
theorem lX0_52 : aw_ml RX0 52 yX3_tellYard := Or.inr ⟨"OverByTheHand", aw_inN 361 (by decide +kernel) rfl⟩
theorem lX3_144 : aw_ml RX3 144 yX3_isYard := Or.inl (aw_in 365 (by decide +kernel) rfl)
theorem lX0_59 : aw_ml RX0 59 yX0_warmthAt := Or.inl (aw_in 369 (by decide +kernel) rfl)
theorem lX0_62 : aw_ml RX0 62 yX3_tellPerson := Or.inr ⟨"OverByTheHand", aw_inN 373 (by decide +kernel) rfl⟩
theorem lX0_66 : aw_ml RX0 66 yX3_tellGrudge := Or.inr ⟨"OverByTheHand", aw_inN 377 (by decide +kernel) rfl⟩
theorem lX3_159 : aw_ml RX3 159 yX3_areTwo := Or.inl (aw_in 381 (by decide +kernel) rfl)
theorem lX3_57 : aw_ml RX3 57 yX3_isPerson := Or.inl (aw_in 385 (by decide +kernel) rfl)
theorem lX3_102 : aw_ml RX3 102 yX3_grudgeOf := Or.inl (aw_in 389 (by decide +kernel) rfl)
theorem lX3_163 : aw_ml RX3 163 yX3_setGrudge := Or.inl (aw_in 393 (by decide +kernel) rfl)
theorem lX0_70 : aw_ml RX0 70 yX3_tellIn := Or.inr ⟨"OverByTheHand", aw_inN 397 (by decide +kernel) rfl⟩
theorem lX3_166 : aw_ml RX3 166 yX3_enter := Or.inl (aw_in 401 (by decide +kernel) rfl)
theorem lL_23 : aw_ml RL 23 yX4_yard := Or.inl (aw_in 405 (by decide +kernel) rfl)
theorem lX4_66 : aw_ml RX4 66 yX3_isYard := Or.inr ⟨"OverByTheHand", aw_inN 409 (by decide +kernel) rfl⟩
theorem lL_28 : aw_ml RL 28 yX4_person := Or.inl (aw_in 410 (by decide +kernel) rfl)
theorem lX4_79 : aw_ml RX4 79 yX3_isPerson := Or.inr ⟨"OverByTheHand", aw_inN 414 (by decide +kernel) rfl⟩
theorem lX4_103 : aw_ml RX4 103 yX2_reaches := Or.inr ⟨"OverByTheHand", aw_inN 415 (by decide +kernel) rfl⟩
theorem lX4_106 : aw_ml RX4 106 yX2_holds := Or.inr ⟨"OverByTheHand", aw_inN 419 (by decide +kernel) rfl⟩
theorem lX2_31 : Cond.methodLink RX2 31 Lib.Math.max.name ∈ aw_gt := aw_in 423 (by decide +kernel) rfl
theorem lX4_112 : aw_ml RX4 112 yX2_cools := Or.inr ⟨"OverByTheHand", aw_inN 426 (by decide +kernel) rfl⟩
theorem lX4_115 : aw_ml RX4 115 yX3_placeOf := Or.inr ⟨"OverByTheHand", aw_inN 430 (by decide +kernel) rfl⟩
theorem lL_32 : aw_ml RL 32 yX4_grudge := Or.inl (aw_in 434 (by decide +kernel) rfl)
theorem lX4_118 : aw_ml RX4 118 yX3_areTwo := Or.inr ⟨"OverByTheHand", aw_inN 438 (by decide +kernel) rfl⟩
theorem lX4_122 : aw_ml RX4 122 yX3_grudgeOf := Or.inr ⟨"OverByTheHand", aw_inN 439 (by decide +kernel) rfl⟩
theorem lL_36 : aw_ml RL 36 yX4_quarrel := Or.inl (aw_in 440 (by decide +kernel) rfl)
theorem lX4_126 : aw_ml RX4 126 yX3_setGrudge := Or.inr ⟨"OverByTheHand", aw_inN 444 (by decide +kernel) rfl⟩
theorem lL_41 : aw_ml RL 41 yX4_cold := Or.inl (aw_in 445 (by decide +kernel) rfl)
theorem lL_45 : aw_ml RL 45 yX4_put := Or.inl (aw_in 449 (by decide +kernel) rfl)
theorem lX4_133 : aw_ml RX4 133 yX3_enter := Or.inr ⟨"OverByTheHand", aw_inN 453 (by decide +kernel) rfl⟩
theorem lL_49 : aw_ml RL 49 yX4_out := Or.inl (aw_in 454 (by decide +kernel) rfl)
theorem lX4_137 : aw_ml RX4 137 yX3_inWater := Or.inr ⟨"OverByTheHand", aw_inN 458 (by decide +kernel) rfl⟩
theorem lX4_140 : aw_ml RX4 140 yX3_overThere := Or.inr ⟨"OverByTheHand", aw_inN 462 (by decide +kernel) rfl⟩
theorem lX4_143 : aw_ml RX4 143 yX3_emptyWater := Or.inr ⟨"OverByTheHand", aw_inN 466 (by decide +kernel) rfl⟩
theorem lL_53 : aw_ml RL 53 yX4_load := Or.inl (aw_in 467 (by decide +kernel) rfl)
theorem lX4_152 : aw_ml RX4 152 yX3_loadOf := Or.inr ⟨"OverByTheHand", aw_inN 471 (by decide +kernel) rfl⟩
theorem lX3_81 : Cond.methodLink RX3 81 Lib.Math.min.name ∈ aw_gt := aw_in 475 (by decide +kernel) rfl
theorem lL_57 : aw_ml RL 57 yX4_slips := Or.inl (aw_in 478 (by decide +kernel) rfl)
theorem lX4_155 : aw_ml RX4 155 yX3_firstSlip := Or.inr ⟨"OverByTheHand", aw_inN 482 (by decide +kernel) rfl⟩
theorem lX3_105 : aw_ml RX3 105 yX3_whySlips := Or.inl (aw_in 486 (by decide +kernel) rfl)
theorem lX3_99 : aw_ml RX3 99 yX3_whyNot := Or.inl (aw_in 490 (by decide +kernel) rfl)
theorem lX3_87 : aw_ml RX3 87 yX2_reaches := Or.inr ⟨"OverByTheHand", aw_inN 494 (by decide +kernel) rfl⟩
theorem lX3_90 : aw_ml RX3 90 yX2_holds := Or.inr ⟨"OverByTheHand", aw_inN 495 (by decide +kernel) rfl⟩
theorem lX3_93 : aw_ml RX3 93 yX3_loadOf := Or.inl (aw_in 496 (by decide +kernel) rfl)
theorem lX3_96 : Cond.methodLink RX3 96 Lib.Math.max.name ∈ aw_gt := aw_in 497 (by decide +kernel) rfl
theorem lX4_159 : aw_ml RX4 159 yX3_whySlips := Or.inr ⟨"OverByTheHand", aw_inN 498 (by decide +kernel) rfl⟩
theorem lL_61 : aw_ml RL 61 yX4_lasts := Or.inl (aw_in 499 (by decide +kernel) rfl)
theorem lX4_163 : aw_ml RX4 163 yX3_minutesOf := Or.inr ⟨"OverByTheHand", aw_inN 503 (by decide +kernel) rfl⟩
theorem lX3_109 : aw_ml RX3 109 yX3_firstSlip := Or.inl (aw_in 507 (by decide +kernel) rfl)
theorem nX3_113 : Cond.constant RX3 113 (2147483647) ∈ aw_gt := aw_in 508 (by decide +kernel) rfl
theorem lX3_114 : aw_ml RX3 114 yX2_minutes := Or.inr ⟨"OverByTheHand", aw_inN 509 (by decide +kernel) rfl⟩
theorem lX2_37 : aw_ml RX2 37 yX2_cools := Or.inl (aw_in 513 (by decide +kernel) rfl)
theorem lL_65 : aw_ml RL 65 yX4_cross := Or.inl (aw_in 514 (by decide +kernel) rfl)
theorem lX4_166 : aw_ml RX4 166 yX3_isNear := Or.inr ⟨"OverByTheHand", aw_inN 518 (by decide +kernel) rfl⟩
theorem lX3_65 : aw_ml RX3 65 yX3_placeOf := Or.inl (aw_in 522 (by decide +kernel) rfl)
theorem lX4_169 : aw_ml RX4 169 yX3_bringOver := Or.inr ⟨"OverByTheHand", aw_inN 523 (by decide +kernel) rfl⟩
theorem lX3_120 : aw_ml RX3 120 yX2_cools := Or.inr ⟨"OverByTheHand", aw_inN 527 (by decide +kernel) rfl⟩
theorem lX3_123 : aw_ml RX3 123 yX3_hoursOf := Or.inl (aw_in 528 (by decide +kernel) rfl)
theorem lX3_126 : aw_ml RX3 126 yX3_setHours := Or.inl (aw_in 532 (by decide +kernel) rfl)
theorem lL_69 : aw_ml RL 69 yX4_chains := Or.inl (aw_in 536 (by decide +kernel) rfl)
theorem lX4_172 : aw_ml RX4 172 yX3_notOver := Or.inr ⟨"OverByTheHand", aw_inN 540 (by decide +kernel) rfl⟩
theorem lX4_175 : aw_ml RX4 175 yX1_thinkOf := Or.inr ⟨"OverByTheHand", aw_inN 544 (by decide +kernel) rfl⟩
theorem lX1_46 : aw_ml RX1 46 yX2_minutes := Or.inr ⟨"OverByTheHand", aw_inN 548 (by decide +kernel) rfl⟩
theorem lX1_54 : aw_ml RX1 54 yX1_ableIn := Or.inl (aw_in 549 (by decide +kernel) rfl)
theorem lX1_68 : aw_ml RX1 68 yX3_whyNot := Or.inr ⟨"OverByTheHand", aw_inN 553 (by decide +kernel) rfl⟩
theorem nX1_60 : Cond.constant RX1 60 (2147483647) ∈ aw_gt := aw_in 554 (by decide +kernel) rfl
theorem lX1_61 : aw_ml RX1 61 yX1_extend := Or.inl (aw_in 555 (by decide +kernel) rfl)
theorem lX1_72 : aw_ml RX1 72 yX1_weigh := Or.inl (aw_in 559 (by decide +kernel) rfl)
theorem lX1_84 : Cond.methodLink RX1 84 arraycopyName ∈ aw_gt := aw_in 563 (by decide +kernel) rfl
theorem lX1_76 : aw_ml RX1 76 yX3_grudgeOf := Or.inr ⟨"OverByTheHand", aw_inN 564 (by decide +kernel) rfl⟩
theorem lX1_79 : Cond.methodLink RX1 79 Lib.Math.min.name ∈ aw_gt := aw_in 565 (by decide +kernel) rfl
theorem lL_73 : aw_ml RL 73 yX4_longest := Or.inl (aw_in 566 (by decide +kernel) rfl)
theorem lL_77 : aw_ml RL 77 yX4_makeUp := Or.inl (aw_in 570 (by decide +kernel) rfl)
theorem lL_81 : aw_ml RL 81 yX4_worth := Or.inl (aw_in 574 (by decide +kernel) rfl)
theorem lL_85 : aw_ml RL 85 yX4_change := Or.inl (aw_in 578 (by decide +kernel) rfl)
theorem lX4_195 : aw_ml RX4 195 yX1_bestChange := Or.inr ⟨"OverByTheHand", aw_inN 582 (by decide +kernel) rfl⟩
theorem lX1_93 : aw_ml RX1 93 yX3_minutesOf := Or.inr ⟨"OverByTheHand", aw_inN 586 (by decide +kernel) rfl⟩
theorem lX1_97 : Cond.methodLink RX1 97 Lib.Math.max.name ∈ aw_gt := aw_in 587 (by decide +kernel) rfl
theorem lX1_100 : aw_ml RX1 100 yX3_isNear := Or.inr ⟨"OverByTheHand", aw_inN 588 (by decide +kernel) rfl⟩
theorem lL_89 : aw_ml RL 89 yX4_flood := Or.inl (aw_in 589 (by decide +kernel) rfl)
theorem lX4_199 : Cond.methodLink RX4 199 Lib.Math.min.name ∈ aw_gt := aw_in 593 (by decide +kernel) rfl
theorem lL_93 : aw_ml RL 93 yX4_overs := Or.inl (aw_in 594 (by decide +kernel) rfl)
theorem lX4_204 : aw_ml RX4 204 yX3_nearBank := Or.inr ⟨"OverByTheHand", aw_inN 598 (by decide +kernel) rfl⟩
theorem lX3_69 : aw_ml RX3 69 yX3_inWater := Or.inl (aw_in 602 (by decide +kernel) rfl)
theorem lX3_73 : aw_ml RX3 73 yX3_overThere := Or.inl (aw_in 603 (by decide +kernel) rfl)
theorem lX4_207 : Cond.methodLink RX4 207 Lib.Math.max.name ∈ aw_gt := aw_in 604 (by decide +kernel) rfl
theorem lL_97 : aw_ml RL 97 yX4_owes := Or.inl (aw_in 605 (by decide +kernel) rfl)
theorem lX4_210 : aw_ml RX4 210 yX3_hoursOf := Or.inr ⟨"OverByTheHand", aw_inN 609 (by decide +kernel) rfl⟩
theorem lL_101 : aw_ml RL 101 yX4_owed := Or.inl (aw_in 610 (by decide +kernel) rfl)
theorem nX4_213 : Cond.constant RX4 213 (1000000000) ∈ aw_gt := aw_in 614 (by decide +kernel) rfl
theorem lL_105 : aw_ml RL 105 yX4_strike := Or.inl (aw_in 615 (by decide +kernel) rfl)
theorem lX4_214 : aw_ml RX4 214 yX3_strikeTwos := Or.inr ⟨"OverByTheHand", aw_inN 619 (by decide +kernel) rfl⟩
theorem lX3_134 : aw_ml RX3 134 yX3_lessenHours := Or.inl (aw_in 623 (by decide +kernel) rfl)
theorem lX4_217 : aw_ml RX4 217 yX3_strikeThrees := Or.inr ⟨"OverByTheHand", aw_inN 627 (by decide +kernel) rfl⟩
theorem lX3_137 : aw_ml RX3 137 yX3_strikeThree := Or.inl (aw_in 631 (by decide +kernel) rfl)
theorem lL_109 : aw_ml RL 109 yX4_wet := Or.inl (aw_in 635 (by decide +kernel) rfl)
theorem lX4_220 : aw_ml RX4 220 yJ6_bitCount_0f7a4 := Or.inl (aw_in 639 (by decide +kernel) rfl)
theorem nJ6_265 : Cond.constant RJ6 265 (1431655765) ∈ aw_gt := aw_in 642 (by decide +kernel) rfl
theorem nJ6_266 : Cond.constant RJ6 266 (858993459) ∈ aw_gt := aw_in 643 (by decide +kernel) rfl
theorem nJ6_267 : Cond.constant RJ6 267 (252645135) ∈ aw_gt := aw_in 644 (by decide +kernel) rfl
theorem lL_113 : aw_ml RL 113 yX4_row := Or.inl (aw_in 645 (by decide +kernel) rfl)
theorem lL_117 : aw_ml RL 117 yX4_judge := Or.inl (aw_in 649 (by decide +kernel) rfl)
theorem lX4_228 : aw_ml RX4 228 yX3_firstAmiss := Or.inr ⟨"OverByTheHand", aw_inN 653 (by decide +kernel) rfl⟩
theorem lX3_130 : aw_ml RX3 130 yX3_canCome := Or.inl (aw_in 657 (by decide +kernel) rfl)
theorem lL_121 : aw_ml RL 121 yX4_seeds := Or.inl (aw_in 661 (by decide +kernel) rfl)
theorem lX4_231 : aw_ml RX4 231 yX1_standingBySeed := Or.inr ⟨"OverByTheHand", aw_inN 665 (by decide +kernel) rfl⟩
theorem nX1_104 : Cond.constant RX1 104 (1103515245) ∈ aw_gt := aw_in 669 (by decide +kernel) rfl
theorem lX1_105 : aw_ml RX1 105 yX1_drawBelow := Or.inl (aw_in 670 (by decide +kernel) rfl)
theorem nX1_112 : Cond.constant RX1 112 (65536) ∈ aw_gt := aw_in 673 (by decide +kernel) rfl
theorem lX1_108 : aw_ml RX1 108 yX3_firstAmiss := Or.inr ⟨"OverByTheHand", aw_inN 674 (by decide +kernel) rfl⟩
theorem lL_125 : aw_ml RL 125 yX4_image := Or.inl (aw_in 675 (by decide +kernel) rfl)
theorem lL_129 : aw_ml RL 129 yX4_restore := Or.inl (aw_in 679 (by decide +kernel) rfl)
theorem lL_133 : aw_ml RL 133 yX4_count := Or.inl (aw_in 683 (by decide +kernel) rfl)
theorem lX4_238 : aw_ml RX4 238 yX3_allGrudges := Or.inr ⟨"OverByTheHand", aw_inN 687 (by decide +kernel) rfl⟩
theorem lX3_76 : aw_ml RX3 76 yJ6_bitCount_0f7a4 := Or.inl (aw_in 691 (by decide +kernel) rfl)
theorem lX4_241 : aw_ml RX4 241 yX3_allHours := Or.inr ⟨"OverByTheHand", aw_inN 692 (by decide +kernel) rfl⟩
theorem cL_10 : Cond.classLink RL 10 RX5 ∈ aw_gt := aw_in 696 (by decide +kernel) rfl
theorem tX5 : Cond.instantiable RX5 35 ∈ aw_gt := aw_in 697 (by decide +kernel) rfl
theorem lL_12 : aw_ml RL 12 yX5_init := Or.inl (aw_in 698 (by decide +kernel) rfl)
theorem lX5_1 : Cond.methodLink RX5 1 objectInit ∈ aw_gt := aw_in 701 (by decide +kernel) rfl
theorem gX5_7 : aw_fl RX5 7 5 0 true false := ⟨RX5, TX5, 35, kX5, Nat.le_of_ble_eq_true rfl, rfl, (fun _ => rfl), Or.inl ⟨rfl, aw_in 702 (by decide +kernel) rfl⟩⟩
theorem gX5_13 : aw_fl RX5 13 5 1 true false := ⟨RX5, TX5, 35, kX5, Nat.le_of_ble_eq_true rfl, rfl, (fun _ => rfl), Or.inl ⟨rfl, aw_in 703 (by decide +kernel) rfl⟩⟩
theorem gX5_16 : aw_fl RX5 16 5 2 true false := ⟨RX5, TX5, 35, kX5, Nat.le_of_ble_eq_true rfl, rfl, (fun _ => rfl), Or.inl ⟨rfl, aw_in 704 (by decide +kernel) rfl⟩⟩
theorem gX5_19 : aw_fl RX5 19 5 3 true false := ⟨RX5, TX5, 35, kX5, Nat.le_of_ble_eq_true rfl, rfl, (fun _ => rfl), Or.inl ⟨rfl, aw_in 705 (by decide +kernel) rfl⟩⟩
theorem gX5_22 : aw_fl RX5 22 5 4 true false := ⟨RX5, TX5, 35, kX5, Nat.le_of_ble_eq_true rfl, rfl, (fun _ => rfl), Or.inl ⟨rfl, aw_in 706 (by decide +kernel) rfl⟩⟩
theorem gX5_25 : aw_fl RX5 25 5 5 true false := ⟨RX5, TX5, 35, kX5, Nat.le_of_ble_eq_true rfl, rfl, (fun _ => rfl), Or.inl ⟨rfl, aw_in 707 (by decide +kernel) rfl⟩⟩
theorem gX5_28 : aw_fl RX5 28 5 6 true false := ⟨RX5, TX5, 35, kX5, Nat.le_of_ble_eq_true rfl, rfl, (fun _ => rfl), Or.inl ⟨rfl, aw_in 708 (by decide +kernel) rfl⟩⟩
theorem gX5_31 : aw_fl RX5 31 5 7 true false := ⟨RX5, TX5, 35, kX5, Nat.le_of_ble_eq_true rfl, rfl, (fun _ => rfl), Or.inl ⟨rfl, aw_in 709 (by decide +kernel) rfl⟩⟩
theorem gX5_34 : aw_fl RX5 34 5 8 true false := ⟨RX5, TX5, 35, kX5, Nat.le_of_ble_eq_true rfl, rfl, (fun _ => rfl), Or.inl ⟨rfl, aw_in 710 (by decide +kernel) rfl⟩⟩
theorem gX5_37 : aw_fl RX5 37 5 9 true false := ⟨RX5, TX5, 35, kX5, Nat.le_of_ble_eq_true rfl, rfl, (fun _ => rfl), Or.inl ⟨rfl, aw_in 711 (by decide +kernel) rfl⟩⟩
theorem gX5_40 : aw_fl RX5 40 5 10 true false := ⟨RX5, TX5, 35, kX5, Nat.le_of_ble_eq_true rfl, rfl, (fun _ => rfl), Or.inl ⟨rfl, aw_in 712 (by decide +kernel) rfl⟩⟩
theorem gX5_43 : aw_fl RX5 43 5 11 true false := ⟨RX5, TX5, 35, kX5, Nat.le_of_ble_eq_true rfl, rfl, (fun _ => rfl), Or.inl ⟨rfl, aw_in 713 (by decide +kernel) rfl⟩⟩
theorem gX5_46 : aw_fl RX5 46 5 12 false false := ⟨RX5, TX5, 35, kX5, Nat.le_of_ble_eq_true rfl, rfl, (fun h => by cases h), Or.inl ⟨rfl, aw_in 714 (by decide +kernel) rfl⟩⟩
theorem gX5_78 : aw_fl RX5 78 5 13 false false := ⟨RX5, TX5, 35, kX5, Nat.le_of_ble_eq_true rfl, rfl, (fun h => by cases h), Or.inl ⟨rfl, aw_in 715 (by decide +kernel) rfl⟩⟩
theorem gX5_50 : aw_fl RX5 50 5 14 false false := ⟨RX5, TX5, 35, kX5, Nat.le_of_ble_eq_true rfl, rfl, (fun h => by cases h), Or.inl ⟨rfl, aw_in 716 (by decide +kernel) rfl⟩⟩
theorem gX5_161 : aw_fl RX5 161 5 15 false false := ⟨RX5, TX5, 35, kX5, Nat.le_of_ble_eq_true rfl, rfl, (fun h => by cases h), Or.inl ⟨rfl, aw_in 717 (by decide +kernel) rfl⟩⟩
theorem gX5_53 : aw_fl RX5 53 5 16 true false := ⟨RX5, TX5, 35, kX5, Nat.le_of_ble_eq_true rfl, rfl, (fun _ => rfl), Or.inl ⟨rfl, aw_in 718 (by decide +kernel) rfl⟩⟩
theorem gX5_56 : aw_fl RX5 56 5 17 true false := ⟨RX5, TX5, 35, kX5, Nat.le_of_ble_eq_true rfl, rfl, (fun _ => rfl), Or.inl ⟨rfl, aw_in 719 (by decide +kernel) rfl⟩⟩
theorem gX5_59 : aw_fl RX5 59 5 18 true false := ⟨RX5, TX5, 35, kX5, Nat.le_of_ble_eq_true rfl, rfl, (fun _ => rfl), Or.inl ⟨rfl, aw_in 720 (by decide +kernel) rfl⟩⟩
theorem gX5_62 : aw_fl RX5 62 5 19 true false := ⟨RX5, TX5, 35, kX5, Nat.le_of_ble_eq_true rfl, rfl, (fun _ => rfl), Or.inl ⟨rfl, aw_in 721 (by decide +kernel) rfl⟩⟩
theorem gX5_89 : aw_fl RX5 89 5 20 false false := ⟨RX5, TX5, 35, kX5, Nat.le_of_ble_eq_true rfl, rfl, (fun h => by cases h), Or.inl ⟨rfl, aw_in 722 (by decide +kernel) rfl⟩⟩
theorem gX5_96 : aw_fl RX5 96 5 21 false false := ⟨RX5, TX5, 35, kX5, Nat.le_of_ble_eq_true rfl, rfl, (fun h => by cases h), Or.inl ⟨rfl, aw_in 723 (by decide +kernel) rfl⟩⟩
theorem gX5_110 : aw_fl RX5 110 5 22 false false := ⟨RX5, TX5, 35, kX5, Nat.le_of_ble_eq_true rfl, rfl, (fun h => by cases h), Or.inl ⟨rfl, aw_in 724 (by decide +kernel) rfl⟩⟩
theorem gX5_65 : aw_fl RX5 65 5 23 true false := ⟨RX5, TX5, 35, kX5, Nat.le_of_ble_eq_true rfl, rfl, (fun _ => rfl), Or.inl ⟨rfl, aw_in 725 (by decide +kernel) rfl⟩⟩
theorem gX5_164 : aw_fl RX5 164 5 24 false false := ⟨RX5, TX5, 35, kX5, Nat.le_of_ble_eq_true rfl, rfl, (fun h => by cases h), Or.inl ⟨rfl, aw_in 726 (by decide +kernel) rfl⟩⟩
theorem gX5_147 : aw_fl RX5 147 5 25 false false := ⟨RX5, TX5, 35, kX5, Nat.le_of_ble_eq_true rfl, rfl, (fun h => by cases h), Or.inl ⟨rfl, aw_in 727 (by decide +kernel) rfl⟩⟩
theorem gX5_151 : aw_fl RX5 151 5 26 false false := ⟨RX5, TX5, 35, kX5, Nat.le_of_ble_eq_true rfl, rfl, (fun h => by cases h), Or.inl ⟨rfl, aw_in 728 (by decide +kernel) rfl⟩⟩
theorem gX5_195 : aw_fl RX5 195 5 27 false false := ⟨RX5, TX5, 35, kX5, Nat.le_of_ble_eq_true rfl, rfl, (fun h => by cases h), Or.inl ⟨rfl, aw_in 729 (by decide +kernel) rfl⟩⟩
theorem gX5_198 : aw_fl RX5 198 5 28 false false := ⟨RX5, TX5, 35, kX5, Nat.le_of_ble_eq_true rfl, rfl, (fun h => by cases h), Or.inl ⟨rfl, aw_in 730 (by decide +kernel) rfl⟩⟩
theorem gX5_68 : aw_fl RX5 68 5 29 true false := ⟨RX5, TX5, 35, kX5, Nat.le_of_ble_eq_true rfl, rfl, (fun _ => rfl), Or.inl ⟨rfl, aw_in 731 (by decide +kernel) rfl⟩⟩
theorem gX5_213 : aw_fl RX5 213 5 30 false false := ⟨RX5, TX5, 35, kX5, Nat.le_of_ble_eq_true rfl, rfl, (fun h => by cases h), Or.inl ⟨rfl, aw_in 732 (by decide +kernel) rfl⟩⟩
theorem gX5_71 : aw_fl RX5 71 5 31 true false := ⟨RX5, TX5, 35, kX5, Nat.le_of_ble_eq_true rfl, rfl, (fun _ => rfl), Or.inl ⟨rfl, aw_in 733 (by decide +kernel) rfl⟩⟩
theorem gX5_228 : aw_fl RX5 228 5 32 false false := ⟨RX5, TX5, 35, kX5, Nat.le_of_ble_eq_true rfl, rfl, (fun h => by cases h), Or.inl ⟨rfl, aw_in 734 (by decide +kernel) rfl⟩⟩
theorem gX5_74 : aw_fl RX5 74 5 33 true false := ⟨RX5, TX5, 35, kX5, Nat.le_of_ble_eq_true rfl, rfl, (fun _ => rfl), Or.inl ⟨rfl, aw_in 735 (by decide +kernel) rfl⟩⟩
theorem gX5_255 : aw_fl RX5 255 5 34 false false := ⟨RX5, TX5, 35, kX5, Nat.le_of_ble_eq_true rfl, rfl, (fun h => by cases h), Or.inl ⟨rfl, aw_in 736 (by decide +kernel) rfl⟩⟩
theorem lL_17 : aw_ml RL 17 yX5_feed := Or.inl (aw_in 808 (by decide +kernel) rfl)
theorem lX5_85 : aw_ml RX5 85 yX5_bound := Or.inl (aw_in 812 (by decide +kernel) rfl)
theorem lX5_92 : aw_ml RX5 92 yX5_no := Or.inl (aw_in 815 (by decide +kernel) rfl)
theorem lL_22 : aw_ml RL 22 yX5_river := Or.inl (aw_in 819 (by decide +kernel) rfl)
theorem lX5_136 : aw_ml RX5 136 yX5_statement := Or.inl (aw_in 823 (by decide +kernel) rfl)
theorem lX5_99 : aw_ml RX5 99 yX5_next := Or.inl (aw_in 827 (by decide +kernel) rfl)
theorem lX5_107 : aw_ml RX5 107 yX5_onesOf := Or.inl (aw_in 831 (by decide +kernel) rfl)
theorem lX5_113 : aw_ml RX5 113 yX5_readsNumber := Or.inl (aw_in 834 (by decide +kernel) rfl)
theorem lX5_103 : aw_ml RX5 103 yX5_isIn := Or.inl (aw_in 838 (by decide +kernel) rfl)
theorem lX5_140 : aw_ml RX5 140 yX5_passesAll := Or.inl (aw_in 841 (by decide +kernel) rfl)
theorem lX5_154 : aw_ml RX5 154 yX5_passes := Or.inl (aw_in 845 (by decide +kernel) rfl)
theorem lX5_158 : aw_ml RX5 158 yX5_passOne := Or.inl (aw_in 849 (by decide +kernel) rfl)
theorem lX5_144 : aw_ml RX5 144 yX5_comes := Or.inl (aw_in 853 (by decide +kernel) rfl)
theorem lX5_120 : aw_ml RX5 120 yX5_begins := Or.inl (aw_in 857 (by decide +kernel) rfl)
theorem lX5_123 : aw_ml RX5 123 yX5_isYard := Or.inl (aw_in 861 (by decide +kernel) rfl)
theorem lX5_126 : aw_ml RX5 126 yX5_comesOne := Or.inl (aw_in 865 (by decide +kernel) rfl)
theorem lX5_129 : aw_ml RX5 129 yX5_areTwo := Or.inl (aw_in 869 (by decide +kernel) rfl)
theorem lX5_81 : aw_ml RX5 81 yX5_isOne := Or.inl (aw_in 873 (by decide +kernel) rfl)
theorem lX5_132 : aw_ml RX5 132 yX5_sets := Or.inl (aw_in 877 (by decide +kernel) rfl)
theorem lX5_117 : aw_ml RX5 117 yX5_yardOf := Or.inl (aw_in 881 (by decide +kernel) rfl)
theorem lL_128 : aw_ml RL 128 yX5_image := Or.inl (aw_in 885 (by decide +kernel) rfl)
theorem lL_132 : aw_ml RL 132 yX5_restore := Or.inl (aw_in 889 (by decide +kernel) rfl)
theorem lL_27 : aw_ml RL 27 yX5_yard := Or.inl (aw_in 893 (by decide +kernel) rfl)
theorem lL_31 : aw_ml RL 31 yX5_person := Or.inl (aw_in 897 (by decide +kernel) rfl)
theorem lX5_167 : aw_ml RX5 167 yX5_reachOf := Or.inl (aw_in 901 (by decide +kernel) rfl)
theorem lX5_170 : aw_ml RX5 170 yX5_holdOf := Or.inl (aw_in 905 (by decide +kernel) rfl)
theorem lX5_173 : aw_ml RX5 173 yX5_coolOf := Or.inl (aw_in 909 (by decide +kernel) rfl)
theorem lL_35 : aw_ml RL 35 yX5_grudge := Or.inl (aw_in 913 (by decide +kernel) rfl)
theorem lL_40 : aw_ml RL 40 yX5_quarrel := Or.inl (aw_in 917 (by decide +kernel) rfl)
theorem lL_44 : aw_ml RL 44 yX5_cold := Or.inl (aw_in 921 (by decide +kernel) rfl)
theorem lL_48 : aw_ml RL 48 yX5_put := Or.inl (aw_in 925 (by decide +kernel) rfl)
theorem lL_52 : aw_ml RL 52 yX5_out := Or.inl (aw_in 929 (by decide +kernel) rfl)
theorem lX5_176 : aw_ml RX5 176 yX5_wetMany := Or.inl (aw_in 933 (by decide +kernel) rfl)
theorem lX5_179 : aw_ml RX5 179 yX5_overMany := Or.inl (aw_in 937 (by decide +kernel) rfl)
theorem lL_56 : aw_ml RL 56 yX5_load := Or.inl (aw_in 941 (by decide +kernel) rfl)
theorem lX5_186 : aw_ml RX5 186 yX5_loadOf := Or.inl (aw_in 945 (by decide +kernel) rfl)
theorem lX5_182 : aw_ml RX5 182 yX5_least := Or.inl (aw_in 949 (by decide +kernel) rfl)
theorem lL_60 : aw_ml RL 60 yX5_slips := Or.inl (aw_in 952 (by decide +kernel) rfl)
theorem lX5_204 : aw_ml RX5 204 yX5_findSlip := Or.inl (aw_in 956 (by decide +kernel) rfl)
theorem lX5_201 : aw_ml RX5 201 yX5_slipsIn := Or.inl (aw_in 960 (by decide +kernel) rfl)
theorem lX5_189 : aw_ml RX5 189 yX5_doesReach := Or.inl (aw_in 964 (by decide +kernel) rfl)
theorem lX5_192 : aw_ml RX5 192 yX5_doesHold := Or.inl (aw_in 968 (by decide +kernel) rfl)
theorem lL_64 : aw_ml RL 64 yX5_lasts := Or.inl (aw_in 972 (by decide +kernel) rfl)
theorem lX5_207 : aw_ml RX5 207 yX5_doesStand := Or.inl (aw_in 976 (by decide +kernel) rfl)
theorem lX5_210 : aw_ml RX5 210 yX5_lastsNow := Or.inl (aw_in 980 (by decide +kernel) rfl)
theorem lL_68 : aw_ml RL 68 yX5_cross := Or.inl (aw_in 984 (by decide +kernel) rfl)
theorem lL_72 : aw_ml RL 72 yX5_chains := Or.inl (aw_in 988 (by decide +kernel) rfl)
theorem lX5_219 : aw_ml RX5 219 yX5_putsAway := Or.inl (aw_in 992 (by decide +kernel) rfl)
theorem lX5_222 : aw_ml RX5 222 yX5_nextChain := Or.inl (aw_in 996 (by decide +kernel) rfl)
theorem lX5_216 : aw_ml RX5 216 yX5_areUnlike := Or.inl (aw_in 1000 (by decide +kernel) rfl)
theorem lX5_225 : aw_ml RX5 225 yX5_putsBack := Or.inl (aw_in 1004 (by decide +kernel) rfl)
theorem lL_76 : aw_ml RL 76 yX5_longest := Or.inl (aw_in 1008 (by decide +kernel) rfl)
theorem lX5_231 : aw_ml RX5 231 yX5_findLongest := Or.inl (aw_in 1012 (by decide +kernel) rfl)
theorem lL_80 : aw_ml RL 80 yX5_makeUp := Or.inl (aw_in 1016 (by decide +kernel) rfl)
theorem lX5_234 : aw_ml RX5 234 yX5_grudgesIn := Or.inl (aw_in 1020 (by decide +kernel) rfl)
theorem lL_84 : aw_ml RL 84 yX5_worth := Or.inl (aw_in 1024 (by decide +kernel) rfl)
theorem lX5_237 : aw_ml RX5 237 yX5_longestOrNothing := Or.inl (aw_in 1028 (by decide +kernel) rfl)
theorem lL_88 : aw_ml RL 88 yX5_change := Or.inl (aw_in 1032 (by decide +kernel) rfl)
theorem lL_92 : aw_ml RL 92 yX5_flood := Or.inl (aw_in 1036 (by decide +kernel) rfl)
theorem lL_96 : aw_ml RL 96 yX5_overs := Or.inl (aw_in 1040 (by decide +kernel) rfl)
theorem lL_100 : aw_ml RL 100 yX5_owes := Or.inl (aw_in 1044 (by decide +kernel) rfl)
theorem lL_104 : aw_ml RL 104 yX5_owed := Or.inl (aw_in 1048 (by decide +kernel) rfl)
theorem lX5_240 : aw_ml RX5 240 yX5_lower := Or.inl (aw_in 1052 (by decide +kernel) rfl)
theorem nX5_77 : Cond.constant RX5 77 (1000000000) ∈ aw_gt := aw_in 1056 (by decide +kernel) rfl
theorem lL_108 : aw_ml RL 108 yX5_strike := Or.inl (aw_in 1057 (by decide +kernel) rfl)
theorem lX5_246 : aw_ml RX5 246 yX5_strikesTwo := Or.inl (aw_in 1061 (by decide +kernel) rfl)
theorem lX5_243 : aw_ml RX5 243 yX5_doesOwe := Or.inl (aw_in 1065 (by decide +kernel) rfl)
theorem lX5_249 : aw_ml RX5 249 yX5_strikesThree := Or.inl (aw_in 1069 (by decide +kernel) rfl)
theorem lL_112 : aw_ml RL 112 yX5_wet := Or.inl (aw_in 1073 (by decide +kernel) rfl)
theorem lX5_252 : aw_ml RX5 252 yX5_areDry := Or.inl (aw_in 1077 (by decide +kernel) rfl)
theorem lL_116 : aw_ml RL 116 yX5_row := Or.inl (aw_in 1081 (by decide +kernel) rfl)
theorem lL_120 : aw_ml RL 120 yX5_judge := Or.inl (aw_in 1085 (by decide +kernel) rfl)
theorem lL_124 : aw_ml RL 124 yX5_seeds := Or.inl (aw_in 1089 (by decide +kernel) rfl)
theorem nX5_258 : Cond.constant RX5 258 (1103515245) ∈ aw_gt := aw_in 1093 (by decide +kernel) rfl
theorem nX5_259 : Cond.constant RX5 259 (2147483647) ∈ aw_gt := aw_in 1094 (by decide +kernel) rfl
theorem nX5_260 : Cond.constant RX5 260 (65536) ∈ aw_gt := aw_in 1095 (by decide +kernel) rfl
theorem lL_136 : aw_ml RL 136 yX5_count := Or.inl (aw_in 1096 (by decide +kernel) rfl)
theorem lX5_261 : aw_ml RX5 261 yX5_sumOf := Or.inl (aw_in 1100 (by decide +kernel) rfl)
theorem amax_1 : Cond.static Lib.Math.max.name ∈ aw_gt := aw_in 424 (by decide +kernel) rfl
theorem amax_3 : Cond.code Lib.Math.max.name Lib.Math.max.code 2 (some .int) ∈ aw_gt := aw_in 425 (by decide +kernel) rfl
theorem amin_1 : Cond.static Lib.Math.min.name ∈ aw_gt := aw_in 476 (by decide +kernel) rfl
theorem amin_3 : Cond.code Lib.Math.min.name Lib.Math.min.code 2 (some .int) ∈ aw_gt := aw_in 477 (by decide +kernel) rfl
theorem acopy_1 : Cond.native arraycopyName ∈ aw_gt := aw_in 336 (by decide +kernel) rfl
theorem acopy_2 : Cond.static arraycopyName ∈ aw_gt := aw_in 335 (by decide +kernel) rfl
theorem aobj_2 : Cond.instanceMethod objectInit ∈ aw_gt := aw_in 114 (by decide +kernel) rfl
theorem aobj_3 : Cond.code objectInit ⟨#[0xb1]⟩ 1 none ∈ aw_gt := aw_in 115 (by decide +kernel) rfl
