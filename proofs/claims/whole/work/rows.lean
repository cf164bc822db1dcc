section
-- ===== PART A: goes FIRST, ahead of the names: the tables' words, and 'selects' of the private methods out of them =====
/-- a private method of a class that the tables say can be made, by its rows of tables_1 -/
def lw_okq (q : MethodName × Nat) : Prop := (q.1.cls ≠ "java/lang/invoke/MethodHandle" ∧ q.1.cls ≠ "java/lang/invoke/VarHandle") ∧ Cond.instantiable q.1.cls q.2 ∈ tables_1 ∧ Cond.privateMethod q.1 ∈ tables_1 ∧ Cond.instanceMethod q.1 ∈ tables_1
theorem lw_p0 : lw_okq (⟨"OverByTheHand", "refuse", "(I)I"⟩, 9) := ⟨⟨by decide +kernel, by decide +kernel⟩, List.mem_of_getElem? (i := 11) (by decide +kernel), List.mem_of_getElem? (i := 191) (by decide +kernel), List.mem_of_getElem? (i := 192) (by decide +kernel)⟩
theorem lw_p1 : lw_okq (⟨"OverByTheHand$Letters", "take", "(I)V"⟩, 2) := ⟨⟨by decide +kernel, by decide +kernel⟩, List.mem_of_getElem? (i := 109) (by decide +kernel), List.mem_of_getElem? (i := 195) (by decide +kernel), List.mem_of_getElem? (i := 196) (by decide +kernel)⟩
theorem lw_p2 : lw_okq (⟨"OverByTheHand", "tellRiver", "()I"⟩, 9) := ⟨⟨by decide +kernel, by decide +kernel⟩, List.mem_of_getElem? (i := 11) (by decide +kernel), List.mem_of_getElem? (i := 203) (by decide +kernel), List.mem_of_getElem? (i := 204) (by decide +kernel)⟩
theorem lw_p3 : lw_okq (⟨"OverByTheHand$Letters", "firstWrong", "()I"⟩, 2) := ⟨⟨by decide +kernel, by decide +kernel⟩, List.mem_of_getElem? (i := 109) (by decide +kernel), List.mem_of_getElem? (i := 207) (by decide +kernel), List.mem_of_getElem? (i := 208) (by decide +kernel)⟩
theorem lw_p4 : lw_okq (⟨"OverByTheHand$Letters", "endOf", "(I)I"⟩, 2) := ⟨⟨by decide +kernel, by decide +kernel⟩, List.mem_of_getElem? (i := 109) (by decide +kernel), List.mem_of_getElem? (i := 211) (by decide +kernel), List.mem_of_getElem? (i := 212) (by decide +kernel)⟩
theorem lw_p5 : lw_okq (⟨"OverByTheHand$Letters", "at", "(I)I"⟩, 2) := ⟨⟨by decide +kernel, by decide +kernel⟩, List.mem_of_getElem? (i := 109) (by decide +kernel), List.mem_of_getElem? (i := 215) (by decide +kernel), List.mem_of_getElem? (i := 216) (by decide +kernel)⟩
theorem lw_p6 : lw_okq (⟨"OverByTheHand$Letters", "digitsFrom", "(II)I"⟩, 2) := ⟨⟨by decide +kernel, by decide +kernel⟩, List.mem_of_getElem? (i := 109) (by decide +kernel), List.mem_of_getElem? (i := 225) (by decide +kernel), List.mem_of_getElem? (i := 226) (by decide +kernel)⟩
theorem lw_p7 : lw_okq (⟨"OverByTheHand$Letters", "isDigit", "(I)Z"⟩, 2) := ⟨⟨by decide +kernel, by decide +kernel⟩, List.mem_of_getElem? (i := 109) (by decide +kernel), List.mem_of_getElem? (i := 229) (by decide +kernel), List.mem_of_getElem? (i := 230) (by decide +kernel)⟩
theorem lw_p8 : lw_okq (⟨"OverByTheHand$River", "copyFrom", "(LOverByTheHand$River;)V"⟩, 10) := ⟨⟨by decide +kernel, by decide +kernel⟩, List.mem_of_getElem? (i := 19) (by decide +kernel), List.mem_of_getElem? (i := 233) (by decide +kernel), List.mem_of_getElem? (i := 234) (by decide +kernel)⟩
theorem lw_p9 : lw_okq (⟨"OverByTheHand$Person", "copyFrom", "(LOverByTheHand$Person;)V"⟩, 6) := ⟨⟨by decide +kernel, by decide +kernel⟩, List.mem_of_getElem? (i := 26) (by decide +kernel), List.mem_of_getElem? (i := 240) (by decide +kernel), List.mem_of_getElem? (i := 241) (by decide +kernel)⟩
theorem lw_p10 : lw_okq (⟨"OverByTheHand$Letters", "tellTo", "(LOverByTheHand$River;)I"⟩, 2) := ⟨⟨by decide +kernel, by decide +kernel⟩, List.mem_of_getElem? (i := 109) (by decide +kernel), List.mem_of_getElem? (i := 244) (by decide +kernel), List.mem_of_getElem? (i := 245) (by decide +kernel)⟩
theorem lw_p11 : lw_okq (⟨"OverByTheHand$Letters", "tellStatement", "(LOverByTheHand$River;I)Z"⟩, 2) := ⟨⟨by decide +kernel, by decide +kernel⟩, List.mem_of_getElem? (i := 109) (by decide +kernel), List.mem_of_getElem? (i := 248) (by decide +kernel), List.mem_of_getElem? (i := 249) (by decide +kernel)⟩
theorem lw_p12 : lw_okq (⟨"OverByTheHand$Letters", "digit", "(I)I"⟩, 2) := ⟨⟨by decide +kernel, by decide +kernel⟩, List.mem_of_getElem? (i := 109) (by decide +kernel), List.mem_of_getElem? (i := 252) (by decide +kernel), List.mem_of_getElem? (i := 253) (by decide +kernel)⟩
theorem lw_p13 : lw_okq (⟨"OverByTheHand$River", "tellYards", "(I)Z"⟩, 10) := ⟨⟨by decide +kernel, by decide +kernel⟩, List.mem_of_getElem? (i := 19) (by decide +kernel), List.mem_of_getElem? (i := 256) (by decide +kernel), List.mem_of_getElem? (i := 257) (by decide +kernel)⟩
theorem lw_p14 : lw_okq (⟨"OverByTheHand$River", "emptyWater", "()V"⟩, 10) := ⟨⟨by decide +kernel, by decide +kernel⟩, List.mem_of_getElem? (i := 19) (by decide +kernel), List.mem_of_getElem? (i := 260) (by decide +kernel), List.mem_of_getElem? (i := 261) (by decide +kernel)⟩
theorem lw_p15 : lw_okq (⟨"OverByTheHand$River", "tellYard", "(III)Z"⟩, 10) := ⟨⟨by decide +kernel, by decide +kernel⟩, List.mem_of_getElem? (i := 19) (by decide +kernel), List.mem_of_getElem? (i := 264) (by decide +kernel), List.mem_of_getElem? (i := 265) (by decide +kernel)⟩
def lw_privs_1 : List (MethodName × Nat) := [(⟨"OverByTheHand", "refuse", "(I)I"⟩, 9), (⟨"OverByTheHand$Letters", "take", "(I)V"⟩, 2), (⟨"OverByTheHand", "tellRiver", "()I"⟩, 9), (⟨"OverByTheHand$Letters", "firstWrong", "()I"⟩, 2), (⟨"OverByTheHand$Letters", "endOf", "(I)I"⟩, 2), (⟨"OverByTheHand$Letters", "at", "(I)I"⟩, 2), (⟨"OverByTheHand$Letters", "digitsFrom", "(II)I"⟩, 2), (⟨"OverByTheHand$Letters", "isDigit", "(I)Z"⟩, 2), (⟨"OverByTheHand$River", "copyFrom", "(LOverByTheHand$River;)V"⟩, 10), (⟨"OverByTheHand$Person", "copyFrom", "(LOverByTheHand$Person;)V"⟩, 6), (⟨"OverByTheHand$Letters", "tellTo", "(LOverByTheHand$River;)I"⟩, 2), (⟨"OverByTheHand$Letters", "tellStatement", "(LOverByTheHand$River;I)Z"⟩, 2), (⟨"OverByTheHand$Letters", "digit", "(I)I"⟩, 2), (⟨"OverByTheHand$River", "tellYards", "(I)Z"⟩, 10), (⟨"OverByTheHand$River", "emptyWater", "()V"⟩, 10), (⟨"OverByTheHand$River", "tellYard", "(III)Z"⟩, 10)]
theorem lw_r1 : ∀ q ∈ lw_privs_1, lw_okq q := List.forall_mem_cons.mpr ⟨lw_p0, List.forall_mem_cons.mpr ⟨lw_p1, List.forall_mem_cons.mpr ⟨lw_p2, List.forall_mem_cons.mpr ⟨lw_p3, List.forall_mem_cons.mpr ⟨lw_p4, List.forall_mem_cons.mpr ⟨lw_p5, List.forall_mem_cons.mpr ⟨lw_p6, List.forall_mem_cons.mpr ⟨lw_p7, List.forall_mem_cons.mpr ⟨lw_p8, List.forall_mem_cons.mpr ⟨lw_p9, List.forall_mem_cons.mpr ⟨lw_p10, List.forall_mem_cons.mpr ⟨lw_p11, List.forall_mem_cons.mpr ⟨lw_p12, List.forall_mem_cons.mpr ⟨lw_p13, List.forall_mem_cons.mpr ⟨lw_p14, List.forall_mem_cons.mpr ⟨lw_p15, fun _ h => absurd h List.not_mem_nil⟩⟩⟩⟩⟩⟩⟩⟩⟩⟩⟩⟩⟩⟩⟩⟩
theorem lw_p16 : lw_okq (⟨"OverByTheHand$River", "isYard", "(I)Z"⟩, 10) := ⟨⟨by decide +kernel, by decide +kernel⟩, List.mem_of_getElem? (i := 19) (by decide +kernel), List.mem_of_getElem? (i := 268) (by decide +kernel), List.mem_of_getElem? (i := 269) (by decide +kernel)⟩
theorem lw_p17 : lw_okq (⟨"OverByTheHand$Letters", "warmthAt", "(I)I"⟩, 2) := ⟨⟨by decide +kernel, by decide +kernel⟩, List.mem_of_getElem? (i := 109) (by decide +kernel), List.mem_of_getElem? (i := 272) (by decide +kernel), List.mem_of_getElem? (i := 273) (by decide +kernel)⟩
theorem lw_p18 : lw_okq (⟨"OverByTheHand$River", "tellPerson", "(IIIII)Z"⟩, 10) := ⟨⟨by decide +kernel, by decide +kernel⟩, List.mem_of_getElem? (i := 19) (by decide +kernel), List.mem_of_getElem? (i := 276) (by decide +kernel), List.mem_of_getElem? (i := 277) (by decide +kernel)⟩
theorem lw_p19 : lw_okq (⟨"OverByTheHand$River", "tellGrudge", "(II)Z"⟩, 10) := ⟨⟨by decide +kernel, by decide +kernel⟩, List.mem_of_getElem? (i := 19) (by decide +kernel), List.mem_of_getElem? (i := 280) (by decide +kernel), List.mem_of_getElem? (i := 281) (by decide +kernel)⟩
theorem lw_p20 : lw_okq (⟨"OverByTheHand$River", "areTwo", "(II)Z"⟩, 10) := ⟨⟨by decide +kernel, by decide +kernel⟩, List.mem_of_getElem? (i := 19) (by decide +kernel), List.mem_of_getElem? (i := 284) (by decide +kernel), List.mem_of_getElem? (i := 285) (by decide +kernel)⟩
theorem lw_p21 : lw_okq (⟨"OverByTheHand$River", "isPerson", "(I)Z"⟩, 10) := ⟨⟨by decide +kernel, by decide +kernel⟩, List.mem_of_getElem? (i := 19) (by decide +kernel), List.mem_of_getElem? (i := 288) (by decide +kernel), List.mem_of_getElem? (i := 289) (by decide +kernel)⟩
theorem lw_p22 : lw_okq (⟨"OverByTheHand$River", "grudgeOf", "(II)I"⟩, 10) := ⟨⟨by decide +kernel, by decide +kernel⟩, List.mem_of_getElem? (i := 19) (by decide +kernel), List.mem_of_getElem? (i := 292) (by decide +kernel), List.mem_of_getElem? (i := 293) (by decide +kernel)⟩
theorem lw_p23 : lw_okq (⟨"OverByTheHand$River", "setGrudge", "(III)V"⟩, 10) := ⟨⟨by decide +kernel, by decide +kernel⟩, List.mem_of_getElem? (i := 19) (by decide +kernel), List.mem_of_getElem? (i := 296) (by decide +kernel), List.mem_of_getElem? (i := 297) (by decide +kernel)⟩
theorem lw_p24 : lw_okq (⟨"OverByTheHand$River", "tellIn", "(II)Z"⟩, 10) := ⟨⟨by decide +kernel, by decide +kernel⟩, List.mem_of_getElem? (i := 19) (by decide +kernel), List.mem_of_getElem? (i := 300) (by decide +kernel), List.mem_of_getElem? (i := 301) (by decide +kernel)⟩
theorem lw_p25 : lw_okq (⟨"OverByTheHand$River", "enter", "(II)V"⟩, 10) := ⟨⟨by decide +kernel, by decide +kernel⟩, List.mem_of_getElem? (i := 19) (by decide +kernel), List.mem_of_getElem? (i := 304) (by decide +kernel), List.mem_of_getElem? (i := 305) (by decide +kernel)⟩
theorem lw_p26 : lw_okq (⟨"OverByTheHand$Person", "reaches", "()I"⟩, 6) := ⟨⟨by decide +kernel, by decide +kernel⟩, List.mem_of_getElem? (i := 26) (by decide +kernel), List.mem_of_getElem? (i := 318) (by decide +kernel), List.mem_of_getElem? (i := 319) (by decide +kernel)⟩
theorem lw_p27 : lw_okq (⟨"OverByTheHand$Person", "holds", "()I"⟩, 6) := ⟨⟨by decide +kernel, by decide +kernel⟩, List.mem_of_getElem? (i := 26) (by decide +kernel), List.mem_of_getElem? (i := 322) (by decide +kernel), List.mem_of_getElem? (i := 323) (by decide +kernel)⟩
theorem lw_p28 : lw_okq (⟨"OverByTheHand$Person", "cools", "(I)I"⟩, 6) := ⟨⟨by decide +kernel, by decide +kernel⟩, List.mem_of_getElem? (i := 26) (by decide +kernel), List.mem_of_getElem? (i := 329) (by decide +kernel), List.mem_of_getElem? (i := 330) (by decide +kernel)⟩
theorem lw_p29 : lw_okq (⟨"OverByTheHand$River", "placeOf", "(I)I"⟩, 10) := ⟨⟨by decide +kernel, by decide +kernel⟩, List.mem_of_getElem? (i := 19) (by decide +kernel), List.mem_of_getElem? (i := 333) (by decide +kernel), List.mem_of_getElem? (i := 334) (by decide +kernel)⟩
theorem lw_p30 : lw_okq (⟨"OverByTheHand$River", "inWater", "()I"⟩, 10) := ⟨⟨by decide +kernel, by decide +kernel⟩, List.mem_of_getElem? (i := 19) (by decide +kernel), List.mem_of_getElem? (i := 361) (by decide +kernel), List.mem_of_getElem? (i := 362) (by decide +kernel)⟩
theorem lw_p31 : lw_okq (⟨"OverByTheHand$River", "overThere", "()I"⟩, 10) := ⟨⟨by decide +kernel, by decide +kernel⟩, List.mem_of_getElem? (i := 19) (by decide +kernel), List.mem_of_getElem? (i := 365) (by decide +kernel), List.mem_of_getElem? (i := 366) (by decide +kernel)⟩
def lw_privs_2 : List (MethodName × Nat) := [(⟨"OverByTheHand$River", "isYard", "(I)Z"⟩, 10), (⟨"OverByTheHand$Letters", "warmthAt", "(I)I"⟩, 2), (⟨"OverByTheHand$River", "tellPerson", "(IIIII)Z"⟩, 10), (⟨"OverByTheHand$River", "tellGrudge", "(II)Z"⟩, 10), (⟨"OverByTheHand$River", "areTwo", "(II)Z"⟩, 10), (⟨"OverByTheHand$River", "isPerson", "(I)Z"⟩, 10), (⟨"OverByTheHand$River", "grudgeOf", "(II)I"⟩, 10), (⟨"OverByTheHand$River", "setGrudge", "(III)V"⟩, 10), (⟨"OverByTheHand$River", "tellIn", "(II)Z"⟩, 10), (⟨"OverByTheHand$River", "enter", "(II)V"⟩, 10), (⟨"OverByTheHand$Person", "reaches", "()I"⟩, 6), (⟨"OverByTheHand$Person", "holds", "()I"⟩, 6), (⟨"OverByTheHand$Person", "cools", "(I)I"⟩, 6), (⟨"OverByTheHand$River", "placeOf", "(I)I"⟩, 10), (⟨"OverByTheHand$River", "inWater", "()I"⟩, 10), (⟨"OverByTheHand$River", "overThere", "()I"⟩, 10)]
theorem lw_r2 : ∀ q ∈ lw_privs_2, lw_okq q := List.forall_mem_cons.mpr ⟨lw_p16, List.forall_mem_cons.mpr ⟨lw_p17, List.forall_mem_cons.mpr ⟨lw_p18, List.forall_mem_cons.mpr ⟨lw_p19, List.forall_mem_cons.mpr ⟨lw_p20, List.forall_mem_cons.mpr ⟨lw_p21, List.forall_mem_cons.mpr ⟨lw_p22, List.forall_mem_cons.mpr ⟨lw_p23, List.forall_mem_cons.mpr ⟨lw_p24, List.forall_mem_cons.mpr ⟨lw_p25, List.forall_mem_cons.mpr ⟨lw_p26, List.forall_mem_cons.mpr ⟨lw_p27, List.forall_mem_cons.mpr ⟨lw_p28, List.forall_mem_cons.mpr ⟨lw_p29, List.forall_mem_cons.mpr ⟨lw_p30, List.forall_mem_cons.mpr ⟨lw_p31, fun _ h => absurd h List.not_mem_nil⟩⟩⟩⟩⟩⟩⟩⟩⟩⟩⟩⟩⟩⟩⟩⟩
theorem lw_p32 : lw_okq (⟨"OverByTheHand$River", "loadOf", "(I)I"⟩, 10) := ⟨⟨by decide +kernel, by decide +kernel⟩, List.mem_of_getElem? (i := 19) (by decide +kernel), List.mem_of_getElem? (i := 374) (by decide +kernel), List.mem_of_getElem? (i := 375) (by decide +kernel)⟩
theorem lw_p33 : lw_okq (⟨"OverByTheHand$River", "firstSlip", "([I)I"⟩, 10) := ⟨⟨by decide +kernel, by decide +kernel⟩, List.mem_of_getElem? (i := 19) (by decide +kernel), List.mem_of_getElem? (i := 385) (by decide +kernel), List.mem_of_getElem? (i := 386) (by decide +kernel)⟩
theorem lw_p34 : lw_okq (⟨"OverByTheHand$River", "whySlips", "([II)I"⟩, 10) := ⟨⟨by decide +kernel, by decide +kernel⟩, List.mem_of_getElem? (i := 19) (by decide +kernel), List.mem_of_getElem? (i := 389) (by decide +kernel), List.mem_of_getElem? (i := 390) (by decide +kernel)⟩
theorem lw_p35 : lw_okq (⟨"OverByTheHand$River", "whyNot", "(II)I"⟩, 10) := ⟨⟨by decide +kernel, by decide +kernel⟩, List.mem_of_getElem? (i := 19) (by decide +kernel), List.mem_of_getElem? (i := 393) (by decide +kernel), List.mem_of_getElem? (i := 394) (by decide +kernel)⟩
theorem lw_p36 : lw_okq (⟨"OverByTheHand$River", "minutesOf", "([I)I"⟩, 10) := ⟨⟨by decide +kernel, by decide +kernel⟩, List.mem_of_getElem? (i := 19) (by decide +kernel), List.mem_of_getElem? (i := 406) (by decide +kernel), List.mem_of_getElem? (i := 407) (by decide +kernel)⟩
theorem lw_p37 : lw_okq (⟨"OverByTheHand$Person", "minutes", "(I)I"⟩, 6) := ⟨⟨by decide +kernel, by decide +kernel⟩, List.mem_of_getElem? (i := 26) (by decide +kernel), List.mem_of_getElem? (i := 412) (by decide +kernel), List.mem_of_getElem? (i := 413) (by decide +kernel)⟩
theorem lw_p38 : lw_okq (⟨"OverByTheHand$River", "isNear", "(I)Z"⟩, 10) := ⟨⟨by decide +kernel, by decide +kernel⟩, List.mem_of_getElem? (i := 19) (by decide +kernel), List.mem_of_getElem? (i := 421) (by decide +kernel), List.mem_of_getElem? (i := 422) (by decide +kernel)⟩
theorem lw_p39 : lw_okq (⟨"OverByTheHand$River", "bringOver", "(I)V"⟩, 10) := ⟨⟨by decide +kernel, by decide +kernel⟩, List.mem_of_getElem? (i := 19) (by decide +kernel), List.mem_of_getElem? (i := 426) (by decide +kernel), List.mem_of_getElem? (i := 427) (by decide +kernel)⟩
theorem lw_p40 : lw_okq (⟨"OverByTheHand$River", "hoursOf", "(II)I"⟩, 10) := ⟨⟨by decide +kernel, by decide +kernel⟩, List.mem_of_getElem? (i := 19) (by decide +kernel), List.mem_of_getElem? (i := 431) (by decide +kernel), List.mem_of_getElem? (i := 432) (by decide +kernel)⟩
theorem lw_p41 : lw_okq (⟨"OverByTheHand$River", "setHours", "(III)V"⟩, 10) := ⟨⟨by decide +kernel, by decide +kernel⟩, List.mem_of_getElem? (i := 19) (by decide +kernel), List.mem_of_getElem? (i := 435) (by decide +kernel), List.mem_of_getElem? (i := 436) (by decide +kernel)⟩
theorem lw_p42 : lw_okq (⟨"OverByTheHand$River", "notOver", "()I"⟩, 10) := ⟨⟨by decide +kernel, by decide +kernel⟩, List.mem_of_getElem? (i := 19) (by decide +kernel), List.mem_of_getElem? (i := 443) (by decide +kernel), List.mem_of_getElem? (i := 444) (by decide +kernel)⟩
theorem lw_p43 : lw_okq (⟨"OverByTheHand$Mind", "thinkOf", "(LOverByTheHand$River;I)V"⟩, 8) := ⟨⟨by decide +kernel, by decide +kernel⟩, List.mem_of_getElem? (i := 123) (by decide +kernel), List.mem_of_getElem? (i := 447) (by decide +kernel), List.mem_of_getElem? (i := 448) (by decide +kernel)⟩
theorem lw_p44 : lw_okq (⟨"OverByTheHand$Mind", "ableIn", "(LOverByTheHand$River;I)I"⟩, 8) := ⟨⟨by decide +kernel, by decide +kernel⟩, List.mem_of_getElem? (i := 123) (by decide +kernel), List.mem_of_getElem? (i := 452) (by decide +kernel), List.mem_of_getElem? (i := 453) (by decide +kernel)⟩
theorem lw_p45 : lw_okq (⟨"OverByTheHand$Mind", "extend", "(LOverByTheHand$River;IIII)V"⟩, 8) := ⟨⟨by decide +kernel, by decide +kernel⟩, List.mem_of_getElem? (i := 123) (by decide +kernel), List.mem_of_getElem? (i := 458) (by decide +kernel), List.mem_of_getElem? (i := 459) (by decide +kernel)⟩
theorem lw_p46 : lw_okq (⟨"OverByTheHand$Mind", "weigh", "(III)V"⟩, 8) := ⟨⟨by decide +kernel, by decide +kernel⟩, List.mem_of_getElem? (i := 123) (by decide +kernel), List.mem_of_getElem? (i := 462) (by decide +kernel), List.mem_of_getElem? (i := 463) (by decide +kernel)⟩
theorem lw_p47 : lw_okq (⟨"OverByTheHand$Mind", "bestChange", "(LOverByTheHand$River;)I"⟩, 8) := ⟨⟨by decide +kernel, by decide +kernel⟩, List.mem_of_getElem? (i := 123) (by decide +kernel), List.mem_of_getElem? (i := 485) (by decide +kernel), List.mem_of_getElem? (i := 486) (by decide +kernel)⟩
def lw_privs_3 : List (MethodName × Nat) := [(⟨"OverByTheHand$River", "loadOf", "(I)I"⟩, 10), (⟨"OverByTheHand$River", "firstSlip", "([I)I"⟩, 10), (⟨"OverByTheHand$River", "whySlips", "([II)I"⟩, 10), (⟨"OverByTheHand$River", "whyNot", "(II)I"⟩, 10), (⟨"OverByTheHand$River", "minutesOf", "([I)I"⟩, 10), (⟨"OverByTheHand$Person", "minutes", "(I)I"⟩, 6), (⟨"OverByTheHand$River", "isNear", "(I)Z"⟩, 10), (⟨"OverByTheHand$River", "bringOver", "(I)V"⟩, 10), (⟨"OverByTheHand$River", "hoursOf", "(II)I"⟩, 10), (⟨"OverByTheHand$River", "setHours", "(III)V"⟩, 10), (⟨"OverByTheHand$River", "notOver", "()I"⟩, 10), (⟨"OverByTheHand$Mind", "thinkOf", "(LOverByTheHand$River;I)V"⟩, 8), (⟨"OverByTheHand$Mind", "ableIn", "(LOverByTheHand$River;I)I"⟩, 8), (⟨"OverByTheHand$Mind", "extend", "(LOverByTheHand$River;IIII)V"⟩, 8), (⟨"OverByTheHand$Mind", "weigh", "(III)V"⟩, 8), (⟨"OverByTheHand$Mind", "bestChange", "(LOverByTheHand$River;)I"⟩, 8)]
theorem lw_r3 : ∀ q ∈ lw_privs_3, lw_okq q := List.forall_mem_cons.mpr ⟨lw_p32, List.forall_mem_cons.mpr ⟨lw_p33, List.forall_mem_cons.mpr ⟨lw_p34, List.forall_mem_cons.mpr ⟨lw_p35, List.forall_mem_cons.mpr ⟨lw_p36, List.forall_mem_cons.mpr ⟨lw_p37, List.forall_mem_cons.mpr ⟨lw_p38, List.forall_mem_cons.mpr ⟨lw_p39, List.forall_mem_cons.mpr ⟨lw_p40, List.forall_mem_cons.mpr ⟨lw_p41, List.forall_mem_cons.mpr ⟨lw_p42, List.forall_mem_cons.mpr ⟨lw_p43, List.forall_mem_cons.mpr ⟨lw_p44, List.forall_mem_cons.mpr ⟨lw_p45, List.forall_mem_cons.mpr ⟨lw_p46, List.forall_mem_cons.mpr ⟨lw_p47, fun _ h => absurd h List.not_mem_nil⟩⟩⟩⟩⟩⟩⟩⟩⟩⟩⟩⟩⟩⟩⟩⟩
theorem lw_p48 : lw_okq (⟨"OverByTheHand$River", "nearBank", "()I"⟩, 10) := ⟨⟨by decide +kernel, by decide +kernel⟩, List.mem_of_getElem? (i := 19) (by decide +kernel), List.mem_of_getElem? (i := 501) (by decide +kernel), List.mem_of_getElem? (i := 502) (by decide +kernel)⟩
theorem lw_p49 : lw_okq (⟨"OverByTheHand$River", "strikeTwos", "()I"⟩, 10) := ⟨⟨by decide +kernel, by decide +kernel⟩, List.mem_of_getElem? (i := 19) (by decide +kernel), List.mem_of_getElem? (i := 522) (by decide +kernel), List.mem_of_getElem? (i := 523) (by decide +kernel)⟩
theorem lw_p50 : lw_okq (⟨"OverByTheHand$River", "lessenHours", "(III)V"⟩, 10) := ⟨⟨by decide +kernel, by decide +kernel⟩, List.mem_of_getElem? (i := 19) (by decide +kernel), List.mem_of_getElem? (i := 526) (by decide +kernel), List.mem_of_getElem? (i := 527) (by decide +kernel)⟩
theorem lw_p51 : lw_okq (⟨"OverByTheHand$River", "strikeThrees", "()I"⟩, 10) := ⟨⟨by decide +kernel, by decide +kernel⟩, List.mem_of_getElem? (i := 19) (by decide +kernel), List.mem_of_getElem? (i := 530) (by decide +kernel), List.mem_of_getElem? (i := 531) (by decide +kernel)⟩
theorem lw_p52 : lw_okq (⟨"OverByTheHand$River", "strikeThree", "(III)I"⟩, 10) := ⟨⟨by decide +kernel, by decide +kernel⟩, List.mem_of_getElem? (i := 19) (by decide +kernel), List.mem_of_getElem? (i := 534) (by decide +kernel), List.mem_of_getElem? (i := 535) (by decide +kernel)⟩
theorem lw_p53 : lw_okq (⟨"OverByTheHand$River", "firstAmiss", "([II)I"⟩, 10) := ⟨⟨by decide +kernel, by decide +kernel⟩, List.mem_of_getElem? (i := 19) (by decide +kernel), List.mem_of_getElem? (i := 556) (by decide +kernel), List.mem_of_getElem? (i := 557) (by decide +kernel)⟩
theorem lw_p54 : lw_okq (⟨"OverByTheHand$River", "canCome", "([II)Z"⟩, 10) := ⟨⟨by decide +kernel, by decide +kernel⟩, List.mem_of_getElem? (i := 19) (by decide +kernel), List.mem_of_getElem? (i := 560) (by decide +kernel), List.mem_of_getElem? (i := 561) (by decide +kernel)⟩
theorem lw_p55 : lw_okq (⟨"OverByTheHand$Mind", "standingBySeed", "(LOverByTheHand$River;II)I"⟩, 8) := ⟨⟨by decide +kernel, by decide +kernel⟩, List.mem_of_getElem? (i := 123) (by decide +kernel), List.mem_of_getElem? (i := 568) (by decide +kernel), List.mem_of_getElem? (i := 569) (by decide +kernel)⟩
theorem lw_p56 : lw_okq (⟨"OverByTheHand$River", "allGrudges", "()I"⟩, 10) := ⟨⟨by decide +kernel, by decide +kernel⟩, List.mem_of_getElem? (i := 19) (by decide +kernel), List.mem_of_getElem? (i := 590) (by decide +kernel), List.mem_of_getElem? (i := 591) (by decide +kernel)⟩
theorem lw_p57 : lw_okq (⟨"OverByTheHand$River", "allHours", "()I"⟩, 10) := ⟨⟨by decide +kernel, by decide +kernel⟩, List.mem_of_getElem? (i := 19) (by decide +kernel), List.mem_of_getElem? (i := 595) (by decide +kernel), List.mem_of_getElem? (i := 596) (by decide +kernel)⟩
theorem lw_p58 : lw_okq (⟨"OverByTheHandModel", "no", "(I)I"⟩, 35) := ⟨⟨by decide +kernel, by decide +kernel⟩, List.mem_of_getElem? (i := 599) (by decide +kernel), List.mem_of_getElem? (i := 718) (by decide +kernel), List.mem_of_getElem? (i := 719) (by decide +kernel)⟩
theorem lw_p59 : lw_okq (⟨"OverByTheHandModel", "statement", "()Z"⟩, 35) := ⟨⟨by decide +kernel, by decide +kernel⟩, List.mem_of_getElem? (i := 599) (by decide +kernel), List.mem_of_getElem? (i := 726) (by decide +kernel), List.mem_of_getElem? (i := 727) (by decide +kernel)⟩
theorem lw_p60 : lw_okq (⟨"OverByTheHandModel", "next", "()I"⟩, 35) := ⟨⟨by decide +kernel, by decide +kernel⟩, List.mem_of_getElem? (i := 599) (by decide +kernel), List.mem_of_getElem? (i := 730) (by decide +kernel), List.mem_of_getElem? (i := 731) (by decide +kernel)⟩
theorem lw_p61 : lw_okq (⟨"OverByTheHandModel", "readsNumber", "(II)Z"⟩, 35) := ⟨⟨by decide +kernel, by decide +kernel⟩, List.mem_of_getElem? (i := 599) (by decide +kernel), List.mem_of_getElem? (i := 737) (by decide +kernel), List.mem_of_getElem? (i := 738) (by decide +kernel)⟩
theorem lw_p62 : lw_okq (⟨"OverByTheHandModel", "passesAll", "(IZ)V"⟩, 35) := ⟨⟨by decide +kernel, by decide +kernel⟩, List.mem_of_getElem? (i := 599) (by decide +kernel), List.mem_of_getElem? (i := 744) (by decide +kernel), List.mem_of_getElem? (i := 745) (by decide +kernel)⟩
theorem lw_p63 : lw_okq (⟨"OverByTheHandModel", "passes", "([I)V"⟩, 35) := ⟨⟨by decide +kernel, by decide +kernel⟩, List.mem_of_getElem? (i := 599) (by decide +kernel), List.mem_of_getElem? (i := 748) (by decide +kernel), List.mem_of_getElem? (i := 749) (by decide +kernel)⟩
def lw_privs_4 : List (MethodName × Nat) := [(⟨"OverByTheHand$River", "nearBank", "()I"⟩, 10), (⟨"OverByTheHand$River", "strikeTwos", "()I"⟩, 10), (⟨"OverByTheHand$River", "lessenHours", "(III)V"⟩, 10), (⟨"OverByTheHand$River", "strikeThrees", "()I"⟩, 10), (⟨"OverByTheHand$River", "strikeThree", "(III)I"⟩, 10), (⟨"OverByTheHand$River", "firstAmiss", "([II)I"⟩, 10), (⟨"OverByTheHand$River", "canCome", "([II)Z"⟩, 10), (⟨"OverByTheHand$Mind", "standingBySeed", "(LOverByTheHand$River;II)I"⟩, 8), (⟨"OverByTheHand$River", "allGrudges", "()I"⟩, 10), (⟨"OverByTheHand$River", "allHours", "()I"⟩, 10), (⟨"OverByTheHandModel", "no", "(I)I"⟩, 35), (⟨"OverByTheHandModel", "statement", "()Z"⟩, 35), (⟨"OverByTheHandModel", "next", "()I"⟩, 35), (⟨"OverByTheHandModel", "readsNumber", "(II)Z"⟩, 35), (⟨"OverByTheHandModel", "passesAll", "(IZ)V"⟩, 35), (⟨"OverByTheHandModel", "passes", "([I)V"⟩, 35)]
theorem lw_r4 : ∀ q ∈ lw_privs_4, lw_okq q := List.forall_mem_cons.mpr ⟨lw_p48, List.forall_mem_cons.mpr ⟨lw_p49, List.forall_mem_cons.mpr ⟨lw_p50, List.forall_mem_cons.mpr ⟨lw_p51, List.forall_mem_cons.mpr ⟨lw_p52, List.forall_mem_cons.mpr ⟨lw_p53, List.forall_mem_cons.mpr ⟨lw_p54, List.forall_mem_cons.mpr ⟨lw_p55, List.forall_mem_cons.mpr ⟨lw_p56, List.forall_mem_cons.mpr ⟨lw_p57, List.forall_mem_cons.mpr ⟨lw_p58, List.forall_mem_cons.mpr ⟨lw_p59, List.forall_mem_cons.mpr ⟨lw_p60, List.forall_mem_cons.mpr ⟨lw_p61, List.forall_mem_cons.mpr ⟨lw_p62, List.forall_mem_cons.mpr ⟨lw_p63, fun _ h => absurd h List.not_mem_nil⟩⟩⟩⟩⟩⟩⟩⟩⟩⟩⟩⟩⟩⟩⟩⟩
theorem lw_p64 : lw_okq (⟨"OverByTheHandModel", "passOne", "(I)I"⟩, 35) := ⟨⟨by decide +kernel, by decide +kernel⟩, List.mem_of_getElem? (i := 599) (by decide +kernel), List.mem_of_getElem? (i := 752) (by decide +kernel), List.mem_of_getElem? (i := 753) (by decide +kernel)⟩
theorem lw_p65 : lw_okq (⟨"OverByTheHandModel", "comes", "(I)Z"⟩, 35) := ⟨⟨by decide +kernel, by decide +kernel⟩, List.mem_of_getElem? (i := 599) (by decide +kernel), List.mem_of_getElem? (i := 756) (by decide +kernel), List.mem_of_getElem? (i := 757) (by decide +kernel)⟩
theorem lw_p66 : lw_okq (⟨"OverByTheHandModel", "begins", "(I)Z"⟩, 35) := ⟨⟨by decide +kernel, by decide +kernel⟩, List.mem_of_getElem? (i := 599) (by decide +kernel), List.mem_of_getElem? (i := 760) (by decide +kernel), List.mem_of_getElem? (i := 761) (by decide +kernel)⟩
theorem lw_p67 : lw_okq (⟨"OverByTheHandModel", "isYard", "(I)Z"⟩, 35) := ⟨⟨by decide +kernel, by decide +kernel⟩, List.mem_of_getElem? (i := 599) (by decide +kernel), List.mem_of_getElem? (i := 764) (by decide +kernel), List.mem_of_getElem? (i := 765) (by decide +kernel)⟩
theorem lw_p68 : lw_okq (⟨"OverByTheHandModel", "comesOne", "(I)Z"⟩, 35) := ⟨⟨by decide +kernel, by decide +kernel⟩, List.mem_of_getElem? (i := 599) (by decide +kernel), List.mem_of_getElem? (i := 768) (by decide +kernel), List.mem_of_getElem? (i := 769) (by decide +kernel)⟩
theorem lw_p69 : lw_okq (⟨"OverByTheHandModel", "areTwo", "(II)Z"⟩, 35) := ⟨⟨by decide +kernel, by decide +kernel⟩, List.mem_of_getElem? (i := 599) (by decide +kernel), List.mem_of_getElem? (i := 772) (by decide +kernel), List.mem_of_getElem? (i := 773) (by decide +kernel)⟩
theorem lw_p70 : lw_okq (⟨"OverByTheHandModel", "isOne", "(I)Z"⟩, 35) := ⟨⟨by decide +kernel, by decide +kernel⟩, List.mem_of_getElem? (i := 599) (by decide +kernel), List.mem_of_getElem? (i := 776) (by decide +kernel), List.mem_of_getElem? (i := 777) (by decide +kernel)⟩
theorem lw_p71 : lw_okq (⟨"OverByTheHandModel", "sets", "(II)V"⟩, 35) := ⟨⟨by decide +kernel, by decide +kernel⟩, List.mem_of_getElem? (i := 599) (by decide +kernel), List.mem_of_getElem? (i := 780) (by decide +kernel), List.mem_of_getElem? (i := 781) (by decide +kernel)⟩
theorem lw_p72 : lw_okq (⟨"OverByTheHandModel", "yardOf", "(I)I"⟩, 35) := ⟨⟨by decide +kernel, by decide +kernel⟩, List.mem_of_getElem? (i := 599) (by decide +kernel), List.mem_of_getElem? (i := 784) (by decide +kernel), List.mem_of_getElem? (i := 785) (by decide +kernel)⟩
theorem lw_p73 : lw_okq (⟨"OverByTheHandModel", "reachOf", "(I)I"⟩, 35) := ⟨⟨by decide +kernel, by decide +kernel⟩, List.mem_of_getElem? (i := 599) (by decide +kernel), List.mem_of_getElem? (i := 804) (by decide +kernel), List.mem_of_getElem? (i := 805) (by decide +kernel)⟩
theorem lw_p74 : lw_okq (⟨"OverByTheHandModel", "holdOf", "(I)I"⟩, 35) := ⟨⟨by decide +kernel, by decide +kernel⟩, List.mem_of_getElem? (i := 599) (by decide +kernel), List.mem_of_getElem? (i := 808) (by decide +kernel), List.mem_of_getElem? (i := 809) (by decide +kernel)⟩
theorem lw_p75 : lw_okq (⟨"OverByTheHandModel", "coolOf", "(I)I"⟩, 35) := ⟨⟨by decide +kernel, by decide +kernel⟩, List.mem_of_getElem? (i := 599) (by decide +kernel), List.mem_of_getElem? (i := 812) (by decide +kernel), List.mem_of_getElem? (i := 813) (by decide +kernel)⟩
theorem lw_p76 : lw_okq (⟨"OverByTheHandModel", "wetMany", "()I"⟩, 35) := ⟨⟨by decide +kernel, by decide +kernel⟩, List.mem_of_getElem? (i := 599) (by decide +kernel), List.mem_of_getElem? (i := 836) (by decide +kernel), List.mem_of_getElem? (i := 837) (by decide +kernel)⟩
theorem lw_p77 : lw_okq (⟨"OverByTheHandModel", "overMany", "()I"⟩, 35) := ⟨⟨by decide +kernel, by decide +kernel⟩, List.mem_of_getElem? (i := 599) (by decide +kernel), List.mem_of_getElem? (i := 840) (by decide +kernel), List.mem_of_getElem? (i := 841) (by decide +kernel)⟩
theorem lw_p78 : lw_okq (⟨"OverByTheHandModel", "loadOf", "(I)I"⟩, 35) := ⟨⟨by decide +kernel, by decide +kernel⟩, List.mem_of_getElem? (i := 599) (by decide +kernel), List.mem_of_getElem? (i := 848) (by decide +kernel), List.mem_of_getElem? (i := 849) (by decide +kernel)⟩
theorem lw_p79 : lw_okq (⟨"OverByTheHandModel", "findSlip", "()V"⟩, 35) := ⟨⟨by decide +kernel, by decide +kernel⟩, List.mem_of_getElem? (i := 599) (by decide +kernel), List.mem_of_getElem? (i := 859) (by decide +kernel), List.mem_of_getElem? (i := 860) (by decide +kernel)⟩
def lw_privs_5 : List (MethodName × Nat) := [(⟨"OverByTheHandModel", "passOne", "(I)I"⟩, 35), (⟨"OverByTheHandModel", "comes", "(I)Z"⟩, 35), (⟨"OverByTheHandModel", "begins", "(I)Z"⟩, 35), (⟨"OverByTheHandModel", "isYard", "(I)Z"⟩, 35), (⟨"OverByTheHandModel", "comesOne", "(I)Z"⟩, 35), (⟨"OverByTheHandModel", "areTwo", "(II)Z"⟩, 35), (⟨"OverByTheHandModel", "isOne", "(I)Z"⟩, 35), (⟨"OverByTheHandModel", "sets", "(II)V"⟩, 35), (⟨"OverByTheHandModel", "yardOf", "(I)I"⟩, 35), (⟨"OverByTheHandModel", "reachOf", "(I)I"⟩, 35), (⟨"OverByTheHandModel", "holdOf", "(I)I"⟩, 35), (⟨"OverByTheHandModel", "coolOf", "(I)I"⟩, 35), (⟨"OverByTheHandModel", "wetMany", "()I"⟩, 35), (⟨"OverByTheHandModel", "overMany", "()I"⟩, 35), (⟨"OverByTheHandModel", "loadOf", "(I)I"⟩, 35), (⟨"OverByTheHandModel", "findSlip", "()V"⟩, 35)]
theorem lw_r5 : ∀ q ∈ lw_privs_5, lw_okq q := List.forall_mem_cons.mpr ⟨lw_p64, List.forall_mem_cons.mpr ⟨lw_p65, List.forall_mem_cons.mpr ⟨lw_p66, List.forall_mem_cons.mpr ⟨lw_p67, List.forall_mem_cons.mpr ⟨lw_p68, List.forall_mem_cons.mpr ⟨lw_p69, List.forall_mem_cons.mpr ⟨lw_p70, List.forall_mem_cons.mpr ⟨lw_p71, List.forall_mem_cons.mpr ⟨lw_p72, List.forall_mem_cons.mpr ⟨lw_p73, List.forall_mem_cons.mpr ⟨lw_p74, List.forall_mem_cons.mpr ⟨lw_p75, List.forall_mem_cons.mpr ⟨lw_p76, List.forall_mem_cons.mpr ⟨lw_p77, List.forall_mem_cons.mpr ⟨lw_p78, List.forall_mem_cons.mpr ⟨lw_p79, fun _ h => absurd h List.not_mem_nil⟩⟩⟩⟩⟩⟩⟩⟩⟩⟩⟩⟩⟩⟩⟩⟩
theorem lw_p80 : lw_okq (⟨"OverByTheHandModel", "slipsIn", "(III)I"⟩, 35) := ⟨⟨by decide +kernel, by decide +kernel⟩, List.mem_of_getElem? (i := 599) (by decide +kernel), List.mem_of_getElem? (i := 863) (by decide +kernel), List.mem_of_getElem? (i := 864) (by decide +kernel)⟩
theorem lw_p81 : lw_okq (⟨"OverByTheHandModel", "doesReach", "(III)Z"⟩, 35) := ⟨⟨by decide +kernel, by decide +kernel⟩, List.mem_of_getElem? (i := 599) (by decide +kernel), List.mem_of_getElem? (i := 867) (by decide +kernel), List.mem_of_getElem? (i := 868) (by decide +kernel)⟩
theorem lw_p82 : lw_okq (⟨"OverByTheHandModel", "doesHold", "(II)Z"⟩, 35) := ⟨⟨by decide +kernel, by decide +kernel⟩, List.mem_of_getElem? (i := 599) (by decide +kernel), List.mem_of_getElem? (i := 871) (by decide +kernel), List.mem_of_getElem? (i := 872) (by decide +kernel)⟩
theorem lw_p83 : lw_okq (⟨"OverByTheHandModel", "doesStand", "()Z"⟩, 35) := ⟨⟨by decide +kernel, by decide +kernel⟩, List.mem_of_getElem? (i := 599) (by decide +kernel), List.mem_of_getElem? (i := 879) (by decide +kernel), List.mem_of_getElem? (i := 880) (by decide +kernel)⟩
theorem lw_p84 : lw_okq (⟨"OverByTheHandModel", "lastsNow", "()I"⟩, 35) := ⟨⟨by decide +kernel, by decide +kernel⟩, List.mem_of_getElem? (i := 599) (by decide +kernel), List.mem_of_getElem? (i := 883) (by decide +kernel), List.mem_of_getElem? (i := 884) (by decide +kernel)⟩
theorem lw_p85 : lw_okq (⟨"OverByTheHandModel", "putsAway", "()V"⟩, 35) := ⟨⟨by decide +kernel, by decide +kernel⟩, List.mem_of_getElem? (i := 599) (by decide +kernel), List.mem_of_getElem? (i := 895) (by decide +kernel), List.mem_of_getElem? (i := 896) (by decide +kernel)⟩
theorem lw_p86 : lw_okq (⟨"OverByTheHandModel", "nextChain", "()Z"⟩, 35) := ⟨⟨by decide +kernel, by decide +kernel⟩, List.mem_of_getElem? (i := 599) (by decide +kernel), List.mem_of_getElem? (i := 899) (by decide +kernel), List.mem_of_getElem? (i := 900) (by decide +kernel)⟩
theorem lw_p87 : lw_okq (⟨"OverByTheHandModel", "areUnlike", "()Z"⟩, 35) := ⟨⟨by decide +kernel, by decide +kernel⟩, List.mem_of_getElem? (i := 599) (by decide +kernel), List.mem_of_getElem? (i := 903) (by decide +kernel), List.mem_of_getElem? (i := 904) (by decide +kernel)⟩
theorem lw_p88 : lw_okq (⟨"OverByTheHandModel", "putsBack", "()V"⟩, 35) := ⟨⟨by decide +kernel, by decide +kernel⟩, List.mem_of_getElem? (i := 599) (by decide +kernel), List.mem_of_getElem? (i := 907) (by decide +kernel), List.mem_of_getElem? (i := 908) (by decide +kernel)⟩
theorem lw_p89 : lw_okq (⟨"OverByTheHandModel", "findLongest", "()V"⟩, 35) := ⟨⟨by decide +kernel, by decide +kernel⟩, List.mem_of_getElem? (i := 599) (by decide +kernel), List.mem_of_getElem? (i := 915) (by decide +kernel), List.mem_of_getElem? (i := 916) (by decide +kernel)⟩
theorem lw_p90 : lw_okq (⟨"OverByTheHandModel", "grudgesIn", "()I"⟩, 35) := ⟨⟨by decide +kernel, by decide +kernel⟩, List.mem_of_getElem? (i := 599) (by decide +kernel), List.mem_of_getElem? (i := 923) (by decide +kernel), List.mem_of_getElem? (i := 924) (by decide +kernel)⟩
theorem lw_p91 : lw_okq (⟨"OverByTheHandModel", "longestOrNothing", "()I"⟩, 35) := ⟨⟨by decide +kernel, by decide +kernel⟩, List.mem_of_getElem? (i := 599) (by decide +kernel), List.mem_of_getElem? (i := 931) (by decide +kernel), List.mem_of_getElem? (i := 932) (by decide +kernel)⟩
theorem lw_p92 : lw_okq (⟨"OverByTheHandModel", "lower", "(I)I"⟩, 35) := ⟨⟨by decide +kernel, by decide +kernel⟩, List.mem_of_getElem? (i := 599) (by decide +kernel), List.mem_of_getElem? (i := 955) (by decide +kernel), List.mem_of_getElem? (i := 956) (by decide +kernel)⟩
theorem lw_p93 : lw_okq (⟨"OverByTheHandModel", "strikesTwo", "()Z"⟩, 35) := ⟨⟨by decide +kernel, by decide +kernel⟩, List.mem_of_getElem? (i := 599) (by decide +kernel), List.mem_of_getElem? (i := 964) (by decide +kernel), List.mem_of_getElem? (i := 965) (by decide +kernel)⟩
theorem lw_p94 : lw_okq (⟨"OverByTheHandModel", "doesOwe", "(II)Z"⟩, 35) := ⟨⟨by decide +kernel, by decide +kernel⟩, List.mem_of_getElem? (i := 599) (by decide +kernel), List.mem_of_getElem? (i := 968) (by decide +kernel), List.mem_of_getElem? (i := 969) (by decide +kernel)⟩
theorem lw_p95 : lw_okq (⟨"OverByTheHandModel", "strikesThree", "()Z"⟩, 35) := ⟨⟨by decide +kernel, by decide +kernel⟩, List.mem_of_getElem? (i := 599) (by decide +kernel), List.mem_of_getElem? (i := 972) (by decide +kernel), List.mem_of_getElem? (i := 973) (by decide +kernel)⟩
def lw_privs_6 : List (MethodName × Nat) := [(⟨"OverByTheHandModel", "slipsIn", "(III)I"⟩, 35), (⟨"OverByTheHandModel", "doesReach", "(III)Z"⟩, 35), (⟨"OverByTheHandModel", "doesHold", "(II)Z"⟩, 35), (⟨"OverByTheHandModel", "doesStand", "()Z"⟩, 35), (⟨"OverByTheHandModel", "lastsNow", "()I"⟩, 35), (⟨"OverByTheHandModel", "putsAway", "()V"⟩, 35), (⟨"OverByTheHandModel", "nextChain", "()Z"⟩, 35), (⟨"OverByTheHandModel", "areUnlike", "()Z"⟩, 35), (⟨"OverByTheHandModel", "putsBack", "()V"⟩, 35), (⟨"OverByTheHandModel", "findLongest", "()V"⟩, 35), (⟨"OverByTheHandModel", "grudgesIn", "()I"⟩, 35), (⟨"OverByTheHandModel", "longestOrNothing", "()I"⟩, 35), (⟨"OverByTheHandModel", "lower", "(I)I"⟩, 35), (⟨"OverByTheHandModel", "strikesTwo", "()Z"⟩, 35), (⟨"OverByTheHandModel", "doesOwe", "(II)Z"⟩, 35), (⟨"OverByTheHandModel", "strikesThree", "()Z"⟩, 35)]
theorem lw_r6 : ∀ q ∈ lw_privs_6, lw_okq q := List.forall_mem_cons.mpr ⟨lw_p80, List.forall_mem_cons.mpr ⟨lw_p81, List.forall_mem_cons.mpr ⟨lw_p82, List.forall_mem_cons.mpr ⟨lw_p83, List.forall_mem_cons.mpr ⟨lw_p84, List.forall_mem_cons.mpr ⟨lw_p85, List.forall_mem_cons.mpr ⟨lw_p86, List.forall_mem_cons.mpr ⟨lw_p87, List.forall_mem_cons.mpr ⟨lw_p88, List.forall_mem_cons.mpr ⟨lw_p89, List.forall_mem_cons.mpr ⟨lw_p90, List.forall_mem_cons.mpr ⟨lw_p91, List.forall_mem_cons.mpr ⟨lw_p92, List.forall_mem_cons.mpr ⟨lw_p93, List.forall_mem_cons.mpr ⟨lw_p94, List.forall_mem_cons.mpr ⟨lw_p95, fun _ h => absurd h List.not_mem_nil⟩⟩⟩⟩⟩⟩⟩⟩⟩⟩⟩⟩⟩⟩⟩⟩
theorem lw_p96 : lw_okq (⟨"OverByTheHandModel", "areDry", "(I)Z"⟩, 35) := ⟨⟨by decide +kernel, by decide +kernel⟩, List.mem_of_getElem? (i := 599) (by decide +kernel), List.mem_of_getElem? (i := 980) (by decide +kernel), List.mem_of_getElem? (i := 981) (by decide +kernel)⟩
theorem lw_p97 : lw_okq (⟨"OverByTheHandModel", "sumOf", "([I)I"⟩, 35) := ⟨⟨by decide +kernel, by decide +kernel⟩, List.mem_of_getElem? (i := 599) (by decide +kernel), List.mem_of_getElem? (i := 1003) (by decide +kernel), List.mem_of_getElem? (i := 1004) (by decide +kernel)⟩
def lw_privs_7 : List (MethodName × Nat) := [(⟨"OverByTheHandModel", "areDry", "(I)Z"⟩, 35), (⟨"OverByTheHandModel", "sumOf", "([I)I"⟩, 35)]
theorem lw_r7 : ∀ q ∈ lw_privs_7, lw_okq q := List.forall_mem_cons.mpr ⟨lw_p96, List.forall_mem_cons.mpr ⟨lw_p97, fun _ h => absurd h List.not_mem_nil⟩⟩
def lw_privs : List (MethodName × Nat) := lw_privs_1 ++ (lw_privs_2 ++ (lw_privs_3 ++ (lw_privs_4 ++ (lw_privs_5 ++ (lw_privs_6 ++ (lw_privs_7))))))
def lw_tbl : List Cond := k2_sels lw_privs ++ tables_1
theorem lw_privs_ok : ∀ q ∈ lw_privs, lw_okq q := by
  show ∀ q ∈ lw_privs_1 ++ (lw_privs_2 ++ (lw_privs_3 ++ (lw_privs_4 ++ (lw_privs_5 ++ (lw_privs_6 ++ (lw_privs_7)))))), lw_okq q
  exact List.forall_mem_append.mpr ⟨lw_r1, List.forall_mem_append.mpr ⟨lw_r2, List.forall_mem_append.mpr ⟨lw_r3, List.forall_mem_append.mpr ⟨lw_r4, List.forall_mem_append.mpr ⟨lw_r5, List.forall_mem_append.mpr ⟨lw_r6, lw_r7⟩⟩⟩⟩⟩⟩
def RX0 : String := "OverByTheHand$Letters"
def TX0 : u_T := fun k => match k with
  | 0 => ("OverByTheHand$Letters", "row", "[I", true)
  | _ => ("OverByTheHand$Letters", "length", "I", false)
def tyX0 : Nat → FieldType := fun k => match k with
  | 0 => .array .int
  | _ => .int
theorem nmX0 : ∀ a, a < 2 → ∀ b, b < 2 → a ≠ b → (TX0 a).2.1 ≠ (TX0 b).2.1 := by decide +kernel
theorem tyX0_ok : ∀ k, k < 2 → parseFieldDescriptor (TX0 k).2.2.1 = some (tyX0 k) := by decide +kernel
abbrev cX0_init : ByteArray := prog_2_method_1_code
def yX0_init : MethodName := ⟨RX0, "<init>", "()V"⟩
abbrev cX0_take : ByteArray := prog_2_method_2_code
def yX0_take : MethodName := ⟨RX0, "take", "(I)V"⟩
abbrev cX0_at : ByteArray := prog_2_method_3_code
def yX0_at : MethodName := ⟨RX0, "at", "(I)I"⟩
abbrev cX0_isDigit : ByteArray := prog_2_method_4_code
def yX0_isDigit : MethodName := ⟨RX0, "isDigit", "(I)Z"⟩
abbrev cX0_digit : ByteArray := prog_2_method_5_code
def yX0_digit : MethodName := ⟨RX0, "digit", "(I)I"⟩
abbrev cX0_leastDigits : ByteArray := prog_2_method_6_code
def yX0_leastDigits : MethodName := ⟨RX0, "leastDigits", "(I)I"⟩
abbrev cX0_mostDigits : ByteArray := prog_2_method_7_code
def yX0_mostDigits : MethodName := ⟨RX0, "mostDigits", "(I)I"⟩
abbrev cX0_digitsFrom : ByteArray := prog_2_method_8_code
def yX0_digitsFrom : MethodName := ⟨RX0, "digitsFrom", "(II)I"⟩
abbrev cX0_endOf : ByteArray := prog_2_method_9_code
def yX0_endOf : MethodName := ⟨RX0, "endOf", "(I)I"⟩
abbrev cX0_firstWrong : ByteArray := prog_2_method_10_code
def yX0_firstWrong : MethodName := ⟨RX0, "firstWrong", "()I"⟩
abbrev cX0_tellTo : ByteArray := prog_2_method_11_code
def yX0_tellTo : MethodName := ⟨RX0, "tellTo", "(LOverByTheHand$River;)I"⟩
abbrev cX0_tellStatement : ByteArray := prog_2_method_12_code
def yX0_tellStatement : MethodName := ⟨RX0, "tellStatement", "(LOverByTheHand$River;I)Z"⟩
abbrev cX0_warmthAt : ByteArray := prog_2_method_13_code
def yX0_warmthAt : MethodName := ⟨RX0, "warmthAt", "(I)I"⟩
def RX1 : String := "OverByTheHand$Mind"
def TX1 : u_T := fun k => match k with
  | 0 => ("OverByTheHand$Mind", "chain", "[I", true)
  | 1 => ("OverByTheHand$Mind", "able", "[I", true)
  | 2 => ("OverByTheHand$Mind", "minutes", "[I", true)
  | 3 => ("OverByTheHand$Mind", "standing", "I", false)
  | 4 => ("OverByTheHand$Mind", "mostMinutes", "I", false)
  | 5 => ("OverByTheHand$Mind", "best", "[I", true)
  | 6 => ("OverByTheHand$Mind", "fewestGrudges", "I", false)
  | _ => ("OverByTheHand$Mind", "stoodIn", "[I", true)
def tyX1 : Nat → FieldType := fun k => match k with
  | 0 => .array .int
  | 1 => .array .int
  | 2 => .array .int
  | 3 => .int
  | 4 => .int
  | 5 => .array .int
  | 6 => .int
  | _ => .array .int
theorem nmX1 : ∀ a, a < 8 → ∀ b, b < 8 → a ≠ b → (TX1 a).2.1 ≠ (TX1 b).2.1 := by decide +kernel
theorem tyX1_ok : ∀ k, k < 8 → parseFieldDescriptor (TX1 k).2.2.1 = some (tyX1 k) := by decide +kernel
abbrev cX1_init : ByteArray := prog_3_method_1_code
def yX1_init : MethodName := ⟨RX1, "<init>", "()V"⟩
abbrev cX1_thinkOf : ByteArray := prog_3_method_2_code
def yX1_thinkOf : MethodName := ⟨RX1, "thinkOf", "(LOverByTheHand$River;I)V"⟩
abbrev cX1_ableIn : ByteArray := prog_3_method_3_code
def yX1_ableIn : MethodName := ⟨RX1, "ableIn", "(LOverByTheHand$River;I)I"⟩
abbrev cX1_extend : ByteArray := prog_3_method_4_code
def yX1_extend : MethodName := ⟨RX1, "extend", "(LOverByTheHand$River;IIII)V"⟩
abbrev cX1_weigh : ByteArray := prog_3_method_5_code
def yX1_weigh : MethodName := ⟨RX1, "weigh", "(III)V"⟩
abbrev cX1_bestChange : ByteArray := prog_3_method_6_code
def yX1_bestChange : MethodName := ⟨RX1, "bestChange", "(LOverByTheHand$River;)I"⟩
abbrev cX1_standingBySeed : ByteArray := prog_3_method_7_code
def yX1_standingBySeed : MethodName := ⟨RX1, "standingBySeed", "(LOverByTheHand$River;II)I"⟩
abbrev cX1_drawBelow : ByteArray := prog_3_method_8_code
def yX1_drawBelow : MethodName := ⟨RX1, "drawBelow", "(II)I"⟩
def RX2 : String := "OverByTheHand$Person"
def TX2 : u_T := fun k => match k with
  | 0 => ("OverByTheHand$Person", "kind", "I", false)
  | 1 => ("OverByTheHand$Person", "figure", "I", false)
  | 2 => ("OverByTheHand$Person", "height", "I", false)
  | 3 => ("OverByTheHand$Person", "strength", "I", false)
  | 4 => ("OverByTheHand$Person", "warmth", "I", false)
  | _ => ("OverByTheHand$Person", "over", "Z", false)
def tyX2 : Nat → FieldType := fun k => match k with
  | 0 => .int
  | 1 => .int
  | 2 => .int
  | 3 => .int
  | 4 => .int
  | _ => .boolean
theorem nmX2 : ∀ a, a < 6 → ∀ b, b < 6 → a ≠ b → (TX2 a).2.1 ≠ (TX2 b).2.1 := by decide +kernel
theorem tyX2_ok : ∀ k, k < 6 → parseFieldDescriptor (TX2 k).2.2.1 = some (tyX2 k) := by decide +kernel
abbrev cX2_init : ByteArray := prog_4_method_1_code
def yX2_init : MethodName := ⟨RX2, "<init>", "()V"⟩
abbrev cX2_copyFrom : ByteArray := prog_4_method_2_code
def yX2_copyFrom : MethodName := ⟨RX2, "copyFrom", "(LOverByTheHand$Person;)V"⟩
abbrev cX2_reaches : ByteArray := prog_4_method_3_code
def yX2_reaches : MethodName := ⟨RX2, "reaches", "()I"⟩
abbrev cX2_holds : ByteArray := prog_4_method_4_code
def yX2_holds : MethodName := ⟨RX2, "holds", "()I"⟩
abbrev cX2_cools : ByteArray := prog_4_method_5_code
def yX2_cools : MethodName := ⟨RX2, "cools", "(I)I"⟩
abbrev cX2_minutes : ByteArray := prog_4_method_6_code
def yX2_minutes : MethodName := ⟨RX2, "minutes", "(I)I"⟩
def RX3 : String := "OverByTheHand$River"
def TX3 : u_T := fun k => match k with
  | 0 => ("OverByTheHand$River", "yards", "I", false)
  | 1 => ("OverByTheHand$River", "cold", "I", false)
  | 2 => ("OverByTheHand$River", "minute", "I", false)
  | 3 => ("OverByTheHand$River", "people", "I", false)
  | 4 => ("OverByTheHand$River", "depth", "[I", true)
  | 5 => ("OverByTheHand$River", "pull", "[I", true)
  | 6 => ("OverByTheHand$River", "who", "[I", true)
  | 7 => ("OverByTheHand$River", "persons", "[LOverByTheHand$Person;", true)
  | 8 => ("OverByTheHand$River", "grudges", "[I", true)
  | _ => ("OverByTheHand$River", "hours", "[I", true)
def tyX3 : Nat → FieldType := fun k => match k with
  | 0 => .int
  | 1 => .int
  | 2 => .int
  | 3 => .int
  | 4 => .array .int
  | 5 => .array .int
  | 6 => .array .int
  | 7 => .array (.object "OverByTheHand$Person")
  | 8 => .array .int
  | _ => .array .int
theorem nmX3 : ∀ a, a < 10 → ∀ b, b < 10 → a ≠ b → (TX3 a).2.1 ≠ (TX3 b).2.1 := by decide +kernel
theorem tyX3_ok : ∀ k, k < 10 → parseFieldDescriptor (TX3 k).2.2.1 = some (tyX3 k) := by decide +kernel
abbrev cX3_init : ByteArray := prog_5_method_1_code
def yX3_init : MethodName := ⟨RX3, "<init>", "()V"⟩
abbrev cX3_copyFrom : ByteArray := prog_5_method_2_code
def yX3_copyFrom : MethodName := ⟨RX3, "copyFrom", "(LOverByTheHand$River;)V"⟩
abbrev cX3_isYard : ByteArray := prog_5_method_3_code
def yX3_isYard : MethodName := ⟨RX3, "isYard", "(I)Z"⟩
abbrev cX3_isPerson : ByteArray := prog_5_method_4_code
def yX3_isPerson : MethodName := ⟨RX3, "isPerson", "(I)Z"⟩
abbrev cX3_areTwo : ByteArray := prog_5_method_5_code
def yX3_areTwo : MethodName := ⟨RX3, "areTwo", "(II)Z"⟩
abbrev cX3_placeOf : ByteArray := prog_5_method_6_code
def yX3_placeOf : MethodName := ⟨RX3, "placeOf", "(I)I"⟩
abbrev cX3_isNear : ByteArray := prog_5_method_7_code
def yX3_isNear : MethodName := ⟨RX3, "isNear", "(I)Z"⟩
abbrev cX3_inWater : ByteArray := prog_5_method_8_code
def yX3_inWater : MethodName := ⟨RX3, "inWater", "()I"⟩
abbrev cX3_overThere : ByteArray := prog_5_method_9_code
def yX3_overThere : MethodName := ⟨RX3, "overThere", "()I"⟩
abbrev cX3_nearBank : ByteArray := prog_5_method_10_code
def yX3_nearBank : MethodName := ⟨RX3, "nearBank", "()I"⟩
abbrev cX3_notOver : ByteArray := prog_5_method_11_code
def yX3_notOver : MethodName := ⟨RX3, "notOver", "()I"⟩
abbrev cX3_emptyWater : ByteArray := prog_5_method_12_code
def yX3_emptyWater : MethodName := ⟨RX3, "emptyWater", "()V"⟩
abbrev cX3_enter : ByteArray := prog_5_method_13_code
def yX3_enter : MethodName := ⟨RX3, "enter", "(II)V"⟩
abbrev cX3_grudgeOf : ByteArray := prog_5_method_14_code
def yX3_grudgeOf : MethodName := ⟨RX3, "grudgeOf", "(II)I"⟩
abbrev cX3_setGrudge : ByteArray := prog_5_method_15_code
def yX3_setGrudge : MethodName := ⟨RX3, "setGrudge", "(III)V"⟩
abbrev cX3_allGrudges : ByteArray := prog_5_method_16_code
def yX3_allGrudges : MethodName := ⟨RX3, "allGrudges", "()I"⟩
abbrev cX3_loadOf : ByteArray := prog_5_method_17_code
def yX3_loadOf : MethodName := ⟨RX3, "loadOf", "(I)I"⟩
abbrev cX3_whyNot : ByteArray := prog_5_method_18_code
def yX3_whyNot : MethodName := ⟨RX3, "whyNot", "(II)I"⟩
abbrev cX3_whySlips : ByteArray := prog_5_method_19_code
def yX3_whySlips : MethodName := ⟨RX3, "whySlips", "([II)I"⟩
abbrev cX3_firstSlip : ByteArray := prog_5_method_20_code
def yX3_firstSlip : MethodName := ⟨RX3, "firstSlip", "([I)I"⟩
abbrev cX3_minutesOf : ByteArray := prog_5_method_21_code
def yX3_minutesOf : MethodName := ⟨RX3, "minutesOf", "([I)I"⟩
abbrev cX3_bringOver : ByteArray := prog_5_method_22_code
def yX3_bringOver : MethodName := ⟨RX3, "bringOver", "(I)V"⟩
abbrev cX3_firstAmiss : ByteArray := prog_5_method_23_code
def yX3_firstAmiss : MethodName := ⟨RX3, "firstAmiss", "([II)I"⟩
abbrev cX3_canCome : ByteArray := prog_5_method_24_code
def yX3_canCome : MethodName := ⟨RX3, "canCome", "([II)Z"⟩
abbrev cX3_hoursOf : ByteArray := prog_5_method_25_code
def yX3_hoursOf : MethodName := ⟨RX3, "hoursOf", "(II)I"⟩
abbrev cX3_setHours : ByteArray := prog_5_method_26_code
def yX3_setHours : MethodName := ⟨RX3, "setHours", "(III)V"⟩
abbrev cX3_lessenHours : ByteArray := prog_5_method_27_code
def yX3_lessenHours : MethodName := ⟨RX3, "lessenHours", "(III)V"⟩
abbrev cX3_allHours : ByteArray := prog_5_method_28_code
def yX3_allHours : MethodName := ⟨RX3, "allHours", "()I"⟩
abbrev cX3_strikeTwos : ByteArray := prog_5_method_29_code
def yX3_strikeTwos : MethodName := ⟨RX3, "strikeTwos", "()I"⟩
abbrev cX3_strikeThrees : ByteArray := prog_5_method_30_code
def yX3_strikeThrees : MethodName := ⟨RX3, "strikeThrees", "()I"⟩
abbrev cX3_strikeThree : ByteArray := prog_5_method_31_code
def yX3_strikeThree : MethodName := ⟨RX3, "strikeThree", "(III)I"⟩
abbrev cX3_tellYards : ByteArray := prog_5_method_32_code
def yX3_tellYards : MethodName := ⟨RX3, "tellYards", "(I)Z"⟩
abbrev cX3_tellYard : ByteArray := prog_5_method_33_code
def yX3_tellYard : MethodName := ⟨RX3, "tellYard", "(III)Z"⟩
abbrev cX3_tellPerson : ByteArray := prog_5_method_34_code
def yX3_tellPerson : MethodName := ⟨RX3, "tellPerson", "(IIIII)Z"⟩
abbrev cX3_tellGrudge : ByteArray := prog_5_method_35_code
def yX3_tellGrudge : MethodName := ⟨RX3, "tellGrudge", "(II)Z"⟩
abbrev cX3_tellIn : ByteArray := prog_5_method_36_code
def yX3_tellIn : MethodName := ⟨RX3, "tellIn", "(II)Z"⟩
def RX4 : String := "OverByTheHand"
def TX4 : u_T := fun k => match k with
  | 0 => ("OverByTheHand", "now", "LOverByTheHand$River;", true)
  | 1 => ("OverByTheHand", "trial", "LOverByTheHand$River;", true)
  | 2 => ("OverByTheHand", "kept", "LOverByTheHand$River;", true)
  | 3 => ("OverByTheHand", "isKept", "Z", false)
  | 4 => ("OverByTheHand", "letters", "LOverByTheHand$Letters;", true)
  | 5 => ("OverByTheHand", "mind", "LOverByTheHand$Mind;", true)
  | 6 => ("OverByTheHand", "told", "[I", true)
  | 7 => ("OverByTheHand", "toldLength", "I", false)
  | _ => ("OverByTheHand", "refusals", "[I", true)
def tyX4 : Nat → FieldType := fun k => match k with
  | 0 => .object "OverByTheHand$River"
  | 1 => .object "OverByTheHand$River"
  | 2 => .object "OverByTheHand$River"
  | 3 => .boolean
  | 4 => .object "OverByTheHand$Letters"
  | 5 => .object "OverByTheHand$Mind"
  | 6 => .array .int
  | 7 => .int
  | _ => .array .int
theorem nmX4 : ∀ a, a < 9 → ∀ b, b < 9 → a ≠ b → (TX4 a).2.1 ≠ (TX4 b).2.1 := by decide +kernel
theorem tyX4_ok : ∀ k, k < 9 → parseFieldDescriptor (TX4 k).2.2.1 = some (tyX4 k) := by decide +kernel
abbrev cX4_init : ByteArray := prog_1_method_1_code
def yX4_init : MethodName := ⟨RX4, "<init>", "()V"⟩
abbrev cX4_feed : ByteArray := prog_1_method_2_code
def yX4_feed : MethodName := ⟨RX4, "feed", "(I)I"⟩
abbrev cX4_river : ByteArray := prog_1_method_3_code
def yX4_river : MethodName := ⟨RX4, "river", "()I"⟩
abbrev cX4_yard : ByteArray := prog_1_method_4_code
def yX4_yard : MethodName := ⟨RX4, "yard", "(II)I"⟩
abbrev cX4_person : ByteArray := prog_1_method_5_code
def yX4_person : MethodName := ⟨RX4, "person", "(II)I"⟩
abbrev cX4_grudge : ByteArray := prog_1_method_6_code
def yX4_grudge : MethodName := ⟨RX4, "grudge", "(II)I"⟩
abbrev cX4_quarrel : ByteArray := prog_1_method_7_code
def yX4_quarrel : MethodName := ⟨RX4, "quarrel", "(III)I"⟩
abbrev cX4_cold : ByteArray := prog_1_method_8_code
def yX4_cold : MethodName := ⟨RX4, "cold", "(I)I"⟩
abbrev cX4_put : ByteArray := prog_1_method_9_code
def yX4_put : MethodName := ⟨RX4, "put", "(II)I"⟩
abbrev cX4_out : ByteArray := prog_1_method_10_code
def yX4_out : MethodName := ⟨RX4, "out", "()I"⟩
abbrev cX4_load : ByteArray := prog_1_method_11_code
def yX4_load : MethodName := ⟨RX4, "load", "(I)I"⟩
abbrev cX4_slips : ByteArray := prog_1_method_12_code
def yX4_slips : MethodName := ⟨RX4, "slips", "(I)I"⟩
abbrev cX4_lasts : ByteArray := prog_1_method_13_code
def yX4_lasts : MethodName := ⟨RX4, "lasts", "()I"⟩
abbrev cX4_cross : ByteArray := prog_1_method_14_code
def yX4_cross : MethodName := ⟨RX4, "cross", "(I)I"⟩
abbrev cX4_chains : ByteArray := prog_1_method_15_code
def yX4_chains : MethodName := ⟨RX4, "chains", "()I"⟩
abbrev cX4_longest : ByteArray := prog_1_method_16_code
def yX4_longest : MethodName := ⟨RX4, "longest", "(I)I"⟩
abbrev cX4_makeUp : ByteArray := prog_1_method_17_code
def yX4_makeUp : MethodName := ⟨RX4, "makeUp", "()I"⟩
abbrev cX4_worth : ByteArray := prog_1_method_18_code
def yX4_worth : MethodName := ⟨RX4, "worth", "(II)I"⟩
abbrev cX4_change : ByteArray := prog_1_method_19_code
def yX4_change : MethodName := ⟨RX4, "change", "()I"⟩
abbrev cX4_flood : ByteArray := prog_1_method_20_code
def yX4_flood : MethodName := ⟨RX4, "flood", "()I"⟩
abbrev cX4_overs : ByteArray := prog_1_method_21_code
def yX4_overs : MethodName := ⟨RX4, "overs", "()I"⟩
abbrev cX4_owes : ByteArray := prog_1_method_22_code
def yX4_owes : MethodName := ⟨RX4, "owes", "(II)I"⟩
abbrev cX4_owed : ByteArray := prog_1_method_23_code
def yX4_owed : MethodName := ⟨RX4, "owed", "(I)I"⟩
abbrev cX4_strike : ByteArray := prog_1_method_24_code
def yX4_strike : MethodName := ⟨RX4, "strike", "()I"⟩
abbrev cX4_wet : ByteArray := prog_1_method_25_code
def yX4_wet : MethodName := ⟨RX4, "wet", "(II)I"⟩
abbrev cX4_row : ByteArray := prog_1_method_26_code
def yX4_row : MethodName := ⟨RX4, "row", "(I)I"⟩
abbrev cX4_judge : ByteArray := prog_1_method_27_code
def yX4_judge : MethodName := ⟨RX4, "judge", "()I"⟩
abbrev cX4_seeds : ByteArray := prog_1_method_28_code
def yX4_seeds : MethodName := ⟨RX4, "seeds", "(II)I"⟩
abbrev cX4_image : ByteArray := prog_1_method_29_code
def yX4_image : MethodName := ⟨RX4, "image", "()I"⟩
abbrev cX4_restore : ByteArray := prog_1_method_30_code
def yX4_restore : MethodName := ⟨RX4, "restore", "()I"⟩
abbrev cX4_count : ByteArray := prog_1_method_31_code
def yX4_count : MethodName := ⟨RX4, "count", "(I)I"⟩
abbrev cX4_refuse : ByteArray := prog_1_method_32_code
def yX4_refuse : MethodName := ⟨RX4, "refuse", "(I)I"⟩
abbrev cX4_tellRiver : ByteArray := prog_1_method_33_code
def yX4_tellRiver : MethodName := ⟨RX4, "tellRiver", "()I"⟩
def RX5 : String := "OverByTheHandModel"
def TX5 : u_T := fun k => match k with
  | 0 => ("OverByTheHandModel", "refused", "[I", true)
  | 1 => ("OverByTheHandModel", "depth", "[I", true)
  | 2 => ("OverByTheHandModel", "pull", "[I", true)
  | 3 => ("OverByTheHandModel", "inYard", "[I", true)
  | 4 => ("OverByTheHandModel", "kind", "[I", true)
  | 5 => ("OverByTheHandModel", "figure", "[I", true)
  | 6 => ("OverByTheHandModel", "height", "[I", true)
  | 7 => ("OverByTheHandModel", "strength", "[I", true)
  | 8 => ("OverByTheHandModel", "warmth", "[I", true)
  | 9 => ("OverByTheHandModel", "over", "[I", true)
  | 10 => ("OverByTheHandModel", "bad", "[I", true)
  | 11 => ("OverByTheHandModel", "hours", "[I", true)
  | 12 => ("OverByTheHandModel", "yards", "I", false)
  | 13 => ("OverByTheHandModel", "people", "I", false)
  | 14 => ("OverByTheHandModel", "cold", "I", false)
  | 15 => ("OverByTheHandModel", "minute", "I", false)
  | 16 => ("OverByTheHandModel", "tape", "[I", true)
  | 17 => ("OverByTheHandModel", "letter", "[I", true)
  | 18 => ("OverByTheHandModel", "letterAt", "[I", true)
  | 19 => ("OverByTheHandModel", "told", "[I", true)
  | 20 => ("OverByTheHandModel", "taped", "I", false)
  | 21 => ("OverByTheHandModel", "at", "I", false)
  | 22 => ("OverByTheHandModel", "statements", "I", false)
  | 23 => ("OverByTheHandModel", "kept", "[I", true)
  | 24 => ("OverByTheHandModel", "hasImage", "Z", false)
  | 25 => ("OverByTheHandModel", "isKeeping", "Z", false)
  | 26 => ("OverByTheHandModel", "cursor", "I", false)
  | 27 => ("OverByTheHandModel", "slipYard", "I", false)
  | 28 => ("OverByTheHandModel", "slipWhy", "I", false)
  | 29 => ("OverByTheHandModel", "stood", "[I", true)
  | 30 => ("OverByTheHandModel", "chainNumber", "I", false)
  | 31 => ("OverByTheHandModel", "best", "[I", true)
  | 32 => ("OverByTheHandModel", "bestLasts", "I", false)
  | 33 => ("OverByTheHandModel", "row", "[I", true)
  | _ => ("OverByTheHandModel", "rowMany", "I", false)
def tyX5 : Nat → FieldType := fun k => match k with
  | 0 => .array .int
  | 1 => .array .int
  | 2 => .array .int
  | 3 => .array .int
  | 4 => .array .int
  | 5 => .array .int
  | 6 => .array .int
  | 7 => .array .int
  | 8 => .array .int
  | 9 => .array .int
  | 10 => .array .int
  | 11 => .array .int
  | 12 => .int
  | 13 => .int
  | 14 => .int
  | 15 => .int
  | 16 => .array .int
  | 17 => .array .int
  | 18 => .array .int
  | 19 => .array .int
  | 20 => .int
  | 21 => .int
  | 22 => .int
  | 23 => .array .int
  | 24 => .boolean
  | 25 => .boolean
  | 26 => .int
  | 27 => .int
  | 28 => .int
  | 29 => .array .int
  | 30 => .int
  | 31 => .array .int
  | 32 => .int
  | 33 => .array .int
  | _ => .int
theorem nmX5 : ∀ a, a < 35 → ∀ b, b < 35 → a ≠ b → (TX5 a).2.1 ≠ (TX5 b).2.1 := by decide +kernel
theorem tyX5_ok : ∀ k, k < 35 → parseFieldDescriptor (TX5 k).2.2.1 = some (tyX5 k) := by decide +kernel
abbrev cX5_init : ByteArray := prog_7_method_1_code
def yX5_init : MethodName := ⟨RX5, "<init>", "()V"⟩
abbrev cX5_no : ByteArray := prog_7_method_2_code
def yX5_no : MethodName := ⟨RX5, "no", "(I)I"⟩
abbrev cX5_lower : ByteArray := prog_7_method_3_code
def yX5_lower : MethodName := ⟨RX5, "lower", "(I)I"⟩
abbrev cX5_isIn : ByteArray := prog_7_method_4_code
def yX5_isIn : MethodName := ⟨RX5, "isIn", "(III)Z"⟩
abbrev cX5_bound : ByteArray := prog_7_method_5_code
def yX5_bound : MethodName := ⟨RX5, "bound", "(III)I"⟩
abbrev cX5_least : ByteArray := prog_7_method_6_code
def yX5_least : MethodName := ⟨RX5, "least", "(II)I"⟩
abbrev cX5_isYard : ByteArray := prog_7_method_7_code
def yX5_isYard : MethodName := ⟨RX5, "isYard", "(I)Z"⟩
abbrev cX5_isOne : ByteArray := prog_7_method_8_code
def yX5_isOne : MethodName := ⟨RX5, "isOne", "(I)Z"⟩
abbrev cX5_areTwo : ByteArray := prog_7_method_9_code
def yX5_areTwo : MethodName := ⟨RX5, "areTwo", "(II)Z"⟩
abbrev cX5_yardOf : ByteArray := prog_7_method_10_code
def yX5_yardOf : MethodName := ⟨RX5, "yardOf", "(I)I"⟩
abbrev cX5_feed : ByteArray := prog_7_method_11_code
def yX5_feed : MethodName := ⟨RX5, "feed", "(I)I"⟩
abbrev cX5_next : ByteArray := prog_7_method_12_code
def yX5_next : MethodName := ⟨RX5, "next", "()I"⟩
abbrev cX5_readsNumber : ByteArray := prog_7_method_13_code
def yX5_readsNumber : MethodName := ⟨RX5, "readsNumber", "(II)Z"⟩
abbrev cX5_onesOf : ByteArray := prog_7_method_14_code
def yX5_onesOf : MethodName := ⟨RX5, "onesOf", "(I)I"⟩
abbrev cX5_statement : ByteArray := prog_7_method_15_code
def yX5_statement : MethodName := ⟨RX5, "statement", "()Z"⟩
abbrev cX5_begins : ByteArray := prog_7_method_16_code
def yX5_begins : MethodName := ⟨RX5, "begins", "(I)Z"⟩
abbrev cX5_comesOne : ByteArray := prog_7_method_17_code
def yX5_comesOne : MethodName := ⟨RX5, "comesOne", "(I)Z"⟩
abbrev cX5_sets : ByteArray := prog_7_method_18_code
def yX5_sets : MethodName := ⟨RX5, "sets", "(II)V"⟩
abbrev cX5_comes : ByteArray := prog_7_method_19_code
def yX5_comes : MethodName := ⟨RX5, "comes", "(I)Z"⟩
abbrev cX5_river : ByteArray := prog_7_method_20_code
def yX5_river : MethodName := ⟨RX5, "river", "()I"⟩
abbrev cX5_passes : ByteArray := prog_7_method_21_code
def yX5_passes : MethodName := ⟨RX5, "passes", "([I)V"⟩
abbrev cX5_passOne : ByteArray := prog_7_method_22_code
def yX5_passOne : MethodName := ⟨RX5, "passOne", "(I)I"⟩
abbrev cX5_passesAll : ByteArray := prog_7_method_23_code
def yX5_passesAll : MethodName := ⟨RX5, "passesAll", "(IZ)V"⟩
abbrev cX5_image : ByteArray := prog_7_method_24_code
def yX5_image : MethodName := ⟨RX5, "image", "()I"⟩
abbrev cX5_restore : ByteArray := prog_7_method_25_code
def yX5_restore : MethodName := ⟨RX5, "restore", "()I"⟩
abbrev cX5_reachOf : ByteArray := prog_7_method_26_code
def yX5_reachOf : MethodName := ⟨RX5, "reachOf", "(I)I"⟩
abbrev cX5_holdOf : ByteArray := prog_7_method_27_code
def yX5_holdOf : MethodName := ⟨RX5, "holdOf", "(I)I"⟩
abbrev cX5_coolOf : ByteArray := prog_7_method_28_code
def yX5_coolOf : MethodName := ⟨RX5, "coolOf", "(I)I"⟩
abbrev cX5_yard : ByteArray := prog_7_method_29_code
def yX5_yard : MethodName := ⟨RX5, "yard", "(II)I"⟩
abbrev cX5_person : ByteArray := prog_7_method_30_code
def yX5_person : MethodName := ⟨RX5, "person", "(II)I"⟩
abbrev cX5_grudge : ByteArray := prog_7_method_31_code
def yX5_grudge : MethodName := ⟨RX5, "grudge", "(II)I"⟩
abbrev cX5_quarrel : ByteArray := prog_7_method_32_code
def yX5_quarrel : MethodName := ⟨RX5, "quarrel", "(III)I"⟩
abbrev cX5_cold : ByteArray := prog_7_method_33_code
def yX5_cold : MethodName := ⟨RX5, "cold", "(I)I"⟩
abbrev cX5_put : ByteArray := prog_7_method_34_code
def yX5_put : MethodName := ⟨RX5, "put", "(II)I"⟩
abbrev cX5_wetMany : ByteArray := prog_7_method_35_code
def yX5_wetMany : MethodName := ⟨RX5, "wetMany", "()I"⟩
abbrev cX5_out : ByteArray := prog_7_method_36_code
def yX5_out : MethodName := ⟨RX5, "out", "()I"⟩
abbrev cX5_loadOf : ByteArray := prog_7_method_37_code
def yX5_loadOf : MethodName := ⟨RX5, "loadOf", "(I)I"⟩
abbrev cX5_load : ByteArray := prog_7_method_38_code
def yX5_load : MethodName := ⟨RX5, "load", "(I)I"⟩
abbrev cX5_doesReach : ByteArray := prog_7_method_39_code
def yX5_doesReach : MethodName := ⟨RX5, "doesReach", "(III)Z"⟩
abbrev cX5_doesHold : ByteArray := prog_7_method_40_code
def yX5_doesHold : MethodName := ⟨RX5, "doesHold", "(II)Z"⟩
abbrev cX5_slipsIn : ByteArray := prog_7_method_41_code
def yX5_slipsIn : MethodName := ⟨RX5, "slipsIn", "(III)I"⟩
abbrev cX5_findSlip : ByteArray := prog_7_method_42_code
def yX5_findSlip : MethodName := ⟨RX5, "findSlip", "()V"⟩
abbrev cX5_doesStand : ByteArray := prog_7_method_43_code
def yX5_doesStand : MethodName := ⟨RX5, "doesStand", "()Z"⟩
abbrev cX5_lastsNow : ByteArray := prog_7_method_44_code
def yX5_lastsNow : MethodName := ⟨RX5, "lastsNow", "()I"⟩
abbrev cX5_slips : ByteArray := prog_7_method_45_code
def yX5_slips : MethodName := ⟨RX5, "slips", "(I)I"⟩
abbrev cX5_lasts : ByteArray := prog_7_method_46_code
def yX5_lasts : MethodName := ⟨RX5, "lasts", "()I"⟩
abbrev cX5_overMany : ByteArray := prog_7_method_47_code
def yX5_overMany : MethodName := ⟨RX5, "overMany", "()I"⟩
abbrev cX5_cross : ByteArray := prog_7_method_48_code
def yX5_cross : MethodName := ⟨RX5, "cross", "(I)I"⟩
abbrev cX5_putsAway : ByteArray := prog_7_method_49_code
def yX5_putsAway : MethodName := ⟨RX5, "putsAway", "()V"⟩
abbrev cX5_putsBack : ByteArray := prog_7_method_50_code
def yX5_putsBack : MethodName := ⟨RX5, "putsBack", "()V"⟩
abbrev cX5_areUnlike : ByteArray := prog_7_method_51_code
def yX5_areUnlike : MethodName := ⟨RX5, "areUnlike", "()Z"⟩
abbrev cX5_nextChain : ByteArray := prog_7_method_52_code
def yX5_nextChain : MethodName := ⟨RX5, "nextChain", "()Z"⟩
abbrev cX5_chains : ByteArray := prog_7_method_53_code
def yX5_chains : MethodName := ⟨RX5, "chains", "()I"⟩
abbrev cX5_findLongest : ByteArray := prog_7_method_54_code
def yX5_findLongest : MethodName := ⟨RX5, "findLongest", "()V"⟩
abbrev cX5_longest : ByteArray := prog_7_method_55_code
def yX5_longest : MethodName := ⟨RX5, "longest", "(I)I"⟩
abbrev cX5_grudgesIn : ByteArray := prog_7_method_56_code
def yX5_grudgesIn : MethodName := ⟨RX5, "grudgesIn", "()I"⟩
abbrev cX5_makeUp : ByteArray := prog_7_method_57_code
def yX5_makeUp : MethodName := ⟨RX5, "makeUp", "()I"⟩
abbrev cX5_longestOrNothing : ByteArray := prog_7_method_58_code
def yX5_longestOrNothing : MethodName := ⟨RX5, "longestOrNothing", "()I"⟩
abbrev cX5_worth : ByteArray := prog_7_method_59_code
def yX5_worth : MethodName := ⟨RX5, "worth", "(II)I"⟩
abbrev cX5_change : ByteArray := prog_7_method_60_code
def yX5_change : MethodName := ⟨RX5, "change", "()I"⟩
abbrev cX5_flood : ByteArray := prog_7_method_61_code
def yX5_flood : MethodName := ⟨RX5, "flood", "()I"⟩
abbrev cX5_overs : ByteArray := prog_7_method_62_code
def yX5_overs : MethodName := ⟨RX5, "overs", "()I"⟩
abbrev cX5_owes : ByteArray := prog_7_method_63_code
def yX5_owes : MethodName := ⟨RX5, "owes", "(II)I"⟩
abbrev cX5_owed : ByteArray := prog_7_method_64_code
def yX5_owed : MethodName := ⟨RX5, "owed", "(I)I"⟩
abbrev cX5_doesOwe : ByteArray := prog_7_method_65_code
def yX5_doesOwe : MethodName := ⟨RX5, "doesOwe", "(II)Z"⟩
abbrev cX5_strikesTwo : ByteArray := prog_7_method_66_code
def yX5_strikesTwo : MethodName := ⟨RX5, "strikesTwo", "()Z"⟩
abbrev cX5_strikesThree : ByteArray := prog_7_method_67_code
def yX5_strikesThree : MethodName := ⟨RX5, "strikesThree", "()Z"⟩
abbrev cX5_strike : ByteArray := prog_7_method_68_code
def yX5_strike : MethodName := ⟨RX5, "strike", "()I"⟩
abbrev cX5_areDry : ByteArray := prog_7_method_69_code
def yX5_areDry : MethodName := ⟨RX5, "areDry", "(I)Z"⟩
abbrev cX5_wet : ByteArray := prog_7_method_70_code
def yX5_wet : MethodName := ⟨RX5, "wet", "(II)I"⟩
abbrev cX5_row : ByteArray := prog_7_method_71_code
def yX5_row : MethodName := ⟨RX5, "row", "(I)I"⟩
abbrev cX5_judge : ByteArray := prog_7_method_72_code
def yX5_judge : MethodName := ⟨RX5, "judge", "()I"⟩
abbrev cX5_seeds : ByteArray := prog_7_method_73_code
def yX5_seeds : MethodName := ⟨RX5, "seeds", "(II)I"⟩
abbrev cX5_sumOf : ByteArray := prog_7_method_74_code
def yX5_sumOf : MethodName := ⟨RX5, "sumOf", "([I)I"⟩
abbrev cX5_count : ByteArray := prog_7_method_75_code
def yX5_count : MethodName := ⟨RX5, "count", "(I)I"⟩
def RJ6 : String := "java/lang/Integer"
abbrev cJ6_bitCount_0f7a4 : ByteArray := prog_8_method_49_code
def yJ6_bitCount_0f7a4 : MethodName := ⟨RJ6, "bitCount", "(I)I"⟩
def RJ9 : String := "java/lang/Math"
abbrev cJ9_max_7cf53 : ByteArray := prog_9_method_65_code
def yJ9_max_7cf53 : MethodName := ⟨RJ9, "max", "(II)I"⟩
abbrev cJ9_min_7cf53 : ByteArray := prog_9_method_69_code
def yJ9_min_7cf53 : MethodName := ⟨RJ9, "min", "(II)I"⟩
def RJ10 : String := "java/lang/System"
def RL : String := "OverByTheHandLaw"
abbrev cL_law : ByteArray := code
def yL_law : MethodName := ⟨RL, "law", "([I)Z"⟩
abbrev vwCl : List vw_C := [(RX0, TX0, 2), (RX1, TX1, 8), (RX2, TX2, 6), (RX3, TX3, 10), (RX4, TX4, 9), (RX5, TX5, 35)]
end
section
theorem dX0_init_0 : decode cX0_init 0 = .ok (.aload_n 0, 1) := by decide +kernel
theorem dX0_init_1 : decode cX0_init 1 = .ok (.invokespecial 3, 3) := by decide +kernel
theorem dX0_init_4 : decode cX0_init 4 = .ok (.aload_n 0, 1) := by decide +kernel
theorem dX0_init_5 : decode cX0_init 5 = .ok (.bipush 80, 2) := by decide +kernel
theorem dX0_init_7 : decode cX0_init 7 = .ok (.newarray .int, 2) := by decide +kernel
theorem dX0_init_9 : decode cX0_init 9 = .ok (.putfield 9, 3) := by decide +kernel
theorem dX0_init_12 : decode cX0_init 12 = .ok (.aload_n 0, 1) := by decide +kernel
theorem dX0_init_13 : decode cX0_init 13 = .ok (.iconst 0, 1) := by decide +kernel
theorem dX0_init_14 : decode cX0_init 14 = .ok (.putfield 15, 3) := by decide +kernel
theorem dX0_init_17 : decode cX0_init 17 = .ok (.return_, 1) := by decide +kernel
theorem dX0_take_0 : decode cX0_take 0 = .ok (.aload_n 0, 1) := by decide +kernel
theorem dX0_take_1 : decode cX0_take 1 = .ok (.getfield 15, 3) := by decide +kernel
theorem dX0_take_4 : decode cX0_take 4 = .ok (.bipush 80, 2) := by decide +kernel
theorem dX0_take_6 : decode cX0_take 6 = .ok (.if_icmp .ge 23, 3) := by decide +kernel
theorem dX0_take_9 : decode cX0_take 9 = .ok (.aload_n 0, 1) := by decide +kernel
theorem dX0_take_10 : decode cX0_take 10 = .ok (.getfield 9, 3) := by decide +kernel
theorem dX0_take_13 : decode cX0_take 13 = .ok (.aload_n 0, 1) := by decide +kernel
theorem dX0_take_14 : decode cX0_take 14 = .ok (.getfield 15, 3) := by decide +kernel
theorem dX0_take_17 : decode cX0_take 17 = .ok (.iload_n 1, 1) := by decide +kernel
theorem dX0_take_18 : decode cX0_take 18 = .ok (.iastore, 1) := by decide +kernel
theorem dX0_take_19 : decode cX0_take 19 = .ok (.aload_n 0, 1) := by decide +kernel
theorem dX0_take_20 : decode cX0_take 20 = .ok (.dup, 1) := by decide +kernel
theorem dX0_take_21 : decode cX0_take 21 = .ok (.getfield 15, 3) := by decide +kernel
theorem dX0_take_24 : decode cX0_take 24 = .ok (.iconst 1, 1) := by decide +kernel
theorem dX0_take_25 : decode cX0_take 25 = .ok (.iadd, 1) := by decide +kernel
theorem dX0_take_26 : decode cX0_take 26 = .ok (.putfield 15, 3) := by decide +kernel
theorem dX0_take_29 : decode cX0_take 29 = .ok (.return_, 1) := by decide +kernel
theorem dX0_at_0 : decode cX0_at 0 = .ok (.iload_n 1, 1) := by decide +kernel
theorem dX0_at_1 : decode cX0_at 1 = .ok (.ifCond .lt 20, 3) := by decide +kernel
theorem dX0_at_4 : decode cX0_at 4 = .ok (.iload_n 1, 1) := by decide +kernel
theorem dX0_at_5 : decode cX0_at 5 = .ok (.aload_n 0, 1) := by decide +kernel
theorem dX0_at_6 : decode cX0_at 6 = .ok (.getfield 15, 3) := by decide +kernel
theorem dX0_at_9 : decode cX0_at 9 = .ok (.if_icmp .ge 12, 3) := by decide +kernel
theorem dX0_at_12 : decode cX0_at 12 = .ok (.aload_n 0, 1) := by decide +kernel
theorem dX0_at_13 : decode cX0_at 13 = .ok (.getfield 9, 3) := by decide +kernel
theorem dX0_at_16 : decode cX0_at 16 = .ok (.iload_n 1, 1) := by decide +kernel
theorem dX0_at_17 : decode cX0_at 17 = .ok (.iaload, 1) := by decide +kernel
theorem dX0_at_18 : decode cX0_at 18 = .ok (.goto 5, 3) := by decide +kernel
theorem dX0_at_21 : decode cX0_at 21 = .ok (.bipush (-9), 2) := by decide +kernel
theorem dX0_at_23 : decode cX0_at 23 = .ok (.ireturn, 1) := by decide +kernel
theorem dX0_isDigit_0 : decode cX0_isDigit 0 = .ok (.aload_n 0, 1) := by decide +kernel
theorem dX0_isDigit_1 : decode cX0_isDigit 1 = .ok (.iload_n 1, 1) := by decide +kernel
theorem dX0_isDigit_2 : decode cX0_isDigit 2 = .ok (.invokevirtual 19, 3) := by decide +kernel
theorem dX0_isDigit_5 : decode cX0_isDigit 5 = .ok (.bipush 48, 2) := by decide +kernel
theorem dX0_isDigit_7 : decode cX0_isDigit 7 = .ok (.if_icmp .lt 17, 3) := by decide +kernel
theorem dX0_isDigit_10 : decode cX0_isDigit 10 = .ok (.aload_n 0, 1) := by decide +kernel
theorem dX0_isDigit_11 : decode cX0_isDigit 11 = .ok (.iload_n 1, 1) := by decide +kernel
theorem dX0_isDigit_12 : decode cX0_isDigit 12 = .ok (.invokevirtual 19, 3) := by decide +kernel
theorem dX0_isDigit_15 : decode cX0_isDigit 15 = .ok (.bipush 57, 2) := by decide +kernel
theorem dX0_isDigit_17 : decode cX0_isDigit 17 = .ok (.if_icmp .gt 7, 3) := by decide +kernel
theorem dX0_isDigit_20 : decode cX0_isDigit 20 = .ok (.iconst 1, 1) := by decide +kernel
theorem dX0_isDigit_21 : decode cX0_isDigit 21 = .ok (.goto 4, 3) := by decide +kernel
theorem dX0_isDigit_24 : decode cX0_isDigit 24 = .ok (.iconst 0, 1) := by decide +kernel
theorem dX0_isDigit_25 : decode cX0_isDigit 25 = .ok (.ireturn, 1) := by decide +kernel
theorem dX0_digit_0 : decode cX0_digit 0 = .ok (.aload_n 0, 1) := by decide +kernel
theorem dX0_digit_1 : decode cX0_digit 1 = .ok (.iload_n 1, 1) := by decide +kernel
theorem dX0_digit_2 : decode cX0_digit 2 = .ok (.invokevirtual 23, 3) := by decide +kernel
theorem dX0_digit_5 : decode cX0_digit 5 = .ok (.ifCond .eq 14, 3) := by decide +kernel
theorem dX0_digit_8 : decode cX0_digit 8 = .ok (.aload_n 0, 1) := by decide +kernel
theorem dX0_digit_9 : decode cX0_digit 9 = .ok (.iload_n 1, 1) := by decide +kernel
theorem dX0_digit_10 : decode cX0_digit 10 = .ok (.invokevirtual 19, 3) := by decide +kernel
theorem dX0_digit_13 : decode cX0_digit 13 = .ok (.bipush 48, 2) := by decide +kernel
theorem dX0_digit_15 : decode cX0_digit 15 = .ok (.isub, 1) := by decide +kernel
theorem dX0_digit_16 : decode cX0_digit 16 = .ok (.goto 4, 3) := by decide +kernel
theorem dX0_digit_19 : decode cX0_digit 19 = .ok (.iconst 0, 1) := by decide +kernel
theorem dX0_digit_20 : decode cX0_digit 20 = .ok (.ireturn, 1) := by decide +kernel
theorem dX0_leastDigits_0 : decode cX0_leastDigits 0 = .ok (.iload_n 0, 1) := by decide +kernel
theorem dX0_leastDigits_1 : decode cX0_leastDigits 1 = .ok (.lookupswitch 67 #[(99, 59), (100, 63), (103, 61), (105, 61), (112, 65), (121, 59)], 59) := by decide +kernel
theorem dX0_leastDigits_60 : decode cX0_leastDigits 60 = .ok (.iconst 1, 1) := by decide +kernel
theorem dX0_leastDigits_61 : decode cX0_leastDigits 61 = .ok (.ireturn, 1) := by decide +kernel
theorem dX0_leastDigits_62 : decode cX0_leastDigits 62 = .ok (.iconst 2, 1) := by decide +kernel
theorem dX0_leastDigits_63 : decode cX0_leastDigits 63 = .ok (.ireturn, 1) := by decide +kernel
theorem dX0_leastDigits_64 : decode cX0_leastDigits 64 = .ok (.iconst 3, 1) := by decide +kernel
theorem dX0_leastDigits_65 : decode cX0_leastDigits 65 = .ok (.ireturn, 1) := by decide +kernel
theorem dX0_leastDigits_66 : decode cX0_leastDigits 66 = .ok (.iconst 5, 1) := by decide +kernel
theorem dX0_leastDigits_67 : decode cX0_leastDigits 67 = .ok (.ireturn, 1) := by decide +kernel
theorem dX0_leastDigits_68 : decode cX0_leastDigits 68 = .ok (.iconst 0, 1) := by decide +kernel
theorem dX0_leastDigits_69 : decode cX0_leastDigits 69 = .ok (.ireturn, 1) := by decide +kernel
theorem dX0_mostDigits_0 : decode cX0_mostDigits 0 = .ok (.iload_n 0, 1) := by decide +kernel
theorem dX0_mostDigits_1 : decode cX0_mostDigits 1 = .ok (.bipush 112, 2) := by decide +kernel
theorem dX0_mostDigits_3 : decode cX0_mostDigits 3 = .ok (.if_icmp .ne 8, 3) := by decide +kernel
theorem dX0_mostDigits_6 : decode cX0_mostDigits 6 = .ok (.bipush 6, 2) := by decide +kernel
theorem dX0_mostDigits_8 : decode cX0_mostDigits 8 = .ok (.goto 7, 3) := by decide +kernel
theorem dX0_mostDigits_11 : decode cX0_mostDigits 11 = .ok (.iload_n 0, 1) := by decide +kernel
theorem dX0_mostDigits_12 : decode cX0_mostDigits 12 = .ok (.invokestatic 27, 3) := by decide +kernel
theorem dX0_mostDigits_15 : decode cX0_mostDigits 15 = .ok (.ireturn, 1) := by decide +kernel
theorem dX0_digitsFrom_0 : decode cX0_digitsFrom 0 = .ok (.iconst 0, 1) := by decide +kernel
theorem dX0_digitsFrom_1 : decode cX0_digitsFrom 1 = .ok (.istore_n 3, 1) := by decide +kernel
theorem dX0_digitsFrom_2 : decode cX0_digitsFrom 2 = .ok (.iload_n 3, 1) := by decide +kernel
theorem dX0_digitsFrom_3 : decode cX0_digitsFrom 3 = .ok (.iload_n 2, 1) := by decide +kernel
theorem dX0_digitsFrom_4 : decode cX0_digitsFrom 4 = .ok (.if_icmp .ge 19, 3) := by decide +kernel
theorem dX0_digitsFrom_7 : decode cX0_digitsFrom 7 = .ok (.aload_n 0, 1) := by decide +kernel
theorem dX0_digitsFrom_8 : decode cX0_digitsFrom 8 = .ok (.iload_n 1, 1) := by decide +kernel
theorem dX0_digitsFrom_9 : decode cX0_digitsFrom 9 = .ok (.iload_n 3, 1) := by decide +kernel
theorem dX0_digitsFrom_10 : decode cX0_digitsFrom 10 = .ok (.iadd, 1) := by decide +kernel
theorem dX0_digitsFrom_11 : decode cX0_digitsFrom 11 = .ok (.invokevirtual 23, 3) := by decide +kernel
theorem dX0_digitsFrom_14 : decode cX0_digitsFrom 14 = .ok (.ifCond .eq 9, 3) := by decide +kernel
theorem dX0_digitsFrom_17 : decode cX0_digitsFrom 17 = .ok (.iinc 3 1, 3) := by decide +kernel
theorem dX0_digitsFrom_20 : decode cX0_digitsFrom 20 = .ok (.goto (-18), 3) := by decide +kernel
theorem dX0_digitsFrom_23 : decode cX0_digitsFrom 23 = .ok (.iload_n 3, 1) := by decide +kernel
theorem dX0_digitsFrom_24 : decode cX0_digitsFrom 24 = .ok (.ireturn, 1) := by decide +kernel
theorem dX0_endOf_0 : decode cX0_endOf 0 = .ok (.aload_n 0, 1) := by decide +kernel
theorem dX0_endOf_1 : decode cX0_endOf 1 = .ok (.iload_n 1, 1) := by decide +kernel
theorem dX0_endOf_2 : decode cX0_endOf 2 = .ok (.invokevirtual 19, 3) := by decide +kernel
theorem dX0_endOf_5 : decode cX0_endOf 5 = .ok (.invokestatic 27, 3) := by decide +kernel
theorem dX0_endOf_8 : decode cX0_endOf 8 = .ok (.istore_n 2, 1) := by decide +kernel
theorem dX0_endOf_9 : decode cX0_endOf 9 = .ok (.iload_n 2, 1) := by decide +kernel
theorem dX0_endOf_10 : decode cX0_endOf 10 = .ok (.ifCond .ne 7, 3) := by decide +kernel
theorem dX0_endOf_13 : decode cX0_endOf 13 = .ok (.iconst (-1), 1) := by decide +kernel
theorem dX0_endOf_14 : decode cX0_endOf 14 = .ok (.iload_n 1, 1) := by decide +kernel
theorem dX0_endOf_15 : decode cX0_endOf 15 = .ok (.isub, 1) := by decide +kernel
theorem dX0_endOf_16 : decode cX0_endOf 16 = .ok (.ireturn, 1) := by decide +kernel
theorem dX0_endOf_17 : decode cX0_endOf 17 = .ok (.aload_n 0, 1) := by decide +kernel
theorem dX0_endOf_18 : decode cX0_endOf 18 = .ok (.iload_n 1, 1) := by decide +kernel
theorem dX0_endOf_19 : decode cX0_endOf 19 = .ok (.iconst 1, 1) := by decide +kernel
theorem dX0_endOf_20 : decode cX0_endOf 20 = .ok (.iadd, 1) := by decide +kernel
theorem dX0_endOf_21 : decode cX0_endOf 21 = .ok (.aload_n 0, 1) := by decide +kernel
theorem dX0_endOf_22 : decode cX0_endOf 22 = .ok (.iload_n 1, 1) := by decide +kernel
theorem dX0_endOf_23 : decode cX0_endOf 23 = .ok (.invokevirtual 19, 3) := by decide +kernel
theorem dX0_endOf_26 : decode cX0_endOf 26 = .ok (.invokestatic 30, 3) := by decide +kernel
theorem dX0_endOf_29 : decode cX0_endOf 29 = .ok (.invokevirtual 33, 3) := by decide +kernel
theorem dX0_endOf_32 : decode cX0_endOf 32 = .ok (.istore_n 3, 1) := by decide +kernel
theorem dX0_endOf_33 : decode cX0_endOf 33 = .ok (.iload_n 1, 1) := by decide +kernel
theorem dX0_endOf_34 : decode cX0_endOf 34 = .ok (.iconst 1, 1) := by decide +kernel
theorem dX0_endOf_35 : decode cX0_endOf 35 = .ok (.iadd, 1) := by decide +kernel
theorem dX0_endOf_36 : decode cX0_endOf 36 = .ok (.iload_n 3, 1) := by decide +kernel
theorem dX0_endOf_37 : decode cX0_endOf 37 = .ok (.iadd, 1) := by decide +kernel
theorem dX0_endOf_38 : decode cX0_endOf 38 = .ok (.istore 4, 2) := by decide +kernel
theorem dX0_endOf_40 : decode cX0_endOf 40 = .ok (.iload_n 3, 1) := by decide +kernel
theorem dX0_endOf_41 : decode cX0_endOf 41 = .ok (.iload_n 2, 1) := by decide +kernel
theorem dX0_endOf_42 : decode cX0_endOf 42 = .ok (.if_icmp .lt 14, 3) := by decide +kernel
theorem dX0_endOf_45 : decode cX0_endOf 45 = .ok (.aload_n 0, 1) := by decide +kernel
theorem dX0_endOf_46 : decode cX0_endOf 46 = .ok (.iload 4, 2) := by decide +kernel
theorem dX0_endOf_48 : decode cX0_endOf 48 = .ok (.invokevirtual 19, 3) := by decide +kernel
theorem dX0_endOf_51 : decode cX0_endOf 51 = .ok (.bipush 59, 2) := by decide +kernel
theorem dX0_endOf_53 : decode cX0_endOf 53 = .ok (.if_icmp .eq 10, 3) := by decide +kernel
theorem dX0_endOf_56 : decode cX0_endOf 56 = .ok (.iconst (-1), 1) := by decide +kernel
theorem dX0_endOf_57 : decode cX0_endOf 57 = .ok (.iload 4, 2) := by decide +kernel
theorem dX0_endOf_59 : decode cX0_endOf 59 = .ok (.isub, 1) := by decide +kernel
theorem dX0_endOf_60 : decode cX0_endOf 60 = .ok (.goto 5, 3) := by decide +kernel
theorem dX0_endOf_63 : decode cX0_endOf 63 = .ok (.iload 4, 2) := by decide +kernel
theorem dX0_endOf_65 : decode cX0_endOf 65 = .ok (.ireturn, 1) := by decide +kernel
theorem dX0_firstWrong_0 : decode cX0_firstWrong 0 = .ok (.aload_n 0, 1) := by decide +kernel
theorem dX0_firstWrong_1 : decode cX0_firstWrong 1 = .ok (.getfield 15, 3) := by decide +kernel
theorem dX0_firstWrong_4 : decode cX0_firstWrong 4 = .ok (.ifCond .ne 5, 3) := by decide +kernel
theorem dX0_firstWrong_7 : decode cX0_firstWrong 7 = .ok (.iconst 0, 1) := by decide +kernel
theorem dX0_firstWrong_8 : decode cX0_firstWrong 8 = .ok (.ireturn, 1) := by decide +kernel
theorem dX0_firstWrong_9 : decode cX0_firstWrong 9 = .ok (.iconst 0, 1) := by decide +kernel
theorem dX0_firstWrong_10 : decode cX0_firstWrong 10 = .ok (.istore_n 1, 1) := by decide +kernel
theorem dX0_firstWrong_11 : decode cX0_firstWrong 11 = .ok (.iconst 0, 1) := by decide +kernel
theorem dX0_firstWrong_12 : decode cX0_firstWrong 12 = .ok (.istore_n 2, 1) := by decide +kernel
theorem dX0_firstWrong_13 : decode cX0_firstWrong 13 = .ok (.iload_n 2, 1) := by decide +kernel
theorem dX0_firstWrong_14 : decode cX0_firstWrong 14 = .ok (.bipush 80, 2) := by decide +kernel
theorem dX0_firstWrong_16 : decode cX0_firstWrong 16 = .ok (.if_icmp .ge 35, 3) := by decide +kernel
theorem dX0_firstWrong_19 : decode cX0_firstWrong 19 = .ok (.iload_n 1, 1) := by decide +kernel
theorem dX0_firstWrong_20 : decode cX0_firstWrong 20 = .ok (.aload_n 0, 1) := by decide +kernel
theorem dX0_firstWrong_21 : decode cX0_firstWrong 21 = .ok (.getfield 15, 3) := by decide +kernel
theorem dX0_firstWrong_24 : decode cX0_firstWrong 24 = .ok (.if_icmp .ge 27, 3) := by decide +kernel
theorem dX0_firstWrong_27 : decode cX0_firstWrong 27 = .ok (.aload_n 0, 1) := by decide +kernel
theorem dX0_firstWrong_28 : decode cX0_firstWrong 28 = .ok (.iload_n 1, 1) := by decide +kernel
theorem dX0_firstWrong_29 : decode cX0_firstWrong 29 = .ok (.invokevirtual 37, 3) := by decide +kernel
theorem dX0_firstWrong_32 : decode cX0_firstWrong 32 = .ok (.istore_n 3, 1) := by decide +kernel
theorem dX0_firstWrong_33 : decode cX0_firstWrong 33 = .ok (.iload_n 3, 1) := by decide +kernel
theorem dX0_firstWrong_34 : decode cX0_firstWrong 34 = .ok (.ifCond .ge 7, 3) := by decide +kernel
theorem dX0_firstWrong_37 : decode cX0_firstWrong 37 = .ok (.iconst (-1), 1) := by decide +kernel
theorem dX0_firstWrong_38 : decode cX0_firstWrong 38 = .ok (.iload_n 3, 1) := by decide +kernel
theorem dX0_firstWrong_39 : decode cX0_firstWrong 39 = .ok (.isub, 1) := by decide +kernel
theorem dX0_firstWrong_40 : decode cX0_firstWrong 40 = .ok (.ireturn, 1) := by decide +kernel
theorem dX0_firstWrong_41 : decode cX0_firstWrong 41 = .ok (.iload_n 3, 1) := by decide +kernel
theorem dX0_firstWrong_42 : decode cX0_firstWrong 42 = .ok (.iconst 1, 1) := by decide +kernel
theorem dX0_firstWrong_43 : decode cX0_firstWrong 43 = .ok (.iadd, 1) := by decide +kernel
theorem dX0_firstWrong_44 : decode cX0_firstWrong 44 = .ok (.istore_n 1, 1) := by decide +kernel
theorem dX0_firstWrong_45 : decode cX0_firstWrong 45 = .ok (.iinc 2 1, 3) := by decide +kernel
theorem dX0_firstWrong_48 : decode cX0_firstWrong 48 = .ok (.goto (-35), 3) := by decide +kernel
theorem dX0_firstWrong_51 : decode cX0_firstWrong 51 = .ok (.bipush (-9), 2) := by decide +kernel
theorem dX0_firstWrong_53 : decode cX0_firstWrong 53 = .ok (.ireturn, 1) := by decide +kernel
theorem dX0_tellTo_0 : decode cX0_tellTo 0 = .ok (.iconst 0, 1) := by decide +kernel
theorem dX0_tellTo_1 : decode cX0_tellTo 1 = .ok (.istore_n 2, 1) := by decide +kernel
theorem dX0_tellTo_2 : decode cX0_tellTo 2 = .ok (.iconst 0, 1) := by decide +kernel
theorem dX0_tellTo_3 : decode cX0_tellTo 3 = .ok (.istore_n 3, 1) := by decide +kernel
theorem dX0_tellTo_4 : decode cX0_tellTo 4 = .ok (.iload_n 3, 1) := by decide +kernel
theorem dX0_tellTo_5 : decode cX0_tellTo 5 = .ok (.bipush 80, 2) := by decide +kernel
theorem dX0_tellTo_7 : decode cX0_tellTo 7 = .ok (.if_icmp .ge 40, 3) := by decide +kernel
theorem dX0_tellTo_10 : decode cX0_tellTo 10 = .ok (.iload_n 2, 1) := by decide +kernel
theorem dX0_tellTo_11 : decode cX0_tellTo 11 = .ok (.aload_n 0, 1) := by decide +kernel
theorem dX0_tellTo_12 : decode cX0_tellTo 12 = .ok (.getfield 15, 3) := by decide +kernel
theorem dX0_tellTo_15 : decode cX0_tellTo 15 = .ok (.if_icmp .ge 32, 3) := by decide +kernel
theorem dX0_tellTo_18 : decode cX0_tellTo 18 = .ok (.aload_n 0, 1) := by decide +kernel
theorem dX0_tellTo_19 : decode cX0_tellTo 19 = .ok (.aload_n 1, 1) := by decide +kernel
theorem dX0_tellTo_20 : decode cX0_tellTo 20 = .ok (.iload_n 2, 1) := by decide +kernel
theorem dX0_tellTo_21 : decode cX0_tellTo 21 = .ok (.invokevirtual 40, 3) := by decide +kernel
theorem dX0_tellTo_24 : decode cX0_tellTo 24 = .ok (.ifCond .ne 9, 3) := by decide +kernel
theorem dX0_tellTo_27 : decode cX0_tellTo 27 = .ok (.sipush (-2000), 3) := by decide +kernel
theorem dX0_tellTo_30 : decode cX0_tellTo 30 = .ok (.iload_n 2, 1) := by decide +kernel
theorem dX0_tellTo_31 : decode cX0_tellTo 31 = .ok (.isub, 1) := by decide +kernel
theorem dX0_tellTo_32 : decode cX0_tellTo 32 = .ok (.ireturn, 1) := by decide +kernel
theorem dX0_tellTo_33 : decode cX0_tellTo 33 = .ok (.aload_n 0, 1) := by decide +kernel
theorem dX0_tellTo_34 : decode cX0_tellTo 34 = .ok (.iload_n 2, 1) := by decide +kernel
theorem dX0_tellTo_35 : decode cX0_tellTo 35 = .ok (.invokevirtual 37, 3) := by decide +kernel
theorem dX0_tellTo_38 : decode cX0_tellTo 38 = .ok (.iconst 1, 1) := by decide +kernel
theorem dX0_tellTo_39 : decode cX0_tellTo 39 = .ok (.iadd, 1) := by decide +kernel
theorem dX0_tellTo_40 : decode cX0_tellTo 40 = .ok (.istore_n 2, 1) := by decide +kernel
theorem dX0_tellTo_41 : decode cX0_tellTo 41 = .ok (.iinc 3 1, 3) := by decide +kernel
theorem dX0_tellTo_44 : decode cX0_tellTo 44 = .ok (.goto (-40), 3) := by decide +kernel
theorem dX0_tellTo_47 : decode cX0_tellTo 47 = .ok (.iload_n 3, 1) := by decide +kernel
theorem dX0_tellTo_48 : decode cX0_tellTo 48 = .ok (.ireturn, 1) := by decide +kernel
theorem dX0_tellStatement_0 : decode cX0_tellStatement 0 = .ok (.aload_n 0, 1) := by decide +kernel
theorem dX0_tellStatement_1 : decode cX0_tellStatement 1 = .ok (.iload_n 2, 1) := by decide +kernel
theorem dX0_tellStatement_2 : decode cX0_tellStatement 2 = .ok (.iconst 1, 1) := by decide +kernel
theorem dX0_tellStatement_3 : decode cX0_tellStatement 3 = .ok (.iadd, 1) := by decide +kernel
theorem dX0_tellStatement_4 : decode cX0_tellStatement 4 = .ok (.invokevirtual 44, 3) := by decide +kernel
theorem dX0_tellStatement_7 : decode cX0_tellStatement 7 = .ok (.istore_n 3, 1) := by decide +kernel
theorem dX0_tellStatement_8 : decode cX0_tellStatement 8 = .ok (.aload_n 0, 1) := by decide +kernel
theorem dX0_tellStatement_9 : decode cX0_tellStatement 9 = .ok (.iload_n 2, 1) := by decide +kernel
theorem dX0_tellStatement_10 : decode cX0_tellStatement 10 = .ok (.iconst 2, 1) := by decide +kernel
theorem dX0_tellStatement_11 : decode cX0_tellStatement 11 = .ok (.iadd, 1) := by decide +kernel
theorem dX0_tellStatement_12 : decode cX0_tellStatement 12 = .ok (.invokevirtual 44, 3) := by decide +kernel
theorem dX0_tellStatement_15 : decode cX0_tellStatement 15 = .ok (.istore 4, 2) := by decide +kernel
theorem dX0_tellStatement_17 : decode cX0_tellStatement 17 = .ok (.aload_n 0, 1) := by decide +kernel
theorem dX0_tellStatement_18 : decode cX0_tellStatement 18 = .ok (.iload_n 2, 1) := by decide +kernel
theorem dX0_tellStatement_19 : decode cX0_tellStatement 19 = .ok (.iconst 3, 1) := by decide +kernel
theorem dX0_tellStatement_20 : decode cX0_tellStatement 20 = .ok (.iadd, 1) := by decide +kernel
theorem dX0_tellStatement_21 : decode cX0_tellStatement 21 = .ok (.invokevirtual 44, 3) := by decide +kernel
theorem dX0_tellStatement_24 : decode cX0_tellStatement 24 = .ok (.istore 5, 2) := by decide +kernel
theorem dX0_tellStatement_26 : decode cX0_tellStatement 26 = .ok (.aload_n 0, 1) := by decide +kernel
theorem dX0_tellStatement_27 : decode cX0_tellStatement 27 = .ok (.iload_n 2, 1) := by decide +kernel
theorem dX0_tellStatement_28 : decode cX0_tellStatement 28 = .ok (.invokevirtual 19, 3) := by decide +kernel
theorem dX0_tellStatement_31 : decode cX0_tellStatement 31 = .ok (.lookupswitch 120 #[(99, 73), (100, 63), (103, 104), (105, 112), (112, 80), (121, 57)], 57) := by decide +kernel
theorem dX0_tellStatement_88 : decode cX0_tellStatement 88 = .ok (.aload_n 1, 1) := by decide +kernel
theorem dX0_tellStatement_89 : decode cX0_tellStatement 89 = .ok (.iload_n 3, 1) := by decide +kernel
theorem dX0_tellStatement_90 : decode cX0_tellStatement 90 = .ok (.invokevirtual 47, 3) := by decide +kernel
theorem dX0_tellStatement_93 : decode cX0_tellStatement 93 = .ok (.ireturn, 1) := by decide +kernel
theorem dX0_tellStatement_94 : decode cX0_tellStatement 94 = .ok (.aload_n 1, 1) := by decide +kernel
theorem dX0_tellStatement_95 : decode cX0_tellStatement 95 = .ok (.iload_n 3, 1) := by decide +kernel
theorem dX0_tellStatement_96 : decode cX0_tellStatement 96 = .ok (.iload 4, 2) := by decide +kernel
theorem dX0_tellStatement_98 : decode cX0_tellStatement 98 = .ok (.iload 5, 2) := by decide +kernel
theorem dX0_tellStatement_100 : decode cX0_tellStatement 100 = .ok (.invokevirtual 52, 3) := by decide +kernel
theorem dX0_tellStatement_103 : decode cX0_tellStatement 103 = .ok (.ireturn, 1) := by decide +kernel
theorem dX0_tellStatement_104 : decode cX0_tellStatement 104 = .ok (.aload_n 1, 1) := by decide +kernel
theorem dX0_tellStatement_105 : decode cX0_tellStatement 105 = .ok (.iload_n 3, 1) := by decide +kernel
theorem dX0_tellStatement_106 : decode cX0_tellStatement 106 = .ok (.putfield 56, 3) := by decide +kernel
theorem dX0_tellStatement_109 : decode cX0_tellStatement 109 = .ok (.iconst 1, 1) := by decide +kernel
theorem dX0_tellStatement_110 : decode cX0_tellStatement 110 = .ok (.ireturn, 1) := by decide +kernel
theorem dX0_tellStatement_111 : decode cX0_tellStatement 111 = .ok (.aload_n 1, 1) := by decide +kernel
theorem dX0_tellStatement_112 : decode cX0_tellStatement 112 = .ok (.iload_n 3, 1) := by decide +kernel
theorem dX0_tellStatement_113 : decode cX0_tellStatement 113 = .ok (.iload 4, 2) := by decide +kernel
theorem dX0_tellStatement_115 : decode cX0_tellStatement 115 = .ok (.iload 5, 2) := by decide +kernel
theorem dX0_tellStatement_117 : decode cX0_tellStatement 117 = .ok (.aload_n 0, 1) := by decide +kernel
theorem dX0_tellStatement_118 : decode cX0_tellStatement 118 = .ok (.iload_n 2, 1) := by decide +kernel
theorem dX0_tellStatement_119 : decode cX0_tellStatement 119 = .ok (.iconst 4, 1) := by decide +kernel
theorem dX0_tellStatement_120 : decode cX0_tellStatement 120 = .ok (.iadd, 1) := by decide +kernel
theorem dX0_tellStatement_121 : decode cX0_tellStatement 121 = .ok (.invokevirtual 44, 3) := by decide +kernel
theorem dX0_tellStatement_124 : decode cX0_tellStatement 124 = .ok (.aload_n 0, 1) := by decide +kernel
theorem dX0_tellStatement_125 : decode cX0_tellStatement 125 = .ok (.iload_n 2, 1) := by decide +kernel
theorem dX0_tellStatement_126 : decode cX0_tellStatement 126 = .ok (.iconst 5, 1) := by decide +kernel
theorem dX0_tellStatement_127 : decode cX0_tellStatement 127 = .ok (.iadd, 1) := by decide +kernel
theorem dX0_tellStatement_128 : decode cX0_tellStatement 128 = .ok (.invokevirtual 59, 3) := by decide +kernel
theorem dX0_tellStatement_131 : decode cX0_tellStatement 131 = .ok (.invokevirtual 62, 3) := by decide +kernel
theorem dX0_tellStatement_134 : decode cX0_tellStatement 134 = .ok (.ireturn, 1) := by decide +kernel
theorem dX0_tellStatement_135 : decode cX0_tellStatement 135 = .ok (.aload_n 1, 1) := by decide +kernel
theorem dX0_tellStatement_136 : decode cX0_tellStatement 136 = .ok (.iload_n 3, 1) := by decide +kernel
theorem dX0_tellStatement_137 : decode cX0_tellStatement 137 = .ok (.iload 4, 2) := by decide +kernel
theorem dX0_tellStatement_139 : decode cX0_tellStatement 139 = .ok (.invokevirtual 66, 3) := by decide +kernel
theorem dX0_tellStatement_142 : decode cX0_tellStatement 142 = .ok (.ireturn, 1) := by decide +kernel
theorem dX0_tellStatement_143 : decode cX0_tellStatement 143 = .ok (.aload_n 1, 1) := by decide +kernel
theorem dX0_tellStatement_144 : decode cX0_tellStatement 144 = .ok (.iload_n 3, 1) := by decide +kernel
theorem dX0_tellStatement_145 : decode cX0_tellStatement 145 = .ok (.iload 4, 2) := by decide +kernel
theorem dX0_tellStatement_147 : decode cX0_tellStatement 147 = .ok (.invokevirtual 70, 3) := by decide +kernel
theorem dX0_tellStatement_150 : decode cX0_tellStatement 150 = .ok (.ireturn, 1) := by decide +kernel
theorem dX0_tellStatement_151 : decode cX0_tellStatement 151 = .ok (.iconst 0, 1) := by decide +kernel
theorem dX0_tellStatement_152 : decode cX0_tellStatement 152 = .ok (.ireturn, 1) := by decide +kernel
theorem dX0_warmthAt_0 : decode cX0_warmthAt 0 = .ok (.aload_n 0, 1) := by decide +kernel
theorem dX0_warmthAt_1 : decode cX0_warmthAt 1 = .ok (.iload_n 1, 1) := by decide +kernel
theorem dX0_warmthAt_2 : decode cX0_warmthAt 2 = .ok (.iconst 1, 1) := by decide +kernel
theorem dX0_warmthAt_3 : decode cX0_warmthAt 3 = .ok (.iadd, 1) := by decide +kernel
theorem dX0_warmthAt_4 : decode cX0_warmthAt 4 = .ok (.invokevirtual 23, 3) := by decide +kernel
theorem dX0_warmthAt_7 : decode cX0_warmthAt 7 = .ok (.ifCond .eq 22, 3) := by decide +kernel
theorem dX0_warmthAt_10 : decode cX0_warmthAt 10 = .ok (.bipush 10, 2) := by decide +kernel
theorem dX0_warmthAt_12 : decode cX0_warmthAt 12 = .ok (.aload_n 0, 1) := by decide +kernel
theorem dX0_warmthAt_13 : decode cX0_warmthAt 13 = .ok (.iload_n 1, 1) := by decide +kernel
theorem dX0_warmthAt_14 : decode cX0_warmthAt 14 = .ok (.invokevirtual 44, 3) := by decide +kernel
theorem dX0_warmthAt_17 : decode cX0_warmthAt 17 = .ok (.imul, 1) := by decide +kernel
theorem dX0_warmthAt_18 : decode cX0_warmthAt 18 = .ok (.aload_n 0, 1) := by decide +kernel
theorem dX0_warmthAt_19 : decode cX0_warmthAt 19 = .ok (.iload_n 1, 1) := by decide +kernel
theorem dX0_warmthAt_20 : decode cX0_warmthAt 20 = .ok (.iconst 1, 1) := by decide +kernel
theorem dX0_warmthAt_21 : decode cX0_warmthAt 21 = .ok (.iadd, 1) := by decide +kernel
theorem dX0_warmthAt_22 : decode cX0_warmthAt 22 = .ok (.invokevirtual 44, 3) := by decide +kernel
theorem dX0_warmthAt_25 : decode cX0_warmthAt 25 = .ok (.iadd, 1) := by decide +kernel
theorem dX0_warmthAt_26 : decode cX0_warmthAt 26 = .ok (.goto 8, 3) := by decide +kernel
theorem dX0_warmthAt_29 : decode cX0_warmthAt 29 = .ok (.aload_n 0, 1) := by decide +kernel
theorem dX0_warmthAt_30 : decode cX0_warmthAt 30 = .ok (.iload_n 1, 1) := by decide +kernel
theorem dX0_warmthAt_31 : decode cX0_warmthAt 31 = .ok (.invokevirtual 44, 3) := by decide +kernel
theorem dX0_warmthAt_34 : decode cX0_warmthAt 34 = .ok (.ireturn, 1) := by decide +kernel
theorem dX1_init_0 : decode cX1_init 0 = .ok (.aload_n 0, 1) := by decide +kernel
theorem dX1_init_1 : decode cX1_init 1 = .ok (.invokespecial 3, 3) := by decide +kernel
theorem dX1_init_4 : decode cX1_init 4 = .ok (.aload_n 0, 1) := by decide +kernel
theorem dX1_init_5 : decode cX1_init 5 = .ok (.iconst 5, 1) := by decide +kernel
theorem dX1_init_6 : decode cX1_init 6 = .ok (.newarray .int, 2) := by decide +kernel
theorem dX1_init_8 : decode cX1_init 8 = .ok (.putfield 9, 3) := by decide +kernel
theorem dX1_init_11 : decode cX1_init 11 = .ok (.aload_n 0, 1) := by decide +kernel
theorem dX1_init_12 : decode cX1_init 12 = .ok (.iconst 5, 1) := by decide +kernel
theorem dX1_init_13 : decode cX1_init 13 = .ok (.newarray .int, 2) := by decide +kernel
theorem dX1_init_15 : decode cX1_init 15 = .ok (.putfield 15, 3) := by decide +kernel
theorem dX1_init_18 : decode cX1_init 18 = .ok (.aload_n 0, 1) := by decide +kernel
theorem dX1_init_19 : decode cX1_init 19 = .ok (.bipush 7, 2) := by decide +kernel
theorem dX1_init_21 : decode cX1_init 21 = .ok (.newarray .int, 2) := by decide +kernel
theorem dX1_init_23 : decode cX1_init 23 = .ok (.putfield 18, 3) := by decide +kernel
theorem dX1_init_26 : decode cX1_init 26 = .ok (.aload_n 0, 1) := by decide +kernel
theorem dX1_init_27 : decode cX1_init 27 = .ok (.iconst 0, 1) := by decide +kernel
theorem dX1_init_28 : decode cX1_init 28 = .ok (.putfield 21, 3) := by decide +kernel
theorem dX1_init_31 : decode cX1_init 31 = .ok (.aload_n 0, 1) := by decide +kernel
theorem dX1_init_32 : decode cX1_init 32 = .ok (.iconst 0, 1) := by decide +kernel
theorem dX1_init_33 : decode cX1_init 33 = .ok (.putfield 25, 3) := by decide +kernel
theorem dX1_init_36 : decode cX1_init 36 = .ok (.aload_n 0, 1) := by decide +kernel
theorem dX1_init_37 : decode cX1_init 37 = .ok (.iconst 5, 1) := by decide +kernel
theorem dX1_init_38 : decode cX1_init 38 = .ok (.newarray .int, 2) := by decide +kernel
theorem dX1_init_40 : decode cX1_init 40 = .ok (.putfield 28, 3) := by decide +kernel
theorem dX1_init_43 : decode cX1_init 43 = .ok (.aload_n 0, 1) := by decide +kernel
theorem dX1_init_44 : decode cX1_init 44 = .ok (.bipush (-9), 2) := by decide +kernel
theorem dX1_init_46 : decode cX1_init 46 = .ok (.putfield 31, 3) := by decide +kernel
theorem dX1_init_49 : decode cX1_init 49 = .ok (.aload_n 0, 1) := by decide +kernel
theorem dX1_init_50 : decode cX1_init 50 = .ok (.bipush 7, 2) := by decide +kernel
theorem dX1_init_52 : decode cX1_init 52 = .ok (.newarray .int, 2) := by decide +kernel
theorem dX1_init_54 : decode cX1_init 54 = .ok (.putfield 34, 3) := by decide +kernel
theorem dX1_init_57 : decode cX1_init 57 = .ok (.return_, 1) := by decide +kernel
theorem dX1_thinkOf_0 : decode cX1_thinkOf 0 = .ok (.aload_n 0, 1) := by decide +kernel
theorem dX1_thinkOf_1 : decode cX1_thinkOf 1 = .ok (.iconst 0, 1) := by decide +kernel
theorem dX1_thinkOf_2 : decode cX1_thinkOf 2 = .ok (.putfield 21, 3) := by decide +kernel
theorem dX1_thinkOf_5 : decode cX1_thinkOf 5 = .ok (.aload_n 0, 1) := by decide +kernel
theorem dX1_thinkOf_6 : decode cX1_thinkOf 6 = .ok (.iconst 0, 1) := by decide +kernel
theorem dX1_thinkOf_7 : decode cX1_thinkOf 7 = .ok (.putfield 25, 3) := by decide +kernel
theorem dX1_thinkOf_10 : decode cX1_thinkOf 10 = .ok (.aload_n 0, 1) := by decide +kernel
theorem dX1_thinkOf_11 : decode cX1_thinkOf 11 = .ok (.bipush (-9), 2) := by decide +kernel
theorem dX1_thinkOf_13 : decode cX1_thinkOf 13 = .ok (.putfield 31, 3) := by decide +kernel
theorem dX1_thinkOf_16 : decode cX1_thinkOf 16 = .ok (.iconst 0, 1) := by decide +kernel
theorem dX1_thinkOf_17 : decode cX1_thinkOf 17 = .ok (.istore_n 3, 1) := by decide +kernel
theorem dX1_thinkOf_18 : decode cX1_thinkOf 18 = .ok (.iload_n 3, 1) := by decide +kernel
theorem dX1_thinkOf_19 : decode cX1_thinkOf 19 = .ok (.bipush 7, 2) := by decide +kernel
theorem dX1_thinkOf_21 : decode cX1_thinkOf 21 = .ok (.if_icmp .ge 35, 3) := by decide +kernel
theorem dX1_thinkOf_24 : decode cX1_thinkOf 24 = .ok (.aload_n 0, 1) := by decide +kernel
theorem dX1_thinkOf_25 : decode cX1_thinkOf 25 = .ok (.getfield 34, 3) := by decide +kernel
theorem dX1_thinkOf_28 : decode cX1_thinkOf 28 = .ok (.iload_n 3, 1) := by decide +kernel
theorem dX1_thinkOf_29 : decode cX1_thinkOf 29 = .ok (.iconst 0, 1) := by decide +kernel
theorem dX1_thinkOf_30 : decode cX1_thinkOf 30 = .ok (.iastore, 1) := by decide +kernel
theorem dX1_thinkOf_31 : decode cX1_thinkOf 31 = .ok (.aload_n 0, 1) := by decide +kernel
theorem dX1_thinkOf_32 : decode cX1_thinkOf 32 = .ok (.getfield 18, 3) := by decide +kernel
theorem dX1_thinkOf_35 : decode cX1_thinkOf 35 = .ok (.iload_n 3, 1) := by decide +kernel
theorem dX1_thinkOf_36 : decode cX1_thinkOf 36 = .ok (.aload_n 1, 1) := by decide +kernel
theorem dX1_thinkOf_37 : decode cX1_thinkOf 37 = .ok (.getfield 37, 3) := by decide +kernel
theorem dX1_thinkOf_40 : decode cX1_thinkOf 40 = .ok (.iload_n 3, 1) := by decide +kernel
theorem dX1_thinkOf_41 : decode cX1_thinkOf 41 = .ok (.aaload, 1) := by decide +kernel
theorem dX1_thinkOf_42 : decode cX1_thinkOf 42 = .ok (.aload_n 1, 1) := by decide +kernel
theorem dX1_thinkOf_43 : decode cX1_thinkOf 43 = .ok (.getfield 43, 3) := by decide +kernel
theorem dX1_thinkOf_46 : decode cX1_thinkOf 46 = .ok (.invokevirtual 46, 3) := by decide +kernel
theorem dX1_thinkOf_49 : decode cX1_thinkOf 49 = .ok (.iastore, 1) := by decide +kernel
theorem dX1_thinkOf_50 : decode cX1_thinkOf 50 = .ok (.iinc 3 1, 3) := by decide +kernel
theorem dX1_thinkOf_53 : decode cX1_thinkOf 53 = .ok (.goto (-35), 3) := by decide +kernel
theorem dX1_thinkOf_56 : decode cX1_thinkOf 56 = .ok (.iconst 0, 1) := by decide +kernel
theorem dX1_thinkOf_57 : decode cX1_thinkOf 57 = .ok (.istore_n 3, 1) := by decide +kernel
theorem dX1_thinkOf_58 : decode cX1_thinkOf 58 = .ok (.iload_n 3, 1) := by decide +kernel
theorem dX1_thinkOf_59 : decode cX1_thinkOf 59 = .ok (.aload_n 1, 1) := by decide +kernel
theorem dX1_thinkOf_60 : decode cX1_thinkOf 60 = .ok (.getfield 51, 3) := by decide +kernel
theorem dX1_thinkOf_63 : decode cX1_thinkOf 63 = .ok (.if_icmp .ge 21, 3) := by decide +kernel
theorem dX1_thinkOf_66 : decode cX1_thinkOf 66 = .ok (.aload_n 0, 1) := by decide +kernel
theorem dX1_thinkOf_67 : decode cX1_thinkOf 67 = .ok (.getfield 15, 3) := by decide +kernel
theorem dX1_thinkOf_70 : decode cX1_thinkOf 70 = .ok (.iload_n 3, 1) := by decide +kernel
theorem dX1_thinkOf_71 : decode cX1_thinkOf 71 = .ok (.aload_n 0, 1) := by decide +kernel
theorem dX1_thinkOf_72 : decode cX1_thinkOf 72 = .ok (.aload_n 1, 1) := by decide +kernel
theorem dX1_thinkOf_73 : decode cX1_thinkOf 73 = .ok (.iload_n 3, 1) := by decide +kernel
theorem dX1_thinkOf_74 : decode cX1_thinkOf 74 = .ok (.invokevirtual 54, 3) := by decide +kernel
theorem dX1_thinkOf_77 : decode cX1_thinkOf 77 = .ok (.iastore, 1) := by decide +kernel
theorem dX1_thinkOf_78 : decode cX1_thinkOf 78 = .ok (.iinc 3 1, 3) := by decide +kernel
theorem dX1_thinkOf_81 : decode cX1_thinkOf 81 = .ok (.goto (-23), 3) := by decide +kernel
theorem dX1_thinkOf_84 : decode cX1_thinkOf 84 = .ok (.aload_n 0, 1) := by decide +kernel
theorem dX1_thinkOf_85 : decode cX1_thinkOf 85 = .ok (.aload_n 1, 1) := by decide +kernel
theorem dX1_thinkOf_86 : decode cX1_thinkOf 86 = .ok (.iconst 0, 1) := by decide +kernel
theorem dX1_thinkOf_87 : decode cX1_thinkOf 87 = .ok (.iload_n 2, 1) := by decide +kernel
theorem dX1_thinkOf_88 : decode cX1_thinkOf 88 = .ok (.iconst 0, 1) := by decide +kernel
theorem dX1_thinkOf_89 : decode cX1_thinkOf 89 = .ok (.ldc 60, 2) := by decide +kernel
theorem dX1_thinkOf_91 : decode cX1_thinkOf 91 = .ok (.invokevirtual 61, 3) := by decide +kernel
theorem dX1_thinkOf_94 : decode cX1_thinkOf 94 = .ok (.return_, 1) := by decide +kernel
theorem dX1_ableIn_0 : decode cX1_ableIn 0 = .ok (.iconst 0, 1) := by decide +kernel
theorem dX1_ableIn_1 : decode cX1_ableIn 1 = .ok (.istore_n 3, 1) := by decide +kernel
theorem dX1_ableIn_2 : decode cX1_ableIn 2 = .ok (.iconst 0, 1) := by decide +kernel
theorem dX1_ableIn_3 : decode cX1_ableIn 3 = .ok (.istore 4, 2) := by decide +kernel
theorem dX1_ableIn_5 : decode cX1_ableIn 5 = .ok (.iload 4, 2) := by decide +kernel
theorem dX1_ableIn_7 : decode cX1_ableIn 7 = .ok (.aload_n 1, 1) := by decide +kernel
theorem dX1_ableIn_8 : decode cX1_ableIn 8 = .ok (.getfield 65, 3) := by decide +kernel
theorem dX1_ableIn_11 : decode cX1_ableIn 11 = .ok (.if_icmp .ge 28, 3) := by decide +kernel
theorem dX1_ableIn_14 : decode cX1_ableIn 14 = .ok (.aload_n 1, 1) := by decide +kernel
theorem dX1_ableIn_15 : decode cX1_ableIn 15 = .ok (.iload_n 2, 1) := by decide +kernel
theorem dX1_ableIn_16 : decode cX1_ableIn 16 = .ok (.iload 4, 2) := by decide +kernel
theorem dX1_ableIn_18 : decode cX1_ableIn 18 = .ok (.invokevirtual 68, 3) := by decide +kernel
theorem dX1_ableIn_21 : decode cX1_ableIn 21 = .ok (.bipush (-9), 2) := by decide +kernel
theorem dX1_ableIn_23 : decode cX1_ableIn 23 = .ok (.if_icmp .ne 10, 3) := by decide +kernel
theorem dX1_ableIn_26 : decode cX1_ableIn 26 = .ok (.iload_n 3, 1) := by decide +kernel
theorem dX1_ableIn_27 : decode cX1_ableIn 27 = .ok (.iconst 1, 1) := by decide +kernel
theorem dX1_ableIn_28 : decode cX1_ableIn 28 = .ok (.iload 4, 2) := by decide +kernel
theorem dX1_ableIn_30 : decode cX1_ableIn 30 = .ok (.ishl, 1) := by decide +kernel
theorem dX1_ableIn_31 : decode cX1_ableIn 31 = .ok (.ior, 1) := by decide +kernel
theorem dX1_ableIn_32 : decode cX1_ableIn 32 = .ok (.istore_n 3, 1) := by decide +kernel
theorem dX1_ableIn_33 : decode cX1_ableIn 33 = .ok (.iinc 4 1, 3) := by decide +kernel
theorem dX1_ableIn_36 : decode cX1_ableIn 36 = .ok (.goto (-31), 3) := by decide +kernel
theorem dX1_ableIn_39 : decode cX1_ableIn 39 = .ok (.iload_n 3, 1) := by decide +kernel
theorem dX1_ableIn_40 : decode cX1_ableIn 40 = .ok (.ireturn, 1) := by decide +kernel
theorem dX1_extend_0 : decode cX1_extend 0 = .ok (.iload_n 2, 1) := by decide +kernel
theorem dX1_extend_1 : decode cX1_extend 1 = .ok (.aload_n 1, 1) := by decide +kernel
theorem dX1_extend_2 : decode cX1_extend 2 = .ok (.getfield 51, 3) := by decide +kernel
theorem dX1_extend_5 : decode cX1_extend 5 = .ok (.if_icmp .lt 16, 3) := by decide +kernel
theorem dX1_extend_8 : decode cX1_extend 8 = .ok (.aload_n 0, 1) := by decide +kernel
theorem dX1_extend_9 : decode cX1_extend 9 = .ok (.aload_n 1, 1) := by decide +kernel
theorem dX1_extend_10 : decode cX1_extend 10 = .ok (.getfield 51, 3) := by decide +kernel
theorem dX1_extend_13 : decode cX1_extend 13 = .ok (.iload 4, 2) := by decide +kernel
theorem dX1_extend_15 : decode cX1_extend 15 = .ok (.iload 5, 2) := by decide +kernel
theorem dX1_extend_17 : decode cX1_extend 17 = .ok (.invokevirtual 72, 3) := by decide +kernel
theorem dX1_extend_20 : decode cX1_extend 20 = .ok (.return_, 1) := by decide +kernel
theorem dX1_extend_21 : decode cX1_extend 21 = .ok (.iconst 0, 1) := by decide +kernel
theorem dX1_extend_22 : decode cX1_extend 22 = .ok (.istore 6, 2) := by decide +kernel
theorem dX1_extend_24 : decode cX1_extend 24 = .ok (.iload 6, 2) := by decide +kernel
theorem dX1_extend_26 : decode cX1_extend 26 = .ok (.aload_n 1, 1) := by decide +kernel
theorem dX1_extend_27 : decode cX1_extend 27 = .ok (.getfield 65, 3) := by decide +kernel
theorem dX1_extend_30 : decode cX1_extend 30 = .ok (.if_icmp .ge 90, 3) := by decide +kernel
theorem dX1_extend_33 : decode cX1_extend 33 = .ok (.iload_n 3, 1) := by decide +kernel
theorem dX1_extend_34 : decode cX1_extend 34 = .ok (.aload_n 0, 1) := by decide +kernel
theorem dX1_extend_35 : decode cX1_extend 35 = .ok (.getfield 15, 3) := by decide +kernel
theorem dX1_extend_38 : decode cX1_extend 38 = .ok (.iload_n 2, 1) := by decide +kernel
theorem dX1_extend_39 : decode cX1_extend 39 = .ok (.iaload, 1) := by decide +kernel
theorem dX1_extend_40 : decode cX1_extend 40 = .ok (.iand, 1) := by decide +kernel
theorem dX1_extend_41 : decode cX1_extend 41 = .ok (.iconst 1, 1) := by decide +kernel
theorem dX1_extend_42 : decode cX1_extend 42 = .ok (.iload 6, 2) := by decide +kernel
theorem dX1_extend_44 : decode cX1_extend 44 = .ok (.ishl, 1) := by decide +kernel
theorem dX1_extend_45 : decode cX1_extend 45 = .ok (.iand, 1) := by decide +kernel
theorem dX1_extend_46 : decode cX1_extend 46 = .ok (.ifCond .eq 68, 3) := by decide +kernel
theorem dX1_extend_49 : decode cX1_extend 49 = .ok (.aload_n 0, 1) := by decide +kernel
theorem dX1_extend_50 : decode cX1_extend 50 = .ok (.getfield 9, 3) := by decide +kernel
theorem dX1_extend_53 : decode cX1_extend 53 = .ok (.iload_n 2, 1) := by decide +kernel
theorem dX1_extend_54 : decode cX1_extend 54 = .ok (.iload 6, 2) := by decide +kernel
theorem dX1_extend_56 : decode cX1_extend 56 = .ok (.iastore, 1) := by decide +kernel
theorem dX1_extend_57 : decode cX1_extend 57 = .ok (.iload_n 2, 1) := by decide +kernel
theorem dX1_extend_58 : decode cX1_extend 58 = .ok (.ifCond .ne 7, 3) := by decide +kernel
theorem dX1_extend_61 : decode cX1_extend 61 = .ok (.iconst 0, 1) := by decide +kernel
theorem dX1_extend_62 : decode cX1_extend 62 = .ok (.goto 17, 3) := by decide +kernel
theorem dX1_extend_65 : decode cX1_extend 65 = .ok (.aload_n 1, 1) := by decide +kernel
theorem dX1_extend_66 : decode cX1_extend 66 = .ok (.aload_n 0, 1) := by decide +kernel
theorem dX1_extend_67 : decode cX1_extend 67 = .ok (.getfield 9, 3) := by decide +kernel
theorem dX1_extend_70 : decode cX1_extend 70 = .ok (.iload_n 2, 1) := by decide +kernel
theorem dX1_extend_71 : decode cX1_extend 71 = .ok (.iconst 1, 1) := by decide +kernel
theorem dX1_extend_72 : decode cX1_extend 72 = .ok (.isub, 1) := by decide +kernel
theorem dX1_extend_73 : decode cX1_extend 73 = .ok (.iaload, 1) := by decide +kernel
theorem dX1_extend_74 : decode cX1_extend 74 = .ok (.iload 6, 2) := by decide +kernel
theorem dX1_extend_76 : decode cX1_extend 76 = .ok (.invokevirtual 76, 3) := by decide +kernel
theorem dX1_extend_79 : decode cX1_extend 79 = .ok (.istore 7, 2) := by decide +kernel
theorem dX1_extend_81 : decode cX1_extend 81 = .ok (.aload_n 0, 1) := by decide +kernel
theorem dX1_extend_82 : decode cX1_extend 82 = .ok (.aload_n 1, 1) := by decide +kernel
theorem dX1_extend_83 : decode cX1_extend 83 = .ok (.iload_n 2, 1) := by decide +kernel
theorem dX1_extend_84 : decode cX1_extend 84 = .ok (.iconst 1, 1) := by decide +kernel
theorem dX1_extend_85 : decode cX1_extend 85 = .ok (.iadd, 1) := by decide +kernel
theorem dX1_extend_86 : decode cX1_extend 86 = .ok (.iload_n 3, 1) := by decide +kernel
theorem dX1_extend_87 : decode cX1_extend 87 = .ok (.iconst 1, 1) := by decide +kernel
theorem dX1_extend_88 : decode cX1_extend 88 = .ok (.iload 6, 2) := by decide +kernel
theorem dX1_extend_90 : decode cX1_extend 90 = .ok (.ishl, 1) := by decide +kernel
theorem dX1_extend_91 : decode cX1_extend 91 = .ok (.iconst (-1), 1) := by decide +kernel
theorem dX1_extend_92 : decode cX1_extend 92 = .ok (.ixor, 1) := by decide +kernel
theorem dX1_extend_93 : decode cX1_extend 93 = .ok (.iand, 1) := by decide +kernel
theorem dX1_extend_94 : decode cX1_extend 94 = .ok (.iload 4, 2) := by decide +kernel
theorem dX1_extend_96 : decode cX1_extend 96 = .ok (.iload 7, 2) := by decide +kernel
theorem dX1_extend_98 : decode cX1_extend 98 = .ok (.iadd, 1) := by decide +kernel
theorem dX1_extend_99 : decode cX1_extend 99 = .ok (.iload 5, 2) := by decide +kernel
theorem dX1_extend_101 : decode cX1_extend 101 = .ok (.aload_n 0, 1) := by decide +kernel
theorem dX1_extend_102 : decode cX1_extend 102 = .ok (.getfield 18, 3) := by decide +kernel
theorem dX1_extend_105 : decode cX1_extend 105 = .ok (.iload 6, 2) := by decide +kernel
theorem dX1_extend_107 : decode cX1_extend 107 = .ok (.iaload, 1) := by decide +kernel
theorem dX1_extend_108 : decode cX1_extend 108 = .ok (.invokestatic 79, 3) := by decide +kernel
theorem dX1_extend_111 : decode cX1_extend 111 = .ok (.invokevirtual 61, 3) := by decide +kernel
theorem dX1_extend_114 : decode cX1_extend 114 = .ok (.iinc 6 1, 3) := by decide +kernel
theorem dX1_extend_117 : decode cX1_extend 117 = .ok (.goto (-93), 3) := by decide +kernel
theorem dX1_extend_120 : decode cX1_extend 120 = .ok (.return_, 1) := by decide +kernel
theorem dX1_weigh_0 : decode cX1_weigh 0 = .ok (.aload_n 0, 1) := by decide +kernel
theorem dX1_weigh_1 : decode cX1_weigh 1 = .ok (.getfield 31, 3) := by decide +kernel
theorem dX1_weigh_4 : decode cX1_weigh 4 = .ok (.bipush (-9), 2) := by decide +kernel
theorem dX1_weigh_6 : decode cX1_weigh 6 = .ok (.if_icmp .eq 11, 3) := by decide +kernel
theorem dX1_weigh_9 : decode cX1_weigh 9 = .ok (.iload_n 2, 1) := by decide +kernel
theorem dX1_weigh_10 : decode cX1_weigh 10 = .ok (.aload_n 0, 1) := by decide +kernel
theorem dX1_weigh_11 : decode cX1_weigh 11 = .ok (.getfield 31, 3) := by decide +kernel
theorem dX1_weigh_14 : decode cX1_weigh 14 = .ok (.if_icmp .ge 8, 3) := by decide +kernel
theorem dX1_weigh_17 : decode cX1_weigh 17 = .ok (.aload_n 0, 1) := by decide +kernel
theorem dX1_weigh_18 : decode cX1_weigh 18 = .ok (.iload_n 2, 1) := by decide +kernel
theorem dX1_weigh_19 : decode cX1_weigh 19 = .ok (.putfield 31, 3) := by decide +kernel
theorem dX1_weigh_22 : decode cX1_weigh 22 = .ok (.iload_n 2, 1) := by decide +kernel
theorem dX1_weigh_23 : decode cX1_weigh 23 = .ok (.ifCond .le 4, 3) := by decide +kernel
theorem dX1_weigh_26 : decode cX1_weigh 26 = .ok (.return_, 1) := by decide +kernel
theorem dX1_weigh_27 : decode cX1_weigh 27 = .ok (.aload_n 0, 1) := by decide +kernel
theorem dX1_weigh_28 : decode cX1_weigh 28 = .ok (.getfield 21, 3) := by decide +kernel
theorem dX1_weigh_31 : decode cX1_weigh 31 = .ok (.ifCond .eq 11, 3) := by decide +kernel
theorem dX1_weigh_34 : decode cX1_weigh 34 = .ok (.iload_n 3, 1) := by decide +kernel
theorem dX1_weigh_35 : decode cX1_weigh 35 = .ok (.aload_n 0, 1) := by decide +kernel
theorem dX1_weigh_36 : decode cX1_weigh 36 = .ok (.getfield 25, 3) := by decide +kernel
theorem dX1_weigh_39 : decode cX1_weigh 39 = .ok (.if_icmp .le 22, 3) := by decide +kernel
theorem dX1_weigh_42 : decode cX1_weigh 42 = .ok (.aload_n 0, 1) := by decide +kernel
theorem dX1_weigh_43 : decode cX1_weigh 43 = .ok (.iload_n 3, 1) := by decide +kernel
theorem dX1_weigh_44 : decode cX1_weigh 44 = .ok (.putfield 25, 3) := by decide +kernel
theorem dX1_weigh_47 : decode cX1_weigh 47 = .ok (.aload_n 0, 1) := by decide +kernel
theorem dX1_weigh_48 : decode cX1_weigh 48 = .ok (.getfield 9, 3) := by decide +kernel
theorem dX1_weigh_51 : decode cX1_weigh 51 = .ok (.iconst 0, 1) := by decide +kernel
theorem dX1_weigh_52 : decode cX1_weigh 52 = .ok (.aload_n 0, 1) := by decide +kernel
theorem dX1_weigh_53 : decode cX1_weigh 53 = .ok (.getfield 28, 3) := by decide +kernel
theorem dX1_weigh_56 : decode cX1_weigh 56 = .ok (.iconst 0, 1) := by decide +kernel
theorem dX1_weigh_57 : decode cX1_weigh 57 = .ok (.iload_n 1, 1) := by decide +kernel
theorem dX1_weigh_58 : decode cX1_weigh 58 = .ok (.invokestatic 84, 3) := by decide +kernel
theorem dX1_weigh_61 : decode cX1_weigh 61 = .ok (.aload_n 0, 1) := by decide +kernel
theorem dX1_weigh_62 : decode cX1_weigh 62 = .ok (.dup, 1) := by decide +kernel
theorem dX1_weigh_63 : decode cX1_weigh 63 = .ok (.getfield 21, 3) := by decide +kernel
theorem dX1_weigh_66 : decode cX1_weigh 66 = .ok (.iconst 1, 1) := by decide +kernel
theorem dX1_weigh_67 : decode cX1_weigh 67 = .ok (.iadd, 1) := by decide +kernel
theorem dX1_weigh_68 : decode cX1_weigh 68 = .ok (.putfield 21, 3) := by decide +kernel
theorem dX1_weigh_71 : decode cX1_weigh 71 = .ok (.iconst 0, 1) := by decide +kernel
theorem dX1_weigh_72 : decode cX1_weigh 72 = .ok (.istore 4, 2) := by decide +kernel
theorem dX1_weigh_74 : decode cX1_weigh 74 = .ok (.iload 4, 2) := by decide +kernel
theorem dX1_weigh_76 : decode cX1_weigh 76 = .ok (.iload_n 1, 1) := by decide +kernel
theorem dX1_weigh_77 : decode cX1_weigh 77 = .ok (.if_icmp .ge 28, 3) := by decide +kernel
theorem dX1_weigh_80 : decode cX1_weigh 80 = .ok (.aload_n 0, 1) := by decide +kernel
theorem dX1_weigh_81 : decode cX1_weigh 81 = .ok (.getfield 34, 3) := by decide +kernel
theorem dX1_weigh_84 : decode cX1_weigh 84 = .ok (.aload_n 0, 1) := by decide +kernel
theorem dX1_weigh_85 : decode cX1_weigh 85 = .ok (.getfield 9, 3) := by decide +kernel
theorem dX1_weigh_88 : decode cX1_weigh 88 = .ok (.iload 4, 2) := by decide +kernel
theorem dX1_weigh_90 : decode cX1_weigh 90 = .ok (.iaload, 1) := by decide +kernel
theorem dX1_weigh_91 : decode cX1_weigh 91 = .ok (.dup2, 1) := by decide +kernel
theorem dX1_weigh_92 : decode cX1_weigh 92 = .ok (.iaload, 1) := by decide +kernel
theorem dX1_weigh_93 : decode cX1_weigh 93 = .ok (.iconst 1, 1) := by decide +kernel
theorem dX1_weigh_94 : decode cX1_weigh 94 = .ok (.iload 4, 2) := by decide +kernel
theorem dX1_weigh_96 : decode cX1_weigh 96 = .ok (.ishl, 1) := by decide +kernel
theorem dX1_weigh_97 : decode cX1_weigh 97 = .ok (.ior, 1) := by decide +kernel
theorem dX1_weigh_98 : decode cX1_weigh 98 = .ok (.iastore, 1) := by decide +kernel
theorem dX1_weigh_99 : decode cX1_weigh 99 = .ok (.iinc 4 1, 3) := by decide +kernel
theorem dX1_weigh_102 : decode cX1_weigh 102 = .ok (.goto (-28), 3) := by decide +kernel
theorem dX1_weigh_105 : decode cX1_weigh 105 = .ok (.return_, 1) := by decide +kernel
theorem dX1_bestChange_0 : decode cX1_bestChange 0 = .ok (.iconst 0, 1) := by decide +kernel
theorem dX1_bestChange_1 : decode cX1_bestChange 1 = .ok (.aload_n 1, 1) := by decide +kernel
theorem dX1_bestChange_2 : decode cX1_bestChange 2 = .ok (.aload_n 1, 1) := by decide +kernel
theorem dX1_bestChange_3 : decode cX1_bestChange 3 = .ok (.getfield 90, 3) := by decide +kernel
theorem dX1_bestChange_6 : decode cX1_bestChange 6 = .ok (.invokevirtual 93, 3) := by decide +kernel
theorem dX1_bestChange_9 : decode cX1_bestChange 9 = .ok (.invokestatic 97, 3) := by decide +kernel
theorem dX1_bestChange_12 : decode cX1_bestChange 12 = .ok (.istore_n 2, 1) := by decide +kernel
theorem dX1_bestChange_13 : decode cX1_bestChange 13 = .ok (.bipush (-9), 2) := by decide +kernel
theorem dX1_bestChange_15 : decode cX1_bestChange 15 = .ok (.istore_n 3, 1) := by decide +kernel
theorem dX1_bestChange_16 : decode cX1_bestChange 16 = .ok (.aload_n 1, 1) := by decide +kernel
theorem dX1_bestChange_17 : decode cX1_bestChange 17 = .ok (.getfield 90, 3) := by decide +kernel
theorem dX1_bestChange_20 : decode cX1_bestChange 20 = .ok (.iconst 0, 1) := by decide +kernel
theorem dX1_bestChange_21 : decode cX1_bestChange 21 = .ok (.aload_n 0, 1) := by decide +kernel
theorem dX1_bestChange_22 : decode cX1_bestChange 22 = .ok (.getfield 9, 3) := by decide +kernel
theorem dX1_bestChange_25 : decode cX1_bestChange 25 = .ok (.iconst 0, 1) := by decide +kernel
theorem dX1_bestChange_26 : decode cX1_bestChange 26 = .ok (.iconst 5, 1) := by decide +kernel
theorem dX1_bestChange_27 : decode cX1_bestChange 27 = .ok (.invokestatic 84, 3) := by decide +kernel
theorem dX1_bestChange_30 : decode cX1_bestChange 30 = .ok (.iconst 0, 1) := by decide +kernel
theorem dX1_bestChange_31 : decode cX1_bestChange 31 = .ok (.istore 4, 2) := by decide +kernel
theorem dX1_bestChange_33 : decode cX1_bestChange 33 = .ok (.iload 4, 2) := by decide +kernel
theorem dX1_bestChange_35 : decode cX1_bestChange 35 = .ok (.aload_n 1, 1) := by decide +kernel
theorem dX1_bestChange_36 : decode cX1_bestChange 36 = .ok (.getfield 51, 3) := by decide +kernel
theorem dX1_bestChange_39 : decode cX1_bestChange 39 = .ok (.if_icmp .ge 104, 3) := by decide +kernel
theorem dX1_bestChange_42 : decode cX1_bestChange 42 = .ok (.iconst 0, 1) := by decide +kernel
theorem dX1_bestChange_43 : decode cX1_bestChange 43 = .ok (.istore 5, 2) := by decide +kernel
theorem dX1_bestChange_45 : decode cX1_bestChange 45 = .ok (.iload 5, 2) := by decide +kernel
theorem dX1_bestChange_47 : decode cX1_bestChange 47 = .ok (.aload_n 1, 1) := by decide +kernel
theorem dX1_bestChange_48 : decode cX1_bestChange 48 = .ok (.getfield 65, 3) := by decide +kernel
theorem dX1_bestChange_51 : decode cX1_bestChange 51 = .ok (.if_icmp .ge 72, 3) := by decide +kernel
theorem dX1_bestChange_54 : decode cX1_bestChange 54 = .ok (.aload_n 1, 1) := by decide +kernel
theorem dX1_bestChange_55 : decode cX1_bestChange 55 = .ok (.getfield 90, 3) := by decide +kernel
theorem dX1_bestChange_58 : decode cX1_bestChange 58 = .ok (.iload 4, 2) := by decide +kernel
theorem dX1_bestChange_60 : decode cX1_bestChange 60 = .ok (.iaload, 1) := by decide +kernel
theorem dX1_bestChange_61 : decode cX1_bestChange 61 = .ok (.bipush (-9), 2) := by decide +kernel
theorem dX1_bestChange_63 : decode cX1_bestChange 63 = .ok (.if_icmp .eq 60, 3) := by decide +kernel
theorem dX1_bestChange_66 : decode cX1_bestChange 66 = .ok (.aload_n 0, 1) := by decide +kernel
theorem dX1_bestChange_67 : decode cX1_bestChange 67 = .ok (.getfield 9, 3) := by decide +kernel
theorem dX1_bestChange_70 : decode cX1_bestChange 70 = .ok (.iload 4, 2) := by decide +kernel
theorem dX1_bestChange_72 : decode cX1_bestChange 72 = .ok (.iload 5, 2) := by decide +kernel
theorem dX1_bestChange_74 : decode cX1_bestChange 74 = .ok (.iastore, 1) := by decide +kernel
theorem dX1_bestChange_75 : decode cX1_bestChange 75 = .ok (.aload_n 1, 1) := by decide +kernel
theorem dX1_bestChange_76 : decode cX1_bestChange 76 = .ok (.iload 5, 2) := by decide +kernel
theorem dX1_bestChange_78 : decode cX1_bestChange 78 = .ok (.invokevirtual 100, 3) := by decide +kernel
theorem dX1_bestChange_81 : decode cX1_bestChange 81 = .ok (.ifCond .eq 14, 3) := by decide +kernel
theorem dX1_bestChange_84 : decode cX1_bestChange 84 = .ok (.aload_n 1, 1) := by decide +kernel
theorem dX1_bestChange_85 : decode cX1_bestChange 85 = .ok (.aload_n 0, 1) := by decide +kernel
theorem dX1_bestChange_86 : decode cX1_bestChange 86 = .ok (.getfield 9, 3) := by decide +kernel
theorem dX1_bestChange_89 : decode cX1_bestChange 89 = .ok (.invokevirtual 93, 3) := by decide +kernel
theorem dX1_bestChange_92 : decode cX1_bestChange 92 = .ok (.goto 5, 3) := by decide +kernel
theorem dX1_bestChange_95 : decode cX1_bestChange 95 = .ok (.bipush (-9), 2) := by decide +kernel
theorem dX1_bestChange_97 : decode cX1_bestChange 97 = .ok (.istore 6, 2) := by decide +kernel
theorem dX1_bestChange_99 : decode cX1_bestChange 99 = .ok (.iload 6, 2) := by decide +kernel
theorem dX1_bestChange_101 : decode cX1_bestChange 101 = .ok (.iload_n 2, 1) := by decide +kernel
theorem dX1_bestChange_102 : decode cX1_bestChange 102 = .ok (.if_icmp .le 15, 3) := by decide +kernel
theorem dX1_bestChange_105 : decode cX1_bestChange 105 = .ok (.iload 6, 2) := by decide +kernel
theorem dX1_bestChange_107 : decode cX1_bestChange 107 = .ok (.istore_n 2, 1) := by decide +kernel
theorem dX1_bestChange_108 : decode cX1_bestChange 108 = .ok (.bipush 10, 2) := by decide +kernel
theorem dX1_bestChange_110 : decode cX1_bestChange 110 = .ok (.iload 4, 2) := by decide +kernel
theorem dX1_bestChange_112 : decode cX1_bestChange 112 = .ok (.imul, 1) := by decide +kernel
theorem dX1_bestChange_113 : decode cX1_bestChange 113 = .ok (.iload 5, 2) := by decide +kernel
theorem dX1_bestChange_115 : decode cX1_bestChange 115 = .ok (.iadd, 1) := by decide +kernel
theorem dX1_bestChange_116 : decode cX1_bestChange 116 = .ok (.istore_n 3, 1) := by decide +kernel
theorem dX1_bestChange_117 : decode cX1_bestChange 117 = .ok (.iinc 5 1, 3) := by decide +kernel
theorem dX1_bestChange_120 : decode cX1_bestChange 120 = .ok (.goto (-75), 3) := by decide +kernel
theorem dX1_bestChange_123 : decode cX1_bestChange 123 = .ok (.aload_n 0, 1) := by decide +kernel
theorem dX1_bestChange_124 : decode cX1_bestChange 124 = .ok (.getfield 9, 3) := by decide +kernel
theorem dX1_bestChange_127 : decode cX1_bestChange 127 = .ok (.iload 4, 2) := by decide +kernel
theorem dX1_bestChange_129 : decode cX1_bestChange 129 = .ok (.aload_n 1, 1) := by decide +kernel
theorem dX1_bestChange_130 : decode cX1_bestChange 130 = .ok (.getfield 90, 3) := by decide +kernel
theorem dX1_bestChange_133 : decode cX1_bestChange 133 = .ok (.iload 4, 2) := by decide +kernel
theorem dX1_bestChange_135 : decode cX1_bestChange 135 = .ok (.iaload, 1) := by decide +kernel
theorem dX1_bestChange_136 : decode cX1_bestChange 136 = .ok (.iastore, 1) := by decide +kernel
theorem dX1_bestChange_137 : decode cX1_bestChange 137 = .ok (.iinc 4 1, 3) := by decide +kernel
theorem dX1_bestChange_140 : decode cX1_bestChange 140 = .ok (.goto (-107), 3) := by decide +kernel
theorem dX1_bestChange_143 : decode cX1_bestChange 143 = .ok (.iload_n 3, 1) := by decide +kernel
theorem dX1_bestChange_144 : decode cX1_bestChange 144 = .ok (.ireturn, 1) := by decide +kernel
theorem dX1_standingBySeed_0 : decode cX1_standingBySeed 0 = .ok (.iload_n 3, 1) := by decide +kernel
theorem dX1_standingBySeed_1 : decode cX1_standingBySeed 1 = .ok (.istore 4, 2) := by decide +kernel
theorem dX1_standingBySeed_3 : decode cX1_standingBySeed 3 = .ok (.iconst 0, 1) := by decide +kernel
theorem dX1_standingBySeed_4 : decode cX1_standingBySeed 4 = .ok (.istore 5, 2) := by decide +kernel
theorem dX1_standingBySeed_6 : decode cX1_standingBySeed 6 = .ok (.iconst 0, 1) := by decide +kernel
theorem dX1_standingBySeed_7 : decode cX1_standingBySeed 7 = .ok (.istore 6, 2) := by decide +kernel
theorem dX1_standingBySeed_9 : decode cX1_standingBySeed 9 = .ok (.iload 6, 2) := by decide +kernel
theorem dX1_standingBySeed_11 : decode cX1_standingBySeed 11 = .ok (.iload_n 2, 1) := by decide +kernel
theorem dX1_standingBySeed_12 : decode cX1_standingBySeed 12 = .ok (.if_icmp .ge 74, 3) := by decide +kernel
theorem dX1_standingBySeed_15 : decode cX1_standingBySeed 15 = .ok (.iconst 0, 1) := by decide +kernel
theorem dX1_standingBySeed_16 : decode cX1_standingBySeed 16 = .ok (.istore 7, 2) := by decide +kernel
theorem dX1_standingBySeed_18 : decode cX1_standingBySeed 18 = .ok (.iload 7, 2) := by decide +kernel
theorem dX1_standingBySeed_20 : decode cX1_standingBySeed 20 = .ok (.aload_n 1, 1) := by decide +kernel
theorem dX1_standingBySeed_21 : decode cX1_standingBySeed 21 = .ok (.getfield 51, 3) := by decide +kernel
theorem dX1_standingBySeed_24 : decode cX1_standingBySeed 24 = .ok (.if_icmp .ge 36, 3) := by decide +kernel
theorem dX1_standingBySeed_27 : decode cX1_standingBySeed 27 = .ok (.iload 4, 2) := by decide +kernel
theorem dX1_standingBySeed_29 : decode cX1_standingBySeed 29 = .ok (.ldc 104, 2) := by decide +kernel
theorem dX1_standingBySeed_31 : decode cX1_standingBySeed 31 = .ok (.imul, 1) := by decide +kernel
theorem dX1_standingBySeed_32 : decode cX1_standingBySeed 32 = .ok (.sipush 12345, 3) := by decide +kernel
theorem dX1_standingBySeed_35 : decode cX1_standingBySeed 35 = .ok (.iadd, 1) := by decide +kernel
theorem dX1_standingBySeed_36 : decode cX1_standingBySeed 36 = .ok (.istore 4, 2) := by decide +kernel
theorem dX1_standingBySeed_38 : decode cX1_standingBySeed 38 = .ok (.aload_n 0, 1) := by decide +kernel
theorem dX1_standingBySeed_39 : decode cX1_standingBySeed 39 = .ok (.getfield 9, 3) := by decide +kernel
theorem dX1_standingBySeed_42 : decode cX1_standingBySeed 42 = .ok (.iload 7, 2) := by decide +kernel
theorem dX1_standingBySeed_44 : decode cX1_standingBySeed 44 = .ok (.aload_n 1, 1) := by decide +kernel
theorem dX1_standingBySeed_45 : decode cX1_standingBySeed 45 = .ok (.getfield 65, 3) := by decide +kernel
theorem dX1_standingBySeed_48 : decode cX1_standingBySeed 48 = .ok (.iload 4, 2) := by decide +kernel
theorem dX1_standingBySeed_50 : decode cX1_standingBySeed 50 = .ok (.invokestatic 105, 3) := by decide +kernel
theorem dX1_standingBySeed_53 : decode cX1_standingBySeed 53 = .ok (.iastore, 1) := by decide +kernel
theorem dX1_standingBySeed_54 : decode cX1_standingBySeed 54 = .ok (.iinc 7 1, 3) := by decide +kernel
theorem dX1_standingBySeed_57 : decode cX1_standingBySeed 57 = .ok (.goto (-39), 3) := by decide +kernel
theorem dX1_standingBySeed_60 : decode cX1_standingBySeed 60 = .ok (.aload_n 1, 1) := by decide +kernel
theorem dX1_standingBySeed_61 : decode cX1_standingBySeed 61 = .ok (.aload_n 0, 1) := by decide +kernel
theorem dX1_standingBySeed_62 : decode cX1_standingBySeed 62 = .ok (.getfield 9, 3) := by decide +kernel
theorem dX1_standingBySeed_65 : decode cX1_standingBySeed 65 = .ok (.aload_n 1, 1) := by decide +kernel
theorem dX1_standingBySeed_66 : decode cX1_standingBySeed 66 = .ok (.getfield 51, 3) := by decide +kernel
theorem dX1_standingBySeed_69 : decode cX1_standingBySeed 69 = .ok (.invokevirtual 108, 3) := by decide +kernel
theorem dX1_standingBySeed_72 : decode cX1_standingBySeed 72 = .ok (.bipush (-9), 2) := by decide +kernel
theorem dX1_standingBySeed_74 : decode cX1_standingBySeed 74 = .ok (.if_icmp .ne 6, 3) := by decide +kernel
theorem dX1_standingBySeed_77 : decode cX1_standingBySeed 77 = .ok (.iinc 5 1, 3) := by decide +kernel
theorem dX1_standingBySeed_80 : decode cX1_standingBySeed 80 = .ok (.iinc 6 1, 3) := by decide +kernel
theorem dX1_standingBySeed_83 : decode cX1_standingBySeed 83 = .ok (.goto (-74), 3) := by decide +kernel
theorem dX1_standingBySeed_86 : decode cX1_standingBySeed 86 = .ok (.iload 5, 2) := by decide +kernel
theorem dX1_standingBySeed_88 : decode cX1_standingBySeed 88 = .ok (.ireturn, 1) := by decide +kernel
theorem dX1_drawBelow_0 : decode cX1_drawBelow 0 = .ok (.iload_n 0, 1) := by decide +kernel
theorem dX1_drawBelow_1 : decode cX1_drawBelow 1 = .ok (.iconst 1, 1) := by decide +kernel
theorem dX1_drawBelow_2 : decode cX1_drawBelow 2 = .ok (.if_icmp .ge 7, 3) := by decide +kernel
theorem dX1_drawBelow_5 : decode cX1_drawBelow 5 = .ok (.iconst 0, 1) := by decide +kernel
theorem dX1_drawBelow_6 : decode cX1_drawBelow 6 = .ok (.goto 12, 3) := by decide +kernel
theorem dX1_drawBelow_9 : decode cX1_drawBelow 9 = .ok (.iload_n 1, 1) := by decide +kernel
theorem dX1_drawBelow_10 : decode cX1_drawBelow 10 = .ok (.ldc 60, 2) := by decide +kernel
theorem dX1_drawBelow_12 : decode cX1_drawBelow 12 = .ok (.iand, 1) := by decide +kernel
theorem dX1_drawBelow_13 : decode cX1_drawBelow 13 = .ok (.ldc 112, 2) := by decide +kernel
theorem dX1_drawBelow_15 : decode cX1_drawBelow 15 = .ok (.idiv, 1) := by decide +kernel
theorem dX1_drawBelow_16 : decode cX1_drawBelow 16 = .ok (.iload_n 0, 1) := by decide +kernel
theorem dX1_drawBelow_17 : decode cX1_drawBelow 17 = .ok (.irem, 1) := by decide +kernel
theorem dX1_drawBelow_18 : decode cX1_drawBelow 18 = .ok (.ireturn, 1) := by decide +kernel
theorem dX2_init_0 : decode cX2_init 0 = .ok (.aload_n 0, 1) := by decide +kernel
theorem dX2_init_1 : decode cX2_init 1 = .ok (.invokespecial 3, 3) := by decide +kernel
theorem dX2_init_4 : decode cX2_init 4 = .ok (.return_, 1) := by decide +kernel
theorem dX2_copyFrom_0 : decode cX2_copyFrom 0 = .ok (.aload_n 0, 1) := by decide +kernel
theorem dX2_copyFrom_1 : decode cX2_copyFrom 1 = .ok (.aload_n 1, 1) := by decide +kernel
theorem dX2_copyFrom_2 : decode cX2_copyFrom 2 = .ok (.getfield 9, 3) := by decide +kernel
theorem dX2_copyFrom_5 : decode cX2_copyFrom 5 = .ok (.putfield 9, 3) := by decide +kernel
theorem dX2_copyFrom_8 : decode cX2_copyFrom 8 = .ok (.aload_n 0, 1) := by decide +kernel
theorem dX2_copyFrom_9 : decode cX2_copyFrom 9 = .ok (.aload_n 1, 1) := by decide +kernel
theorem dX2_copyFrom_10 : decode cX2_copyFrom 10 = .ok (.getfield 15, 3) := by decide +kernel
theorem dX2_copyFrom_13 : decode cX2_copyFrom 13 = .ok (.putfield 15, 3) := by decide +kernel
theorem dX2_copyFrom_16 : decode cX2_copyFrom 16 = .ok (.aload_n 0, 1) := by decide +kernel
theorem dX2_copyFrom_17 : decode cX2_copyFrom 17 = .ok (.aload_n 1, 1) := by decide +kernel
theorem dX2_copyFrom_18 : decode cX2_copyFrom 18 = .ok (.getfield 18, 3) := by decide +kernel
theorem dX2_copyFrom_21 : decode cX2_copyFrom 21 = .ok (.putfield 18, 3) := by decide +kernel
theorem dX2_copyFrom_24 : decode cX2_copyFrom 24 = .ok (.aload_n 0, 1) := by decide +kernel
theorem dX2_copyFrom_25 : decode cX2_copyFrom 25 = .ok (.aload_n 1, 1) := by decide +kernel
theorem dX2_copyFrom_26 : decode cX2_copyFrom 26 = .ok (.getfield 21, 3) := by decide +kernel
theorem dX2_copyFrom_29 : decode cX2_copyFrom 29 = .ok (.putfield 21, 3) := by decide +kernel
theorem dX2_copyFrom_32 : decode cX2_copyFrom 32 = .ok (.aload_n 0, 1) := by decide +kernel
theorem dX2_copyFrom_33 : decode cX2_copyFrom 33 = .ok (.aload_n 1, 1) := by decide +kernel
theorem dX2_copyFrom_34 : decode cX2_copyFrom 34 = .ok (.getfield 24, 3) := by decide +kernel
theorem dX2_copyFrom_37 : decode cX2_copyFrom 37 = .ok (.putfield 24, 3) := by decide +kernel
theorem dX2_copyFrom_40 : decode cX2_copyFrom 40 = .ok (.aload_n 0, 1) := by decide +kernel
theorem dX2_copyFrom_41 : decode cX2_copyFrom 41 = .ok (.aload_n 1, 1) := by decide +kernel
theorem dX2_copyFrom_42 : decode cX2_copyFrom 42 = .ok (.getfield 27, 3) := by decide +kernel
theorem dX2_copyFrom_45 : decode cX2_copyFrom 45 = .ok (.putfield 27, 3) := by decide +kernel
theorem dX2_copyFrom_48 : decode cX2_copyFrom 48 = .ok (.return_, 1) := by decide +kernel
theorem dX2_reaches_0 : decode cX2_reaches 0 = .ok (.aload_n 0, 1) := by decide +kernel
theorem dX2_reaches_1 : decode cX2_reaches 1 = .ok (.getfield 9, 3) := by decide +kernel
theorem dX2_reaches_4 : decode cX2_reaches 4 = .ok (.tableswitch 53 1 5 #[36, 43, 50, 36, 36], 36) := by decide +kernel
theorem dX2_reaches_40 : decode cX2_reaches 40 = .ok (.aload_n 0, 1) := by decide +kernel
theorem dX2_reaches_41 : decode cX2_reaches 41 = .ok (.getfield 18, 3) := by decide +kernel
theorem dX2_reaches_44 : decode cX2_reaches 44 = .ok (.iconst 2, 1) := by decide +kernel
theorem dX2_reaches_45 : decode cX2_reaches 45 = .ok (.iadd, 1) := by decide +kernel
theorem dX2_reaches_46 : decode cX2_reaches 46 = .ok (.ireturn, 1) := by decide +kernel
theorem dX2_reaches_47 : decode cX2_reaches 47 = .ok (.aload_n 0, 1) := by decide +kernel
theorem dX2_reaches_48 : decode cX2_reaches 48 = .ok (.getfield 18, 3) := by decide +kernel
theorem dX2_reaches_51 : decode cX2_reaches 51 = .ok (.iconst 2, 1) := by decide +kernel
theorem dX2_reaches_52 : decode cX2_reaches 52 = .ok (.idiv, 1) := by decide +kernel
theorem dX2_reaches_53 : decode cX2_reaches 53 = .ok (.ireturn, 1) := by decide +kernel
theorem dX2_reaches_54 : decode cX2_reaches 54 = .ok (.bipush 99, 2) := by decide +kernel
theorem dX2_reaches_56 : decode cX2_reaches 56 = .ok (.ireturn, 1) := by decide +kernel
theorem dX2_reaches_57 : decode cX2_reaches 57 = .ok (.aload_n 0, 1) := by decide +kernel
theorem dX2_reaches_58 : decode cX2_reaches 58 = .ok (.getfield 18, 3) := by decide +kernel
theorem dX2_reaches_61 : decode cX2_reaches 61 = .ok (.ireturn, 1) := by decide +kernel
theorem dX2_holds_0 : decode cX2_holds 0 = .ok (.aload_n 0, 1) := by decide +kernel
theorem dX2_holds_1 : decode cX2_holds 1 = .ok (.getfield 9, 3) := by decide +kernel
theorem dX2_holds_4 : decode cX2_holds 4 = .ok (.tableswitch 60 2 5 #[32, 43, 50, 50], 32) := by decide +kernel
theorem dX2_holds_36 : decode cX2_holds 36 = .ok (.iconst 0, 1) := by decide +kernel
theorem dX2_holds_37 : decode cX2_holds 37 = .ok (.aload_n 0, 1) := by decide +kernel
theorem dX2_holds_38 : decode cX2_holds 38 = .ok (.getfield 21, 3) := by decide +kernel
theorem dX2_holds_41 : decode cX2_holds 41 = .ok (.iconst 2, 1) := by decide +kernel
theorem dX2_holds_42 : decode cX2_holds 42 = .ok (.isub, 1) := by decide +kernel
theorem dX2_holds_43 : decode cX2_holds 43 = .ok (.invokestatic 31, 3) := by decide +kernel
theorem dX2_holds_46 : decode cX2_holds 46 = .ok (.ireturn, 1) := by decide +kernel
theorem dX2_holds_47 : decode cX2_holds 47 = .ok (.aload_n 0, 1) := by decide +kernel
theorem dX2_holds_48 : decode cX2_holds 48 = .ok (.getfield 21, 3) := by decide +kernel
theorem dX2_holds_51 : decode cX2_holds 51 = .ok (.iconst 2, 1) := by decide +kernel
theorem dX2_holds_52 : decode cX2_holds 52 = .ok (.idiv, 1) := by decide +kernel
theorem dX2_holds_53 : decode cX2_holds 53 = .ok (.ireturn, 1) := by decide +kernel
theorem dX2_holds_54 : decode cX2_holds 54 = .ok (.aload_n 0, 1) := by decide +kernel
theorem dX2_holds_55 : decode cX2_holds 55 = .ok (.getfield 21, 3) := by decide +kernel
theorem dX2_holds_58 : decode cX2_holds 58 = .ok (.aload_n 0, 1) := by decide +kernel
theorem dX2_holds_59 : decode cX2_holds 59 = .ok (.getfield 15, 3) := by decide +kernel
theorem dX2_holds_62 : decode cX2_holds 62 = .ok (.iadd, 1) := by decide +kernel
theorem dX2_holds_63 : decode cX2_holds 63 = .ok (.ireturn, 1) := by decide +kernel
theorem dX2_holds_64 : decode cX2_holds 64 = .ok (.aload_n 0, 1) := by decide +kernel
theorem dX2_holds_65 : decode cX2_holds 65 = .ok (.getfield 21, 3) := by decide +kernel
theorem dX2_holds_68 : decode cX2_holds 68 = .ok (.ireturn, 1) := by decide +kernel
theorem dX2_cools_0 : decode cX2_cools 0 = .ok (.aload_n 0, 1) := by decide +kernel
theorem dX2_cools_1 : decode cX2_cools 1 = .ok (.getfield 9, 3) := by decide +kernel
theorem dX2_cools_4 : decode cX2_cools 4 = .ok (.tableswitch 46 2 5 #[32, 46, 38, 44], 32) := by decide +kernel
theorem dX2_cools_36 : decode cX2_cools 36 = .ok (.iconst 2, 1) := by decide +kernel
theorem dX2_cools_37 : decode cX2_cools 37 = .ok (.iload_n 1, 1) := by decide +kernel
theorem dX2_cools_38 : decode cX2_cools 38 = .ok (.iconst 1, 1) := by decide +kernel
theorem dX2_cools_39 : decode cX2_cools 39 = .ok (.iadd, 1) := by decide +kernel
theorem dX2_cools_40 : decode cX2_cools 40 = .ok (.imul, 1) := by decide +kernel
theorem dX2_cools_41 : decode cX2_cools 41 = .ok (.ireturn, 1) := by decide +kernel
theorem dX2_cools_42 : decode cX2_cools 42 = .ok (.iconst 1, 1) := by decide +kernel
theorem dX2_cools_43 : decode cX2_cools 43 = .ok (.iload_n 1, 1) := by decide +kernel
theorem dX2_cools_44 : decode cX2_cools 44 = .ok (.invokestatic 31, 3) := by decide +kernel
theorem dX2_cools_47 : decode cX2_cools 47 = .ok (.ireturn, 1) := by decide +kernel
theorem dX2_cools_48 : decode cX2_cools 48 = .ok (.iconst 1, 1) := by decide +kernel
theorem dX2_cools_49 : decode cX2_cools 49 = .ok (.ireturn, 1) := by decide +kernel
theorem dX2_cools_50 : decode cX2_cools 50 = .ok (.iload_n 1, 1) := by decide +kernel
theorem dX2_cools_51 : decode cX2_cools 51 = .ok (.iconst 1, 1) := by decide +kernel
theorem dX2_cools_52 : decode cX2_cools 52 = .ok (.iadd, 1) := by decide +kernel
theorem dX2_cools_53 : decode cX2_cools 53 = .ok (.ireturn, 1) := by decide +kernel
theorem dX2_minutes_0 : decode cX2_minutes 0 = .ok (.aload_n 0, 1) := by decide +kernel
theorem dX2_minutes_1 : decode cX2_minutes 1 = .ok (.iload_n 1, 1) := by decide +kernel
theorem dX2_minutes_2 : decode cX2_minutes 2 = .ok (.invokevirtual 37, 3) := by decide +kernel
theorem dX2_minutes_5 : decode cX2_minutes 5 = .ok (.istore_n 2, 1) := by decide +kernel
theorem dX2_minutes_6 : decode cX2_minutes 6 = .ok (.iload_n 2, 1) := by decide +kernel
theorem dX2_minutes_7 : decode cX2_minutes 7 = .ok (.iconst 1, 1) := by decide +kernel
theorem dX2_minutes_8 : decode cX2_minutes 8 = .ok (.if_icmp .ge 7, 3) := by decide +kernel
theorem dX2_minutes_11 : decode cX2_minutes 11 = .ok (.iconst 0, 1) := by decide +kernel
theorem dX2_minutes_12 : decode cX2_minutes 12 = .ok (.goto 9, 3) := by decide +kernel
theorem dX2_minutes_15 : decode cX2_minutes 15 = .ok (.aload_n 0, 1) := by decide +kernel
theorem dX2_minutes_16 : decode cX2_minutes 16 = .ok (.getfield 24, 3) := by decide +kernel
theorem dX2_minutes_19 : decode cX2_minutes 19 = .ok (.iload_n 2, 1) := by decide +kernel
theorem dX2_minutes_20 : decode cX2_minutes 20 = .ok (.idiv, 1) := by decide +kernel
theorem dX2_minutes_21 : decode cX2_minutes 21 = .ok (.ireturn, 1) := by decide +kernel
theorem dX3_init_0 : decode cX3_init 0 = .ok (.aload_n 0, 1) := by decide +kernel
theorem dX3_init_1 : decode cX3_init 1 = .ok (.invokespecial 3, 3) := by decide +kernel
theorem dX3_init_4 : decode cX3_init 4 = .ok (.aload_n 0, 1) := by decide +kernel
theorem dX3_init_5 : decode cX3_init 5 = .ok (.iconst 3, 1) := by decide +kernel
theorem dX3_init_6 : decode cX3_init 6 = .ok (.putfield 9, 3) := by decide +kernel
theorem dX3_init_9 : decode cX3_init 9 = .ok (.aload_n 0, 1) := by decide +kernel
theorem dX3_init_10 : decode cX3_init 10 = .ok (.iconst 1, 1) := by decide +kernel
theorem dX3_init_11 : decode cX3_init 11 = .ok (.putfield 15, 3) := by decide +kernel
theorem dX3_init_14 : decode cX3_init 14 = .ok (.aload_n 0, 1) := by decide +kernel
theorem dX3_init_15 : decode cX3_init 15 = .ok (.iconst 0, 1) := by decide +kernel
theorem dX3_init_16 : decode cX3_init 16 = .ok (.putfield 18, 3) := by decide +kernel
theorem dX3_init_19 : decode cX3_init 19 = .ok (.aload_n 0, 1) := by decide +kernel
theorem dX3_init_20 : decode cX3_init 20 = .ok (.iconst 0, 1) := by decide +kernel
theorem dX3_init_21 : decode cX3_init 21 = .ok (.putfield 21, 3) := by decide +kernel
theorem dX3_init_24 : decode cX3_init 24 = .ok (.aload_n 0, 1) := by decide +kernel
theorem dX3_init_25 : decode cX3_init 25 = .ok (.iconst 5, 1) := by decide +kernel
theorem dX3_init_26 : decode cX3_init 26 = .ok (.newarray .int, 2) := by decide +kernel
theorem dX3_init_28 : decode cX3_init 28 = .ok (.putfield 24, 3) := by decide +kernel
theorem dX3_init_31 : decode cX3_init 31 = .ok (.aload_n 0, 1) := by decide +kernel
theorem dX3_init_32 : decode cX3_init 32 = .ok (.iconst 5, 1) := by decide +kernel
theorem dX3_init_33 : decode cX3_init 33 = .ok (.newarray .int, 2) := by decide +kernel
theorem dX3_init_35 : decode cX3_init 35 = .ok (.putfield 28, 3) := by decide +kernel
theorem dX3_init_38 : decode cX3_init 38 = .ok (.aload_n 0, 1) := by decide +kernel
theorem dX3_init_39 : decode cX3_init 39 = .ok (.iconst 5, 1) := by decide +kernel
theorem dX3_init_40 : decode cX3_init 40 = .ok (.newarray .int, 2) := by decide +kernel
theorem dX3_init_42 : decode cX3_init 42 = .ok (.putfield 31, 3) := by decide +kernel
theorem dX3_init_45 : decode cX3_init 45 = .ok (.aload_n 0, 1) := by decide +kernel
theorem dX3_init_46 : decode cX3_init 46 = .ok (.bipush 7, 2) := by decide +kernel
theorem dX3_init_48 : decode cX3_init 48 = .ok (.anewarray 34, 3) := by decide +kernel
theorem dX3_init_51 : decode cX3_init 51 = .ok (.putfield 36, 3) := by decide +kernel
theorem dX3_init_54 : decode cX3_init 54 = .ok (.aload_n 0, 1) := by decide +kernel
theorem dX3_init_55 : decode cX3_init 55 = .ok (.bipush 7, 2) := by decide +kernel
theorem dX3_init_57 : decode cX3_init 57 = .ok (.newarray .int, 2) := by decide +kernel
theorem dX3_init_59 : decode cX3_init 59 = .ok (.putfield 40, 3) := by decide +kernel
theorem dX3_init_62 : decode cX3_init 62 = .ok (.aload_n 0, 1) := by decide +kernel
theorem dX3_init_63 : decode cX3_init 63 = .ok (.bipush 49, 2) := by decide +kernel
theorem dX3_init_65 : decode cX3_init 65 = .ok (.newarray .int, 2) := by decide +kernel
theorem dX3_init_67 : decode cX3_init 67 = .ok (.putfield 43, 3) := by decide +kernel
theorem dX3_init_70 : decode cX3_init 70 = .ok (.iconst 0, 1) := by decide +kernel
theorem dX3_init_71 : decode cX3_init 71 = .ok (.istore_n 1, 1) := by decide +kernel
theorem dX3_init_72 : decode cX3_init 72 = .ok (.iload_n 1, 1) := by decide +kernel
theorem dX3_init_73 : decode cX3_init 73 = .ok (.bipush 7, 2) := by decide +kernel
theorem dX3_init_75 : decode cX3_init 75 = .ok (.if_icmp .ge 22, 3) := by decide +kernel
theorem dX3_init_78 : decode cX3_init 78 = .ok (.aload_n 0, 1) := by decide +kernel
theorem dX3_init_79 : decode cX3_init 79 = .ok (.getfield 36, 3) := by decide +kernel
theorem dX3_init_82 : decode cX3_init 82 = .ok (.iload_n 1, 1) := by decide +kernel
theorem dX3_init_83 : decode cX3_init 83 = .ok (.new 34, 3) := by decide +kernel
theorem dX3_init_86 : decode cX3_init 86 = .ok (.dup, 1) := by decide +kernel
theorem dX3_init_87 : decode cX3_init 87 = .ok (.invokespecial 46, 3) := by decide +kernel
theorem dX3_init_90 : decode cX3_init 90 = .ok (.aastore, 1) := by decide +kernel
theorem dX3_init_91 : decode cX3_init 91 = .ok (.iinc 1 1, 3) := by decide +kernel
theorem dX3_init_94 : decode cX3_init 94 = .ok (.goto (-22), 3) := by decide +kernel
theorem dX3_init_97 : decode cX3_init 97 = .ok (.iconst 0, 1) := by decide +kernel
theorem dX3_init_98 : decode cX3_init 98 = .ok (.istore_n 1, 1) := by decide +kernel
theorem dX3_init_99 : decode cX3_init 99 = .ok (.iload_n 1, 1) := by decide +kernel
theorem dX3_init_100 : decode cX3_init 100 = .ok (.iconst 5, 1) := by decide +kernel
theorem dX3_init_101 : decode cX3_init 101 = .ok (.if_icmp .ge 31, 3) := by decide +kernel
theorem dX3_init_104 : decode cX3_init 104 = .ok (.aload_n 0, 1) := by decide +kernel
theorem dX3_init_105 : decode cX3_init 105 = .ok (.getfield 24, 3) := by decide +kernel
theorem dX3_init_108 : decode cX3_init 108 = .ok (.iload_n 1, 1) := by decide +kernel
theorem dX3_init_109 : decode cX3_init 109 = .ok (.iconst 2, 1) := by decide +kernel
theorem dX3_init_110 : decode cX3_init 110 = .ok (.iastore, 1) := by decide +kernel
theorem dX3_init_111 : decode cX3_init 111 = .ok (.aload_n 0, 1) := by decide +kernel
theorem dX3_init_112 : decode cX3_init 112 = .ok (.getfield 28, 3) := by decide +kernel
theorem dX3_init_115 : decode cX3_init 115 = .ok (.iload_n 1, 1) := by decide +kernel
theorem dX3_init_116 : decode cX3_init 116 = .ok (.iconst 2, 1) := by decide +kernel
theorem dX3_init_117 : decode cX3_init 117 = .ok (.iastore, 1) := by decide +kernel
theorem dX3_init_118 : decode cX3_init 118 = .ok (.aload_n 0, 1) := by decide +kernel
theorem dX3_init_119 : decode cX3_init 119 = .ok (.getfield 31, 3) := by decide +kernel
theorem dX3_init_122 : decode cX3_init 122 = .ok (.iload_n 1, 1) := by decide +kernel
theorem dX3_init_123 : decode cX3_init 123 = .ok (.bipush (-9), 2) := by decide +kernel
theorem dX3_init_125 : decode cX3_init 125 = .ok (.iastore, 1) := by decide +kernel
theorem dX3_init_126 : decode cX3_init 126 = .ok (.iinc 1 1, 3) := by decide +kernel
theorem dX3_init_129 : decode cX3_init 129 = .ok (.goto (-30), 3) := by decide +kernel
theorem dX3_init_132 : decode cX3_init 132 = .ok (.return_, 1) := by decide +kernel
theorem dX3_copyFrom_0 : decode cX3_copyFrom 0 = .ok (.aload_n 0, 1) := by decide +kernel
theorem dX3_copyFrom_1 : decode cX3_copyFrom 1 = .ok (.aload_n 1, 1) := by decide +kernel
theorem dX3_copyFrom_2 : decode cX3_copyFrom 2 = .ok (.getfield 9, 3) := by decide +kernel
theorem dX3_copyFrom_5 : decode cX3_copyFrom 5 = .ok (.putfield 9, 3) := by decide +kernel
theorem dX3_copyFrom_8 : decode cX3_copyFrom 8 = .ok (.aload_n 0, 1) := by decide +kernel
theorem dX3_copyFrom_9 : decode cX3_copyFrom 9 = .ok (.aload_n 1, 1) := by decide +kernel
theorem dX3_copyFrom_10 : decode cX3_copyFrom 10 = .ok (.getfield 15, 3) := by decide +kernel
theorem dX3_copyFrom_13 : decode cX3_copyFrom 13 = .ok (.putfield 15, 3) := by decide +kernel
theorem dX3_copyFrom_16 : decode cX3_copyFrom 16 = .ok (.aload_n 0, 1) := by decide +kernel
theorem dX3_copyFrom_17 : decode cX3_copyFrom 17 = .ok (.aload_n 1, 1) := by decide +kernel
theorem dX3_copyFrom_18 : decode cX3_copyFrom 18 = .ok (.getfield 18, 3) := by decide +kernel
theorem dX3_copyFrom_21 : decode cX3_copyFrom 21 = .ok (.putfield 18, 3) := by decide +kernel
theorem dX3_copyFrom_24 : decode cX3_copyFrom 24 = .ok (.aload_n 0, 1) := by decide +kernel
theorem dX3_copyFrom_25 : decode cX3_copyFrom 25 = .ok (.aload_n 1, 1) := by decide +kernel
theorem dX3_copyFrom_26 : decode cX3_copyFrom 26 = .ok (.getfield 21, 3) := by decide +kernel
theorem dX3_copyFrom_29 : decode cX3_copyFrom 29 = .ok (.putfield 21, 3) := by decide +kernel
theorem dX3_copyFrom_32 : decode cX3_copyFrom 32 = .ok (.aload_n 1, 1) := by decide +kernel
theorem dX3_copyFrom_33 : decode cX3_copyFrom 33 = .ok (.getfield 24, 3) := by decide +kernel
theorem dX3_copyFrom_36 : decode cX3_copyFrom 36 = .ok (.iconst 0, 1) := by decide +kernel
theorem dX3_copyFrom_37 : decode cX3_copyFrom 37 = .ok (.aload_n 0, 1) := by decide +kernel
theorem dX3_copyFrom_38 : decode cX3_copyFrom 38 = .ok (.getfield 24, 3) := by decide +kernel
theorem dX3_copyFrom_41 : decode cX3_copyFrom 41 = .ok (.iconst 0, 1) := by decide +kernel
theorem dX3_copyFrom_42 : decode cX3_copyFrom 42 = .ok (.iconst 5, 1) := by decide +kernel
theorem dX3_copyFrom_43 : decode cX3_copyFrom 43 = .ok (.invokestatic 47, 3) := by decide +kernel
theorem dX3_copyFrom_46 : decode cX3_copyFrom 46 = .ok (.aload_n 1, 1) := by decide +kernel
theorem dX3_copyFrom_47 : decode cX3_copyFrom 47 = .ok (.getfield 28, 3) := by decide +kernel
theorem dX3_copyFrom_50 : decode cX3_copyFrom 50 = .ok (.iconst 0, 1) := by decide +kernel
theorem dX3_copyFrom_51 : decode cX3_copyFrom 51 = .ok (.aload_n 0, 1) := by decide +kernel
theorem dX3_copyFrom_52 : decode cX3_copyFrom 52 = .ok (.getfield 28, 3) := by decide +kernel
theorem dX3_copyFrom_55 : decode cX3_copyFrom 55 = .ok (.iconst 0, 1) := by decide +kernel
theorem dX3_copyFrom_56 : decode cX3_copyFrom 56 = .ok (.iconst 5, 1) := by decide +kernel
theorem dX3_copyFrom_57 : decode cX3_copyFrom 57 = .ok (.invokestatic 47, 3) := by decide +kernel
theorem dX3_copyFrom_60 : decode cX3_copyFrom 60 = .ok (.aload_n 1, 1) := by decide +kernel
theorem dX3_copyFrom_61 : decode cX3_copyFrom 61 = .ok (.getfield 31, 3) := by decide +kernel
theorem dX3_copyFrom_64 : decode cX3_copyFrom 64 = .ok (.iconst 0, 1) := by decide +kernel
theorem dX3_copyFrom_65 : decode cX3_copyFrom 65 = .ok (.aload_n 0, 1) := by decide +kernel
theorem dX3_copyFrom_66 : decode cX3_copyFrom 66 = .ok (.getfield 31, 3) := by decide +kernel
theorem dX3_copyFrom_69 : decode cX3_copyFrom 69 = .ok (.iconst 0, 1) := by decide +kernel
theorem dX3_copyFrom_70 : decode cX3_copyFrom 70 = .ok (.iconst 5, 1) := by decide +kernel
theorem dX3_copyFrom_71 : decode cX3_copyFrom 71 = .ok (.invokestatic 47, 3) := by decide +kernel
theorem dX3_copyFrom_74 : decode cX3_copyFrom 74 = .ok (.aload_n 1, 1) := by decide +kernel
theorem dX3_copyFrom_75 : decode cX3_copyFrom 75 = .ok (.getfield 40, 3) := by decide +kernel
theorem dX3_copyFrom_78 : decode cX3_copyFrom 78 = .ok (.iconst 0, 1) := by decide +kernel
theorem dX3_copyFrom_79 : decode cX3_copyFrom 79 = .ok (.aload_n 0, 1) := by decide +kernel
theorem dX3_copyFrom_80 : decode cX3_copyFrom 80 = .ok (.getfield 40, 3) := by decide +kernel
theorem dX3_copyFrom_83 : decode cX3_copyFrom 83 = .ok (.iconst 0, 1) := by decide +kernel
theorem dX3_copyFrom_84 : decode cX3_copyFrom 84 = .ok (.bipush 7, 2) := by decide +kernel
theorem dX3_copyFrom_86 : decode cX3_copyFrom 86 = .ok (.invokestatic 47, 3) := by decide +kernel
theorem dX3_copyFrom_89 : decode cX3_copyFrom 89 = .ok (.aload_n 1, 1) := by decide +kernel
theorem dX3_copyFrom_90 : decode cX3_copyFrom 90 = .ok (.getfield 43, 3) := by decide +kernel
theorem dX3_copyFrom_93 : decode cX3_copyFrom 93 = .ok (.iconst 0, 1) := by decide +kernel
theorem dX3_copyFrom_94 : decode cX3_copyFrom 94 = .ok (.aload_n 0, 1) := by decide +kernel
theorem dX3_copyFrom_95 : decode cX3_copyFrom 95 = .ok (.getfield 43, 3) := by decide +kernel
theorem dX3_copyFrom_98 : decode cX3_copyFrom 98 = .ok (.iconst 0, 1) := by decide +kernel
theorem dX3_copyFrom_99 : decode cX3_copyFrom 99 = .ok (.bipush 49, 2) := by decide +kernel
theorem dX3_copyFrom_101 : decode cX3_copyFrom 101 = .ok (.invokestatic 47, 3) := by decide +kernel
theorem dX3_copyFrom_104 : decode cX3_copyFrom 104 = .ok (.iconst 0, 1) := by decide +kernel
theorem dX3_copyFrom_105 : decode cX3_copyFrom 105 = .ok (.istore_n 2, 1) := by decide +kernel
theorem dX3_copyFrom_106 : decode cX3_copyFrom 106 = .ok (.iload_n 2, 1) := by decide +kernel
theorem dX3_copyFrom_107 : decode cX3_copyFrom 107 = .ok (.bipush 7, 2) := by decide +kernel
theorem dX3_copyFrom_109 : decode cX3_copyFrom 109 = .ok (.if_icmp .ge 24, 3) := by decide +kernel
theorem dX3_copyFrom_112 : decode cX3_copyFrom 112 = .ok (.aload_n 0, 1) := by decide +kernel
theorem dX3_copyFrom_113 : decode cX3_copyFrom 113 = .ok (.getfield 36, 3) := by decide +kernel
theorem dX3_copyFrom_116 : decode cX3_copyFrom 116 = .ok (.iload_n 2, 1) := by decide +kernel
theorem dX3_copyFrom_117 : decode cX3_copyFrom 117 = .ok (.aaload, 1) := by decide +kernel
theorem dX3_copyFrom_118 : decode cX3_copyFrom 118 = .ok (.aload_n 1, 1) := by decide +kernel
theorem dX3_copyFrom_119 : decode cX3_copyFrom 119 = .ok (.getfield 36, 3) := by decide +kernel
theorem dX3_copyFrom_122 : decode cX3_copyFrom 122 = .ok (.iload_n 2, 1) := by decide +kernel
theorem dX3_copyFrom_123 : decode cX3_copyFrom 123 = .ok (.aaload, 1) := by decide +kernel
theorem dX3_copyFrom_124 : decode cX3_copyFrom 124 = .ok (.invokevirtual 53, 3) := by decide +kernel
theorem dX3_copyFrom_127 : decode cX3_copyFrom 127 = .ok (.iinc 2 1, 3) := by decide +kernel
theorem dX3_copyFrom_130 : decode cX3_copyFrom 130 = .ok (.goto (-24), 3) := by decide +kernel
theorem dX3_copyFrom_133 : decode cX3_copyFrom 133 = .ok (.return_, 1) := by decide +kernel
theorem dX3_isYard_0 : decode cX3_isYard 0 = .ok (.iload_n 1, 1) := by decide +kernel
theorem dX3_isYard_1 : decode cX3_isYard 1 = .ok (.ifCond .lt 15, 3) := by decide +kernel
theorem dX3_isYard_4 : decode cX3_isYard 4 = .ok (.iload_n 1, 1) := by decide +kernel
theorem dX3_isYard_5 : decode cX3_isYard 5 = .ok (.aload_n 0, 1) := by decide +kernel
theorem dX3_isYard_6 : decode cX3_isYard 6 = .ok (.getfield 9, 3) := by decide +kernel
theorem dX3_isYard_9 : decode cX3_isYard 9 = .ok (.if_icmp .ge 7, 3) := by decide +kernel
theorem dX3_isYard_12 : decode cX3_isYard 12 = .ok (.iconst 1, 1) := by decide +kernel
theorem dX3_isYard_13 : decode cX3_isYard 13 = .ok (.goto 4, 3) := by decide +kernel
theorem dX3_isYard_16 : decode cX3_isYard 16 = .ok (.iconst 0, 1) := by decide +kernel
theorem dX3_isYard_17 : decode cX3_isYard 17 = .ok (.ireturn, 1) := by decide +kernel
theorem dX3_isPerson_0 : decode cX3_isPerson 0 = .ok (.iload_n 1, 1) := by decide +kernel
theorem dX3_isPerson_1 : decode cX3_isPerson 1 = .ok (.ifCond .lt 15, 3) := by decide +kernel
theorem dX3_isPerson_4 : decode cX3_isPerson 4 = .ok (.iload_n 1, 1) := by decide +kernel
theorem dX3_isPerson_5 : decode cX3_isPerson 5 = .ok (.aload_n 0, 1) := by decide +kernel
theorem dX3_isPerson_6 : decode cX3_isPerson 6 = .ok (.getfield 21, 3) := by decide +kernel
theorem dX3_isPerson_9 : decode cX3_isPerson 9 = .ok (.if_icmp .ge 7, 3) := by decide +kernel
theorem dX3_isPerson_12 : decode cX3_isPerson 12 = .ok (.iconst 1, 1) := by decide +kernel
theorem dX3_isPerson_13 : decode cX3_isPerson 13 = .ok (.goto 4, 3) := by decide +kernel
theorem dX3_isPerson_16 : decode cX3_isPerson 16 = .ok (.iconst 0, 1) := by decide +kernel
theorem dX3_isPerson_17 : decode cX3_isPerson 17 = .ok (.ireturn, 1) := by decide +kernel
theorem dX3_areTwo_0 : decode cX3_areTwo 0 = .ok (.aload_n 0, 1) := by decide +kernel
theorem dX3_areTwo_1 : decode cX3_areTwo 1 = .ok (.iload_n 1, 1) := by decide +kernel
theorem dX3_areTwo_2 : decode cX3_areTwo 2 = .ok (.invokevirtual 57, 3) := by decide +kernel
theorem dX3_areTwo_5 : decode cX3_areTwo 5 = .ok (.ifCond .eq 20, 3) := by decide +kernel
theorem dX3_areTwo_8 : decode cX3_areTwo 8 = .ok (.aload_n 0, 1) := by decide +kernel
theorem dX3_areTwo_9 : decode cX3_areTwo 9 = .ok (.iload_n 2, 1) := by decide +kernel
theorem dX3_areTwo_10 : decode cX3_areTwo 10 = .ok (.invokevirtual 57, 3) := by decide +kernel
theorem dX3_areTwo_13 : decode cX3_areTwo 13 = .ok (.ifCond .eq 12, 3) := by decide +kernel
theorem dX3_areTwo_16 : decode cX3_areTwo 16 = .ok (.iload_n 1, 1) := by decide +kernel
theorem dX3_areTwo_17 : decode cX3_areTwo 17 = .ok (.iload_n 2, 1) := by decide +kernel
theorem dX3_areTwo_18 : decode cX3_areTwo 18 = .ok (.if_icmp .eq 7, 3) := by decide +kernel
theorem dX3_areTwo_21 : decode cX3_areTwo 21 = .ok (.iconst 1, 1) := by decide +kernel
theorem dX3_areTwo_22 : decode cX3_areTwo 22 = .ok (.goto 4, 3) := by decide +kernel
theorem dX3_areTwo_25 : decode cX3_areTwo 25 = .ok (.iconst 0, 1) := by decide +kernel
theorem dX3_areTwo_26 : decode cX3_areTwo 26 = .ok (.ireturn, 1) := by decide +kernel
theorem dX3_placeOf_0 : decode cX3_placeOf 0 = .ok (.aload_n 0, 1) := by decide +kernel
theorem dX3_placeOf_1 : decode cX3_placeOf 1 = .ok (.getfield 36, 3) := by decide +kernel
theorem dX3_placeOf_4 : decode cX3_placeOf 4 = .ok (.iload_n 1, 1) := by decide +kernel
theorem dX3_placeOf_5 : decode cX3_placeOf 5 = .ok (.aaload, 1) := by decide +kernel
theorem dX3_placeOf_6 : decode cX3_placeOf 6 = .ok (.getfield 61, 3) := by decide +kernel
theorem dX3_placeOf_9 : decode cX3_placeOf 9 = .ok (.ifCond .eq 6, 3) := by decide +kernel
theorem dX3_placeOf_12 : decode cX3_placeOf 12 = .ok (.bipush 9, 2) := by decide +kernel
theorem dX3_placeOf_14 : decode cX3_placeOf 14 = .ok (.ireturn, 1) := by decide +kernel
theorem dX3_placeOf_15 : decode cX3_placeOf 15 = .ok (.iconst 0, 1) := by decide +kernel
theorem dX3_placeOf_16 : decode cX3_placeOf 16 = .ok (.istore_n 2, 1) := by decide +kernel
theorem dX3_placeOf_17 : decode cX3_placeOf 17 = .ok (.iload_n 2, 1) := by decide +kernel
theorem dX3_placeOf_18 : decode cX3_placeOf 18 = .ok (.aload_n 0, 1) := by decide +kernel
theorem dX3_placeOf_19 : decode cX3_placeOf 19 = .ok (.getfield 9, 3) := by decide +kernel
theorem dX3_placeOf_22 : decode cX3_placeOf 22 = .ok (.if_icmp .ge 21, 3) := by decide +kernel
theorem dX3_placeOf_25 : decode cX3_placeOf 25 = .ok (.aload_n 0, 1) := by decide +kernel
theorem dX3_placeOf_26 : decode cX3_placeOf 26 = .ok (.getfield 31, 3) := by decide +kernel
theorem dX3_placeOf_29 : decode cX3_placeOf 29 = .ok (.iload_n 2, 1) := by decide +kernel
theorem dX3_placeOf_30 : decode cX3_placeOf 30 = .ok (.iaload, 1) := by decide +kernel
theorem dX3_placeOf_31 : decode cX3_placeOf 31 = .ok (.iload_n 1, 1) := by decide +kernel
theorem dX3_placeOf_32 : decode cX3_placeOf 32 = .ok (.if_icmp .ne 5, 3) := by decide +kernel
theorem dX3_placeOf_35 : decode cX3_placeOf 35 = .ok (.iload_n 2, 1) := by decide +kernel
theorem dX3_placeOf_36 : decode cX3_placeOf 36 = .ok (.ireturn, 1) := by decide +kernel
theorem dX3_placeOf_37 : decode cX3_placeOf 37 = .ok (.iinc 2 1, 3) := by decide +kernel
theorem dX3_placeOf_40 : decode cX3_placeOf 40 = .ok (.goto (-23), 3) := by decide +kernel
theorem dX3_placeOf_43 : decode cX3_placeOf 43 = .ok (.bipush (-9), 2) := by decide +kernel
theorem dX3_placeOf_45 : decode cX3_placeOf 45 = .ok (.ireturn, 1) := by decide +kernel
theorem dX3_isNear_0 : decode cX3_isNear 0 = .ok (.aload_n 0, 1) := by decide +kernel
theorem dX3_isNear_1 : decode cX3_isNear 1 = .ok (.iload_n 1, 1) := by decide +kernel
theorem dX3_isNear_2 : decode cX3_isNear 2 = .ok (.invokevirtual 65, 3) := by decide +kernel
theorem dX3_isNear_5 : decode cX3_isNear 5 = .ok (.bipush (-9), 2) := by decide +kernel
theorem dX3_isNear_7 : decode cX3_isNear 7 = .ok (.if_icmp .ne 7, 3) := by decide +kernel
theorem dX3_isNear_10 : decode cX3_isNear 10 = .ok (.iconst 1, 1) := by decide +kernel
theorem dX3_isNear_11 : decode cX3_isNear 11 = .ok (.goto 4, 3) := by decide +kernel
theorem dX3_isNear_14 : decode cX3_isNear 14 = .ok (.iconst 0, 1) := by decide +kernel
theorem dX3_isNear_15 : decode cX3_isNear 15 = .ok (.ireturn, 1) := by decide +kernel
theorem dX3_inWater_0 : decode cX3_inWater 0 = .ok (.iconst 0, 1) := by decide +kernel
theorem dX3_inWater_1 : decode cX3_inWater 1 = .ok (.istore_n 1, 1) := by decide +kernel
theorem dX3_inWater_2 : decode cX3_inWater 2 = .ok (.iconst 0, 1) := by decide +kernel
theorem dX3_inWater_3 : decode cX3_inWater 3 = .ok (.istore_n 2, 1) := by decide +kernel
theorem dX3_inWater_4 : decode cX3_inWater 4 = .ok (.iload_n 2, 1) := by decide +kernel
theorem dX3_inWater_5 : decode cX3_inWater 5 = .ok (.aload_n 0, 1) := by decide +kernel
theorem dX3_inWater_6 : decode cX3_inWater 6 = .ok (.getfield 9, 3) := by decide +kernel
theorem dX3_inWater_9 : decode cX3_inWater 9 = .ok (.if_icmp .ge 23, 3) := by decide +kernel
theorem dX3_inWater_12 : decode cX3_inWater 12 = .ok (.aload_n 0, 1) := by decide +kernel
theorem dX3_inWater_13 : decode cX3_inWater 13 = .ok (.getfield 31, 3) := by decide +kernel
theorem dX3_inWater_16 : decode cX3_inWater 16 = .ok (.iload_n 2, 1) := by decide +kernel
theorem dX3_inWater_17 : decode cX3_inWater 17 = .ok (.iaload, 1) := by decide +kernel
theorem dX3_inWater_18 : decode cX3_inWater 18 = .ok (.bipush (-9), 2) := by decide +kernel
theorem dX3_inWater_20 : decode cX3_inWater 20 = .ok (.if_icmp .eq 6, 3) := by decide +kernel
theorem dX3_inWater_23 : decode cX3_inWater 23 = .ok (.iinc 1 1, 3) := by decide +kernel
theorem dX3_inWater_26 : decode cX3_inWater 26 = .ok (.iinc 2 1, 3) := by decide +kernel
theorem dX3_inWater_29 : decode cX3_inWater 29 = .ok (.goto (-25), 3) := by decide +kernel
theorem dX3_inWater_32 : decode cX3_inWater 32 = .ok (.iload_n 1, 1) := by decide +kernel
theorem dX3_inWater_33 : decode cX3_inWater 33 = .ok (.ireturn, 1) := by decide +kernel
theorem dX3_overThere_0 : decode cX3_overThere 0 = .ok (.iconst 0, 1) := by decide +kernel
theorem dX3_overThere_1 : decode cX3_overThere 1 = .ok (.istore_n 1, 1) := by decide +kernel
theorem dX3_overThere_2 : decode cX3_overThere 2 = .ok (.iconst 0, 1) := by decide +kernel
theorem dX3_overThere_3 : decode cX3_overThere 3 = .ok (.istore_n 2, 1) := by decide +kernel
theorem dX3_overThere_4 : decode cX3_overThere 4 = .ok (.iload_n 2, 1) := by decide +kernel
theorem dX3_overThere_5 : decode cX3_overThere 5 = .ok (.aload_n 0, 1) := by decide +kernel
theorem dX3_overThere_6 : decode cX3_overThere 6 = .ok (.getfield 21, 3) := by decide +kernel
theorem dX3_overThere_9 : decode cX3_overThere 9 = .ok (.if_icmp .ge 24, 3) := by decide +kernel
theorem dX3_overThere_12 : decode cX3_overThere 12 = .ok (.aload_n 0, 1) := by decide +kernel
theorem dX3_overThere_13 : decode cX3_overThere 13 = .ok (.getfield 36, 3) := by decide +kernel
theorem dX3_overThere_16 : decode cX3_overThere 16 = .ok (.iload_n 2, 1) := by decide +kernel
theorem dX3_overThere_17 : decode cX3_overThere 17 = .ok (.aaload, 1) := by decide +kernel
theorem dX3_overThere_18 : decode cX3_overThere 18 = .ok (.getfield 61, 3) := by decide +kernel
theorem dX3_overThere_21 : decode cX3_overThere 21 = .ok (.ifCond .eq 6, 3) := by decide +kernel
theorem dX3_overThere_24 : decode cX3_overThere 24 = .ok (.iinc 1 1, 3) := by decide +kernel
theorem dX3_overThere_27 : decode cX3_overThere 27 = .ok (.iinc 2 1, 3) := by decide +kernel
theorem dX3_overThere_30 : decode cX3_overThere 30 = .ok (.goto (-26), 3) := by decide +kernel
theorem dX3_overThere_33 : decode cX3_overThere 33 = .ok (.iload_n 1, 1) := by decide +kernel
theorem dX3_overThere_34 : decode cX3_overThere 34 = .ok (.ireturn, 1) := by decide +kernel
theorem dX3_nearBank_0 : decode cX3_nearBank 0 = .ok (.aload_n 0, 1) := by decide +kernel
theorem dX3_nearBank_1 : decode cX3_nearBank 1 = .ok (.getfield 21, 3) := by decide +kernel
theorem dX3_nearBank_4 : decode cX3_nearBank 4 = .ok (.aload_n 0, 1) := by decide +kernel
theorem dX3_nearBank_5 : decode cX3_nearBank 5 = .ok (.invokevirtual 69, 3) := by decide +kernel
theorem dX3_nearBank_8 : decode cX3_nearBank 8 = .ok (.isub, 1) := by decide +kernel
theorem dX3_nearBank_9 : decode cX3_nearBank 9 = .ok (.aload_n 0, 1) := by decide +kernel
theorem dX3_nearBank_10 : decode cX3_nearBank 10 = .ok (.invokevirtual 73, 3) := by decide +kernel
theorem dX3_nearBank_13 : decode cX3_nearBank 13 = .ok (.isub, 1) := by decide +kernel
theorem dX3_nearBank_14 : decode cX3_nearBank 14 = .ok (.ireturn, 1) := by decide +kernel
theorem dX3_notOver_0 : decode cX3_notOver 0 = .ok (.iconst 0, 1) := by decide +kernel
theorem dX3_notOver_1 : decode cX3_notOver 1 = .ok (.istore_n 1, 1) := by decide +kernel
theorem dX3_notOver_2 : decode cX3_notOver 2 = .ok (.iconst 0, 1) := by decide +kernel
theorem dX3_notOver_3 : decode cX3_notOver 3 = .ok (.istore_n 2, 1) := by decide +kernel
theorem dX3_notOver_4 : decode cX3_notOver 4 = .ok (.iload_n 2, 1) := by decide +kernel
theorem dX3_notOver_5 : decode cX3_notOver 5 = .ok (.aload_n 0, 1) := by decide +kernel
theorem dX3_notOver_6 : decode cX3_notOver 6 = .ok (.getfield 21, 3) := by decide +kernel
theorem dX3_notOver_9 : decode cX3_notOver 9 = .ok (.if_icmp .ge 27, 3) := by decide +kernel
theorem dX3_notOver_12 : decode cX3_notOver 12 = .ok (.aload_n 0, 1) := by decide +kernel
theorem dX3_notOver_13 : decode cX3_notOver 13 = .ok (.getfield 36, 3) := by decide +kernel
theorem dX3_notOver_16 : decode cX3_notOver 16 = .ok (.iload_n 2, 1) := by decide +kernel
theorem dX3_notOver_17 : decode cX3_notOver 17 = .ok (.aaload, 1) := by decide +kernel
theorem dX3_notOver_18 : decode cX3_notOver 18 = .ok (.getfield 61, 3) := by decide +kernel
theorem dX3_notOver_21 : decode cX3_notOver 21 = .ok (.ifCond .ne 9, 3) := by decide +kernel
theorem dX3_notOver_24 : decode cX3_notOver 24 = .ok (.iload_n 1, 1) := by decide +kernel
theorem dX3_notOver_25 : decode cX3_notOver 25 = .ok (.iconst 1, 1) := by decide +kernel
theorem dX3_notOver_26 : decode cX3_notOver 26 = .ok (.iload_n 2, 1) := by decide +kernel
theorem dX3_notOver_27 : decode cX3_notOver 27 = .ok (.ishl, 1) := by decide +kernel
theorem dX3_notOver_28 : decode cX3_notOver 28 = .ok (.ior, 1) := by decide +kernel
theorem dX3_notOver_29 : decode cX3_notOver 29 = .ok (.istore_n 1, 1) := by decide +kernel
theorem dX3_notOver_30 : decode cX3_notOver 30 = .ok (.iinc 2 1, 3) := by decide +kernel
theorem dX3_notOver_33 : decode cX3_notOver 33 = .ok (.goto (-29), 3) := by decide +kernel
theorem dX3_notOver_36 : decode cX3_notOver 36 = .ok (.iload_n 1, 1) := by decide +kernel
theorem dX3_notOver_37 : decode cX3_notOver 37 = .ok (.ireturn, 1) := by decide +kernel
theorem dX3_emptyWater_0 : decode cX3_emptyWater 0 = .ok (.iconst 0, 1) := by decide +kernel
theorem dX3_emptyWater_1 : decode cX3_emptyWater 1 = .ok (.istore_n 1, 1) := by decide +kernel
theorem dX3_emptyWater_2 : decode cX3_emptyWater 2 = .ok (.iload_n 1, 1) := by decide +kernel
theorem dX3_emptyWater_3 : decode cX3_emptyWater 3 = .ok (.iconst 5, 1) := by decide +kernel
theorem dX3_emptyWater_4 : decode cX3_emptyWater 4 = .ok (.if_icmp .ge 17, 3) := by decide +kernel
theorem dX3_emptyWater_7 : decode cX3_emptyWater 7 = .ok (.aload_n 0, 1) := by decide +kernel
theorem dX3_emptyWater_8 : decode cX3_emptyWater 8 = .ok (.getfield 31, 3) := by decide +kernel
theorem dX3_emptyWater_11 : decode cX3_emptyWater 11 = .ok (.iload_n 1, 1) := by decide +kernel
theorem dX3_emptyWater_12 : decode cX3_emptyWater 12 = .ok (.bipush (-9), 2) := by decide +kernel
theorem dX3_emptyWater_14 : decode cX3_emptyWater 14 = .ok (.iastore, 1) := by decide +kernel
theorem dX3_emptyWater_15 : decode cX3_emptyWater 15 = .ok (.iinc 1 1, 3) := by decide +kernel
theorem dX3_emptyWater_18 : decode cX3_emptyWater 18 = .ok (.goto (-16), 3) := by decide +kernel
theorem dX3_emptyWater_21 : decode cX3_emptyWater 21 = .ok (.return_, 1) := by decide +kernel
theorem dX3_enter_0 : decode cX3_enter 0 = .ok (.iconst 0, 1) := by decide +kernel
theorem dX3_enter_1 : decode cX3_enter 1 = .ok (.istore_n 3, 1) := by decide +kernel
theorem dX3_enter_2 : decode cX3_enter 2 = .ok (.iload_n 3, 1) := by decide +kernel
theorem dX3_enter_3 : decode cX3_enter 3 = .ok (.aload_n 0, 1) := by decide +kernel
theorem dX3_enter_4 : decode cX3_enter 4 = .ok (.getfield 9, 3) := by decide +kernel
theorem dX3_enter_7 : decode cX3_enter 7 = .ok (.if_icmp .ge 27, 3) := by decide +kernel
theorem dX3_enter_10 : decode cX3_enter 10 = .ok (.aload_n 0, 1) := by decide +kernel
theorem dX3_enter_11 : decode cX3_enter 11 = .ok (.getfield 31, 3) := by decide +kernel
theorem dX3_enter_14 : decode cX3_enter 14 = .ok (.iload_n 3, 1) := by decide +kernel
theorem dX3_enter_15 : decode cX3_enter 15 = .ok (.iaload, 1) := by decide +kernel
theorem dX3_enter_16 : decode cX3_enter 16 = .ok (.iload_n 2, 1) := by decide +kernel
theorem dX3_enter_17 : decode cX3_enter 17 = .ok (.if_icmp .ne 11, 3) := by decide +kernel
theorem dX3_enter_20 : decode cX3_enter 20 = .ok (.aload_n 0, 1) := by decide +kernel
theorem dX3_enter_21 : decode cX3_enter 21 = .ok (.getfield 31, 3) := by decide +kernel
theorem dX3_enter_24 : decode cX3_enter 24 = .ok (.iload_n 3, 1) := by decide +kernel
theorem dX3_enter_25 : decode cX3_enter 25 = .ok (.bipush (-9), 2) := by decide +kernel
theorem dX3_enter_27 : decode cX3_enter 27 = .ok (.iastore, 1) := by decide +kernel
theorem dX3_enter_28 : decode cX3_enter 28 = .ok (.iinc 3 1, 3) := by decide +kernel
theorem dX3_enter_31 : decode cX3_enter 31 = .ok (.goto (-29), 3) := by decide +kernel
theorem dX3_enter_34 : decode cX3_enter 34 = .ok (.aload_n 0, 1) := by decide +kernel
theorem dX3_enter_35 : decode cX3_enter 35 = .ok (.getfield 31, 3) := by decide +kernel
theorem dX3_enter_38 : decode cX3_enter 38 = .ok (.iload_n 1, 1) := by decide +kernel
theorem dX3_enter_39 : decode cX3_enter 39 = .ok (.iload_n 2, 1) := by decide +kernel
theorem dX3_enter_40 : decode cX3_enter 40 = .ok (.iastore, 1) := by decide +kernel
theorem dX3_enter_41 : decode cX3_enter 41 = .ok (.return_, 1) := by decide +kernel
theorem dX3_grudgeOf_0 : decode cX3_grudgeOf 0 = .ok (.aload_n 0, 1) := by decide +kernel
theorem dX3_grudgeOf_1 : decode cX3_grudgeOf 1 = .ok (.getfield 40, 3) := by decide +kernel
theorem dX3_grudgeOf_4 : decode cX3_grudgeOf 4 = .ok (.iload_n 1, 1) := by decide +kernel
theorem dX3_grudgeOf_5 : decode cX3_grudgeOf 5 = .ok (.iaload, 1) := by decide +kernel
theorem dX3_grudgeOf_6 : decode cX3_grudgeOf 6 = .ok (.iload_n 2, 1) := by decide +kernel
theorem dX3_grudgeOf_7 : decode cX3_grudgeOf 7 = .ok (.ishr, 1) := by decide +kernel
theorem dX3_grudgeOf_8 : decode cX3_grudgeOf 8 = .ok (.iconst 1, 1) := by decide +kernel
theorem dX3_grudgeOf_9 : decode cX3_grudgeOf 9 = .ok (.iand, 1) := by decide +kernel
theorem dX3_grudgeOf_10 : decode cX3_grudgeOf 10 = .ok (.ireturn, 1) := by decide +kernel
theorem dX3_setGrudge_0 : decode cX3_setGrudge 0 = .ok (.aload_n 0, 1) := by decide +kernel
theorem dX3_setGrudge_1 : decode cX3_setGrudge 1 = .ok (.getfield 40, 3) := by decide +kernel
theorem dX3_setGrudge_4 : decode cX3_setGrudge 4 = .ok (.iload_n 1, 1) := by decide +kernel
theorem dX3_setGrudge_5 : decode cX3_setGrudge 5 = .ok (.aload_n 0, 1) := by decide +kernel
theorem dX3_setGrudge_6 : decode cX3_setGrudge 6 = .ok (.getfield 40, 3) := by decide +kernel
theorem dX3_setGrudge_9 : decode cX3_setGrudge 9 = .ok (.iload_n 1, 1) := by decide +kernel
theorem dX3_setGrudge_10 : decode cX3_setGrudge 10 = .ok (.iaload, 1) := by decide +kernel
theorem dX3_setGrudge_11 : decode cX3_setGrudge 11 = .ok (.iconst 1, 1) := by decide +kernel
theorem dX3_setGrudge_12 : decode cX3_setGrudge 12 = .ok (.iload_n 2, 1) := by decide +kernel
theorem dX3_setGrudge_13 : decode cX3_setGrudge 13 = .ok (.ishl, 1) := by decide +kernel
theorem dX3_setGrudge_14 : decode cX3_setGrudge 14 = .ok (.iconst (-1), 1) := by decide +kernel
theorem dX3_setGrudge_15 : decode cX3_setGrudge 15 = .ok (.ixor, 1) := by decide +kernel
theorem dX3_setGrudge_16 : decode cX3_setGrudge 16 = .ok (.iand, 1) := by decide +kernel
theorem dX3_setGrudge_17 : decode cX3_setGrudge 17 = .ok (.iload_n 3, 1) := by decide +kernel
theorem dX3_setGrudge_18 : decode cX3_setGrudge 18 = .ok (.iload_n 2, 1) := by decide +kernel
theorem dX3_setGrudge_19 : decode cX3_setGrudge 19 = .ok (.ishl, 1) := by decide +kernel
theorem dX3_setGrudge_20 : decode cX3_setGrudge 20 = .ok (.ior, 1) := by decide +kernel
theorem dX3_setGrudge_21 : decode cX3_setGrudge 21 = .ok (.iastore, 1) := by decide +kernel
theorem dX3_setGrudge_22 : decode cX3_setGrudge 22 = .ok (.aload_n 0, 1) := by decide +kernel
theorem dX3_setGrudge_23 : decode cX3_setGrudge 23 = .ok (.getfield 40, 3) := by decide +kernel
theorem dX3_setGrudge_26 : decode cX3_setGrudge 26 = .ok (.iload_n 2, 1) := by decide +kernel
theorem dX3_setGrudge_27 : decode cX3_setGrudge 27 = .ok (.aload_n 0, 1) := by decide +kernel
theorem dX3_setGrudge_28 : decode cX3_setGrudge 28 = .ok (.getfield 40, 3) := by decide +kernel
theorem dX3_setGrudge_31 : decode cX3_setGrudge 31 = .ok (.iload_n 2, 1) := by decide +kernel
theorem dX3_setGrudge_32 : decode cX3_setGrudge 32 = .ok (.iaload, 1) := by decide +kernel
theorem dX3_setGrudge_33 : decode cX3_setGrudge 33 = .ok (.iconst 1, 1) := by decide +kernel
theorem dX3_setGrudge_34 : decode cX3_setGrudge 34 = .ok (.iload_n 1, 1) := by decide +kernel
theorem dX3_setGrudge_35 : decode cX3_setGrudge 35 = .ok (.ishl, 1) := by decide +kernel
theorem dX3_setGrudge_36 : decode cX3_setGrudge 36 = .ok (.iconst (-1), 1) := by decide +kernel
theorem dX3_setGrudge_37 : decode cX3_setGrudge 37 = .ok (.ixor, 1) := by decide +kernel
theorem dX3_setGrudge_38 : decode cX3_setGrudge 38 = .ok (.iand, 1) := by decide +kernel
theorem dX3_setGrudge_39 : decode cX3_setGrudge 39 = .ok (.iload_n 3, 1) := by decide +kernel
theorem dX3_setGrudge_40 : decode cX3_setGrudge 40 = .ok (.iload_n 1, 1) := by decide +kernel
theorem dX3_setGrudge_41 : decode cX3_setGrudge 41 = .ok (.ishl, 1) := by decide +kernel
theorem dX3_setGrudge_42 : decode cX3_setGrudge 42 = .ok (.ior, 1) := by decide +kernel
theorem dX3_setGrudge_43 : decode cX3_setGrudge 43 = .ok (.iastore, 1) := by decide +kernel
theorem dX3_setGrudge_44 : decode cX3_setGrudge 44 = .ok (.return_, 1) := by decide +kernel
theorem dX3_allGrudges_0 : decode cX3_allGrudges 0 = .ok (.iconst 0, 1) := by decide +kernel
theorem dX3_allGrudges_1 : decode cX3_allGrudges 1 = .ok (.istore_n 1, 1) := by decide +kernel
theorem dX3_allGrudges_2 : decode cX3_allGrudges 2 = .ok (.iconst 0, 1) := by decide +kernel
theorem dX3_allGrudges_3 : decode cX3_allGrudges 3 = .ok (.istore_n 2, 1) := by decide +kernel
theorem dX3_allGrudges_4 : decode cX3_allGrudges 4 = .ok (.iload_n 2, 1) := by decide +kernel
theorem dX3_allGrudges_5 : decode cX3_allGrudges 5 = .ok (.aload_n 0, 1) := by decide +kernel
theorem dX3_allGrudges_6 : decode cX3_allGrudges 6 = .ok (.getfield 21, 3) := by decide +kernel
theorem dX3_allGrudges_9 : decode cX3_allGrudges 9 = .ok (.if_icmp .ge 21, 3) := by decide +kernel
theorem dX3_allGrudges_12 : decode cX3_allGrudges 12 = .ok (.iload_n 1, 1) := by decide +kernel
theorem dX3_allGrudges_13 : decode cX3_allGrudges 13 = .ok (.aload_n 0, 1) := by decide +kernel
theorem dX3_allGrudges_14 : decode cX3_allGrudges 14 = .ok (.getfield 40, 3) := by decide +kernel
theorem dX3_allGrudges_17 : decode cX3_allGrudges 17 = .ok (.iload_n 2, 1) := by decide +kernel
theorem dX3_allGrudges_18 : decode cX3_allGrudges 18 = .ok (.iaload, 1) := by decide +kernel
theorem dX3_allGrudges_19 : decode cX3_allGrudges 19 = .ok (.invokestatic 76, 3) := by decide +kernel
theorem dX3_allGrudges_22 : decode cX3_allGrudges 22 = .ok (.iadd, 1) := by decide +kernel
theorem dX3_allGrudges_23 : decode cX3_allGrudges 23 = .ok (.istore_n 1, 1) := by decide +kernel
theorem dX3_allGrudges_24 : decode cX3_allGrudges 24 = .ok (.iinc 2 1, 3) := by decide +kernel
theorem dX3_allGrudges_27 : decode cX3_allGrudges 27 = .ok (.goto (-23), 3) := by decide +kernel
theorem dX3_allGrudges_30 : decode cX3_allGrudges 30 = .ok (.iload_n 1, 1) := by decide +kernel
theorem dX3_allGrudges_31 : decode cX3_allGrudges 31 = .ok (.iconst 2, 1) := by decide +kernel
theorem dX3_allGrudges_32 : decode cX3_allGrudges 32 = .ok (.idiv, 1) := by decide +kernel
theorem dX3_allGrudges_33 : decode cX3_allGrudges 33 = .ok (.ireturn, 1) := by decide +kernel
theorem dX3_loadOf_0 : decode cX3_loadOf 0 = .ok (.iconst 0, 1) := by decide +kernel
theorem dX3_loadOf_1 : decode cX3_loadOf 1 = .ok (.istore_n 2, 1) := by decide +kernel
theorem dX3_loadOf_2 : decode cX3_loadOf 2 = .ok (.iconst 0, 1) := by decide +kernel
theorem dX3_loadOf_3 : decode cX3_loadOf 3 = .ok (.istore_n 3, 1) := by decide +kernel
theorem dX3_loadOf_4 : decode cX3_loadOf 4 = .ok (.iconst 0, 1) := by decide +kernel
theorem dX3_loadOf_5 : decode cX3_loadOf 5 = .ok (.istore 4, 2) := by decide +kernel
theorem dX3_loadOf_7 : decode cX3_loadOf 7 = .ok (.iload 4, 2) := by decide +kernel
theorem dX3_loadOf_9 : decode cX3_loadOf 9 = .ok (.aload_n 0, 1) := by decide +kernel
theorem dX3_loadOf_10 : decode cX3_loadOf 10 = .ok (.getfield 9, 3) := by decide +kernel
theorem dX3_loadOf_13 : decode cX3_loadOf 13 = .ok (.if_icmp .ge 38, 3) := by decide +kernel
theorem dX3_loadOf_16 : decode cX3_loadOf 16 = .ok (.iload 4, 2) := by decide +kernel
theorem dX3_loadOf_18 : decode cX3_loadOf 18 = .ok (.iload_n 1, 1) := by decide +kernel
theorem dX3_loadOf_19 : decode cX3_loadOf 19 = .ok (.if_icmp .ge 16, 3) := by decide +kernel
theorem dX3_loadOf_22 : decode cX3_loadOf 22 = .ok (.iload_n 2, 1) := by decide +kernel
theorem dX3_loadOf_23 : decode cX3_loadOf 23 = .ok (.aload_n 0, 1) := by decide +kernel
theorem dX3_loadOf_24 : decode cX3_loadOf 24 = .ok (.getfield 28, 3) := by decide +kernel
theorem dX3_loadOf_27 : decode cX3_loadOf 27 = .ok (.iload 4, 2) := by decide +kernel
theorem dX3_loadOf_29 : decode cX3_loadOf 29 = .ok (.iaload, 1) := by decide +kernel
theorem dX3_loadOf_30 : decode cX3_loadOf 30 = .ok (.iadd, 1) := by decide +kernel
theorem dX3_loadOf_31 : decode cX3_loadOf 31 = .ok (.istore_n 2, 1) := by decide +kernel
theorem dX3_loadOf_32 : decode cX3_loadOf 32 = .ok (.goto 13, 3) := by decide +kernel
theorem dX3_loadOf_35 : decode cX3_loadOf 35 = .ok (.iload_n 3, 1) := by decide +kernel
theorem dX3_loadOf_36 : decode cX3_loadOf 36 = .ok (.aload_n 0, 1) := by decide +kernel
theorem dX3_loadOf_37 : decode cX3_loadOf 37 = .ok (.getfield 28, 3) := by decide +kernel
theorem dX3_loadOf_40 : decode cX3_loadOf 40 = .ok (.iload 4, 2) := by decide +kernel
theorem dX3_loadOf_42 : decode cX3_loadOf 42 = .ok (.iaload, 1) := by decide +kernel
theorem dX3_loadOf_43 : decode cX3_loadOf 43 = .ok (.iadd, 1) := by decide +kernel
theorem dX3_loadOf_44 : decode cX3_loadOf 44 = .ok (.istore_n 3, 1) := by decide +kernel
theorem dX3_loadOf_45 : decode cX3_loadOf 45 = .ok (.iinc 4 1, 3) := by decide +kernel
theorem dX3_loadOf_48 : decode cX3_loadOf 48 = .ok (.goto (-41), 3) := by decide +kernel
theorem dX3_loadOf_51 : decode cX3_loadOf 51 = .ok (.iload_n 2, 1) := by decide +kernel
theorem dX3_loadOf_52 : decode cX3_loadOf 52 = .ok (.iload_n 3, 1) := by decide +kernel
theorem dX3_loadOf_53 : decode cX3_loadOf 53 = .ok (.invokestatic 81, 3) := by decide +kernel
theorem dX3_loadOf_56 : decode cX3_loadOf 56 = .ok (.ireturn, 1) := by decide +kernel
theorem dX3_whyNot_0 : decode cX3_whyNot 0 = .ok (.aload_n 0, 1) := by decide +kernel
theorem dX3_whyNot_1 : decode cX3_whyNot 1 = .ok (.getfield 36, 3) := by decide +kernel
theorem dX3_whyNot_4 : decode cX3_whyNot 4 = .ok (.iload_n 2, 1) := by decide +kernel
theorem dX3_whyNot_5 : decode cX3_whyNot 5 = .ok (.aaload, 1) := by decide +kernel
theorem dX3_whyNot_6 : decode cX3_whyNot 6 = .ok (.invokevirtual 87, 3) := by decide +kernel
theorem dX3_whyNot_9 : decode cX3_whyNot 9 = .ok (.aload_n 0, 1) := by decide +kernel
theorem dX3_whyNot_10 : decode cX3_whyNot 10 = .ok (.getfield 24, 3) := by decide +kernel
theorem dX3_whyNot_13 : decode cX3_whyNot 13 = .ok (.iload_n 1, 1) := by decide +kernel
theorem dX3_whyNot_14 : decode cX3_whyNot 14 = .ok (.iaload, 1) := by decide +kernel
theorem dX3_whyNot_15 : decode cX3_whyNot 15 = .ok (.if_icmp .ge 5, 3) := by decide +kernel
theorem dX3_whyNot_18 : decode cX3_whyNot 18 = .ok (.iconst 1, 1) := by decide +kernel
theorem dX3_whyNot_19 : decode cX3_whyNot 19 = .ok (.ireturn, 1) := by decide +kernel
theorem dX3_whyNot_20 : decode cX3_whyNot 20 = .ok (.aload_n 0, 1) := by decide +kernel
theorem dX3_whyNot_21 : decode cX3_whyNot 21 = .ok (.getfield 36, 3) := by decide +kernel
theorem dX3_whyNot_24 : decode cX3_whyNot 24 = .ok (.iload_n 2, 1) := by decide +kernel
theorem dX3_whyNot_25 : decode cX3_whyNot 25 = .ok (.aaload, 1) := by decide +kernel
theorem dX3_whyNot_26 : decode cX3_whyNot 26 = .ok (.invokevirtual 90, 3) := by decide +kernel
theorem dX3_whyNot_29 : decode cX3_whyNot 29 = .ok (.aload_n 0, 1) := by decide +kernel
theorem dX3_whyNot_30 : decode cX3_whyNot 30 = .ok (.iload_n 1, 1) := by decide +kernel
theorem dX3_whyNot_31 : decode cX3_whyNot 31 = .ok (.invokevirtual 93, 3) := by decide +kernel
theorem dX3_whyNot_34 : decode cX3_whyNot 34 = .ok (.aload_n 0, 1) := by decide +kernel
theorem dX3_whyNot_35 : decode cX3_whyNot 35 = .ok (.iload_n 1, 1) := by decide +kernel
theorem dX3_whyNot_36 : decode cX3_whyNot 36 = .ok (.iconst 1, 1) := by decide +kernel
theorem dX3_whyNot_37 : decode cX3_whyNot 37 = .ok (.iadd, 1) := by decide +kernel
theorem dX3_whyNot_38 : decode cX3_whyNot 38 = .ok (.invokevirtual 93, 3) := by decide +kernel
theorem dX3_whyNot_41 : decode cX3_whyNot 41 = .ok (.invokestatic 96, 3) := by decide +kernel
theorem dX3_whyNot_44 : decode cX3_whyNot 44 = .ok (.if_icmp .ge 5, 3) := by decide +kernel
theorem dX3_whyNot_47 : decode cX3_whyNot 47 = .ok (.iconst 2, 1) := by decide +kernel
theorem dX3_whyNot_48 : decode cX3_whyNot 48 = .ok (.ireturn, 1) := by decide +kernel
theorem dX3_whyNot_49 : decode cX3_whyNot 49 = .ok (.bipush (-9), 2) := by decide +kernel
theorem dX3_whyNot_51 : decode cX3_whyNot 51 = .ok (.ireturn, 1) := by decide +kernel
theorem dX3_whySlips_0 : decode cX3_whySlips 0 = .ok (.aload_n 1, 1) := by decide +kernel
theorem dX3_whySlips_1 : decode cX3_whySlips 1 = .ok (.iload_n 2, 1) := by decide +kernel
theorem dX3_whySlips_2 : decode cX3_whySlips 2 = .ok (.iaload, 1) := by decide +kernel
theorem dX3_whySlips_3 : decode cX3_whySlips 3 = .ok (.istore_n 3, 1) := by decide +kernel
theorem dX3_whySlips_4 : decode cX3_whySlips 4 = .ok (.aload_n 0, 1) := by decide +kernel
theorem dX3_whySlips_5 : decode cX3_whySlips 5 = .ok (.iload_n 3, 1) := by decide +kernel
theorem dX3_whySlips_6 : decode cX3_whySlips 6 = .ok (.invokevirtual 57, 3) := by decide +kernel
theorem dX3_whySlips_9 : decode cX3_whySlips 9 = .ok (.ifCond .ne 5, 3) := by decide +kernel
theorem dX3_whySlips_12 : decode cX3_whySlips 12 = .ok (.iconst 0, 1) := by decide +kernel
theorem dX3_whySlips_13 : decode cX3_whySlips 13 = .ok (.ireturn, 1) := by decide +kernel
theorem dX3_whySlips_14 : decode cX3_whySlips 14 = .ok (.aload_n 0, 1) := by decide +kernel
theorem dX3_whySlips_15 : decode cX3_whySlips 15 = .ok (.iload_n 2, 1) := by decide +kernel
theorem dX3_whySlips_16 : decode cX3_whySlips 16 = .ok (.iload_n 3, 1) := by decide +kernel
theorem dX3_whySlips_17 : decode cX3_whySlips 17 = .ok (.invokevirtual 99, 3) := by decide +kernel
theorem dX3_whySlips_20 : decode cX3_whySlips 20 = .ok (.istore 4, 2) := by decide +kernel
theorem dX3_whySlips_22 : decode cX3_whySlips 22 = .ok (.iload 4, 2) := by decide +kernel
theorem dX3_whySlips_24 : decode cX3_whySlips 24 = .ok (.bipush (-9), 2) := by decide +kernel
theorem dX3_whySlips_26 : decode cX3_whySlips 26 = .ok (.if_icmp .ne 7, 3) := by decide +kernel
theorem dX3_whySlips_29 : decode cX3_whySlips 29 = .ok (.iload_n 2, 1) := by decide +kernel
theorem dX3_whySlips_30 : decode cX3_whySlips 30 = .ok (.ifCond .ne 6, 3) := by decide +kernel
theorem dX3_whySlips_33 : decode cX3_whySlips 33 = .ok (.iload 4, 2) := by decide +kernel
theorem dX3_whySlips_35 : decode cX3_whySlips 35 = .ok (.ireturn, 1) := by decide +kernel
theorem dX3_whySlips_36 : decode cX3_whySlips 36 = .ok (.aload_n 1, 1) := by decide +kernel
theorem dX3_whySlips_37 : decode cX3_whySlips 37 = .ok (.iload_n 2, 1) := by decide +kernel
theorem dX3_whySlips_38 : decode cX3_whySlips 38 = .ok (.iconst 1, 1) := by decide +kernel
theorem dX3_whySlips_39 : decode cX3_whySlips 39 = .ok (.isub, 1) := by decide +kernel
theorem dX3_whySlips_40 : decode cX3_whySlips 40 = .ok (.iaload, 1) := by decide +kernel
theorem dX3_whySlips_41 : decode cX3_whySlips 41 = .ok (.istore 5, 2) := by decide +kernel
theorem dX3_whySlips_43 : decode cX3_whySlips 43 = .ok (.aload_n 0, 1) := by decide +kernel
theorem dX3_whySlips_44 : decode cX3_whySlips 44 = .ok (.iload 5, 2) := by decide +kernel
theorem dX3_whySlips_46 : decode cX3_whySlips 46 = .ok (.invokevirtual 57, 3) := by decide +kernel
theorem dX3_whySlips_49 : decode cX3_whySlips 49 = .ok (.ifCond .eq 18, 3) := by decide +kernel
theorem dX3_whySlips_52 : decode cX3_whySlips 52 = .ok (.aload_n 0, 1) := by decide +kernel
theorem dX3_whySlips_53 : decode cX3_whySlips 53 = .ok (.iload 5, 2) := by decide +kernel
theorem dX3_whySlips_55 : decode cX3_whySlips 55 = .ok (.iload_n 3, 1) := by decide +kernel
theorem dX3_whySlips_56 : decode cX3_whySlips 56 = .ok (.invokevirtual 102, 3) := by decide +kernel
theorem dX3_whySlips_59 : decode cX3_whySlips 59 = .ok (.iconst 1, 1) := by decide +kernel
theorem dX3_whySlips_60 : decode cX3_whySlips 60 = .ok (.if_icmp .ne 7, 3) := by decide +kernel
theorem dX3_whySlips_63 : decode cX3_whySlips 63 = .ok (.iconst 3, 1) := by decide +kernel
theorem dX3_whySlips_64 : decode cX3_whySlips 64 = .ok (.goto 5, 3) := by decide +kernel
theorem dX3_whySlips_67 : decode cX3_whySlips 67 = .ok (.bipush (-9), 2) := by decide +kernel
theorem dX3_whySlips_69 : decode cX3_whySlips 69 = .ok (.ireturn, 1) := by decide +kernel
theorem dX3_firstSlip_0 : decode cX3_firstSlip 0 = .ok (.iconst 0, 1) := by decide +kernel
theorem dX3_firstSlip_1 : decode cX3_firstSlip 1 = .ok (.istore_n 2, 1) := by decide +kernel
theorem dX3_firstSlip_2 : decode cX3_firstSlip 2 = .ok (.iload_n 2, 1) := by decide +kernel
theorem dX3_firstSlip_3 : decode cX3_firstSlip 3 = .ok (.aload_n 0, 1) := by decide +kernel
theorem dX3_firstSlip_4 : decode cX3_firstSlip 4 = .ok (.getfield 9, 3) := by decide +kernel
theorem dX3_firstSlip_7 : decode cX3_firstSlip 7 = .ok (.if_icmp .ge 22, 3) := by decide +kernel
theorem dX3_firstSlip_10 : decode cX3_firstSlip 10 = .ok (.aload_n 0, 1) := by decide +kernel
theorem dX3_firstSlip_11 : decode cX3_firstSlip 11 = .ok (.aload_n 1, 1) := by decide +kernel
theorem dX3_firstSlip_12 : decode cX3_firstSlip 12 = .ok (.iload_n 2, 1) := by decide +kernel
theorem dX3_firstSlip_13 : decode cX3_firstSlip 13 = .ok (.invokevirtual 105, 3) := by decide +kernel
theorem dX3_firstSlip_16 : decode cX3_firstSlip 16 = .ok (.bipush (-9), 2) := by decide +kernel
theorem dX3_firstSlip_18 : decode cX3_firstSlip 18 = .ok (.if_icmp .eq 5, 3) := by decide +kernel
theorem dX3_firstSlip_21 : decode cX3_firstSlip 21 = .ok (.iload_n 2, 1) := by decide +kernel
theorem dX3_firstSlip_22 : decode cX3_firstSlip 22 = .ok (.ireturn, 1) := by decide +kernel
theorem dX3_firstSlip_23 : decode cX3_firstSlip 23 = .ok (.iinc 2 1, 3) := by decide +kernel
theorem dX3_firstSlip_26 : decode cX3_firstSlip 26 = .ok (.goto (-24), 3) := by decide +kernel
theorem dX3_firstSlip_29 : decode cX3_firstSlip 29 = .ok (.bipush (-9), 2) := by decide +kernel
theorem dX3_firstSlip_31 : decode cX3_firstSlip 31 = .ok (.ireturn, 1) := by decide +kernel
theorem dX3_minutesOf_0 : decode cX3_minutesOf 0 = .ok (.aload_n 0, 1) := by decide +kernel
theorem dX3_minutesOf_1 : decode cX3_minutesOf 1 = .ok (.aload_n 1, 1) := by decide +kernel
theorem dX3_minutesOf_2 : decode cX3_minutesOf 2 = .ok (.invokevirtual 109, 3) := by decide +kernel
theorem dX3_minutesOf_5 : decode cX3_minutesOf 5 = .ok (.bipush (-9), 2) := by decide +kernel
theorem dX3_minutesOf_7 : decode cX3_minutesOf 7 = .ok (.if_icmp .eq 6, 3) := by decide +kernel
theorem dX3_minutesOf_10 : decode cX3_minutesOf 10 = .ok (.bipush (-9), 2) := by decide +kernel
theorem dX3_minutesOf_12 : decode cX3_minutesOf 12 = .ok (.ireturn, 1) := by decide +kernel
theorem dX3_minutesOf_13 : decode cX3_minutesOf 13 = .ok (.ldc 113, 2) := by decide +kernel
theorem dX3_minutesOf_15 : decode cX3_minutesOf 15 = .ok (.istore_n 2, 1) := by decide +kernel
theorem dX3_minutesOf_16 : decode cX3_minutesOf 16 = .ok (.iconst 0, 1) := by decide +kernel
theorem dX3_minutesOf_17 : decode cX3_minutesOf 17 = .ok (.istore_n 3, 1) := by decide +kernel
theorem dX3_minutesOf_18 : decode cX3_minutesOf 18 = .ok (.iload_n 3, 1) := by decide +kernel
theorem dX3_minutesOf_19 : decode cX3_minutesOf 19 = .ok (.aload_n 0, 1) := by decide +kernel
theorem dX3_minutesOf_20 : decode cX3_minutesOf 20 = .ok (.getfield 9, 3) := by decide +kernel
theorem dX3_minutesOf_23 : decode cX3_minutesOf 23 = .ok (.if_icmp .ge 29, 3) := by decide +kernel
theorem dX3_minutesOf_26 : decode cX3_minutesOf 26 = .ok (.iload_n 2, 1) := by decide +kernel
theorem dX3_minutesOf_27 : decode cX3_minutesOf 27 = .ok (.aload_n 0, 1) := by decide +kernel
theorem dX3_minutesOf_28 : decode cX3_minutesOf 28 = .ok (.getfield 36, 3) := by decide +kernel
theorem dX3_minutesOf_31 : decode cX3_minutesOf 31 = .ok (.aload_n 1, 1) := by decide +kernel
theorem dX3_minutesOf_32 : decode cX3_minutesOf 32 = .ok (.iload_n 3, 1) := by decide +kernel
theorem dX3_minutesOf_33 : decode cX3_minutesOf 33 = .ok (.iaload, 1) := by decide +kernel
theorem dX3_minutesOf_34 : decode cX3_minutesOf 34 = .ok (.aaload, 1) := by decide +kernel
theorem dX3_minutesOf_35 : decode cX3_minutesOf 35 = .ok (.aload_n 0, 1) := by decide +kernel
theorem dX3_minutesOf_36 : decode cX3_minutesOf 36 = .ok (.getfield 15, 3) := by decide +kernel
theorem dX3_minutesOf_39 : decode cX3_minutesOf 39 = .ok (.invokevirtual 114, 3) := by decide +kernel
theorem dX3_minutesOf_42 : decode cX3_minutesOf 42 = .ok (.invokestatic 81, 3) := by decide +kernel
theorem dX3_minutesOf_45 : decode cX3_minutesOf 45 = .ok (.istore_n 2, 1) := by decide +kernel
theorem dX3_minutesOf_46 : decode cX3_minutesOf 46 = .ok (.iinc 3 1, 3) := by decide +kernel
theorem dX3_minutesOf_49 : decode cX3_minutesOf 49 = .ok (.goto (-31), 3) := by decide +kernel
theorem dX3_minutesOf_52 : decode cX3_minutesOf 52 = .ok (.iload_n 2, 1) := by decide +kernel
theorem dX3_minutesOf_53 : decode cX3_minutesOf 53 = .ok (.ireturn, 1) := by decide +kernel
theorem dX3_bringOver_0 : decode cX3_bringOver 0 = .ok (.iconst 0, 1) := by decide +kernel
theorem dX3_bringOver_1 : decode cX3_bringOver 1 = .ok (.istore_n 2, 1) := by decide +kernel
theorem dX3_bringOver_2 : decode cX3_bringOver 2 = .ok (.iload_n 2, 1) := by decide +kernel
theorem dX3_bringOver_3 : decode cX3_bringOver 3 = .ok (.aload_n 0, 1) := by decide +kernel
theorem dX3_bringOver_4 : decode cX3_bringOver 4 = .ok (.getfield 9, 3) := by decide +kernel
theorem dX3_bringOver_7 : decode cX3_bringOver 7 = .ok (.if_icmp .ge 74, 3) := by decide +kernel
theorem dX3_bringOver_10 : decode cX3_bringOver 10 = .ok (.aload_n 0, 1) := by decide +kernel
theorem dX3_bringOver_11 : decode cX3_bringOver 11 = .ok (.getfield 31, 3) := by decide +kernel
theorem dX3_bringOver_14 : decode cX3_bringOver 14 = .ok (.iload_n 2, 1) := by decide +kernel
theorem dX3_bringOver_15 : decode cX3_bringOver 15 = .ok (.iaload, 1) := by decide +kernel
theorem dX3_bringOver_16 : decode cX3_bringOver 16 = .ok (.istore_n 3, 1) := by decide +kernel
theorem dX3_bringOver_17 : decode cX3_bringOver 17 = .ok (.aload_n 0, 1) := by decide +kernel
theorem dX3_bringOver_18 : decode cX3_bringOver 18 = .ok (.iload_n 3, 1) := by decide +kernel
theorem dX3_bringOver_19 : decode cX3_bringOver 19 = .ok (.invokevirtual 57, 3) := by decide +kernel
theorem dX3_bringOver_22 : decode cX3_bringOver 22 = .ok (.ifCond .eq 53, 3) := by decide +kernel
theorem dX3_bringOver_25 : decode cX3_bringOver 25 = .ok (.aload_n 0, 1) := by decide +kernel
theorem dX3_bringOver_26 : decode cX3_bringOver 26 = .ok (.getfield 36, 3) := by decide +kernel
theorem dX3_bringOver_29 : decode cX3_bringOver 29 = .ok (.iload_n 3, 1) := by decide +kernel
theorem dX3_bringOver_30 : decode cX3_bringOver 30 = .ok (.aaload, 1) := by decide +kernel
theorem dX3_bringOver_31 : decode cX3_bringOver 31 = .ok (.dup, 1) := by decide +kernel
theorem dX3_bringOver_32 : decode cX3_bringOver 32 = .ok (.getfield 117, 3) := by decide +kernel
theorem dX3_bringOver_35 : decode cX3_bringOver 35 = .ok (.aload_n 0, 1) := by decide +kernel
theorem dX3_bringOver_36 : decode cX3_bringOver 36 = .ok (.getfield 36, 3) := by decide +kernel
theorem dX3_bringOver_39 : decode cX3_bringOver 39 = .ok (.iload_n 3, 1) := by decide +kernel
theorem dX3_bringOver_40 : decode cX3_bringOver 40 = .ok (.aaload, 1) := by decide +kernel
theorem dX3_bringOver_41 : decode cX3_bringOver 41 = .ok (.aload_n 0, 1) := by decide +kernel
theorem dX3_bringOver_42 : decode cX3_bringOver 42 = .ok (.getfield 15, 3) := by decide +kernel
theorem dX3_bringOver_45 : decode cX3_bringOver 45 = .ok (.invokevirtual 120, 3) := by decide +kernel
theorem dX3_bringOver_48 : decode cX3_bringOver 48 = .ok (.isub, 1) := by decide +kernel
theorem dX3_bringOver_49 : decode cX3_bringOver 49 = .ok (.putfield 117, 3) := by decide +kernel
theorem dX3_bringOver_52 : decode cX3_bringOver 52 = .ok (.aload_n 0, 1) := by decide +kernel
theorem dX3_bringOver_53 : decode cX3_bringOver 53 = .ok (.iload_n 1, 1) := by decide +kernel
theorem dX3_bringOver_54 : decode cX3_bringOver 54 = .ok (.iload_n 3, 1) := by decide +kernel
theorem dX3_bringOver_55 : decode cX3_bringOver 55 = .ok (.invokevirtual 123, 3) := by decide +kernel
theorem dX3_bringOver_58 : decode cX3_bringOver 58 = .ok (.iconst 1, 1) := by decide +kernel
theorem dX3_bringOver_59 : decode cX3_bringOver 59 = .ok (.iadd, 1) := by decide +kernel
theorem dX3_bringOver_60 : decode cX3_bringOver 60 = .ok (.istore 4, 2) := by decide +kernel
theorem dX3_bringOver_62 : decode cX3_bringOver 62 = .ok (.aload_n 0, 1) := by decide +kernel
theorem dX3_bringOver_63 : decode cX3_bringOver 63 = .ok (.iload_n 1, 1) := by decide +kernel
theorem dX3_bringOver_64 : decode cX3_bringOver 64 = .ok (.iload_n 3, 1) := by decide +kernel
theorem dX3_bringOver_65 : decode cX3_bringOver 65 = .ok (.bipush 99, 2) := by decide +kernel
theorem dX3_bringOver_67 : decode cX3_bringOver 67 = .ok (.iload 4, 2) := by decide +kernel
theorem dX3_bringOver_69 : decode cX3_bringOver 69 = .ok (.invokestatic 81, 3) := by decide +kernel
theorem dX3_bringOver_72 : decode cX3_bringOver 72 = .ok (.invokevirtual 126, 3) := by decide +kernel
theorem dX3_bringOver_75 : decode cX3_bringOver 75 = .ok (.iinc 2 1, 3) := by decide +kernel
theorem dX3_bringOver_78 : decode cX3_bringOver 78 = .ok (.goto (-76), 3) := by decide +kernel
theorem dX3_bringOver_81 : decode cX3_bringOver 81 = .ok (.aload_n 0, 1) := by decide +kernel
theorem dX3_bringOver_82 : decode cX3_bringOver 82 = .ok (.getfield 36, 3) := by decide +kernel
theorem dX3_bringOver_85 : decode cX3_bringOver 85 = .ok (.iload_n 1, 1) := by decide +kernel
theorem dX3_bringOver_86 : decode cX3_bringOver 86 = .ok (.aaload, 1) := by decide +kernel
theorem dX3_bringOver_87 : decode cX3_bringOver 87 = .ok (.iconst 1, 1) := by decide +kernel
theorem dX3_bringOver_88 : decode cX3_bringOver 88 = .ok (.putfield 61, 3) := by decide +kernel
theorem dX3_bringOver_91 : decode cX3_bringOver 91 = .ok (.aload_n 0, 1) := by decide +kernel
theorem dX3_bringOver_92 : decode cX3_bringOver 92 = .ok (.dup, 1) := by decide +kernel
theorem dX3_bringOver_93 : decode cX3_bringOver 93 = .ok (.getfield 18, 3) := by decide +kernel
theorem dX3_bringOver_96 : decode cX3_bringOver 96 = .ok (.iconst 1, 1) := by decide +kernel
theorem dX3_bringOver_97 : decode cX3_bringOver 97 = .ok (.iadd, 1) := by decide +kernel
theorem dX3_bringOver_98 : decode cX3_bringOver 98 = .ok (.putfield 18, 3) := by decide +kernel
theorem dX3_bringOver_101 : decode cX3_bringOver 101 = .ok (.return_, 1) := by decide +kernel
theorem dX3_firstAmiss_0 : decode cX3_firstAmiss 0 = .ok (.iload_n 2, 1) := by decide +kernel
theorem dX3_firstAmiss_1 : decode cX3_firstAmiss 1 = .ok (.aload_n 0, 1) := by decide +kernel
theorem dX3_firstAmiss_2 : decode cX3_firstAmiss 2 = .ok (.getfield 9, 3) := by decide +kernel
theorem dX3_firstAmiss_5 : decode cX3_firstAmiss 5 = .ok (.invokestatic 81, 3) := by decide +kernel
theorem dX3_firstAmiss_8 : decode cX3_firstAmiss 8 = .ok (.istore_n 3, 1) := by decide +kernel
theorem dX3_firstAmiss_9 : decode cX3_firstAmiss 9 = .ok (.iconst 0, 1) := by decide +kernel
theorem dX3_firstAmiss_10 : decode cX3_firstAmiss 10 = .ok (.istore 4, 2) := by decide +kernel
theorem dX3_firstAmiss_12 : decode cX3_firstAmiss 12 = .ok (.iload 4, 2) := by decide +kernel
theorem dX3_firstAmiss_14 : decode cX3_firstAmiss 14 = .ok (.iload_n 3, 1) := by decide +kernel
theorem dX3_firstAmiss_15 : decode cX3_firstAmiss 15 = .ok (.if_icmp .ge 34, 3) := by decide +kernel
theorem dX3_firstAmiss_18 : decode cX3_firstAmiss 18 = .ok (.aload_n 0, 1) := by decide +kernel
theorem dX3_firstAmiss_19 : decode cX3_firstAmiss 19 = .ok (.aload_n 1, 1) := by decide +kernel
theorem dX3_firstAmiss_20 : decode cX3_firstAmiss 20 = .ok (.iload 4, 2) := by decide +kernel
theorem dX3_firstAmiss_22 : decode cX3_firstAmiss 22 = .ok (.invokevirtual 130, 3) := by decide +kernel
theorem dX3_firstAmiss_25 : decode cX3_firstAmiss 25 = .ok (.ifCond .eq 15, 3) := by decide +kernel
theorem dX3_firstAmiss_28 : decode cX3_firstAmiss 28 = .ok (.aload_n 0, 1) := by decide +kernel
theorem dX3_firstAmiss_29 : decode cX3_firstAmiss 29 = .ok (.aload_n 1, 1) := by decide +kernel
theorem dX3_firstAmiss_30 : decode cX3_firstAmiss 30 = .ok (.iload 4, 2) := by decide +kernel
theorem dX3_firstAmiss_32 : decode cX3_firstAmiss 32 = .ok (.invokevirtual 105, 3) := by decide +kernel
theorem dX3_firstAmiss_35 : decode cX3_firstAmiss 35 = .ok (.bipush (-9), 2) := by decide +kernel
theorem dX3_firstAmiss_37 : decode cX3_firstAmiss 37 = .ok (.if_icmp .eq 6, 3) := by decide +kernel
theorem dX3_firstAmiss_40 : decode cX3_firstAmiss 40 = .ok (.iload 4, 2) := by decide +kernel
theorem dX3_firstAmiss_42 : decode cX3_firstAmiss 42 = .ok (.ireturn, 1) := by decide +kernel
theorem dX3_firstAmiss_43 : decode cX3_firstAmiss 43 = .ok (.iinc 4 1, 3) := by decide +kernel
theorem dX3_firstAmiss_46 : decode cX3_firstAmiss 46 = .ok (.goto (-34), 3) := by decide +kernel
theorem dX3_firstAmiss_49 : decode cX3_firstAmiss 49 = .ok (.iload_n 2, 1) := by decide +kernel
theorem dX3_firstAmiss_50 : decode cX3_firstAmiss 50 = .ok (.aload_n 0, 1) := by decide +kernel
theorem dX3_firstAmiss_51 : decode cX3_firstAmiss 51 = .ok (.getfield 9, 3) := by decide +kernel
theorem dX3_firstAmiss_54 : decode cX3_firstAmiss 54 = .ok (.if_icmp .ne 8, 3) := by decide +kernel
theorem dX3_firstAmiss_57 : decode cX3_firstAmiss 57 = .ok (.bipush (-9), 2) := by decide +kernel
theorem dX3_firstAmiss_59 : decode cX3_firstAmiss 59 = .ok (.goto 4, 3) := by decide +kernel
theorem dX3_firstAmiss_62 : decode cX3_firstAmiss 62 = .ok (.iload_n 3, 1) := by decide +kernel
theorem dX3_firstAmiss_63 : decode cX3_firstAmiss 63 = .ok (.ireturn, 1) := by decide +kernel
theorem dX3_canCome_0 : decode cX3_canCome 0 = .ok (.aload_n 1, 1) := by decide +kernel
theorem dX3_canCome_1 : decode cX3_canCome 1 = .ok (.iload_n 2, 1) := by decide +kernel
theorem dX3_canCome_2 : decode cX3_canCome 2 = .ok (.iaload, 1) := by decide +kernel
theorem dX3_canCome_3 : decode cX3_canCome 3 = .ok (.istore_n 3, 1) := by decide +kernel
theorem dX3_canCome_4 : decode cX3_canCome 4 = .ok (.aload_n 0, 1) := by decide +kernel
theorem dX3_canCome_5 : decode cX3_canCome 5 = .ok (.iload_n 3, 1) := by decide +kernel
theorem dX3_canCome_6 : decode cX3_canCome 6 = .ok (.invokevirtual 57, 3) := by decide +kernel
theorem dX3_canCome_9 : decode cX3_canCome 9 = .ok (.ifCond .eq 15, 3) := by decide +kernel
theorem dX3_canCome_12 : decode cX3_canCome 12 = .ok (.aload_n 0, 1) := by decide +kernel
theorem dX3_canCome_13 : decode cX3_canCome 13 = .ok (.getfield 36, 3) := by decide +kernel
theorem dX3_canCome_16 : decode cX3_canCome 16 = .ok (.iload_n 3, 1) := by decide +kernel
theorem dX3_canCome_17 : decode cX3_canCome 17 = .ok (.aaload, 1) := by decide +kernel
theorem dX3_canCome_18 : decode cX3_canCome 18 = .ok (.getfield 61, 3) := by decide +kernel
theorem dX3_canCome_21 : decode cX3_canCome 21 = .ok (.ifCond .eq 5, 3) := by decide +kernel
theorem dX3_canCome_24 : decode cX3_canCome 24 = .ok (.iconst 0, 1) := by decide +kernel
theorem dX3_canCome_25 : decode cX3_canCome 25 = .ok (.ireturn, 1) := by decide +kernel
theorem dX3_canCome_26 : decode cX3_canCome 26 = .ok (.iconst 0, 1) := by decide +kernel
theorem dX3_canCome_27 : decode cX3_canCome 27 = .ok (.istore 4, 2) := by decide +kernel
theorem dX3_canCome_29 : decode cX3_canCome 29 = .ok (.iload 4, 2) := by decide +kernel
theorem dX3_canCome_31 : decode cX3_canCome 31 = .ok (.iload_n 2, 1) := by decide +kernel
theorem dX3_canCome_32 : decode cX3_canCome 32 = .ok (.if_icmp .ge 19, 3) := by decide +kernel
theorem dX3_canCome_35 : decode cX3_canCome 35 = .ok (.aload_n 1, 1) := by decide +kernel
theorem dX3_canCome_36 : decode cX3_canCome 36 = .ok (.iload 4, 2) := by decide +kernel
theorem dX3_canCome_38 : decode cX3_canCome 38 = .ok (.iaload, 1) := by decide +kernel
theorem dX3_canCome_39 : decode cX3_canCome 39 = .ok (.iload_n 3, 1) := by decide +kernel
theorem dX3_canCome_40 : decode cX3_canCome 40 = .ok (.if_icmp .ne 5, 3) := by decide +kernel
theorem dX3_canCome_43 : decode cX3_canCome 43 = .ok (.iconst 0, 1) := by decide +kernel
theorem dX3_canCome_44 : decode cX3_canCome 44 = .ok (.ireturn, 1) := by decide +kernel
theorem dX3_canCome_45 : decode cX3_canCome 45 = .ok (.iinc 4 1, 3) := by decide +kernel
theorem dX3_canCome_48 : decode cX3_canCome 48 = .ok (.goto (-19), 3) := by decide +kernel
theorem dX3_canCome_51 : decode cX3_canCome 51 = .ok (.iconst 1, 1) := by decide +kernel
theorem dX3_canCome_52 : decode cX3_canCome 52 = .ok (.ireturn, 1) := by decide +kernel
theorem dX3_hoursOf_0 : decode cX3_hoursOf 0 = .ok (.aload_n 0, 1) := by decide +kernel
theorem dX3_hoursOf_1 : decode cX3_hoursOf 1 = .ok (.getfield 43, 3) := by decide +kernel
theorem dX3_hoursOf_4 : decode cX3_hoursOf 4 = .ok (.iload_n 1, 1) := by decide +kernel
theorem dX3_hoursOf_5 : decode cX3_hoursOf 5 = .ok (.bipush 7, 2) := by decide +kernel
theorem dX3_hoursOf_7 : decode cX3_hoursOf 7 = .ok (.imul, 1) := by decide +kernel
theorem dX3_hoursOf_8 : decode cX3_hoursOf 8 = .ok (.iload_n 2, 1) := by decide +kernel
theorem dX3_hoursOf_9 : decode cX3_hoursOf 9 = .ok (.iadd, 1) := by decide +kernel
theorem dX3_hoursOf_10 : decode cX3_hoursOf 10 = .ok (.iaload, 1) := by decide +kernel
theorem dX3_hoursOf_11 : decode cX3_hoursOf 11 = .ok (.ireturn, 1) := by decide +kernel
theorem dX3_setHours_0 : decode cX3_setHours 0 = .ok (.aload_n 0, 1) := by decide +kernel
theorem dX3_setHours_1 : decode cX3_setHours 1 = .ok (.getfield 43, 3) := by decide +kernel
theorem dX3_setHours_4 : decode cX3_setHours 4 = .ok (.iload_n 1, 1) := by decide +kernel
theorem dX3_setHours_5 : decode cX3_setHours 5 = .ok (.bipush 7, 2) := by decide +kernel
theorem dX3_setHours_7 : decode cX3_setHours 7 = .ok (.imul, 1) := by decide +kernel
theorem dX3_setHours_8 : decode cX3_setHours 8 = .ok (.iload_n 2, 1) := by decide +kernel
theorem dX3_setHours_9 : decode cX3_setHours 9 = .ok (.iadd, 1) := by decide +kernel
theorem dX3_setHours_10 : decode cX3_setHours 10 = .ok (.iload_n 3, 1) := by decide +kernel
theorem dX3_setHours_11 : decode cX3_setHours 11 = .ok (.iastore, 1) := by decide +kernel
theorem dX3_setHours_12 : decode cX3_setHours 12 = .ok (.return_, 1) := by decide +kernel
theorem dX3_lessenHours_0 : decode cX3_lessenHours 0 = .ok (.aload_n 0, 1) := by decide +kernel
theorem dX3_lessenHours_1 : decode cX3_lessenHours 1 = .ok (.iload_n 1, 1) := by decide +kernel
theorem dX3_lessenHours_2 : decode cX3_lessenHours 2 = .ok (.iload_n 2, 1) := by decide +kernel
theorem dX3_lessenHours_3 : decode cX3_lessenHours 3 = .ok (.aload_n 0, 1) := by decide +kernel
theorem dX3_lessenHours_4 : decode cX3_lessenHours 4 = .ok (.iload_n 1, 1) := by decide +kernel
theorem dX3_lessenHours_5 : decode cX3_lessenHours 5 = .ok (.iload_n 2, 1) := by decide +kernel
theorem dX3_lessenHours_6 : decode cX3_lessenHours 6 = .ok (.invokevirtual 123, 3) := by decide +kernel
theorem dX3_lessenHours_9 : decode cX3_lessenHours 9 = .ok (.iload_n 3, 1) := by decide +kernel
theorem dX3_lessenHours_10 : decode cX3_lessenHours 10 = .ok (.isub, 1) := by decide +kernel
theorem dX3_lessenHours_11 : decode cX3_lessenHours 11 = .ok (.invokevirtual 126, 3) := by decide +kernel
theorem dX3_lessenHours_14 : decode cX3_lessenHours 14 = .ok (.return_, 1) := by decide +kernel
theorem dX3_allHours_0 : decode cX3_allHours 0 = .ok (.iconst 0, 1) := by decide +kernel
theorem dX3_allHours_1 : decode cX3_allHours 1 = .ok (.istore_n 1, 1) := by decide +kernel
theorem dX3_allHours_2 : decode cX3_allHours 2 = .ok (.iconst 0, 1) := by decide +kernel
theorem dX3_allHours_3 : decode cX3_allHours 3 = .ok (.istore_n 2, 1) := by decide +kernel
theorem dX3_allHours_4 : decode cX3_allHours 4 = .ok (.iload_n 2, 1) := by decide +kernel
theorem dX3_allHours_5 : decode cX3_allHours 5 = .ok (.bipush 49, 2) := by decide +kernel
theorem dX3_allHours_7 : decode cX3_allHours 7 = .ok (.if_icmp .ge 18, 3) := by decide +kernel
theorem dX3_allHours_10 : decode cX3_allHours 10 = .ok (.iload_n 1, 1) := by decide +kernel
theorem dX3_allHours_11 : decode cX3_allHours 11 = .ok (.aload_n 0, 1) := by decide +kernel
theorem dX3_allHours_12 : decode cX3_allHours 12 = .ok (.getfield 43, 3) := by decide +kernel
theorem dX3_allHours_15 : decode cX3_allHours 15 = .ok (.iload_n 2, 1) := by decide +kernel
theorem dX3_allHours_16 : decode cX3_allHours 16 = .ok (.iaload, 1) := by decide +kernel
theorem dX3_allHours_17 : decode cX3_allHours 17 = .ok (.iadd, 1) := by decide +kernel
theorem dX3_allHours_18 : decode cX3_allHours 18 = .ok (.istore_n 1, 1) := by decide +kernel
theorem dX3_allHours_19 : decode cX3_allHours 19 = .ok (.iinc 2 1, 3) := by decide +kernel
theorem dX3_allHours_22 : decode cX3_allHours 22 = .ok (.goto (-18), 3) := by decide +kernel
theorem dX3_allHours_25 : decode cX3_allHours 25 = .ok (.iload_n 1, 1) := by decide +kernel
theorem dX3_allHours_26 : decode cX3_allHours 26 = .ok (.ireturn, 1) := by decide +kernel
theorem dX3_strikeTwos_0 : decode cX3_strikeTwos 0 = .ok (.iconst 0, 1) := by decide +kernel
theorem dX3_strikeTwos_1 : decode cX3_strikeTwos 1 = .ok (.istore_n 1, 1) := by decide +kernel
theorem dX3_strikeTwos_2 : decode cX3_strikeTwos 2 = .ok (.iconst 0, 1) := by decide +kernel
theorem dX3_strikeTwos_3 : decode cX3_strikeTwos 3 = .ok (.istore_n 2, 1) := by decide +kernel
theorem dX3_strikeTwos_4 : decode cX3_strikeTwos 4 = .ok (.iload_n 2, 1) := by decide +kernel
end
section
theorem dX3_strikeTwos_5 : decode cX3_strikeTwos 5 = .ok (.aload_n 0, 1) := by decide +kernel
theorem dX3_strikeTwos_6 : decode cX3_strikeTwos 6 = .ok (.getfield 21, 3) := by decide +kernel
theorem dX3_strikeTwos_9 : decode cX3_strikeTwos 9 = .ok (.if_icmp .ge 68, 3) := by decide +kernel
theorem dX3_strikeTwos_12 : decode cX3_strikeTwos 12 = .ok (.iload_n 2, 1) := by decide +kernel
theorem dX3_strikeTwos_13 : decode cX3_strikeTwos 13 = .ok (.iconst 1, 1) := by decide +kernel
theorem dX3_strikeTwos_14 : decode cX3_strikeTwos 14 = .ok (.iadd, 1) := by decide +kernel
theorem dX3_strikeTwos_15 : decode cX3_strikeTwos 15 = .ok (.istore_n 3, 1) := by decide +kernel
theorem dX3_strikeTwos_16 : decode cX3_strikeTwos 16 = .ok (.iload_n 3, 1) := by decide +kernel
theorem dX3_strikeTwos_17 : decode cX3_strikeTwos 17 = .ok (.aload_n 0, 1) := by decide +kernel
theorem dX3_strikeTwos_18 : decode cX3_strikeTwos 18 = .ok (.getfield 21, 3) := by decide +kernel
theorem dX3_strikeTwos_21 : decode cX3_strikeTwos 21 = .ok (.if_icmp .ge 50, 3) := by decide +kernel
theorem dX3_strikeTwos_24 : decode cX3_strikeTwos 24 = .ok (.aload_n 0, 1) := by decide +kernel
theorem dX3_strikeTwos_25 : decode cX3_strikeTwos 25 = .ok (.iload_n 2, 1) := by decide +kernel
theorem dX3_strikeTwos_26 : decode cX3_strikeTwos 26 = .ok (.iload_n 3, 1) := by decide +kernel
theorem dX3_strikeTwos_27 : decode cX3_strikeTwos 27 = .ok (.invokevirtual 123, 3) := by decide +kernel
theorem dX3_strikeTwos_30 : decode cX3_strikeTwos 30 = .ok (.aload_n 0, 1) := by decide +kernel
theorem dX3_strikeTwos_31 : decode cX3_strikeTwos 31 = .ok (.iload_n 3, 1) := by decide +kernel
theorem dX3_strikeTwos_32 : decode cX3_strikeTwos 32 = .ok (.iload_n 2, 1) := by decide +kernel
theorem dX3_strikeTwos_33 : decode cX3_strikeTwos 33 = .ok (.invokevirtual 123, 3) := by decide +kernel
theorem dX3_strikeTwos_36 : decode cX3_strikeTwos 36 = .ok (.invokestatic 81, 3) := by decide +kernel
theorem dX3_strikeTwos_39 : decode cX3_strikeTwos 39 = .ok (.istore 4, 2) := by decide +kernel
theorem dX3_strikeTwos_41 : decode cX3_strikeTwos 41 = .ok (.iload 4, 2) := by decide +kernel
theorem dX3_strikeTwos_43 : decode cX3_strikeTwos 43 = .ok (.ifCond .le 22, 3) := by decide +kernel
theorem dX3_strikeTwos_46 : decode cX3_strikeTwos 46 = .ok (.aload_n 0, 1) := by decide +kernel
theorem dX3_strikeTwos_47 : decode cX3_strikeTwos 47 = .ok (.iload_n 2, 1) := by decide +kernel
theorem dX3_strikeTwos_48 : decode cX3_strikeTwos 48 = .ok (.iload_n 3, 1) := by decide +kernel
theorem dX3_strikeTwos_49 : decode cX3_strikeTwos 49 = .ok (.iload 4, 2) := by decide +kernel
theorem dX3_strikeTwos_51 : decode cX3_strikeTwos 51 = .ok (.invokevirtual 134, 3) := by decide +kernel
theorem dX3_strikeTwos_54 : decode cX3_strikeTwos 54 = .ok (.aload_n 0, 1) := by decide +kernel
theorem dX3_strikeTwos_55 : decode cX3_strikeTwos 55 = .ok (.iload_n 3, 1) := by decide +kernel
theorem dX3_strikeTwos_56 : decode cX3_strikeTwos 56 = .ok (.iload_n 2, 1) := by decide +kernel
theorem dX3_strikeTwos_57 : decode cX3_strikeTwos 57 = .ok (.iload 4, 2) := by decide +kernel
theorem dX3_strikeTwos_59 : decode cX3_strikeTwos 59 = .ok (.invokevirtual 134, 3) := by decide +kernel
theorem dX3_strikeTwos_62 : decode cX3_strikeTwos 62 = .ok (.iinc 1 1, 3) := by decide +kernel
theorem dX3_strikeTwos_65 : decode cX3_strikeTwos 65 = .ok (.iinc 3 1, 3) := by decide +kernel
theorem dX3_strikeTwos_68 : decode cX3_strikeTwos 68 = .ok (.goto (-52), 3) := by decide +kernel
theorem dX3_strikeTwos_71 : decode cX3_strikeTwos 71 = .ok (.iinc 2 1, 3) := by decide +kernel
theorem dX3_strikeTwos_74 : decode cX3_strikeTwos 74 = .ok (.goto (-70), 3) := by decide +kernel
theorem dX3_strikeTwos_77 : decode cX3_strikeTwos 77 = .ok (.iload_n 1, 1) := by decide +kernel
theorem dX3_strikeTwos_78 : decode cX3_strikeTwos 78 = .ok (.ireturn, 1) := by decide +kernel
theorem dX3_strikeThrees_0 : decode cX3_strikeThrees 0 = .ok (.iconst 0, 1) := by decide +kernel
theorem dX3_strikeThrees_1 : decode cX3_strikeThrees 1 = .ok (.istore_n 1, 1) := by decide +kernel
theorem dX3_strikeThrees_2 : decode cX3_strikeThrees 2 = .ok (.iconst 0, 1) := by decide +kernel
theorem dX3_strikeThrees_3 : decode cX3_strikeThrees 3 = .ok (.istore_n 2, 1) := by decide +kernel
theorem dX3_strikeThrees_4 : decode cX3_strikeThrees 4 = .ok (.iload_n 2, 1) := by decide +kernel
theorem dX3_strikeThrees_5 : decode cX3_strikeThrees 5 = .ok (.aload_n 0, 1) := by decide +kernel
theorem dX3_strikeThrees_6 : decode cX3_strikeThrees 6 = .ok (.getfield 21, 3) := by decide +kernel
theorem dX3_strikeThrees_9 : decode cX3_strikeThrees 9 = .ok (.if_icmp .ge 68, 3) := by decide +kernel
theorem dX3_strikeThrees_12 : decode cX3_strikeThrees 12 = .ok (.iload_n 2, 1) := by decide +kernel
theorem dX3_strikeThrees_13 : decode cX3_strikeThrees 13 = .ok (.iconst 1, 1) := by decide +kernel
theorem dX3_strikeThrees_14 : decode cX3_strikeThrees 14 = .ok (.iadd, 1) := by decide +kernel
theorem dX3_strikeThrees_15 : decode cX3_strikeThrees 15 = .ok (.istore_n 3, 1) := by decide +kernel
theorem dX3_strikeThrees_16 : decode cX3_strikeThrees 16 = .ok (.iload_n 3, 1) := by decide +kernel
theorem dX3_strikeThrees_17 : decode cX3_strikeThrees 17 = .ok (.aload_n 0, 1) := by decide +kernel
theorem dX3_strikeThrees_18 : decode cX3_strikeThrees 18 = .ok (.getfield 21, 3) := by decide +kernel
theorem dX3_strikeThrees_21 : decode cX3_strikeThrees 21 = .ok (.if_icmp .ge 50, 3) := by decide +kernel
theorem dX3_strikeThrees_24 : decode cX3_strikeThrees 24 = .ok (.iload_n 2, 1) := by decide +kernel
theorem dX3_strikeThrees_25 : decode cX3_strikeThrees 25 = .ok (.iconst 1, 1) := by decide +kernel
theorem dX3_strikeThrees_26 : decode cX3_strikeThrees 26 = .ok (.iadd, 1) := by decide +kernel
theorem dX3_strikeThrees_27 : decode cX3_strikeThrees 27 = .ok (.istore 4, 2) := by decide +kernel
theorem dX3_strikeThrees_29 : decode cX3_strikeThrees 29 = .ok (.iload 4, 2) := by decide +kernel
theorem dX3_strikeThrees_31 : decode cX3_strikeThrees 31 = .ok (.aload_n 0, 1) := by decide +kernel
theorem dX3_strikeThrees_32 : decode cX3_strikeThrees 32 = .ok (.getfield 21, 3) := by decide +kernel
theorem dX3_strikeThrees_35 : decode cX3_strikeThrees 35 = .ok (.if_icmp .ge 30, 3) := by decide +kernel
theorem dX3_strikeThrees_38 : decode cX3_strikeThrees 38 = .ok (.iload_n 1, 1) := by decide +kernel
theorem dX3_strikeThrees_39 : decode cX3_strikeThrees 39 = .ok (.iload 4, 2) := by decide +kernel
theorem dX3_strikeThrees_41 : decode cX3_strikeThrees 41 = .ok (.iload_n 3, 1) := by decide +kernel
theorem dX3_strikeThrees_42 : decode cX3_strikeThrees 42 = .ok (.if_icmp .ne 7, 3) := by decide +kernel
theorem dX3_strikeThrees_45 : decode cX3_strikeThrees 45 = .ok (.iconst 0, 1) := by decide +kernel
theorem dX3_strikeThrees_46 : decode cX3_strikeThrees 46 = .ok (.goto 11, 3) := by decide +kernel
theorem dX3_strikeThrees_49 : decode cX3_strikeThrees 49 = .ok (.aload_n 0, 1) := by decide +kernel
theorem dX3_strikeThrees_50 : decode cX3_strikeThrees 50 = .ok (.iload_n 2, 1) := by decide +kernel
theorem dX3_strikeThrees_51 : decode cX3_strikeThrees 51 = .ok (.iload_n 3, 1) := by decide +kernel
theorem dX3_strikeThrees_52 : decode cX3_strikeThrees 52 = .ok (.iload 4, 2) := by decide +kernel
theorem dX3_strikeThrees_54 : decode cX3_strikeThrees 54 = .ok (.invokevirtual 137, 3) := by decide +kernel
theorem dX3_strikeThrees_57 : decode cX3_strikeThrees 57 = .ok (.iadd, 1) := by decide +kernel
theorem dX3_strikeThrees_58 : decode cX3_strikeThrees 58 = .ok (.istore_n 1, 1) := by decide +kernel
theorem dX3_strikeThrees_59 : decode cX3_strikeThrees 59 = .ok (.iinc 4 1, 3) := by decide +kernel
theorem dX3_strikeThrees_62 : decode cX3_strikeThrees 62 = .ok (.goto (-33), 3) := by decide +kernel
theorem dX3_strikeThrees_65 : decode cX3_strikeThrees 65 = .ok (.iinc 3 1, 3) := by decide +kernel
theorem dX3_strikeThrees_68 : decode cX3_strikeThrees 68 = .ok (.goto (-52), 3) := by decide +kernel
theorem dX3_strikeThrees_71 : decode cX3_strikeThrees 71 = .ok (.iinc 2 1, 3) := by decide +kernel
theorem dX3_strikeThrees_74 : decode cX3_strikeThrees 74 = .ok (.goto (-70), 3) := by decide +kernel
theorem dX3_strikeThrees_77 : decode cX3_strikeThrees 77 = .ok (.iload_n 1, 1) := by decide +kernel
theorem dX3_strikeThrees_78 : decode cX3_strikeThrees 78 = .ok (.ireturn, 1) := by decide +kernel
theorem dX3_strikeThree_0 : decode cX3_strikeThree 0 = .ok (.aload_n 0, 1) := by decide +kernel
theorem dX3_strikeThree_1 : decode cX3_strikeThree 1 = .ok (.iload_n 1, 1) := by decide +kernel
theorem dX3_strikeThree_2 : decode cX3_strikeThree 2 = .ok (.iload_n 2, 1) := by decide +kernel
theorem dX3_strikeThree_3 : decode cX3_strikeThree 3 = .ok (.invokevirtual 123, 3) := by decide +kernel
theorem dX3_strikeThree_6 : decode cX3_strikeThree 6 = .ok (.aload_n 0, 1) := by decide +kernel
theorem dX3_strikeThree_7 : decode cX3_strikeThree 7 = .ok (.iload_n 2, 1) := by decide +kernel
theorem dX3_strikeThree_8 : decode cX3_strikeThree 8 = .ok (.iload_n 3, 1) := by decide +kernel
theorem dX3_strikeThree_9 : decode cX3_strikeThree 9 = .ok (.invokevirtual 123, 3) := by decide +kernel
theorem dX3_strikeThree_12 : decode cX3_strikeThree 12 = .ok (.aload_n 0, 1) := by decide +kernel
theorem dX3_strikeThree_13 : decode cX3_strikeThree 13 = .ok (.iload_n 3, 1) := by decide +kernel
theorem dX3_strikeThree_14 : decode cX3_strikeThree 14 = .ok (.iload_n 1, 1) := by decide +kernel
theorem dX3_strikeThree_15 : decode cX3_strikeThree 15 = .ok (.invokevirtual 123, 3) := by decide +kernel
theorem dX3_strikeThree_18 : decode cX3_strikeThree 18 = .ok (.invokestatic 81, 3) := by decide +kernel
theorem dX3_strikeThree_21 : decode cX3_strikeThree 21 = .ok (.invokestatic 81, 3) := by decide +kernel
theorem dX3_strikeThree_24 : decode cX3_strikeThree 24 = .ok (.istore 4, 2) := by decide +kernel
theorem dX3_strikeThree_26 : decode cX3_strikeThree 26 = .ok (.iload 4, 2) := by decide +kernel
theorem dX3_strikeThree_28 : decode cX3_strikeThree 28 = .ok (.ifCond .gt 5, 3) := by decide +kernel
theorem dX3_strikeThree_31 : decode cX3_strikeThree 31 = .ok (.iconst 0, 1) := by decide +kernel
theorem dX3_strikeThree_32 : decode cX3_strikeThree 32 = .ok (.ireturn, 1) := by decide +kernel
theorem dX3_strikeThree_33 : decode cX3_strikeThree 33 = .ok (.aload_n 0, 1) := by decide +kernel
theorem dX3_strikeThree_34 : decode cX3_strikeThree 34 = .ok (.iload_n 1, 1) := by decide +kernel
theorem dX3_strikeThree_35 : decode cX3_strikeThree 35 = .ok (.iload_n 2, 1) := by decide +kernel
theorem dX3_strikeThree_36 : decode cX3_strikeThree 36 = .ok (.iload 4, 2) := by decide +kernel
theorem dX3_strikeThree_38 : decode cX3_strikeThree 38 = .ok (.invokevirtual 134, 3) := by decide +kernel
theorem dX3_strikeThree_41 : decode cX3_strikeThree 41 = .ok (.aload_n 0, 1) := by decide +kernel
theorem dX3_strikeThree_42 : decode cX3_strikeThree 42 = .ok (.iload_n 2, 1) := by decide +kernel
theorem dX3_strikeThree_43 : decode cX3_strikeThree 43 = .ok (.iload_n 3, 1) := by decide +kernel
theorem dX3_strikeThree_44 : decode cX3_strikeThree 44 = .ok (.iload 4, 2) := by decide +kernel
theorem dX3_strikeThree_46 : decode cX3_strikeThree 46 = .ok (.invokevirtual 134, 3) := by decide +kernel
theorem dX3_strikeThree_49 : decode cX3_strikeThree 49 = .ok (.aload_n 0, 1) := by decide +kernel
theorem dX3_strikeThree_50 : decode cX3_strikeThree 50 = .ok (.iload_n 3, 1) := by decide +kernel
theorem dX3_strikeThree_51 : decode cX3_strikeThree 51 = .ok (.iload_n 1, 1) := by decide +kernel
theorem dX3_strikeThree_52 : decode cX3_strikeThree 52 = .ok (.iload 4, 2) := by decide +kernel
theorem dX3_strikeThree_54 : decode cX3_strikeThree 54 = .ok (.invokevirtual 134, 3) := by decide +kernel
theorem dX3_strikeThree_57 : decode cX3_strikeThree 57 = .ok (.iconst 1, 1) := by decide +kernel
theorem dX3_strikeThree_58 : decode cX3_strikeThree 58 = .ok (.ireturn, 1) := by decide +kernel
theorem dX3_tellYards_0 : decode cX3_tellYards 0 = .ok (.iload_n 1, 1) := by decide +kernel
theorem dX3_tellYards_1 : decode cX3_tellYards 1 = .ok (.iconst 1, 1) := by decide +kernel
theorem dX3_tellYards_2 : decode cX3_tellYards 2 = .ok (.if_icmp .lt 8, 3) := by decide +kernel
theorem dX3_tellYards_5 : decode cX3_tellYards 5 = .ok (.iload_n 1, 1) := by decide +kernel
theorem dX3_tellYards_6 : decode cX3_tellYards 6 = .ok (.iconst 5, 1) := by decide +kernel
theorem dX3_tellYards_7 : decode cX3_tellYards 7 = .ok (.if_icmp .le 5, 3) := by decide +kernel
theorem dX3_tellYards_10 : decode cX3_tellYards 10 = .ok (.iconst 0, 1) := by decide +kernel
theorem dX3_tellYards_11 : decode cX3_tellYards 11 = .ok (.ireturn, 1) := by decide +kernel
theorem dX3_tellYards_12 : decode cX3_tellYards 12 = .ok (.aload_n 0, 1) := by decide +kernel
theorem dX3_tellYards_13 : decode cX3_tellYards 13 = .ok (.iload_n 1, 1) := by decide +kernel
theorem dX3_tellYards_14 : decode cX3_tellYards 14 = .ok (.putfield 9, 3) := by decide +kernel
theorem dX3_tellYards_17 : decode cX3_tellYards 17 = .ok (.iconst 0, 1) := by decide +kernel
theorem dX3_tellYards_18 : decode cX3_tellYards 18 = .ok (.istore_n 2, 1) := by decide +kernel
theorem dX3_tellYards_19 : decode cX3_tellYards 19 = .ok (.iload_n 2, 1) := by decide +kernel
theorem dX3_tellYards_20 : decode cX3_tellYards 20 = .ok (.iconst 5, 1) := by decide +kernel
theorem dX3_tellYards_21 : decode cX3_tellYards 21 = .ok (.if_icmp .ge 23, 3) := by decide +kernel
theorem dX3_tellYards_24 : decode cX3_tellYards 24 = .ok (.aload_n 0, 1) := by decide +kernel
theorem dX3_tellYards_25 : decode cX3_tellYards 25 = .ok (.getfield 24, 3) := by decide +kernel
theorem dX3_tellYards_28 : decode cX3_tellYards 28 = .ok (.iload_n 2, 1) := by decide +kernel
theorem dX3_tellYards_29 : decode cX3_tellYards 29 = .ok (.iconst 2, 1) := by decide +kernel
theorem dX3_tellYards_30 : decode cX3_tellYards 30 = .ok (.iastore, 1) := by decide +kernel
theorem dX3_tellYards_31 : decode cX3_tellYards 31 = .ok (.aload_n 0, 1) := by decide +kernel
theorem dX3_tellYards_32 : decode cX3_tellYards 32 = .ok (.getfield 28, 3) := by decide +kernel
theorem dX3_tellYards_35 : decode cX3_tellYards 35 = .ok (.iload_n 2, 1) := by decide +kernel
theorem dX3_tellYards_36 : decode cX3_tellYards 36 = .ok (.iconst 2, 1) := by decide +kernel
theorem dX3_tellYards_37 : decode cX3_tellYards 37 = .ok (.iastore, 1) := by decide +kernel
theorem dX3_tellYards_38 : decode cX3_tellYards 38 = .ok (.iinc 2 1, 3) := by decide +kernel
theorem dX3_tellYards_41 : decode cX3_tellYards 41 = .ok (.goto (-22), 3) := by decide +kernel
theorem dX3_tellYards_44 : decode cX3_tellYards 44 = .ok (.aload_n 0, 1) := by decide +kernel
theorem dX3_tellYards_45 : decode cX3_tellYards 45 = .ok (.invokevirtual 141, 3) := by decide +kernel
theorem dX3_tellYards_48 : decode cX3_tellYards 48 = .ok (.iconst 1, 1) := by decide +kernel
theorem dX3_tellYards_49 : decode cX3_tellYards 49 = .ok (.ireturn, 1) := by decide +kernel
theorem dX3_tellYard_0 : decode cX3_tellYard 0 = .ok (.aload_n 0, 1) := by decide +kernel
theorem dX3_tellYard_1 : decode cX3_tellYard 1 = .ok (.iload_n 1, 1) := by decide +kernel
theorem dX3_tellYard_2 : decode cX3_tellYard 2 = .ok (.invokevirtual 144, 3) := by decide +kernel
theorem dX3_tellYard_5 : decode cX3_tellYard 5 = .ok (.ifCond .ne 5, 3) := by decide +kernel
theorem dX3_tellYard_8 : decode cX3_tellYard 8 = .ok (.iconst 0, 1) := by decide +kernel
theorem dX3_tellYard_9 : decode cX3_tellYard 9 = .ok (.ireturn, 1) := by decide +kernel
theorem dX3_tellYard_10 : decode cX3_tellYard 10 = .ok (.aload_n 0, 1) := by decide +kernel
theorem dX3_tellYard_11 : decode cX3_tellYard 11 = .ok (.getfield 24, 3) := by decide +kernel
theorem dX3_tellYard_14 : decode cX3_tellYard 14 = .ok (.iload_n 1, 1) := by decide +kernel
theorem dX3_tellYard_15 : decode cX3_tellYard 15 = .ok (.iload_n 2, 1) := by decide +kernel
theorem dX3_tellYard_16 : decode cX3_tellYard 16 = .ok (.iastore, 1) := by decide +kernel
theorem dX3_tellYard_17 : decode cX3_tellYard 17 = .ok (.aload_n 0, 1) := by decide +kernel
theorem dX3_tellYard_18 : decode cX3_tellYard 18 = .ok (.getfield 28, 3) := by decide +kernel
theorem dX3_tellYard_21 : decode cX3_tellYard 21 = .ok (.iload_n 1, 1) := by decide +kernel
theorem dX3_tellYard_22 : decode cX3_tellYard 22 = .ok (.iload_n 3, 1) := by decide +kernel
theorem dX3_tellYard_23 : decode cX3_tellYard 23 = .ok (.iastore, 1) := by decide +kernel
theorem dX3_tellYard_24 : decode cX3_tellYard 24 = .ok (.iconst 1, 1) := by decide +kernel
theorem dX3_tellYard_25 : decode cX3_tellYard 25 = .ok (.ireturn, 1) := by decide +kernel
theorem dX3_tellPerson_0 : decode cX3_tellPerson 0 = .ok (.iload_n 1, 1) := by decide +kernel
theorem dX3_tellPerson_1 : decode cX3_tellPerson 1 = .ok (.iconst 5, 1) := by decide +kernel
theorem dX3_tellPerson_2 : decode cX3_tellPerson 2 = .ok (.if_icmp .gt 12, 3) := by decide +kernel
theorem dX3_tellPerson_5 : decode cX3_tellPerson 5 = .ok (.aload_n 0, 1) := by decide +kernel
theorem dX3_tellPerson_6 : decode cX3_tellPerson 6 = .ok (.getfield 21, 3) := by decide +kernel
theorem dX3_tellPerson_9 : decode cX3_tellPerson 9 = .ok (.bipush 7, 2) := by decide +kernel
theorem dX3_tellPerson_11 : decode cX3_tellPerson 11 = .ok (.if_icmp .lt 5, 3) := by decide +kernel
theorem dX3_tellPerson_14 : decode cX3_tellPerson 14 = .ok (.iconst 0, 1) := by decide +kernel
theorem dX3_tellPerson_15 : decode cX3_tellPerson 15 = .ok (.ireturn, 1) := by decide +kernel
theorem dX3_tellPerson_16 : decode cX3_tellPerson 16 = .ok (.aload_n 0, 1) := by decide +kernel
theorem dX3_tellPerson_17 : decode cX3_tellPerson 17 = .ok (.getfield 36, 3) := by decide +kernel
theorem dX3_tellPerson_20 : decode cX3_tellPerson 20 = .ok (.aload_n 0, 1) := by decide +kernel
theorem dX3_tellPerson_21 : decode cX3_tellPerson 21 = .ok (.getfield 21, 3) := by decide +kernel
theorem dX3_tellPerson_24 : decode cX3_tellPerson 24 = .ok (.aaload, 1) := by decide +kernel
theorem dX3_tellPerson_25 : decode cX3_tellPerson 25 = .ok (.astore 6, 2) := by decide +kernel
theorem dX3_tellPerson_27 : decode cX3_tellPerson 27 = .ok (.aload 6, 2) := by decide +kernel
theorem dX3_tellPerson_29 : decode cX3_tellPerson 29 = .ok (.iload_n 1, 1) := by decide +kernel
theorem dX3_tellPerson_30 : decode cX3_tellPerson 30 = .ok (.putfield 147, 3) := by decide +kernel
theorem dX3_tellPerson_33 : decode cX3_tellPerson 33 = .ok (.aload 6, 2) := by decide +kernel
theorem dX3_tellPerson_35 : decode cX3_tellPerson 35 = .ok (.iload_n 2, 1) := by decide +kernel
theorem dX3_tellPerson_36 : decode cX3_tellPerson 36 = .ok (.putfield 150, 3) := by decide +kernel
theorem dX3_tellPerson_39 : decode cX3_tellPerson 39 = .ok (.aload 6, 2) := by decide +kernel
theorem dX3_tellPerson_41 : decode cX3_tellPerson 41 = .ok (.iload_n 3, 1) := by decide +kernel
theorem dX3_tellPerson_42 : decode cX3_tellPerson 42 = .ok (.putfield 153, 3) := by decide +kernel
theorem dX3_tellPerson_45 : decode cX3_tellPerson 45 = .ok (.aload 6, 2) := by decide +kernel
theorem dX3_tellPerson_47 : decode cX3_tellPerson 47 = .ok (.iload 4, 2) := by decide +kernel
theorem dX3_tellPerson_49 : decode cX3_tellPerson 49 = .ok (.putfield 156, 3) := by decide +kernel
theorem dX3_tellPerson_52 : decode cX3_tellPerson 52 = .ok (.aload 6, 2) := by decide +kernel
theorem dX3_tellPerson_54 : decode cX3_tellPerson 54 = .ok (.iload 5, 2) := by decide +kernel
theorem dX3_tellPerson_56 : decode cX3_tellPerson 56 = .ok (.putfield 117, 3) := by decide +kernel
theorem dX3_tellPerson_59 : decode cX3_tellPerson 59 = .ok (.aload 6, 2) := by decide +kernel
theorem dX3_tellPerson_61 : decode cX3_tellPerson 61 = .ok (.iconst 0, 1) := by decide +kernel
theorem dX3_tellPerson_62 : decode cX3_tellPerson 62 = .ok (.putfield 61, 3) := by decide +kernel
theorem dX3_tellPerson_65 : decode cX3_tellPerson 65 = .ok (.aload_n 0, 1) := by decide +kernel
theorem dX3_tellPerson_66 : decode cX3_tellPerson 66 = .ok (.dup, 1) := by decide +kernel
theorem dX3_tellPerson_67 : decode cX3_tellPerson 67 = .ok (.getfield 21, 3) := by decide +kernel
theorem dX3_tellPerson_70 : decode cX3_tellPerson 70 = .ok (.iconst 1, 1) := by decide +kernel
theorem dX3_tellPerson_71 : decode cX3_tellPerson 71 = .ok (.iadd, 1) := by decide +kernel
theorem dX3_tellPerson_72 : decode cX3_tellPerson 72 = .ok (.putfield 21, 3) := by decide +kernel
theorem dX3_tellPerson_75 : decode cX3_tellPerson 75 = .ok (.iconst 1, 1) := by decide +kernel
theorem dX3_tellPerson_76 : decode cX3_tellPerson 76 = .ok (.ireturn, 1) := by decide +kernel
theorem dX3_tellGrudge_0 : decode cX3_tellGrudge 0 = .ok (.aload_n 0, 1) := by decide +kernel
theorem dX3_tellGrudge_1 : decode cX3_tellGrudge 1 = .ok (.iload_n 1, 1) := by decide +kernel
theorem dX3_tellGrudge_2 : decode cX3_tellGrudge 2 = .ok (.iload_n 2, 1) := by decide +kernel
theorem dX3_tellGrudge_3 : decode cX3_tellGrudge 3 = .ok (.invokevirtual 159, 3) := by decide +kernel
theorem dX3_tellGrudge_6 : decode cX3_tellGrudge 6 = .ok (.ifCond .ne 5, 3) := by decide +kernel
theorem dX3_tellGrudge_9 : decode cX3_tellGrudge 9 = .ok (.iconst 0, 1) := by decide +kernel
theorem dX3_tellGrudge_10 : decode cX3_tellGrudge 10 = .ok (.ireturn, 1) := by decide +kernel
theorem dX3_tellGrudge_11 : decode cX3_tellGrudge 11 = .ok (.aload_n 0, 1) := by decide +kernel
theorem dX3_tellGrudge_12 : decode cX3_tellGrudge 12 = .ok (.iload_n 1, 1) := by decide +kernel
theorem dX3_tellGrudge_13 : decode cX3_tellGrudge 13 = .ok (.iload_n 2, 1) := by decide +kernel
theorem dX3_tellGrudge_14 : decode cX3_tellGrudge 14 = .ok (.iconst 1, 1) := by decide +kernel
theorem dX3_tellGrudge_15 : decode cX3_tellGrudge 15 = .ok (.aload_n 0, 1) := by decide +kernel
theorem dX3_tellGrudge_16 : decode cX3_tellGrudge 16 = .ok (.iload_n 1, 1) := by decide +kernel
theorem dX3_tellGrudge_17 : decode cX3_tellGrudge 17 = .ok (.iload_n 2, 1) := by decide +kernel
theorem dX3_tellGrudge_18 : decode cX3_tellGrudge 18 = .ok (.invokevirtual 102, 3) := by decide +kernel
theorem dX3_tellGrudge_21 : decode cX3_tellGrudge 21 = .ok (.isub, 1) := by decide +kernel
theorem dX3_tellGrudge_22 : decode cX3_tellGrudge 22 = .ok (.invokevirtual 163, 3) := by decide +kernel
theorem dX3_tellGrudge_25 : decode cX3_tellGrudge 25 = .ok (.iconst 1, 1) := by decide +kernel
theorem dX3_tellGrudge_26 : decode cX3_tellGrudge 26 = .ok (.ireturn, 1) := by decide +kernel
theorem dX3_tellIn_0 : decode cX3_tellIn 0 = .ok (.aload_n 0, 1) := by decide +kernel
theorem dX3_tellIn_1 : decode cX3_tellIn 1 = .ok (.iload_n 1, 1) := by decide +kernel
theorem dX3_tellIn_2 : decode cX3_tellIn 2 = .ok (.invokevirtual 144, 3) := by decide +kernel
theorem dX3_tellIn_5 : decode cX3_tellIn 5 = .ok (.ifCond .eq 23, 3) := by decide +kernel
theorem dX3_tellIn_8 : decode cX3_tellIn 8 = .ok (.aload_n 0, 1) := by decide +kernel
theorem dX3_tellIn_9 : decode cX3_tellIn 9 = .ok (.iload_n 2, 1) := by decide +kernel
theorem dX3_tellIn_10 : decode cX3_tellIn 10 = .ok (.invokevirtual 57, 3) := by decide +kernel
theorem dX3_tellIn_13 : decode cX3_tellIn 13 = .ok (.ifCond .eq 15, 3) := by decide +kernel
theorem dX3_tellIn_16 : decode cX3_tellIn 16 = .ok (.aload_n 0, 1) := by decide +kernel
theorem dX3_tellIn_17 : decode cX3_tellIn 17 = .ok (.getfield 36, 3) := by decide +kernel
theorem dX3_tellIn_20 : decode cX3_tellIn 20 = .ok (.iload_n 2, 1) := by decide +kernel
theorem dX3_tellIn_21 : decode cX3_tellIn 21 = .ok (.aaload, 1) := by decide +kernel
theorem dX3_tellIn_22 : decode cX3_tellIn 22 = .ok (.getfield 61, 3) := by decide +kernel
theorem dX3_tellIn_25 : decode cX3_tellIn 25 = .ok (.ifCond .eq 5, 3) := by decide +kernel
theorem dX3_tellIn_28 : decode cX3_tellIn 28 = .ok (.iconst 0, 1) := by decide +kernel
theorem dX3_tellIn_29 : decode cX3_tellIn 29 = .ok (.ireturn, 1) := by decide +kernel
theorem dX3_tellIn_30 : decode cX3_tellIn 30 = .ok (.aload_n 0, 1) := by decide +kernel
theorem dX3_tellIn_31 : decode cX3_tellIn 31 = .ok (.iload_n 1, 1) := by decide +kernel
theorem dX3_tellIn_32 : decode cX3_tellIn 32 = .ok (.iload_n 2, 1) := by decide +kernel
theorem dX3_tellIn_33 : decode cX3_tellIn 33 = .ok (.invokevirtual 166, 3) := by decide +kernel
theorem dX3_tellIn_36 : decode cX3_tellIn 36 = .ok (.iconst 1, 1) := by decide +kernel
theorem dX3_tellIn_37 : decode cX3_tellIn 37 = .ok (.ireturn, 1) := by decide +kernel
theorem dX4_init_0 : decode cX4_init 0 = .ok (.aload_n 0, 1) := by decide +kernel
theorem dX4_init_1 : decode cX4_init 1 = .ok (.invokespecial 1, 3) := by decide +kernel
theorem dX4_init_4 : decode cX4_init 4 = .ok (.aload_n 0, 1) := by decide +kernel
theorem dX4_init_5 : decode cX4_init 5 = .ok (.new 7, 3) := by decide +kernel
theorem dX4_init_8 : decode cX4_init 8 = .ok (.dup, 1) := by decide +kernel
theorem dX4_init_9 : decode cX4_init 9 = .ok (.invokespecial 9, 3) := by decide +kernel
theorem dX4_init_12 : decode cX4_init 12 = .ok (.putfield 10, 3) := by decide +kernel
theorem dX4_init_15 : decode cX4_init 15 = .ok (.aload_n 0, 1) := by decide +kernel
theorem dX4_init_16 : decode cX4_init 16 = .ok (.new 7, 3) := by decide +kernel
theorem dX4_init_19 : decode cX4_init 19 = .ok (.dup, 1) := by decide +kernel
theorem dX4_init_20 : decode cX4_init 20 = .ok (.invokespecial 9, 3) := by decide +kernel
theorem dX4_init_23 : decode cX4_init 23 = .ok (.putfield 16, 3) := by decide +kernel
theorem dX4_init_26 : decode cX4_init 26 = .ok (.aload_n 0, 1) := by decide +kernel
theorem dX4_init_27 : decode cX4_init 27 = .ok (.new 7, 3) := by decide +kernel
theorem dX4_init_30 : decode cX4_init 30 = .ok (.dup, 1) := by decide +kernel
theorem dX4_init_31 : decode cX4_init 31 = .ok (.invokespecial 9, 3) := by decide +kernel
theorem dX4_init_34 : decode cX4_init 34 = .ok (.putfield 19, 3) := by decide +kernel
theorem dX4_init_37 : decode cX4_init 37 = .ok (.aload_n 0, 1) := by decide +kernel
theorem dX4_init_38 : decode cX4_init 38 = .ok (.iconst 0, 1) := by decide +kernel
theorem dX4_init_39 : decode cX4_init 39 = .ok (.putfield 22, 3) := by decide +kernel
theorem dX4_init_42 : decode cX4_init 42 = .ok (.aload_n 0, 1) := by decide +kernel
theorem dX4_init_43 : decode cX4_init 43 = .ok (.new 26, 3) := by decide +kernel
theorem dX4_init_46 : decode cX4_init 46 = .ok (.dup, 1) := by decide +kernel
theorem dX4_init_47 : decode cX4_init 47 = .ok (.invokespecial 28, 3) := by decide +kernel
theorem dX4_init_50 : decode cX4_init 50 = .ok (.putfield 29, 3) := by decide +kernel
theorem dX4_init_53 : decode cX4_init 53 = .ok (.aload_n 0, 1) := by decide +kernel
theorem dX4_init_54 : decode cX4_init 54 = .ok (.new 33, 3) := by decide +kernel
theorem dX4_init_57 : decode cX4_init 57 = .ok (.dup, 1) := by decide +kernel
theorem dX4_init_58 : decode cX4_init 58 = .ok (.invokespecial 35, 3) := by decide +kernel
theorem dX4_init_61 : decode cX4_init 61 = .ok (.putfield 36, 3) := by decide +kernel
theorem dX4_init_64 : decode cX4_init 64 = .ok (.aload_n 0, 1) := by decide +kernel
theorem dX4_init_65 : decode cX4_init 65 = .ok (.iconst 5, 1) := by decide +kernel
theorem dX4_init_66 : decode cX4_init 66 = .ok (.newarray .int, 2) := by decide +kernel
theorem dX4_init_68 : decode cX4_init 68 = .ok (.putfield 40, 3) := by decide +kernel
theorem dX4_init_71 : decode cX4_init 71 = .ok (.aload_n 0, 1) := by decide +kernel
theorem dX4_init_72 : decode cX4_init 72 = .ok (.iconst 0, 1) := by decide +kernel
theorem dX4_init_73 : decode cX4_init 73 = .ok (.putfield 44, 3) := by decide +kernel
theorem dX4_init_76 : decode cX4_init 76 = .ok (.aload_n 0, 1) := by decide +kernel
theorem dX4_init_77 : decode cX4_init 77 = .ok (.bipush 7, 2) := by decide +kernel
theorem dX4_init_79 : decode cX4_init 79 = .ok (.newarray .int, 2) := by decide +kernel
theorem dX4_init_81 : decode cX4_init 81 = .ok (.putfield 48, 3) := by decide +kernel
theorem dX4_init_84 : decode cX4_init 84 = .ok (.return_, 1) := by decide +kernel
theorem dX4_feed_0 : decode cX4_feed 0 = .ok (.iload_n 1, 1) := by decide +kernel
theorem dX4_feed_1 : decode cX4_feed 1 = .ok (.ifCond .ge 10, 3) := by decide +kernel
theorem dX4_feed_4 : decode cX4_feed 4 = .ok (.aload_n 0, 1) := by decide +kernel
theorem dX4_feed_5 : decode cX4_feed 5 = .ok (.bipush (-4), 2) := by decide +kernel
theorem dX4_feed_7 : decode cX4_feed 7 = .ok (.invokevirtual 51, 3) := by decide +kernel
theorem dX4_feed_10 : decode cX4_feed 10 = .ok (.ireturn, 1) := by decide +kernel
theorem dX4_feed_11 : decode cX4_feed 11 = .ok (.iload_n 1, 1) := by decide +kernel
theorem dX4_feed_12 : decode cX4_feed 12 = .ok (.sipush 255, 3) := by decide +kernel
theorem dX4_feed_15 : decode cX4_feed 15 = .ok (.if_icmp .gt 15, 3) := by decide +kernel
theorem dX4_feed_18 : decode cX4_feed 18 = .ok (.aload_n 0, 1) := by decide +kernel
theorem dX4_feed_19 : decode cX4_feed 19 = .ok (.getfield 29, 3) := by decide +kernel
theorem dX4_feed_22 : decode cX4_feed 22 = .ok (.getfield 55, 3) := by decide +kernel
theorem dX4_feed_25 : decode cX4_feed 25 = .ok (.bipush 80, 2) := by decide +kernel
theorem dX4_feed_27 : decode cX4_feed 27 = .ok (.if_icmp .lt 10, 3) := by decide +kernel
theorem dX4_feed_30 : decode cX4_feed 30 = .ok (.aload_n 0, 1) := by decide +kernel
theorem dX4_feed_31 : decode cX4_feed 31 = .ok (.bipush (-6), 2) := by decide +kernel
theorem dX4_feed_33 : decode cX4_feed 33 = .ok (.invokevirtual 51, 3) := by decide +kernel
theorem dX4_feed_36 : decode cX4_feed 36 = .ok (.ireturn, 1) := by decide +kernel
theorem dX4_feed_37 : decode cX4_feed 37 = .ok (.aload_n 0, 1) := by decide +kernel
theorem dX4_feed_38 : decode cX4_feed 38 = .ok (.getfield 29, 3) := by decide +kernel
theorem dX4_feed_41 : decode cX4_feed 41 = .ok (.iload_n 1, 1) := by decide +kernel
theorem dX4_feed_42 : decode cX4_feed 42 = .ok (.invokevirtual 58, 3) := by decide +kernel
theorem dX4_feed_45 : decode cX4_feed 45 = .ok (.aload_n 0, 1) := by decide +kernel
theorem dX4_feed_46 : decode cX4_feed 46 = .ok (.getfield 29, 3) := by decide +kernel
theorem dX4_feed_49 : decode cX4_feed 49 = .ok (.getfield 55, 3) := by decide +kernel
theorem dX4_feed_52 : decode cX4_feed 52 = .ok (.ireturn, 1) := by decide +kernel
theorem dX4_river_0 : decode cX4_river 0 = .ok (.aload_n 0, 1) := by decide +kernel
theorem dX4_river_1 : decode cX4_river 1 = .ok (.invokevirtual 62, 3) := by decide +kernel
theorem dX4_river_4 : decode cX4_river 4 = .ok (.istore_n 1, 1) := by decide +kernel
theorem dX4_river_5 : decode cX4_river 5 = .ok (.aload_n 0, 1) := by decide +kernel
theorem dX4_river_6 : decode cX4_river 6 = .ok (.getfield 29, 3) := by decide +kernel
theorem dX4_river_9 : decode cX4_river 9 = .ok (.iconst 0, 1) := by decide +kernel
theorem dX4_river_10 : decode cX4_river 10 = .ok (.putfield 55, 3) := by decide +kernel
theorem dX4_river_13 : decode cX4_river 13 = .ok (.iload_n 1, 1) := by decide +kernel
theorem dX4_river_14 : decode cX4_river 14 = .ok (.ireturn, 1) := by decide +kernel
theorem dX4_yard_0 : decode cX4_yard 0 = .ok (.aload_n 0, 1) := by decide +kernel
theorem dX4_yard_1 : decode cX4_yard 1 = .ok (.getfield 10, 3) := by decide +kernel
theorem dX4_yard_4 : decode cX4_yard 4 = .ok (.iload_n 1, 1) := by decide +kernel
theorem dX4_yard_5 : decode cX4_yard 5 = .ok (.invokevirtual 66, 3) := by decide +kernel
theorem dX4_yard_8 : decode cX4_yard 8 = .ok (.ifCond .ne 9, 3) := by decide +kernel
theorem dX4_yard_11 : decode cX4_yard 11 = .ok (.aload_n 0, 1) := by decide +kernel
theorem dX4_yard_12 : decode cX4_yard 12 = .ok (.iconst (-1), 1) := by decide +kernel
theorem dX4_yard_13 : decode cX4_yard 13 = .ok (.invokevirtual 51, 3) := by decide +kernel
theorem dX4_yard_16 : decode cX4_yard 16 = .ok (.ireturn, 1) := by decide +kernel
theorem dX4_yard_17 : decode cX4_yard 17 = .ok (.iload_n 2, 1) := by decide +kernel
theorem dX4_yard_18 : decode cX4_yard 18 = .ok (.tableswitch 56 0 2 #[26, 36, 46], 26) := by decide +kernel
theorem dX4_yard_44 : decode cX4_yard 44 = .ok (.aload_n 0, 1) := by decide +kernel
theorem dX4_yard_45 : decode cX4_yard 45 = .ok (.getfield 10, 3) := by decide +kernel
theorem dX4_yard_48 : decode cX4_yard 48 = .ok (.getfield 70, 3) := by decide +kernel
theorem dX4_yard_51 : decode cX4_yard 51 = .ok (.iload_n 1, 1) := by decide +kernel
theorem dX4_yard_52 : decode cX4_yard 52 = .ok (.iaload, 1) := by decide +kernel
theorem dX4_yard_53 : decode cX4_yard 53 = .ok (.ireturn, 1) := by decide +kernel
theorem dX4_yard_54 : decode cX4_yard 54 = .ok (.aload_n 0, 1) := by decide +kernel
theorem dX4_yard_55 : decode cX4_yard 55 = .ok (.getfield 10, 3) := by decide +kernel
theorem dX4_yard_58 : decode cX4_yard 58 = .ok (.getfield 73, 3) := by decide +kernel
theorem dX4_yard_61 : decode cX4_yard 61 = .ok (.iload_n 1, 1) := by decide +kernel
theorem dX4_yard_62 : decode cX4_yard 62 = .ok (.iaload, 1) := by decide +kernel
theorem dX4_yard_63 : decode cX4_yard 63 = .ok (.ireturn, 1) := by decide +kernel
theorem dX4_yard_64 : decode cX4_yard 64 = .ok (.aload_n 0, 1) := by decide +kernel
theorem dX4_yard_65 : decode cX4_yard 65 = .ok (.getfield 10, 3) := by decide +kernel
theorem dX4_yard_68 : decode cX4_yard 68 = .ok (.getfield 76, 3) := by decide +kernel
theorem dX4_yard_71 : decode cX4_yard 71 = .ok (.iload_n 1, 1) := by decide +kernel
theorem dX4_yard_72 : decode cX4_yard 72 = .ok (.iaload, 1) := by decide +kernel
theorem dX4_yard_73 : decode cX4_yard 73 = .ok (.ireturn, 1) := by decide +kernel
theorem dX4_yard_74 : decode cX4_yard 74 = .ok (.aload_n 0, 1) := by decide +kernel
theorem dX4_yard_75 : decode cX4_yard 75 = .ok (.bipush (-2), 2) := by decide +kernel
theorem dX4_yard_77 : decode cX4_yard 77 = .ok (.invokevirtual 51, 3) := by decide +kernel
theorem dX4_yard_80 : decode cX4_yard 80 = .ok (.ireturn, 1) := by decide +kernel
theorem dX4_person_0 : decode cX4_person 0 = .ok (.aload_n 0, 1) := by decide +kernel
theorem dX4_person_1 : decode cX4_person 1 = .ok (.getfield 10, 3) := by decide +kernel
theorem dX4_person_4 : decode cX4_person 4 = .ok (.iload_n 1, 1) := by decide +kernel
theorem dX4_person_5 : decode cX4_person 5 = .ok (.invokevirtual 79, 3) := by decide +kernel
theorem dX4_person_8 : decode cX4_person 8 = .ok (.ifCond .ne 9, 3) := by decide +kernel
theorem dX4_person_11 : decode cX4_person 11 = .ok (.aload_n 0, 1) := by decide +kernel
theorem dX4_person_12 : decode cX4_person 12 = .ok (.iconst (-1), 1) := by decide +kernel
theorem dX4_person_13 : decode cX4_person 13 = .ok (.invokevirtual 51, 3) := by decide +kernel
theorem dX4_person_16 : decode cX4_person 16 = .ok (.ireturn, 1) := by decide +kernel
theorem dX4_person_17 : decode cX4_person 17 = .ok (.aload_n 0, 1) := by decide +kernel
theorem dX4_person_18 : decode cX4_person 18 = .ok (.getfield 10, 3) := by decide +kernel
theorem dX4_person_21 : decode cX4_person 21 = .ok (.getfield 82, 3) := by decide +kernel
theorem dX4_person_24 : decode cX4_person 24 = .ok (.iload_n 1, 1) := by decide +kernel
theorem dX4_person_25 : decode cX4_person 25 = .ok (.aaload, 1) := by decide +kernel
theorem dX4_person_26 : decode cX4_person 26 = .ok (.astore_n 3, 1) := by decide +kernel
theorem dX4_person_27 : decode cX4_person 27 = .ok (.iload_n 2, 1) := by decide +kernel
theorem dX4_person_28 : decode cX4_person 28 = .ok (.tableswitch 108 0 8 #[52, 57, 62, 67, 72, 77, 82, 87, 99], 52) := by decide +kernel
theorem dX4_person_80 : decode cX4_person 80 = .ok (.aload_n 3, 1) := by decide +kernel
theorem dX4_person_81 : decode cX4_person 81 = .ok (.getfield 86, 3) := by decide +kernel
theorem dX4_person_84 : decode cX4_person 84 = .ok (.ireturn, 1) := by decide +kernel
theorem dX4_person_85 : decode cX4_person 85 = .ok (.aload_n 3, 1) := by decide +kernel
theorem dX4_person_86 : decode cX4_person 86 = .ok (.getfield 91, 3) := by decide +kernel
theorem dX4_person_89 : decode cX4_person 89 = .ok (.ireturn, 1) := by decide +kernel
theorem dX4_person_90 : decode cX4_person 90 = .ok (.aload_n 3, 1) := by decide +kernel
theorem dX4_person_91 : decode cX4_person 91 = .ok (.getfield 94, 3) := by decide +kernel
theorem dX4_person_94 : decode cX4_person 94 = .ok (.ireturn, 1) := by decide +kernel
theorem dX4_person_95 : decode cX4_person 95 = .ok (.aload_n 3, 1) := by decide +kernel
theorem dX4_person_96 : decode cX4_person 96 = .ok (.getfield 97, 3) := by decide +kernel
theorem dX4_person_99 : decode cX4_person 99 = .ok (.ireturn, 1) := by decide +kernel
theorem dX4_person_100 : decode cX4_person 100 = .ok (.aload_n 3, 1) := by decide +kernel
theorem dX4_person_101 : decode cX4_person 101 = .ok (.getfield 100, 3) := by decide +kernel
theorem dX4_person_104 : decode cX4_person 104 = .ok (.ireturn, 1) := by decide +kernel
theorem dX4_person_105 : decode cX4_person 105 = .ok (.aload_n 3, 1) := by decide +kernel
theorem dX4_person_106 : decode cX4_person 106 = .ok (.invokevirtual 103, 3) := by decide +kernel
theorem dX4_person_109 : decode cX4_person 109 = .ok (.ireturn, 1) := by decide +kernel
theorem dX4_person_110 : decode cX4_person 110 = .ok (.aload_n 3, 1) := by decide +kernel
theorem dX4_person_111 : decode cX4_person 111 = .ok (.invokevirtual 106, 3) := by decide +kernel
theorem dX4_person_114 : decode cX4_person 114 = .ok (.ireturn, 1) := by decide +kernel
theorem dX4_person_115 : decode cX4_person 115 = .ok (.aload_n 3, 1) := by decide +kernel
theorem dX4_person_116 : decode cX4_person 116 = .ok (.aload_n 0, 1) := by decide +kernel
theorem dX4_person_117 : decode cX4_person 117 = .ok (.getfield 10, 3) := by decide +kernel
theorem dX4_person_120 : decode cX4_person 120 = .ok (.getfield 109, 3) := by decide +kernel
theorem dX4_person_123 : decode cX4_person 123 = .ok (.invokevirtual 112, 3) := by decide +kernel
theorem dX4_person_126 : decode cX4_person 126 = .ok (.ireturn, 1) := by decide +kernel
theorem dX4_person_127 : decode cX4_person 127 = .ok (.aload_n 0, 1) := by decide +kernel
theorem dX4_person_128 : decode cX4_person 128 = .ok (.getfield 10, 3) := by decide +kernel
theorem dX4_person_131 : decode cX4_person 131 = .ok (.iload_n 1, 1) := by decide +kernel
theorem dX4_person_132 : decode cX4_person 132 = .ok (.invokevirtual 115, 3) := by decide +kernel
theorem dX4_person_135 : decode cX4_person 135 = .ok (.ireturn, 1) := by decide +kernel
theorem dX4_person_136 : decode cX4_person 136 = .ok (.aload_n 0, 1) := by decide +kernel
theorem dX4_person_137 : decode cX4_person 137 = .ok (.bipush (-2), 2) := by decide +kernel
theorem dX4_person_139 : decode cX4_person 139 = .ok (.invokevirtual 51, 3) := by decide +kernel
theorem dX4_person_142 : decode cX4_person 142 = .ok (.ireturn, 1) := by decide +kernel
theorem dX4_grudge_0 : decode cX4_grudge 0 = .ok (.aload_n 0, 1) := by decide +kernel
theorem dX4_grudge_1 : decode cX4_grudge 1 = .ok (.getfield 10, 3) := by decide +kernel
theorem dX4_grudge_4 : decode cX4_grudge 4 = .ok (.iload_n 1, 1) := by decide +kernel
theorem dX4_grudge_5 : decode cX4_grudge 5 = .ok (.iload_n 2, 1) := by decide +kernel
theorem dX4_grudge_6 : decode cX4_grudge 6 = .ok (.invokevirtual 118, 3) := by decide +kernel
theorem dX4_grudge_9 : decode cX4_grudge 9 = .ok (.ifCond .ne 9, 3) := by decide +kernel
theorem dX4_grudge_12 : decode cX4_grudge 12 = .ok (.aload_n 0, 1) := by decide +kernel
theorem dX4_grudge_13 : decode cX4_grudge 13 = .ok (.iconst (-1), 1) := by decide +kernel
theorem dX4_grudge_14 : decode cX4_grudge 14 = .ok (.invokevirtual 51, 3) := by decide +kernel
theorem dX4_grudge_17 : decode cX4_grudge 17 = .ok (.ireturn, 1) := by decide +kernel
theorem dX4_grudge_18 : decode cX4_grudge 18 = .ok (.aload_n 0, 1) := by decide +kernel
theorem dX4_grudge_19 : decode cX4_grudge 19 = .ok (.getfield 10, 3) := by decide +kernel
theorem dX4_grudge_22 : decode cX4_grudge 22 = .ok (.iload_n 1, 1) := by decide +kernel
theorem dX4_grudge_23 : decode cX4_grudge 23 = .ok (.iload_n 2, 1) := by decide +kernel
theorem dX4_grudge_24 : decode cX4_grudge 24 = .ok (.invokevirtual 122, 3) := by decide +kernel
theorem dX4_grudge_27 : decode cX4_grudge 27 = .ok (.ireturn, 1) := by decide +kernel
theorem dX4_quarrel_0 : decode cX4_quarrel 0 = .ok (.aload_n 0, 1) := by decide +kernel
theorem dX4_quarrel_1 : decode cX4_quarrel 1 = .ok (.getfield 10, 3) := by decide +kernel
theorem dX4_quarrel_4 : decode cX4_quarrel 4 = .ok (.iload_n 1, 1) := by decide +kernel
theorem dX4_quarrel_5 : decode cX4_quarrel 5 = .ok (.iload_n 2, 1) := by decide +kernel
theorem dX4_quarrel_6 : decode cX4_quarrel 6 = .ok (.invokevirtual 118, 3) := by decide +kernel
theorem dX4_quarrel_9 : decode cX4_quarrel 9 = .ok (.ifCond .ne 9, 3) := by decide +kernel
theorem dX4_quarrel_12 : decode cX4_quarrel 12 = .ok (.aload_n 0, 1) := by decide +kernel
theorem dX4_quarrel_13 : decode cX4_quarrel 13 = .ok (.iconst (-1), 1) := by decide +kernel
theorem dX4_quarrel_14 : decode cX4_quarrel 14 = .ok (.invokevirtual 51, 3) := by decide +kernel
theorem dX4_quarrel_17 : decode cX4_quarrel 17 = .ok (.ireturn, 1) := by decide +kernel
theorem dX4_quarrel_18 : decode cX4_quarrel 18 = .ok (.iload_n 3, 1) := by decide +kernel
theorem dX4_quarrel_19 : decode cX4_quarrel 19 = .ok (.ifCond .eq 15, 3) := by decide +kernel
theorem dX4_quarrel_22 : decode cX4_quarrel 22 = .ok (.iload_n 3, 1) := by decide +kernel
theorem dX4_quarrel_23 : decode cX4_quarrel 23 = .ok (.iconst 1, 1) := by decide +kernel
theorem dX4_quarrel_24 : decode cX4_quarrel 24 = .ok (.if_icmp .eq 10, 3) := by decide +kernel
theorem dX4_quarrel_27 : decode cX4_quarrel 27 = .ok (.aload_n 0, 1) := by decide +kernel
theorem dX4_quarrel_28 : decode cX4_quarrel 28 = .ok (.bipush (-2), 2) := by decide +kernel
theorem dX4_quarrel_30 : decode cX4_quarrel 30 = .ok (.invokevirtual 51, 3) := by decide +kernel
theorem dX4_quarrel_33 : decode cX4_quarrel 33 = .ok (.ireturn, 1) := by decide +kernel
theorem dX4_quarrel_34 : decode cX4_quarrel 34 = .ok (.aload_n 0, 1) := by decide +kernel
theorem dX4_quarrel_35 : decode cX4_quarrel 35 = .ok (.getfield 10, 3) := by decide +kernel
theorem dX4_quarrel_38 : decode cX4_quarrel 38 = .ok (.iload_n 1, 1) := by decide +kernel
theorem dX4_quarrel_39 : decode cX4_quarrel 39 = .ok (.iload_n 2, 1) := by decide +kernel
theorem dX4_quarrel_40 : decode cX4_quarrel 40 = .ok (.invokevirtual 122, 3) := by decide +kernel
theorem dX4_quarrel_43 : decode cX4_quarrel 43 = .ok (.istore 4, 2) := by decide +kernel
theorem dX4_quarrel_45 : decode cX4_quarrel 45 = .ok (.aload_n 0, 1) := by decide +kernel
theorem dX4_quarrel_46 : decode cX4_quarrel 46 = .ok (.getfield 10, 3) := by decide +kernel
theorem dX4_quarrel_49 : decode cX4_quarrel 49 = .ok (.iload_n 1, 1) := by decide +kernel
theorem dX4_quarrel_50 : decode cX4_quarrel 50 = .ok (.iload_n 2, 1) := by decide +kernel
theorem dX4_quarrel_51 : decode cX4_quarrel 51 = .ok (.iload_n 3, 1) := by decide +kernel
theorem dX4_quarrel_52 : decode cX4_quarrel 52 = .ok (.invokevirtual 126, 3) := by decide +kernel
theorem dX4_quarrel_55 : decode cX4_quarrel 55 = .ok (.iload 4, 2) := by decide +kernel
theorem dX4_quarrel_57 : decode cX4_quarrel 57 = .ok (.ireturn, 1) := by decide +kernel
theorem dX4_cold_0 : decode cX4_cold 0 = .ok (.iload_n 1, 1) := by decide +kernel
theorem dX4_cold_1 : decode cX4_cold 1 = .ok (.ifCond .ge 10, 3) := by decide +kernel
theorem dX4_cold_4 : decode cX4_cold 4 = .ok (.aload_n 0, 1) := by decide +kernel
theorem dX4_cold_5 : decode cX4_cold 5 = .ok (.bipush (-4), 2) := by decide +kernel
theorem dX4_cold_7 : decode cX4_cold 7 = .ok (.invokevirtual 51, 3) := by decide +kernel
theorem dX4_cold_10 : decode cX4_cold 10 = .ok (.ireturn, 1) := by decide +kernel
theorem dX4_cold_11 : decode cX4_cold 11 = .ok (.iload_n 1, 1) := by decide +kernel
theorem dX4_cold_12 : decode cX4_cold 12 = .ok (.bipush 9, 2) := by decide +kernel
theorem dX4_cold_14 : decode cX4_cold 14 = .ok (.if_icmp .le 10, 3) := by decide +kernel
theorem dX4_cold_17 : decode cX4_cold 17 = .ok (.aload_n 0, 1) := by decide +kernel
theorem dX4_cold_18 : decode cX4_cold 18 = .ok (.bipush (-6), 2) := by decide +kernel
theorem dX4_cold_20 : decode cX4_cold 20 = .ok (.invokevirtual 51, 3) := by decide +kernel
theorem dX4_cold_23 : decode cX4_cold 23 = .ok (.ireturn, 1) := by decide +kernel
theorem dX4_cold_24 : decode cX4_cold 24 = .ok (.aload_n 0, 1) := by decide +kernel
theorem dX4_cold_25 : decode cX4_cold 25 = .ok (.getfield 10, 3) := by decide +kernel
theorem dX4_cold_28 : decode cX4_cold 28 = .ok (.getfield 109, 3) := by decide +kernel
theorem dX4_cold_31 : decode cX4_cold 31 = .ok (.istore_n 2, 1) := by decide +kernel
theorem dX4_cold_32 : decode cX4_cold 32 = .ok (.aload_n 0, 1) := by decide +kernel
theorem dX4_cold_33 : decode cX4_cold 33 = .ok (.getfield 10, 3) := by decide +kernel
theorem dX4_cold_36 : decode cX4_cold 36 = .ok (.iload_n 1, 1) := by decide +kernel
theorem dX4_cold_37 : decode cX4_cold 37 = .ok (.putfield 109, 3) := by decide +kernel
theorem dX4_cold_40 : decode cX4_cold 40 = .ok (.iload_n 2, 1) := by decide +kernel
theorem dX4_cold_41 : decode cX4_cold 41 = .ok (.ireturn, 1) := by decide +kernel
theorem dX4_put_0 : decode cX4_put 0 = .ok (.aload_n 0, 1) := by decide +kernel
theorem dX4_put_1 : decode cX4_put 1 = .ok (.getfield 10, 3) := by decide +kernel
theorem dX4_put_4 : decode cX4_put 4 = .ok (.iload_n 1, 1) := by decide +kernel
theorem dX4_put_5 : decode cX4_put 5 = .ok (.invokevirtual 66, 3) := by decide +kernel
theorem dX4_put_8 : decode cX4_put 8 = .ok (.ifCond .eq 14, 3) := by decide +kernel
theorem dX4_put_11 : decode cX4_put 11 = .ok (.aload_n 0, 1) := by decide +kernel
theorem dX4_put_12 : decode cX4_put 12 = .ok (.getfield 10, 3) := by decide +kernel
theorem dX4_put_15 : decode cX4_put 15 = .ok (.iload_n 2, 1) := by decide +kernel
theorem dX4_put_16 : decode cX4_put 16 = .ok (.invokevirtual 79, 3) := by decide +kernel
theorem dX4_put_19 : decode cX4_put 19 = .ok (.ifCond .ne 9, 3) := by decide +kernel
theorem dX4_put_22 : decode cX4_put 22 = .ok (.aload_n 0, 1) := by decide +kernel
theorem dX4_put_23 : decode cX4_put 23 = .ok (.iconst (-1), 1) := by decide +kernel
theorem dX4_put_24 : decode cX4_put 24 = .ok (.invokevirtual 51, 3) := by decide +kernel
theorem dX4_put_27 : decode cX4_put 27 = .ok (.ireturn, 1) := by decide +kernel
theorem dX4_put_28 : decode cX4_put 28 = .ok (.aload_n 0, 1) := by decide +kernel
theorem dX4_put_29 : decode cX4_put 29 = .ok (.getfield 10, 3) := by decide +kernel
theorem dX4_put_32 : decode cX4_put 32 = .ok (.getfield 82, 3) := by decide +kernel
theorem dX4_put_35 : decode cX4_put 35 = .ok (.iload_n 2, 1) := by decide +kernel
theorem dX4_put_36 : decode cX4_put 36 = .ok (.aaload, 1) := by decide +kernel
theorem dX4_put_37 : decode cX4_put 37 = .ok (.getfield 130, 3) := by decide +kernel
theorem dX4_put_40 : decode cX4_put 40 = .ok (.ifCond .eq 10, 3) := by decide +kernel
theorem dX4_put_43 : decode cX4_put 43 = .ok (.aload_n 0, 1) := by decide +kernel
theorem dX4_put_44 : decode cX4_put 44 = .ok (.bipush (-3), 2) := by decide +kernel
theorem dX4_put_46 : decode cX4_put 46 = .ok (.invokevirtual 51, 3) := by decide +kernel
theorem dX4_put_49 : decode cX4_put 49 = .ok (.ireturn, 1) := by decide +kernel
theorem dX4_put_50 : decode cX4_put 50 = .ok (.aload_n 0, 1) := by decide +kernel
theorem dX4_put_51 : decode cX4_put 51 = .ok (.getfield 10, 3) := by decide +kernel
theorem dX4_put_54 : decode cX4_put 54 = .ok (.getfield 76, 3) := by decide +kernel
theorem dX4_put_57 : decode cX4_put 57 = .ok (.iload_n 1, 1) := by decide +kernel
theorem dX4_put_58 : decode cX4_put 58 = .ok (.iaload, 1) := by decide +kernel
theorem dX4_put_59 : decode cX4_put 59 = .ok (.istore_n 3, 1) := by decide +kernel
theorem dX4_put_60 : decode cX4_put 60 = .ok (.aload_n 0, 1) := by decide +kernel
theorem dX4_put_61 : decode cX4_put 61 = .ok (.getfield 10, 3) := by decide +kernel
theorem dX4_put_64 : decode cX4_put 64 = .ok (.iload_n 1, 1) := by decide +kernel
theorem dX4_put_65 : decode cX4_put 65 = .ok (.iload_n 2, 1) := by decide +kernel
theorem dX4_put_66 : decode cX4_put 66 = .ok (.invokevirtual 133, 3) := by decide +kernel
theorem dX4_put_69 : decode cX4_put 69 = .ok (.iload_n 3, 1) := by decide +kernel
theorem dX4_put_70 : decode cX4_put 70 = .ok (.ireturn, 1) := by decide +kernel
theorem dX4_out_0 : decode cX4_out 0 = .ok (.aload_n 0, 1) := by decide +kernel
theorem dX4_out_1 : decode cX4_out 1 = .ok (.getfield 10, 3) := by decide +kernel
theorem dX4_out_4 : decode cX4_out 4 = .ok (.invokevirtual 137, 3) := by decide +kernel
theorem dX4_out_7 : decode cX4_out 7 = .ok (.aload_n 0, 1) := by decide +kernel
theorem dX4_out_8 : decode cX4_out 8 = .ok (.getfield 10, 3) := by decide +kernel
theorem dX4_out_11 : decode cX4_out 11 = .ok (.invokevirtual 140, 3) := by decide +kernel
theorem dX4_out_14 : decode cX4_out 14 = .ok (.iadd, 1) := by decide +kernel
theorem dX4_out_15 : decode cX4_out 15 = .ok (.istore_n 1, 1) := by decide +kernel
theorem dX4_out_16 : decode cX4_out 16 = .ok (.aload_n 0, 1) := by decide +kernel
theorem dX4_out_17 : decode cX4_out 17 = .ok (.getfield 10, 3) := by decide +kernel
theorem dX4_out_20 : decode cX4_out 20 = .ok (.invokevirtual 143, 3) := by decide +kernel
theorem dX4_out_23 : decode cX4_out 23 = .ok (.iconst 0, 1) := by decide +kernel
theorem dX4_out_24 : decode cX4_out 24 = .ok (.istore_n 2, 1) := by decide +kernel
theorem dX4_out_25 : decode cX4_out 25 = .ok (.iload_n 2, 1) := by decide +kernel
theorem dX4_out_26 : decode cX4_out 26 = .ok (.aload_n 0, 1) := by decide +kernel
theorem dX4_out_27 : decode cX4_out 27 = .ok (.getfield 10, 3) := by decide +kernel
theorem dX4_out_30 : decode cX4_out 30 = .ok (.getfield 146, 3) := by decide +kernel
theorem dX4_out_33 : decode cX4_out 33 = .ok (.if_icmp .ge 22, 3) := by decide +kernel
theorem dX4_out_36 : decode cX4_out 36 = .ok (.aload_n 0, 1) := by decide +kernel
theorem dX4_out_37 : decode cX4_out 37 = .ok (.getfield 10, 3) := by decide +kernel
theorem dX4_out_40 : decode cX4_out 40 = .ok (.getfield 82, 3) := by decide +kernel
theorem dX4_out_43 : decode cX4_out 43 = .ok (.iload_n 2, 1) := by decide +kernel
theorem dX4_out_44 : decode cX4_out 44 = .ok (.aaload, 1) := by decide +kernel
theorem dX4_out_45 : decode cX4_out 45 = .ok (.iconst 0, 1) := by decide +kernel
theorem dX4_out_46 : decode cX4_out 46 = .ok (.putfield 130, 3) := by decide +kernel
theorem dX4_out_49 : decode cX4_out 49 = .ok (.iinc 2 1, 3) := by decide +kernel
theorem dX4_out_52 : decode cX4_out 52 = .ok (.goto (-27), 3) := by decide +kernel
theorem dX4_out_55 : decode cX4_out 55 = .ok (.iload_n 1, 1) := by decide +kernel
theorem dX4_out_56 : decode cX4_out 56 = .ok (.ireturn, 1) := by decide +kernel
theorem dX4_load_0 : decode cX4_load 0 = .ok (.iload_n 1, 1) := by decide +kernel
theorem dX4_load_1 : decode cX4_load 1 = .ok (.ifCond .lt 14, 3) := by decide +kernel
theorem dX4_load_4 : decode cX4_load 4 = .ok (.iload_n 1, 1) := by decide +kernel
theorem dX4_load_5 : decode cX4_load 5 = .ok (.aload_n 0, 1) := by decide +kernel
theorem dX4_load_6 : decode cX4_load 6 = .ok (.getfield 10, 3) := by decide +kernel
theorem dX4_load_9 : decode cX4_load 9 = .ok (.getfield 149, 3) := by decide +kernel
theorem dX4_load_12 : decode cX4_load 12 = .ok (.if_icmp .le 9, 3) := by decide +kernel
theorem dX4_load_15 : decode cX4_load 15 = .ok (.aload_n 0, 1) := by decide +kernel
theorem dX4_load_16 : decode cX4_load 16 = .ok (.iconst (-1), 1) := by decide +kernel
theorem dX4_load_17 : decode cX4_load 17 = .ok (.invokevirtual 51, 3) := by decide +kernel
theorem dX4_load_20 : decode cX4_load 20 = .ok (.ireturn, 1) := by decide +kernel
theorem dX4_load_21 : decode cX4_load 21 = .ok (.aload_n 0, 1) := by decide +kernel
theorem dX4_load_22 : decode cX4_load 22 = .ok (.getfield 10, 3) := by decide +kernel
theorem dX4_load_25 : decode cX4_load 25 = .ok (.iload_n 1, 1) := by decide +kernel
theorem dX4_load_26 : decode cX4_load 26 = .ok (.invokevirtual 152, 3) := by decide +kernel
theorem dX4_load_29 : decode cX4_load 29 = .ok (.ireturn, 1) := by decide +kernel
theorem dX4_slips_0 : decode cX4_slips 0 = .ok (.iload_n 1, 1) := by decide +kernel
theorem dX4_slips_1 : decode cX4_slips 1 = .ok (.ifCond .eq 15, 3) := by decide +kernel
theorem dX4_slips_4 : decode cX4_slips 4 = .ok (.iload_n 1, 1) := by decide +kernel
theorem dX4_slips_5 : decode cX4_slips 5 = .ok (.iconst 1, 1) := by decide +kernel
theorem dX4_slips_6 : decode cX4_slips 6 = .ok (.if_icmp .eq 10, 3) := by decide +kernel
theorem dX4_slips_9 : decode cX4_slips 9 = .ok (.aload_n 0, 1) := by decide +kernel
theorem dX4_slips_10 : decode cX4_slips 10 = .ok (.bipush (-2), 2) := by decide +kernel
theorem dX4_slips_12 : decode cX4_slips 12 = .ok (.invokevirtual 51, 3) := by decide +kernel
theorem dX4_slips_15 : decode cX4_slips 15 = .ok (.ireturn, 1) := by decide +kernel
theorem dX4_slips_16 : decode cX4_slips 16 = .ok (.aload_n 0, 1) := by decide +kernel
theorem dX4_slips_17 : decode cX4_slips 17 = .ok (.getfield 10, 3) := by decide +kernel
theorem dX4_slips_20 : decode cX4_slips 20 = .ok (.aload_n 0, 1) := by decide +kernel
theorem dX4_slips_21 : decode cX4_slips 21 = .ok (.getfield 10, 3) := by decide +kernel
theorem dX4_slips_24 : decode cX4_slips 24 = .ok (.getfield 76, 3) := by decide +kernel
theorem dX4_slips_27 : decode cX4_slips 27 = .ok (.invokevirtual 155, 3) := by decide +kernel
theorem dX4_slips_30 : decode cX4_slips 30 = .ok (.istore_n 2, 1) := by decide +kernel
theorem dX4_slips_31 : decode cX4_slips 31 = .ok (.iload_n 2, 1) := by decide +kernel
theorem dX4_slips_32 : decode cX4_slips 32 = .ok (.bipush (-9), 2) := by decide +kernel
theorem dX4_slips_34 : decode cX4_slips 34 = .ok (.if_icmp .eq 7, 3) := by decide +kernel
theorem dX4_slips_37 : decode cX4_slips 37 = .ok (.iload_n 1, 1) := by decide +kernel
theorem dX4_slips_38 : decode cX4_slips 38 = .ok (.ifCond .ne 5, 3) := by decide +kernel
theorem dX4_slips_41 : decode cX4_slips 41 = .ok (.iload_n 2, 1) := by decide +kernel
theorem dX4_slips_42 : decode cX4_slips 42 = .ok (.ireturn, 1) := by decide +kernel
theorem dX4_slips_43 : decode cX4_slips 43 = .ok (.aload_n 0, 1) := by decide +kernel
theorem dX4_slips_44 : decode cX4_slips 44 = .ok (.getfield 10, 3) := by decide +kernel
theorem dX4_slips_47 : decode cX4_slips 47 = .ok (.aload_n 0, 1) := by decide +kernel
theorem dX4_slips_48 : decode cX4_slips 48 = .ok (.getfield 10, 3) := by decide +kernel
theorem dX4_slips_51 : decode cX4_slips 51 = .ok (.getfield 76, 3) := by decide +kernel
theorem dX4_slips_54 : decode cX4_slips 54 = .ok (.iload_n 2, 1) := by decide +kernel
theorem dX4_slips_55 : decode cX4_slips 55 = .ok (.invokevirtual 159, 3) := by decide +kernel
theorem dX4_slips_58 : decode cX4_slips 58 = .ok (.ireturn, 1) := by decide +kernel
theorem dX4_lasts_0 : decode cX4_lasts 0 = .ok (.aload_n 0, 1) := by decide +kernel
theorem dX4_lasts_1 : decode cX4_lasts 1 = .ok (.getfield 10, 3) := by decide +kernel
theorem dX4_lasts_4 : decode cX4_lasts 4 = .ok (.aload_n 0, 1) := by decide +kernel
theorem dX4_lasts_5 : decode cX4_lasts 5 = .ok (.getfield 10, 3) := by decide +kernel
theorem dX4_lasts_8 : decode cX4_lasts 8 = .ok (.getfield 76, 3) := by decide +kernel
theorem dX4_lasts_11 : decode cX4_lasts 11 = .ok (.invokevirtual 163, 3) := by decide +kernel
theorem dX4_lasts_14 : decode cX4_lasts 14 = .ok (.ireturn, 1) := by decide +kernel
theorem dX4_cross_0 : decode cX4_cross 0 = .ok (.aload_n 0, 1) := by decide +kernel
theorem dX4_cross_1 : decode cX4_cross 1 = .ok (.getfield 10, 3) := by decide +kernel
theorem dX4_cross_4 : decode cX4_cross 4 = .ok (.iload_n 1, 1) := by decide +kernel
theorem dX4_cross_5 : decode cX4_cross 5 = .ok (.invokevirtual 79, 3) := by decide +kernel
theorem dX4_cross_8 : decode cX4_cross 8 = .ok (.ifCond .ne 9, 3) := by decide +kernel
theorem dX4_cross_11 : decode cX4_cross 11 = .ok (.aload_n 0, 1) := by decide +kernel
theorem dX4_cross_12 : decode cX4_cross 12 = .ok (.iconst (-1), 1) := by decide +kernel
theorem dX4_cross_13 : decode cX4_cross 13 = .ok (.invokevirtual 51, 3) := by decide +kernel
theorem dX4_cross_16 : decode cX4_cross 16 = .ok (.ireturn, 1) := by decide +kernel
theorem dX4_cross_17 : decode cX4_cross 17 = .ok (.aload_n 0, 1) := by decide +kernel
theorem dX4_cross_18 : decode cX4_cross 18 = .ok (.getfield 10, 3) := by decide +kernel
theorem dX4_cross_21 : decode cX4_cross 21 = .ok (.iload_n 1, 1) := by decide +kernel
theorem dX4_cross_22 : decode cX4_cross 22 = .ok (.invokevirtual 166, 3) := by decide +kernel
theorem dX4_cross_25 : decode cX4_cross 25 = .ok (.ifCond .eq 21, 3) := by decide +kernel
theorem dX4_cross_28 : decode cX4_cross 28 = .ok (.aload_n 0, 1) := by decide +kernel
theorem dX4_cross_29 : decode cX4_cross 29 = .ok (.getfield 10, 3) := by decide +kernel
theorem dX4_cross_32 : decode cX4_cross 32 = .ok (.aload_n 0, 1) := by decide +kernel
theorem dX4_cross_33 : decode cX4_cross 33 = .ok (.getfield 10, 3) := by decide +kernel
theorem dX4_cross_36 : decode cX4_cross 36 = .ok (.getfield 76, 3) := by decide +kernel
theorem dX4_cross_39 : decode cX4_cross 39 = .ok (.invokevirtual 163, 3) := by decide +kernel
theorem dX4_cross_42 : decode cX4_cross 42 = .ok (.iconst 1, 1) := by decide +kernel
theorem dX4_cross_43 : decode cX4_cross 43 = .ok (.if_icmp .ge 10, 3) := by decide +kernel
theorem dX4_cross_46 : decode cX4_cross 46 = .ok (.aload_n 0, 1) := by decide +kernel
theorem dX4_cross_47 : decode cX4_cross 47 = .ok (.bipush (-3), 2) := by decide +kernel
theorem dX4_cross_49 : decode cX4_cross 49 = .ok (.invokevirtual 51, 3) := by decide +kernel
theorem dX4_cross_52 : decode cX4_cross 52 = .ok (.ireturn, 1) := by decide +kernel
theorem dX4_cross_53 : decode cX4_cross 53 = .ok (.aload_n 0, 1) := by decide +kernel
theorem dX4_cross_54 : decode cX4_cross 54 = .ok (.getfield 10, 3) := by decide +kernel
theorem dX4_cross_57 : decode cX4_cross 57 = .ok (.iload_n 1, 1) := by decide +kernel
theorem dX4_cross_58 : decode cX4_cross 58 = .ok (.invokevirtual 169, 3) := by decide +kernel
theorem dX4_cross_61 : decode cX4_cross 61 = .ok (.aload_n 0, 1) := by decide +kernel
theorem dX4_cross_62 : decode cX4_cross 62 = .ok (.getfield 10, 3) := by decide +kernel
theorem dX4_cross_65 : decode cX4_cross 65 = .ok (.invokevirtual 140, 3) := by decide +kernel
theorem dX4_cross_68 : decode cX4_cross 68 = .ok (.ireturn, 1) := by decide +kernel
theorem dX4_chains_0 : decode cX4_chains 0 = .ok (.aload_n 0, 1) := by decide +kernel
theorem dX4_chains_1 : decode cX4_chains 1 = .ok (.getfield 36, 3) := by decide +kernel
theorem dX4_chains_4 : decode cX4_chains 4 = .ok (.aload_n 0, 1) := by decide +kernel
theorem dX4_chains_5 : decode cX4_chains 5 = .ok (.getfield 10, 3) := by decide +kernel
theorem dX4_chains_8 : decode cX4_chains 8 = .ok (.aload_n 0, 1) := by decide +kernel
theorem dX4_chains_9 : decode cX4_chains 9 = .ok (.getfield 10, 3) := by decide +kernel
theorem dX4_chains_12 : decode cX4_chains 12 = .ok (.invokevirtual 172, 3) := by decide +kernel
theorem dX4_chains_15 : decode cX4_chains 15 = .ok (.invokevirtual 175, 3) := by decide +kernel
theorem dX4_chains_18 : decode cX4_chains 18 = .ok (.aload_n 0, 1) := by decide +kernel
theorem dX4_chains_19 : decode cX4_chains 19 = .ok (.getfield 36, 3) := by decide +kernel
theorem dX4_chains_22 : decode cX4_chains 22 = .ok (.getfield 179, 3) := by decide +kernel
theorem dX4_chains_25 : decode cX4_chains 25 = .ok (.ireturn, 1) := by decide +kernel
theorem dX4_longest_0 : decode cX4_longest 0 = .ok (.iload_n 1, 1) := by decide +kernel
theorem dX4_longest_1 : decode cX4_longest 1 = .ok (.iconst (-1), 1) := by decide +kernel
theorem dX4_longest_2 : decode cX4_longest 2 = .ok (.if_icmp .eq 20, 3) := by decide +kernel
theorem dX4_longest_5 : decode cX4_longest 5 = .ok (.aload_n 0, 1) := by decide +kernel
theorem dX4_longest_6 : decode cX4_longest 6 = .ok (.getfield 10, 3) := by decide +kernel
theorem dX4_longest_9 : decode cX4_longest 9 = .ok (.iload_n 1, 1) := by decide +kernel
theorem dX4_longest_10 : decode cX4_longest 10 = .ok (.invokevirtual 66, 3) := by decide +kernel
theorem dX4_longest_13 : decode cX4_longest 13 = .ok (.ifCond .ne 9, 3) := by decide +kernel
theorem dX4_longest_16 : decode cX4_longest 16 = .ok (.aload_n 0, 1) := by decide +kernel
theorem dX4_longest_17 : decode cX4_longest 17 = .ok (.iconst (-1), 1) := by decide +kernel
theorem dX4_longest_18 : decode cX4_longest 18 = .ok (.invokevirtual 51, 3) := by decide +kernel
theorem dX4_longest_21 : decode cX4_longest 21 = .ok (.ireturn, 1) := by decide +kernel
theorem dX4_longest_22 : decode cX4_longest 22 = .ok (.aload_n 0, 1) := by decide +kernel
theorem dX4_longest_23 : decode cX4_longest 23 = .ok (.getfield 36, 3) := by decide +kernel
theorem dX4_longest_26 : decode cX4_longest 26 = .ok (.aload_n 0, 1) := by decide +kernel
theorem dX4_longest_27 : decode cX4_longest 27 = .ok (.getfield 10, 3) := by decide +kernel
theorem dX4_longest_30 : decode cX4_longest 30 = .ok (.aload_n 0, 1) := by decide +kernel
theorem dX4_longest_31 : decode cX4_longest 31 = .ok (.getfield 10, 3) := by decide +kernel
theorem dX4_longest_34 : decode cX4_longest 34 = .ok (.invokevirtual 172, 3) := by decide +kernel
theorem dX4_longest_37 : decode cX4_longest 37 = .ok (.invokevirtual 175, 3) := by decide +kernel
theorem dX4_longest_40 : decode cX4_longest 40 = .ok (.aload_n 0, 1) := by decide +kernel
theorem dX4_longest_41 : decode cX4_longest 41 = .ok (.getfield 36, 3) := by decide +kernel
theorem dX4_longest_44 : decode cX4_longest 44 = .ok (.getfield 179, 3) := by decide +kernel
theorem dX4_longest_47 : decode cX4_longest 47 = .ok (.ifCond .ne 6, 3) := by decide +kernel
theorem dX4_longest_50 : decode cX4_longest 50 = .ok (.bipush (-9), 2) := by decide +kernel
theorem dX4_longest_52 : decode cX4_longest 52 = .ok (.ireturn, 1) := by decide +kernel
theorem dX4_longest_53 : decode cX4_longest 53 = .ok (.iload_n 1, 1) := by decide +kernel
theorem dX4_longest_54 : decode cX4_longest 54 = .ok (.iconst (-1), 1) := by decide +kernel
theorem dX4_longest_55 : decode cX4_longest 55 = .ok (.if_icmp .ne 13, 3) := by decide +kernel
theorem dX4_longest_58 : decode cX4_longest 58 = .ok (.aload_n 0, 1) := by decide +kernel
theorem dX4_longest_59 : decode cX4_longest 59 = .ok (.getfield 36, 3) := by decide +kernel
theorem dX4_longest_62 : decode cX4_longest 62 = .ok (.getfield 182, 3) := by decide +kernel
theorem dX4_longest_65 : decode cX4_longest 65 = .ok (.goto 12, 3) := by decide +kernel
theorem dX4_longest_68 : decode cX4_longest 68 = .ok (.aload_n 0, 1) := by decide +kernel
theorem dX4_longest_69 : decode cX4_longest 69 = .ok (.getfield 36, 3) := by decide +kernel
theorem dX4_longest_72 : decode cX4_longest 72 = .ok (.getfield 185, 3) := by decide +kernel
theorem dX4_longest_75 : decode cX4_longest 75 = .ok (.iload_n 1, 1) := by decide +kernel
theorem dX4_longest_76 : decode cX4_longest 76 = .ok (.iaload, 1) := by decide +kernel
theorem dX4_longest_77 : decode cX4_longest 77 = .ok (.ireturn, 1) := by decide +kernel
theorem dX4_makeUp_0 : decode cX4_makeUp 0 = .ok (.aload_n 0, 1) := by decide +kernel
theorem dX4_makeUp_1 : decode cX4_makeUp 1 = .ok (.getfield 36, 3) := by decide +kernel
theorem dX4_makeUp_4 : decode cX4_makeUp 4 = .ok (.aload_n 0, 1) := by decide +kernel
theorem dX4_makeUp_5 : decode cX4_makeUp 5 = .ok (.getfield 10, 3) := by decide +kernel
theorem dX4_makeUp_8 : decode cX4_makeUp 8 = .ok (.aload_n 0, 1) := by decide +kernel
theorem dX4_makeUp_9 : decode cX4_makeUp 9 = .ok (.getfield 10, 3) := by decide +kernel
theorem dX4_makeUp_12 : decode cX4_makeUp 12 = .ok (.invokevirtual 172, 3) := by decide +kernel
theorem dX4_makeUp_15 : decode cX4_makeUp 15 = .ok (.invokevirtual 175, 3) := by decide +kernel
theorem dX4_makeUp_18 : decode cX4_makeUp 18 = .ok (.aload_n 0, 1) := by decide +kernel
theorem dX4_makeUp_19 : decode cX4_makeUp 19 = .ok (.getfield 36, 3) := by decide +kernel
theorem dX4_makeUp_22 : decode cX4_makeUp 22 = .ok (.getfield 188, 3) := by decide +kernel
theorem dX4_makeUp_25 : decode cX4_makeUp 25 = .ok (.ireturn, 1) := by decide +kernel
theorem dX4_worth_0 : decode cX4_worth 0 = .ok (.aload_n 0, 1) := by decide +kernel
theorem dX4_worth_1 : decode cX4_worth 1 = .ok (.getfield 10, 3) := by decide +kernel
theorem dX4_worth_4 : decode cX4_worth 4 = .ok (.iload_n 1, 1) := by decide +kernel
theorem dX4_worth_5 : decode cX4_worth 5 = .ok (.iload_n 2, 1) := by decide +kernel
theorem dX4_worth_6 : decode cX4_worth 6 = .ok (.invokevirtual 118, 3) := by decide +kernel
theorem dX4_worth_9 : decode cX4_worth 9 = .ok (.ifCond .ne 9, 3) := by decide +kernel
theorem dX4_worth_12 : decode cX4_worth 12 = .ok (.aload_n 0, 1) := by decide +kernel
theorem dX4_worth_13 : decode cX4_worth 13 = .ok (.iconst (-1), 1) := by decide +kernel
theorem dX4_worth_14 : decode cX4_worth 14 = .ok (.invokevirtual 51, 3) := by decide +kernel
theorem dX4_worth_17 : decode cX4_worth 17 = .ok (.ireturn, 1) := by decide +kernel
theorem dX4_worth_18 : decode cX4_worth 18 = .ok (.aload_n 0, 1) := by decide +kernel
theorem dX4_worth_19 : decode cX4_worth 19 = .ok (.getfield 10, 3) := by decide +kernel
theorem dX4_worth_22 : decode cX4_worth 22 = .ok (.iload_n 1, 1) := by decide +kernel
theorem dX4_worth_23 : decode cX4_worth 23 = .ok (.iload_n 2, 1) := by decide +kernel
theorem dX4_worth_24 : decode cX4_worth 24 = .ok (.invokevirtual 122, 3) := by decide +kernel
theorem dX4_worth_27 : decode cX4_worth 27 = .ok (.ifCond .ne 10, 3) := by decide +kernel
theorem dX4_worth_30 : decode cX4_worth 30 = .ok (.aload_n 0, 1) := by decide +kernel
theorem dX4_worth_31 : decode cX4_worth 31 = .ok (.bipush (-3), 2) := by decide +kernel
theorem dX4_worth_33 : decode cX4_worth 33 = .ok (.invokevirtual 51, 3) := by decide +kernel
theorem dX4_worth_36 : decode cX4_worth 36 = .ok (.ireturn, 1) := by decide +kernel
theorem dX4_worth_37 : decode cX4_worth 37 = .ok (.aload_n 0, 1) := by decide +kernel
theorem dX4_worth_38 : decode cX4_worth 38 = .ok (.getfield 36, 3) := by decide +kernel
theorem dX4_worth_41 : decode cX4_worth 41 = .ok (.aload_n 0, 1) := by decide +kernel
theorem dX4_worth_42 : decode cX4_worth 42 = .ok (.getfield 10, 3) := by decide +kernel
theorem dX4_worth_45 : decode cX4_worth 45 = .ok (.aload_n 0, 1) := by decide +kernel
theorem dX4_worth_46 : decode cX4_worth 46 = .ok (.getfield 10, 3) := by decide +kernel
theorem dX4_worth_49 : decode cX4_worth 49 = .ok (.invokevirtual 172, 3) := by decide +kernel
theorem dX4_worth_52 : decode cX4_worth 52 = .ok (.invokevirtual 175, 3) := by decide +kernel
theorem dX4_worth_55 : decode cX4_worth 55 = .ok (.aload_n 0, 1) := by decide +kernel
theorem dX4_worth_56 : decode cX4_worth 56 = .ok (.getfield 36, 3) := by decide +kernel
theorem dX4_worth_59 : decode cX4_worth 59 = .ok (.getfield 182, 3) := by decide +kernel
theorem dX4_worth_62 : decode cX4_worth 62 = .ok (.istore_n 3, 1) := by decide +kernel
theorem dX4_worth_63 : decode cX4_worth 63 = .ok (.aload_n 0, 1) := by decide +kernel
theorem dX4_worth_64 : decode cX4_worth 64 = .ok (.getfield 16, 3) := by decide +kernel
theorem dX4_worth_67 : decode cX4_worth 67 = .ok (.aload_n 0, 1) := by decide +kernel
theorem dX4_worth_68 : decode cX4_worth 68 = .ok (.getfield 10, 3) := by decide +kernel
theorem dX4_worth_71 : decode cX4_worth 71 = .ok (.invokevirtual 191, 3) := by decide +kernel
theorem dX4_worth_74 : decode cX4_worth 74 = .ok (.aload_n 0, 1) := by decide +kernel
theorem dX4_worth_75 : decode cX4_worth 75 = .ok (.getfield 16, 3) := by decide +kernel
theorem dX4_worth_78 : decode cX4_worth 78 = .ok (.iload_n 1, 1) := by decide +kernel
theorem dX4_worth_79 : decode cX4_worth 79 = .ok (.iload_n 2, 1) := by decide +kernel
theorem dX4_worth_80 : decode cX4_worth 80 = .ok (.iconst 0, 1) := by decide +kernel
theorem dX4_worth_81 : decode cX4_worth 81 = .ok (.invokevirtual 126, 3) := by decide +kernel
theorem dX4_worth_84 : decode cX4_worth 84 = .ok (.aload_n 0, 1) := by decide +kernel
theorem dX4_worth_85 : decode cX4_worth 85 = .ok (.getfield 36, 3) := by decide +kernel
theorem dX4_worth_88 : decode cX4_worth 88 = .ok (.aload_n 0, 1) := by decide +kernel
theorem dX4_worth_89 : decode cX4_worth 89 = .ok (.getfield 16, 3) := by decide +kernel
theorem dX4_worth_92 : decode cX4_worth 92 = .ok (.aload_n 0, 1) := by decide +kernel
theorem dX4_worth_93 : decode cX4_worth 93 = .ok (.getfield 16, 3) := by decide +kernel
theorem dX4_worth_96 : decode cX4_worth 96 = .ok (.invokevirtual 172, 3) := by decide +kernel
theorem dX4_worth_99 : decode cX4_worth 99 = .ok (.invokevirtual 175, 3) := by decide +kernel
theorem dX4_worth_102 : decode cX4_worth 102 = .ok (.aload_n 0, 1) := by decide +kernel
theorem dX4_worth_103 : decode cX4_worth 103 = .ok (.getfield 36, 3) := by decide +kernel
theorem dX4_worth_106 : decode cX4_worth 106 = .ok (.getfield 182, 3) := by decide +kernel
theorem dX4_worth_109 : decode cX4_worth 109 = .ok (.iload_n 3, 1) := by decide +kernel
theorem dX4_worth_110 : decode cX4_worth 110 = .ok (.isub, 1) := by decide +kernel
theorem dX4_worth_111 : decode cX4_worth 111 = .ok (.ireturn, 1) := by decide +kernel
theorem dX4_change_0 : decode cX4_change 0 = .ok (.aload_n 0, 1) := by decide +kernel
theorem dX4_change_1 : decode cX4_change 1 = .ok (.getfield 36, 3) := by decide +kernel
theorem dX4_change_4 : decode cX4_change 4 = .ok (.aload_n 0, 1) := by decide +kernel
theorem dX4_change_5 : decode cX4_change 5 = .ok (.getfield 10, 3) := by decide +kernel
theorem dX4_change_8 : decode cX4_change 8 = .ok (.invokevirtual 195, 3) := by decide +kernel
theorem dX4_change_11 : decode cX4_change 11 = .ok (.ireturn, 1) := by decide +kernel
theorem dX4_flood_0 : decode cX4_flood 0 = .ok (.aload_n 0, 1) := by decide +kernel
theorem dX4_flood_1 : decode cX4_flood 1 = .ok (.getfield 10, 3) := by decide +kernel
theorem dX4_flood_4 : decode cX4_flood 4 = .ok (.aload_n 0, 1) := by decide +kernel
theorem dX4_flood_5 : decode cX4_flood 5 = .ok (.getfield 10, 3) := by decide +kernel
theorem dX4_flood_8 : decode cX4_flood 8 = .ok (.getfield 76, 3) := by decide +kernel
theorem dX4_flood_11 : decode cX4_flood 11 = .ok (.invokevirtual 155, 3) := by decide +kernel
theorem dX4_flood_14 : decode cX4_flood 14 = .ok (.bipush (-9), 2) := by decide +kernel
theorem dX4_flood_16 : decode cX4_flood 16 = .ok (.if_icmp .eq 6, 3) := by decide +kernel
theorem dX4_flood_19 : decode cX4_flood 19 = .ok (.bipush (-9), 2) := by decide +kernel
theorem dX4_flood_21 : decode cX4_flood 21 = .ok (.ireturn, 1) := by decide +kernel
theorem dX4_flood_22 : decode cX4_flood 22 = .ok (.bipush 9, 2) := by decide +kernel
theorem dX4_flood_24 : decode cX4_flood 24 = .ok (.istore_n 1, 1) := by decide +kernel
theorem dX4_flood_25 : decode cX4_flood 25 = .ok (.iconst 0, 1) := by decide +kernel
theorem dX4_flood_26 : decode cX4_flood 26 = .ok (.istore_n 2, 1) := by decide +kernel
theorem dX4_flood_27 : decode cX4_flood 27 = .ok (.iload_n 2, 1) := by decide +kernel
theorem dX4_flood_28 : decode cX4_flood 28 = .ok (.aload_n 0, 1) := by decide +kernel
theorem dX4_flood_29 : decode cX4_flood 29 = .ok (.getfield 10, 3) := by decide +kernel
theorem dX4_flood_32 : decode cX4_flood 32 = .ok (.getfield 149, 3) := by decide +kernel
theorem dX4_flood_35 : decode cX4_flood 35 = .ok (.if_icmp .ge 44, 3) := by decide +kernel
theorem dX4_flood_38 : decode cX4_flood 38 = .ok (.iload_n 1, 1) := by decide +kernel
theorem dX4_flood_39 : decode cX4_flood 39 = .ok (.aload_n 0, 1) := by decide +kernel
theorem dX4_flood_40 : decode cX4_flood 40 = .ok (.getfield 10, 3) := by decide +kernel
theorem dX4_flood_43 : decode cX4_flood 43 = .ok (.getfield 82, 3) := by decide +kernel
theorem dX4_flood_46 : decode cX4_flood 46 = .ok (.aload_n 0, 1) := by decide +kernel
theorem dX4_flood_47 : decode cX4_flood 47 = .ok (.getfield 10, 3) := by decide +kernel
theorem dX4_flood_50 : decode cX4_flood 50 = .ok (.getfield 76, 3) := by decide +kernel
theorem dX4_flood_53 : decode cX4_flood 53 = .ok (.iload_n 2, 1) := by decide +kernel
theorem dX4_flood_54 : decode cX4_flood 54 = .ok (.iaload, 1) := by decide +kernel
theorem dX4_flood_55 : decode cX4_flood 55 = .ok (.aaload, 1) := by decide +kernel
theorem dX4_flood_56 : decode cX4_flood 56 = .ok (.invokevirtual 103, 3) := by decide +kernel
theorem dX4_flood_59 : decode cX4_flood 59 = .ok (.aload_n 0, 1) := by decide +kernel
theorem dX4_flood_60 : decode cX4_flood 60 = .ok (.getfield 10, 3) := by decide +kernel
theorem dX4_flood_63 : decode cX4_flood 63 = .ok (.getfield 70, 3) := by decide +kernel
theorem dX4_flood_66 : decode cX4_flood 66 = .ok (.iload_n 2, 1) := by decide +kernel
theorem dX4_flood_67 : decode cX4_flood 67 = .ok (.iaload, 1) := by decide +kernel
theorem dX4_flood_68 : decode cX4_flood 68 = .ok (.isub, 1) := by decide +kernel
theorem dX4_flood_69 : decode cX4_flood 69 = .ok (.invokestatic 199, 3) := by decide +kernel
theorem dX4_flood_72 : decode cX4_flood 72 = .ok (.istore_n 1, 1) := by decide +kernel
theorem dX4_flood_73 : decode cX4_flood 73 = .ok (.iinc 2 1, 3) := by decide +kernel
theorem dX4_flood_76 : decode cX4_flood 76 = .ok (.goto (-49), 3) := by decide +kernel
theorem dX4_flood_79 : decode cX4_flood 79 = .ok (.iload_n 1, 1) := by decide +kernel
theorem dX4_flood_80 : decode cX4_flood 80 = .ok (.ireturn, 1) := by decide +kernel
theorem dX4_overs_0 : decode cX4_overs 0 = .ok (.iconst 0, 1) := by decide +kernel
theorem dX4_overs_1 : decode cX4_overs 1 = .ok (.aload_n 0, 1) := by decide +kernel
theorem dX4_overs_2 : decode cX4_overs 2 = .ok (.getfield 10, 3) := by decide +kernel
theorem dX4_overs_5 : decode cX4_overs 5 = .ok (.aload_n 0, 1) := by decide +kernel
theorem dX4_overs_6 : decode cX4_overs 6 = .ok (.getfield 10, 3) := by decide +kernel
theorem dX4_overs_9 : decode cX4_overs 9 = .ok (.getfield 76, 3) := by decide +kernel
theorem dX4_overs_12 : decode cX4_overs 12 = .ok (.invokevirtual 163, 3) := by decide +kernel
theorem dX4_overs_15 : decode cX4_overs 15 = .ok (.aload_n 0, 1) := by decide +kernel
theorem dX4_overs_16 : decode cX4_overs 16 = .ok (.getfield 10, 3) := by decide +kernel
theorem dX4_overs_19 : decode cX4_overs 19 = .ok (.invokevirtual 204, 3) := by decide +kernel
theorem dX4_overs_22 : decode cX4_overs 22 = .ok (.invokestatic 199, 3) := by decide +kernel
theorem dX4_overs_25 : decode cX4_overs 25 = .ok (.invokestatic 207, 3) := by decide +kernel
theorem dX4_overs_28 : decode cX4_overs 28 = .ok (.ireturn, 1) := by decide +kernel
theorem dX4_owes_0 : decode cX4_owes 0 = .ok (.aload_n 0, 1) := by decide +kernel
theorem dX4_owes_1 : decode cX4_owes 1 = .ok (.getfield 10, 3) := by decide +kernel
theorem dX4_owes_4 : decode cX4_owes 4 = .ok (.iload_n 1, 1) := by decide +kernel
theorem dX4_owes_5 : decode cX4_owes 5 = .ok (.iload_n 2, 1) := by decide +kernel
theorem dX4_owes_6 : decode cX4_owes 6 = .ok (.invokevirtual 118, 3) := by decide +kernel
theorem dX4_owes_9 : decode cX4_owes 9 = .ok (.ifCond .ne 9, 3) := by decide +kernel
theorem dX4_owes_12 : decode cX4_owes 12 = .ok (.aload_n 0, 1) := by decide +kernel
theorem dX4_owes_13 : decode cX4_owes 13 = .ok (.iconst (-1), 1) := by decide +kernel
theorem dX4_owes_14 : decode cX4_owes 14 = .ok (.invokevirtual 51, 3) := by decide +kernel
theorem dX4_owes_17 : decode cX4_owes 17 = .ok (.ireturn, 1) := by decide +kernel
theorem dX4_owes_18 : decode cX4_owes 18 = .ok (.aload_n 0, 1) := by decide +kernel
theorem dX4_owes_19 : decode cX4_owes 19 = .ok (.getfield 10, 3) := by decide +kernel
theorem dX4_owes_22 : decode cX4_owes 22 = .ok (.iload_n 1, 1) := by decide +kernel
theorem dX4_owes_23 : decode cX4_owes 23 = .ok (.iload_n 2, 1) := by decide +kernel
theorem dX4_owes_24 : decode cX4_owes 24 = .ok (.invokevirtual 210, 3) := by decide +kernel
theorem dX4_owes_27 : decode cX4_owes 27 = .ok (.ireturn, 1) := by decide +kernel
theorem dX4_owed_0 : decode cX4_owed 0 = .ok (.aload_n 0, 1) := by decide +kernel
theorem dX4_owed_1 : decode cX4_owed 1 = .ok (.getfield 10, 3) := by decide +kernel
theorem dX4_owed_4 : decode cX4_owed 4 = .ok (.iload_n 1, 1) := by decide +kernel
theorem dX4_owed_5 : decode cX4_owed 5 = .ok (.invokevirtual 79, 3) := by decide +kernel
theorem dX4_owed_8 : decode cX4_owed 8 = .ok (.ifCond .ne 12, 3) := by decide +kernel
theorem dX4_owed_11 : decode cX4_owed 11 = .ok (.ldc 213, 2) := by decide +kernel
theorem dX4_owed_13 : decode cX4_owed 13 = .ok (.aload_n 0, 1) := by decide +kernel
theorem dX4_owed_14 : decode cX4_owed 14 = .ok (.iconst (-1), 1) := by decide +kernel
theorem dX4_owed_15 : decode cX4_owed 15 = .ok (.invokevirtual 51, 3) := by decide +kernel
theorem dX4_owed_18 : decode cX4_owed 18 = .ok (.isub, 1) := by decide +kernel
theorem dX4_owed_19 : decode cX4_owed 19 = .ok (.ireturn, 1) := by decide +kernel
theorem dX4_owed_20 : decode cX4_owed 20 = .ok (.iconst 0, 1) := by decide +kernel
theorem dX4_owed_21 : decode cX4_owed 21 = .ok (.istore_n 2, 1) := by decide +kernel
theorem dX4_owed_22 : decode cX4_owed 22 = .ok (.iconst 0, 1) := by decide +kernel
theorem dX4_owed_23 : decode cX4_owed 23 = .ok (.istore_n 3, 1) := by decide +kernel
theorem dX4_owed_24 : decode cX4_owed 24 = .ok (.iload_n 3, 1) := by decide +kernel
theorem dX4_owed_25 : decode cX4_owed 25 = .ok (.aload_n 0, 1) := by decide +kernel
theorem dX4_owed_26 : decode cX4_owed 26 = .ok (.getfield 10, 3) := by decide +kernel
theorem dX4_owed_29 : decode cX4_owed 29 = .ok (.getfield 146, 3) := by decide +kernel
theorem dX4_owed_32 : decode cX4_owed 32 = .ok (.if_icmp .ge 31, 3) := by decide +kernel
theorem dX4_owed_35 : decode cX4_owed 35 = .ok (.iload_n 2, 1) := by decide +kernel
theorem dX4_owed_36 : decode cX4_owed 36 = .ok (.aload_n 0, 1) := by decide +kernel
theorem dX4_owed_37 : decode cX4_owed 37 = .ok (.getfield 10, 3) := by decide +kernel
theorem dX4_owed_40 : decode cX4_owed 40 = .ok (.iload_n 3, 1) := by decide +kernel
theorem dX4_owed_41 : decode cX4_owed 41 = .ok (.iload_n 1, 1) := by decide +kernel
theorem dX4_owed_42 : decode cX4_owed 42 = .ok (.invokevirtual 210, 3) := by decide +kernel
theorem dX4_owed_45 : decode cX4_owed 45 = .ok (.aload_n 0, 1) := by decide +kernel
theorem dX4_owed_46 : decode cX4_owed 46 = .ok (.getfield 10, 3) := by decide +kernel
theorem dX4_owed_49 : decode cX4_owed 49 = .ok (.iload_n 1, 1) := by decide +kernel
theorem dX4_owed_50 : decode cX4_owed 50 = .ok (.iload_n 3, 1) := by decide +kernel
theorem dX4_owed_51 : decode cX4_owed 51 = .ok (.invokevirtual 210, 3) := by decide +kernel
theorem dX4_owed_54 : decode cX4_owed 54 = .ok (.isub, 1) := by decide +kernel
theorem dX4_owed_55 : decode cX4_owed 55 = .ok (.iadd, 1) := by decide +kernel
theorem dX4_owed_56 : decode cX4_owed 56 = .ok (.istore_n 2, 1) := by decide +kernel
theorem dX4_owed_57 : decode cX4_owed 57 = .ok (.iinc 3 1, 3) := by decide +kernel
theorem dX4_owed_60 : decode cX4_owed 60 = .ok (.goto (-36), 3) := by decide +kernel
theorem dX4_owed_63 : decode cX4_owed 63 = .ok (.iload_n 2, 1) := by decide +kernel
theorem dX4_owed_64 : decode cX4_owed 64 = .ok (.ireturn, 1) := by decide +kernel
theorem dX4_strike_0 : decode cX4_strike 0 = .ok (.aload_n 0, 1) := by decide +kernel
theorem dX4_strike_1 : decode cX4_strike 1 = .ok (.getfield 10, 3) := by decide +kernel
theorem dX4_strike_4 : decode cX4_strike 4 = .ok (.invokevirtual 214, 3) := by decide +kernel
theorem dX4_strike_7 : decode cX4_strike 7 = .ok (.aload_n 0, 1) := by decide +kernel
theorem dX4_strike_8 : decode cX4_strike 8 = .ok (.getfield 10, 3) := by decide +kernel
theorem dX4_strike_11 : decode cX4_strike 11 = .ok (.invokevirtual 217, 3) := by decide +kernel
theorem dX4_strike_14 : decode cX4_strike 14 = .ok (.iadd, 1) := by decide +kernel
theorem dX4_strike_15 : decode cX4_strike 15 = .ok (.ireturn, 1) := by decide +kernel
theorem dX4_wet_0 : decode cX4_wet 0 = .ok (.iload_n 1, 1) := by decide +kernel
theorem dX4_wet_1 : decode cX4_wet 1 = .ok (.aload_n 0, 1) := by decide +kernel
theorem dX4_wet_2 : decode cX4_wet 2 = .ok (.getfield 10, 3) := by decide +kernel
theorem dX4_wet_5 : decode cX4_wet 5 = .ok (.invokevirtual 172, 3) := by decide +kernel
theorem dX4_wet_8 : decode cX4_wet 8 = .ok (.iconst (-1), 1) := by decide +kernel
theorem dX4_wet_9 : decode cX4_wet 9 = .ok (.ixor, 1) := by decide +kernel
theorem dX4_wet_10 : decode cX4_wet 10 = .ok (.iand, 1) := by decide +kernel
theorem dX4_wet_11 : decode cX4_wet 11 = .ok (.ifCond .eq 9, 3) := by decide +kernel
theorem dX4_wet_14 : decode cX4_wet 14 = .ok (.aload_n 0, 1) := by decide +kernel
theorem dX4_wet_15 : decode cX4_wet 15 = .ok (.iconst (-1), 1) := by decide +kernel
theorem dX4_wet_16 : decode cX4_wet 16 = .ok (.invokevirtual 51, 3) := by decide +kernel
theorem dX4_wet_19 : decode cX4_wet 19 = .ok (.ireturn, 1) := by decide +kernel
theorem dX4_wet_20 : decode cX4_wet 20 = .ok (.iload_n 2, 1) := by decide +kernel
theorem dX4_wet_21 : decode cX4_wet 21 = .ok (.iconst (-1), 1) := by decide +kernel
theorem dX4_wet_22 : decode cX4_wet 22 = .ok (.if_icmp .eq 28, 3) := by decide +kernel
theorem dX4_wet_25 : decode cX4_wet 25 = .ok (.aload_n 0, 1) := by decide +kernel
theorem dX4_wet_26 : decode cX4_wet 26 = .ok (.getfield 10, 3) := by decide +kernel
theorem dX4_wet_29 : decode cX4_wet 29 = .ok (.iload_n 2, 1) := by decide +kernel
theorem dX4_wet_30 : decode cX4_wet 30 = .ok (.invokevirtual 79, 3) := by decide +kernel
theorem dX4_wet_33 : decode cX4_wet 33 = .ok (.ifCond .eq 11, 3) := by decide +kernel
theorem dX4_wet_36 : decode cX4_wet 36 = .ok (.iload_n 1, 1) := by decide +kernel
theorem dX4_wet_37 : decode cX4_wet 37 = .ok (.iconst 1, 1) := by decide +kernel
theorem dX4_wet_38 : decode cX4_wet 38 = .ok (.iload_n 2, 1) := by decide +kernel
theorem dX4_wet_39 : decode cX4_wet 39 = .ok (.ishl, 1) := by decide +kernel
theorem dX4_wet_40 : decode cX4_wet 40 = .ok (.iand, 1) := by decide +kernel
theorem dX4_wet_41 : decode cX4_wet 41 = .ok (.ifCond .ne 9, 3) := by decide +kernel
theorem dX4_wet_44 : decode cX4_wet 44 = .ok (.aload_n 0, 1) := by decide +kernel
theorem dX4_wet_45 : decode cX4_wet 45 = .ok (.iconst (-1), 1) := by decide +kernel
theorem dX4_wet_46 : decode cX4_wet 46 = .ok (.invokevirtual 51, 3) := by decide +kernel
theorem dX4_wet_49 : decode cX4_wet 49 = .ok (.ireturn, 1) := by decide +kernel
theorem dX4_wet_50 : decode cX4_wet 50 = .ok (.iload_n 1, 1) := by decide +kernel
theorem dX4_wet_51 : decode cX4_wet 51 = .ok (.invokestatic 220, 3) := by decide +kernel
theorem dX4_wet_54 : decode cX4_wet 54 = .ok (.aload_n 0, 1) := by decide +kernel
theorem dX4_wet_55 : decode cX4_wet 55 = .ok (.getfield 10, 3) := by decide +kernel
theorem dX4_wet_58 : decode cX4_wet 58 = .ok (.getfield 149, 3) := by decide +kernel
theorem dX4_wet_61 : decode cX4_wet 61 = .ok (.if_icmp .eq 5, 3) := by decide +kernel
theorem dX4_wet_64 : decode cX4_wet 64 = .ok (.iconst 0, 1) := by decide +kernel
theorem dX4_wet_65 : decode cX4_wet 65 = .ok (.ireturn, 1) := by decide +kernel
theorem dX4_wet_66 : decode cX4_wet 66 = .ok (.aload_n 0, 1) := by decide +kernel
theorem dX4_wet_67 : decode cX4_wet 67 = .ok (.getfield 36, 3) := by decide +kernel
theorem dX4_wet_70 : decode cX4_wet 70 = .ok (.aload_n 0, 1) := by decide +kernel
theorem dX4_wet_71 : decode cX4_wet 71 = .ok (.getfield 10, 3) := by decide +kernel
theorem dX4_wet_74 : decode cX4_wet 74 = .ok (.iload_n 1, 1) := by decide +kernel
theorem dX4_wet_75 : decode cX4_wet 75 = .ok (.invokevirtual 175, 3) := by decide +kernel
theorem dX4_wet_78 : decode cX4_wet 78 = .ok (.iload_n 2, 1) := by decide +kernel
theorem dX4_wet_79 : decode cX4_wet 79 = .ok (.iconst (-1), 1) := by decide +kernel
theorem dX4_wet_80 : decode cX4_wet 80 = .ok (.if_icmp .ne 13, 3) := by decide +kernel
theorem dX4_wet_83 : decode cX4_wet 83 = .ok (.aload_n 0, 1) := by decide +kernel
theorem dX4_wet_84 : decode cX4_wet 84 = .ok (.getfield 36, 3) := by decide +kernel
theorem dX4_wet_87 : decode cX4_wet 87 = .ok (.getfield 179, 3) := by decide +kernel
theorem dX4_wet_90 : decode cX4_wet 90 = .ok (.goto 12, 3) := by decide +kernel
theorem dX4_wet_93 : decode cX4_wet 93 = .ok (.aload_n 0, 1) := by decide +kernel
theorem dX4_wet_94 : decode cX4_wet 94 = .ok (.getfield 36, 3) := by decide +kernel
theorem dX4_wet_97 : decode cX4_wet 97 = .ok (.getfield 225, 3) := by decide +kernel
theorem dX4_wet_100 : decode cX4_wet 100 = .ok (.iload_n 2, 1) := by decide +kernel
theorem dX4_wet_101 : decode cX4_wet 101 = .ok (.iaload, 1) := by decide +kernel
theorem dX4_wet_102 : decode cX4_wet 102 = .ok (.ireturn, 1) := by decide +kernel
theorem dX4_row_0 : decode cX4_row 0 = .ok (.iload_n 1, 1) := by decide +kernel
theorem dX4_row_1 : decode cX4_row 1 = .ok (.ifCond .ge 10, 3) := by decide +kernel
theorem dX4_row_4 : decode cX4_row 4 = .ok (.aload_n 0, 1) := by decide +kernel
theorem dX4_row_5 : decode cX4_row 5 = .ok (.bipush (-4), 2) := by decide +kernel
theorem dX4_row_7 : decode cX4_row 7 = .ok (.invokevirtual 51, 3) := by decide +kernel
theorem dX4_row_10 : decode cX4_row 10 = .ok (.ireturn, 1) := by decide +kernel
theorem dX4_row_11 : decode cX4_row 11 = .ok (.iload_n 1, 1) := by decide +kernel
theorem dX4_row_12 : decode cX4_row 12 = .ok (.bipush 7, 2) := by decide +kernel
theorem dX4_row_14 : decode cX4_row 14 = .ok (.if_icmp .ge 11, 3) := by decide +kernel
theorem dX4_row_17 : decode cX4_row 17 = .ok (.aload_n 0, 1) := by decide +kernel
theorem dX4_row_18 : decode cX4_row 18 = .ok (.getfield 44, 3) := by decide +kernel
theorem dX4_row_21 : decode cX4_row 21 = .ok (.iconst 5, 1) := by decide +kernel
theorem dX4_row_22 : decode cX4_row 22 = .ok (.if_icmp .lt 10, 3) := by decide +kernel
theorem dX4_row_25 : decode cX4_row 25 = .ok (.aload_n 0, 1) := by decide +kernel
theorem dX4_row_26 : decode cX4_row 26 = .ok (.bipush (-6), 2) := by decide +kernel
theorem dX4_row_28 : decode cX4_row 28 = .ok (.invokevirtual 51, 3) := by decide +kernel
theorem dX4_row_31 : decode cX4_row 31 = .ok (.ireturn, 1) := by decide +kernel
theorem dX4_row_32 : decode cX4_row 32 = .ok (.aload_n 0, 1) := by decide +kernel
theorem dX4_row_33 : decode cX4_row 33 = .ok (.getfield 40, 3) := by decide +kernel
theorem dX4_row_36 : decode cX4_row 36 = .ok (.aload_n 0, 1) := by decide +kernel
theorem dX4_row_37 : decode cX4_row 37 = .ok (.getfield 44, 3) := by decide +kernel
theorem dX4_row_40 : decode cX4_row 40 = .ok (.iload_n 1, 1) := by decide +kernel
theorem dX4_row_41 : decode cX4_row 41 = .ok (.iastore, 1) := by decide +kernel
theorem dX4_row_42 : decode cX4_row 42 = .ok (.aload_n 0, 1) := by decide +kernel
theorem dX4_row_43 : decode cX4_row 43 = .ok (.dup, 1) := by decide +kernel
theorem dX4_row_44 : decode cX4_row 44 = .ok (.getfield 44, 3) := by decide +kernel
theorem dX4_row_47 : decode cX4_row 47 = .ok (.iconst 1, 1) := by decide +kernel
theorem dX4_row_48 : decode cX4_row 48 = .ok (.iadd, 1) := by decide +kernel
theorem dX4_row_49 : decode cX4_row 49 = .ok (.putfield 44, 3) := by decide +kernel
theorem dX4_row_52 : decode cX4_row 52 = .ok (.aload_n 0, 1) := by decide +kernel
theorem dX4_row_53 : decode cX4_row 53 = .ok (.getfield 44, 3) := by decide +kernel
theorem dX4_row_56 : decode cX4_row 56 = .ok (.ireturn, 1) := by decide +kernel
theorem dX4_judge_0 : decode cX4_judge 0 = .ok (.aload_n 0, 1) := by decide +kernel
theorem dX4_judge_1 : decode cX4_judge 1 = .ok (.getfield 10, 3) := by decide +kernel
theorem dX4_judge_4 : decode cX4_judge 4 = .ok (.aload_n 0, 1) := by decide +kernel
theorem dX4_judge_5 : decode cX4_judge 5 = .ok (.getfield 40, 3) := by decide +kernel
theorem dX4_judge_8 : decode cX4_judge 8 = .ok (.aload_n 0, 1) := by decide +kernel
theorem dX4_judge_9 : decode cX4_judge 9 = .ok (.getfield 44, 3) := by decide +kernel
theorem dX4_judge_12 : decode cX4_judge 12 = .ok (.invokevirtual 228, 3) := by decide +kernel
theorem dX4_judge_15 : decode cX4_judge 15 = .ok (.istore_n 1, 1) := by decide +kernel
theorem dX4_judge_16 : decode cX4_judge 16 = .ok (.aload_n 0, 1) := by decide +kernel
theorem dX4_judge_17 : decode cX4_judge 17 = .ok (.iconst 0, 1) := by decide +kernel
theorem dX4_judge_18 : decode cX4_judge 18 = .ok (.putfield 44, 3) := by decide +kernel
theorem dX4_judge_21 : decode cX4_judge 21 = .ok (.iload_n 1, 1) := by decide +kernel
theorem dX4_judge_22 : decode cX4_judge 22 = .ok (.ireturn, 1) := by decide +kernel
theorem dX4_seeds_0 : decode cX4_seeds 0 = .ok (.iload_n 1, 1) := by decide +kernel
theorem dX4_seeds_1 : decode cX4_seeds 1 = .ok (.iconst 1, 1) := by decide +kernel
theorem dX4_seeds_2 : decode cX4_seeds 2 = .ok (.if_icmp .ge 10, 3) := by decide +kernel
theorem dX4_seeds_5 : decode cX4_seeds 5 = .ok (.aload_n 0, 1) := by decide +kernel
theorem dX4_seeds_6 : decode cX4_seeds 6 = .ok (.bipush (-4), 2) := by decide +kernel
theorem dX4_seeds_8 : decode cX4_seeds 8 = .ok (.invokevirtual 51, 3) := by decide +kernel
theorem dX4_seeds_11 : decode cX4_seeds 11 = .ok (.ireturn, 1) := by decide +kernel
theorem dX4_seeds_12 : decode cX4_seeds 12 = .ok (.iload_n 1, 1) := by decide +kernel
theorem dX4_seeds_13 : decode cX4_seeds 13 = .ok (.bipush 60, 2) := by decide +kernel
theorem dX4_seeds_15 : decode cX4_seeds 15 = .ok (.if_icmp .le 10, 3) := by decide +kernel
theorem dX4_seeds_18 : decode cX4_seeds 18 = .ok (.aload_n 0, 1) := by decide +kernel
theorem dX4_seeds_19 : decode cX4_seeds 19 = .ok (.bipush (-6), 2) := by decide +kernel
theorem dX4_seeds_21 : decode cX4_seeds 21 = .ok (.invokevirtual 51, 3) := by decide +kernel
theorem dX4_seeds_24 : decode cX4_seeds 24 = .ok (.ireturn, 1) := by decide +kernel
theorem dX4_seeds_25 : decode cX4_seeds 25 = .ok (.aload_n 0, 1) := by decide +kernel
theorem dX4_seeds_26 : decode cX4_seeds 26 = .ok (.getfield 10, 3) := by decide +kernel
theorem dX4_seeds_29 : decode cX4_seeds 29 = .ok (.getfield 146, 3) := by decide +kernel
theorem dX4_seeds_32 : decode cX4_seeds 32 = .ok (.ifCond .ne 10, 3) := by decide +kernel
theorem dX4_seeds_35 : decode cX4_seeds 35 = .ok (.aload_n 0, 1) := by decide +kernel
theorem dX4_seeds_36 : decode cX4_seeds 36 = .ok (.bipush (-3), 2) := by decide +kernel
theorem dX4_seeds_38 : decode cX4_seeds 38 = .ok (.invokevirtual 51, 3) := by decide +kernel
theorem dX4_seeds_41 : decode cX4_seeds 41 = .ok (.ireturn, 1) := by decide +kernel
theorem dX4_seeds_42 : decode cX4_seeds 42 = .ok (.aload_n 0, 1) := by decide +kernel
theorem dX4_seeds_43 : decode cX4_seeds 43 = .ok (.getfield 36, 3) := by decide +kernel
theorem dX4_seeds_46 : decode cX4_seeds 46 = .ok (.aload_n 0, 1) := by decide +kernel
theorem dX4_seeds_47 : decode cX4_seeds 47 = .ok (.getfield 10, 3) := by decide +kernel
theorem dX4_seeds_50 : decode cX4_seeds 50 = .ok (.iload_n 1, 1) := by decide +kernel
theorem dX4_seeds_51 : decode cX4_seeds 51 = .ok (.iload_n 2, 1) := by decide +kernel
theorem dX4_seeds_52 : decode cX4_seeds 52 = .ok (.invokevirtual 231, 3) := by decide +kernel
theorem dX4_seeds_55 : decode cX4_seeds 55 = .ok (.ireturn, 1) := by decide +kernel
theorem dX4_image_0 : decode cX4_image 0 = .ok (.aload_n 0, 1) := by decide +kernel
theorem dX4_image_1 : decode cX4_image 1 = .ok (.getfield 19, 3) := by decide +kernel
theorem dX4_image_4 : decode cX4_image 4 = .ok (.aload_n 0, 1) := by decide +kernel
theorem dX4_image_5 : decode cX4_image 5 = .ok (.getfield 10, 3) := by decide +kernel
theorem dX4_image_8 : decode cX4_image 8 = .ok (.invokevirtual 191, 3) := by decide +kernel
theorem dX4_image_11 : decode cX4_image 11 = .ok (.aload_n 0, 1) := by decide +kernel
theorem dX4_image_12 : decode cX4_image 12 = .ok (.iconst 1, 1) := by decide +kernel
theorem dX4_image_13 : decode cX4_image 13 = .ok (.putfield 22, 3) := by decide +kernel
theorem dX4_image_16 : decode cX4_image 16 = .ok (.aload_n 0, 1) := by decide +kernel
theorem dX4_image_17 : decode cX4_image 17 = .ok (.getfield 10, 3) := by decide +kernel
theorem dX4_image_20 : decode cX4_image 20 = .ok (.getfield 235, 3) := by decide +kernel
theorem dX4_image_23 : decode cX4_image 23 = .ok (.ireturn, 1) := by decide +kernel
theorem dX4_restore_0 : decode cX4_restore 0 = .ok (.aload_n 0, 1) := by decide +kernel
theorem dX4_restore_1 : decode cX4_restore 1 = .ok (.getfield 22, 3) := by decide +kernel
theorem dX4_restore_4 : decode cX4_restore 4 = .ok (.ifCond .ne 10, 3) := by decide +kernel
theorem dX4_restore_7 : decode cX4_restore 7 = .ok (.aload_n 0, 1) := by decide +kernel
theorem dX4_restore_8 : decode cX4_restore 8 = .ok (.bipush (-3), 2) := by decide +kernel
theorem dX4_restore_10 : decode cX4_restore 10 = .ok (.invokevirtual 51, 3) := by decide +kernel
theorem dX4_restore_13 : decode cX4_restore 13 = .ok (.ireturn, 1) := by decide +kernel
theorem dX4_restore_14 : decode cX4_restore 14 = .ok (.aload_n 0, 1) := by decide +kernel
theorem dX4_restore_15 : decode cX4_restore 15 = .ok (.getfield 10, 3) := by decide +kernel
theorem dX4_restore_18 : decode cX4_restore 18 = .ok (.aload_n 0, 1) := by decide +kernel
theorem dX4_restore_19 : decode cX4_restore 19 = .ok (.getfield 19, 3) := by decide +kernel
theorem dX4_restore_22 : decode cX4_restore 22 = .ok (.invokevirtual 191, 3) := by decide +kernel
theorem dX4_restore_25 : decode cX4_restore 25 = .ok (.aload_n 0, 1) := by decide +kernel
theorem dX4_restore_26 : decode cX4_restore 26 = .ok (.getfield 10, 3) := by decide +kernel
theorem dX4_restore_29 : decode cX4_restore 29 = .ok (.getfield 235, 3) := by decide +kernel
theorem dX4_restore_32 : decode cX4_restore 32 = .ok (.ireturn, 1) := by decide +kernel
theorem dX4_count_0 : decode cX4_count 0 = .ok (.iload_n 1, 1) := by decide +kernel
theorem dX4_count_1 : decode cX4_count 1 = .ok (.tableswitch 132 0 9 #[55, 63, 71, 79, 87, 95, 103, 111, 119, 127], 55) := by decide +kernel
theorem dX4_count_56 : decode cX4_count 56 = .ok (.aload_n 0, 1) := by decide +kernel
theorem dX4_count_57 : decode cX4_count 57 = .ok (.getfield 10, 3) := by decide +kernel
theorem dX4_count_60 : decode cX4_count 60 = .ok (.getfield 149, 3) := by decide +kernel
theorem dX4_count_63 : decode cX4_count 63 = .ok (.ireturn, 1) := by decide +kernel
theorem dX4_count_64 : decode cX4_count 64 = .ok (.aload_n 0, 1) := by decide +kernel
theorem dX4_count_65 : decode cX4_count 65 = .ok (.getfield 10, 3) := by decide +kernel
theorem dX4_count_68 : decode cX4_count 68 = .ok (.getfield 146, 3) := by decide +kernel
theorem dX4_count_71 : decode cX4_count 71 = .ok (.ireturn, 1) := by decide +kernel
theorem dX4_count_72 : decode cX4_count 72 = .ok (.aload_n 0, 1) := by decide +kernel
theorem dX4_count_73 : decode cX4_count 73 = .ok (.getfield 10, 3) := by decide +kernel
theorem dX4_count_76 : decode cX4_count 76 = .ok (.getfield 109, 3) := by decide +kernel
theorem dX4_count_79 : decode cX4_count 79 = .ok (.ireturn, 1) := by decide +kernel
theorem dX4_count_80 : decode cX4_count 80 = .ok (.aload_n 0, 1) := by decide +kernel
theorem dX4_count_81 : decode cX4_count 81 = .ok (.getfield 10, 3) := by decide +kernel
theorem dX4_count_84 : decode cX4_count 84 = .ok (.getfield 235, 3) := by decide +kernel
theorem dX4_count_87 : decode cX4_count 87 = .ok (.ireturn, 1) := by decide +kernel
theorem dX4_count_88 : decode cX4_count 88 = .ok (.aload_n 0, 1) := by decide +kernel
theorem dX4_count_89 : decode cX4_count 89 = .ok (.getfield 10, 3) := by decide +kernel
theorem dX4_count_92 : decode cX4_count 92 = .ok (.invokevirtual 137, 3) := by decide +kernel
theorem dX4_count_95 : decode cX4_count 95 = .ok (.ireturn, 1) := by decide +kernel
theorem dX4_count_96 : decode cX4_count 96 = .ok (.aload_n 0, 1) := by decide +kernel
theorem dX4_count_97 : decode cX4_count 97 = .ok (.getfield 10, 3) := by decide +kernel
theorem dX4_count_100 : decode cX4_count 100 = .ok (.invokevirtual 140, 3) := by decide +kernel
theorem dX4_count_103 : decode cX4_count 103 = .ok (.ireturn, 1) := by decide +kernel
theorem dX4_count_104 : decode cX4_count 104 = .ok (.aload_n 0, 1) := by decide +kernel
theorem dX4_count_105 : decode cX4_count 105 = .ok (.getfield 10, 3) := by decide +kernel
theorem dX4_count_108 : decode cX4_count 108 = .ok (.invokevirtual 238, 3) := by decide +kernel
theorem dX4_count_111 : decode cX4_count 111 = .ok (.ireturn, 1) := by decide +kernel
theorem dX4_count_112 : decode cX4_count 112 = .ok (.aload_n 0, 1) := by decide +kernel
theorem dX4_count_113 : decode cX4_count 113 = .ok (.getfield 10, 3) := by decide +kernel
theorem dX4_count_116 : decode cX4_count 116 = .ok (.invokevirtual 241, 3) := by decide +kernel
theorem dX4_count_119 : decode cX4_count 119 = .ok (.ireturn, 1) := by decide +kernel
theorem dX4_count_120 : decode cX4_count 120 = .ok (.aload_n 0, 1) := by decide +kernel
theorem dX4_count_121 : decode cX4_count 121 = .ok (.getfield 29, 3) := by decide +kernel
theorem dX4_count_124 : decode cX4_count 124 = .ok (.getfield 55, 3) := by decide +kernel
theorem dX4_count_127 : decode cX4_count 127 = .ok (.ireturn, 1) := by decide +kernel
theorem dX4_count_128 : decode cX4_count 128 = .ok (.aload_n 0, 1) := by decide +kernel
theorem dX4_count_129 : decode cX4_count 129 = .ok (.getfield 44, 3) := by decide +kernel
theorem dX4_count_132 : decode cX4_count 132 = .ok (.ireturn, 1) := by decide +kernel
theorem dX4_count_133 : decode cX4_count 133 = .ok (.iload_n 1, 1) := by decide +kernel
theorem dX4_count_134 : decode cX4_count 134 = .ok (.bipush 11, 2) := by decide +kernel
theorem dX4_count_136 : decode cX4_count 136 = .ok (.if_icmp .lt 21, 3) := by decide +kernel
theorem dX4_count_139 : decode cX4_count 139 = .ok (.iload_n 1, 1) := by decide +kernel
theorem dX4_count_140 : decode cX4_count 140 = .ok (.bipush 16, 2) := by decide +kernel
theorem dX4_count_142 : decode cX4_count 142 = .ok (.if_icmp .gt 15, 3) := by decide +kernel
theorem dX4_count_145 : decode cX4_count 145 = .ok (.aload_n 0, 1) := by decide +kernel
theorem dX4_count_146 : decode cX4_count 146 = .ok (.getfield 48, 3) := by decide +kernel
theorem dX4_count_149 : decode cX4_count 149 = .ok (.iload_n 1, 1) := by decide +kernel
theorem dX4_count_150 : decode cX4_count 150 = .ok (.bipush 10, 2) := by decide +kernel
theorem dX4_count_152 : decode cX4_count 152 = .ok (.isub, 1) := by decide +kernel
theorem dX4_count_153 : decode cX4_count 153 = .ok (.iaload, 1) := by decide +kernel
theorem dX4_count_154 : decode cX4_count 154 = .ok (.goto 5, 3) := by decide +kernel
theorem dX4_count_157 : decode cX4_count 157 = .ok (.bipush (-9), 2) := by decide +kernel
theorem dX4_count_159 : decode cX4_count 159 = .ok (.ireturn, 1) := by decide +kernel
theorem dX4_refuse_0 : decode cX4_refuse 0 = .ok (.aload_n 0, 1) := by decide +kernel
theorem dX4_refuse_1 : decode cX4_refuse 1 = .ok (.getfield 48, 3) := by decide +kernel
theorem dX4_refuse_4 : decode cX4_refuse 4 = .ok (.iload_n 1, 1) := by decide +kernel
theorem dX4_refuse_5 : decode cX4_refuse 5 = .ok (.ineg, 1) := by decide +kernel
theorem dX4_refuse_6 : decode cX4_refuse 6 = .ok (.dup2, 1) := by decide +kernel
theorem dX4_refuse_7 : decode cX4_refuse 7 = .ok (.iaload, 1) := by decide +kernel
theorem dX4_refuse_8 : decode cX4_refuse 8 = .ok (.iconst 1, 1) := by decide +kernel
theorem dX4_refuse_9 : decode cX4_refuse 9 = .ok (.iadd, 1) := by decide +kernel
theorem dX4_refuse_10 : decode cX4_refuse 10 = .ok (.iastore, 1) := by decide +kernel
theorem dX4_refuse_11 : decode cX4_refuse 11 = .ok (.iload_n 1, 1) := by decide +kernel
theorem dX4_refuse_12 : decode cX4_refuse 12 = .ok (.ireturn, 1) := by decide +kernel
theorem dX4_tellRiver_0 : decode cX4_tellRiver 0 = .ok (.aload_n 0, 1) := by decide +kernel
theorem dX4_tellRiver_1 : decode cX4_tellRiver 1 = .ok (.getfield 29, 3) := by decide +kernel
theorem dX4_tellRiver_4 : decode cX4_tellRiver 4 = .ok (.invokevirtual 244, 3) := by decide +kernel
theorem dX4_tellRiver_7 : decode cX4_tellRiver 7 = .ok (.istore_n 1, 1) := by decide +kernel
theorem dX4_tellRiver_8 : decode cX4_tellRiver 8 = .ok (.iload_n 1, 1) := by decide +kernel
theorem dX4_tellRiver_9 : decode cX4_tellRiver 9 = .ok (.bipush (-9), 2) := by decide +kernel
theorem dX4_tellRiver_11 : decode cX4_tellRiver 11 = .ok (.if_icmp .eq 9, 3) := by decide +kernel
theorem dX4_tellRiver_14 : decode cX4_tellRiver 14 = .ok (.sipush (-1000), 3) := by decide +kernel
theorem dX4_tellRiver_17 : decode cX4_tellRiver 17 = .ok (.iload_n 1, 1) := by decide +kernel
theorem dX4_tellRiver_18 : decode cX4_tellRiver 18 = .ok (.isub, 1) := by decide +kernel
theorem dX4_tellRiver_19 : decode cX4_tellRiver 19 = .ok (.ireturn, 1) := by decide +kernel
theorem dX4_tellRiver_20 : decode cX4_tellRiver 20 = .ok (.aload_n 0, 1) := by decide +kernel
theorem dX4_tellRiver_21 : decode cX4_tellRiver 21 = .ok (.getfield 16, 3) := by decide +kernel
theorem dX4_tellRiver_24 : decode cX4_tellRiver 24 = .ok (.aload_n 0, 1) := by decide +kernel
theorem dX4_tellRiver_25 : decode cX4_tellRiver 25 = .ok (.getfield 10, 3) := by decide +kernel
theorem dX4_tellRiver_28 : decode cX4_tellRiver 28 = .ok (.invokevirtual 191, 3) := by decide +kernel
theorem dX4_tellRiver_31 : decode cX4_tellRiver 31 = .ok (.aload_n 0, 1) := by decide +kernel
theorem dX4_tellRiver_32 : decode cX4_tellRiver 32 = .ok (.getfield 29, 3) := by decide +kernel
theorem dX4_tellRiver_35 : decode cX4_tellRiver 35 = .ok (.aload_n 0, 1) := by decide +kernel
theorem dX4_tellRiver_36 : decode cX4_tellRiver 36 = .ok (.getfield 16, 3) := by decide +kernel
theorem dX4_tellRiver_39 : decode cX4_tellRiver 39 = .ok (.invokevirtual 247, 3) := by decide +kernel
theorem dX4_tellRiver_42 : decode cX4_tellRiver 42 = .ok (.istore_n 2, 1) := by decide +kernel
theorem dX4_tellRiver_43 : decode cX4_tellRiver 43 = .ok (.iload_n 2, 1) := by decide +kernel
theorem dX4_tellRiver_44 : decode cX4_tellRiver 44 = .ok (.ifCond .lt 14, 3) := by decide +kernel
theorem dX4_tellRiver_47 : decode cX4_tellRiver 47 = .ok (.aload_n 0, 1) := by decide +kernel
theorem dX4_tellRiver_48 : decode cX4_tellRiver 48 = .ok (.getfield 10, 3) := by decide +kernel
theorem dX4_tellRiver_51 : decode cX4_tellRiver 51 = .ok (.aload_n 0, 1) := by decide +kernel
theorem dX4_tellRiver_52 : decode cX4_tellRiver 52 = .ok (.getfield 16, 3) := by decide +kernel
theorem dX4_tellRiver_55 : decode cX4_tellRiver 55 = .ok (.invokevirtual 191, 3) := by decide +kernel
theorem dX4_tellRiver_58 : decode cX4_tellRiver 58 = .ok (.iload_n 2, 1) := by decide +kernel
theorem dX4_tellRiver_59 : decode cX4_tellRiver 59 = .ok (.ireturn, 1) := by decide +kernel
theorem dX5_init_0 : decode cX5_init 0 = .ok (.aload_n 0, 1) := by decide +kernel
theorem dX5_init_1 : decode cX5_init 1 = .ok (.invokespecial 1, 3) := by decide +kernel
theorem dX5_init_4 : decode cX5_init 4 = .ok (.aload_n 0, 1) := by decide +kernel
theorem dX5_init_5 : decode cX5_init 5 = .ok (.bipush 7, 2) := by decide +kernel
theorem dX5_init_7 : decode cX5_init 7 = .ok (.newarray .int, 2) := by decide +kernel
theorem dX5_init_9 : decode cX5_init 9 = .ok (.putfield 7, 3) := by decide +kernel
theorem dX5_init_12 : decode cX5_init 12 = .ok (.aload_n 0, 1) := by decide +kernel
theorem dX5_init_13 : decode cX5_init 13 = .ok (.iconst 5, 1) := by decide +kernel
theorem dX5_init_14 : decode cX5_init 14 = .ok (.newarray .int, 2) := by decide +kernel
theorem dX5_init_16 : decode cX5_init 16 = .ok (.dup, 1) := by decide +kernel
theorem dX5_init_17 : decode cX5_init 17 = .ok (.iconst 0, 1) := by decide +kernel
theorem dX5_init_18 : decode cX5_init 18 = .ok (.iconst 2, 1) := by decide +kernel
theorem dX5_init_19 : decode cX5_init 19 = .ok (.iastore, 1) := by decide +kernel
theorem dX5_init_20 : decode cX5_init 20 = .ok (.dup, 1) := by decide +kernel
theorem dX5_init_21 : decode cX5_init 21 = .ok (.iconst 1, 1) := by decide +kernel
theorem dX5_init_22 : decode cX5_init 22 = .ok (.iconst 2, 1) := by decide +kernel
theorem dX5_init_23 : decode cX5_init 23 = .ok (.iastore, 1) := by decide +kernel
theorem dX5_init_24 : decode cX5_init 24 = .ok (.dup, 1) := by decide +kernel
theorem dX5_init_25 : decode cX5_init 25 = .ok (.iconst 2, 1) := by decide +kernel
theorem dX5_init_26 : decode cX5_init 26 = .ok (.iconst 2, 1) := by decide +kernel
theorem dX5_init_27 : decode cX5_init 27 = .ok (.iastore, 1) := by decide +kernel
theorem dX5_init_28 : decode cX5_init 28 = .ok (.dup, 1) := by decide +kernel
theorem dX5_init_29 : decode cX5_init 29 = .ok (.iconst 3, 1) := by decide +kernel
theorem dX5_init_30 : decode cX5_init 30 = .ok (.iconst 2, 1) := by decide +kernel
theorem dX5_init_31 : decode cX5_init 31 = .ok (.iastore, 1) := by decide +kernel
theorem dX5_init_32 : decode cX5_init 32 = .ok (.dup, 1) := by decide +kernel
theorem dX5_init_33 : decode cX5_init 33 = .ok (.iconst 4, 1) := by decide +kernel
theorem dX5_init_34 : decode cX5_init 34 = .ok (.iconst 2, 1) := by decide +kernel
theorem dX5_init_35 : decode cX5_init 35 = .ok (.iastore, 1) := by decide +kernel
theorem dX5_init_36 : decode cX5_init 36 = .ok (.putfield 13, 3) := by decide +kernel
theorem dX5_init_39 : decode cX5_init 39 = .ok (.aload_n 0, 1) := by decide +kernel
theorem dX5_init_40 : decode cX5_init 40 = .ok (.iconst 5, 1) := by decide +kernel
theorem dX5_init_41 : decode cX5_init 41 = .ok (.newarray .int, 2) := by decide +kernel
theorem dX5_init_43 : decode cX5_init 43 = .ok (.dup, 1) := by decide +kernel
theorem dX5_init_44 : decode cX5_init 44 = .ok (.iconst 0, 1) := by decide +kernel
theorem dX5_init_45 : decode cX5_init 45 = .ok (.iconst 2, 1) := by decide +kernel
theorem dX5_init_46 : decode cX5_init 46 = .ok (.iastore, 1) := by decide +kernel
theorem dX5_init_47 : decode cX5_init 47 = .ok (.dup, 1) := by decide +kernel
theorem dX5_init_48 : decode cX5_init 48 = .ok (.iconst 1, 1) := by decide +kernel
theorem dX5_init_49 : decode cX5_init 49 = .ok (.iconst 2, 1) := by decide +kernel
theorem dX5_init_50 : decode cX5_init 50 = .ok (.iastore, 1) := by decide +kernel
theorem dX5_init_51 : decode cX5_init 51 = .ok (.dup, 1) := by decide +kernel
theorem dX5_init_52 : decode cX5_init 52 = .ok (.iconst 2, 1) := by decide +kernel
theorem dX5_init_53 : decode cX5_init 53 = .ok (.iconst 2, 1) := by decide +kernel
theorem dX5_init_54 : decode cX5_init 54 = .ok (.iastore, 1) := by decide +kernel
theorem dX5_init_55 : decode cX5_init 55 = .ok (.dup, 1) := by decide +kernel
theorem dX5_init_56 : decode cX5_init 56 = .ok (.iconst 3, 1) := by decide +kernel
theorem dX5_init_57 : decode cX5_init 57 = .ok (.iconst 2, 1) := by decide +kernel
theorem dX5_init_58 : decode cX5_init 58 = .ok (.iastore, 1) := by decide +kernel
theorem dX5_init_59 : decode cX5_init 59 = .ok (.dup, 1) := by decide +kernel
theorem dX5_init_60 : decode cX5_init 60 = .ok (.iconst 4, 1) := by decide +kernel
theorem dX5_init_61 : decode cX5_init 61 = .ok (.iconst 2, 1) := by decide +kernel
theorem dX5_init_62 : decode cX5_init 62 = .ok (.iastore, 1) := by decide +kernel
theorem dX5_init_63 : decode cX5_init 63 = .ok (.putfield 16, 3) := by decide +kernel
theorem dX5_init_66 : decode cX5_init 66 = .ok (.aload_n 0, 1) := by decide +kernel
theorem dX5_init_67 : decode cX5_init 67 = .ok (.iconst 5, 1) := by decide +kernel
theorem dX5_init_68 : decode cX5_init 68 = .ok (.newarray .int, 2) := by decide +kernel
theorem dX5_init_70 : decode cX5_init 70 = .ok (.dup, 1) := by decide +kernel
theorem dX5_init_71 : decode cX5_init 71 = .ok (.iconst 0, 1) := by decide +kernel
theorem dX5_init_72 : decode cX5_init 72 = .ok (.bipush (-9), 2) := by decide +kernel
theorem dX5_init_74 : decode cX5_init 74 = .ok (.iastore, 1) := by decide +kernel
theorem dX5_init_75 : decode cX5_init 75 = .ok (.dup, 1) := by decide +kernel
theorem dX5_init_76 : decode cX5_init 76 = .ok (.iconst 1, 1) := by decide +kernel
theorem dX5_init_77 : decode cX5_init 77 = .ok (.bipush (-9), 2) := by decide +kernel
theorem dX5_init_79 : decode cX5_init 79 = .ok (.iastore, 1) := by decide +kernel
theorem dX5_init_80 : decode cX5_init 80 = .ok (.dup, 1) := by decide +kernel
theorem dX5_init_81 : decode cX5_init 81 = .ok (.iconst 2, 1) := by decide +kernel
theorem dX5_init_82 : decode cX5_init 82 = .ok (.bipush (-9), 2) := by decide +kernel
theorem dX5_init_84 : decode cX5_init 84 = .ok (.iastore, 1) := by decide +kernel
theorem dX5_init_85 : decode cX5_init 85 = .ok (.dup, 1) := by decide +kernel
theorem dX5_init_86 : decode cX5_init 86 = .ok (.iconst 3, 1) := by decide +kernel
theorem dX5_init_87 : decode cX5_init 87 = .ok (.bipush (-9), 2) := by decide +kernel
theorem dX5_init_89 : decode cX5_init 89 = .ok (.iastore, 1) := by decide +kernel
theorem dX5_init_90 : decode cX5_init 90 = .ok (.dup, 1) := by decide +kernel
theorem dX5_init_91 : decode cX5_init 91 = .ok (.iconst 4, 1) := by decide +kernel
theorem dX5_init_92 : decode cX5_init 92 = .ok (.bipush (-9), 2) := by decide +kernel
theorem dX5_init_94 : decode cX5_init 94 = .ok (.iastore, 1) := by decide +kernel
theorem dX5_init_95 : decode cX5_init 95 = .ok (.putfield 19, 3) := by decide +kernel
theorem dX5_init_98 : decode cX5_init 98 = .ok (.aload_n 0, 1) := by decide +kernel
theorem dX5_init_99 : decode cX5_init 99 = .ok (.bipush 7, 2) := by decide +kernel
theorem dX5_init_101 : decode cX5_init 101 = .ok (.newarray .int, 2) := by decide +kernel
theorem dX5_init_103 : decode cX5_init 103 = .ok (.putfield 22, 3) := by decide +kernel
theorem dX5_init_106 : decode cX5_init 106 = .ok (.aload_n 0, 1) := by decide +kernel
theorem dX5_init_107 : decode cX5_init 107 = .ok (.bipush 7, 2) := by decide +kernel
theorem dX5_init_109 : decode cX5_init 109 = .ok (.newarray .int, 2) := by decide +kernel
theorem dX5_init_111 : decode cX5_init 111 = .ok (.putfield 25, 3) := by decide +kernel
theorem dX5_init_114 : decode cX5_init 114 = .ok (.aload_n 0, 1) := by decide +kernel
theorem dX5_init_115 : decode cX5_init 115 = .ok (.bipush 7, 2) := by decide +kernel
theorem dX5_init_117 : decode cX5_init 117 = .ok (.newarray .int, 2) := by decide +kernel
theorem dX5_init_119 : decode cX5_init 119 = .ok (.putfield 28, 3) := by decide +kernel
theorem dX5_init_122 : decode cX5_init 122 = .ok (.aload_n 0, 1) := by decide +kernel
theorem dX5_init_123 : decode cX5_init 123 = .ok (.bipush 7, 2) := by decide +kernel
theorem dX5_init_125 : decode cX5_init 125 = .ok (.newarray .int, 2) := by decide +kernel
theorem dX5_init_127 : decode cX5_init 127 = .ok (.putfield 31, 3) := by decide +kernel
theorem dX5_init_130 : decode cX5_init 130 = .ok (.aload_n 0, 1) := by decide +kernel
theorem dX5_init_131 : decode cX5_init 131 = .ok (.bipush 7, 2) := by decide +kernel
theorem dX5_init_133 : decode cX5_init 133 = .ok (.newarray .int, 2) := by decide +kernel
theorem dX5_init_135 : decode cX5_init 135 = .ok (.putfield 34, 3) := by decide +kernel
theorem dX5_init_138 : decode cX5_init 138 = .ok (.aload_n 0, 1) := by decide +kernel
theorem dX5_init_139 : decode cX5_init 139 = .ok (.bipush 7, 2) := by decide +kernel
theorem dX5_init_141 : decode cX5_init 141 = .ok (.newarray .int, 2) := by decide +kernel
theorem dX5_init_143 : decode cX5_init 143 = .ok (.putfield 37, 3) := by decide +kernel
theorem dX5_init_146 : decode cX5_init 146 = .ok (.aload_n 0, 1) := by decide +kernel
theorem dX5_init_147 : decode cX5_init 147 = .ok (.bipush 49, 2) := by decide +kernel
theorem dX5_init_149 : decode cX5_init 149 = .ok (.newarray .int, 2) := by decide +kernel
theorem dX5_init_151 : decode cX5_init 151 = .ok (.putfield 40, 3) := by decide +kernel
theorem dX5_init_154 : decode cX5_init 154 = .ok (.aload_n 0, 1) := by decide +kernel
theorem dX5_init_155 : decode cX5_init 155 = .ok (.bipush 49, 2) := by decide +kernel
theorem dX5_init_157 : decode cX5_init 157 = .ok (.newarray .int, 2) := by decide +kernel
theorem dX5_init_159 : decode cX5_init 159 = .ok (.putfield 43, 3) := by decide +kernel
theorem dX5_init_162 : decode cX5_init 162 = .ok (.aload_n 0, 1) := by decide +kernel
theorem dX5_init_163 : decode cX5_init 163 = .ok (.iconst 3, 1) := by decide +kernel
theorem dX5_init_164 : decode cX5_init 164 = .ok (.putfield 46, 3) := by decide +kernel
theorem dX5_init_167 : decode cX5_init 167 = .ok (.aload_n 0, 1) := by decide +kernel
theorem dX5_init_168 : decode cX5_init 168 = .ok (.iconst 1, 1) := by decide +kernel
theorem dX5_init_169 : decode cX5_init 169 = .ok (.putfield 50, 3) := by decide +kernel
theorem dX5_init_172 : decode cX5_init 172 = .ok (.aload_n 0, 1) := by decide +kernel
theorem dX5_init_173 : decode cX5_init 173 = .ok (.bipush 80, 2) := by decide +kernel
theorem dX5_init_175 : decode cX5_init 175 = .ok (.newarray .int, 2) := by decide +kernel
theorem dX5_init_177 : decode cX5_init 177 = .ok (.putfield 53, 3) := by decide +kernel
theorem dX5_init_180 : decode cX5_init 180 = .ok (.aload_n 0, 1) := by decide +kernel
theorem dX5_init_181 : decode cX5_init 181 = .ok (.bipush 40, 2) := by decide +kernel
theorem dX5_init_183 : decode cX5_init 183 = .ok (.newarray .int, 2) := by decide +kernel
theorem dX5_init_185 : decode cX5_init 185 = .ok (.putfield 56, 3) := by decide +kernel
theorem dX5_init_188 : decode cX5_init 188 = .ok (.aload_n 0, 1) := by decide +kernel
theorem dX5_init_189 : decode cX5_init 189 = .ok (.bipush 40, 2) := by decide +kernel
theorem dX5_init_191 : decode cX5_init 191 = .ok (.newarray .int, 2) := by decide +kernel
theorem dX5_init_193 : decode cX5_init 193 = .ok (.putfield 59, 3) := by decide +kernel
theorem dX5_init_196 : decode cX5_init 196 = .ok (.aload_n 0, 1) := by decide +kernel
theorem dX5_init_197 : decode cX5_init 197 = .ok (.sipush 200, 3) := by decide +kernel
theorem dX5_init_200 : decode cX5_init 200 = .ok (.newarray .int, 2) := by decide +kernel
theorem dX5_init_202 : decode cX5_init 202 = .ok (.putfield 62, 3) := by decide +kernel
theorem dX5_init_205 : decode cX5_init 205 = .ok (.aload_n 0, 1) := by decide +kernel
theorem dX5_init_206 : decode cX5_init 206 = .ok (.sipush 340, 3) := by decide +kernel
theorem dX5_init_209 : decode cX5_init 209 = .ok (.newarray .int, 2) := by decide +kernel
theorem dX5_init_211 : decode cX5_init 211 = .ok (.putfield 65, 3) := by decide +kernel
theorem dX5_init_214 : decode cX5_init 214 = .ok (.aload_n 0, 1) := by decide +kernel
theorem dX5_init_215 : decode cX5_init 215 = .ok (.iconst 5, 1) := by decide +kernel
theorem dX5_init_216 : decode cX5_init 216 = .ok (.newarray .int, 2) := by decide +kernel
theorem dX5_init_218 : decode cX5_init 218 = .ok (.putfield 68, 3) := by decide +kernel
theorem dX5_init_221 : decode cX5_init 221 = .ok (.aload_n 0, 1) := by decide +kernel
theorem dX5_init_222 : decode cX5_init 222 = .ok (.iconst 5, 1) := by decide +kernel
theorem dX5_init_223 : decode cX5_init 223 = .ok (.newarray .int, 2) := by decide +kernel
theorem dX5_init_225 : decode cX5_init 225 = .ok (.putfield 71, 3) := by decide +kernel
theorem dX5_init_228 : decode cX5_init 228 = .ok (.aload_n 0, 1) := by decide +kernel
theorem dX5_init_229 : decode cX5_init 229 = .ok (.iconst 5, 1) := by decide +kernel
theorem dX5_init_230 : decode cX5_init 230 = .ok (.newarray .int, 2) := by decide +kernel
theorem dX5_init_232 : decode cX5_init 232 = .ok (.putfield 74, 3) := by decide +kernel
theorem dX5_init_235 : decode cX5_init 235 = .ok (.return_, 1) := by decide +kernel
theorem dX5_no_0 : decode cX5_no 0 = .ok (.aload_n 0, 1) := by decide +kernel
theorem dX5_no_1 : decode cX5_no 1 = .ok (.getfield 7, 3) := by decide +kernel
theorem dX5_no_4 : decode cX5_no 4 = .ok (.iload_n 1, 1) := by decide +kernel
theorem dX5_no_5 : decode cX5_no 5 = .ok (.ineg, 1) := by decide +kernel
theorem dX5_no_6 : decode cX5_no 6 = .ok (.dup2, 1) := by decide +kernel
theorem dX5_no_7 : decode cX5_no 7 = .ok (.iaload, 1) := by decide +kernel
theorem dX5_no_8 : decode cX5_no 8 = .ok (.iconst 1, 1) := by decide +kernel
theorem dX5_no_9 : decode cX5_no 9 = .ok (.iadd, 1) := by decide +kernel
theorem dX5_no_10 : decode cX5_no 10 = .ok (.iastore, 1) := by decide +kernel
theorem dX5_no_11 : decode cX5_no 11 = .ok (.iload_n 1, 1) := by decide +kernel
theorem dX5_no_12 : decode cX5_no 12 = .ok (.ireturn, 1) := by decide +kernel
theorem dX5_lower_0 : decode cX5_lower 0 = .ok (.aload_n 0, 1) := by decide +kernel
theorem dX5_lower_1 : decode cX5_lower 1 = .ok (.getfield 7, 3) := by decide +kernel
theorem dX5_lower_4 : decode cX5_lower 4 = .ok (.iload_n 1, 1) := by decide +kernel
theorem dX5_lower_5 : decode cX5_lower 5 = .ok (.ineg, 1) := by decide +kernel
theorem dX5_lower_6 : decode cX5_lower 6 = .ok (.dup2, 1) := by decide +kernel
theorem dX5_lower_7 : decode cX5_lower 7 = .ok (.iaload, 1) := by decide +kernel
theorem dX5_lower_8 : decode cX5_lower 8 = .ok (.iconst 1, 1) := by decide +kernel
theorem dX5_lower_9 : decode cX5_lower 9 = .ok (.iadd, 1) := by decide +kernel
theorem dX5_lower_10 : decode cX5_lower 10 = .ok (.iastore, 1) := by decide +kernel
theorem dX5_lower_11 : decode cX5_lower 11 = .ok (.ldc 77, 2) := by decide +kernel
theorem dX5_lower_13 : decode cX5_lower 13 = .ok (.iload_n 1, 1) := by decide +kernel
theorem dX5_lower_14 : decode cX5_lower 14 = .ok (.isub, 1) := by decide +kernel
theorem dX5_lower_15 : decode cX5_lower 15 = .ok (.ireturn, 1) := by decide +kernel
theorem dX5_isIn_0 : decode cX5_isIn 0 = .ok (.iload_n 0, 1) := by decide +kernel
theorem dX5_isIn_1 : decode cX5_isIn 1 = .ok (.iload_n 1, 1) := by decide +kernel
theorem dX5_isIn_2 : decode cX5_isIn 2 = .ok (.if_icmp .lt 12, 3) := by decide +kernel
theorem dX5_isIn_5 : decode cX5_isIn 5 = .ok (.iload_n 0, 1) := by decide +kernel
theorem dX5_isIn_6 : decode cX5_isIn 6 = .ok (.iload_n 2, 1) := by decide +kernel
theorem dX5_isIn_7 : decode cX5_isIn 7 = .ok (.if_icmp .gt 7, 3) := by decide +kernel
theorem dX5_isIn_10 : decode cX5_isIn 10 = .ok (.iconst 1, 1) := by decide +kernel
theorem dX5_isIn_11 : decode cX5_isIn 11 = .ok (.goto 4, 3) := by decide +kernel
theorem dX5_isIn_14 : decode cX5_isIn 14 = .ok (.iconst 0, 1) := by decide +kernel
theorem dX5_isIn_15 : decode cX5_isIn 15 = .ok (.ireturn, 1) := by decide +kernel
theorem dX5_bound_0 : decode cX5_bound 0 = .ok (.iload_n 0, 1) := by decide +kernel
theorem dX5_bound_1 : decode cX5_bound 1 = .ok (.iload_n 1, 1) := by decide +kernel
theorem dX5_bound_2 : decode cX5_bound 2 = .ok (.if_icmp .ge 8, 3) := by decide +kernel
theorem dX5_bound_5 : decode cX5_bound 5 = .ok (.bipush (-4), 2) := by decide +kernel
theorem dX5_bound_7 : decode cX5_bound 7 = .ok (.goto 14, 3) := by decide +kernel
theorem dX5_bound_10 : decode cX5_bound 10 = .ok (.iload_n 0, 1) := by decide +kernel
theorem dX5_bound_11 : decode cX5_bound 11 = .ok (.iload_n 2, 1) := by decide +kernel
theorem dX5_bound_12 : decode cX5_bound 12 = .ok (.if_icmp .le 8, 3) := by decide +kernel
theorem dX5_bound_15 : decode cX5_bound 15 = .ok (.bipush (-6), 2) := by decide +kernel
theorem dX5_bound_17 : decode cX5_bound 17 = .ok (.goto 4, 3) := by decide +kernel
theorem dX5_bound_20 : decode cX5_bound 20 = .ok (.iconst 0, 1) := by decide +kernel
theorem dX5_bound_21 : decode cX5_bound 21 = .ok (.ireturn, 1) := by decide +kernel
theorem dX5_least_0 : decode cX5_least 0 = .ok (.iload_n 0, 1) := by decide +kernel
theorem dX5_least_1 : decode cX5_least 1 = .ok (.iload_n 1, 1) := by decide +kernel
theorem dX5_least_2 : decode cX5_least 2 = .ok (.if_icmp .ge 7, 3) := by decide +kernel
theorem dX5_least_5 : decode cX5_least 5 = .ok (.iload_n 0, 1) := by decide +kernel
theorem dX5_least_6 : decode cX5_least 6 = .ok (.goto 4, 3) := by decide +kernel
theorem dX5_least_9 : decode cX5_least 9 = .ok (.iload_n 1, 1) := by decide +kernel
theorem dX5_least_10 : decode cX5_least 10 = .ok (.ireturn, 1) := by decide +kernel
theorem dX5_isYard_0 : decode cX5_isYard 0 = .ok (.iload_n 1, 1) := by decide +kernel
theorem dX5_isYard_1 : decode cX5_isYard 1 = .ok (.ifCond .lt 15, 3) := by decide +kernel
theorem dX5_isYard_4 : decode cX5_isYard 4 = .ok (.iload_n 1, 1) := by decide +kernel
theorem dX5_isYard_5 : decode cX5_isYard 5 = .ok (.aload_n 0, 1) := by decide +kernel
theorem dX5_isYard_6 : decode cX5_isYard 6 = .ok (.getfield 46, 3) := by decide +kernel
theorem dX5_isYard_9 : decode cX5_isYard 9 = .ok (.if_icmp .ge 7, 3) := by decide +kernel
theorem dX5_isYard_12 : decode cX5_isYard 12 = .ok (.iconst 1, 1) := by decide +kernel
theorem dX5_isYard_13 : decode cX5_isYard 13 = .ok (.goto 4, 3) := by decide +kernel
theorem dX5_isYard_16 : decode cX5_isYard 16 = .ok (.iconst 0, 1) := by decide +kernel
theorem dX5_isYard_17 : decode cX5_isYard 17 = .ok (.ireturn, 1) := by decide +kernel
theorem dX5_isOne_0 : decode cX5_isOne 0 = .ok (.iload_n 1, 1) := by decide +kernel
theorem dX5_isOne_1 : decode cX5_isOne 1 = .ok (.ifCond .lt 15, 3) := by decide +kernel
theorem dX5_isOne_4 : decode cX5_isOne 4 = .ok (.iload_n 1, 1) := by decide +kernel
theorem dX5_isOne_5 : decode cX5_isOne 5 = .ok (.aload_n 0, 1) := by decide +kernel
theorem dX5_isOne_6 : decode cX5_isOne 6 = .ok (.getfield 78, 3) := by decide +kernel
theorem dX5_isOne_9 : decode cX5_isOne 9 = .ok (.if_icmp .ge 7, 3) := by decide +kernel
theorem dX5_isOne_12 : decode cX5_isOne 12 = .ok (.iconst 1, 1) := by decide +kernel
theorem dX5_isOne_13 : decode cX5_isOne 13 = .ok (.goto 4, 3) := by decide +kernel
theorem dX5_isOne_16 : decode cX5_isOne 16 = .ok (.iconst 0, 1) := by decide +kernel
theorem dX5_isOne_17 : decode cX5_isOne 17 = .ok (.ireturn, 1) := by decide +kernel
theorem dX5_areTwo_0 : decode cX5_areTwo 0 = .ok (.aload_n 0, 1) := by decide +kernel
theorem dX5_areTwo_1 : decode cX5_areTwo 1 = .ok (.iload_n 1, 1) := by decide +kernel
theorem dX5_areTwo_2 : decode cX5_areTwo 2 = .ok (.invokevirtual 81, 3) := by decide +kernel
theorem dX5_areTwo_5 : decode cX5_areTwo 5 = .ok (.ifCond .eq 20, 3) := by decide +kernel
theorem dX5_areTwo_8 : decode cX5_areTwo 8 = .ok (.aload_n 0, 1) := by decide +kernel
theorem dX5_areTwo_9 : decode cX5_areTwo 9 = .ok (.iload_n 2, 1) := by decide +kernel
theorem dX5_areTwo_10 : decode cX5_areTwo 10 = .ok (.invokevirtual 81, 3) := by decide +kernel
theorem dX5_areTwo_13 : decode cX5_areTwo 13 = .ok (.ifCond .eq 12, 3) := by decide +kernel
theorem dX5_areTwo_16 : decode cX5_areTwo 16 = .ok (.iload_n 1, 1) := by decide +kernel
theorem dX5_areTwo_17 : decode cX5_areTwo 17 = .ok (.iload_n 2, 1) := by decide +kernel
theorem dX5_areTwo_18 : decode cX5_areTwo 18 = .ok (.if_icmp .eq 7, 3) := by decide +kernel
theorem dX5_areTwo_21 : decode cX5_areTwo 21 = .ok (.iconst 1, 1) := by decide +kernel
theorem dX5_areTwo_22 : decode cX5_areTwo 22 = .ok (.goto 4, 3) := by decide +kernel
theorem dX5_areTwo_25 : decode cX5_areTwo 25 = .ok (.iconst 0, 1) := by decide +kernel
theorem dX5_areTwo_26 : decode cX5_areTwo 26 = .ok (.ireturn, 1) := by decide +kernel
theorem dX5_yardOf_0 : decode cX5_yardOf 0 = .ok (.iconst 0, 1) := by decide +kernel
theorem dX5_yardOf_1 : decode cX5_yardOf 1 = .ok (.istore_n 2, 1) := by decide +kernel
theorem dX5_yardOf_2 : decode cX5_yardOf 2 = .ok (.iload_n 2, 1) := by decide +kernel
theorem dX5_yardOf_3 : decode cX5_yardOf 3 = .ok (.aload_n 0, 1) := by decide +kernel
theorem dX5_yardOf_4 : decode cX5_yardOf 4 = .ok (.getfield 46, 3) := by decide +kernel
theorem dX5_yardOf_7 : decode cX5_yardOf 7 = .ok (.if_icmp .ge 21, 3) := by decide +kernel
theorem dX5_yardOf_10 : decode cX5_yardOf 10 = .ok (.aload_n 0, 1) := by decide +kernel
theorem dX5_yardOf_11 : decode cX5_yardOf 11 = .ok (.getfield 19, 3) := by decide +kernel
theorem dX5_yardOf_14 : decode cX5_yardOf 14 = .ok (.iload_n 2, 1) := by decide +kernel
theorem dX5_yardOf_15 : decode cX5_yardOf 15 = .ok (.iaload, 1) := by decide +kernel
theorem dX5_yardOf_16 : decode cX5_yardOf 16 = .ok (.iload_n 1, 1) := by decide +kernel
theorem dX5_yardOf_17 : decode cX5_yardOf 17 = .ok (.if_icmp .ne 5, 3) := by decide +kernel
theorem dX5_yardOf_20 : decode cX5_yardOf 20 = .ok (.iload_n 2, 1) := by decide +kernel
theorem dX5_yardOf_21 : decode cX5_yardOf 21 = .ok (.ireturn, 1) := by decide +kernel
theorem dX5_yardOf_22 : decode cX5_yardOf 22 = .ok (.iinc 2 1, 3) := by decide +kernel
theorem dX5_yardOf_25 : decode cX5_yardOf 25 = .ok (.goto (-23), 3) := by decide +kernel
theorem dX5_yardOf_28 : decode cX5_yardOf 28 = .ok (.aload_n 0, 1) := by decide +kernel
theorem dX5_yardOf_29 : decode cX5_yardOf 29 = .ok (.getfield 37, 3) := by decide +kernel
theorem dX5_yardOf_32 : decode cX5_yardOf 32 = .ok (.iload_n 1, 1) := by decide +kernel
theorem dX5_yardOf_33 : decode cX5_yardOf 33 = .ok (.iaload, 1) := by decide +kernel
theorem dX5_yardOf_34 : decode cX5_yardOf 34 = .ok (.iconst 1, 1) := by decide +kernel
theorem dX5_yardOf_35 : decode cX5_yardOf 35 = .ok (.if_icmp .ne 8, 3) := by decide +kernel
theorem dX5_yardOf_38 : decode cX5_yardOf 38 = .ok (.bipush 9, 2) := by decide +kernel
theorem dX5_yardOf_40 : decode cX5_yardOf 40 = .ok (.goto 5, 3) := by decide +kernel
theorem dX5_yardOf_43 : decode cX5_yardOf 43 = .ok (.bipush (-9), 2) := by decide +kernel
theorem dX5_yardOf_45 : decode cX5_yardOf 45 = .ok (.ireturn, 1) := by decide +kernel
theorem dX5_feed_0 : decode cX5_feed 0 = .ok (.iload_n 1, 1) := by decide +kernel
theorem dX5_feed_1 : decode cX5_feed 1 = .ok (.iconst 0, 1) := by decide +kernel
theorem dX5_feed_2 : decode cX5_feed 2 = .ok (.sipush 255, 3) := by decide +kernel
theorem dX5_feed_5 : decode cX5_feed 5 = .ok (.invokestatic 85, 3) := by decide +kernel
theorem dX5_feed_8 : decode cX5_feed 8 = .ok (.istore_n 2, 1) := by decide +kernel
theorem dX5_feed_9 : decode cX5_feed 9 = .ok (.iload_n 2, 1) := by decide +kernel
theorem dX5_feed_10 : decode cX5_feed 10 = .ok (.ifCond .ne 15, 3) := by decide +kernel
theorem dX5_feed_13 : decode cX5_feed 13 = .ok (.aload_n 0, 1) := by decide +kernel
theorem dX5_feed_14 : decode cX5_feed 14 = .ok (.getfield 89, 3) := by decide +kernel
theorem dX5_feed_17 : decode cX5_feed 17 = .ok (.bipush 80, 2) := by decide +kernel
theorem dX5_feed_19 : decode cX5_feed 19 = .ok (.if_icmp .ne 6, 3) := by decide +kernel
theorem dX5_feed_22 : decode cX5_feed 22 = .ok (.bipush (-6), 2) := by decide +kernel
theorem dX5_feed_24 : decode cX5_feed 24 = .ok (.istore_n 2, 1) := by decide +kernel
theorem dX5_feed_25 : decode cX5_feed 25 = .ok (.iload_n 2, 1) := by decide +kernel
theorem dX5_feed_26 : decode cX5_feed 26 = .ok (.ifCond .eq 9, 3) := by decide +kernel
theorem dX5_feed_29 : decode cX5_feed 29 = .ok (.aload_n 0, 1) := by decide +kernel
theorem dX5_feed_30 : decode cX5_feed 30 = .ok (.iload_n 2, 1) := by decide +kernel
theorem dX5_feed_31 : decode cX5_feed 31 = .ok (.invokevirtual 92, 3) := by decide +kernel
theorem dX5_feed_34 : decode cX5_feed 34 = .ok (.ireturn, 1) := by decide +kernel
theorem dX5_feed_35 : decode cX5_feed 35 = .ok (.aload_n 0, 1) := by decide +kernel
theorem dX5_feed_36 : decode cX5_feed 36 = .ok (.getfield 53, 3) := by decide +kernel
theorem dX5_feed_39 : decode cX5_feed 39 = .ok (.aload_n 0, 1) := by decide +kernel
theorem dX5_feed_40 : decode cX5_feed 40 = .ok (.getfield 89, 3) := by decide +kernel
theorem dX5_feed_43 : decode cX5_feed 43 = .ok (.iload_n 1, 1) := by decide +kernel
theorem dX5_feed_44 : decode cX5_feed 44 = .ok (.iastore, 1) := by decide +kernel
theorem dX5_feed_45 : decode cX5_feed 45 = .ok (.aload_n 0, 1) := by decide +kernel
theorem dX5_feed_46 : decode cX5_feed 46 = .ok (.dup, 1) := by decide +kernel
theorem dX5_feed_47 : decode cX5_feed 47 = .ok (.getfield 89, 3) := by decide +kernel
theorem dX5_feed_50 : decode cX5_feed 50 = .ok (.iconst 1, 1) := by decide +kernel
theorem dX5_feed_51 : decode cX5_feed 51 = .ok (.iadd, 1) := by decide +kernel
theorem dX5_feed_52 : decode cX5_feed 52 = .ok (.putfield 89, 3) := by decide +kernel
theorem dX5_feed_55 : decode cX5_feed 55 = .ok (.aload_n 0, 1) := by decide +kernel
theorem dX5_feed_56 : decode cX5_feed 56 = .ok (.getfield 89, 3) := by decide +kernel
theorem dX5_feed_59 : decode cX5_feed 59 = .ok (.ireturn, 1) := by decide +kernel
theorem dX5_next_0 : decode cX5_next 0 = .ok (.aload_n 0, 1) := by decide +kernel
theorem dX5_next_1 : decode cX5_next 1 = .ok (.getfield 96, 3) := by decide +kernel
theorem dX5_next_4 : decode cX5_next 4 = .ok (.aload_n 0, 1) := by decide +kernel
theorem dX5_next_5 : decode cX5_next 5 = .ok (.getfield 89, 3) := by decide +kernel
theorem dX5_next_8 : decode cX5_next 8 = .ok (.if_icmp .ge 15, 3) := by decide +kernel
theorem dX5_next_11 : decode cX5_next 11 = .ok (.aload_n 0, 1) := by decide +kernel
theorem dX5_next_12 : decode cX5_next 12 = .ok (.getfield 53, 3) := by decide +kernel
theorem dX5_next_15 : decode cX5_next 15 = .ok (.aload_n 0, 1) := by decide +kernel
theorem dX5_next_16 : decode cX5_next 16 = .ok (.getfield 96, 3) := by decide +kernel
theorem dX5_next_19 : decode cX5_next 19 = .ok (.iaload, 1) := by decide +kernel
theorem dX5_next_20 : decode cX5_next 20 = .ok (.goto 4, 3) := by decide +kernel
theorem dX5_next_23 : decode cX5_next 23 = .ok (.iconst (-1), 1) := by decide +kernel
theorem dX5_next_24 : decode cX5_next 24 = .ok (.ireturn, 1) := by decide +kernel
theorem dX5_readsNumber_0 : decode cX5_readsNumber 0 = .ok (.aload_n 0, 1) := by decide +kernel
theorem dX5_readsNumber_1 : decode cX5_readsNumber 1 = .ok (.invokevirtual 99, 3) := by decide +kernel
theorem dX5_readsNumber_4 : decode cX5_readsNumber 4 = .ok (.bipush 48, 2) := by decide +kernel
theorem dX5_readsNumber_6 : decode cX5_readsNumber 6 = .ok (.bipush 57, 2) := by decide +kernel
theorem dX5_readsNumber_8 : decode cX5_readsNumber 8 = .ok (.invokestatic 103, 3) := by decide +kernel
theorem dX5_readsNumber_11 : decode cX5_readsNumber 11 = .ok (.ifCond .ne 5, 3) := by decide +kernel
theorem dX5_readsNumber_14 : decode cX5_readsNumber 14 = .ok (.iconst 0, 1) := by decide +kernel
theorem dX5_readsNumber_15 : decode cX5_readsNumber 15 = .ok (.ireturn, 1) := by decide +kernel
theorem dX5_readsNumber_16 : decode cX5_readsNumber 16 = .ok (.iconst 0, 1) := by decide +kernel
theorem dX5_readsNumber_17 : decode cX5_readsNumber 17 = .ok (.istore_n 3, 1) := by decide +kernel
theorem dX5_readsNumber_18 : decode cX5_readsNumber 18 = .ok (.iconst 0, 1) := by decide +kernel
theorem dX5_readsNumber_19 : decode cX5_readsNumber 19 = .ok (.istore 4, 2) := by decide +kernel
theorem dX5_readsNumber_21 : decode cX5_readsNumber 21 = .ok (.iload 4, 2) := by decide +kernel
theorem dX5_readsNumber_23 : decode cX5_readsNumber 23 = .ok (.iload_n 2, 1) := by decide +kernel
theorem dX5_readsNumber_24 : decode cX5_readsNumber 24 = .ok (.if_icmp .ge 46, 3) := by decide +kernel
theorem dX5_readsNumber_27 : decode cX5_readsNumber 27 = .ok (.aload_n 0, 1) := by decide +kernel
theorem dX5_readsNumber_28 : decode cX5_readsNumber 28 = .ok (.invokevirtual 99, 3) := by decide +kernel
theorem dX5_readsNumber_31 : decode cX5_readsNumber 31 = .ok (.bipush 48, 2) := by decide +kernel
theorem dX5_readsNumber_33 : decode cX5_readsNumber 33 = .ok (.bipush 57, 2) := by decide +kernel
theorem dX5_readsNumber_35 : decode cX5_readsNumber 35 = .ok (.invokestatic 103, 3) := by decide +kernel
theorem dX5_readsNumber_38 : decode cX5_readsNumber 38 = .ok (.ifCond .eq 32, 3) := by decide +kernel
theorem dX5_readsNumber_41 : decode cX5_readsNumber 41 = .ok (.bipush 10, 2) := by decide +kernel
theorem dX5_readsNumber_43 : decode cX5_readsNumber 43 = .ok (.iload_n 3, 1) := by decide +kernel
theorem dX5_readsNumber_44 : decode cX5_readsNumber 44 = .ok (.imul, 1) := by decide +kernel
theorem dX5_readsNumber_45 : decode cX5_readsNumber 45 = .ok (.aload_n 0, 1) := by decide +kernel
theorem dX5_readsNumber_46 : decode cX5_readsNumber 46 = .ok (.invokevirtual 99, 3) := by decide +kernel
theorem dX5_readsNumber_49 : decode cX5_readsNumber 49 = .ok (.iadd, 1) := by decide +kernel
theorem dX5_readsNumber_50 : decode cX5_readsNumber 50 = .ok (.bipush 48, 2) := by decide +kernel
theorem dX5_readsNumber_52 : decode cX5_readsNumber 52 = .ok (.isub, 1) := by decide +kernel
theorem dX5_readsNumber_53 : decode cX5_readsNumber 53 = .ok (.istore_n 3, 1) := by decide +kernel
theorem dX5_readsNumber_54 : decode cX5_readsNumber 54 = .ok (.aload_n 0, 1) := by decide +kernel
theorem dX5_readsNumber_55 : decode cX5_readsNumber 55 = .ok (.dup, 1) := by decide +kernel
theorem dX5_readsNumber_56 : decode cX5_readsNumber 56 = .ok (.getfield 96, 3) := by decide +kernel
theorem dX5_readsNumber_59 : decode cX5_readsNumber 59 = .ok (.iconst 1, 1) := by decide +kernel
theorem dX5_readsNumber_60 : decode cX5_readsNumber 60 = .ok (.iadd, 1) := by decide +kernel
theorem dX5_readsNumber_61 : decode cX5_readsNumber 61 = .ok (.putfield 96, 3) := by decide +kernel
theorem dX5_readsNumber_64 : decode cX5_readsNumber 64 = .ok (.iinc 4 1, 3) := by decide +kernel
theorem dX5_readsNumber_67 : decode cX5_readsNumber 67 = .ok (.goto (-46), 3) := by decide +kernel
theorem dX5_readsNumber_70 : decode cX5_readsNumber 70 = .ok (.aload_n 0, 1) := by decide +kernel
theorem dX5_readsNumber_71 : decode cX5_readsNumber 71 = .ok (.getfield 62, 3) := by decide +kernel
theorem dX5_readsNumber_74 : decode cX5_readsNumber 74 = .ok (.iload_n 1, 1) := by decide +kernel
theorem dX5_readsNumber_75 : decode cX5_readsNumber 75 = .ok (.iload_n 3, 1) := by decide +kernel
theorem dX5_readsNumber_76 : decode cX5_readsNumber 76 = .ok (.iastore, 1) := by decide +kernel
theorem dX5_readsNumber_77 : decode cX5_readsNumber 77 = .ok (.iconst 1, 1) := by decide +kernel
theorem dX5_readsNumber_78 : decode cX5_readsNumber 78 = .ok (.ireturn, 1) := by decide +kernel
theorem dX5_onesOf_0 : decode cX5_onesOf 0 = .ok (.iload_n 0, 1) := by decide +kernel
end
section
theorem dX5_onesOf_1 : decode cX5_onesOf 1 = .ok (.lookupswitch 67 #[(99, 59), (100, 63), (103, 61), (105, 61), (112, 65), (121, 59)], 59) := by decide +kernel
theorem dX5_onesOf_60 : decode cX5_onesOf 60 = .ok (.iconst 1, 1) := by decide +kernel
theorem dX5_onesOf_61 : decode cX5_onesOf 61 = .ok (.ireturn, 1) := by decide +kernel
theorem dX5_onesOf_62 : decode cX5_onesOf 62 = .ok (.iconst 2, 1) := by decide +kernel
theorem dX5_onesOf_63 : decode cX5_onesOf 63 = .ok (.ireturn, 1) := by decide +kernel
theorem dX5_onesOf_64 : decode cX5_onesOf 64 = .ok (.iconst 3, 1) := by decide +kernel
theorem dX5_onesOf_65 : decode cX5_onesOf 65 = .ok (.ireturn, 1) := by decide +kernel
theorem dX5_onesOf_66 : decode cX5_onesOf 66 = .ok (.iconst 4, 1) := by decide +kernel
theorem dX5_onesOf_67 : decode cX5_onesOf 67 = .ok (.ireturn, 1) := by decide +kernel
theorem dX5_onesOf_68 : decode cX5_onesOf 68 = .ok (.iconst 0, 1) := by decide +kernel
theorem dX5_onesOf_69 : decode cX5_onesOf 69 = .ok (.ireturn, 1) := by decide +kernel
theorem dX5_statement_0 : decode cX5_statement 0 = .ok (.aload_n 0, 1) := by decide +kernel
theorem dX5_statement_1 : decode cX5_statement 1 = .ok (.invokevirtual 99, 3) := by decide +kernel
theorem dX5_statement_4 : decode cX5_statement 4 = .ok (.istore_n 1, 1) := by decide +kernel
theorem dX5_statement_5 : decode cX5_statement 5 = .ok (.iload_n 1, 1) := by decide +kernel
theorem dX5_statement_6 : decode cX5_statement 6 = .ok (.invokestatic 107, 3) := by decide +kernel
theorem dX5_statement_9 : decode cX5_statement 9 = .ok (.istore_n 2, 1) := by decide +kernel
theorem dX5_statement_10 : decode cX5_statement 10 = .ok (.iload_n 2, 1) := by decide +kernel
theorem dX5_statement_11 : decode cX5_statement 11 = .ok (.ifCond .ne 5, 3) := by decide +kernel
theorem dX5_statement_14 : decode cX5_statement 14 = .ok (.iconst 0, 1) := by decide +kernel
theorem dX5_statement_15 : decode cX5_statement 15 = .ok (.ireturn, 1) := by decide +kernel
theorem dX5_statement_16 : decode cX5_statement 16 = .ok (.aload_n 0, 1) := by decide +kernel
theorem dX5_statement_17 : decode cX5_statement 17 = .ok (.getfield 56, 3) := by decide +kernel
theorem dX5_statement_20 : decode cX5_statement 20 = .ok (.aload_n 0, 1) := by decide +kernel
theorem dX5_statement_21 : decode cX5_statement 21 = .ok (.getfield 110, 3) := by decide +kernel
theorem dX5_statement_24 : decode cX5_statement 24 = .ok (.iload_n 1, 1) := by decide +kernel
theorem dX5_statement_25 : decode cX5_statement 25 = .ok (.iastore, 1) := by decide +kernel
theorem dX5_statement_26 : decode cX5_statement 26 = .ok (.aload_n 0, 1) := by decide +kernel
theorem dX5_statement_27 : decode cX5_statement 27 = .ok (.getfield 59, 3) := by decide +kernel
theorem dX5_statement_30 : decode cX5_statement 30 = .ok (.aload_n 0, 1) := by decide +kernel
theorem dX5_statement_31 : decode cX5_statement 31 = .ok (.getfield 110, 3) := by decide +kernel
theorem dX5_statement_34 : decode cX5_statement 34 = .ok (.aload_n 0, 1) := by decide +kernel
theorem dX5_statement_35 : decode cX5_statement 35 = .ok (.getfield 96, 3) := by decide +kernel
theorem dX5_statement_38 : decode cX5_statement 38 = .ok (.iastore, 1) := by decide +kernel
theorem dX5_statement_39 : decode cX5_statement 39 = .ok (.aload_n 0, 1) := by decide +kernel
theorem dX5_statement_40 : decode cX5_statement 40 = .ok (.dup, 1) := by decide +kernel
theorem dX5_statement_41 : decode cX5_statement 41 = .ok (.getfield 96, 3) := by decide +kernel
theorem dX5_statement_44 : decode cX5_statement 44 = .ok (.iconst 1, 1) := by decide +kernel
theorem dX5_statement_45 : decode cX5_statement 45 = .ok (.iadd, 1) := by decide +kernel
theorem dX5_statement_46 : decode cX5_statement 46 = .ok (.putfield 96, 3) := by decide +kernel
theorem dX5_statement_49 : decode cX5_statement 49 = .ok (.iconst 5, 1) := by decide +kernel
theorem dX5_statement_50 : decode cX5_statement 50 = .ok (.aload_n 0, 1) := by decide +kernel
theorem dX5_statement_51 : decode cX5_statement 51 = .ok (.getfield 110, 3) := by decide +kernel
theorem dX5_statement_54 : decode cX5_statement 54 = .ok (.imul, 1) := by decide +kernel
theorem dX5_statement_55 : decode cX5_statement 55 = .ok (.istore_n 3, 1) := by decide +kernel
theorem dX5_statement_56 : decode cX5_statement 56 = .ok (.iconst 0, 1) := by decide +kernel
theorem dX5_statement_57 : decode cX5_statement 57 = .ok (.istore 4, 2) := by decide +kernel
theorem dX5_statement_59 : decode cX5_statement 59 = .ok (.iload 4, 2) := by decide +kernel
theorem dX5_statement_61 : decode cX5_statement 61 = .ok (.iload_n 2, 1) := by decide +kernel
theorem dX5_statement_62 : decode cX5_statement 62 = .ok (.if_icmp .ge 23, 3) := by decide +kernel
theorem dX5_statement_65 : decode cX5_statement 65 = .ok (.aload_n 0, 1) := by decide +kernel
theorem dX5_statement_66 : decode cX5_statement 66 = .ok (.iload_n 3, 1) := by decide +kernel
theorem dX5_statement_67 : decode cX5_statement 67 = .ok (.iload 4, 2) := by decide +kernel
theorem dX5_statement_69 : decode cX5_statement 69 = .ok (.iadd, 1) := by decide +kernel
theorem dX5_statement_70 : decode cX5_statement 70 = .ok (.iconst 1, 1) := by decide +kernel
theorem dX5_statement_71 : decode cX5_statement 71 = .ok (.invokevirtual 113, 3) := by decide +kernel
theorem dX5_statement_74 : decode cX5_statement 74 = .ok (.ifCond .ne 5, 3) := by decide +kernel
theorem dX5_statement_77 : decode cX5_statement 77 = .ok (.iconst 0, 1) := by decide +kernel
theorem dX5_statement_78 : decode cX5_statement 78 = .ok (.ireturn, 1) := by decide +kernel
theorem dX5_statement_79 : decode cX5_statement 79 = .ok (.iinc 4 1, 3) := by decide +kernel
theorem dX5_statement_82 : decode cX5_statement 82 = .ok (.goto (-23), 3) := by decide +kernel
theorem dX5_statement_85 : decode cX5_statement 85 = .ok (.iload_n 1, 1) := by decide +kernel
theorem dX5_statement_86 : decode cX5_statement 86 = .ok (.bipush 112, 2) := by decide +kernel
theorem dX5_statement_88 : decode cX5_statement 88 = .ok (.if_icmp .ne 14, 3) := by decide +kernel
theorem dX5_statement_91 : decode cX5_statement 91 = .ok (.aload_n 0, 1) := by decide +kernel
theorem dX5_statement_92 : decode cX5_statement 92 = .ok (.iload_n 3, 1) := by decide +kernel
theorem dX5_statement_93 : decode cX5_statement 93 = .ok (.iconst 4, 1) := by decide +kernel
theorem dX5_statement_94 : decode cX5_statement 94 = .ok (.iadd, 1) := by decide +kernel
theorem dX5_statement_95 : decode cX5_statement 95 = .ok (.iconst 2, 1) := by decide +kernel
theorem dX5_statement_96 : decode cX5_statement 96 = .ok (.invokevirtual 113, 3) := by decide +kernel
theorem dX5_statement_99 : decode cX5_statement 99 = .ok (.ifCond .eq 12, 3) := by decide +kernel
theorem dX5_statement_102 : decode cX5_statement 102 = .ok (.aload_n 0, 1) := by decide +kernel
theorem dX5_statement_103 : decode cX5_statement 103 = .ok (.invokevirtual 99, 3) := by decide +kernel
theorem dX5_statement_106 : decode cX5_statement 106 = .ok (.bipush 59, 2) := by decide +kernel
theorem dX5_statement_108 : decode cX5_statement 108 = .ok (.if_icmp .eq 5, 3) := by decide +kernel
theorem dX5_statement_111 : decode cX5_statement 111 = .ok (.iconst 0, 1) := by decide +kernel
theorem dX5_statement_112 : decode cX5_statement 112 = .ok (.ireturn, 1) := by decide +kernel
theorem dX5_statement_113 : decode cX5_statement 113 = .ok (.aload_n 0, 1) := by decide +kernel
theorem dX5_statement_114 : decode cX5_statement 114 = .ok (.dup, 1) := by decide +kernel
theorem dX5_statement_115 : decode cX5_statement 115 = .ok (.getfield 96, 3) := by decide +kernel
theorem dX5_statement_118 : decode cX5_statement 118 = .ok (.iconst 1, 1) := by decide +kernel
theorem dX5_statement_119 : decode cX5_statement 119 = .ok (.iadd, 1) := by decide +kernel
theorem dX5_statement_120 : decode cX5_statement 120 = .ok (.putfield 96, 3) := by decide +kernel
theorem dX5_statement_123 : decode cX5_statement 123 = .ok (.iconst 1, 1) := by decide +kernel
theorem dX5_statement_124 : decode cX5_statement 124 = .ok (.ireturn, 1) := by decide +kernel
theorem dX5_begins_0 : decode cX5_begins 0 = .ok (.iload_n 1, 1) := by decide +kernel
theorem dX5_begins_1 : decode cX5_begins 1 = .ok (.iconst 1, 1) := by decide +kernel
theorem dX5_begins_2 : decode cX5_begins 2 = .ok (.iconst 5, 1) := by decide +kernel
theorem dX5_begins_3 : decode cX5_begins 3 = .ok (.invokestatic 103, 3) := by decide +kernel
theorem dX5_begins_6 : decode cX5_begins 6 = .ok (.ifCond .ne 5, 3) := by decide +kernel
theorem dX5_begins_9 : decode cX5_begins 9 = .ok (.iconst 0, 1) := by decide +kernel
theorem dX5_begins_10 : decode cX5_begins 10 = .ok (.ireturn, 1) := by decide +kernel
theorem dX5_begins_11 : decode cX5_begins 11 = .ok (.aload_n 0, 1) := by decide +kernel
theorem dX5_begins_12 : decode cX5_begins 12 = .ok (.iload_n 1, 1) := by decide +kernel
theorem dX5_begins_13 : decode cX5_begins 13 = .ok (.putfield 46, 3) := by decide +kernel
theorem dX5_begins_16 : decode cX5_begins 16 = .ok (.iconst 0, 1) := by decide +kernel
theorem dX5_begins_17 : decode cX5_begins 17 = .ok (.istore_n 2, 1) := by decide +kernel
theorem dX5_begins_18 : decode cX5_begins 18 = .ok (.iload_n 2, 1) := by decide +kernel
theorem dX5_begins_19 : decode cX5_begins 19 = .ok (.iconst 5, 1) := by decide +kernel
theorem dX5_begins_20 : decode cX5_begins 20 = .ok (.if_icmp .ge 31, 3) := by decide +kernel
theorem dX5_begins_23 : decode cX5_begins 23 = .ok (.aload_n 0, 1) := by decide +kernel
theorem dX5_begins_24 : decode cX5_begins 24 = .ok (.getfield 13, 3) := by decide +kernel
theorem dX5_begins_27 : decode cX5_begins 27 = .ok (.iload_n 2, 1) := by decide +kernel
theorem dX5_begins_28 : decode cX5_begins 28 = .ok (.iconst 2, 1) := by decide +kernel
theorem dX5_begins_29 : decode cX5_begins 29 = .ok (.iastore, 1) := by decide +kernel
theorem dX5_begins_30 : decode cX5_begins 30 = .ok (.aload_n 0, 1) := by decide +kernel
theorem dX5_begins_31 : decode cX5_begins 31 = .ok (.getfield 16, 3) := by decide +kernel
theorem dX5_begins_34 : decode cX5_begins 34 = .ok (.iload_n 2, 1) := by decide +kernel
theorem dX5_begins_35 : decode cX5_begins 35 = .ok (.iconst 2, 1) := by decide +kernel
theorem dX5_begins_36 : decode cX5_begins 36 = .ok (.iastore, 1) := by decide +kernel
theorem dX5_begins_37 : decode cX5_begins 37 = .ok (.aload_n 0, 1) := by decide +kernel
theorem dX5_begins_38 : decode cX5_begins 38 = .ok (.getfield 19, 3) := by decide +kernel
theorem dX5_begins_41 : decode cX5_begins 41 = .ok (.iload_n 2, 1) := by decide +kernel
theorem dX5_begins_42 : decode cX5_begins 42 = .ok (.bipush (-9), 2) := by decide +kernel
theorem dX5_begins_44 : decode cX5_begins 44 = .ok (.iastore, 1) := by decide +kernel
theorem dX5_begins_45 : decode cX5_begins 45 = .ok (.iinc 2 1, 3) := by decide +kernel
theorem dX5_begins_48 : decode cX5_begins 48 = .ok (.goto (-30), 3) := by decide +kernel
theorem dX5_begins_51 : decode cX5_begins 51 = .ok (.iconst 1, 1) := by decide +kernel
theorem dX5_begins_52 : decode cX5_begins 52 = .ok (.ireturn, 1) := by decide +kernel
theorem dX5_comesOne_0 : decode cX5_comesOne 0 = .ok (.aload_n 0, 1) := by decide +kernel
theorem dX5_comesOne_1 : decode cX5_comesOne 1 = .ok (.getfield 62, 3) := by decide +kernel
theorem dX5_comesOne_4 : decode cX5_comesOne 4 = .ok (.iload_n 1, 1) := by decide +kernel
theorem dX5_comesOne_5 : decode cX5_comesOne 5 = .ok (.iaload, 1) := by decide +kernel
theorem dX5_comesOne_6 : decode cX5_comesOne 6 = .ok (.iconst 5, 1) := by decide +kernel
theorem dX5_comesOne_7 : decode cX5_comesOne 7 = .ok (.if_icmp .gt 12, 3) := by decide +kernel
theorem dX5_comesOne_10 : decode cX5_comesOne 10 = .ok (.aload_n 0, 1) := by decide +kernel
theorem dX5_comesOne_11 : decode cX5_comesOne 11 = .ok (.getfield 78, 3) := by decide +kernel
theorem dX5_comesOne_14 : decode cX5_comesOne 14 = .ok (.bipush 7, 2) := by decide +kernel
theorem dX5_comesOne_16 : decode cX5_comesOne 16 = .ok (.if_icmp .ne 5, 3) := by decide +kernel
theorem dX5_comesOne_19 : decode cX5_comesOne 19 = .ok (.iconst 0, 1) := by decide +kernel
theorem dX5_comesOne_20 : decode cX5_comesOne 20 = .ok (.ireturn, 1) := by decide +kernel
theorem dX5_comesOne_21 : decode cX5_comesOne 21 = .ok (.aload_n 0, 1) := by decide +kernel
theorem dX5_comesOne_22 : decode cX5_comesOne 22 = .ok (.getfield 22, 3) := by decide +kernel
theorem dX5_comesOne_25 : decode cX5_comesOne 25 = .ok (.aload_n 0, 1) := by decide +kernel
theorem dX5_comesOne_26 : decode cX5_comesOne 26 = .ok (.getfield 78, 3) := by decide +kernel
theorem dX5_comesOne_29 : decode cX5_comesOne 29 = .ok (.aload_n 0, 1) := by decide +kernel
theorem dX5_comesOne_30 : decode cX5_comesOne 30 = .ok (.getfield 62, 3) := by decide +kernel
theorem dX5_comesOne_33 : decode cX5_comesOne 33 = .ok (.iload_n 1, 1) := by decide +kernel
theorem dX5_comesOne_34 : decode cX5_comesOne 34 = .ok (.iaload, 1) := by decide +kernel
theorem dX5_comesOne_35 : decode cX5_comesOne 35 = .ok (.iastore, 1) := by decide +kernel
theorem dX5_comesOne_36 : decode cX5_comesOne 36 = .ok (.aload_n 0, 1) := by decide +kernel
theorem dX5_comesOne_37 : decode cX5_comesOne 37 = .ok (.getfield 25, 3) := by decide +kernel
theorem dX5_comesOne_40 : decode cX5_comesOne 40 = .ok (.aload_n 0, 1) := by decide +kernel
theorem dX5_comesOne_41 : decode cX5_comesOne 41 = .ok (.getfield 78, 3) := by decide +kernel
theorem dX5_comesOne_44 : decode cX5_comesOne 44 = .ok (.aload_n 0, 1) := by decide +kernel
theorem dX5_comesOne_45 : decode cX5_comesOne 45 = .ok (.getfield 62, 3) := by decide +kernel
theorem dX5_comesOne_48 : decode cX5_comesOne 48 = .ok (.iload_n 1, 1) := by decide +kernel
theorem dX5_comesOne_49 : decode cX5_comesOne 49 = .ok (.iconst 1, 1) := by decide +kernel
theorem dX5_comesOne_50 : decode cX5_comesOne 50 = .ok (.iadd, 1) := by decide +kernel
theorem dX5_comesOne_51 : decode cX5_comesOne 51 = .ok (.iaload, 1) := by decide +kernel
theorem dX5_comesOne_52 : decode cX5_comesOne 52 = .ok (.iastore, 1) := by decide +kernel
theorem dX5_comesOne_53 : decode cX5_comesOne 53 = .ok (.aload_n 0, 1) := by decide +kernel
theorem dX5_comesOne_54 : decode cX5_comesOne 54 = .ok (.getfield 28, 3) := by decide +kernel
theorem dX5_comesOne_57 : decode cX5_comesOne 57 = .ok (.aload_n 0, 1) := by decide +kernel
theorem dX5_comesOne_58 : decode cX5_comesOne 58 = .ok (.getfield 78, 3) := by decide +kernel
theorem dX5_comesOne_61 : decode cX5_comesOne 61 = .ok (.aload_n 0, 1) := by decide +kernel
theorem dX5_comesOne_62 : decode cX5_comesOne 62 = .ok (.getfield 62, 3) := by decide +kernel
theorem dX5_comesOne_65 : decode cX5_comesOne 65 = .ok (.iload_n 1, 1) := by decide +kernel
theorem dX5_comesOne_66 : decode cX5_comesOne 66 = .ok (.iconst 2, 1) := by decide +kernel
theorem dX5_comesOne_67 : decode cX5_comesOne 67 = .ok (.iadd, 1) := by decide +kernel
theorem dX5_comesOne_68 : decode cX5_comesOne 68 = .ok (.iaload, 1) := by decide +kernel
theorem dX5_comesOne_69 : decode cX5_comesOne 69 = .ok (.iastore, 1) := by decide +kernel
theorem dX5_comesOne_70 : decode cX5_comesOne 70 = .ok (.aload_n 0, 1) := by decide +kernel
theorem dX5_comesOne_71 : decode cX5_comesOne 71 = .ok (.getfield 31, 3) := by decide +kernel
theorem dX5_comesOne_74 : decode cX5_comesOne 74 = .ok (.aload_n 0, 1) := by decide +kernel
theorem dX5_comesOne_75 : decode cX5_comesOne 75 = .ok (.getfield 78, 3) := by decide +kernel
theorem dX5_comesOne_78 : decode cX5_comesOne 78 = .ok (.aload_n 0, 1) := by decide +kernel
theorem dX5_comesOne_79 : decode cX5_comesOne 79 = .ok (.getfield 62, 3) := by decide +kernel
theorem dX5_comesOne_82 : decode cX5_comesOne 82 = .ok (.iload_n 1, 1) := by decide +kernel
theorem dX5_comesOne_83 : decode cX5_comesOne 83 = .ok (.iconst 3, 1) := by decide +kernel
theorem dX5_comesOne_84 : decode cX5_comesOne 84 = .ok (.iadd, 1) := by decide +kernel
theorem dX5_comesOne_85 : decode cX5_comesOne 85 = .ok (.iaload, 1) := by decide +kernel
theorem dX5_comesOne_86 : decode cX5_comesOne 86 = .ok (.iastore, 1) := by decide +kernel
theorem dX5_comesOne_87 : decode cX5_comesOne 87 = .ok (.aload_n 0, 1) := by decide +kernel
theorem dX5_comesOne_88 : decode cX5_comesOne 88 = .ok (.getfield 34, 3) := by decide +kernel
theorem dX5_comesOne_91 : decode cX5_comesOne 91 = .ok (.aload_n 0, 1) := by decide +kernel
theorem dX5_comesOne_92 : decode cX5_comesOne 92 = .ok (.getfield 78, 3) := by decide +kernel
theorem dX5_comesOne_95 : decode cX5_comesOne 95 = .ok (.aload_n 0, 1) := by decide +kernel
theorem dX5_comesOne_96 : decode cX5_comesOne 96 = .ok (.getfield 62, 3) := by decide +kernel
theorem dX5_comesOne_99 : decode cX5_comesOne 99 = .ok (.iload_n 1, 1) := by decide +kernel
theorem dX5_comesOne_100 : decode cX5_comesOne 100 = .ok (.iconst 4, 1) := by decide +kernel
theorem dX5_comesOne_101 : decode cX5_comesOne 101 = .ok (.iadd, 1) := by decide +kernel
theorem dX5_comesOne_102 : decode cX5_comesOne 102 = .ok (.iaload, 1) := by decide +kernel
theorem dX5_comesOne_103 : decode cX5_comesOne 103 = .ok (.iastore, 1) := by decide +kernel
theorem dX5_comesOne_104 : decode cX5_comesOne 104 = .ok (.aload_n 0, 1) := by decide +kernel
theorem dX5_comesOne_105 : decode cX5_comesOne 105 = .ok (.getfield 37, 3) := by decide +kernel
theorem dX5_comesOne_108 : decode cX5_comesOne 108 = .ok (.aload_n 0, 1) := by decide +kernel
theorem dX5_comesOne_109 : decode cX5_comesOne 109 = .ok (.getfield 78, 3) := by decide +kernel
theorem dX5_comesOne_112 : decode cX5_comesOne 112 = .ok (.iconst 0, 1) := by decide +kernel
theorem dX5_comesOne_113 : decode cX5_comesOne 113 = .ok (.iastore, 1) := by decide +kernel
theorem dX5_comesOne_114 : decode cX5_comesOne 114 = .ok (.iconst 0, 1) := by decide +kernel
theorem dX5_comesOne_115 : decode cX5_comesOne 115 = .ok (.istore_n 2, 1) := by decide +kernel
theorem dX5_comesOne_116 : decode cX5_comesOne 116 = .ok (.iload_n 2, 1) := by decide +kernel
theorem dX5_comesOne_117 : decode cX5_comesOne 117 = .ok (.bipush 7, 2) := by decide +kernel
theorem dX5_comesOne_119 : decode cX5_comesOne 119 = .ok (.if_icmp .ge 69, 3) := by decide +kernel
theorem dX5_comesOne_122 : decode cX5_comesOne 122 = .ok (.aload_n 0, 1) := by decide +kernel
theorem dX5_comesOne_123 : decode cX5_comesOne 123 = .ok (.getfield 40, 3) := by decide +kernel
theorem dX5_comesOne_126 : decode cX5_comesOne 126 = .ok (.bipush 7, 2) := by decide +kernel
theorem dX5_comesOne_128 : decode cX5_comesOne 128 = .ok (.aload_n 0, 1) := by decide +kernel
theorem dX5_comesOne_129 : decode cX5_comesOne 129 = .ok (.getfield 78, 3) := by decide +kernel
theorem dX5_comesOne_132 : decode cX5_comesOne 132 = .ok (.imul, 1) := by decide +kernel
theorem dX5_comesOne_133 : decode cX5_comesOne 133 = .ok (.iload_n 2, 1) := by decide +kernel
theorem dX5_comesOne_134 : decode cX5_comesOne 134 = .ok (.iadd, 1) := by decide +kernel
theorem dX5_comesOne_135 : decode cX5_comesOne 135 = .ok (.iconst 0, 1) := by decide +kernel
theorem dX5_comesOne_136 : decode cX5_comesOne 136 = .ok (.iastore, 1) := by decide +kernel
theorem dX5_comesOne_137 : decode cX5_comesOne 137 = .ok (.aload_n 0, 1) := by decide +kernel
theorem dX5_comesOne_138 : decode cX5_comesOne 138 = .ok (.getfield 40, 3) := by decide +kernel
theorem dX5_comesOne_141 : decode cX5_comesOne 141 = .ok (.bipush 7, 2) := by decide +kernel
theorem dX5_comesOne_143 : decode cX5_comesOne 143 = .ok (.iload_n 2, 1) := by decide +kernel
theorem dX5_comesOne_144 : decode cX5_comesOne 144 = .ok (.imul, 1) := by decide +kernel
theorem dX5_comesOne_145 : decode cX5_comesOne 145 = .ok (.aload_n 0, 1) := by decide +kernel
theorem dX5_comesOne_146 : decode cX5_comesOne 146 = .ok (.getfield 78, 3) := by decide +kernel
theorem dX5_comesOne_149 : decode cX5_comesOne 149 = .ok (.iadd, 1) := by decide +kernel
theorem dX5_comesOne_150 : decode cX5_comesOne 150 = .ok (.iconst 0, 1) := by decide +kernel
theorem dX5_comesOne_151 : decode cX5_comesOne 151 = .ok (.iastore, 1) := by decide +kernel
theorem dX5_comesOne_152 : decode cX5_comesOne 152 = .ok (.aload_n 0, 1) := by decide +kernel
theorem dX5_comesOne_153 : decode cX5_comesOne 153 = .ok (.getfield 43, 3) := by decide +kernel
theorem dX5_comesOne_156 : decode cX5_comesOne 156 = .ok (.bipush 7, 2) := by decide +kernel
theorem dX5_comesOne_158 : decode cX5_comesOne 158 = .ok (.aload_n 0, 1) := by decide +kernel
theorem dX5_comesOne_159 : decode cX5_comesOne 159 = .ok (.getfield 78, 3) := by decide +kernel
theorem dX5_comesOne_162 : decode cX5_comesOne 162 = .ok (.imul, 1) := by decide +kernel
theorem dX5_comesOne_163 : decode cX5_comesOne 163 = .ok (.iload_n 2, 1) := by decide +kernel
theorem dX5_comesOne_164 : decode cX5_comesOne 164 = .ok (.iadd, 1) := by decide +kernel
theorem dX5_comesOne_165 : decode cX5_comesOne 165 = .ok (.iconst 0, 1) := by decide +kernel
theorem dX5_comesOne_166 : decode cX5_comesOne 166 = .ok (.iastore, 1) := by decide +kernel
theorem dX5_comesOne_167 : decode cX5_comesOne 167 = .ok (.aload_n 0, 1) := by decide +kernel
theorem dX5_comesOne_168 : decode cX5_comesOne 168 = .ok (.getfield 43, 3) := by decide +kernel
theorem dX5_comesOne_171 : decode cX5_comesOne 171 = .ok (.bipush 7, 2) := by decide +kernel
theorem dX5_comesOne_173 : decode cX5_comesOne 173 = .ok (.iload_n 2, 1) := by decide +kernel
theorem dX5_comesOne_174 : decode cX5_comesOne 174 = .ok (.imul, 1) := by decide +kernel
theorem dX5_comesOne_175 : decode cX5_comesOne 175 = .ok (.aload_n 0, 1) := by decide +kernel
theorem dX5_comesOne_176 : decode cX5_comesOne 176 = .ok (.getfield 78, 3) := by decide +kernel
theorem dX5_comesOne_179 : decode cX5_comesOne 179 = .ok (.iadd, 1) := by decide +kernel
theorem dX5_comesOne_180 : decode cX5_comesOne 180 = .ok (.iconst 0, 1) := by decide +kernel
theorem dX5_comesOne_181 : decode cX5_comesOne 181 = .ok (.iastore, 1) := by decide +kernel
theorem dX5_comesOne_182 : decode cX5_comesOne 182 = .ok (.iinc 2 1, 3) := by decide +kernel
theorem dX5_comesOne_185 : decode cX5_comesOne 185 = .ok (.goto (-69), 3) := by decide +kernel
theorem dX5_comesOne_188 : decode cX5_comesOne 188 = .ok (.aload_n 0, 1) := by decide +kernel
theorem dX5_comesOne_189 : decode cX5_comesOne 189 = .ok (.dup, 1) := by decide +kernel
theorem dX5_comesOne_190 : decode cX5_comesOne 190 = .ok (.getfield 78, 3) := by decide +kernel
theorem dX5_comesOne_193 : decode cX5_comesOne 193 = .ok (.iconst 1, 1) := by decide +kernel
theorem dX5_comesOne_194 : decode cX5_comesOne 194 = .ok (.iadd, 1) := by decide +kernel
theorem dX5_comesOne_195 : decode cX5_comesOne 195 = .ok (.putfield 78, 3) := by decide +kernel
theorem dX5_comesOne_198 : decode cX5_comesOne 198 = .ok (.iconst 1, 1) := by decide +kernel
theorem dX5_comesOne_199 : decode cX5_comesOne 199 = .ok (.ireturn, 1) := by decide +kernel
theorem dX5_sets_0 : decode cX5_sets 0 = .ok (.aload_n 0, 1) := by decide +kernel
theorem dX5_sets_1 : decode cX5_sets 1 = .ok (.iload_n 2, 1) := by decide +kernel
theorem dX5_sets_2 : decode cX5_sets 2 = .ok (.invokevirtual 117, 3) := by decide +kernel
theorem dX5_sets_5 : decode cX5_sets 5 = .ok (.istore_n 3, 1) := by decide +kernel
theorem dX5_sets_6 : decode cX5_sets 6 = .ok (.iload_n 3, 1) := by decide +kernel
theorem dX5_sets_7 : decode cX5_sets 7 = .ok (.ifCond .lt 11, 3) := by decide +kernel
theorem dX5_sets_10 : decode cX5_sets 10 = .ok (.aload_n 0, 1) := by decide +kernel
theorem dX5_sets_11 : decode cX5_sets 11 = .ok (.getfield 19, 3) := by decide +kernel
theorem dX5_sets_14 : decode cX5_sets 14 = .ok (.iload_n 3, 1) := by decide +kernel
theorem dX5_sets_15 : decode cX5_sets 15 = .ok (.bipush (-9), 2) := by decide +kernel
theorem dX5_sets_17 : decode cX5_sets 17 = .ok (.iastore, 1) := by decide +kernel
theorem dX5_sets_18 : decode cX5_sets 18 = .ok (.aload_n 0, 1) := by decide +kernel
theorem dX5_sets_19 : decode cX5_sets 19 = .ok (.getfield 19, 3) := by decide +kernel
theorem dX5_sets_22 : decode cX5_sets 22 = .ok (.iload_n 1, 1) := by decide +kernel
theorem dX5_sets_23 : decode cX5_sets 23 = .ok (.iload_n 2, 1) := by decide +kernel
theorem dX5_sets_24 : decode cX5_sets 24 = .ok (.iastore, 1) := by decide +kernel
theorem dX5_sets_25 : decode cX5_sets 25 = .ok (.return_, 1) := by decide +kernel
theorem dX5_comes_0 : decode cX5_comes 0 = .ok (.iconst 5, 1) := by decide +kernel
theorem dX5_comes_1 : decode cX5_comes 1 = .ok (.iload_n 1, 1) := by decide +kernel
theorem dX5_comes_2 : decode cX5_comes 2 = .ok (.imul, 1) := by decide +kernel
theorem dX5_comes_3 : decode cX5_comes 3 = .ok (.istore_n 2, 1) := by decide +kernel
theorem dX5_comes_4 : decode cX5_comes 4 = .ok (.aload_n 0, 1) := by decide +kernel
theorem dX5_comes_5 : decode cX5_comes 5 = .ok (.getfield 62, 3) := by decide +kernel
theorem dX5_comes_8 : decode cX5_comes 8 = .ok (.iload_n 2, 1) := by decide +kernel
theorem dX5_comes_9 : decode cX5_comes 9 = .ok (.iaload, 1) := by decide +kernel
theorem dX5_comes_10 : decode cX5_comes 10 = .ok (.istore_n 3, 1) := by decide +kernel
theorem dX5_comes_11 : decode cX5_comes 11 = .ok (.aload_n 0, 1) := by decide +kernel
theorem dX5_comes_12 : decode cX5_comes 12 = .ok (.getfield 62, 3) := by decide +kernel
theorem dX5_comes_15 : decode cX5_comes 15 = .ok (.iload_n 2, 1) := by decide +kernel
theorem dX5_comes_16 : decode cX5_comes 16 = .ok (.iconst 1, 1) := by decide +kernel
theorem dX5_comes_17 : decode cX5_comes 17 = .ok (.iadd, 1) := by decide +kernel
theorem dX5_comes_18 : decode cX5_comes 18 = .ok (.iaload, 1) := by decide +kernel
theorem dX5_comes_19 : decode cX5_comes 19 = .ok (.istore 4, 2) := by decide +kernel
theorem dX5_comes_21 : decode cX5_comes 21 = .ok (.aload_n 0, 1) := by decide +kernel
theorem dX5_comes_22 : decode cX5_comes 22 = .ok (.getfield 56, 3) := by decide +kernel
theorem dX5_comes_25 : decode cX5_comes 25 = .ok (.iload_n 1, 1) := by decide +kernel
theorem dX5_comes_26 : decode cX5_comes 26 = .ok (.iaload, 1) := by decide +kernel
theorem dX5_comes_27 : decode cX5_comes 27 = .ok (.lookupswitch 166 #[(99, 89), (100, 55), (103, 102), (112, 96), (121, 49)], 49) := by decide +kernel
theorem dX5_comes_76 : decode cX5_comes 76 = .ok (.aload_n 0, 1) := by decide +kernel
theorem dX5_comes_77 : decode cX5_comes 77 = .ok (.iload_n 3, 1) := by decide +kernel
theorem dX5_comes_78 : decode cX5_comes 78 = .ok (.invokevirtual 120, 3) := by decide +kernel
theorem dX5_comes_81 : decode cX5_comes 81 = .ok (.ireturn, 1) := by decide +kernel
theorem dX5_comes_82 : decode cX5_comes 82 = .ok (.aload_n 0, 1) := by decide +kernel
theorem dX5_comes_83 : decode cX5_comes 83 = .ok (.iload_n 3, 1) := by decide +kernel
theorem dX5_comes_84 : decode cX5_comes 84 = .ok (.invokevirtual 123, 3) := by decide +kernel
theorem dX5_comes_87 : decode cX5_comes 87 = .ok (.ifCond .ne 5, 3) := by decide +kernel
theorem dX5_comes_90 : decode cX5_comes 90 = .ok (.iconst 0, 1) := by decide +kernel
theorem dX5_comes_91 : decode cX5_comes 91 = .ok (.ireturn, 1) := by decide +kernel
theorem dX5_comes_92 : decode cX5_comes 92 = .ok (.aload_n 0, 1) := by decide +kernel
theorem dX5_comes_93 : decode cX5_comes 93 = .ok (.getfield 13, 3) := by decide +kernel
theorem dX5_comes_96 : decode cX5_comes 96 = .ok (.iload_n 3, 1) := by decide +kernel
theorem dX5_comes_97 : decode cX5_comes 97 = .ok (.iload 4, 2) := by decide +kernel
theorem dX5_comes_99 : decode cX5_comes 99 = .ok (.iastore, 1) := by decide +kernel
theorem dX5_comes_100 : decode cX5_comes 100 = .ok (.aload_n 0, 1) := by decide +kernel
theorem dX5_comes_101 : decode cX5_comes 101 = .ok (.getfield 16, 3) := by decide +kernel
theorem dX5_comes_104 : decode cX5_comes 104 = .ok (.iload_n 3, 1) := by decide +kernel
theorem dX5_comes_105 : decode cX5_comes 105 = .ok (.aload_n 0, 1) := by decide +kernel
theorem dX5_comes_106 : decode cX5_comes 106 = .ok (.getfield 62, 3) := by decide +kernel
theorem dX5_comes_109 : decode cX5_comes 109 = .ok (.iload_n 2, 1) := by decide +kernel
theorem dX5_comes_110 : decode cX5_comes 110 = .ok (.iconst 2, 1) := by decide +kernel
theorem dX5_comes_111 : decode cX5_comes 111 = .ok (.iadd, 1) := by decide +kernel
theorem dX5_comes_112 : decode cX5_comes 112 = .ok (.iaload, 1) := by decide +kernel
theorem dX5_comes_113 : decode cX5_comes 113 = .ok (.iastore, 1) := by decide +kernel
theorem dX5_comes_114 : decode cX5_comes 114 = .ok (.iconst 1, 1) := by decide +kernel
theorem dX5_comes_115 : decode cX5_comes 115 = .ok (.ireturn, 1) := by decide +kernel
theorem dX5_comes_116 : decode cX5_comes 116 = .ok (.aload_n 0, 1) := by decide +kernel
theorem dX5_comes_117 : decode cX5_comes 117 = .ok (.iload_n 3, 1) := by decide +kernel
theorem dX5_comes_118 : decode cX5_comes 118 = .ok (.putfield 50, 3) := by decide +kernel
theorem dX5_comes_121 : decode cX5_comes 121 = .ok (.iconst 1, 1) := by decide +kernel
theorem dX5_comes_122 : decode cX5_comes 122 = .ok (.ireturn, 1) := by decide +kernel
theorem dX5_comes_123 : decode cX5_comes 123 = .ok (.aload_n 0, 1) := by decide +kernel
theorem dX5_comes_124 : decode cX5_comes 124 = .ok (.iload_n 2, 1) := by decide +kernel
theorem dX5_comes_125 : decode cX5_comes 125 = .ok (.invokevirtual 126, 3) := by decide +kernel
theorem dX5_comes_128 : decode cX5_comes 128 = .ok (.ireturn, 1) := by decide +kernel
theorem dX5_comes_129 : decode cX5_comes 129 = .ok (.aload_n 0, 1) := by decide +kernel
theorem dX5_comes_130 : decode cX5_comes 130 = .ok (.iload_n 3, 1) := by decide +kernel
theorem dX5_comes_131 : decode cX5_comes 131 = .ok (.iload 4, 2) := by decide +kernel
theorem dX5_comes_133 : decode cX5_comes 133 = .ok (.invokevirtual 129, 3) := by decide +kernel
theorem dX5_comes_136 : decode cX5_comes 136 = .ok (.ifCond .ne 5, 3) := by decide +kernel
theorem dX5_comes_139 : decode cX5_comes 139 = .ok (.iconst 0, 1) := by decide +kernel
theorem dX5_comes_140 : decode cX5_comes 140 = .ok (.ireturn, 1) := by decide +kernel
theorem dX5_comes_141 : decode cX5_comes 141 = .ok (.aload_n 0, 1) := by decide +kernel
theorem dX5_comes_142 : decode cX5_comes 142 = .ok (.getfield 40, 3) := by decide +kernel
theorem dX5_comes_145 : decode cX5_comes 145 = .ok (.bipush 7, 2) := by decide +kernel
theorem dX5_comes_147 : decode cX5_comes 147 = .ok (.iload_n 3, 1) := by decide +kernel
theorem dX5_comes_148 : decode cX5_comes 148 = .ok (.imul, 1) := by decide +kernel
theorem dX5_comes_149 : decode cX5_comes 149 = .ok (.iload 4, 2) := by decide +kernel
theorem dX5_comes_151 : decode cX5_comes 151 = .ok (.iadd, 1) := by decide +kernel
theorem dX5_comes_152 : decode cX5_comes 152 = .ok (.iconst 1, 1) := by decide +kernel
theorem dX5_comes_153 : decode cX5_comes 153 = .ok (.aload_n 0, 1) := by decide +kernel
theorem dX5_comes_154 : decode cX5_comes 154 = .ok (.getfield 40, 3) := by decide +kernel
theorem dX5_comes_157 : decode cX5_comes 157 = .ok (.bipush 7, 2) := by decide +kernel
theorem dX5_comes_159 : decode cX5_comes 159 = .ok (.iload_n 3, 1) := by decide +kernel
theorem dX5_comes_160 : decode cX5_comes 160 = .ok (.imul, 1) := by decide +kernel
theorem dX5_comes_161 : decode cX5_comes 161 = .ok (.iload 4, 2) := by decide +kernel
theorem dX5_comes_163 : decode cX5_comes 163 = .ok (.iadd, 1) := by decide +kernel
theorem dX5_comes_164 : decode cX5_comes 164 = .ok (.iaload, 1) := by decide +kernel
theorem dX5_comes_165 : decode cX5_comes 165 = .ok (.isub, 1) := by decide +kernel
theorem dX5_comes_166 : decode cX5_comes 166 = .ok (.iastore, 1) := by decide +kernel
theorem dX5_comes_167 : decode cX5_comes 167 = .ok (.aload_n 0, 1) := by decide +kernel
theorem dX5_comes_168 : decode cX5_comes 168 = .ok (.getfield 40, 3) := by decide +kernel
theorem dX5_comes_171 : decode cX5_comes 171 = .ok (.bipush 7, 2) := by decide +kernel
theorem dX5_comes_173 : decode cX5_comes 173 = .ok (.iload 4, 2) := by decide +kernel
theorem dX5_comes_175 : decode cX5_comes 175 = .ok (.imul, 1) := by decide +kernel
theorem dX5_comes_176 : decode cX5_comes 176 = .ok (.iload_n 3, 1) := by decide +kernel
theorem dX5_comes_177 : decode cX5_comes 177 = .ok (.iadd, 1) := by decide +kernel
theorem dX5_comes_178 : decode cX5_comes 178 = .ok (.aload_n 0, 1) := by decide +kernel
theorem dX5_comes_179 : decode cX5_comes 179 = .ok (.getfield 40, 3) := by decide +kernel
theorem dX5_comes_182 : decode cX5_comes 182 = .ok (.bipush 7, 2) := by decide +kernel
theorem dX5_comes_184 : decode cX5_comes 184 = .ok (.iload_n 3, 1) := by decide +kernel
theorem dX5_comes_185 : decode cX5_comes 185 = .ok (.imul, 1) := by decide +kernel
theorem dX5_comes_186 : decode cX5_comes 186 = .ok (.iload 4, 2) := by decide +kernel
theorem dX5_comes_188 : decode cX5_comes 188 = .ok (.iadd, 1) := by decide +kernel
theorem dX5_comes_189 : decode cX5_comes 189 = .ok (.iaload, 1) := by decide +kernel
theorem dX5_comes_190 : decode cX5_comes 190 = .ok (.iastore, 1) := by decide +kernel
theorem dX5_comes_191 : decode cX5_comes 191 = .ok (.iconst 1, 1) := by decide +kernel
theorem dX5_comes_192 : decode cX5_comes 192 = .ok (.ireturn, 1) := by decide +kernel
theorem dX5_comes_193 : decode cX5_comes 193 = .ok (.aload_n 0, 1) := by decide +kernel
theorem dX5_comes_194 : decode cX5_comes 194 = .ok (.iload_n 3, 1) := by decide +kernel
theorem dX5_comes_195 : decode cX5_comes 195 = .ok (.invokevirtual 123, 3) := by decide +kernel
theorem dX5_comes_198 : decode cX5_comes 198 = .ok (.ifCond .eq 23, 3) := by decide +kernel
theorem dX5_comes_201 : decode cX5_comes 201 = .ok (.aload_n 0, 1) := by decide +kernel
theorem dX5_comes_202 : decode cX5_comes 202 = .ok (.iload 4, 2) := by decide +kernel
theorem dX5_comes_204 : decode cX5_comes 204 = .ok (.invokevirtual 81, 3) := by decide +kernel
theorem dX5_comes_207 : decode cX5_comes 207 = .ok (.ifCond .eq 14, 3) := by decide +kernel
theorem dX5_comes_210 : decode cX5_comes 210 = .ok (.aload_n 0, 1) := by decide +kernel
theorem dX5_comes_211 : decode cX5_comes 211 = .ok (.getfield 37, 3) := by decide +kernel
theorem dX5_comes_214 : decode cX5_comes 214 = .ok (.iload 4, 2) := by decide +kernel
theorem dX5_comes_216 : decode cX5_comes 216 = .ok (.iaload, 1) := by decide +kernel
theorem dX5_comes_217 : decode cX5_comes 217 = .ok (.iconst 1, 1) := by decide +kernel
theorem dX5_comes_218 : decode cX5_comes 218 = .ok (.if_icmp .ne 5, 3) := by decide +kernel
theorem dX5_comes_221 : decode cX5_comes 221 = .ok (.iconst 0, 1) := by decide +kernel
theorem dX5_comes_222 : decode cX5_comes 222 = .ok (.ireturn, 1) := by decide +kernel
theorem dX5_comes_223 : decode cX5_comes 223 = .ok (.aload_n 0, 1) := by decide +kernel
theorem dX5_comes_224 : decode cX5_comes 224 = .ok (.iload_n 3, 1) := by decide +kernel
theorem dX5_comes_225 : decode cX5_comes 225 = .ok (.iload 4, 2) := by decide +kernel
theorem dX5_comes_227 : decode cX5_comes 227 = .ok (.invokevirtual 132, 3) := by decide +kernel
theorem dX5_comes_230 : decode cX5_comes 230 = .ok (.iconst 1, 1) := by decide +kernel
theorem dX5_comes_231 : decode cX5_comes 231 = .ok (.ireturn, 1) := by decide +kernel
theorem dX5_river_0 : decode cX5_river 0 = .ok (.aload_n 0, 1) := by decide +kernel
theorem dX5_river_1 : decode cX5_river 1 = .ok (.iconst 0, 1) := by decide +kernel
theorem dX5_river_2 : decode cX5_river 2 = .ok (.putfield 96, 3) := by decide +kernel
theorem dX5_river_5 : decode cX5_river 5 = .ok (.aload_n 0, 1) := by decide +kernel
theorem dX5_river_6 : decode cX5_river 6 = .ok (.iconst 0, 1) := by decide +kernel
theorem dX5_river_7 : decode cX5_river 7 = .ok (.putfield 110, 3) := by decide +kernel
theorem dX5_river_10 : decode cX5_river 10 = .ok (.iconst 1, 1) := by decide +kernel
theorem dX5_river_11 : decode cX5_river 11 = .ok (.istore_n 1, 1) := by decide +kernel
theorem dX5_river_12 : decode cX5_river 12 = .ok (.iload_n 1, 1) := by decide +kernel
theorem dX5_river_13 : decode cX5_river 13 = .ok (.ifCond .eq 47, 3) := by decide +kernel
theorem dX5_river_16 : decode cX5_river 16 = .ok (.aload_n 0, 1) := by decide +kernel
theorem dX5_river_17 : decode cX5_river 17 = .ok (.getfield 96, 3) := by decide +kernel
theorem dX5_river_20 : decode cX5_river 20 = .ok (.aload_n 0, 1) := by decide +kernel
theorem dX5_river_21 : decode cX5_river 21 = .ok (.getfield 89, 3) := by decide +kernel
theorem dX5_river_24 : decode cX5_river 24 = .ok (.if_icmp .lt 10, 3) := by decide +kernel
theorem dX5_river_27 : decode cX5_river 27 = .ok (.aload_n 0, 1) := by decide +kernel
theorem dX5_river_28 : decode cX5_river 28 = .ok (.getfield 110, 3) := by decide +kernel
theorem dX5_river_31 : decode cX5_river 31 = .ok (.ifCond .ne 29, 3) := by decide +kernel
theorem dX5_river_34 : decode cX5_river 34 = .ok (.aload_n 0, 1) := by decide +kernel
theorem dX5_river_35 : decode cX5_river 35 = .ok (.invokevirtual 136, 3) := by decide +kernel
theorem dX5_river_38 : decode cX5_river 38 = .ok (.istore_n 1, 1) := by decide +kernel
theorem dX5_river_39 : decode cX5_river 39 = .ok (.aload_n 0, 1) := by decide +kernel
theorem dX5_river_40 : decode cX5_river 40 = .ok (.dup, 1) := by decide +kernel
theorem dX5_river_41 : decode cX5_river 41 = .ok (.getfield 110, 3) := by decide +kernel
theorem dX5_river_44 : decode cX5_river 44 = .ok (.iload_n 1, 1) := by decide +kernel
theorem dX5_river_45 : decode cX5_river 45 = .ok (.ifCond .eq 7, 3) := by decide +kernel
theorem dX5_river_48 : decode cX5_river 48 = .ok (.iconst 1, 1) := by decide +kernel
theorem dX5_river_49 : decode cX5_river 49 = .ok (.goto 4, 3) := by decide +kernel
theorem dX5_river_52 : decode cX5_river 52 = .ok (.iconst 0, 1) := by decide +kernel
theorem dX5_river_53 : decode cX5_river 53 = .ok (.iadd, 1) := by decide +kernel
theorem dX5_river_54 : decode cX5_river 54 = .ok (.putfield 110, 3) := by decide +kernel
theorem dX5_river_57 : decode cX5_river 57 = .ok (.goto (-45), 3) := by decide +kernel
theorem dX5_river_60 : decode cX5_river 60 = .ok (.aload_n 0, 1) := by decide +kernel
theorem dX5_river_61 : decode cX5_river 61 = .ok (.iconst 0, 1) := by decide +kernel
theorem dX5_river_62 : decode cX5_river 62 = .ok (.putfield 89, 3) := by decide +kernel
theorem dX5_river_65 : decode cX5_river 65 = .ok (.iload_n 1, 1) := by decide +kernel
theorem dX5_river_66 : decode cX5_river 66 = .ok (.ifCond .ne 12, 3) := by decide +kernel
theorem dX5_river_69 : decode cX5_river 69 = .ok (.sipush (-1000), 3) := by decide +kernel
theorem dX5_river_72 : decode cX5_river 72 = .ok (.aload_n 0, 1) := by decide +kernel
theorem dX5_river_73 : decode cX5_river 73 = .ok (.getfield 96, 3) := by decide +kernel
theorem dX5_river_76 : decode cX5_river 76 = .ok (.isub, 1) := by decide +kernel
theorem dX5_river_77 : decode cX5_river 77 = .ok (.ireturn, 1) := by decide +kernel
theorem dX5_river_78 : decode cX5_river 78 = .ok (.aload_n 0, 1) := by decide +kernel
theorem dX5_river_79 : decode cX5_river 79 = .ok (.iconst 1, 1) := by decide +kernel
theorem dX5_river_80 : decode cX5_river 80 = .ok (.iconst 1, 1) := by decide +kernel
theorem dX5_river_81 : decode cX5_river 81 = .ok (.invokevirtual 140, 3) := by decide +kernel
theorem dX5_river_84 : decode cX5_river 84 = .ok (.iconst 0, 1) := by decide +kernel
theorem dX5_river_85 : decode cX5_river 85 = .ok (.istore_n 2, 1) := by decide +kernel
theorem dX5_river_86 : decode cX5_river 86 = .ok (.iload_n 2, 1) := by decide +kernel
theorem dX5_river_87 : decode cX5_river 87 = .ok (.aload_n 0, 1) := by decide +kernel
theorem dX5_river_88 : decode cX5_river 88 = .ok (.getfield 110, 3) := by decide +kernel
theorem dX5_river_91 : decode cX5_river 91 = .ok (.if_icmp .ge 37, 3) := by decide +kernel
theorem dX5_river_94 : decode cX5_river 94 = .ok (.aload_n 0, 1) := by decide +kernel
theorem dX5_river_95 : decode cX5_river 95 = .ok (.iload_n 2, 1) := by decide +kernel
theorem dX5_river_96 : decode cX5_river 96 = .ok (.invokevirtual 144, 3) := by decide +kernel
theorem dX5_river_99 : decode cX5_river 99 = .ok (.ifCond .eq 6, 3) := by decide +kernel
theorem dX5_river_102 : decode cX5_river 102 = .ok (.goto 20, 3) := by decide +kernel
theorem dX5_river_105 : decode cX5_river 105 = .ok (.aload_n 0, 1) := by decide +kernel
theorem dX5_river_106 : decode cX5_river 106 = .ok (.iconst 1, 1) := by decide +kernel
theorem dX5_river_107 : decode cX5_river 107 = .ok (.iconst 0, 1) := by decide +kernel
theorem dX5_river_108 : decode cX5_river 108 = .ok (.invokevirtual 140, 3) := by decide +kernel
theorem dX5_river_111 : decode cX5_river 111 = .ok (.sipush (-2000), 3) := by decide +kernel
theorem dX5_river_114 : decode cX5_river 114 = .ok (.aload_n 0, 1) := by decide +kernel
theorem dX5_river_115 : decode cX5_river 115 = .ok (.getfield 59, 3) := by decide +kernel
theorem dX5_river_118 : decode cX5_river 118 = .ok (.iload_n 2, 1) := by decide +kernel
theorem dX5_river_119 : decode cX5_river 119 = .ok (.iaload, 1) := by decide +kernel
theorem dX5_river_120 : decode cX5_river 120 = .ok (.isub, 1) := by decide +kernel
theorem dX5_river_121 : decode cX5_river 121 = .ok (.ireturn, 1) := by decide +kernel
theorem dX5_river_122 : decode cX5_river 122 = .ok (.iinc 2 1, 3) := by decide +kernel
theorem dX5_river_125 : decode cX5_river 125 = .ok (.goto (-39), 3) := by decide +kernel
theorem dX5_river_128 : decode cX5_river 128 = .ok (.aload_n 0, 1) := by decide +kernel
theorem dX5_river_129 : decode cX5_river 129 = .ok (.getfield 110, 3) := by decide +kernel
theorem dX5_river_132 : decode cX5_river 132 = .ok (.ireturn, 1) := by decide +kernel
theorem dX5_passes_0 : decode cX5_passes 0 = .ok (.iconst 0, 1) := by decide +kernel
theorem dX5_passes_1 : decode cX5_passes 1 = .ok (.istore_n 2, 1) := by decide +kernel
theorem dX5_passes_2 : decode cX5_passes 2 = .ok (.iload_n 2, 1) := by decide +kernel
theorem dX5_passes_3 : decode cX5_passes 3 = .ok (.aload_n 1, 1) := by decide +kernel
theorem dX5_passes_4 : decode cX5_passes 4 = .ok (.arraylength, 1) := by decide +kernel
theorem dX5_passes_5 : decode cX5_passes 5 = .ok (.if_icmp .ge 53, 3) := by decide +kernel
theorem dX5_passes_8 : decode cX5_passes 8 = .ok (.aload_n 0, 1) := by decide +kernel
theorem dX5_passes_9 : decode cX5_passes 9 = .ok (.getfield 147, 3) := by decide +kernel
theorem dX5_passes_12 : decode cX5_passes 12 = .ok (.ifCond .eq 18, 3) := by decide +kernel
theorem dX5_passes_15 : decode cX5_passes 15 = .ok (.aload_n 0, 1) := by decide +kernel
theorem dX5_passes_16 : decode cX5_passes 16 = .ok (.getfield 65, 3) := by decide +kernel
theorem dX5_passes_19 : decode cX5_passes 19 = .ok (.aload_n 0, 1) := by decide +kernel
theorem dX5_passes_20 : decode cX5_passes 20 = .ok (.getfield 151, 3) := by decide +kernel
theorem dX5_passes_23 : decode cX5_passes 23 = .ok (.aload_n 1, 1) := by decide +kernel
theorem dX5_passes_24 : decode cX5_passes 24 = .ok (.iload_n 2, 1) := by decide +kernel
theorem dX5_passes_25 : decode cX5_passes 25 = .ok (.iaload, 1) := by decide +kernel
theorem dX5_passes_26 : decode cX5_passes 26 = .ok (.iastore, 1) := by decide +kernel
theorem dX5_passes_27 : decode cX5_passes 27 = .ok (.goto 15, 3) := by decide +kernel
theorem dX5_passes_30 : decode cX5_passes 30 = .ok (.aload_n 1, 1) := by decide +kernel
theorem dX5_passes_31 : decode cX5_passes 31 = .ok (.iload_n 2, 1) := by decide +kernel
theorem dX5_passes_32 : decode cX5_passes 32 = .ok (.aload_n 0, 1) := by decide +kernel
theorem dX5_passes_33 : decode cX5_passes 33 = .ok (.getfield 65, 3) := by decide +kernel
theorem dX5_passes_36 : decode cX5_passes 36 = .ok (.aload_n 0, 1) := by decide +kernel
theorem dX5_passes_37 : decode cX5_passes 37 = .ok (.getfield 151, 3) := by decide +kernel
theorem dX5_passes_40 : decode cX5_passes 40 = .ok (.iaload, 1) := by decide +kernel
theorem dX5_passes_41 : decode cX5_passes 41 = .ok (.iastore, 1) := by decide +kernel
theorem dX5_passes_42 : decode cX5_passes 42 = .ok (.aload_n 0, 1) := by decide +kernel
theorem dX5_passes_43 : decode cX5_passes 43 = .ok (.dup, 1) := by decide +kernel
theorem dX5_passes_44 : decode cX5_passes 44 = .ok (.getfield 151, 3) := by decide +kernel
theorem dX5_passes_47 : decode cX5_passes 47 = .ok (.iconst 1, 1) := by decide +kernel
theorem dX5_passes_48 : decode cX5_passes 48 = .ok (.iadd, 1) := by decide +kernel
theorem dX5_passes_49 : decode cX5_passes 49 = .ok (.putfield 151, 3) := by decide +kernel
theorem dX5_passes_52 : decode cX5_passes 52 = .ok (.iinc 2 1, 3) := by decide +kernel
theorem dX5_passes_55 : decode cX5_passes 55 = .ok (.goto (-53), 3) := by decide +kernel
theorem dX5_passes_58 : decode cX5_passes 58 = .ok (.return_, 1) := by decide +kernel
theorem dX5_passOne_0 : decode cX5_passOne 0 = .ok (.aload_n 0, 1) := by decide +kernel
theorem dX5_passOne_1 : decode cX5_passOne 1 = .ok (.getfield 147, 3) := by decide +kernel
theorem dX5_passOne_4 : decode cX5_passOne 4 = .ok (.ifCond .eq 7, 3) := by decide +kernel
theorem dX5_passOne_7 : decode cX5_passOne 7 = .ok (.iload_n 1, 1) := by decide +kernel
theorem dX5_passOne_8 : decode cX5_passOne 8 = .ok (.goto 12, 3) := by decide +kernel
theorem dX5_passOne_11 : decode cX5_passOne 11 = .ok (.aload_n 0, 1) := by decide +kernel
theorem dX5_passOne_12 : decode cX5_passOne 12 = .ok (.getfield 65, 3) := by decide +kernel
theorem dX5_passOne_15 : decode cX5_passOne 15 = .ok (.aload_n 0, 1) := by decide +kernel
theorem dX5_passOne_16 : decode cX5_passOne 16 = .ok (.getfield 151, 3) := by decide +kernel
theorem dX5_passOne_19 : decode cX5_passOne 19 = .ok (.iaload, 1) := by decide +kernel
theorem dX5_passOne_20 : decode cX5_passOne 20 = .ok (.istore_n 2, 1) := by decide +kernel
theorem dX5_passOne_21 : decode cX5_passOne 21 = .ok (.aload_n 0, 1) := by decide +kernel
theorem dX5_passOne_22 : decode cX5_passOne 22 = .ok (.getfield 147, 3) := by decide +kernel
theorem dX5_passOne_25 : decode cX5_passOne 25 = .ok (.ifCond .eq 13, 3) := by decide +kernel
theorem dX5_passOne_28 : decode cX5_passOne 28 = .ok (.aload_n 0, 1) := by decide +kernel
theorem dX5_passOne_29 : decode cX5_passOne 29 = .ok (.getfield 65, 3) := by decide +kernel
theorem dX5_passOne_32 : decode cX5_passOne 32 = .ok (.aload_n 0, 1) := by decide +kernel
theorem dX5_passOne_33 : decode cX5_passOne 33 = .ok (.getfield 151, 3) := by decide +kernel
theorem dX5_passOne_36 : decode cX5_passOne 36 = .ok (.iload_n 1, 1) := by decide +kernel
theorem dX5_passOne_37 : decode cX5_passOne 37 = .ok (.iastore, 1) := by decide +kernel
theorem dX5_passOne_38 : decode cX5_passOne 38 = .ok (.aload_n 0, 1) := by decide +kernel
theorem dX5_passOne_39 : decode cX5_passOne 39 = .ok (.dup, 1) := by decide +kernel
theorem dX5_passOne_40 : decode cX5_passOne 40 = .ok (.getfield 151, 3) := by decide +kernel
theorem dX5_passOne_43 : decode cX5_passOne 43 = .ok (.iconst 1, 1) := by decide +kernel
theorem dX5_passOne_44 : decode cX5_passOne 44 = .ok (.iadd, 1) := by decide +kernel
theorem dX5_passOne_45 : decode cX5_passOne 45 = .ok (.putfield 151, 3) := by decide +kernel
theorem dX5_passOne_48 : decode cX5_passOne 48 = .ok (.iload_n 2, 1) := by decide +kernel
theorem dX5_passOne_49 : decode cX5_passOne 49 = .ok (.ireturn, 1) := by decide +kernel
theorem dX5_passesAll_0 : decode cX5_passesAll 0 = .ok (.aload_n 0, 1) := by decide +kernel
theorem dX5_passesAll_1 : decode cX5_passesAll 1 = .ok (.sipush 170, 3) := by decide +kernel
theorem dX5_passesAll_4 : decode cX5_passesAll 4 = .ok (.iload_n 1, 1) := by decide +kernel
theorem dX5_passesAll_5 : decode cX5_passesAll 5 = .ok (.imul, 1) := by decide +kernel
theorem dX5_passesAll_6 : decode cX5_passesAll 6 = .ok (.putfield 151, 3) := by decide +kernel
theorem dX5_passesAll_9 : decode cX5_passesAll 9 = .ok (.aload_n 0, 1) := by decide +kernel
theorem dX5_passesAll_10 : decode cX5_passesAll 10 = .ok (.iload_n 2, 1) := by decide +kernel
theorem dX5_passesAll_11 : decode cX5_passesAll 11 = .ok (.putfield 147, 3) := by decide +kernel
theorem dX5_passesAll_14 : decode cX5_passesAll 14 = .ok (.aload_n 0, 1) := by decide +kernel
theorem dX5_passesAll_15 : decode cX5_passesAll 15 = .ok (.aload_n 0, 1) := by decide +kernel
theorem dX5_passesAll_16 : decode cX5_passesAll 16 = .ok (.getfield 13, 3) := by decide +kernel
theorem dX5_passesAll_19 : decode cX5_passesAll 19 = .ok (.invokevirtual 154, 3) := by decide +kernel
theorem dX5_passesAll_22 : decode cX5_passesAll 22 = .ok (.aload_n 0, 1) := by decide +kernel
theorem dX5_passesAll_23 : decode cX5_passesAll 23 = .ok (.aload_n 0, 1) := by decide +kernel
theorem dX5_passesAll_24 : decode cX5_passesAll 24 = .ok (.getfield 16, 3) := by decide +kernel
theorem dX5_passesAll_27 : decode cX5_passesAll 27 = .ok (.invokevirtual 154, 3) := by decide +kernel
theorem dX5_passesAll_30 : decode cX5_passesAll 30 = .ok (.aload_n 0, 1) := by decide +kernel
theorem dX5_passesAll_31 : decode cX5_passesAll 31 = .ok (.aload_n 0, 1) := by decide +kernel
theorem dX5_passesAll_32 : decode cX5_passesAll 32 = .ok (.getfield 19, 3) := by decide +kernel
theorem dX5_passesAll_35 : decode cX5_passesAll 35 = .ok (.invokevirtual 154, 3) := by decide +kernel
theorem dX5_passesAll_38 : decode cX5_passesAll 38 = .ok (.aload_n 0, 1) := by decide +kernel
theorem dX5_passesAll_39 : decode cX5_passesAll 39 = .ok (.aload_n 0, 1) := by decide +kernel
theorem dX5_passesAll_40 : decode cX5_passesAll 40 = .ok (.getfield 22, 3) := by decide +kernel
theorem dX5_passesAll_43 : decode cX5_passesAll 43 = .ok (.invokevirtual 154, 3) := by decide +kernel
theorem dX5_passesAll_46 : decode cX5_passesAll 46 = .ok (.aload_n 0, 1) := by decide +kernel
theorem dX5_passesAll_47 : decode cX5_passesAll 47 = .ok (.aload_n 0, 1) := by decide +kernel
theorem dX5_passesAll_48 : decode cX5_passesAll 48 = .ok (.getfield 25, 3) := by decide +kernel
theorem dX5_passesAll_51 : decode cX5_passesAll 51 = .ok (.invokevirtual 154, 3) := by decide +kernel
theorem dX5_passesAll_54 : decode cX5_passesAll 54 = .ok (.aload_n 0, 1) := by decide +kernel
theorem dX5_passesAll_55 : decode cX5_passesAll 55 = .ok (.aload_n 0, 1) := by decide +kernel
theorem dX5_passesAll_56 : decode cX5_passesAll 56 = .ok (.getfield 28, 3) := by decide +kernel
theorem dX5_passesAll_59 : decode cX5_passesAll 59 = .ok (.invokevirtual 154, 3) := by decide +kernel
theorem dX5_passesAll_62 : decode cX5_passesAll 62 = .ok (.aload_n 0, 1) := by decide +kernel
theorem dX5_passesAll_63 : decode cX5_passesAll 63 = .ok (.aload_n 0, 1) := by decide +kernel
theorem dX5_passesAll_64 : decode cX5_passesAll 64 = .ok (.getfield 31, 3) := by decide +kernel
theorem dX5_passesAll_67 : decode cX5_passesAll 67 = .ok (.invokevirtual 154, 3) := by decide +kernel
theorem dX5_passesAll_70 : decode cX5_passesAll 70 = .ok (.aload_n 0, 1) := by decide +kernel
theorem dX5_passesAll_71 : decode cX5_passesAll 71 = .ok (.aload_n 0, 1) := by decide +kernel
theorem dX5_passesAll_72 : decode cX5_passesAll 72 = .ok (.getfield 34, 3) := by decide +kernel
theorem dX5_passesAll_75 : decode cX5_passesAll 75 = .ok (.invokevirtual 154, 3) := by decide +kernel
theorem dX5_passesAll_78 : decode cX5_passesAll 78 = .ok (.aload_n 0, 1) := by decide +kernel
theorem dX5_passesAll_79 : decode cX5_passesAll 79 = .ok (.aload_n 0, 1) := by decide +kernel
theorem dX5_passesAll_80 : decode cX5_passesAll 80 = .ok (.getfield 37, 3) := by decide +kernel
theorem dX5_passesAll_83 : decode cX5_passesAll 83 = .ok (.invokevirtual 154, 3) := by decide +kernel
theorem dX5_passesAll_86 : decode cX5_passesAll 86 = .ok (.aload_n 0, 1) := by decide +kernel
theorem dX5_passesAll_87 : decode cX5_passesAll 87 = .ok (.aload_n 0, 1) := by decide +kernel
theorem dX5_passesAll_88 : decode cX5_passesAll 88 = .ok (.getfield 40, 3) := by decide +kernel
theorem dX5_passesAll_91 : decode cX5_passesAll 91 = .ok (.invokevirtual 154, 3) := by decide +kernel
theorem dX5_passesAll_94 : decode cX5_passesAll 94 = .ok (.aload_n 0, 1) := by decide +kernel
theorem dX5_passesAll_95 : decode cX5_passesAll 95 = .ok (.aload_n 0, 1) := by decide +kernel
theorem dX5_passesAll_96 : decode cX5_passesAll 96 = .ok (.getfield 43, 3) := by decide +kernel
theorem dX5_passesAll_99 : decode cX5_passesAll 99 = .ok (.invokevirtual 154, 3) := by decide +kernel
theorem dX5_passesAll_102 : decode cX5_passesAll 102 = .ok (.aload_n 0, 1) := by decide +kernel
theorem dX5_passesAll_103 : decode cX5_passesAll 103 = .ok (.aload_n 0, 1) := by decide +kernel
theorem dX5_passesAll_104 : decode cX5_passesAll 104 = .ok (.aload_n 0, 1) := by decide +kernel
theorem dX5_passesAll_105 : decode cX5_passesAll 105 = .ok (.getfield 46, 3) := by decide +kernel
theorem dX5_passesAll_108 : decode cX5_passesAll 108 = .ok (.invokevirtual 158, 3) := by decide +kernel
theorem dX5_passesAll_111 : decode cX5_passesAll 111 = .ok (.putfield 46, 3) := by decide +kernel
theorem dX5_passesAll_114 : decode cX5_passesAll 114 = .ok (.aload_n 0, 1) := by decide +kernel
theorem dX5_passesAll_115 : decode cX5_passesAll 115 = .ok (.aload_n 0, 1) := by decide +kernel
theorem dX5_passesAll_116 : decode cX5_passesAll 116 = .ok (.aload_n 0, 1) := by decide +kernel
theorem dX5_passesAll_117 : decode cX5_passesAll 117 = .ok (.getfield 78, 3) := by decide +kernel
theorem dX5_passesAll_120 : decode cX5_passesAll 120 = .ok (.invokevirtual 158, 3) := by decide +kernel
theorem dX5_passesAll_123 : decode cX5_passesAll 123 = .ok (.putfield 78, 3) := by decide +kernel
theorem dX5_passesAll_126 : decode cX5_passesAll 126 = .ok (.aload_n 0, 1) := by decide +kernel
theorem dX5_passesAll_127 : decode cX5_passesAll 127 = .ok (.aload_n 0, 1) := by decide +kernel
theorem dX5_passesAll_128 : decode cX5_passesAll 128 = .ok (.aload_n 0, 1) := by decide +kernel
theorem dX5_passesAll_129 : decode cX5_passesAll 129 = .ok (.getfield 50, 3) := by decide +kernel
theorem dX5_passesAll_132 : decode cX5_passesAll 132 = .ok (.invokevirtual 158, 3) := by decide +kernel
theorem dX5_passesAll_135 : decode cX5_passesAll 135 = .ok (.putfield 50, 3) := by decide +kernel
theorem dX5_passesAll_138 : decode cX5_passesAll 138 = .ok (.aload_n 0, 1) := by decide +kernel
theorem dX5_passesAll_139 : decode cX5_passesAll 139 = .ok (.aload_n 0, 1) := by decide +kernel
theorem dX5_passesAll_140 : decode cX5_passesAll 140 = .ok (.aload_n 0, 1) := by decide +kernel
theorem dX5_passesAll_141 : decode cX5_passesAll 141 = .ok (.getfield 161, 3) := by decide +kernel
theorem dX5_passesAll_144 : decode cX5_passesAll 144 = .ok (.invokevirtual 158, 3) := by decide +kernel
theorem dX5_passesAll_147 : decode cX5_passesAll 147 = .ok (.putfield 161, 3) := by decide +kernel
theorem dX5_passesAll_150 : decode cX5_passesAll 150 = .ok (.return_, 1) := by decide +kernel
theorem dX5_image_0 : decode cX5_image 0 = .ok (.aload_n 0, 1) := by decide +kernel
theorem dX5_image_1 : decode cX5_image 1 = .ok (.iconst 1, 1) := by decide +kernel
theorem dX5_image_2 : decode cX5_image 2 = .ok (.putfield 164, 3) := by decide +kernel
theorem dX5_image_5 : decode cX5_image 5 = .ok (.aload_n 0, 1) := by decide +kernel
theorem dX5_image_6 : decode cX5_image 6 = .ok (.iconst 0, 1) := by decide +kernel
theorem dX5_image_7 : decode cX5_image 7 = .ok (.iconst 1, 1) := by decide +kernel
theorem dX5_image_8 : decode cX5_image 8 = .ok (.invokevirtual 140, 3) := by decide +kernel
theorem dX5_image_11 : decode cX5_image 11 = .ok (.aload_n 0, 1) := by decide +kernel
theorem dX5_image_12 : decode cX5_image 12 = .ok (.getfield 161, 3) := by decide +kernel
theorem dX5_image_15 : decode cX5_image 15 = .ok (.ireturn, 1) := by decide +kernel
theorem dX5_restore_0 : decode cX5_restore 0 = .ok (.aload_n 0, 1) := by decide +kernel
theorem dX5_restore_1 : decode cX5_restore 1 = .ok (.getfield 164, 3) := by decide +kernel
theorem dX5_restore_4 : decode cX5_restore 4 = .ok (.ifCond .ne 10, 3) := by decide +kernel
theorem dX5_restore_7 : decode cX5_restore 7 = .ok (.aload_n 0, 1) := by decide +kernel
theorem dX5_restore_8 : decode cX5_restore 8 = .ok (.bipush (-3), 2) := by decide +kernel
theorem dX5_restore_10 : decode cX5_restore 10 = .ok (.invokevirtual 92, 3) := by decide +kernel
theorem dX5_restore_13 : decode cX5_restore 13 = .ok (.ireturn, 1) := by decide +kernel
theorem dX5_restore_14 : decode cX5_restore 14 = .ok (.aload_n 0, 1) := by decide +kernel
theorem dX5_restore_15 : decode cX5_restore 15 = .ok (.iconst 0, 1) := by decide +kernel
theorem dX5_restore_16 : decode cX5_restore 16 = .ok (.iconst 0, 1) := by decide +kernel
theorem dX5_restore_17 : decode cX5_restore 17 = .ok (.invokevirtual 140, 3) := by decide +kernel
theorem dX5_restore_20 : decode cX5_restore 20 = .ok (.aload_n 0, 1) := by decide +kernel
theorem dX5_restore_21 : decode cX5_restore 21 = .ok (.getfield 161, 3) := by decide +kernel
theorem dX5_restore_24 : decode cX5_restore 24 = .ok (.ireturn, 1) := by decide +kernel
theorem dX5_reachOf_0 : decode cX5_reachOf 0 = .ok (.aload_n 0, 1) := by decide +kernel
theorem dX5_reachOf_1 : decode cX5_reachOf 1 = .ok (.getfield 22, 3) := by decide +kernel
theorem dX5_reachOf_4 : decode cX5_reachOf 4 = .ok (.iload_n 1, 1) := by decide +kernel
theorem dX5_reachOf_5 : decode cX5_reachOf 5 = .ok (.iaload, 1) := by decide +kernel
theorem dX5_reachOf_6 : decode cX5_reachOf 6 = .ok (.tableswitch 49 0 3 #[30, 49, 37, 46], 30) := by decide +kernel
theorem dX5_reachOf_36 : decode cX5_reachOf 36 = .ok (.aload_n 0, 1) := by decide +kernel
theorem dX5_reachOf_37 : decode cX5_reachOf 37 = .ok (.getfield 28, 3) := by decide +kernel
theorem dX5_reachOf_40 : decode cX5_reachOf 40 = .ok (.iload_n 1, 1) := by decide +kernel
theorem dX5_reachOf_41 : decode cX5_reachOf 41 = .ok (.iaload, 1) := by decide +kernel
theorem dX5_reachOf_42 : decode cX5_reachOf 42 = .ok (.ireturn, 1) := by decide +kernel
theorem dX5_reachOf_43 : decode cX5_reachOf 43 = .ok (.aload_n 0, 1) := by decide +kernel
theorem dX5_reachOf_44 : decode cX5_reachOf 44 = .ok (.getfield 28, 3) := by decide +kernel
theorem dX5_reachOf_47 : decode cX5_reachOf 47 = .ok (.iload_n 1, 1) := by decide +kernel
theorem dX5_reachOf_48 : decode cX5_reachOf 48 = .ok (.iaload, 1) := by decide +kernel
theorem dX5_reachOf_49 : decode cX5_reachOf 49 = .ok (.iconst 2, 1) := by decide +kernel
theorem dX5_reachOf_50 : decode cX5_reachOf 50 = .ok (.idiv, 1) := by decide +kernel
theorem dX5_reachOf_51 : decode cX5_reachOf 51 = .ok (.ireturn, 1) := by decide +kernel
theorem dX5_reachOf_52 : decode cX5_reachOf 52 = .ok (.bipush 99, 2) := by decide +kernel
theorem dX5_reachOf_54 : decode cX5_reachOf 54 = .ok (.ireturn, 1) := by decide +kernel
theorem dX5_reachOf_55 : decode cX5_reachOf 55 = .ok (.aload_n 0, 1) := by decide +kernel
theorem dX5_reachOf_56 : decode cX5_reachOf 56 = .ok (.getfield 28, 3) := by decide +kernel
theorem dX5_reachOf_59 : decode cX5_reachOf 59 = .ok (.iload_n 1, 1) := by decide +kernel
theorem dX5_reachOf_60 : decode cX5_reachOf 60 = .ok (.iaload, 1) := by decide +kernel
theorem dX5_reachOf_61 : decode cX5_reachOf 61 = .ok (.iconst 2, 1) := by decide +kernel
theorem dX5_reachOf_62 : decode cX5_reachOf 62 = .ok (.iadd, 1) := by decide +kernel
theorem dX5_reachOf_63 : decode cX5_reachOf 63 = .ok (.ireturn, 1) := by decide +kernel
theorem dX5_holdOf_0 : decode cX5_holdOf 0 = .ok (.aload_n 0, 1) := by decide +kernel
theorem dX5_holdOf_1 : decode cX5_holdOf 1 = .ok (.getfield 22, 3) := by decide +kernel
theorem dX5_holdOf_4 : decode cX5_holdOf 4 = .ok (.iload_n 1, 1) := by decide +kernel
theorem dX5_holdOf_5 : decode cX5_holdOf 5 = .ok (.iaload, 1) := by decide +kernel
theorem dX5_holdOf_6 : decode cX5_holdOf 6 = .ok (.tableswitch 76 2 5 #[30, 53, 62, 62], 30) := by decide +kernel
theorem dX5_holdOf_36 : decode cX5_holdOf 36 = .ok (.aload_n 0, 1) := by decide +kernel
theorem dX5_holdOf_37 : decode cX5_holdOf 37 = .ok (.getfield 31, 3) := by decide +kernel
theorem dX5_holdOf_40 : decode cX5_holdOf 40 = .ok (.iload_n 1, 1) := by decide +kernel
theorem dX5_holdOf_41 : decode cX5_holdOf 41 = .ok (.iaload, 1) := by decide +kernel
theorem dX5_holdOf_42 : decode cX5_holdOf 42 = .ok (.iconst 2, 1) := by decide +kernel
theorem dX5_holdOf_43 : decode cX5_holdOf 43 = .ok (.if_icmp .le 14, 3) := by decide +kernel
theorem dX5_holdOf_46 : decode cX5_holdOf 46 = .ok (.aload_n 0, 1) := by decide +kernel
theorem dX5_holdOf_47 : decode cX5_holdOf 47 = .ok (.getfield 31, 3) := by decide +kernel
theorem dX5_holdOf_50 : decode cX5_holdOf 50 = .ok (.iload_n 1, 1) := by decide +kernel
theorem dX5_holdOf_51 : decode cX5_holdOf 51 = .ok (.iaload, 1) := by decide +kernel
theorem dX5_holdOf_52 : decode cX5_holdOf 52 = .ok (.iconst 2, 1) := by decide +kernel
theorem dX5_holdOf_53 : decode cX5_holdOf 53 = .ok (.isub, 1) := by decide +kernel
theorem dX5_holdOf_54 : decode cX5_holdOf 54 = .ok (.goto 4, 3) := by decide +kernel
theorem dX5_holdOf_57 : decode cX5_holdOf 57 = .ok (.iconst 0, 1) := by decide +kernel
theorem dX5_holdOf_58 : decode cX5_holdOf 58 = .ok (.ireturn, 1) := by decide +kernel
theorem dX5_holdOf_59 : decode cX5_holdOf 59 = .ok (.aload_n 0, 1) := by decide +kernel
theorem dX5_holdOf_60 : decode cX5_holdOf 60 = .ok (.getfield 31, 3) := by decide +kernel
theorem dX5_holdOf_63 : decode cX5_holdOf 63 = .ok (.iload_n 1, 1) := by decide +kernel
theorem dX5_holdOf_64 : decode cX5_holdOf 64 = .ok (.iaload, 1) := by decide +kernel
theorem dX5_holdOf_65 : decode cX5_holdOf 65 = .ok (.iconst 2, 1) := by decide +kernel
theorem dX5_holdOf_66 : decode cX5_holdOf 66 = .ok (.idiv, 1) := by decide +kernel
theorem dX5_holdOf_67 : decode cX5_holdOf 67 = .ok (.ireturn, 1) := by decide +kernel
theorem dX5_holdOf_68 : decode cX5_holdOf 68 = .ok (.aload_n 0, 1) := by decide +kernel
theorem dX5_holdOf_69 : decode cX5_holdOf 69 = .ok (.getfield 31, 3) := by decide +kernel
theorem dX5_holdOf_72 : decode cX5_holdOf 72 = .ok (.iload_n 1, 1) := by decide +kernel
theorem dX5_holdOf_73 : decode cX5_holdOf 73 = .ok (.iaload, 1) := by decide +kernel
theorem dX5_holdOf_74 : decode cX5_holdOf 74 = .ok (.aload_n 0, 1) := by decide +kernel
theorem dX5_holdOf_75 : decode cX5_holdOf 75 = .ok (.getfield 25, 3) := by decide +kernel
theorem dX5_holdOf_78 : decode cX5_holdOf 78 = .ok (.iload_n 1, 1) := by decide +kernel
theorem dX5_holdOf_79 : decode cX5_holdOf 79 = .ok (.iaload, 1) := by decide +kernel
theorem dX5_holdOf_80 : decode cX5_holdOf 80 = .ok (.iadd, 1) := by decide +kernel
theorem dX5_holdOf_81 : decode cX5_holdOf 81 = .ok (.ireturn, 1) := by decide +kernel
theorem dX5_holdOf_82 : decode cX5_holdOf 82 = .ok (.aload_n 0, 1) := by decide +kernel
theorem dX5_holdOf_83 : decode cX5_holdOf 83 = .ok (.getfield 31, 3) := by decide +kernel
theorem dX5_holdOf_86 : decode cX5_holdOf 86 = .ok (.iload_n 1, 1) := by decide +kernel
theorem dX5_holdOf_87 : decode cX5_holdOf 87 = .ok (.iaload, 1) := by decide +kernel
theorem dX5_holdOf_88 : decode cX5_holdOf 88 = .ok (.ireturn, 1) := by decide +kernel
theorem dX5_coolOf_0 : decode cX5_coolOf 0 = .ok (.aload_n 0, 1) := by decide +kernel
theorem dX5_coolOf_1 : decode cX5_coolOf 1 = .ok (.getfield 22, 3) := by decide +kernel
theorem dX5_coolOf_4 : decode cX5_coolOf 4 = .ok (.iload_n 1, 1) := by decide +kernel
theorem dX5_coolOf_5 : decode cX5_coolOf 5 = .ok (.iaload, 1) := by decide +kernel
theorem dX5_coolOf_6 : decode cX5_coolOf 6 = .ok (.tableswitch 58 2 5 #[30, 58, 39, 56], 30) := by decide +kernel
theorem dX5_coolOf_36 : decode cX5_coolOf 36 = .ok (.iconst 2, 1) := by decide +kernel
theorem dX5_coolOf_37 : decode cX5_coolOf 37 = .ok (.aload_n 0, 1) := by decide +kernel
theorem dX5_coolOf_38 : decode cX5_coolOf 38 = .ok (.getfield 50, 3) := by decide +kernel
theorem dX5_coolOf_41 : decode cX5_coolOf 41 = .ok (.iconst 1, 1) := by decide +kernel
theorem dX5_coolOf_42 : decode cX5_coolOf 42 = .ok (.iadd, 1) := by decide +kernel
theorem dX5_coolOf_43 : decode cX5_coolOf 43 = .ok (.imul, 1) := by decide +kernel
theorem dX5_coolOf_44 : decode cX5_coolOf 44 = .ok (.ireturn, 1) := by decide +kernel
theorem dX5_coolOf_45 : decode cX5_coolOf 45 = .ok (.aload_n 0, 1) := by decide +kernel
theorem dX5_coolOf_46 : decode cX5_coolOf 46 = .ok (.getfield 50, 3) := by decide +kernel
theorem dX5_coolOf_49 : decode cX5_coolOf 49 = .ok (.iconst 1, 1) := by decide +kernel
theorem dX5_coolOf_50 : decode cX5_coolOf 50 = .ok (.if_icmp .le 10, 3) := by decide +kernel
theorem dX5_coolOf_53 : decode cX5_coolOf 53 = .ok (.aload_n 0, 1) := by decide +kernel
theorem dX5_coolOf_54 : decode cX5_coolOf 54 = .ok (.getfield 50, 3) := by decide +kernel
theorem dX5_coolOf_57 : decode cX5_coolOf 57 = .ok (.goto 4, 3) := by decide +kernel
theorem dX5_coolOf_60 : decode cX5_coolOf 60 = .ok (.iconst 1, 1) := by decide +kernel
theorem dX5_coolOf_61 : decode cX5_coolOf 61 = .ok (.ireturn, 1) := by decide +kernel
theorem dX5_coolOf_62 : decode cX5_coolOf 62 = .ok (.iconst 1, 1) := by decide +kernel
theorem dX5_coolOf_63 : decode cX5_coolOf 63 = .ok (.ireturn, 1) := by decide +kernel
theorem dX5_coolOf_64 : decode cX5_coolOf 64 = .ok (.aload_n 0, 1) := by decide +kernel
theorem dX5_coolOf_65 : decode cX5_coolOf 65 = .ok (.getfield 50, 3) := by decide +kernel
theorem dX5_coolOf_68 : decode cX5_coolOf 68 = .ok (.iconst 1, 1) := by decide +kernel
theorem dX5_coolOf_69 : decode cX5_coolOf 69 = .ok (.iadd, 1) := by decide +kernel
theorem dX5_coolOf_70 : decode cX5_coolOf 70 = .ok (.ireturn, 1) := by decide +kernel
theorem dX5_yard_0 : decode cX5_yard 0 = .ok (.aload_n 0, 1) := by decide +kernel
theorem dX5_yard_1 : decode cX5_yard 1 = .ok (.iload_n 1, 1) := by decide +kernel
theorem dX5_yard_2 : decode cX5_yard 2 = .ok (.invokevirtual 123, 3) := by decide +kernel
theorem dX5_yard_5 : decode cX5_yard 5 = .ok (.ifCond .ne 9, 3) := by decide +kernel
theorem dX5_yard_8 : decode cX5_yard 8 = .ok (.aload_n 0, 1) := by decide +kernel
theorem dX5_yard_9 : decode cX5_yard 9 = .ok (.iconst (-1), 1) := by decide +kernel
theorem dX5_yard_10 : decode cX5_yard 10 = .ok (.invokevirtual 92, 3) := by decide +kernel
theorem dX5_yard_13 : decode cX5_yard 13 = .ok (.ireturn, 1) := by decide +kernel
theorem dX5_yard_14 : decode cX5_yard 14 = .ok (.iload_n 2, 1) := by decide +kernel
theorem dX5_yard_15 : decode cX5_yard 15 = .ok (.tableswitch 46 0 2 #[25, 32, 39], 25) := by decide +kernel
theorem dX5_yard_40 : decode cX5_yard 40 = .ok (.aload_n 0, 1) := by decide +kernel
theorem dX5_yard_41 : decode cX5_yard 41 = .ok (.getfield 13, 3) := by decide +kernel
theorem dX5_yard_44 : decode cX5_yard 44 = .ok (.iload_n 1, 1) := by decide +kernel
theorem dX5_yard_45 : decode cX5_yard 45 = .ok (.iaload, 1) := by decide +kernel
theorem dX5_yard_46 : decode cX5_yard 46 = .ok (.ireturn, 1) := by decide +kernel
theorem dX5_yard_47 : decode cX5_yard 47 = .ok (.aload_n 0, 1) := by decide +kernel
theorem dX5_yard_48 : decode cX5_yard 48 = .ok (.getfield 16, 3) := by decide +kernel
theorem dX5_yard_51 : decode cX5_yard 51 = .ok (.iload_n 1, 1) := by decide +kernel
theorem dX5_yard_52 : decode cX5_yard 52 = .ok (.iaload, 1) := by decide +kernel
theorem dX5_yard_53 : decode cX5_yard 53 = .ok (.ireturn, 1) := by decide +kernel
theorem dX5_yard_54 : decode cX5_yard 54 = .ok (.aload_n 0, 1) := by decide +kernel
theorem dX5_yard_55 : decode cX5_yard 55 = .ok (.getfield 19, 3) := by decide +kernel
theorem dX5_yard_58 : decode cX5_yard 58 = .ok (.iload_n 1, 1) := by decide +kernel
theorem dX5_yard_59 : decode cX5_yard 59 = .ok (.iaload, 1) := by decide +kernel
theorem dX5_yard_60 : decode cX5_yard 60 = .ok (.ireturn, 1) := by decide +kernel
theorem dX5_yard_61 : decode cX5_yard 61 = .ok (.aload_n 0, 1) := by decide +kernel
theorem dX5_yard_62 : decode cX5_yard 62 = .ok (.bipush (-2), 2) := by decide +kernel
theorem dX5_yard_64 : decode cX5_yard 64 = .ok (.invokevirtual 92, 3) := by decide +kernel
theorem dX5_yard_67 : decode cX5_yard 67 = .ok (.ireturn, 1) := by decide +kernel
theorem dX5_person_0 : decode cX5_person 0 = .ok (.aload_n 0, 1) := by decide +kernel
theorem dX5_person_1 : decode cX5_person 1 = .ok (.iload_n 1, 1) := by decide +kernel
theorem dX5_person_2 : decode cX5_person 2 = .ok (.invokevirtual 81, 3) := by decide +kernel
theorem dX5_person_5 : decode cX5_person 5 = .ok (.ifCond .ne 9, 3) := by decide +kernel
theorem dX5_person_8 : decode cX5_person 8 = .ok (.aload_n 0, 1) := by decide +kernel
theorem dX5_person_9 : decode cX5_person 9 = .ok (.iconst (-1), 1) := by decide +kernel
theorem dX5_person_10 : decode cX5_person 10 = .ok (.invokevirtual 92, 3) := by decide +kernel
theorem dX5_person_13 : decode cX5_person 13 = .ok (.ireturn, 1) := by decide +kernel
theorem dX5_person_14 : decode cX5_person 14 = .ok (.iload_n 2, 1) := by decide +kernel
theorem dX5_person_15 : decode cX5_person 15 = .ok (.tableswitch 108 0 8 #[49, 56, 63, 70, 77, 84, 90, 96, 102], 49) := by decide +kernel
theorem dX5_person_64 : decode cX5_person 64 = .ok (.aload_n 0, 1) := by decide +kernel
theorem dX5_person_65 : decode cX5_person 65 = .ok (.getfield 22, 3) := by decide +kernel
theorem dX5_person_68 : decode cX5_person 68 = .ok (.iload_n 1, 1) := by decide +kernel
theorem dX5_person_69 : decode cX5_person 69 = .ok (.iaload, 1) := by decide +kernel
theorem dX5_person_70 : decode cX5_person 70 = .ok (.ireturn, 1) := by decide +kernel
theorem dX5_person_71 : decode cX5_person 71 = .ok (.aload_n 0, 1) := by decide +kernel
theorem dX5_person_72 : decode cX5_person 72 = .ok (.getfield 25, 3) := by decide +kernel
theorem dX5_person_75 : decode cX5_person 75 = .ok (.iload_n 1, 1) := by decide +kernel
theorem dX5_person_76 : decode cX5_person 76 = .ok (.iaload, 1) := by decide +kernel
theorem dX5_person_77 : decode cX5_person 77 = .ok (.ireturn, 1) := by decide +kernel
theorem dX5_person_78 : decode cX5_person 78 = .ok (.aload_n 0, 1) := by decide +kernel
theorem dX5_person_79 : decode cX5_person 79 = .ok (.getfield 28, 3) := by decide +kernel
theorem dX5_person_82 : decode cX5_person 82 = .ok (.iload_n 1, 1) := by decide +kernel
theorem dX5_person_83 : decode cX5_person 83 = .ok (.iaload, 1) := by decide +kernel
theorem dX5_person_84 : decode cX5_person 84 = .ok (.ireturn, 1) := by decide +kernel
theorem dX5_person_85 : decode cX5_person 85 = .ok (.aload_n 0, 1) := by decide +kernel
theorem dX5_person_86 : decode cX5_person 86 = .ok (.getfield 31, 3) := by decide +kernel
theorem dX5_person_89 : decode cX5_person 89 = .ok (.iload_n 1, 1) := by decide +kernel
theorem dX5_person_90 : decode cX5_person 90 = .ok (.iaload, 1) := by decide +kernel
theorem dX5_person_91 : decode cX5_person 91 = .ok (.ireturn, 1) := by decide +kernel
theorem dX5_person_92 : decode cX5_person 92 = .ok (.aload_n 0, 1) := by decide +kernel
theorem dX5_person_93 : decode cX5_person 93 = .ok (.getfield 34, 3) := by decide +kernel
theorem dX5_person_96 : decode cX5_person 96 = .ok (.iload_n 1, 1) := by decide +kernel
theorem dX5_person_97 : decode cX5_person 97 = .ok (.iaload, 1) := by decide +kernel
theorem dX5_person_98 : decode cX5_person 98 = .ok (.ireturn, 1) := by decide +kernel
theorem dX5_person_99 : decode cX5_person 99 = .ok (.aload_n 0, 1) := by decide +kernel
theorem dX5_person_100 : decode cX5_person 100 = .ok (.iload_n 1, 1) := by decide +kernel
theorem dX5_person_101 : decode cX5_person 101 = .ok (.invokevirtual 167, 3) := by decide +kernel
theorem dX5_person_104 : decode cX5_person 104 = .ok (.ireturn, 1) := by decide +kernel
theorem dX5_person_105 : decode cX5_person 105 = .ok (.aload_n 0, 1) := by decide +kernel
theorem dX5_person_106 : decode cX5_person 106 = .ok (.iload_n 1, 1) := by decide +kernel
theorem dX5_person_107 : decode cX5_person 107 = .ok (.invokevirtual 170, 3) := by decide +kernel
theorem dX5_person_110 : decode cX5_person 110 = .ok (.ireturn, 1) := by decide +kernel
theorem dX5_person_111 : decode cX5_person 111 = .ok (.aload_n 0, 1) := by decide +kernel
theorem dX5_person_112 : decode cX5_person 112 = .ok (.iload_n 1, 1) := by decide +kernel
theorem dX5_person_113 : decode cX5_person 113 = .ok (.invokevirtual 173, 3) := by decide +kernel
theorem dX5_person_116 : decode cX5_person 116 = .ok (.ireturn, 1) := by decide +kernel
theorem dX5_person_117 : decode cX5_person 117 = .ok (.aload_n 0, 1) := by decide +kernel
theorem dX5_person_118 : decode cX5_person 118 = .ok (.iload_n 1, 1) := by decide +kernel
theorem dX5_person_119 : decode cX5_person 119 = .ok (.invokevirtual 117, 3) := by decide +kernel
theorem dX5_person_122 : decode cX5_person 122 = .ok (.ireturn, 1) := by decide +kernel
theorem dX5_person_123 : decode cX5_person 123 = .ok (.aload_n 0, 1) := by decide +kernel
theorem dX5_person_124 : decode cX5_person 124 = .ok (.bipush (-2), 2) := by decide +kernel
theorem dX5_person_126 : decode cX5_person 126 = .ok (.invokevirtual 92, 3) := by decide +kernel
theorem dX5_person_129 : decode cX5_person 129 = .ok (.ireturn, 1) := by decide +kernel
theorem dX5_grudge_0 : decode cX5_grudge 0 = .ok (.aload_n 0, 1) := by decide +kernel
theorem dX5_grudge_1 : decode cX5_grudge 1 = .ok (.iload_n 1, 1) := by decide +kernel
theorem dX5_grudge_2 : decode cX5_grudge 2 = .ok (.iload_n 2, 1) := by decide +kernel
theorem dX5_grudge_3 : decode cX5_grudge 3 = .ok (.invokevirtual 129, 3) := by decide +kernel
theorem dX5_grudge_6 : decode cX5_grudge 6 = .ok (.ifCond .eq 17, 3) := by decide +kernel
theorem dX5_grudge_9 : decode cX5_grudge 9 = .ok (.aload_n 0, 1) := by decide +kernel
theorem dX5_grudge_10 : decode cX5_grudge 10 = .ok (.getfield 40, 3) := by decide +kernel
theorem dX5_grudge_13 : decode cX5_grudge 13 = .ok (.bipush 7, 2) := by decide +kernel
theorem dX5_grudge_15 : decode cX5_grudge 15 = .ok (.iload_n 1, 1) := by decide +kernel
theorem dX5_grudge_16 : decode cX5_grudge 16 = .ok (.imul, 1) := by decide +kernel
theorem dX5_grudge_17 : decode cX5_grudge 17 = .ok (.iload_n 2, 1) := by decide +kernel
theorem dX5_grudge_18 : decode cX5_grudge 18 = .ok (.iadd, 1) := by decide +kernel
theorem dX5_grudge_19 : decode cX5_grudge 19 = .ok (.iaload, 1) := by decide +kernel
theorem dX5_grudge_20 : decode cX5_grudge 20 = .ok (.goto 8, 3) := by decide +kernel
theorem dX5_grudge_23 : decode cX5_grudge 23 = .ok (.aload_n 0, 1) := by decide +kernel
theorem dX5_grudge_24 : decode cX5_grudge 24 = .ok (.iconst (-1), 1) := by decide +kernel
theorem dX5_grudge_25 : decode cX5_grudge 25 = .ok (.invokevirtual 92, 3) := by decide +kernel
theorem dX5_grudge_28 : decode cX5_grudge 28 = .ok (.ireturn, 1) := by decide +kernel
theorem dX5_quarrel_0 : decode cX5_quarrel 0 = .ok (.aload_n 0, 1) := by decide +kernel
theorem dX5_quarrel_1 : decode cX5_quarrel 1 = .ok (.iload_n 1, 1) := by decide +kernel
theorem dX5_quarrel_2 : decode cX5_quarrel 2 = .ok (.iload_n 2, 1) := by decide +kernel
theorem dX5_quarrel_3 : decode cX5_quarrel 3 = .ok (.invokevirtual 129, 3) := by decide +kernel
theorem dX5_quarrel_6 : decode cX5_quarrel 6 = .ok (.ifCond .ne 9, 3) := by decide +kernel
theorem dX5_quarrel_9 : decode cX5_quarrel 9 = .ok (.aload_n 0, 1) := by decide +kernel
theorem dX5_quarrel_10 : decode cX5_quarrel 10 = .ok (.iconst (-1), 1) := by decide +kernel
theorem dX5_quarrel_11 : decode cX5_quarrel 11 = .ok (.invokevirtual 92, 3) := by decide +kernel
theorem dX5_quarrel_14 : decode cX5_quarrel 14 = .ok (.ireturn, 1) := by decide +kernel
theorem dX5_quarrel_15 : decode cX5_quarrel 15 = .ok (.iload_n 3, 1) := by decide +kernel
theorem dX5_quarrel_16 : decode cX5_quarrel 16 = .ok (.iconst 0, 1) := by decide +kernel
theorem dX5_quarrel_17 : decode cX5_quarrel 17 = .ok (.iconst 1, 1) := by decide +kernel
theorem dX5_quarrel_18 : decode cX5_quarrel 18 = .ok (.invokestatic 103, 3) := by decide +kernel
theorem dX5_quarrel_21 : decode cX5_quarrel 21 = .ok (.ifCond .ne 10, 3) := by decide +kernel
theorem dX5_quarrel_24 : decode cX5_quarrel 24 = .ok (.aload_n 0, 1) := by decide +kernel
theorem dX5_quarrel_25 : decode cX5_quarrel 25 = .ok (.bipush (-2), 2) := by decide +kernel
theorem dX5_quarrel_27 : decode cX5_quarrel 27 = .ok (.invokevirtual 92, 3) := by decide +kernel
theorem dX5_quarrel_30 : decode cX5_quarrel 30 = .ok (.ireturn, 1) := by decide +kernel
theorem dX5_quarrel_31 : decode cX5_quarrel 31 = .ok (.aload_n 0, 1) := by decide +kernel
theorem dX5_quarrel_32 : decode cX5_quarrel 32 = .ok (.getfield 40, 3) := by decide +kernel
theorem dX5_quarrel_35 : decode cX5_quarrel 35 = .ok (.bipush 7, 2) := by decide +kernel
theorem dX5_quarrel_37 : decode cX5_quarrel 37 = .ok (.iload_n 1, 1) := by decide +kernel
theorem dX5_quarrel_38 : decode cX5_quarrel 38 = .ok (.imul, 1) := by decide +kernel
theorem dX5_quarrel_39 : decode cX5_quarrel 39 = .ok (.iload_n 2, 1) := by decide +kernel
theorem dX5_quarrel_40 : decode cX5_quarrel 40 = .ok (.iadd, 1) := by decide +kernel
theorem dX5_quarrel_41 : decode cX5_quarrel 41 = .ok (.iaload, 1) := by decide +kernel
theorem dX5_quarrel_42 : decode cX5_quarrel 42 = .ok (.istore 4, 2) := by decide +kernel
theorem dX5_quarrel_44 : decode cX5_quarrel 44 = .ok (.aload_n 0, 1) := by decide +kernel
theorem dX5_quarrel_45 : decode cX5_quarrel 45 = .ok (.getfield 40, 3) := by decide +kernel
theorem dX5_quarrel_48 : decode cX5_quarrel 48 = .ok (.bipush 7, 2) := by decide +kernel
theorem dX5_quarrel_50 : decode cX5_quarrel 50 = .ok (.iload_n 1, 1) := by decide +kernel
theorem dX5_quarrel_51 : decode cX5_quarrel 51 = .ok (.imul, 1) := by decide +kernel
theorem dX5_quarrel_52 : decode cX5_quarrel 52 = .ok (.iload_n 2, 1) := by decide +kernel
theorem dX5_quarrel_53 : decode cX5_quarrel 53 = .ok (.iadd, 1) := by decide +kernel
theorem dX5_quarrel_54 : decode cX5_quarrel 54 = .ok (.iload_n 3, 1) := by decide +kernel
theorem dX5_quarrel_55 : decode cX5_quarrel 55 = .ok (.iastore, 1) := by decide +kernel
theorem dX5_quarrel_56 : decode cX5_quarrel 56 = .ok (.aload_n 0, 1) := by decide +kernel
theorem dX5_quarrel_57 : decode cX5_quarrel 57 = .ok (.getfield 40, 3) := by decide +kernel
theorem dX5_quarrel_60 : decode cX5_quarrel 60 = .ok (.bipush 7, 2) := by decide +kernel
theorem dX5_quarrel_62 : decode cX5_quarrel 62 = .ok (.iload_n 2, 1) := by decide +kernel
theorem dX5_quarrel_63 : decode cX5_quarrel 63 = .ok (.imul, 1) := by decide +kernel
theorem dX5_quarrel_64 : decode cX5_quarrel 64 = .ok (.iload_n 1, 1) := by decide +kernel
theorem dX5_quarrel_65 : decode cX5_quarrel 65 = .ok (.iadd, 1) := by decide +kernel
theorem dX5_quarrel_66 : decode cX5_quarrel 66 = .ok (.iload_n 3, 1) := by decide +kernel
theorem dX5_quarrel_67 : decode cX5_quarrel 67 = .ok (.iastore, 1) := by decide +kernel
theorem dX5_quarrel_68 : decode cX5_quarrel 68 = .ok (.iload 4, 2) := by decide +kernel
theorem dX5_quarrel_70 : decode cX5_quarrel 70 = .ok (.ireturn, 1) := by decide +kernel
theorem dX5_cold_0 : decode cX5_cold 0 = .ok (.iload_n 1, 1) := by decide +kernel
theorem dX5_cold_1 : decode cX5_cold 1 = .ok (.iconst 0, 1) := by decide +kernel
theorem dX5_cold_2 : decode cX5_cold 2 = .ok (.bipush 9, 2) := by decide +kernel
theorem dX5_cold_4 : decode cX5_cold 4 = .ok (.invokestatic 85, 3) := by decide +kernel
theorem dX5_cold_7 : decode cX5_cold 7 = .ok (.istore_n 2, 1) := by decide +kernel
theorem dX5_cold_8 : decode cX5_cold 8 = .ok (.iload_n 2, 1) := by decide +kernel
theorem dX5_cold_9 : decode cX5_cold 9 = .ok (.ifCond .eq 9, 3) := by decide +kernel
theorem dX5_cold_12 : decode cX5_cold 12 = .ok (.aload_n 0, 1) := by decide +kernel
theorem dX5_cold_13 : decode cX5_cold 13 = .ok (.iload_n 2, 1) := by decide +kernel
theorem dX5_cold_14 : decode cX5_cold 14 = .ok (.invokevirtual 92, 3) := by decide +kernel
theorem dX5_cold_17 : decode cX5_cold 17 = .ok (.ireturn, 1) := by decide +kernel
theorem dX5_cold_18 : decode cX5_cold 18 = .ok (.aload_n 0, 1) := by decide +kernel
theorem dX5_cold_19 : decode cX5_cold 19 = .ok (.getfield 50, 3) := by decide +kernel
theorem dX5_cold_22 : decode cX5_cold 22 = .ok (.istore_n 3, 1) := by decide +kernel
theorem dX5_cold_23 : decode cX5_cold 23 = .ok (.aload_n 0, 1) := by decide +kernel
theorem dX5_cold_24 : decode cX5_cold 24 = .ok (.iload_n 1, 1) := by decide +kernel
theorem dX5_cold_25 : decode cX5_cold 25 = .ok (.putfield 50, 3) := by decide +kernel
theorem dX5_cold_28 : decode cX5_cold 28 = .ok (.iload_n 3, 1) := by decide +kernel
theorem dX5_cold_29 : decode cX5_cold 29 = .ok (.ireturn, 1) := by decide +kernel
theorem dX5_put_0 : decode cX5_put 0 = .ok (.aload_n 0, 1) := by decide +kernel
theorem dX5_put_1 : decode cX5_put 1 = .ok (.iload_n 1, 1) := by decide +kernel
theorem dX5_put_2 : decode cX5_put 2 = .ok (.invokevirtual 123, 3) := by decide +kernel
theorem dX5_put_5 : decode cX5_put 5 = .ok (.ifCond .eq 11, 3) := by decide +kernel
theorem dX5_put_8 : decode cX5_put 8 = .ok (.aload_n 0, 1) := by decide +kernel
theorem dX5_put_9 : decode cX5_put 9 = .ok (.iload_n 2, 1) := by decide +kernel
theorem dX5_put_10 : decode cX5_put 10 = .ok (.invokevirtual 81, 3) := by decide +kernel
theorem dX5_put_13 : decode cX5_put 13 = .ok (.ifCond .ne 9, 3) := by decide +kernel
theorem dX5_put_16 : decode cX5_put 16 = .ok (.aload_n 0, 1) := by decide +kernel
theorem dX5_put_17 : decode cX5_put 17 = .ok (.iconst (-1), 1) := by decide +kernel
theorem dX5_put_18 : decode cX5_put 18 = .ok (.invokevirtual 92, 3) := by decide +kernel
theorem dX5_put_21 : decode cX5_put 21 = .ok (.ireturn, 1) := by decide +kernel
theorem dX5_put_22 : decode cX5_put 22 = .ok (.aload_n 0, 1) := by decide +kernel
theorem dX5_put_23 : decode cX5_put 23 = .ok (.getfield 37, 3) := by decide +kernel
theorem dX5_put_26 : decode cX5_put 26 = .ok (.iload_n 2, 1) := by decide +kernel
theorem dX5_put_27 : decode cX5_put 27 = .ok (.iaload, 1) := by decide +kernel
theorem dX5_put_28 : decode cX5_put 28 = .ok (.iconst 1, 1) := by decide +kernel
theorem dX5_put_29 : decode cX5_put 29 = .ok (.if_icmp .ne 10, 3) := by decide +kernel
theorem dX5_put_32 : decode cX5_put 32 = .ok (.aload_n 0, 1) := by decide +kernel
theorem dX5_put_33 : decode cX5_put 33 = .ok (.bipush (-3), 2) := by decide +kernel
theorem dX5_put_35 : decode cX5_put 35 = .ok (.invokevirtual 92, 3) := by decide +kernel
theorem dX5_put_38 : decode cX5_put 38 = .ok (.ireturn, 1) := by decide +kernel
theorem dX5_put_39 : decode cX5_put 39 = .ok (.aload_n 0, 1) := by decide +kernel
theorem dX5_put_40 : decode cX5_put 40 = .ok (.getfield 19, 3) := by decide +kernel
theorem dX5_put_43 : decode cX5_put 43 = .ok (.iload_n 1, 1) := by decide +kernel
theorem dX5_put_44 : decode cX5_put 44 = .ok (.iaload, 1) := by decide +kernel
theorem dX5_put_45 : decode cX5_put 45 = .ok (.istore_n 3, 1) := by decide +kernel
theorem dX5_put_46 : decode cX5_put 46 = .ok (.aload_n 0, 1) := by decide +kernel
theorem dX5_put_47 : decode cX5_put 47 = .ok (.iload_n 1, 1) := by decide +kernel
theorem dX5_put_48 : decode cX5_put 48 = .ok (.iload_n 2, 1) := by decide +kernel
theorem dX5_put_49 : decode cX5_put 49 = .ok (.invokevirtual 132, 3) := by decide +kernel
theorem dX5_put_52 : decode cX5_put 52 = .ok (.iload_n 3, 1) := by decide +kernel
theorem dX5_put_53 : decode cX5_put 53 = .ok (.ireturn, 1) := by decide +kernel
theorem dX5_wetMany_0 : decode cX5_wetMany 0 = .ok (.iconst 0, 1) := by decide +kernel
theorem dX5_wetMany_1 : decode cX5_wetMany 1 = .ok (.istore_n 1, 1) := by decide +kernel
theorem dX5_wetMany_2 : decode cX5_wetMany 2 = .ok (.iconst 0, 1) := by decide +kernel
theorem dX5_wetMany_3 : decode cX5_wetMany 3 = .ok (.istore_n 2, 1) := by decide +kernel
theorem dX5_wetMany_4 : decode cX5_wetMany 4 = .ok (.iload_n 2, 1) := by decide +kernel
theorem dX5_wetMany_5 : decode cX5_wetMany 5 = .ok (.aload_n 0, 1) := by decide +kernel
theorem dX5_wetMany_6 : decode cX5_wetMany 6 = .ok (.getfield 46, 3) := by decide +kernel
theorem dX5_wetMany_9 : decode cX5_wetMany 9 = .ok (.if_icmp .ge 26, 3) := by decide +kernel
theorem dX5_wetMany_12 : decode cX5_wetMany 12 = .ok (.iload_n 1, 1) := by decide +kernel
theorem dX5_wetMany_13 : decode cX5_wetMany 13 = .ok (.aload_n 0, 1) := by decide +kernel
theorem dX5_wetMany_14 : decode cX5_wetMany 14 = .ok (.getfield 19, 3) := by decide +kernel
theorem dX5_wetMany_17 : decode cX5_wetMany 17 = .ok (.iload_n 2, 1) := by decide +kernel
theorem dX5_wetMany_18 : decode cX5_wetMany 18 = .ok (.iaload, 1) := by decide +kernel
theorem dX5_wetMany_19 : decode cX5_wetMany 19 = .ok (.ifCond .lt 7, 3) := by decide +kernel
theorem dX5_wetMany_22 : decode cX5_wetMany 22 = .ok (.iconst 1, 1) := by decide +kernel
theorem dX5_wetMany_23 : decode cX5_wetMany 23 = .ok (.goto 4, 3) := by decide +kernel
theorem dX5_wetMany_26 : decode cX5_wetMany 26 = .ok (.iconst 0, 1) := by decide +kernel
theorem dX5_wetMany_27 : decode cX5_wetMany 27 = .ok (.iadd, 1) := by decide +kernel
theorem dX5_wetMany_28 : decode cX5_wetMany 28 = .ok (.istore_n 1, 1) := by decide +kernel
theorem dX5_wetMany_29 : decode cX5_wetMany 29 = .ok (.iinc 2 1, 3) := by decide +kernel
theorem dX5_wetMany_32 : decode cX5_wetMany 32 = .ok (.goto (-28), 3) := by decide +kernel
theorem dX5_wetMany_35 : decode cX5_wetMany 35 = .ok (.iload_n 1, 1) := by decide +kernel
theorem dX5_wetMany_36 : decode cX5_wetMany 36 = .ok (.ireturn, 1) := by decide +kernel
theorem dX5_out_0 : decode cX5_out 0 = .ok (.aload_n 0, 1) := by decide +kernel
theorem dX5_out_1 : decode cX5_out 1 = .ok (.invokevirtual 176, 3) := by decide +kernel
theorem dX5_out_4 : decode cX5_out 4 = .ok (.aload_n 0, 1) := by decide +kernel
theorem dX5_out_5 : decode cX5_out 5 = .ok (.invokevirtual 179, 3) := by decide +kernel
theorem dX5_out_8 : decode cX5_out 8 = .ok (.iadd, 1) := by decide +kernel
theorem dX5_out_9 : decode cX5_out 9 = .ok (.istore_n 1, 1) := by decide +kernel
theorem dX5_out_10 : decode cX5_out 10 = .ok (.iconst 0, 1) := by decide +kernel
theorem dX5_out_11 : decode cX5_out 11 = .ok (.istore_n 2, 1) := by decide +kernel
theorem dX5_out_12 : decode cX5_out 12 = .ok (.iload_n 2, 1) := by decide +kernel
theorem dX5_out_13 : decode cX5_out 13 = .ok (.aload_n 0, 1) := by decide +kernel
theorem dX5_out_14 : decode cX5_out 14 = .ok (.getfield 46, 3) := by decide +kernel
theorem dX5_out_17 : decode cX5_out 17 = .ok (.if_icmp .ge 17, 3) := by decide +kernel
theorem dX5_out_20 : decode cX5_out 20 = .ok (.aload_n 0, 1) := by decide +kernel
theorem dX5_out_21 : decode cX5_out 21 = .ok (.getfield 19, 3) := by decide +kernel
theorem dX5_out_24 : decode cX5_out 24 = .ok (.iload_n 2, 1) := by decide +kernel
theorem dX5_out_25 : decode cX5_out 25 = .ok (.bipush (-9), 2) := by decide +kernel
theorem dX5_out_27 : decode cX5_out 27 = .ok (.iastore, 1) := by decide +kernel
theorem dX5_out_28 : decode cX5_out 28 = .ok (.iinc 2 1, 3) := by decide +kernel
theorem dX5_out_31 : decode cX5_out 31 = .ok (.goto (-19), 3) := by decide +kernel
theorem dX5_out_34 : decode cX5_out 34 = .ok (.iconst 0, 1) := by decide +kernel
theorem dX5_out_35 : decode cX5_out 35 = .ok (.istore_n 2, 1) := by decide +kernel
theorem dX5_out_36 : decode cX5_out 36 = .ok (.iload_n 2, 1) := by decide +kernel
theorem dX5_out_37 : decode cX5_out 37 = .ok (.aload_n 0, 1) := by decide +kernel
theorem dX5_out_38 : decode cX5_out 38 = .ok (.getfield 78, 3) := by decide +kernel
theorem dX5_out_41 : decode cX5_out 41 = .ok (.if_icmp .ge 16, 3) := by decide +kernel
theorem dX5_out_44 : decode cX5_out 44 = .ok (.aload_n 0, 1) := by decide +kernel
theorem dX5_out_45 : decode cX5_out 45 = .ok (.getfield 37, 3) := by decide +kernel
theorem dX5_out_48 : decode cX5_out 48 = .ok (.iload_n 2, 1) := by decide +kernel
theorem dX5_out_49 : decode cX5_out 49 = .ok (.iconst 0, 1) := by decide +kernel
theorem dX5_out_50 : decode cX5_out 50 = .ok (.iastore, 1) := by decide +kernel
theorem dX5_out_51 : decode cX5_out 51 = .ok (.iinc 2 1, 3) := by decide +kernel
theorem dX5_out_54 : decode cX5_out 54 = .ok (.goto (-18), 3) := by decide +kernel
theorem dX5_out_57 : decode cX5_out 57 = .ok (.iload_n 1, 1) := by decide +kernel
theorem dX5_out_58 : decode cX5_out 58 = .ok (.ireturn, 1) := by decide +kernel
theorem dX5_loadOf_0 : decode cX5_loadOf 0 = .ok (.iconst 0, 1) := by decide +kernel
theorem dX5_loadOf_1 : decode cX5_loadOf 1 = .ok (.istore_n 2, 1) := by decide +kernel
theorem dX5_loadOf_2 : decode cX5_loadOf 2 = .ok (.iconst 0, 1) := by decide +kernel
theorem dX5_loadOf_3 : decode cX5_loadOf 3 = .ok (.istore_n 3, 1) := by decide +kernel
theorem dX5_loadOf_4 : decode cX5_loadOf 4 = .ok (.iconst 0, 1) := by decide +kernel
theorem dX5_loadOf_5 : decode cX5_loadOf 5 = .ok (.istore 4, 2) := by decide +kernel
theorem dX5_loadOf_7 : decode cX5_loadOf 7 = .ok (.iload 4, 2) := by decide +kernel
theorem dX5_loadOf_9 : decode cX5_loadOf 9 = .ok (.aload_n 0, 1) := by decide +kernel
theorem dX5_loadOf_10 : decode cX5_loadOf 10 = .ok (.getfield 46, 3) := by decide +kernel
theorem dX5_loadOf_13 : decode cX5_loadOf 13 = .ok (.if_icmp .ge 38, 3) := by decide +kernel
theorem dX5_loadOf_16 : decode cX5_loadOf 16 = .ok (.iload 4, 2) := by decide +kernel
theorem dX5_loadOf_18 : decode cX5_loadOf 18 = .ok (.iload_n 1, 1) := by decide +kernel
theorem dX5_loadOf_19 : decode cX5_loadOf 19 = .ok (.if_icmp .ge 16, 3) := by decide +kernel
theorem dX5_loadOf_22 : decode cX5_loadOf 22 = .ok (.iload_n 2, 1) := by decide +kernel
theorem dX5_loadOf_23 : decode cX5_loadOf 23 = .ok (.aload_n 0, 1) := by decide +kernel
theorem dX5_loadOf_24 : decode cX5_loadOf 24 = .ok (.getfield 16, 3) := by decide +kernel
theorem dX5_loadOf_27 : decode cX5_loadOf 27 = .ok (.iload 4, 2) := by decide +kernel
theorem dX5_loadOf_29 : decode cX5_loadOf 29 = .ok (.iaload, 1) := by decide +kernel
theorem dX5_loadOf_30 : decode cX5_loadOf 30 = .ok (.iadd, 1) := by decide +kernel
theorem dX5_loadOf_31 : decode cX5_loadOf 31 = .ok (.istore_n 2, 1) := by decide +kernel
theorem dX5_loadOf_32 : decode cX5_loadOf 32 = .ok (.goto 13, 3) := by decide +kernel
theorem dX5_loadOf_35 : decode cX5_loadOf 35 = .ok (.iload_n 3, 1) := by decide +kernel
theorem dX5_loadOf_36 : decode cX5_loadOf 36 = .ok (.aload_n 0, 1) := by decide +kernel
theorem dX5_loadOf_37 : decode cX5_loadOf 37 = .ok (.getfield 16, 3) := by decide +kernel
theorem dX5_loadOf_40 : decode cX5_loadOf 40 = .ok (.iload 4, 2) := by decide +kernel
theorem dX5_loadOf_42 : decode cX5_loadOf 42 = .ok (.iaload, 1) := by decide +kernel
theorem dX5_loadOf_43 : decode cX5_loadOf 43 = .ok (.iadd, 1) := by decide +kernel
theorem dX5_loadOf_44 : decode cX5_loadOf 44 = .ok (.istore_n 3, 1) := by decide +kernel
theorem dX5_loadOf_45 : decode cX5_loadOf 45 = .ok (.iinc 4 1, 3) := by decide +kernel
theorem dX5_loadOf_48 : decode cX5_loadOf 48 = .ok (.goto (-41), 3) := by decide +kernel
theorem dX5_loadOf_51 : decode cX5_loadOf 51 = .ok (.iload_n 2, 1) := by decide +kernel
theorem dX5_loadOf_52 : decode cX5_loadOf 52 = .ok (.iload_n 3, 1) := by decide +kernel
theorem dX5_loadOf_53 : decode cX5_loadOf 53 = .ok (.invokestatic 182, 3) := by decide +kernel
theorem dX5_loadOf_56 : decode cX5_loadOf 56 = .ok (.ireturn, 1) := by decide +kernel
theorem dX5_load_0 : decode cX5_load 0 = .ok (.iload_n 1, 1) := by decide +kernel
theorem dX5_load_1 : decode cX5_load 1 = .ok (.iconst 0, 1) := by decide +kernel
theorem dX5_load_2 : decode cX5_load 2 = .ok (.aload_n 0, 1) := by decide +kernel
theorem dX5_load_3 : decode cX5_load 3 = .ok (.getfield 46, 3) := by decide +kernel
theorem dX5_load_6 : decode cX5_load 6 = .ok (.invokestatic 103, 3) := by decide +kernel
theorem dX5_load_9 : decode cX5_load 9 = .ok (.ifCond .eq 11, 3) := by decide +kernel
theorem dX5_load_12 : decode cX5_load 12 = .ok (.aload_n 0, 1) := by decide +kernel
theorem dX5_load_13 : decode cX5_load 13 = .ok (.iload_n 1, 1) := by decide +kernel
theorem dX5_load_14 : decode cX5_load 14 = .ok (.invokevirtual 186, 3) := by decide +kernel
theorem dX5_load_17 : decode cX5_load 17 = .ok (.goto 8, 3) := by decide +kernel
theorem dX5_load_20 : decode cX5_load 20 = .ok (.aload_n 0, 1) := by decide +kernel
theorem dX5_load_21 : decode cX5_load 21 = .ok (.iconst (-1), 1) := by decide +kernel
theorem dX5_load_22 : decode cX5_load 22 = .ok (.invokevirtual 92, 3) := by decide +kernel
theorem dX5_load_25 : decode cX5_load 25 = .ok (.ireturn, 1) := by decide +kernel
theorem dX5_doesReach_0 : decode cX5_doesReach 0 = .ok (.aload_n 0, 1) := by decide +kernel
theorem dX5_doesReach_1 : decode cX5_doesReach 1 = .ok (.iload_n 2, 1) := by decide +kernel
theorem dX5_doesReach_2 : decode cX5_doesReach 2 = .ok (.invokevirtual 167, 3) := by decide +kernel
theorem dX5_doesReach_5 : decode cX5_doesReach 5 = .ok (.aload_n 0, 1) := by decide +kernel
theorem dX5_doesReach_6 : decode cX5_doesReach 6 = .ok (.getfield 13, 3) := by decide +kernel
theorem dX5_doesReach_9 : decode cX5_doesReach 9 = .ok (.iload_n 1, 1) := by decide +kernel
theorem dX5_doesReach_10 : decode cX5_doesReach 10 = .ok (.iaload, 1) := by decide +kernel
theorem dX5_doesReach_11 : decode cX5_doesReach 11 = .ok (.iload_n 3, 1) := by decide +kernel
theorem dX5_doesReach_12 : decode cX5_doesReach 12 = .ok (.iadd, 1) := by decide +kernel
theorem dX5_doesReach_13 : decode cX5_doesReach 13 = .ok (.if_icmp .lt 7, 3) := by decide +kernel
theorem dX5_doesReach_16 : decode cX5_doesReach 16 = .ok (.iconst 1, 1) := by decide +kernel
theorem dX5_doesReach_17 : decode cX5_doesReach 17 = .ok (.goto 4, 3) := by decide +kernel
theorem dX5_doesReach_20 : decode cX5_doesReach 20 = .ok (.iconst 0, 1) := by decide +kernel
theorem dX5_doesReach_21 : decode cX5_doesReach 21 = .ok (.ireturn, 1) := by decide +kernel
theorem dX5_doesHold_0 : decode cX5_doesHold 0 = .ok (.aload_n 0, 1) := by decide +kernel
theorem dX5_doesHold_1 : decode cX5_doesHold 1 = .ok (.iload_n 2, 1) := by decide +kernel
theorem dX5_doesHold_2 : decode cX5_doesHold 2 = .ok (.invokevirtual 170, 3) := by decide +kernel
theorem dX5_doesHold_5 : decode cX5_doesHold 5 = .ok (.aload_n 0, 1) := by decide +kernel
theorem dX5_doesHold_6 : decode cX5_doesHold 6 = .ok (.iload_n 1, 1) := by decide +kernel
theorem dX5_doesHold_7 : decode cX5_doesHold 7 = .ok (.invokevirtual 186, 3) := by decide +kernel
theorem dX5_doesHold_10 : decode cX5_doesHold 10 = .ok (.if_icmp .lt 22, 3) := by decide +kernel
theorem dX5_doesHold_13 : decode cX5_doesHold 13 = .ok (.aload_n 0, 1) := by decide +kernel
theorem dX5_doesHold_14 : decode cX5_doesHold 14 = .ok (.iload_n 2, 1) := by decide +kernel
theorem dX5_doesHold_15 : decode cX5_doesHold 15 = .ok (.invokevirtual 170, 3) := by decide +kernel
theorem dX5_doesHold_18 : decode cX5_doesHold 18 = .ok (.aload_n 0, 1) := by decide +kernel
theorem dX5_doesHold_19 : decode cX5_doesHold 19 = .ok (.iload_n 1, 1) := by decide +kernel
theorem dX5_doesHold_20 : decode cX5_doesHold 20 = .ok (.iconst 1, 1) := by decide +kernel
theorem dX5_doesHold_21 : decode cX5_doesHold 21 = .ok (.iadd, 1) := by decide +kernel
theorem dX5_doesHold_22 : decode cX5_doesHold 22 = .ok (.invokevirtual 186, 3) := by decide +kernel
theorem dX5_doesHold_25 : decode cX5_doesHold 25 = .ok (.if_icmp .lt 7, 3) := by decide +kernel
theorem dX5_doesHold_28 : decode cX5_doesHold 28 = .ok (.iconst 1, 1) := by decide +kernel
theorem dX5_doesHold_29 : decode cX5_doesHold 29 = .ok (.goto 4, 3) := by decide +kernel
theorem dX5_doesHold_32 : decode cX5_doesHold 32 = .ok (.iconst 0, 1) := by decide +kernel
theorem dX5_doesHold_33 : decode cX5_doesHold 33 = .ok (.ireturn, 1) := by decide +kernel
theorem dX5_slipsIn_0 : decode cX5_slipsIn 0 = .ok (.aload_n 0, 1) := by decide +kernel
theorem dX5_slipsIn_1 : decode cX5_slipsIn 1 = .ok (.iload_n 1, 1) := by decide +kernel
theorem dX5_slipsIn_2 : decode cX5_slipsIn 2 = .ok (.iload_n 2, 1) := by decide +kernel
theorem dX5_slipsIn_3 : decode cX5_slipsIn 3 = .ok (.iconst 0, 1) := by decide +kernel
theorem dX5_slipsIn_4 : decode cX5_slipsIn 4 = .ok (.invokevirtual 189, 3) := by decide +kernel
theorem dX5_slipsIn_7 : decode cX5_slipsIn 7 = .ok (.ifCond .ne 5, 3) := by decide +kernel
theorem dX5_slipsIn_10 : decode cX5_slipsIn 10 = .ok (.iconst 1, 1) := by decide +kernel
theorem dX5_slipsIn_11 : decode cX5_slipsIn 11 = .ok (.ireturn, 1) := by decide +kernel
theorem dX5_slipsIn_12 : decode cX5_slipsIn 12 = .ok (.aload_n 0, 1) := by decide +kernel
theorem dX5_slipsIn_13 : decode cX5_slipsIn 13 = .ok (.iload_n 1, 1) := by decide +kernel
theorem dX5_slipsIn_14 : decode cX5_slipsIn 14 = .ok (.iload_n 2, 1) := by decide +kernel
theorem dX5_slipsIn_15 : decode cX5_slipsIn 15 = .ok (.invokevirtual 192, 3) := by decide +kernel
theorem dX5_slipsIn_18 : decode cX5_slipsIn 18 = .ok (.ifCond .ne 5, 3) := by decide +kernel
theorem dX5_slipsIn_21 : decode cX5_slipsIn 21 = .ok (.iconst 2, 1) := by decide +kernel
theorem dX5_slipsIn_22 : decode cX5_slipsIn 22 = .ok (.ireturn, 1) := by decide +kernel
theorem dX5_slipsIn_23 : decode cX5_slipsIn 23 = .ok (.iload_n 3, 1) := by decide +kernel
theorem dX5_slipsIn_24 : decode cX5_slipsIn 24 = .ok (.ifCond .lt 22, 3) := by decide +kernel
theorem dX5_slipsIn_27 : decode cX5_slipsIn 27 = .ok (.aload_n 0, 1) := by decide +kernel
theorem dX5_slipsIn_28 : decode cX5_slipsIn 28 = .ok (.getfield 40, 3) := by decide +kernel
theorem dX5_slipsIn_31 : decode cX5_slipsIn 31 = .ok (.bipush 7, 2) := by decide +kernel
theorem dX5_slipsIn_33 : decode cX5_slipsIn 33 = .ok (.iload_n 2, 1) := by decide +kernel
theorem dX5_slipsIn_34 : decode cX5_slipsIn 34 = .ok (.imul, 1) := by decide +kernel
theorem dX5_slipsIn_35 : decode cX5_slipsIn 35 = .ok (.iload_n 3, 1) := by decide +kernel
theorem dX5_slipsIn_36 : decode cX5_slipsIn 36 = .ok (.iadd, 1) := by decide +kernel
theorem dX5_slipsIn_37 : decode cX5_slipsIn 37 = .ok (.iaload, 1) := by decide +kernel
theorem dX5_slipsIn_38 : decode cX5_slipsIn 38 = .ok (.iconst 1, 1) := by decide +kernel
theorem dX5_slipsIn_39 : decode cX5_slipsIn 39 = .ok (.if_icmp .ne 7, 3) := by decide +kernel
theorem dX5_slipsIn_42 : decode cX5_slipsIn 42 = .ok (.iconst 3, 1) := by decide +kernel
theorem dX5_slipsIn_43 : decode cX5_slipsIn 43 = .ok (.goto 4, 3) := by decide +kernel
theorem dX5_slipsIn_46 : decode cX5_slipsIn 46 = .ok (.iconst (-1), 1) := by decide +kernel
theorem dX5_slipsIn_47 : decode cX5_slipsIn 47 = .ok (.ireturn, 1) := by decide +kernel
theorem dX5_findSlip_0 : decode cX5_findSlip 0 = .ok (.aload_n 0, 1) := by decide +kernel
theorem dX5_findSlip_1 : decode cX5_findSlip 1 = .ok (.bipush (-9), 2) := by decide +kernel
theorem dX5_findSlip_3 : decode cX5_findSlip 3 = .ok (.putfield 195, 3) := by decide +kernel
theorem dX5_findSlip_6 : decode cX5_findSlip 6 = .ok (.aload_n 0, 1) := by decide +kernel
theorem dX5_findSlip_7 : decode cX5_findSlip 7 = .ok (.bipush (-9), 2) := by decide +kernel
theorem dX5_findSlip_9 : decode cX5_findSlip 9 = .ok (.putfield 198, 3) := by decide +kernel
theorem dX5_findSlip_12 : decode cX5_findSlip 12 = .ok (.iconst 0, 1) := by decide +kernel
theorem dX5_findSlip_13 : decode cX5_findSlip 13 = .ok (.istore_n 1, 1) := by decide +kernel
theorem dX5_findSlip_14 : decode cX5_findSlip 14 = .ok (.iload_n 1, 1) := by decide +kernel
theorem dX5_findSlip_15 : decode cX5_findSlip 15 = .ok (.aload_n 0, 1) := by decide +kernel
theorem dX5_findSlip_16 : decode cX5_findSlip 16 = .ok (.getfield 46, 3) := by decide +kernel
theorem dX5_findSlip_19 : decode cX5_findSlip 19 = .ok (.if_icmp .ge 76, 3) := by decide +kernel
theorem dX5_findSlip_22 : decode cX5_findSlip 22 = .ok (.aload_n 0, 1) := by decide +kernel
theorem dX5_findSlip_23 : decode cX5_findSlip 23 = .ok (.getfield 195, 3) := by decide +kernel
theorem dX5_findSlip_26 : decode cX5_findSlip 26 = .ok (.ifCond .ge 69, 3) := by decide +kernel
theorem dX5_findSlip_29 : decode cX5_findSlip 29 = .ok (.aload_n 0, 1) := by decide +kernel
theorem dX5_findSlip_30 : decode cX5_findSlip 30 = .ok (.getfield 19, 3) := by decide +kernel
theorem dX5_findSlip_33 : decode cX5_findSlip 33 = .ok (.iload_n 1, 1) := by decide +kernel
theorem dX5_findSlip_34 : decode cX5_findSlip 34 = .ok (.iaload, 1) := by decide +kernel
theorem dX5_findSlip_35 : decode cX5_findSlip 35 = .ok (.ifCond .ge 7, 3) := by decide +kernel
theorem dX5_findSlip_38 : decode cX5_findSlip 38 = .ok (.iconst 0, 1) := by decide +kernel
theorem dX5_findSlip_39 : decode cX5_findSlip 39 = .ok (.goto 31, 3) := by decide +kernel
theorem dX5_findSlip_42 : decode cX5_findSlip 42 = .ok (.aload_n 0, 1) := by decide +kernel
theorem dX5_findSlip_43 : decode cX5_findSlip 43 = .ok (.iload_n 1, 1) := by decide +kernel
theorem dX5_findSlip_44 : decode cX5_findSlip 44 = .ok (.aload_n 0, 1) := by decide +kernel
theorem dX5_findSlip_45 : decode cX5_findSlip 45 = .ok (.getfield 19, 3) := by decide +kernel
theorem dX5_findSlip_48 : decode cX5_findSlip 48 = .ok (.iload_n 1, 1) := by decide +kernel
theorem dX5_findSlip_49 : decode cX5_findSlip 49 = .ok (.iaload, 1) := by decide +kernel
theorem dX5_findSlip_50 : decode cX5_findSlip 50 = .ok (.iload_n 1, 1) := by decide +kernel
theorem dX5_findSlip_51 : decode cX5_findSlip 51 = .ok (.ifCond .le 14, 3) := by decide +kernel
theorem dX5_findSlip_54 : decode cX5_findSlip 54 = .ok (.aload_n 0, 1) := by decide +kernel
theorem dX5_findSlip_55 : decode cX5_findSlip 55 = .ok (.getfield 19, 3) := by decide +kernel
theorem dX5_findSlip_58 : decode cX5_findSlip 58 = .ok (.iload_n 1, 1) := by decide +kernel
theorem dX5_findSlip_59 : decode cX5_findSlip 59 = .ok (.iconst 1, 1) := by decide +kernel
theorem dX5_findSlip_60 : decode cX5_findSlip 60 = .ok (.isub, 1) := by decide +kernel
theorem dX5_findSlip_61 : decode cX5_findSlip 61 = .ok (.iaload, 1) := by decide +kernel
theorem dX5_findSlip_62 : decode cX5_findSlip 62 = .ok (.goto 5, 3) := by decide +kernel
theorem dX5_findSlip_65 : decode cX5_findSlip 65 = .ok (.bipush (-9), 2) := by decide +kernel
theorem dX5_findSlip_67 : decode cX5_findSlip 67 = .ok (.invokevirtual 201, 3) := by decide +kernel
theorem dX5_findSlip_70 : decode cX5_findSlip 70 = .ok (.istore_n 2, 1) := by decide +kernel
theorem dX5_findSlip_71 : decode cX5_findSlip 71 = .ok (.iload_n 2, 1) := by decide +kernel
theorem dX5_findSlip_72 : decode cX5_findSlip 72 = .ok (.iconst (-1), 1) := by decide +kernel
theorem dX5_findSlip_73 : decode cX5_findSlip 73 = .ok (.if_icmp .ne 6, 3) := by decide +kernel
theorem dX5_findSlip_76 : decode cX5_findSlip 76 = .ok (.goto 13, 3) := by decide +kernel
theorem dX5_findSlip_79 : decode cX5_findSlip 79 = .ok (.aload_n 0, 1) := by decide +kernel
theorem dX5_findSlip_80 : decode cX5_findSlip 80 = .ok (.iload_n 1, 1) := by decide +kernel
theorem dX5_findSlip_81 : decode cX5_findSlip 81 = .ok (.putfield 195, 3) := by decide +kernel
theorem dX5_findSlip_84 : decode cX5_findSlip 84 = .ok (.aload_n 0, 1) := by decide +kernel
theorem dX5_findSlip_85 : decode cX5_findSlip 85 = .ok (.iload_n 2, 1) := by decide +kernel
theorem dX5_findSlip_86 : decode cX5_findSlip 86 = .ok (.putfield 198, 3) := by decide +kernel
theorem dX5_findSlip_89 : decode cX5_findSlip 89 = .ok (.iinc 1 1, 3) := by decide +kernel
theorem dX5_findSlip_92 : decode cX5_findSlip 92 = .ok (.goto (-78), 3) := by decide +kernel
theorem dX5_findSlip_95 : decode cX5_findSlip 95 = .ok (.return_, 1) := by decide +kernel
theorem dX5_doesStand_0 : decode cX5_doesStand 0 = .ok (.aload_n 0, 1) := by decide +kernel
theorem dX5_doesStand_1 : decode cX5_doesStand 1 = .ok (.invokevirtual 204, 3) := by decide +kernel
theorem dX5_doesStand_4 : decode cX5_doesStand 4 = .ok (.aload_n 0, 1) := by decide +kernel
theorem dX5_doesStand_5 : decode cX5_doesStand 5 = .ok (.getfield 195, 3) := by decide +kernel
theorem dX5_doesStand_8 : decode cX5_doesStand 8 = .ok (.ifCond .ge 7, 3) := by decide +kernel
theorem dX5_doesStand_11 : decode cX5_doesStand 11 = .ok (.iconst 1, 1) := by decide +kernel
theorem dX5_doesStand_12 : decode cX5_doesStand 12 = .ok (.goto 4, 3) := by decide +kernel
theorem dX5_doesStand_15 : decode cX5_doesStand 15 = .ok (.iconst 0, 1) := by decide +kernel
theorem dX5_doesStand_16 : decode cX5_doesStand 16 = .ok (.ireturn, 1) := by decide +kernel
theorem dX5_lastsNow_0 : decode cX5_lastsNow 0 = .ok (.bipush 99, 2) := by decide +kernel
theorem dX5_lastsNow_2 : decode cX5_lastsNow 2 = .ok (.istore_n 1, 1) := by decide +kernel
theorem dX5_lastsNow_3 : decode cX5_lastsNow 3 = .ok (.iconst 0, 1) := by decide +kernel
theorem dX5_lastsNow_4 : decode cX5_lastsNow 4 = .ok (.istore_n 2, 1) := by decide +kernel
theorem dX5_lastsNow_5 : decode cX5_lastsNow 5 = .ok (.iload_n 2, 1) := by decide +kernel
theorem dX5_lastsNow_6 : decode cX5_lastsNow 6 = .ok (.aload_n 0, 1) := by decide +kernel
theorem dX5_lastsNow_7 : decode cX5_lastsNow 7 = .ok (.getfield 46, 3) := by decide +kernel
theorem dX5_lastsNow_10 : decode cX5_lastsNow 10 = .ok (.if_icmp .ge 36, 3) := by decide +kernel
theorem dX5_lastsNow_13 : decode cX5_lastsNow 13 = .ok (.iload_n 1, 1) := by decide +kernel
theorem dX5_lastsNow_14 : decode cX5_lastsNow 14 = .ok (.aload_n 0, 1) := by decide +kernel
theorem dX5_lastsNow_15 : decode cX5_lastsNow 15 = .ok (.getfield 34, 3) := by decide +kernel
theorem dX5_lastsNow_18 : decode cX5_lastsNow 18 = .ok (.aload_n 0, 1) := by decide +kernel
theorem dX5_lastsNow_19 : decode cX5_lastsNow 19 = .ok (.getfield 19, 3) := by decide +kernel
theorem dX5_lastsNow_22 : decode cX5_lastsNow 22 = .ok (.iload_n 2, 1) := by decide +kernel
theorem dX5_lastsNow_23 : decode cX5_lastsNow 23 = .ok (.iaload, 1) := by decide +kernel
theorem dX5_lastsNow_24 : decode cX5_lastsNow 24 = .ok (.iaload, 1) := by decide +kernel
theorem dX5_lastsNow_25 : decode cX5_lastsNow 25 = .ok (.aload_n 0, 1) := by decide +kernel
theorem dX5_lastsNow_26 : decode cX5_lastsNow 26 = .ok (.aload_n 0, 1) := by decide +kernel
theorem dX5_lastsNow_27 : decode cX5_lastsNow 27 = .ok (.getfield 19, 3) := by decide +kernel
theorem dX5_lastsNow_30 : decode cX5_lastsNow 30 = .ok (.iload_n 2, 1) := by decide +kernel
theorem dX5_lastsNow_31 : decode cX5_lastsNow 31 = .ok (.iaload, 1) := by decide +kernel
theorem dX5_lastsNow_32 : decode cX5_lastsNow 32 = .ok (.invokevirtual 173, 3) := by decide +kernel
theorem dX5_lastsNow_35 : decode cX5_lastsNow 35 = .ok (.idiv, 1) := by decide +kernel
theorem dX5_lastsNow_36 : decode cX5_lastsNow 36 = .ok (.invokestatic 182, 3) := by decide +kernel
theorem dX5_lastsNow_39 : decode cX5_lastsNow 39 = .ok (.istore_n 1, 1) := by decide +kernel
theorem dX5_lastsNow_40 : decode cX5_lastsNow 40 = .ok (.iinc 2 1, 3) := by decide +kernel
theorem dX5_lastsNow_43 : decode cX5_lastsNow 43 = .ok (.goto (-38), 3) := by decide +kernel
theorem dX5_lastsNow_46 : decode cX5_lastsNow 46 = .ok (.iload_n 1, 1) := by decide +kernel
theorem dX5_lastsNow_47 : decode cX5_lastsNow 47 = .ok (.ireturn, 1) := by decide +kernel
theorem dX5_slips_0 : decode cX5_slips 0 = .ok (.iload_n 1, 1) := by decide +kernel
theorem dX5_slips_1 : decode cX5_slips 1 = .ok (.iconst 0, 1) := by decide +kernel
theorem dX5_slips_2 : decode cX5_slips 2 = .ok (.iconst 1, 1) := by decide +kernel
theorem dX5_slips_3 : decode cX5_slips 3 = .ok (.invokestatic 103, 3) := by decide +kernel
theorem dX5_slips_6 : decode cX5_slips 6 = .ok (.ifCond .ne 10, 3) := by decide +kernel
theorem dX5_slips_9 : decode cX5_slips 9 = .ok (.aload_n 0, 1) := by decide +kernel
theorem dX5_slips_10 : decode cX5_slips 10 = .ok (.bipush (-2), 2) := by decide +kernel
theorem dX5_slips_12 : decode cX5_slips 12 = .ok (.invokevirtual 92, 3) := by decide +kernel
theorem dX5_slips_15 : decode cX5_slips 15 = .ok (.ireturn, 1) := by decide +kernel
theorem dX5_slips_16 : decode cX5_slips 16 = .ok (.aload_n 0, 1) := by decide +kernel
theorem dX5_slips_17 : decode cX5_slips 17 = .ok (.invokevirtual 204, 3) := by decide +kernel
theorem dX5_slips_20 : decode cX5_slips 20 = .ok (.iload_n 1, 1) := by decide +kernel
theorem dX5_slips_21 : decode cX5_slips 21 = .ok (.ifCond .ne 10, 3) := by decide +kernel
theorem dX5_slips_24 : decode cX5_slips 24 = .ok (.aload_n 0, 1) := by decide +kernel
theorem dX5_slips_25 : decode cX5_slips 25 = .ok (.getfield 195, 3) := by decide +kernel
theorem dX5_slips_28 : decode cX5_slips 28 = .ok (.goto 7, 3) := by decide +kernel
theorem dX5_slips_31 : decode cX5_slips 31 = .ok (.aload_n 0, 1) := by decide +kernel
theorem dX5_slips_32 : decode cX5_slips 32 = .ok (.getfield 198, 3) := by decide +kernel
theorem dX5_slips_35 : decode cX5_slips 35 = .ok (.ireturn, 1) := by decide +kernel
theorem dX5_lasts_0 : decode cX5_lasts 0 = .ok (.aload_n 0, 1) := by decide +kernel
theorem dX5_lasts_1 : decode cX5_lasts 1 = .ok (.invokevirtual 207, 3) := by decide +kernel
theorem dX5_lasts_4 : decode cX5_lasts 4 = .ok (.ifCond .eq 10, 3) := by decide +kernel
theorem dX5_lasts_7 : decode cX5_lasts 7 = .ok (.aload_n 0, 1) := by decide +kernel
theorem dX5_lasts_8 : decode cX5_lasts 8 = .ok (.invokevirtual 210, 3) := by decide +kernel
theorem dX5_lasts_11 : decode cX5_lasts 11 = .ok (.goto 5, 3) := by decide +kernel
theorem dX5_lasts_14 : decode cX5_lasts 14 = .ok (.bipush (-9), 2) := by decide +kernel
theorem dX5_lasts_16 : decode cX5_lasts 16 = .ok (.ireturn, 1) := by decide +kernel
theorem dX5_overMany_0 : decode cX5_overMany 0 = .ok (.iconst 0, 1) := by decide +kernel
theorem dX5_overMany_1 : decode cX5_overMany 1 = .ok (.istore_n 1, 1) := by decide +kernel
theorem dX5_overMany_2 : decode cX5_overMany 2 = .ok (.iconst 0, 1) := by decide +kernel
theorem dX5_overMany_3 : decode cX5_overMany 3 = .ok (.istore_n 2, 1) := by decide +kernel
theorem dX5_overMany_4 : decode cX5_overMany 4 = .ok (.iload_n 2, 1) := by decide +kernel
theorem dX5_overMany_5 : decode cX5_overMany 5 = .ok (.aload_n 0, 1) := by decide +kernel
theorem dX5_overMany_6 : decode cX5_overMany 6 = .ok (.getfield 78, 3) := by decide +kernel
theorem dX5_overMany_9 : decode cX5_overMany 9 = .ok (.if_icmp .ge 18, 3) := by decide +kernel
theorem dX5_overMany_12 : decode cX5_overMany 12 = .ok (.iload_n 1, 1) := by decide +kernel
theorem dX5_overMany_13 : decode cX5_overMany 13 = .ok (.aload_n 0, 1) := by decide +kernel
theorem dX5_overMany_14 : decode cX5_overMany 14 = .ok (.getfield 37, 3) := by decide +kernel
theorem dX5_overMany_17 : decode cX5_overMany 17 = .ok (.iload_n 2, 1) := by decide +kernel
theorem dX5_overMany_18 : decode cX5_overMany 18 = .ok (.iaload, 1) := by decide +kernel
theorem dX5_overMany_19 : decode cX5_overMany 19 = .ok (.iadd, 1) := by decide +kernel
theorem dX5_overMany_20 : decode cX5_overMany 20 = .ok (.istore_n 1, 1) := by decide +kernel
theorem dX5_overMany_21 : decode cX5_overMany 21 = .ok (.iinc 2 1, 3) := by decide +kernel
theorem dX5_overMany_24 : decode cX5_overMany 24 = .ok (.goto (-20), 3) := by decide +kernel
theorem dX5_overMany_27 : decode cX5_overMany 27 = .ok (.iload_n 1, 1) := by decide +kernel
theorem dX5_overMany_28 : decode cX5_overMany 28 = .ok (.ireturn, 1) := by decide +kernel
theorem dX5_cross_0 : decode cX5_cross 0 = .ok (.aload_n 0, 1) := by decide +kernel
theorem dX5_cross_1 : decode cX5_cross 1 = .ok (.iload_n 1, 1) := by decide +kernel
theorem dX5_cross_2 : decode cX5_cross 2 = .ok (.invokevirtual 81, 3) := by decide +kernel
theorem dX5_cross_5 : decode cX5_cross 5 = .ok (.ifCond .ne 9, 3) := by decide +kernel
theorem dX5_cross_8 : decode cX5_cross 8 = .ok (.aload_n 0, 1) := by decide +kernel
theorem dX5_cross_9 : decode cX5_cross 9 = .ok (.iconst (-1), 1) := by decide +kernel
theorem dX5_cross_10 : decode cX5_cross 10 = .ok (.invokevirtual 92, 3) := by decide +kernel
theorem dX5_cross_13 : decode cX5_cross 13 = .ok (.ireturn, 1) := by decide +kernel
theorem dX5_cross_14 : decode cX5_cross 14 = .ok (.aload_n 0, 1) := by decide +kernel
theorem dX5_cross_15 : decode cX5_cross 15 = .ok (.iload_n 1, 1) := by decide +kernel
theorem dX5_cross_16 : decode cX5_cross 16 = .ok (.invokevirtual 117, 3) := by decide +kernel
theorem dX5_cross_19 : decode cX5_cross 19 = .ok (.bipush (-9), 2) := by decide +kernel
theorem dX5_cross_21 : decode cX5_cross 21 = .ok (.if_icmp .ne 18, 3) := by decide +kernel
theorem dX5_cross_24 : decode cX5_cross 24 = .ok (.aload_n 0, 1) := by decide +kernel
theorem dX5_cross_25 : decode cX5_cross 25 = .ok (.invokevirtual 207, 3) := by decide +kernel
theorem dX5_cross_28 : decode cX5_cross 28 = .ok (.ifCond .eq 11, 3) := by decide +kernel
theorem dX5_cross_31 : decode cX5_cross 31 = .ok (.aload_n 0, 1) := by decide +kernel
theorem dX5_cross_32 : decode cX5_cross 32 = .ok (.invokevirtual 210, 3) := by decide +kernel
theorem dX5_cross_35 : decode cX5_cross 35 = .ok (.iconst 1, 1) := by decide +kernel
theorem dX5_cross_36 : decode cX5_cross 36 = .ok (.if_icmp .ge 10, 3) := by decide +kernel
theorem dX5_cross_39 : decode cX5_cross 39 = .ok (.aload_n 0, 1) := by decide +kernel
theorem dX5_cross_40 : decode cX5_cross 40 = .ok (.bipush (-3), 2) := by decide +kernel
theorem dX5_cross_42 : decode cX5_cross 42 = .ok (.invokevirtual 92, 3) := by decide +kernel
theorem dX5_cross_45 : decode cX5_cross 45 = .ok (.ireturn, 1) := by decide +kernel
theorem dX5_cross_46 : decode cX5_cross 46 = .ok (.iconst 0, 1) := by decide +kernel
theorem dX5_cross_47 : decode cX5_cross 47 = .ok (.istore_n 2, 1) := by decide +kernel
theorem dX5_cross_48 : decode cX5_cross 48 = .ok (.iload_n 2, 1) := by decide +kernel
theorem dX5_cross_49 : decode cX5_cross 49 = .ok (.aload_n 0, 1) := by decide +kernel
theorem dX5_cross_50 : decode cX5_cross 50 = .ok (.getfield 46, 3) := by decide +kernel
theorem dX5_cross_53 : decode cX5_cross 53 = .ok (.if_icmp .ge 59, 3) := by decide +kernel
theorem dX5_cross_56 : decode cX5_cross 56 = .ok (.aload_n 0, 1) := by decide +kernel
theorem dX5_cross_57 : decode cX5_cross 57 = .ok (.getfield 19, 3) := by decide +kernel
theorem dX5_cross_60 : decode cX5_cross 60 = .ok (.iload_n 2, 1) := by decide +kernel
theorem dX5_cross_61 : decode cX5_cross 61 = .ok (.iaload, 1) := by decide +kernel
theorem dX5_cross_62 : decode cX5_cross 62 = .ok (.istore_n 3, 1) := by decide +kernel
theorem dX5_cross_63 : decode cX5_cross 63 = .ok (.aload_n 0, 1) := by decide +kernel
theorem dX5_cross_64 : decode cX5_cross 64 = .ok (.getfield 34, 3) := by decide +kernel
theorem dX5_cross_67 : decode cX5_cross 67 = .ok (.iload_n 3, 1) := by decide +kernel
theorem dX5_cross_68 : decode cX5_cross 68 = .ok (.dup2, 1) := by decide +kernel
theorem dX5_cross_69 : decode cX5_cross 69 = .ok (.iaload, 1) := by decide +kernel
theorem dX5_cross_70 : decode cX5_cross 70 = .ok (.aload_n 0, 1) := by decide +kernel
theorem dX5_cross_71 : decode cX5_cross 71 = .ok (.iload_n 3, 1) := by decide +kernel
theorem dX5_cross_72 : decode cX5_cross 72 = .ok (.invokevirtual 173, 3) := by decide +kernel
theorem dX5_cross_75 : decode cX5_cross 75 = .ok (.isub, 1) := by decide +kernel
theorem dX5_cross_76 : decode cX5_cross 76 = .ok (.iastore, 1) := by decide +kernel
theorem dX5_cross_77 : decode cX5_cross 77 = .ok (.aload_n 0, 1) := by decide +kernel
theorem dX5_cross_78 : decode cX5_cross 78 = .ok (.getfield 43, 3) := by decide +kernel
theorem dX5_cross_81 : decode cX5_cross 81 = .ok (.bipush 7, 2) := by decide +kernel
theorem dX5_cross_83 : decode cX5_cross 83 = .ok (.iload_n 1, 1) := by decide +kernel
theorem dX5_cross_84 : decode cX5_cross 84 = .ok (.imul, 1) := by decide +kernel
theorem dX5_cross_85 : decode cX5_cross 85 = .ok (.iload_n 3, 1) := by decide +kernel
theorem dX5_cross_86 : decode cX5_cross 86 = .ok (.iadd, 1) := by decide +kernel
theorem dX5_cross_87 : decode cX5_cross 87 = .ok (.bipush 99, 2) := by decide +kernel
theorem dX5_cross_89 : decode cX5_cross 89 = .ok (.aload_n 0, 1) := by decide +kernel
theorem dX5_cross_90 : decode cX5_cross 90 = .ok (.getfield 43, 3) := by decide +kernel
theorem dX5_cross_93 : decode cX5_cross 93 = .ok (.bipush 7, 2) := by decide +kernel
theorem dX5_cross_95 : decode cX5_cross 95 = .ok (.iload_n 1, 1) := by decide +kernel
theorem dX5_cross_96 : decode cX5_cross 96 = .ok (.imul, 1) := by decide +kernel
theorem dX5_cross_97 : decode cX5_cross 97 = .ok (.iload_n 3, 1) := by decide +kernel
theorem dX5_cross_98 : decode cX5_cross 98 = .ok (.iadd, 1) := by decide +kernel
theorem dX5_cross_99 : decode cX5_cross 99 = .ok (.iaload, 1) := by decide +kernel
theorem dX5_cross_100 : decode cX5_cross 100 = .ok (.iconst 1, 1) := by decide +kernel
theorem dX5_cross_101 : decode cX5_cross 101 = .ok (.iadd, 1) := by decide +kernel
theorem dX5_cross_102 : decode cX5_cross 102 = .ok (.invokestatic 182, 3) := by decide +kernel
theorem dX5_cross_105 : decode cX5_cross 105 = .ok (.iastore, 1) := by decide +kernel
theorem dX5_cross_106 : decode cX5_cross 106 = .ok (.iinc 2 1, 3) := by decide +kernel
theorem dX5_cross_109 : decode cX5_cross 109 = .ok (.goto (-61), 3) := by decide +kernel
theorem dX5_cross_112 : decode cX5_cross 112 = .ok (.aload_n 0, 1) := by decide +kernel
theorem dX5_cross_113 : decode cX5_cross 113 = .ok (.getfield 37, 3) := by decide +kernel
theorem dX5_cross_116 : decode cX5_cross 116 = .ok (.iload_n 1, 1) := by decide +kernel
theorem dX5_cross_117 : decode cX5_cross 117 = .ok (.iconst 1, 1) := by decide +kernel
theorem dX5_cross_118 : decode cX5_cross 118 = .ok (.iastore, 1) := by decide +kernel
theorem dX5_cross_119 : decode cX5_cross 119 = .ok (.aload_n 0, 1) := by decide +kernel
theorem dX5_cross_120 : decode cX5_cross 120 = .ok (.dup, 1) := by decide +kernel
theorem dX5_cross_121 : decode cX5_cross 121 = .ok (.getfield 161, 3) := by decide +kernel
theorem dX5_cross_124 : decode cX5_cross 124 = .ok (.iconst 1, 1) := by decide +kernel
theorem dX5_cross_125 : decode cX5_cross 125 = .ok (.iadd, 1) := by decide +kernel
theorem dX5_cross_126 : decode cX5_cross 126 = .ok (.putfield 161, 3) := by decide +kernel
theorem dX5_cross_129 : decode cX5_cross 129 = .ok (.aload_n 0, 1) := by decide +kernel
theorem dX5_cross_130 : decode cX5_cross 130 = .ok (.invokevirtual 179, 3) := by decide +kernel
theorem dX5_cross_133 : decode cX5_cross 133 = .ok (.ireturn, 1) := by decide +kernel
theorem dX5_putsAway_0 : decode cX5_putsAway 0 = .ok (.iconst 0, 1) := by decide +kernel
theorem dX5_putsAway_1 : decode cX5_putsAway 1 = .ok (.istore_n 1, 1) := by decide +kernel
theorem dX5_putsAway_2 : decode cX5_putsAway 2 = .ok (.iload_n 1, 1) := by decide +kernel
theorem dX5_putsAway_3 : decode cX5_putsAway 3 = .ok (.iconst 5, 1) := by decide +kernel
theorem dX5_putsAway_4 : decode cX5_putsAway 4 = .ok (.if_icmp .ge 21, 3) := by decide +kernel
theorem dX5_putsAway_7 : decode cX5_putsAway 7 = .ok (.aload_n 0, 1) := by decide +kernel
theorem dX5_putsAway_8 : decode cX5_putsAway 8 = .ok (.getfield 68, 3) := by decide +kernel
theorem dX5_putsAway_11 : decode cX5_putsAway 11 = .ok (.iload_n 1, 1) := by decide +kernel
theorem dX5_putsAway_12 : decode cX5_putsAway 12 = .ok (.aload_n 0, 1) := by decide +kernel
theorem dX5_putsAway_13 : decode cX5_putsAway 13 = .ok (.getfield 19, 3) := by decide +kernel
theorem dX5_putsAway_16 : decode cX5_putsAway 16 = .ok (.iload_n 1, 1) := by decide +kernel
theorem dX5_putsAway_17 : decode cX5_putsAway 17 = .ok (.iaload, 1) := by decide +kernel
theorem dX5_putsAway_18 : decode cX5_putsAway 18 = .ok (.iastore, 1) := by decide +kernel
theorem dX5_putsAway_19 : decode cX5_putsAway 19 = .ok (.iinc 1 1, 3) := by decide +kernel
theorem dX5_putsAway_22 : decode cX5_putsAway 22 = .ok (.goto (-20), 3) := by decide +kernel
theorem dX5_putsAway_25 : decode cX5_putsAway 25 = .ok (.aload_n 0, 1) := by decide +kernel
theorem dX5_putsAway_26 : decode cX5_putsAway 26 = .ok (.iconst (-1), 1) := by decide +kernel
theorem dX5_putsAway_27 : decode cX5_putsAway 27 = .ok (.putfield 213, 3) := by decide +kernel
theorem dX5_putsAway_30 : decode cX5_putsAway 30 = .ok (.return_, 1) := by decide +kernel
theorem dX5_putsBack_0 : decode cX5_putsBack 0 = .ok (.iconst 0, 1) := by decide +kernel
theorem dX5_putsBack_1 : decode cX5_putsBack 1 = .ok (.istore_n 1, 1) := by decide +kernel
theorem dX5_putsBack_2 : decode cX5_putsBack 2 = .ok (.iload_n 1, 1) := by decide +kernel
theorem dX5_putsBack_3 : decode cX5_putsBack 3 = .ok (.iconst 5, 1) := by decide +kernel
theorem dX5_putsBack_4 : decode cX5_putsBack 4 = .ok (.if_icmp .ge 21, 3) := by decide +kernel
theorem dX5_putsBack_7 : decode cX5_putsBack 7 = .ok (.aload_n 0, 1) := by decide +kernel
theorem dX5_putsBack_8 : decode cX5_putsBack 8 = .ok (.getfield 19, 3) := by decide +kernel
theorem dX5_putsBack_11 : decode cX5_putsBack 11 = .ok (.iload_n 1, 1) := by decide +kernel
theorem dX5_putsBack_12 : decode cX5_putsBack 12 = .ok (.aload_n 0, 1) := by decide +kernel
theorem dX5_putsBack_13 : decode cX5_putsBack 13 = .ok (.getfield 68, 3) := by decide +kernel
theorem dX5_putsBack_16 : decode cX5_putsBack 16 = .ok (.iload_n 1, 1) := by decide +kernel
theorem dX5_putsBack_17 : decode cX5_putsBack 17 = .ok (.iaload, 1) := by decide +kernel
theorem dX5_putsBack_18 : decode cX5_putsBack 18 = .ok (.iastore, 1) := by decide +kernel
theorem dX5_putsBack_19 : decode cX5_putsBack 19 = .ok (.iinc 1 1, 3) := by decide +kernel
theorem dX5_putsBack_22 : decode cX5_putsBack 22 = .ok (.goto (-20), 3) := by decide +kernel
theorem dX5_putsBack_25 : decode cX5_putsBack 25 = .ok (.return_, 1) := by decide +kernel
theorem dX5_areUnlike_0 : decode cX5_areUnlike 0 = .ok (.iconst 0, 1) := by decide +kernel
theorem dX5_areUnlike_1 : decode cX5_areUnlike 1 = .ok (.istore_n 1, 1) := by decide +kernel
theorem dX5_areUnlike_2 : decode cX5_areUnlike 2 = .ok (.iload_n 1, 1) := by decide +kernel
theorem dX5_areUnlike_3 : decode cX5_areUnlike 3 = .ok (.aload_n 0, 1) := by decide +kernel
theorem dX5_areUnlike_4 : decode cX5_areUnlike 4 = .ok (.getfield 46, 3) := by decide +kernel
theorem dX5_areUnlike_7 : decode cX5_areUnlike 7 = .ok (.if_icmp .ge 56, 3) := by decide +kernel
theorem dX5_areUnlike_10 : decode cX5_areUnlike 10 = .ok (.aload_n 0, 1) := by decide +kernel
theorem dX5_areUnlike_11 : decode cX5_areUnlike 11 = .ok (.getfield 37, 3) := by decide +kernel
theorem dX5_areUnlike_14 : decode cX5_areUnlike 14 = .ok (.aload_n 0, 1) := by decide +kernel
theorem dX5_areUnlike_15 : decode cX5_areUnlike 15 = .ok (.getfield 19, 3) := by decide +kernel
theorem dX5_areUnlike_18 : decode cX5_areUnlike 18 = .ok (.iload_n 1, 1) := by decide +kernel
theorem dX5_areUnlike_19 : decode cX5_areUnlike 19 = .ok (.iaload, 1) := by decide +kernel
theorem dX5_areUnlike_20 : decode cX5_areUnlike 20 = .ok (.iaload, 1) := by decide +kernel
theorem dX5_areUnlike_21 : decode cX5_areUnlike 21 = .ok (.iconst 1, 1) := by decide +kernel
theorem dX5_areUnlike_22 : decode cX5_areUnlike 22 = .ok (.if_icmp .ne 5, 3) := by decide +kernel
theorem dX5_areUnlike_25 : decode cX5_areUnlike 25 = .ok (.iconst 0, 1) := by decide +kernel
theorem dX5_areUnlike_26 : decode cX5_areUnlike 26 = .ok (.ireturn, 1) := by decide +kernel
theorem dX5_areUnlike_27 : decode cX5_areUnlike 27 = .ok (.iconst 0, 1) := by decide +kernel
theorem dX5_areUnlike_28 : decode cX5_areUnlike 28 = .ok (.istore_n 2, 1) := by decide +kernel
theorem dX5_areUnlike_29 : decode cX5_areUnlike 29 = .ok (.iload_n 2, 1) := by decide +kernel
theorem dX5_areUnlike_30 : decode cX5_areUnlike 30 = .ok (.iload_n 1, 1) := by decide +kernel
theorem dX5_areUnlike_31 : decode cX5_areUnlike 31 = .ok (.if_icmp .ge 26, 3) := by decide +kernel
theorem dX5_areUnlike_34 : decode cX5_areUnlike 34 = .ok (.aload_n 0, 1) := by decide +kernel
theorem dX5_areUnlike_35 : decode cX5_areUnlike 35 = .ok (.getfield 19, 3) := by decide +kernel
theorem dX5_areUnlike_38 : decode cX5_areUnlike 38 = .ok (.iload_n 2, 1) := by decide +kernel
theorem dX5_areUnlike_39 : decode cX5_areUnlike 39 = .ok (.iaload, 1) := by decide +kernel
theorem dX5_areUnlike_40 : decode cX5_areUnlike 40 = .ok (.aload_n 0, 1) := by decide +kernel
theorem dX5_areUnlike_41 : decode cX5_areUnlike 41 = .ok (.getfield 19, 3) := by decide +kernel
theorem dX5_areUnlike_44 : decode cX5_areUnlike 44 = .ok (.iload_n 1, 1) := by decide +kernel
theorem dX5_areUnlike_45 : decode cX5_areUnlike 45 = .ok (.iaload, 1) := by decide +kernel
theorem dX5_areUnlike_46 : decode cX5_areUnlike 46 = .ok (.if_icmp .ne 5, 3) := by decide +kernel
theorem dX5_areUnlike_49 : decode cX5_areUnlike 49 = .ok (.iconst 0, 1) := by decide +kernel
theorem dX5_areUnlike_50 : decode cX5_areUnlike 50 = .ok (.ireturn, 1) := by decide +kernel
theorem dX5_areUnlike_51 : decode cX5_areUnlike 51 = .ok (.iinc 2 1, 3) := by decide +kernel
theorem dX5_areUnlike_54 : decode cX5_areUnlike 54 = .ok (.goto (-25), 3) := by decide +kernel
theorem dX5_areUnlike_57 : decode cX5_areUnlike 57 = .ok (.iinc 1 1, 3) := by decide +kernel
theorem dX5_areUnlike_60 : decode cX5_areUnlike 60 = .ok (.goto (-58), 3) := by decide +kernel
theorem dX5_areUnlike_63 : decode cX5_areUnlike 63 = .ok (.iconst 1, 1) := by decide +kernel
theorem dX5_areUnlike_64 : decode cX5_areUnlike 64 = .ok (.ireturn, 1) := by decide +kernel
theorem dX5_nextChain_0 : decode cX5_nextChain 0 = .ok (.aload_n 0, 1) := by decide +kernel
theorem dX5_nextChain_1 : decode cX5_nextChain 1 = .ok (.getfield 78, 3) := by decide +kernel
theorem dX5_nextChain_4 : decode cX5_nextChain 4 = .ok (.ifCond .ne 7, 3) := by decide +kernel
theorem dX5_nextChain_7 : decode cX5_nextChain 7 = .ok (.iconst 0, 1) := by decide +kernel
theorem dX5_nextChain_8 : decode cX5_nextChain 8 = .ok (.goto 4, 3) := by decide +kernel
theorem dX5_nextChain_11 : decode cX5_nextChain 11 = .ok (.iconst 1, 1) := by decide +kernel
theorem dX5_nextChain_12 : decode cX5_nextChain 12 = .ok (.istore_n 1, 1) := by decide +kernel
theorem dX5_nextChain_13 : decode cX5_nextChain 13 = .ok (.iconst 0, 1) := by decide +kernel
theorem dX5_nextChain_14 : decode cX5_nextChain 14 = .ok (.istore_n 2, 1) := by decide +kernel
theorem dX5_nextChain_15 : decode cX5_nextChain 15 = .ok (.iload_n 2, 1) := by decide +kernel
theorem dX5_nextChain_16 : decode cX5_nextChain 16 = .ok (.aload_n 0, 1) := by decide +kernel
theorem dX5_nextChain_17 : decode cX5_nextChain 17 = .ok (.getfield 46, 3) := by decide +kernel
theorem dX5_nextChain_20 : decode cX5_nextChain 20 = .ok (.if_icmp .ge 16, 3) := by decide +kernel
theorem dX5_nextChain_23 : decode cX5_nextChain 23 = .ok (.iload_n 1, 1) := by decide +kernel
theorem dX5_nextChain_24 : decode cX5_nextChain 24 = .ok (.aload_n 0, 1) := by decide +kernel
theorem dX5_nextChain_25 : decode cX5_nextChain 25 = .ok (.getfield 78, 3) := by decide +kernel
theorem dX5_nextChain_28 : decode cX5_nextChain 28 = .ok (.imul, 1) := by decide +kernel
theorem dX5_nextChain_29 : decode cX5_nextChain 29 = .ok (.istore_n 1, 1) := by decide +kernel
theorem dX5_nextChain_30 : decode cX5_nextChain 30 = .ok (.iinc 2 1, 3) := by decide +kernel
theorem dX5_nextChain_33 : decode cX5_nextChain 33 = .ok (.goto (-18), 3) := by decide +kernel
theorem dX5_nextChain_36 : decode cX5_nextChain 36 = .ok (.aload_n 0, 1) := by decide +kernel
theorem dX5_nextChain_37 : decode cX5_nextChain 37 = .ok (.dup, 1) := by decide +kernel
theorem dX5_nextChain_38 : decode cX5_nextChain 38 = .ok (.getfield 213, 3) := by decide +kernel
theorem dX5_nextChain_41 : decode cX5_nextChain 41 = .ok (.iconst 1, 1) := by decide +kernel
theorem dX5_nextChain_42 : decode cX5_nextChain 42 = .ok (.iadd, 1) := by decide +kernel
theorem dX5_nextChain_43 : decode cX5_nextChain 43 = .ok (.putfield 213, 3) := by decide +kernel
theorem dX5_nextChain_46 : decode cX5_nextChain 46 = .ok (.aload_n 0, 1) := by decide +kernel
theorem dX5_nextChain_47 : decode cX5_nextChain 47 = .ok (.getfield 213, 3) := by decide +kernel
theorem dX5_nextChain_50 : decode cX5_nextChain 50 = .ok (.iload_n 1, 1) := by decide +kernel
theorem dX5_nextChain_51 : decode cX5_nextChain 51 = .ok (.if_icmp .ge 66, 3) := by decide +kernel
theorem dX5_nextChain_54 : decode cX5_nextChain 54 = .ok (.aload_n 0, 1) := by decide +kernel
theorem dX5_nextChain_55 : decode cX5_nextChain 55 = .ok (.getfield 213, 3) := by decide +kernel
theorem dX5_nextChain_58 : decode cX5_nextChain 58 = .ok (.istore_n 2, 1) := by decide +kernel
theorem dX5_nextChain_59 : decode cX5_nextChain 59 = .ok (.aload_n 0, 1) := by decide +kernel
theorem dX5_nextChain_60 : decode cX5_nextChain 60 = .ok (.getfield 46, 3) := by decide +kernel
theorem dX5_nextChain_63 : decode cX5_nextChain 63 = .ok (.iconst 1, 1) := by decide +kernel
theorem dX5_nextChain_64 : decode cX5_nextChain 64 = .ok (.isub, 1) := by decide +kernel
theorem dX5_nextChain_65 : decode cX5_nextChain 65 = .ok (.istore_n 3, 1) := by decide +kernel
theorem dX5_nextChain_66 : decode cX5_nextChain 66 = .ok (.iload_n 3, 1) := by decide +kernel
theorem dX5_nextChain_67 : decode cX5_nextChain 67 = .ok (.ifCond .lt 28, 3) := by decide +kernel
theorem dX5_nextChain_70 : decode cX5_nextChain 70 = .ok (.aload_n 0, 1) := by decide +kernel
theorem dX5_nextChain_71 : decode cX5_nextChain 71 = .ok (.getfield 19, 3) := by decide +kernel
theorem dX5_nextChain_74 : decode cX5_nextChain 74 = .ok (.iload_n 3, 1) := by decide +kernel
theorem dX5_nextChain_75 : decode cX5_nextChain 75 = .ok (.iload_n 2, 1) := by decide +kernel
theorem dX5_nextChain_76 : decode cX5_nextChain 76 = .ok (.aload_n 0, 1) := by decide +kernel
theorem dX5_nextChain_77 : decode cX5_nextChain 77 = .ok (.getfield 78, 3) := by decide +kernel
theorem dX5_nextChain_80 : decode cX5_nextChain 80 = .ok (.irem, 1) := by decide +kernel
theorem dX5_nextChain_81 : decode cX5_nextChain 81 = .ok (.iastore, 1) := by decide +kernel
theorem dX5_nextChain_82 : decode cX5_nextChain 82 = .ok (.iload_n 2, 1) := by decide +kernel
theorem dX5_nextChain_83 : decode cX5_nextChain 83 = .ok (.aload_n 0, 1) := by decide +kernel
theorem dX5_nextChain_84 : decode cX5_nextChain 84 = .ok (.getfield 78, 3) := by decide +kernel
theorem dX5_nextChain_87 : decode cX5_nextChain 87 = .ok (.idiv, 1) := by decide +kernel
theorem dX5_nextChain_88 : decode cX5_nextChain 88 = .ok (.istore_n 2, 1) := by decide +kernel
theorem dX5_nextChain_89 : decode cX5_nextChain 89 = .ok (.iinc 3 (-1), 3) := by decide +kernel
theorem dX5_nextChain_92 : decode cX5_nextChain 92 = .ok (.goto (-26), 3) := by decide +kernel
theorem dX5_nextChain_95 : decode cX5_nextChain 95 = .ok (.aload_n 0, 1) := by decide +kernel
theorem dX5_nextChain_96 : decode cX5_nextChain 96 = .ok (.invokevirtual 216, 3) := by decide +kernel
theorem dX5_nextChain_99 : decode cX5_nextChain 99 = .ok (.ifCond .eq 5, 3) := by decide +kernel
theorem dX5_nextChain_102 : decode cX5_nextChain 102 = .ok (.iconst 1, 1) := by decide +kernel
theorem dX5_nextChain_103 : decode cX5_nextChain 103 = .ok (.ireturn, 1) := by decide +kernel
theorem dX5_nextChain_104 : decode cX5_nextChain 104 = .ok (.aload_n 0, 1) := by decide +kernel
theorem dX5_nextChain_105 : decode cX5_nextChain 105 = .ok (.dup, 1) := by decide +kernel
theorem dX5_nextChain_106 : decode cX5_nextChain 106 = .ok (.getfield 213, 3) := by decide +kernel
theorem dX5_nextChain_109 : decode cX5_nextChain 109 = .ok (.iconst 1, 1) := by decide +kernel
theorem dX5_nextChain_110 : decode cX5_nextChain 110 = .ok (.iadd, 1) := by decide +kernel
theorem dX5_nextChain_111 : decode cX5_nextChain 111 = .ok (.putfield 213, 3) := by decide +kernel
theorem dX5_nextChain_114 : decode cX5_nextChain 114 = .ok (.goto (-68), 3) := by decide +kernel
theorem dX5_nextChain_117 : decode cX5_nextChain 117 = .ok (.iconst 0, 1) := by decide +kernel
theorem dX5_nextChain_118 : decode cX5_nextChain 118 = .ok (.ireturn, 1) := by decide +kernel
theorem dX5_chains_0 : decode cX5_chains 0 = .ok (.aload_n 0, 1) := by decide +kernel
theorem dX5_chains_1 : decode cX5_chains 1 = .ok (.invokevirtual 219, 3) := by decide +kernel
theorem dX5_chains_4 : decode cX5_chains 4 = .ok (.iconst 0, 1) := by decide +kernel
theorem dX5_chains_5 : decode cX5_chains 5 = .ok (.istore_n 1, 1) := by decide +kernel
theorem dX5_chains_6 : decode cX5_chains 6 = .ok (.aload_n 0, 1) := by decide +kernel
theorem dX5_chains_7 : decode cX5_chains 7 = .ok (.invokevirtual 222, 3) := by decide +kernel
theorem dX5_chains_10 : decode cX5_chains 10 = .ok (.ifCond .eq 21, 3) := by decide +kernel
theorem dX5_chains_13 : decode cX5_chains 13 = .ok (.iload_n 1, 1) := by decide +kernel
theorem dX5_chains_14 : decode cX5_chains 14 = .ok (.aload_n 0, 1) := by decide +kernel
theorem dX5_chains_15 : decode cX5_chains 15 = .ok (.invokevirtual 207, 3) := by decide +kernel
theorem dX5_chains_18 : decode cX5_chains 18 = .ok (.ifCond .eq 7, 3) := by decide +kernel
theorem dX5_chains_21 : decode cX5_chains 21 = .ok (.iconst 1, 1) := by decide +kernel
theorem dX5_chains_22 : decode cX5_chains 22 = .ok (.goto 4, 3) := by decide +kernel
theorem dX5_chains_25 : decode cX5_chains 25 = .ok (.iconst 0, 1) := by decide +kernel
theorem dX5_chains_26 : decode cX5_chains 26 = .ok (.iadd, 1) := by decide +kernel
theorem dX5_chains_27 : decode cX5_chains 27 = .ok (.istore_n 1, 1) := by decide +kernel
theorem dX5_chains_28 : decode cX5_chains 28 = .ok (.goto (-22), 3) := by decide +kernel
theorem dX5_chains_31 : decode cX5_chains 31 = .ok (.aload_n 0, 1) := by decide +kernel
theorem dX5_chains_32 : decode cX5_chains 32 = .ok (.invokevirtual 225, 3) := by decide +kernel
theorem dX5_chains_35 : decode cX5_chains 35 = .ok (.iload_n 1, 1) := by decide +kernel
theorem dX5_chains_36 : decode cX5_chains 36 = .ok (.ireturn, 1) := by decide +kernel
theorem dX5_findLongest_0 : decode cX5_findLongest 0 = .ok (.aload_n 0, 1) := by decide +kernel
theorem dX5_findLongest_1 : decode cX5_findLongest 1 = .ok (.invokevirtual 219, 3) := by decide +kernel
theorem dX5_findLongest_4 : decode cX5_findLongest 4 = .ok (.aload_n 0, 1) := by decide +kernel
theorem dX5_findLongest_5 : decode cX5_findLongest 5 = .ok (.bipush (-9), 2) := by decide +kernel
theorem dX5_findLongest_7 : decode cX5_findLongest 7 = .ok (.putfield 228, 3) := by decide +kernel
theorem dX5_findLongest_10 : decode cX5_findLongest 10 = .ok (.iconst 0, 1) := by decide +kernel
theorem dX5_findLongest_11 : decode cX5_findLongest 11 = .ok (.istore_n 1, 1) := by decide +kernel
theorem dX5_findLongest_12 : decode cX5_findLongest 12 = .ok (.iload_n 1, 1) := by decide +kernel
theorem dX5_findLongest_13 : decode cX5_findLongest 13 = .ok (.iconst 5, 1) := by decide +kernel
theorem dX5_findLongest_14 : decode cX5_findLongest 14 = .ok (.if_icmp .ge 17, 3) := by decide +kernel
theorem dX5_findLongest_17 : decode cX5_findLongest 17 = .ok (.aload_n 0, 1) := by decide +kernel
theorem dX5_findLongest_18 : decode cX5_findLongest 18 = .ok (.getfield 71, 3) := by decide +kernel
theorem dX5_findLongest_21 : decode cX5_findLongest 21 = .ok (.iload_n 1, 1) := by decide +kernel
theorem dX5_findLongest_22 : decode cX5_findLongest 22 = .ok (.bipush (-9), 2) := by decide +kernel
theorem dX5_findLongest_24 : decode cX5_findLongest 24 = .ok (.iastore, 1) := by decide +kernel
theorem dX5_findLongest_25 : decode cX5_findLongest 25 = .ok (.iinc 1 1, 3) := by decide +kernel
theorem dX5_findLongest_28 : decode cX5_findLongest 28 = .ok (.goto (-16), 3) := by decide +kernel
theorem dX5_findLongest_31 : decode cX5_findLongest 31 = .ok (.aload_n 0, 1) := by decide +kernel
theorem dX5_findLongest_32 : decode cX5_findLongest 32 = .ok (.invokevirtual 222, 3) := by decide +kernel
theorem dX5_findLongest_35 : decode cX5_findLongest 35 = .ok (.ifCond .eq 63, 3) := by decide +kernel
theorem dX5_findLongest_38 : decode cX5_findLongest 38 = .ok (.aload_n 0, 1) := by decide +kernel
theorem dX5_findLongest_39 : decode cX5_findLongest 39 = .ok (.invokevirtual 207, 3) := by decide +kernel
theorem dX5_findLongest_42 : decode cX5_findLongest 42 = .ok (.ifCond .eq (-11), 3) := by decide +kernel
theorem dX5_findLongest_45 : decode cX5_findLongest 45 = .ok (.aload_n 0, 1) := by decide +kernel
theorem dX5_findLongest_46 : decode cX5_findLongest 46 = .ok (.invokevirtual 210, 3) := by decide +kernel
theorem dX5_findLongest_49 : decode cX5_findLongest 49 = .ok (.aload_n 0, 1) := by decide +kernel
theorem dX5_findLongest_50 : decode cX5_findLongest 50 = .ok (.getfield 228, 3) := by decide +kernel
theorem dX5_findLongest_53 : decode cX5_findLongest 53 = .ok (.if_icmp .gt 6, 3) := by decide +kernel
theorem dX5_findLongest_56 : decode cX5_findLongest 56 = .ok (.goto (-25), 3) := by decide +kernel
theorem dX5_findLongest_59 : decode cX5_findLongest 59 = .ok (.aload_n 0, 1) := by decide +kernel
end
section
theorem dX5_findLongest_60 : decode cX5_findLongest 60 = .ok (.aload_n 0, 1) := by decide +kernel
theorem dX5_findLongest_61 : decode cX5_findLongest 61 = .ok (.invokevirtual 210, 3) := by decide +kernel
theorem dX5_findLongest_64 : decode cX5_findLongest 64 = .ok (.putfield 228, 3) := by decide +kernel
theorem dX5_findLongest_67 : decode cX5_findLongest 67 = .ok (.iconst 0, 1) := by decide +kernel
theorem dX5_findLongest_68 : decode cX5_findLongest 68 = .ok (.istore_n 1, 1) := by decide +kernel
theorem dX5_findLongest_69 : decode cX5_findLongest 69 = .ok (.iload_n 1, 1) := by decide +kernel
theorem dX5_findLongest_70 : decode cX5_findLongest 70 = .ok (.aload_n 0, 1) := by decide +kernel
theorem dX5_findLongest_71 : decode cX5_findLongest 71 = .ok (.getfield 46, 3) := by decide +kernel
theorem dX5_findLongest_74 : decode cX5_findLongest 74 = .ok (.if_icmp .ge 21, 3) := by decide +kernel
theorem dX5_findLongest_77 : decode cX5_findLongest 77 = .ok (.aload_n 0, 1) := by decide +kernel
theorem dX5_findLongest_78 : decode cX5_findLongest 78 = .ok (.getfield 71, 3) := by decide +kernel
theorem dX5_findLongest_81 : decode cX5_findLongest 81 = .ok (.iload_n 1, 1) := by decide +kernel
theorem dX5_findLongest_82 : decode cX5_findLongest 82 = .ok (.aload_n 0, 1) := by decide +kernel
theorem dX5_findLongest_83 : decode cX5_findLongest 83 = .ok (.getfield 19, 3) := by decide +kernel
theorem dX5_findLongest_86 : decode cX5_findLongest 86 = .ok (.iload_n 1, 1) := by decide +kernel
theorem dX5_findLongest_87 : decode cX5_findLongest 87 = .ok (.iaload, 1) := by decide +kernel
theorem dX5_findLongest_88 : decode cX5_findLongest 88 = .ok (.iastore, 1) := by decide +kernel
theorem dX5_findLongest_89 : decode cX5_findLongest 89 = .ok (.iinc 1 1, 3) := by decide +kernel
theorem dX5_findLongest_92 : decode cX5_findLongest 92 = .ok (.goto (-23), 3) := by decide +kernel
theorem dX5_findLongest_95 : decode cX5_findLongest 95 = .ok (.goto (-64), 3) := by decide +kernel
theorem dX5_findLongest_98 : decode cX5_findLongest 98 = .ok (.aload_n 0, 1) := by decide +kernel
theorem dX5_findLongest_99 : decode cX5_findLongest 99 = .ok (.invokevirtual 225, 3) := by decide +kernel
theorem dX5_findLongest_102 : decode cX5_findLongest 102 = .ok (.return_, 1) := by decide +kernel
theorem dX5_longest_0 : decode cX5_longest 0 = .ok (.iload_n 1, 1) := by decide +kernel
theorem dX5_longest_1 : decode cX5_longest 1 = .ok (.iconst (-1), 1) := by decide +kernel
theorem dX5_longest_2 : decode cX5_longest 2 = .ok (.if_icmp .eq 17, 3) := by decide +kernel
theorem dX5_longest_5 : decode cX5_longest 5 = .ok (.aload_n 0, 1) := by decide +kernel
theorem dX5_longest_6 : decode cX5_longest 6 = .ok (.iload_n 1, 1) := by decide +kernel
theorem dX5_longest_7 : decode cX5_longest 7 = .ok (.invokevirtual 123, 3) := by decide +kernel
theorem dX5_longest_10 : decode cX5_longest 10 = .ok (.ifCond .ne 9, 3) := by decide +kernel
theorem dX5_longest_13 : decode cX5_longest 13 = .ok (.aload_n 0, 1) := by decide +kernel
theorem dX5_longest_14 : decode cX5_longest 14 = .ok (.iconst (-1), 1) := by decide +kernel
theorem dX5_longest_15 : decode cX5_longest 15 = .ok (.invokevirtual 92, 3) := by decide +kernel
theorem dX5_longest_18 : decode cX5_longest 18 = .ok (.ireturn, 1) := by decide +kernel
theorem dX5_longest_19 : decode cX5_longest 19 = .ok (.aload_n 0, 1) := by decide +kernel
theorem dX5_longest_20 : decode cX5_longest 20 = .ok (.invokevirtual 231, 3) := by decide +kernel
theorem dX5_longest_23 : decode cX5_longest 23 = .ok (.iload_n 1, 1) := by decide +kernel
theorem dX5_longest_24 : decode cX5_longest 24 = .ok (.iconst (-1), 1) := by decide +kernel
theorem dX5_longest_25 : decode cX5_longest 25 = .ok (.if_icmp .ne 10, 3) := by decide +kernel
theorem dX5_longest_28 : decode cX5_longest 28 = .ok (.aload_n 0, 1) := by decide +kernel
theorem dX5_longest_29 : decode cX5_longest 29 = .ok (.getfield 228, 3) := by decide +kernel
theorem dX5_longest_32 : decode cX5_longest 32 = .ok (.goto 9, 3) := by decide +kernel
theorem dX5_longest_35 : decode cX5_longest 35 = .ok (.aload_n 0, 1) := by decide +kernel
theorem dX5_longest_36 : decode cX5_longest 36 = .ok (.getfield 71, 3) := by decide +kernel
theorem dX5_longest_39 : decode cX5_longest 39 = .ok (.iload_n 1, 1) := by decide +kernel
theorem dX5_longest_40 : decode cX5_longest 40 = .ok (.iaload, 1) := by decide +kernel
theorem dX5_longest_41 : decode cX5_longest 41 = .ok (.ireturn, 1) := by decide +kernel
theorem dX5_grudgesIn_0 : decode cX5_grudgesIn 0 = .ok (.iconst 0, 1) := by decide +kernel
theorem dX5_grudgesIn_1 : decode cX5_grudgesIn 1 = .ok (.istore_n 1, 1) := by decide +kernel
theorem dX5_grudgesIn_2 : decode cX5_grudgesIn 2 = .ok (.iconst 0, 1) := by decide +kernel
theorem dX5_grudgesIn_3 : decode cX5_grudgesIn 3 = .ok (.istore_n 2, 1) := by decide +kernel
theorem dX5_grudgesIn_4 : decode cX5_grudgesIn 4 = .ok (.iload_n 2, 1) := by decide +kernel
theorem dX5_grudgesIn_5 : decode cX5_grudgesIn 5 = .ok (.aload_n 0, 1) := by decide +kernel
theorem dX5_grudgesIn_6 : decode cX5_grudgesIn 6 = .ok (.getfield 46, 3) := by decide +kernel
theorem dX5_grudgesIn_9 : decode cX5_grudgesIn 9 = .ok (.if_icmp .ge 67, 3) := by decide +kernel
theorem dX5_grudgesIn_12 : decode cX5_grudgesIn 12 = .ok (.aload_n 0, 1) := by decide +kernel
theorem dX5_grudgesIn_13 : decode cX5_grudgesIn 13 = .ok (.getfield 19, 3) := by decide +kernel
theorem dX5_grudgesIn_16 : decode cX5_grudgesIn 16 = .ok (.iload_n 2, 1) := by decide +kernel
theorem dX5_grudgesIn_17 : decode cX5_grudgesIn 17 = .ok (.iaload, 1) := by decide +kernel
theorem dX5_grudgesIn_18 : decode cX5_grudgesIn 18 = .ok (.istore_n 3, 1) := by decide +kernel
theorem dX5_grudgesIn_19 : decode cX5_grudgesIn 19 = .ok (.aload_n 0, 1) := by decide +kernel
theorem dX5_grudgesIn_20 : decode cX5_grudgesIn 20 = .ok (.iload_n 2, 1) := by decide +kernel
theorem dX5_grudgesIn_21 : decode cX5_grudgesIn 21 = .ok (.iload_n 3, 1) := by decide +kernel
theorem dX5_grudgesIn_22 : decode cX5_grudgesIn 22 = .ok (.iconst 0, 1) := by decide +kernel
theorem dX5_grudgesIn_23 : decode cX5_grudgesIn 23 = .ok (.invokevirtual 189, 3) := by decide +kernel
theorem dX5_grudgesIn_26 : decode cX5_grudgesIn 26 = .ok (.ifCond .eq 12, 3) := by decide +kernel
theorem dX5_grudgesIn_29 : decode cX5_grudgesIn 29 = .ok (.aload_n 0, 1) := by decide +kernel
theorem dX5_grudgesIn_30 : decode cX5_grudgesIn 30 = .ok (.iload_n 2, 1) := by decide +kernel
theorem dX5_grudgesIn_31 : decode cX5_grudgesIn 31 = .ok (.iload_n 3, 1) := by decide +kernel
theorem dX5_grudgesIn_32 : decode cX5_grudgesIn 32 = .ok (.invokevirtual 192, 3) := by decide +kernel
theorem dX5_grudgesIn_35 : decode cX5_grudgesIn 35 = .ok (.ifCond .ne 6, 3) := by decide +kernel
theorem dX5_grudgesIn_38 : decode cX5_grudgesIn 38 = .ok (.bipush (-9), 2) := by decide +kernel
theorem dX5_grudgesIn_40 : decode cX5_grudgesIn 40 = .ok (.ireturn, 1) := by decide +kernel
theorem dX5_grudgesIn_41 : decode cX5_grudgesIn 41 = .ok (.iload_n 1, 1) := by decide +kernel
theorem dX5_grudgesIn_42 : decode cX5_grudgesIn 42 = .ok (.iload_n 2, 1) := by decide +kernel
theorem dX5_grudgesIn_43 : decode cX5_grudgesIn 43 = .ok (.ifCond .le 24, 3) := by decide +kernel
theorem dX5_grudgesIn_46 : decode cX5_grudgesIn 46 = .ok (.aload_n 0, 1) := by decide +kernel
theorem dX5_grudgesIn_47 : decode cX5_grudgesIn 47 = .ok (.getfield 40, 3) := by decide +kernel
theorem dX5_grudgesIn_50 : decode cX5_grudgesIn 50 = .ok (.bipush 7, 2) := by decide +kernel
theorem dX5_grudgesIn_52 : decode cX5_grudgesIn 52 = .ok (.iload_n 3, 1) := by decide +kernel
theorem dX5_grudgesIn_53 : decode cX5_grudgesIn 53 = .ok (.imul, 1) := by decide +kernel
theorem dX5_grudgesIn_54 : decode cX5_grudgesIn 54 = .ok (.aload_n 0, 1) := by decide +kernel
theorem dX5_grudgesIn_55 : decode cX5_grudgesIn 55 = .ok (.getfield 19, 3) := by decide +kernel
theorem dX5_grudgesIn_58 : decode cX5_grudgesIn 58 = .ok (.iload_n 2, 1) := by decide +kernel
theorem dX5_grudgesIn_59 : decode cX5_grudgesIn 59 = .ok (.iconst 1, 1) := by decide +kernel
theorem dX5_grudgesIn_60 : decode cX5_grudgesIn 60 = .ok (.isub, 1) := by decide +kernel
theorem dX5_grudgesIn_61 : decode cX5_grudgesIn 61 = .ok (.iaload, 1) := by decide +kernel
theorem dX5_grudgesIn_62 : decode cX5_grudgesIn 62 = .ok (.iadd, 1) := by decide +kernel
theorem dX5_grudgesIn_63 : decode cX5_grudgesIn 63 = .ok (.iaload, 1) := by decide +kernel
theorem dX5_grudgesIn_64 : decode cX5_grudgesIn 64 = .ok (.goto 4, 3) := by decide +kernel
theorem dX5_grudgesIn_67 : decode cX5_grudgesIn 67 = .ok (.iconst 0, 1) := by decide +kernel
theorem dX5_grudgesIn_68 : decode cX5_grudgesIn 68 = .ok (.iadd, 1) := by decide +kernel
theorem dX5_grudgesIn_69 : decode cX5_grudgesIn 69 = .ok (.istore_n 1, 1) := by decide +kernel
theorem dX5_grudgesIn_70 : decode cX5_grudgesIn 70 = .ok (.iinc 2 1, 3) := by decide +kernel
theorem dX5_grudgesIn_73 : decode cX5_grudgesIn 73 = .ok (.goto (-69), 3) := by decide +kernel
theorem dX5_grudgesIn_76 : decode cX5_grudgesIn 76 = .ok (.iload_n 1, 1) := by decide +kernel
theorem dX5_grudgesIn_77 : decode cX5_grudgesIn 77 = .ok (.ireturn, 1) := by decide +kernel
theorem dX5_makeUp_0 : decode cX5_makeUp 0 = .ok (.aload_n 0, 1) := by decide +kernel
theorem dX5_makeUp_1 : decode cX5_makeUp 1 = .ok (.invokevirtual 219, 3) := by decide +kernel
theorem dX5_makeUp_4 : decode cX5_makeUp 4 = .ok (.bipush (-9), 2) := by decide +kernel
theorem dX5_makeUp_6 : decode cX5_makeUp 6 = .ok (.istore_n 1, 1) := by decide +kernel
theorem dX5_makeUp_7 : decode cX5_makeUp 7 = .ok (.aload_n 0, 1) := by decide +kernel
theorem dX5_makeUp_8 : decode cX5_makeUp 8 = .ok (.invokevirtual 222, 3) := by decide +kernel
theorem dX5_makeUp_11 : decode cX5_makeUp 11 = .ok (.ifCond .eq 26, 3) := by decide +kernel
theorem dX5_makeUp_14 : decode cX5_makeUp 14 = .ok (.aload_n 0, 1) := by decide +kernel
theorem dX5_makeUp_15 : decode cX5_makeUp 15 = .ok (.invokevirtual 234, 3) := by decide +kernel
theorem dX5_makeUp_18 : decode cX5_makeUp 18 = .ok (.istore_n 2, 1) := by decide +kernel
theorem dX5_makeUp_19 : decode cX5_makeUp 19 = .ok (.iload_n 2, 1) := by decide +kernel
theorem dX5_makeUp_20 : decode cX5_makeUp 20 = .ok (.ifCond .lt 14, 3) := by decide +kernel
theorem dX5_makeUp_23 : decode cX5_makeUp 23 = .ok (.iload_n 1, 1) := by decide +kernel
theorem dX5_makeUp_24 : decode cX5_makeUp 24 = .ok (.ifCond .lt 8, 3) := by decide +kernel
theorem dX5_makeUp_27 : decode cX5_makeUp 27 = .ok (.iload_n 2, 1) := by decide +kernel
theorem dX5_makeUp_28 : decode cX5_makeUp 28 = .ok (.iload_n 1, 1) := by decide +kernel
theorem dX5_makeUp_29 : decode cX5_makeUp 29 = .ok (.if_icmp .ge 5, 3) := by decide +kernel
theorem dX5_makeUp_32 : decode cX5_makeUp 32 = .ok (.iload_n 2, 1) := by decide +kernel
theorem dX5_makeUp_33 : decode cX5_makeUp 33 = .ok (.istore_n 1, 1) := by decide +kernel
theorem dX5_makeUp_34 : decode cX5_makeUp 34 = .ok (.goto (-27), 3) := by decide +kernel
theorem dX5_makeUp_37 : decode cX5_makeUp 37 = .ok (.aload_n 0, 1) := by decide +kernel
theorem dX5_makeUp_38 : decode cX5_makeUp 38 = .ok (.invokevirtual 225, 3) := by decide +kernel
theorem dX5_makeUp_41 : decode cX5_makeUp 41 = .ok (.iload_n 1, 1) := by decide +kernel
theorem dX5_makeUp_42 : decode cX5_makeUp 42 = .ok (.ireturn, 1) := by decide +kernel
theorem dX5_longestOrNothing_0 : decode cX5_longestOrNothing 0 = .ok (.aload_n 0, 1) := by decide +kernel
theorem dX5_longestOrNothing_1 : decode cX5_longestOrNothing 1 = .ok (.invokevirtual 231, 3) := by decide +kernel
theorem dX5_longestOrNothing_4 : decode cX5_longestOrNothing 4 = .ok (.aload_n 0, 1) := by decide +kernel
theorem dX5_longestOrNothing_5 : decode cX5_longestOrNothing 5 = .ok (.getfield 228, 3) := by decide +kernel
theorem dX5_longestOrNothing_8 : decode cX5_longestOrNothing 8 = .ok (.ifCond .ge 7, 3) := by decide +kernel
theorem dX5_longestOrNothing_11 : decode cX5_longestOrNothing 11 = .ok (.iconst 0, 1) := by decide +kernel
theorem dX5_longestOrNothing_12 : decode cX5_longestOrNothing 12 = .ok (.goto 7, 3) := by decide +kernel
theorem dX5_longestOrNothing_15 : decode cX5_longestOrNothing 15 = .ok (.aload_n 0, 1) := by decide +kernel
theorem dX5_longestOrNothing_16 : decode cX5_longestOrNothing 16 = .ok (.getfield 228, 3) := by decide +kernel
theorem dX5_longestOrNothing_19 : decode cX5_longestOrNothing 19 = .ok (.ireturn, 1) := by decide +kernel
theorem dX5_worth_0 : decode cX5_worth 0 = .ok (.aload_n 0, 1) := by decide +kernel
theorem dX5_worth_1 : decode cX5_worth 1 = .ok (.iload_n 1, 1) := by decide +kernel
theorem dX5_worth_2 : decode cX5_worth 2 = .ok (.iload_n 2, 1) := by decide +kernel
theorem dX5_worth_3 : decode cX5_worth 3 = .ok (.invokevirtual 129, 3) := by decide +kernel
theorem dX5_worth_6 : decode cX5_worth 6 = .ok (.ifCond .ne 9, 3) := by decide +kernel
theorem dX5_worth_9 : decode cX5_worth 9 = .ok (.aload_n 0, 1) := by decide +kernel
theorem dX5_worth_10 : decode cX5_worth 10 = .ok (.iconst (-1), 1) := by decide +kernel
theorem dX5_worth_11 : decode cX5_worth 11 = .ok (.invokevirtual 92, 3) := by decide +kernel
theorem dX5_worth_14 : decode cX5_worth 14 = .ok (.ireturn, 1) := by decide +kernel
theorem dX5_worth_15 : decode cX5_worth 15 = .ok (.aload_n 0, 1) := by decide +kernel
theorem dX5_worth_16 : decode cX5_worth 16 = .ok (.getfield 40, 3) := by decide +kernel
theorem dX5_worth_19 : decode cX5_worth 19 = .ok (.bipush 7, 2) := by decide +kernel
theorem dX5_worth_21 : decode cX5_worth 21 = .ok (.iload_n 1, 1) := by decide +kernel
theorem dX5_worth_22 : decode cX5_worth 22 = .ok (.imul, 1) := by decide +kernel
theorem dX5_worth_23 : decode cX5_worth 23 = .ok (.iload_n 2, 1) := by decide +kernel
theorem dX5_worth_24 : decode cX5_worth 24 = .ok (.iadd, 1) := by decide +kernel
theorem dX5_worth_25 : decode cX5_worth 25 = .ok (.iaload, 1) := by decide +kernel
theorem dX5_worth_26 : decode cX5_worth 26 = .ok (.ifCond .ne 10, 3) := by decide +kernel
theorem dX5_worth_29 : decode cX5_worth 29 = .ok (.aload_n 0, 1) := by decide +kernel
theorem dX5_worth_30 : decode cX5_worth 30 = .ok (.bipush (-3), 2) := by decide +kernel
theorem dX5_worth_32 : decode cX5_worth 32 = .ok (.invokevirtual 92, 3) := by decide +kernel
theorem dX5_worth_35 : decode cX5_worth 35 = .ok (.ireturn, 1) := by decide +kernel
theorem dX5_worth_36 : decode cX5_worth 36 = .ok (.aload_n 0, 1) := by decide +kernel
theorem dX5_worth_37 : decode cX5_worth 37 = .ok (.invokevirtual 237, 3) := by decide +kernel
theorem dX5_worth_40 : decode cX5_worth 40 = .ok (.istore_n 3, 1) := by decide +kernel
theorem dX5_worth_41 : decode cX5_worth 41 = .ok (.aload_n 0, 1) := by decide +kernel
theorem dX5_worth_42 : decode cX5_worth 42 = .ok (.getfield 40, 3) := by decide +kernel
theorem dX5_worth_45 : decode cX5_worth 45 = .ok (.bipush 7, 2) := by decide +kernel
theorem dX5_worth_47 : decode cX5_worth 47 = .ok (.iload_n 1, 1) := by decide +kernel
theorem dX5_worth_48 : decode cX5_worth 48 = .ok (.imul, 1) := by decide +kernel
theorem dX5_worth_49 : decode cX5_worth 49 = .ok (.iload_n 2, 1) := by decide +kernel
theorem dX5_worth_50 : decode cX5_worth 50 = .ok (.iadd, 1) := by decide +kernel
theorem dX5_worth_51 : decode cX5_worth 51 = .ok (.iconst 0, 1) := by decide +kernel
theorem dX5_worth_52 : decode cX5_worth 52 = .ok (.iastore, 1) := by decide +kernel
theorem dX5_worth_53 : decode cX5_worth 53 = .ok (.aload_n 0, 1) := by decide +kernel
theorem dX5_worth_54 : decode cX5_worth 54 = .ok (.getfield 40, 3) := by decide +kernel
theorem dX5_worth_57 : decode cX5_worth 57 = .ok (.bipush 7, 2) := by decide +kernel
theorem dX5_worth_59 : decode cX5_worth 59 = .ok (.iload_n 2, 1) := by decide +kernel
theorem dX5_worth_60 : decode cX5_worth 60 = .ok (.imul, 1) := by decide +kernel
theorem dX5_worth_61 : decode cX5_worth 61 = .ok (.iload_n 1, 1) := by decide +kernel
theorem dX5_worth_62 : decode cX5_worth 62 = .ok (.iadd, 1) := by decide +kernel
theorem dX5_worth_63 : decode cX5_worth 63 = .ok (.iconst 0, 1) := by decide +kernel
theorem dX5_worth_64 : decode cX5_worth 64 = .ok (.iastore, 1) := by decide +kernel
theorem dX5_worth_65 : decode cX5_worth 65 = .ok (.aload_n 0, 1) := by decide +kernel
theorem dX5_worth_66 : decode cX5_worth 66 = .ok (.invokevirtual 237, 3) := by decide +kernel
theorem dX5_worth_69 : decode cX5_worth 69 = .ok (.istore 4, 2) := by decide +kernel
theorem dX5_worth_71 : decode cX5_worth 71 = .ok (.aload_n 0, 1) := by decide +kernel
theorem dX5_worth_72 : decode cX5_worth 72 = .ok (.getfield 40, 3) := by decide +kernel
theorem dX5_worth_75 : decode cX5_worth 75 = .ok (.bipush 7, 2) := by decide +kernel
theorem dX5_worth_77 : decode cX5_worth 77 = .ok (.iload_n 1, 1) := by decide +kernel
theorem dX5_worth_78 : decode cX5_worth 78 = .ok (.imul, 1) := by decide +kernel
theorem dX5_worth_79 : decode cX5_worth 79 = .ok (.iload_n 2, 1) := by decide +kernel
theorem dX5_worth_80 : decode cX5_worth 80 = .ok (.iadd, 1) := by decide +kernel
theorem dX5_worth_81 : decode cX5_worth 81 = .ok (.iconst 1, 1) := by decide +kernel
theorem dX5_worth_82 : decode cX5_worth 82 = .ok (.iastore, 1) := by decide +kernel
theorem dX5_worth_83 : decode cX5_worth 83 = .ok (.aload_n 0, 1) := by decide +kernel
theorem dX5_worth_84 : decode cX5_worth 84 = .ok (.getfield 40, 3) := by decide +kernel
theorem dX5_worth_87 : decode cX5_worth 87 = .ok (.bipush 7, 2) := by decide +kernel
theorem dX5_worth_89 : decode cX5_worth 89 = .ok (.iload_n 2, 1) := by decide +kernel
theorem dX5_worth_90 : decode cX5_worth 90 = .ok (.imul, 1) := by decide +kernel
theorem dX5_worth_91 : decode cX5_worth 91 = .ok (.iload_n 1, 1) := by decide +kernel
theorem dX5_worth_92 : decode cX5_worth 92 = .ok (.iadd, 1) := by decide +kernel
theorem dX5_worth_93 : decode cX5_worth 93 = .ok (.iconst 1, 1) := by decide +kernel
theorem dX5_worth_94 : decode cX5_worth 94 = .ok (.iastore, 1) := by decide +kernel
theorem dX5_worth_95 : decode cX5_worth 95 = .ok (.iload 4, 2) := by decide +kernel
theorem dX5_worth_97 : decode cX5_worth 97 = .ok (.iload_n 3, 1) := by decide +kernel
theorem dX5_worth_98 : decode cX5_worth 98 = .ok (.isub, 1) := by decide +kernel
theorem dX5_worth_99 : decode cX5_worth 99 = .ok (.ireturn, 1) := by decide +kernel
theorem dX5_change_0 : decode cX5_change 0 = .ok (.aload_n 0, 1) := by decide +kernel
theorem dX5_change_1 : decode cX5_change 1 = .ok (.invokevirtual 207, 3) := by decide +kernel
theorem dX5_change_4 : decode cX5_change 4 = .ok (.ifCond .eq 10, 3) := by decide +kernel
theorem dX5_change_7 : decode cX5_change 7 = .ok (.aload_n 0, 1) := by decide +kernel
theorem dX5_change_8 : decode cX5_change 8 = .ok (.invokevirtual 210, 3) := by decide +kernel
theorem dX5_change_11 : decode cX5_change 11 = .ok (.goto 4, 3) := by decide +kernel
theorem dX5_change_14 : decode cX5_change 14 = .ok (.iconst 0, 1) := by decide +kernel
theorem dX5_change_15 : decode cX5_change 15 = .ok (.istore_n 1, 1) := by decide +kernel
theorem dX5_change_16 : decode cX5_change 16 = .ok (.bipush (-9), 2) := by decide +kernel
theorem dX5_change_18 : decode cX5_change 18 = .ok (.istore_n 2, 1) := by decide +kernel
theorem dX5_change_19 : decode cX5_change 19 = .ok (.iconst 0, 1) := by decide +kernel
theorem dX5_change_20 : decode cX5_change 20 = .ok (.istore_n 3, 1) := by decide +kernel
theorem dX5_change_21 : decode cX5_change 21 = .ok (.iload_n 3, 1) := by decide +kernel
theorem dX5_change_22 : decode cX5_change 22 = .ok (.aload_n 0, 1) := by decide +kernel
theorem dX5_change_23 : decode cX5_change 23 = .ok (.getfield 46, 3) := by decide +kernel
theorem dX5_change_26 : decode cX5_change 26 = .ok (.if_icmp .ge 109, 3) := by decide +kernel
theorem dX5_change_29 : decode cX5_change 29 = .ok (.aload_n 0, 1) := by decide +kernel
theorem dX5_change_30 : decode cX5_change 30 = .ok (.getfield 19, 3) := by decide +kernel
theorem dX5_change_33 : decode cX5_change 33 = .ok (.iload_n 3, 1) := by decide +kernel
theorem dX5_change_34 : decode cX5_change 34 = .ok (.iaload, 1) := by decide +kernel
theorem dX5_change_35 : decode cX5_change 35 = .ok (.istore 4, 2) := by decide +kernel
theorem dX5_change_37 : decode cX5_change 37 = .ok (.iconst 0, 1) := by decide +kernel
theorem dX5_change_38 : decode cX5_change 38 = .ok (.istore 5, 2) := by decide +kernel
theorem dX5_change_40 : decode cX5_change 40 = .ok (.iload 5, 2) := by decide +kernel
theorem dX5_change_42 : decode cX5_change 42 = .ok (.aload_n 0, 1) := by decide +kernel
theorem dX5_change_43 : decode cX5_change 43 = .ok (.getfield 78, 3) := by decide +kernel
theorem dX5_change_46 : decode cX5_change 46 = .ok (.if_icmp .ge 75, 3) := by decide +kernel
theorem dX5_change_49 : decode cX5_change 49 = .ok (.iload 4, 2) := by decide +kernel
theorem dX5_change_51 : decode cX5_change 51 = .ok (.ifCond .lt 70, 3) := by decide +kernel
theorem dX5_change_54 : decode cX5_change 54 = .ok (.aload_n 0, 1) := by decide +kernel
theorem dX5_change_55 : decode cX5_change 55 = .ok (.getfield 19, 3) := by decide +kernel
theorem dX5_change_58 : decode cX5_change 58 = .ok (.iload_n 3, 1) := by decide +kernel
theorem dX5_change_59 : decode cX5_change 59 = .ok (.iload 4, 2) := by decide +kernel
theorem dX5_change_61 : decode cX5_change 61 = .ok (.iastore, 1) := by decide +kernel
theorem dX5_change_62 : decode cX5_change 62 = .ok (.aload_n 0, 1) := by decide +kernel
theorem dX5_change_63 : decode cX5_change 63 = .ok (.iload 5, 2) := by decide +kernel
theorem dX5_change_65 : decode cX5_change 65 = .ok (.invokevirtual 117, 3) := by decide +kernel
theorem dX5_change_68 : decode cX5_change 68 = .ok (.bipush (-9), 2) := by decide +kernel
theorem dX5_change_70 : decode cX5_change 70 = .ok (.if_icmp .eq 6, 3) := by decide +kernel
theorem dX5_change_73 : decode cX5_change 73 = .ok (.goto 42, 3) := by decide +kernel
theorem dX5_change_76 : decode cX5_change 76 = .ok (.aload_n 0, 1) := by decide +kernel
theorem dX5_change_77 : decode cX5_change 77 = .ok (.getfield 19, 3) := by decide +kernel
theorem dX5_change_80 : decode cX5_change 80 = .ok (.iload_n 3, 1) := by decide +kernel
theorem dX5_change_81 : decode cX5_change 81 = .ok (.iload 5, 2) := by decide +kernel
theorem dX5_change_83 : decode cX5_change 83 = .ok (.iastore, 1) := by decide +kernel
theorem dX5_change_84 : decode cX5_change 84 = .ok (.aload_n 0, 1) := by decide +kernel
theorem dX5_change_85 : decode cX5_change 85 = .ok (.invokevirtual 207, 3) := by decide +kernel
theorem dX5_change_88 : decode cX5_change 88 = .ok (.ifCond .eq 27, 3) := by decide +kernel
theorem dX5_change_91 : decode cX5_change 91 = .ok (.aload_n 0, 1) := by decide +kernel
theorem dX5_change_92 : decode cX5_change 92 = .ok (.invokevirtual 210, 3) := by decide +kernel
theorem dX5_change_95 : decode cX5_change 95 = .ok (.iload_n 1, 1) := by decide +kernel
theorem dX5_change_96 : decode cX5_change 96 = .ok (.if_icmp .gt 6, 3) := by decide +kernel
theorem dX5_change_99 : decode cX5_change 99 = .ok (.goto 16, 3) := by decide +kernel
theorem dX5_change_102 : decode cX5_change 102 = .ok (.aload_n 0, 1) := by decide +kernel
theorem dX5_change_103 : decode cX5_change 103 = .ok (.invokevirtual 210, 3) := by decide +kernel
theorem dX5_change_106 : decode cX5_change 106 = .ok (.istore_n 1, 1) := by decide +kernel
theorem dX5_change_107 : decode cX5_change 107 = .ok (.bipush 10, 2) := by decide +kernel
theorem dX5_change_109 : decode cX5_change 109 = .ok (.iload_n 3, 1) := by decide +kernel
theorem dX5_change_110 : decode cX5_change 110 = .ok (.imul, 1) := by decide +kernel
theorem dX5_change_111 : decode cX5_change 111 = .ok (.iload 5, 2) := by decide +kernel
theorem dX5_change_113 : decode cX5_change 113 = .ok (.iadd, 1) := by decide +kernel
theorem dX5_change_114 : decode cX5_change 114 = .ok (.istore_n 2, 1) := by decide +kernel
theorem dX5_change_115 : decode cX5_change 115 = .ok (.iinc 5 1, 3) := by decide +kernel
theorem dX5_change_118 : decode cX5_change 118 = .ok (.goto (-78), 3) := by decide +kernel
theorem dX5_change_121 : decode cX5_change 121 = .ok (.aload_n 0, 1) := by decide +kernel
theorem dX5_change_122 : decode cX5_change 122 = .ok (.getfield 19, 3) := by decide +kernel
theorem dX5_change_125 : decode cX5_change 125 = .ok (.iload_n 3, 1) := by decide +kernel
theorem dX5_change_126 : decode cX5_change 126 = .ok (.iload 4, 2) := by decide +kernel
theorem dX5_change_128 : decode cX5_change 128 = .ok (.iastore, 1) := by decide +kernel
theorem dX5_change_129 : decode cX5_change 129 = .ok (.iinc 3 1, 3) := by decide +kernel
theorem dX5_change_132 : decode cX5_change 132 = .ok (.goto (-111), 3) := by decide +kernel
theorem dX5_change_135 : decode cX5_change 135 = .ok (.iload_n 2, 1) := by decide +kernel
theorem dX5_change_136 : decode cX5_change 136 = .ok (.ireturn, 1) := by decide +kernel
theorem dX5_flood_0 : decode cX5_flood 0 = .ok (.aload_n 0, 1) := by decide +kernel
theorem dX5_flood_1 : decode cX5_flood 1 = .ok (.invokevirtual 207, 3) := by decide +kernel
theorem dX5_flood_4 : decode cX5_flood 4 = .ok (.ifCond .ne 6, 3) := by decide +kernel
theorem dX5_flood_7 : decode cX5_flood 7 = .ok (.bipush (-9), 2) := by decide +kernel
theorem dX5_flood_9 : decode cX5_flood 9 = .ok (.ireturn, 1) := by decide +kernel
theorem dX5_flood_10 : decode cX5_flood 10 = .ok (.iconst 0, 1) := by decide +kernel
theorem dX5_flood_11 : decode cX5_flood 11 = .ok (.istore_n 1, 1) := by decide +kernel
theorem dX5_flood_12 : decode cX5_flood 12 = .ok (.iconst 1, 1) := by decide +kernel
theorem dX5_flood_13 : decode cX5_flood 13 = .ok (.istore_n 2, 1) := by decide +kernel
theorem dX5_flood_14 : decode cX5_flood 14 = .ok (.iload_n 2, 1) := by decide +kernel
theorem dX5_flood_15 : decode cX5_flood 15 = .ok (.ifCond .eq 56, 3) := by decide +kernel
theorem dX5_flood_18 : decode cX5_flood 18 = .ok (.iload_n 1, 1) := by decide +kernel
theorem dX5_flood_19 : decode cX5_flood 19 = .ok (.bipush 10, 2) := by decide +kernel
theorem dX5_flood_21 : decode cX5_flood 21 = .ok (.if_icmp .ge 50, 3) := by decide +kernel
theorem dX5_flood_24 : decode cX5_flood 24 = .ok (.iconst 0, 1) := by decide +kernel
theorem dX5_flood_25 : decode cX5_flood 25 = .ok (.istore_n 3, 1) := by decide +kernel
theorem dX5_flood_26 : decode cX5_flood 26 = .ok (.iload_n 3, 1) := by decide +kernel
theorem dX5_flood_27 : decode cX5_flood 27 = .ok (.aload_n 0, 1) := by decide +kernel
theorem dX5_flood_28 : decode cX5_flood 28 = .ok (.getfield 46, 3) := by decide +kernel
theorem dX5_flood_31 : decode cX5_flood 31 = .ok (.if_icmp .ge 34, 3) := by decide +kernel
theorem dX5_flood_34 : decode cX5_flood 34 = .ok (.iload_n 2, 1) := by decide +kernel
theorem dX5_flood_35 : decode cX5_flood 35 = .ok (.ifCond .eq 22, 3) := by decide +kernel
theorem dX5_flood_38 : decode cX5_flood 38 = .ok (.aload_n 0, 1) := by decide +kernel
theorem dX5_flood_39 : decode cX5_flood 39 = .ok (.iload_n 3, 1) := by decide +kernel
theorem dX5_flood_40 : decode cX5_flood 40 = .ok (.aload_n 0, 1) := by decide +kernel
theorem dX5_flood_41 : decode cX5_flood 41 = .ok (.getfield 19, 3) := by decide +kernel
theorem dX5_flood_44 : decode cX5_flood 44 = .ok (.iload_n 3, 1) := by decide +kernel
theorem dX5_flood_45 : decode cX5_flood 45 = .ok (.iaload, 1) := by decide +kernel
theorem dX5_flood_46 : decode cX5_flood 46 = .ok (.iload_n 1, 1) := by decide +kernel
theorem dX5_flood_47 : decode cX5_flood 47 = .ok (.invokevirtual 189, 3) := by decide +kernel
theorem dX5_flood_50 : decode cX5_flood 50 = .ok (.ifCond .eq 7, 3) := by decide +kernel
theorem dX5_flood_53 : decode cX5_flood 53 = .ok (.iconst 1, 1) := by decide +kernel
theorem dX5_flood_54 : decode cX5_flood 54 = .ok (.goto 4, 3) := by decide +kernel
theorem dX5_flood_57 : decode cX5_flood 57 = .ok (.iconst 0, 1) := by decide +kernel
theorem dX5_flood_58 : decode cX5_flood 58 = .ok (.istore_n 2, 1) := by decide +kernel
theorem dX5_flood_59 : decode cX5_flood 59 = .ok (.iinc 3 1, 3) := by decide +kernel
theorem dX5_flood_62 : decode cX5_flood 62 = .ok (.goto (-36), 3) := by decide +kernel
theorem dX5_flood_65 : decode cX5_flood 65 = .ok (.iinc 1 1, 3) := by decide +kernel
theorem dX5_flood_68 : decode cX5_flood 68 = .ok (.goto (-54), 3) := by decide +kernel
theorem dX5_flood_71 : decode cX5_flood 71 = .ok (.iload_n 2, 1) := by decide +kernel
theorem dX5_flood_72 : decode cX5_flood 72 = .ok (.ifCond .eq 8, 3) := by decide +kernel
theorem dX5_flood_75 : decode cX5_flood 75 = .ok (.bipush 9, 2) := by decide +kernel
theorem dX5_flood_77 : decode cX5_flood 77 = .ok (.goto 6, 3) := by decide +kernel
theorem dX5_flood_80 : decode cX5_flood 80 = .ok (.iload_n 1, 1) := by decide +kernel
theorem dX5_flood_81 : decode cX5_flood 81 = .ok (.iconst 2, 1) := by decide +kernel
theorem dX5_flood_82 : decode cX5_flood 82 = .ok (.isub, 1) := by decide +kernel
theorem dX5_flood_83 : decode cX5_flood 83 = .ok (.ireturn, 1) := by decide +kernel
theorem dX5_overs_0 : decode cX5_overs 0 = .ok (.aload_n 0, 1) := by decide +kernel
theorem dX5_overs_1 : decode cX5_overs 1 = .ok (.invokevirtual 207, 3) := by decide +kernel
theorem dX5_overs_4 : decode cX5_overs 4 = .ok (.ifCond .eq 27, 3) := by decide +kernel
theorem dX5_overs_7 : decode cX5_overs 7 = .ok (.aload_n 0, 1) := by decide +kernel
theorem dX5_overs_8 : decode cX5_overs 8 = .ok (.invokevirtual 210, 3) := by decide +kernel
theorem dX5_overs_11 : decode cX5_overs 11 = .ok (.aload_n 0, 1) := by decide +kernel
theorem dX5_overs_12 : decode cX5_overs 12 = .ok (.getfield 78, 3) := by decide +kernel
theorem dX5_overs_15 : decode cX5_overs 15 = .ok (.aload_n 0, 1) := by decide +kernel
theorem dX5_overs_16 : decode cX5_overs 16 = .ok (.invokevirtual 179, 3) := by decide +kernel
theorem dX5_overs_19 : decode cX5_overs 19 = .ok (.isub, 1) := by decide +kernel
theorem dX5_overs_20 : decode cX5_overs 20 = .ok (.aload_n 0, 1) := by decide +kernel
theorem dX5_overs_21 : decode cX5_overs 21 = .ok (.getfield 46, 3) := by decide +kernel
theorem dX5_overs_24 : decode cX5_overs 24 = .ok (.isub, 1) := by decide +kernel
theorem dX5_overs_25 : decode cX5_overs 25 = .ok (.invokestatic 182, 3) := by decide +kernel
theorem dX5_overs_28 : decode cX5_overs 28 = .ok (.goto 4, 3) := by decide +kernel
theorem dX5_overs_31 : decode cX5_overs 31 = .ok (.iconst 0, 1) := by decide +kernel
theorem dX5_overs_32 : decode cX5_overs 32 = .ok (.ireturn, 1) := by decide +kernel
theorem dX5_owes_0 : decode cX5_owes 0 = .ok (.aload_n 0, 1) := by decide +kernel
theorem dX5_owes_1 : decode cX5_owes 1 = .ok (.iload_n 1, 1) := by decide +kernel
theorem dX5_owes_2 : decode cX5_owes 2 = .ok (.iload_n 2, 1) := by decide +kernel
theorem dX5_owes_3 : decode cX5_owes 3 = .ok (.invokevirtual 129, 3) := by decide +kernel
theorem dX5_owes_6 : decode cX5_owes 6 = .ok (.ifCond .eq 17, 3) := by decide +kernel
theorem dX5_owes_9 : decode cX5_owes 9 = .ok (.aload_n 0, 1) := by decide +kernel
theorem dX5_owes_10 : decode cX5_owes 10 = .ok (.getfield 43, 3) := by decide +kernel
theorem dX5_owes_13 : decode cX5_owes 13 = .ok (.bipush 7, 2) := by decide +kernel
theorem dX5_owes_15 : decode cX5_owes 15 = .ok (.iload_n 1, 1) := by decide +kernel
theorem dX5_owes_16 : decode cX5_owes 16 = .ok (.imul, 1) := by decide +kernel
theorem dX5_owes_17 : decode cX5_owes 17 = .ok (.iload_n 2, 1) := by decide +kernel
theorem dX5_owes_18 : decode cX5_owes 18 = .ok (.iadd, 1) := by decide +kernel
theorem dX5_owes_19 : decode cX5_owes 19 = .ok (.iaload, 1) := by decide +kernel
theorem dX5_owes_20 : decode cX5_owes 20 = .ok (.goto 8, 3) := by decide +kernel
theorem dX5_owes_23 : decode cX5_owes 23 = .ok (.aload_n 0, 1) := by decide +kernel
theorem dX5_owes_24 : decode cX5_owes 24 = .ok (.iconst (-1), 1) := by decide +kernel
theorem dX5_owes_25 : decode cX5_owes 25 = .ok (.invokevirtual 92, 3) := by decide +kernel
theorem dX5_owes_28 : decode cX5_owes 28 = .ok (.ireturn, 1) := by decide +kernel
theorem dX5_owed_0 : decode cX5_owed 0 = .ok (.aload_n 0, 1) := by decide +kernel
theorem dX5_owed_1 : decode cX5_owed 1 = .ok (.iload_n 1, 1) := by decide +kernel
theorem dX5_owed_2 : decode cX5_owed 2 = .ok (.invokevirtual 81, 3) := by decide +kernel
theorem dX5_owed_5 : decode cX5_owed 5 = .ok (.ifCond .ne 9, 3) := by decide +kernel
theorem dX5_owed_8 : decode cX5_owed 8 = .ok (.aload_n 0, 1) := by decide +kernel
theorem dX5_owed_9 : decode cX5_owed 9 = .ok (.iconst (-1), 1) := by decide +kernel
theorem dX5_owed_10 : decode cX5_owed 10 = .ok (.invokevirtual 240, 3) := by decide +kernel
theorem dX5_owed_13 : decode cX5_owed 13 = .ok (.ireturn, 1) := by decide +kernel
theorem dX5_owed_14 : decode cX5_owed 14 = .ok (.iconst 0, 1) := by decide +kernel
theorem dX5_owed_15 : decode cX5_owed 15 = .ok (.istore_n 2, 1) := by decide +kernel
theorem dX5_owed_16 : decode cX5_owed 16 = .ok (.iconst 0, 1) := by decide +kernel
theorem dX5_owed_17 : decode cX5_owed 17 = .ok (.istore_n 3, 1) := by decide +kernel
theorem dX5_owed_18 : decode cX5_owed 18 = .ok (.iload_n 3, 1) := by decide +kernel
theorem dX5_owed_19 : decode cX5_owed 19 = .ok (.aload_n 0, 1) := by decide +kernel
theorem dX5_owed_20 : decode cX5_owed 20 = .ok (.getfield 78, 3) := by decide +kernel
theorem dX5_owed_23 : decode cX5_owed 23 = .ok (.if_icmp .ge 35, 3) := by decide +kernel
theorem dX5_owed_26 : decode cX5_owed 26 = .ok (.iload_n 2, 1) := by decide +kernel
theorem dX5_owed_27 : decode cX5_owed 27 = .ok (.aload_n 0, 1) := by decide +kernel
theorem dX5_owed_28 : decode cX5_owed 28 = .ok (.getfield 43, 3) := by decide +kernel
theorem dX5_owed_31 : decode cX5_owed 31 = .ok (.bipush 7, 2) := by decide +kernel
theorem dX5_owed_33 : decode cX5_owed 33 = .ok (.iload_n 3, 1) := by decide +kernel
theorem dX5_owed_34 : decode cX5_owed 34 = .ok (.imul, 1) := by decide +kernel
theorem dX5_owed_35 : decode cX5_owed 35 = .ok (.iload_n 1, 1) := by decide +kernel
theorem dX5_owed_36 : decode cX5_owed 36 = .ok (.iadd, 1) := by decide +kernel
theorem dX5_owed_37 : decode cX5_owed 37 = .ok (.iaload, 1) := by decide +kernel
theorem dX5_owed_38 : decode cX5_owed 38 = .ok (.aload_n 0, 1) := by decide +kernel
theorem dX5_owed_39 : decode cX5_owed 39 = .ok (.getfield 43, 3) := by decide +kernel
theorem dX5_owed_42 : decode cX5_owed 42 = .ok (.bipush 7, 2) := by decide +kernel
theorem dX5_owed_44 : decode cX5_owed 44 = .ok (.iload_n 1, 1) := by decide +kernel
theorem dX5_owed_45 : decode cX5_owed 45 = .ok (.imul, 1) := by decide +kernel
theorem dX5_owed_46 : decode cX5_owed 46 = .ok (.iload_n 3, 1) := by decide +kernel
theorem dX5_owed_47 : decode cX5_owed 47 = .ok (.iadd, 1) := by decide +kernel
theorem dX5_owed_48 : decode cX5_owed 48 = .ok (.iaload, 1) := by decide +kernel
theorem dX5_owed_49 : decode cX5_owed 49 = .ok (.isub, 1) := by decide +kernel
theorem dX5_owed_50 : decode cX5_owed 50 = .ok (.iadd, 1) := by decide +kernel
theorem dX5_owed_51 : decode cX5_owed 51 = .ok (.istore_n 2, 1) := by decide +kernel
theorem dX5_owed_52 : decode cX5_owed 52 = .ok (.iinc 3 1, 3) := by decide +kernel
theorem dX5_owed_55 : decode cX5_owed 55 = .ok (.goto (-37), 3) := by decide +kernel
theorem dX5_owed_58 : decode cX5_owed 58 = .ok (.iload_n 2, 1) := by decide +kernel
theorem dX5_owed_59 : decode cX5_owed 59 = .ok (.ireturn, 1) := by decide +kernel
theorem dX5_doesOwe_0 : decode cX5_doesOwe 0 = .ok (.aload_n 0, 1) := by decide +kernel
theorem dX5_doesOwe_1 : decode cX5_doesOwe 1 = .ok (.getfield 43, 3) := by decide +kernel
theorem dX5_doesOwe_4 : decode cX5_doesOwe 4 = .ok (.bipush 7, 2) := by decide +kernel
theorem dX5_doesOwe_6 : decode cX5_doesOwe 6 = .ok (.iload_n 1, 1) := by decide +kernel
theorem dX5_doesOwe_7 : decode cX5_doesOwe 7 = .ok (.imul, 1) := by decide +kernel
theorem dX5_doesOwe_8 : decode cX5_doesOwe 8 = .ok (.iload_n 2, 1) := by decide +kernel
theorem dX5_doesOwe_9 : decode cX5_doesOwe 9 = .ok (.iadd, 1) := by decide +kernel
theorem dX5_doesOwe_10 : decode cX5_doesOwe 10 = .ok (.iaload, 1) := by decide +kernel
theorem dX5_doesOwe_11 : decode cX5_doesOwe 11 = .ok (.ifCond .le 7, 3) := by decide +kernel
theorem dX5_doesOwe_14 : decode cX5_doesOwe 14 = .ok (.iconst 1, 1) := by decide +kernel
theorem dX5_doesOwe_15 : decode cX5_doesOwe 15 = .ok (.goto 4, 3) := by decide +kernel
theorem dX5_doesOwe_18 : decode cX5_doesOwe 18 = .ok (.iconst 0, 1) := by decide +kernel
theorem dX5_doesOwe_19 : decode cX5_doesOwe 19 = .ok (.ireturn, 1) := by decide +kernel
theorem dX5_strikesTwo_0 : decode cX5_strikesTwo 0 = .ok (.iconst 0, 1) := by decide +kernel
theorem dX5_strikesTwo_1 : decode cX5_strikesTwo 1 = .ok (.istore_n 1, 1) := by decide +kernel
theorem dX5_strikesTwo_2 : decode cX5_strikesTwo 2 = .ok (.iload_n 1, 1) := by decide +kernel
theorem dX5_strikesTwo_3 : decode cX5_strikesTwo 3 = .ok (.aload_n 0, 1) := by decide +kernel
theorem dX5_strikesTwo_4 : decode cX5_strikesTwo 4 = .ok (.getfield 78, 3) := by decide +kernel
theorem dX5_strikesTwo_7 : decode cX5_strikesTwo 7 = .ok (.if_icmp .ge 106, 3) := by decide +kernel
theorem dX5_strikesTwo_10 : decode cX5_strikesTwo 10 = .ok (.iload_n 1, 1) := by decide +kernel
theorem dX5_strikesTwo_11 : decode cX5_strikesTwo 11 = .ok (.iconst 1, 1) := by decide +kernel
theorem dX5_strikesTwo_12 : decode cX5_strikesTwo 12 = .ok (.iadd, 1) := by decide +kernel
theorem dX5_strikesTwo_13 : decode cX5_strikesTwo 13 = .ok (.istore_n 2, 1) := by decide +kernel
theorem dX5_strikesTwo_14 : decode cX5_strikesTwo 14 = .ok (.iload_n 2, 1) := by decide +kernel
theorem dX5_strikesTwo_15 : decode cX5_strikesTwo 15 = .ok (.aload_n 0, 1) := by decide +kernel
theorem dX5_strikesTwo_16 : decode cX5_strikesTwo 16 = .ok (.getfield 78, 3) := by decide +kernel
theorem dX5_strikesTwo_19 : decode cX5_strikesTwo 19 = .ok (.if_icmp .ge 88, 3) := by decide +kernel
theorem dX5_strikesTwo_22 : decode cX5_strikesTwo 22 = .ok (.aload_n 0, 1) := by decide +kernel
theorem dX5_strikesTwo_23 : decode cX5_strikesTwo 23 = .ok (.iload_n 1, 1) := by decide +kernel
theorem dX5_strikesTwo_24 : decode cX5_strikesTwo 24 = .ok (.iload_n 2, 1) := by decide +kernel
theorem dX5_strikesTwo_25 : decode cX5_strikesTwo 25 = .ok (.invokevirtual 243, 3) := by decide +kernel
theorem dX5_strikesTwo_28 : decode cX5_strikesTwo 28 = .ok (.ifCond .eq 73, 3) := by decide +kernel
theorem dX5_strikesTwo_31 : decode cX5_strikesTwo 31 = .ok (.aload_n 0, 1) := by decide +kernel
theorem dX5_strikesTwo_32 : decode cX5_strikesTwo 32 = .ok (.iload_n 2, 1) := by decide +kernel
theorem dX5_strikesTwo_33 : decode cX5_strikesTwo 33 = .ok (.iload_n 1, 1) := by decide +kernel
theorem dX5_strikesTwo_34 : decode cX5_strikesTwo 34 = .ok (.invokevirtual 243, 3) := by decide +kernel
theorem dX5_strikesTwo_37 : decode cX5_strikesTwo 37 = .ok (.ifCond .ne 6, 3) := by decide +kernel
theorem dX5_strikesTwo_40 : decode cX5_strikesTwo 40 = .ok (.goto 61, 3) := by decide +kernel
theorem dX5_strikesTwo_43 : decode cX5_strikesTwo 43 = .ok (.aload_n 0, 1) := by decide +kernel
theorem dX5_strikesTwo_44 : decode cX5_strikesTwo 44 = .ok (.getfield 43, 3) := by decide +kernel
theorem dX5_strikesTwo_47 : decode cX5_strikesTwo 47 = .ok (.bipush 7, 2) := by decide +kernel
theorem dX5_strikesTwo_49 : decode cX5_strikesTwo 49 = .ok (.iload_n 1, 1) := by decide +kernel
theorem dX5_strikesTwo_50 : decode cX5_strikesTwo 50 = .ok (.imul, 1) := by decide +kernel
theorem dX5_strikesTwo_51 : decode cX5_strikesTwo 51 = .ok (.iload_n 2, 1) := by decide +kernel
theorem dX5_strikesTwo_52 : decode cX5_strikesTwo 52 = .ok (.iadd, 1) := by decide +kernel
theorem dX5_strikesTwo_53 : decode cX5_strikesTwo 53 = .ok (.iaload, 1) := by decide +kernel
theorem dX5_strikesTwo_54 : decode cX5_strikesTwo 54 = .ok (.aload_n 0, 1) := by decide +kernel
theorem dX5_strikesTwo_55 : decode cX5_strikesTwo 55 = .ok (.getfield 43, 3) := by decide +kernel
theorem dX5_strikesTwo_58 : decode cX5_strikesTwo 58 = .ok (.bipush 7, 2) := by decide +kernel
theorem dX5_strikesTwo_60 : decode cX5_strikesTwo 60 = .ok (.iload_n 2, 1) := by decide +kernel
theorem dX5_strikesTwo_61 : decode cX5_strikesTwo 61 = .ok (.imul, 1) := by decide +kernel
theorem dX5_strikesTwo_62 : decode cX5_strikesTwo 62 = .ok (.iload_n 1, 1) := by decide +kernel
theorem dX5_strikesTwo_63 : decode cX5_strikesTwo 63 = .ok (.iadd, 1) := by decide +kernel
theorem dX5_strikesTwo_64 : decode cX5_strikesTwo 64 = .ok (.iaload, 1) := by decide +kernel
theorem dX5_strikesTwo_65 : decode cX5_strikesTwo 65 = .ok (.invokestatic 182, 3) := by decide +kernel
theorem dX5_strikesTwo_68 : decode cX5_strikesTwo 68 = .ok (.istore_n 3, 1) := by decide +kernel
theorem dX5_strikesTwo_69 : decode cX5_strikesTwo 69 = .ok (.aload_n 0, 1) := by decide +kernel
theorem dX5_strikesTwo_70 : decode cX5_strikesTwo 70 = .ok (.getfield 43, 3) := by decide +kernel
theorem dX5_strikesTwo_73 : decode cX5_strikesTwo 73 = .ok (.bipush 7, 2) := by decide +kernel
theorem dX5_strikesTwo_75 : decode cX5_strikesTwo 75 = .ok (.iload_n 1, 1) := by decide +kernel
theorem dX5_strikesTwo_76 : decode cX5_strikesTwo 76 = .ok (.imul, 1) := by decide +kernel
theorem dX5_strikesTwo_77 : decode cX5_strikesTwo 77 = .ok (.iload_n 2, 1) := by decide +kernel
theorem dX5_strikesTwo_78 : decode cX5_strikesTwo 78 = .ok (.iadd, 1) := by decide +kernel
theorem dX5_strikesTwo_79 : decode cX5_strikesTwo 79 = .ok (.dup2, 1) := by decide +kernel
theorem dX5_strikesTwo_80 : decode cX5_strikesTwo 80 = .ok (.iaload, 1) := by decide +kernel
theorem dX5_strikesTwo_81 : decode cX5_strikesTwo 81 = .ok (.iload_n 3, 1) := by decide +kernel
theorem dX5_strikesTwo_82 : decode cX5_strikesTwo 82 = .ok (.isub, 1) := by decide +kernel
theorem dX5_strikesTwo_83 : decode cX5_strikesTwo 83 = .ok (.iastore, 1) := by decide +kernel
theorem dX5_strikesTwo_84 : decode cX5_strikesTwo 84 = .ok (.aload_n 0, 1) := by decide +kernel
theorem dX5_strikesTwo_85 : decode cX5_strikesTwo 85 = .ok (.getfield 43, 3) := by decide +kernel
theorem dX5_strikesTwo_88 : decode cX5_strikesTwo 88 = .ok (.bipush 7, 2) := by decide +kernel
theorem dX5_strikesTwo_90 : decode cX5_strikesTwo 90 = .ok (.iload_n 2, 1) := by decide +kernel
theorem dX5_strikesTwo_91 : decode cX5_strikesTwo 91 = .ok (.imul, 1) := by decide +kernel
theorem dX5_strikesTwo_92 : decode cX5_strikesTwo 92 = .ok (.iload_n 1, 1) := by decide +kernel
theorem dX5_strikesTwo_93 : decode cX5_strikesTwo 93 = .ok (.iadd, 1) := by decide +kernel
theorem dX5_strikesTwo_94 : decode cX5_strikesTwo 94 = .ok (.dup2, 1) := by decide +kernel
theorem dX5_strikesTwo_95 : decode cX5_strikesTwo 95 = .ok (.iaload, 1) := by decide +kernel
theorem dX5_strikesTwo_96 : decode cX5_strikesTwo 96 = .ok (.iload_n 3, 1) := by decide +kernel
theorem dX5_strikesTwo_97 : decode cX5_strikesTwo 97 = .ok (.isub, 1) := by decide +kernel
theorem dX5_strikesTwo_98 : decode cX5_strikesTwo 98 = .ok (.iastore, 1) := by decide +kernel
theorem dX5_strikesTwo_99 : decode cX5_strikesTwo 99 = .ok (.iconst 1, 1) := by decide +kernel
theorem dX5_strikesTwo_100 : decode cX5_strikesTwo 100 = .ok (.ireturn, 1) := by decide +kernel
theorem dX5_strikesTwo_101 : decode cX5_strikesTwo 101 = .ok (.iinc 2 1, 3) := by decide +kernel
theorem dX5_strikesTwo_104 : decode cX5_strikesTwo 104 = .ok (.goto (-90), 3) := by decide +kernel
theorem dX5_strikesTwo_107 : decode cX5_strikesTwo 107 = .ok (.iinc 1 1, 3) := by decide +kernel
theorem dX5_strikesTwo_110 : decode cX5_strikesTwo 110 = .ok (.goto (-108), 3) := by decide +kernel
theorem dX5_strikesTwo_113 : decode cX5_strikesTwo 113 = .ok (.iconst 0, 1) := by decide +kernel
theorem dX5_strikesTwo_114 : decode cX5_strikesTwo 114 = .ok (.ireturn, 1) := by decide +kernel
theorem dX5_strikesThree_0 : decode cX5_strikesThree 0 = .ok (.iconst 0, 1) := by decide +kernel
theorem dX5_strikesThree_1 : decode cX5_strikesThree 1 = .ok (.istore_n 1, 1) := by decide +kernel
theorem dX5_strikesThree_2 : decode cX5_strikesThree 2 = .ok (.iload_n 1, 1) := by decide +kernel
theorem dX5_strikesThree_3 : decode cX5_strikesThree 3 = .ok (.sipush 343, 3) := by decide +kernel
theorem dX5_strikesThree_6 : decode cX5_strikesThree 6 = .ok (.if_icmp .ge 172, 3) := by decide +kernel
theorem dX5_strikesThree_9 : decode cX5_strikesThree 9 = .ok (.iload_n 1, 1) := by decide +kernel
theorem dX5_strikesThree_10 : decode cX5_strikesThree 10 = .ok (.bipush 49, 2) := by decide +kernel
theorem dX5_strikesThree_12 : decode cX5_strikesThree 12 = .ok (.idiv, 1) := by decide +kernel
theorem dX5_strikesThree_13 : decode cX5_strikesThree 13 = .ok (.istore_n 2, 1) := by decide +kernel
theorem dX5_strikesThree_14 : decode cX5_strikesThree 14 = .ok (.iload_n 1, 1) := by decide +kernel
theorem dX5_strikesThree_15 : decode cX5_strikesThree 15 = .ok (.bipush 7, 2) := by decide +kernel
theorem dX5_strikesThree_17 : decode cX5_strikesThree 17 = .ok (.idiv, 1) := by decide +kernel
theorem dX5_strikesThree_18 : decode cX5_strikesThree 18 = .ok (.bipush 7, 2) := by decide +kernel
theorem dX5_strikesThree_20 : decode cX5_strikesThree 20 = .ok (.irem, 1) := by decide +kernel
theorem dX5_strikesThree_21 : decode cX5_strikesThree 21 = .ok (.istore_n 3, 1) := by decide +kernel
theorem dX5_strikesThree_22 : decode cX5_strikesThree 22 = .ok (.iload_n 1, 1) := by decide +kernel
theorem dX5_strikesThree_23 : decode cX5_strikesThree 23 = .ok (.bipush 7, 2) := by decide +kernel
theorem dX5_strikesThree_25 : decode cX5_strikesThree 25 = .ok (.irem, 1) := by decide +kernel
theorem dX5_strikesThree_26 : decode cX5_strikesThree 26 = .ok (.istore 4, 2) := by decide +kernel
theorem dX5_strikesThree_28 : decode cX5_strikesThree 28 = .ok (.iload_n 3, 1) := by decide +kernel
theorem dX5_strikesThree_29 : decode cX5_strikesThree 29 = .ok (.iload_n 2, 1) := by decide +kernel
theorem dX5_strikesThree_30 : decode cX5_strikesThree 30 = .ok (.if_icmp .le 142, 3) := by decide +kernel
theorem dX5_strikesThree_33 : decode cX5_strikesThree 33 = .ok (.iload 4, 2) := by decide +kernel
theorem dX5_strikesThree_35 : decode cX5_strikesThree 35 = .ok (.iload_n 2, 1) := by decide +kernel
theorem dX5_strikesThree_36 : decode cX5_strikesThree 36 = .ok (.if_icmp .le 136, 3) := by decide +kernel
theorem dX5_strikesThree_39 : decode cX5_strikesThree 39 = .ok (.iload_n 3, 1) := by decide +kernel
theorem dX5_strikesThree_40 : decode cX5_strikesThree 40 = .ok (.iload 4, 2) := by decide +kernel
theorem dX5_strikesThree_42 : decode cX5_strikesThree 42 = .ok (.if_icmp .eq 130, 3) := by decide +kernel
theorem dX5_strikesThree_45 : decode cX5_strikesThree 45 = .ok (.aload_n 0, 1) := by decide +kernel
theorem dX5_strikesThree_46 : decode cX5_strikesThree 46 = .ok (.iload_n 2, 1) := by decide +kernel
theorem dX5_strikesThree_47 : decode cX5_strikesThree 47 = .ok (.iload_n 3, 1) := by decide +kernel
theorem dX5_strikesThree_48 : decode cX5_strikesThree 48 = .ok (.invokevirtual 243, 3) := by decide +kernel
theorem dX5_strikesThree_51 : decode cX5_strikesThree 51 = .ok (.ifCond .eq 121, 3) := by decide +kernel
theorem dX5_strikesThree_54 : decode cX5_strikesThree 54 = .ok (.aload_n 0, 1) := by decide +kernel
theorem dX5_strikesThree_55 : decode cX5_strikesThree 55 = .ok (.iload_n 3, 1) := by decide +kernel
theorem dX5_strikesThree_56 : decode cX5_strikesThree 56 = .ok (.iload 4, 2) := by decide +kernel
theorem dX5_strikesThree_58 : decode cX5_strikesThree 58 = .ok (.invokevirtual 243, 3) := by decide +kernel
theorem dX5_strikesThree_61 : decode cX5_strikesThree 61 = .ok (.ifCond .eq 111, 3) := by decide +kernel
theorem dX5_strikesThree_64 : decode cX5_strikesThree 64 = .ok (.aload_n 0, 1) := by decide +kernel
theorem dX5_strikesThree_65 : decode cX5_strikesThree 65 = .ok (.iload 4, 2) := by decide +kernel
theorem dX5_strikesThree_67 : decode cX5_strikesThree 67 = .ok (.iload_n 2, 1) := by decide +kernel
theorem dX5_strikesThree_68 : decode cX5_strikesThree 68 = .ok (.invokevirtual 243, 3) := by decide +kernel
theorem dX5_strikesThree_71 : decode cX5_strikesThree 71 = .ok (.ifCond .ne 6, 3) := by decide +kernel
theorem dX5_strikesThree_74 : decode cX5_strikesThree 74 = .ok (.goto 98, 3) := by decide +kernel
theorem dX5_strikesThree_77 : decode cX5_strikesThree 77 = .ok (.aload_n 0, 1) := by decide +kernel
theorem dX5_strikesThree_78 : decode cX5_strikesThree 78 = .ok (.getfield 43, 3) := by decide +kernel
theorem dX5_strikesThree_81 : decode cX5_strikesThree 81 = .ok (.bipush 7, 2) := by decide +kernel
theorem dX5_strikesThree_83 : decode cX5_strikesThree 83 = .ok (.iload_n 2, 1) := by decide +kernel
theorem dX5_strikesThree_84 : decode cX5_strikesThree 84 = .ok (.imul, 1) := by decide +kernel
theorem dX5_strikesThree_85 : decode cX5_strikesThree 85 = .ok (.iload_n 3, 1) := by decide +kernel
theorem dX5_strikesThree_86 : decode cX5_strikesThree 86 = .ok (.iadd, 1) := by decide +kernel
theorem dX5_strikesThree_87 : decode cX5_strikesThree 87 = .ok (.iaload, 1) := by decide +kernel
theorem dX5_strikesThree_88 : decode cX5_strikesThree 88 = .ok (.aload_n 0, 1) := by decide +kernel
theorem dX5_strikesThree_89 : decode cX5_strikesThree 89 = .ok (.getfield 43, 3) := by decide +kernel
theorem dX5_strikesThree_92 : decode cX5_strikesThree 92 = .ok (.bipush 7, 2) := by decide +kernel
theorem dX5_strikesThree_94 : decode cX5_strikesThree 94 = .ok (.iload_n 3, 1) := by decide +kernel
theorem dX5_strikesThree_95 : decode cX5_strikesThree 95 = .ok (.imul, 1) := by decide +kernel
theorem dX5_strikesThree_96 : decode cX5_strikesThree 96 = .ok (.iload 4, 2) := by decide +kernel
theorem dX5_strikesThree_98 : decode cX5_strikesThree 98 = .ok (.iadd, 1) := by decide +kernel
theorem dX5_strikesThree_99 : decode cX5_strikesThree 99 = .ok (.iaload, 1) := by decide +kernel
theorem dX5_strikesThree_100 : decode cX5_strikesThree 100 = .ok (.aload_n 0, 1) := by decide +kernel
theorem dX5_strikesThree_101 : decode cX5_strikesThree 101 = .ok (.getfield 43, 3) := by decide +kernel
theorem dX5_strikesThree_104 : decode cX5_strikesThree 104 = .ok (.bipush 7, 2) := by decide +kernel
theorem dX5_strikesThree_106 : decode cX5_strikesThree 106 = .ok (.iload 4, 2) := by decide +kernel
theorem dX5_strikesThree_108 : decode cX5_strikesThree 108 = .ok (.imul, 1) := by decide +kernel
theorem dX5_strikesThree_109 : decode cX5_strikesThree 109 = .ok (.iload_n 2, 1) := by decide +kernel
theorem dX5_strikesThree_110 : decode cX5_strikesThree 110 = .ok (.iadd, 1) := by decide +kernel
theorem dX5_strikesThree_111 : decode cX5_strikesThree 111 = .ok (.iaload, 1) := by decide +kernel
theorem dX5_strikesThree_112 : decode cX5_strikesThree 112 = .ok (.invokestatic 182, 3) := by decide +kernel
theorem dX5_strikesThree_115 : decode cX5_strikesThree 115 = .ok (.invokestatic 182, 3) := by decide +kernel
theorem dX5_strikesThree_118 : decode cX5_strikesThree 118 = .ok (.istore 5, 2) := by decide +kernel
theorem dX5_strikesThree_120 : decode cX5_strikesThree 120 = .ok (.aload_n 0, 1) := by decide +kernel
theorem dX5_strikesThree_121 : decode cX5_strikesThree 121 = .ok (.getfield 43, 3) := by decide +kernel
theorem dX5_strikesThree_124 : decode cX5_strikesThree 124 = .ok (.bipush 7, 2) := by decide +kernel
theorem dX5_strikesThree_126 : decode cX5_strikesThree 126 = .ok (.iload_n 2, 1) := by decide +kernel
theorem dX5_strikesThree_127 : decode cX5_strikesThree 127 = .ok (.imul, 1) := by decide +kernel
theorem dX5_strikesThree_128 : decode cX5_strikesThree 128 = .ok (.iload_n 3, 1) := by decide +kernel
theorem dX5_strikesThree_129 : decode cX5_strikesThree 129 = .ok (.iadd, 1) := by decide +kernel
theorem dX5_strikesThree_130 : decode cX5_strikesThree 130 = .ok (.dup2, 1) := by decide +kernel
theorem dX5_strikesThree_131 : decode cX5_strikesThree 131 = .ok (.iaload, 1) := by decide +kernel
theorem dX5_strikesThree_132 : decode cX5_strikesThree 132 = .ok (.iload 5, 2) := by decide +kernel
theorem dX5_strikesThree_134 : decode cX5_strikesThree 134 = .ok (.isub, 1) := by decide +kernel
theorem dX5_strikesThree_135 : decode cX5_strikesThree 135 = .ok (.iastore, 1) := by decide +kernel
theorem dX5_strikesThree_136 : decode cX5_strikesThree 136 = .ok (.aload_n 0, 1) := by decide +kernel
theorem dX5_strikesThree_137 : decode cX5_strikesThree 137 = .ok (.getfield 43, 3) := by decide +kernel
theorem dX5_strikesThree_140 : decode cX5_strikesThree 140 = .ok (.bipush 7, 2) := by decide +kernel
theorem dX5_strikesThree_142 : decode cX5_strikesThree 142 = .ok (.iload_n 3, 1) := by decide +kernel
theorem dX5_strikesThree_143 : decode cX5_strikesThree 143 = .ok (.imul, 1) := by decide +kernel
theorem dX5_strikesThree_144 : decode cX5_strikesThree 144 = .ok (.iload 4, 2) := by decide +kernel
theorem dX5_strikesThree_146 : decode cX5_strikesThree 146 = .ok (.iadd, 1) := by decide +kernel
theorem dX5_strikesThree_147 : decode cX5_strikesThree 147 = .ok (.dup2, 1) := by decide +kernel
theorem dX5_strikesThree_148 : decode cX5_strikesThree 148 = .ok (.iaload, 1) := by decide +kernel
theorem dX5_strikesThree_149 : decode cX5_strikesThree 149 = .ok (.iload 5, 2) := by decide +kernel
theorem dX5_strikesThree_151 : decode cX5_strikesThree 151 = .ok (.isub, 1) := by decide +kernel
theorem dX5_strikesThree_152 : decode cX5_strikesThree 152 = .ok (.iastore, 1) := by decide +kernel
theorem dX5_strikesThree_153 : decode cX5_strikesThree 153 = .ok (.aload_n 0, 1) := by decide +kernel
theorem dX5_strikesThree_154 : decode cX5_strikesThree 154 = .ok (.getfield 43, 3) := by decide +kernel
theorem dX5_strikesThree_157 : decode cX5_strikesThree 157 = .ok (.bipush 7, 2) := by decide +kernel
theorem dX5_strikesThree_159 : decode cX5_strikesThree 159 = .ok (.iload 4, 2) := by decide +kernel
theorem dX5_strikesThree_161 : decode cX5_strikesThree 161 = .ok (.imul, 1) := by decide +kernel
theorem dX5_strikesThree_162 : decode cX5_strikesThree 162 = .ok (.iload_n 2, 1) := by decide +kernel
theorem dX5_strikesThree_163 : decode cX5_strikesThree 163 = .ok (.iadd, 1) := by decide +kernel
theorem dX5_strikesThree_164 : decode cX5_strikesThree 164 = .ok (.dup2, 1) := by decide +kernel
theorem dX5_strikesThree_165 : decode cX5_strikesThree 165 = .ok (.iaload, 1) := by decide +kernel
theorem dX5_strikesThree_166 : decode cX5_strikesThree 166 = .ok (.iload 5, 2) := by decide +kernel
theorem dX5_strikesThree_168 : decode cX5_strikesThree 168 = .ok (.isub, 1) := by decide +kernel
theorem dX5_strikesThree_169 : decode cX5_strikesThree 169 = .ok (.iastore, 1) := by decide +kernel
theorem dX5_strikesThree_170 : decode cX5_strikesThree 170 = .ok (.iconst 1, 1) := by decide +kernel
theorem dX5_strikesThree_171 : decode cX5_strikesThree 171 = .ok (.ireturn, 1) := by decide +kernel
theorem dX5_strikesThree_172 : decode cX5_strikesThree 172 = .ok (.iinc 1 1, 3) := by decide +kernel
theorem dX5_strikesThree_175 : decode cX5_strikesThree 175 = .ok (.goto (-173), 3) := by decide +kernel
theorem dX5_strikesThree_178 : decode cX5_strikesThree 178 = .ok (.iconst 0, 1) := by decide +kernel
theorem dX5_strikesThree_179 : decode cX5_strikesThree 179 = .ok (.ireturn, 1) := by decide +kernel
theorem dX5_strike_0 : decode cX5_strike 0 = .ok (.iconst 0, 1) := by decide +kernel
theorem dX5_strike_1 : decode cX5_strike 1 = .ok (.istore_n 1, 1) := by decide +kernel
theorem dX5_strike_2 : decode cX5_strike 2 = .ok (.aload_n 0, 1) := by decide +kernel
theorem dX5_strike_3 : decode cX5_strike 3 = .ok (.invokevirtual 246, 3) := by decide +kernel
theorem dX5_strike_6 : decode cX5_strike 6 = .ok (.ifCond .ne 10, 3) := by decide +kernel
theorem dX5_strike_9 : decode cX5_strike 9 = .ok (.aload_n 0, 1) := by decide +kernel
theorem dX5_strike_10 : decode cX5_strike 10 = .ok (.invokevirtual 249, 3) := by decide +kernel
theorem dX5_strike_13 : decode cX5_strike 13 = .ok (.ifCond .eq 9, 3) := by decide +kernel
theorem dX5_strike_16 : decode cX5_strike 16 = .ok (.iinc 1 1, 3) := by decide +kernel
theorem dX5_strike_19 : decode cX5_strike 19 = .ok (.goto (-17), 3) := by decide +kernel
theorem dX5_strike_22 : decode cX5_strike 22 = .ok (.iload_n 1, 1) := by decide +kernel
theorem dX5_strike_23 : decode cX5_strike 23 = .ok (.ireturn, 1) := by decide +kernel
theorem dX5_areDry_0 : decode cX5_areDry 0 = .ok (.iload_n 1, 1) := by decide +kernel
theorem dX5_areDry_1 : decode cX5_areDry 1 = .ok (.ifCond .lt 12, 3) := by decide +kernel
theorem dX5_areDry_4 : decode cX5_areDry 4 = .ok (.iload_n 1, 1) := by decide +kernel
theorem dX5_areDry_5 : decode cX5_areDry 5 = .ok (.aload_n 0, 1) := by decide +kernel
theorem dX5_areDry_6 : decode cX5_areDry 6 = .ok (.getfield 78, 3) := by decide +kernel
theorem dX5_areDry_9 : decode cX5_areDry 9 = .ok (.ishr, 1) := by decide +kernel
theorem dX5_areDry_10 : decode cX5_areDry 10 = .ok (.ifCond .eq 5, 3) := by decide +kernel
theorem dX5_areDry_13 : decode cX5_areDry 13 = .ok (.iconst 0, 1) := by decide +kernel
theorem dX5_areDry_14 : decode cX5_areDry 14 = .ok (.ireturn, 1) := by decide +kernel
theorem dX5_areDry_15 : decode cX5_areDry 15 = .ok (.iconst 0, 1) := by decide +kernel
theorem dX5_areDry_16 : decode cX5_areDry 16 = .ok (.istore_n 2, 1) := by decide +kernel
theorem dX5_areDry_17 : decode cX5_areDry 17 = .ok (.iload_n 2, 1) := by decide +kernel
theorem dX5_areDry_18 : decode cX5_areDry 18 = .ok (.aload_n 0, 1) := by decide +kernel
theorem dX5_areDry_19 : decode cX5_areDry 19 = .ok (.getfield 78, 3) := by decide +kernel
theorem dX5_areDry_22 : decode cX5_areDry 22 = .ok (.if_icmp .ge 30, 3) := by decide +kernel
theorem dX5_areDry_25 : decode cX5_areDry 25 = .ok (.iload_n 1, 1) := by decide +kernel
theorem dX5_areDry_26 : decode cX5_areDry 26 = .ok (.iload_n 2, 1) := by decide +kernel
theorem dX5_areDry_27 : decode cX5_areDry 27 = .ok (.ishr, 1) := by decide +kernel
theorem dX5_areDry_28 : decode cX5_areDry 28 = .ok (.iconst 1, 1) := by decide +kernel
theorem dX5_areDry_29 : decode cX5_areDry 29 = .ok (.iand, 1) := by decide +kernel
theorem dX5_areDry_30 : decode cX5_areDry 30 = .ok (.iconst 1, 1) := by decide +kernel
theorem dX5_areDry_31 : decode cX5_areDry 31 = .ok (.if_icmp .ne 15, 3) := by decide +kernel
theorem dX5_areDry_34 : decode cX5_areDry 34 = .ok (.aload_n 0, 1) := by decide +kernel
theorem dX5_areDry_35 : decode cX5_areDry 35 = .ok (.getfield 37, 3) := by decide +kernel
theorem dX5_areDry_38 : decode cX5_areDry 38 = .ok (.iload_n 2, 1) := by decide +kernel
theorem dX5_areDry_39 : decode cX5_areDry 39 = .ok (.iaload, 1) := by decide +kernel
theorem dX5_areDry_40 : decode cX5_areDry 40 = .ok (.iconst 1, 1) := by decide +kernel
theorem dX5_areDry_41 : decode cX5_areDry 41 = .ok (.if_icmp .ne 5, 3) := by decide +kernel
theorem dX5_areDry_44 : decode cX5_areDry 44 = .ok (.iconst 0, 1) := by decide +kernel
theorem dX5_areDry_45 : decode cX5_areDry 45 = .ok (.ireturn, 1) := by decide +kernel
theorem dX5_areDry_46 : decode cX5_areDry 46 = .ok (.iinc 2 1, 3) := by decide +kernel
theorem dX5_areDry_49 : decode cX5_areDry 49 = .ok (.goto (-32), 3) := by decide +kernel
theorem dX5_areDry_52 : decode cX5_areDry 52 = .ok (.iconst 1, 1) := by decide +kernel
theorem dX5_areDry_53 : decode cX5_areDry 53 = .ok (.ireturn, 1) := by decide +kernel
theorem dX5_wet_0 : decode cX5_wet 0 = .ok (.aload_n 0, 1) := by decide +kernel
theorem dX5_wet_1 : decode cX5_wet 1 = .ok (.iload_n 1, 1) := by decide +kernel
theorem dX5_wet_2 : decode cX5_wet 2 = .ok (.invokevirtual 252, 3) := by decide +kernel
theorem dX5_wet_5 : decode cX5_wet 5 = .ok (.ifCond .eq 24, 3) := by decide +kernel
theorem dX5_wet_8 : decode cX5_wet 8 = .ok (.iload_n 2, 1) := by decide +kernel
theorem dX5_wet_9 : decode cX5_wet 9 = .ok (.iconst (-1), 1) := by decide +kernel
theorem dX5_wet_10 : decode cX5_wet 10 = .ok (.if_icmp .eq 25, 3) := by decide +kernel
theorem dX5_wet_13 : decode cX5_wet 13 = .ok (.aload_n 0, 1) := by decide +kernel
theorem dX5_wet_14 : decode cX5_wet 14 = .ok (.iload_n 2, 1) := by decide +kernel
theorem dX5_wet_15 : decode cX5_wet 15 = .ok (.invokevirtual 81, 3) := by decide +kernel
theorem dX5_wet_18 : decode cX5_wet 18 = .ok (.ifCond .eq 11, 3) := by decide +kernel
theorem dX5_wet_21 : decode cX5_wet 21 = .ok (.iload_n 1, 1) := by decide +kernel
theorem dX5_wet_22 : decode cX5_wet 22 = .ok (.iload_n 2, 1) := by decide +kernel
theorem dX5_wet_23 : decode cX5_wet 23 = .ok (.ishr, 1) := by decide +kernel
theorem dX5_wet_24 : decode cX5_wet 24 = .ok (.iconst 1, 1) := by decide +kernel
theorem dX5_wet_25 : decode cX5_wet 25 = .ok (.iand, 1) := by decide +kernel
theorem dX5_wet_26 : decode cX5_wet 26 = .ok (.ifCond .ne 9, 3) := by decide +kernel
theorem dX5_wet_29 : decode cX5_wet 29 = .ok (.aload_n 0, 1) := by decide +kernel
theorem dX5_wet_30 : decode cX5_wet 30 = .ok (.iconst (-1), 1) := by decide +kernel
theorem dX5_wet_31 : decode cX5_wet 31 = .ok (.invokevirtual 92, 3) := by decide +kernel
theorem dX5_wet_34 : decode cX5_wet 34 = .ok (.ireturn, 1) := by decide +kernel
theorem dX5_wet_35 : decode cX5_wet 35 = .ok (.aload_n 0, 1) := by decide +kernel
theorem dX5_wet_36 : decode cX5_wet 36 = .ok (.invokevirtual 219, 3) := by decide +kernel
theorem dX5_wet_39 : decode cX5_wet 39 = .ok (.iconst 0, 1) := by decide +kernel
theorem dX5_wet_40 : decode cX5_wet 40 = .ok (.istore_n 3, 1) := by decide +kernel
theorem dX5_wet_41 : decode cX5_wet 41 = .ok (.iconst 0, 1) := by decide +kernel
theorem dX5_wet_42 : decode cX5_wet 42 = .ok (.istore 4, 2) := by decide +kernel
theorem dX5_wet_44 : decode cX5_wet 44 = .ok (.aload_n 0, 1) := by decide +kernel
theorem dX5_wet_45 : decode cX5_wet 45 = .ok (.invokevirtual 222, 3) := by decide +kernel
theorem dX5_wet_48 : decode cX5_wet 48 = .ok (.ifCond .eq 102, 3) := by decide +kernel
theorem dX5_wet_51 : decode cX5_wet 51 = .ok (.iconst 0, 1) := by decide +kernel
theorem dX5_wet_52 : decode cX5_wet 52 = .ok (.istore 5, 2) := by decide +kernel
theorem dX5_wet_54 : decode cX5_wet 54 = .ok (.iconst 0, 1) := by decide +kernel
theorem dX5_wet_55 : decode cX5_wet 55 = .ok (.istore 6, 2) := by decide +kernel
theorem dX5_wet_57 : decode cX5_wet 57 = .ok (.iload 6, 2) := by decide +kernel
theorem dX5_wet_59 : decode cX5_wet 59 = .ok (.aload_n 0, 1) := by decide +kernel
theorem dX5_wet_60 : decode cX5_wet 60 = .ok (.getfield 46, 3) := by decide +kernel
theorem dX5_wet_63 : decode cX5_wet 63 = .ok (.if_icmp .ge 23, 3) := by decide +kernel
theorem dX5_wet_66 : decode cX5_wet 66 = .ok (.iload 5, 2) := by decide +kernel
theorem dX5_wet_68 : decode cX5_wet 68 = .ok (.iconst 1, 1) := by decide +kernel
theorem dX5_wet_69 : decode cX5_wet 69 = .ok (.aload_n 0, 1) := by decide +kernel
theorem dX5_wet_70 : decode cX5_wet 70 = .ok (.getfield 19, 3) := by decide +kernel
theorem dX5_wet_73 : decode cX5_wet 73 = .ok (.iload 6, 2) := by decide +kernel
theorem dX5_wet_75 : decode cX5_wet 75 = .ok (.iaload, 1) := by decide +kernel
theorem dX5_wet_76 : decode cX5_wet 76 = .ok (.ishl, 1) := by decide +kernel
theorem dX5_wet_77 : decode cX5_wet 77 = .ok (.ior, 1) := by decide +kernel
theorem dX5_wet_78 : decode cX5_wet 78 = .ok (.istore 5, 2) := by decide +kernel
theorem dX5_wet_80 : decode cX5_wet 80 = .ok (.iinc 6 1, 3) := by decide +kernel
theorem dX5_wet_83 : decode cX5_wet 83 = .ok (.goto (-26), 3) := by decide +kernel
theorem dX5_wet_86 : decode cX5_wet 86 = .ok (.iload 5, 2) := by decide +kernel
theorem dX5_wet_88 : decode cX5_wet 88 = .ok (.iload_n 1, 1) := by decide +kernel
theorem dX5_wet_89 : decode cX5_wet 89 = .ok (.if_icmp .ne (-45), 3) := by decide +kernel
theorem dX5_wet_92 : decode cX5_wet 92 = .ok (.aload_n 0, 1) := by decide +kernel
theorem dX5_wet_93 : decode cX5_wet 93 = .ok (.invokevirtual 207, 3) := by decide +kernel
theorem dX5_wet_96 : decode cX5_wet 96 = .ok (.ifCond .ne 6, 3) := by decide +kernel
theorem dX5_wet_99 : decode cX5_wet 99 = .ok (.goto (-55), 3) := by decide +kernel
theorem dX5_wet_102 : decode cX5_wet 102 = .ok (.iinc 3 1, 3) := by decide +kernel
theorem dX5_wet_105 : decode cX5_wet 105 = .ok (.iconst 0, 1) := by decide +kernel
theorem dX5_wet_106 : decode cX5_wet 106 = .ok (.istore 6, 2) := by decide +kernel
theorem dX5_wet_108 : decode cX5_wet 108 = .ok (.iload 6, 2) := by decide +kernel
theorem dX5_wet_110 : decode cX5_wet 110 = .ok (.aload_n 0, 1) := by decide +kernel
theorem dX5_wet_111 : decode cX5_wet 111 = .ok (.getfield 46, 3) := by decide +kernel
theorem dX5_wet_114 : decode cX5_wet 114 = .ok (.if_icmp .ge 33, 3) := by decide +kernel
theorem dX5_wet_117 : decode cX5_wet 117 = .ok (.iload 4, 2) := by decide +kernel
theorem dX5_wet_119 : decode cX5_wet 119 = .ok (.aload_n 0, 1) := by decide +kernel
theorem dX5_wet_120 : decode cX5_wet 120 = .ok (.getfield 19, 3) := by decide +kernel
theorem dX5_wet_123 : decode cX5_wet 123 = .ok (.iload 6, 2) := by decide +kernel
theorem dX5_wet_125 : decode cX5_wet 125 = .ok (.iaload, 1) := by decide +kernel
theorem dX5_wet_126 : decode cX5_wet 126 = .ok (.iload_n 2, 1) := by decide +kernel
theorem dX5_wet_127 : decode cX5_wet 127 = .ok (.if_icmp .ne 10, 3) := by decide +kernel
theorem dX5_wet_130 : decode cX5_wet 130 = .ok (.iconst 1, 1) := by decide +kernel
theorem dX5_wet_131 : decode cX5_wet 131 = .ok (.iload 6, 2) := by decide +kernel
theorem dX5_wet_133 : decode cX5_wet 133 = .ok (.ishl, 1) := by decide +kernel
theorem dX5_wet_134 : decode cX5_wet 134 = .ok (.goto 4, 3) := by decide +kernel
theorem dX5_wet_137 : decode cX5_wet 137 = .ok (.iconst 0, 1) := by decide +kernel
theorem dX5_wet_138 : decode cX5_wet 138 = .ok (.ior, 1) := by decide +kernel
theorem dX5_wet_139 : decode cX5_wet 139 = .ok (.istore 4, 2) := by decide +kernel
theorem dX5_wet_141 : decode cX5_wet 141 = .ok (.iinc 6 1, 3) := by decide +kernel
theorem dX5_wet_144 : decode cX5_wet 144 = .ok (.goto (-36), 3) := by decide +kernel
theorem dX5_wet_147 : decode cX5_wet 147 = .ok (.goto (-103), 3) := by decide +kernel
theorem dX5_wet_150 : decode cX5_wet 150 = .ok (.aload_n 0, 1) := by decide +kernel
theorem dX5_wet_151 : decode cX5_wet 151 = .ok (.invokevirtual 225, 3) := by decide +kernel
theorem dX5_wet_154 : decode cX5_wet 154 = .ok (.iload_n 2, 1) := by decide +kernel
theorem dX5_wet_155 : decode cX5_wet 155 = .ok (.iconst (-1), 1) := by decide +kernel
theorem dX5_wet_156 : decode cX5_wet 156 = .ok (.if_icmp .ne 7, 3) := by decide +kernel
theorem dX5_wet_159 : decode cX5_wet 159 = .ok (.iload_n 3, 1) := by decide +kernel
theorem dX5_wet_160 : decode cX5_wet 160 = .ok (.goto 5, 3) := by decide +kernel
theorem dX5_wet_163 : decode cX5_wet 163 = .ok (.iload 4, 2) := by decide +kernel
theorem dX5_wet_165 : decode cX5_wet 165 = .ok (.ireturn, 1) := by decide +kernel
theorem dX5_row_0 : decode cX5_row 0 = .ok (.iload_n 1, 1) := by decide +kernel
theorem dX5_row_1 : decode cX5_row 1 = .ok (.iconst 0, 1) := by decide +kernel
theorem dX5_row_2 : decode cX5_row 2 = .ok (.bipush 6, 2) := by decide +kernel
theorem dX5_row_4 : decode cX5_row 4 = .ok (.invokestatic 85, 3) := by decide +kernel
theorem dX5_row_7 : decode cX5_row 7 = .ok (.istore_n 2, 1) := by decide +kernel
theorem dX5_row_8 : decode cX5_row 8 = .ok (.iload_n 2, 1) := by decide +kernel
theorem dX5_row_9 : decode cX5_row 9 = .ok (.ifCond .ne 14, 3) := by decide +kernel
theorem dX5_row_12 : decode cX5_row 12 = .ok (.aload_n 0, 1) := by decide +kernel
theorem dX5_row_13 : decode cX5_row 13 = .ok (.getfield 255, 3) := by decide +kernel
theorem dX5_row_16 : decode cX5_row 16 = .ok (.iconst 5, 1) := by decide +kernel
theorem dX5_row_17 : decode cX5_row 17 = .ok (.if_icmp .ne 6, 3) := by decide +kernel
theorem dX5_row_20 : decode cX5_row 20 = .ok (.bipush (-6), 2) := by decide +kernel
theorem dX5_row_22 : decode cX5_row 22 = .ok (.istore_n 2, 1) := by decide +kernel
theorem dX5_row_23 : decode cX5_row 23 = .ok (.iload_n 2, 1) := by decide +kernel
theorem dX5_row_24 : decode cX5_row 24 = .ok (.ifCond .eq 9, 3) := by decide +kernel
theorem dX5_row_27 : decode cX5_row 27 = .ok (.aload_n 0, 1) := by decide +kernel
theorem dX5_row_28 : decode cX5_row 28 = .ok (.iload_n 2, 1) := by decide +kernel
theorem dX5_row_29 : decode cX5_row 29 = .ok (.invokevirtual 92, 3) := by decide +kernel
theorem dX5_row_32 : decode cX5_row 32 = .ok (.ireturn, 1) := by decide +kernel
theorem dX5_row_33 : decode cX5_row 33 = .ok (.aload_n 0, 1) := by decide +kernel
theorem dX5_row_34 : decode cX5_row 34 = .ok (.getfield 74, 3) := by decide +kernel
theorem dX5_row_37 : decode cX5_row 37 = .ok (.aload_n 0, 1) := by decide +kernel
theorem dX5_row_38 : decode cX5_row 38 = .ok (.getfield 255, 3) := by decide +kernel
theorem dX5_row_41 : decode cX5_row 41 = .ok (.iload_n 1, 1) := by decide +kernel
theorem dX5_row_42 : decode cX5_row 42 = .ok (.iastore, 1) := by decide +kernel
theorem dX5_row_43 : decode cX5_row 43 = .ok (.aload_n 0, 1) := by decide +kernel
theorem dX5_row_44 : decode cX5_row 44 = .ok (.dup, 1) := by decide +kernel
theorem dX5_row_45 : decode cX5_row 45 = .ok (.getfield 255, 3) := by decide +kernel
theorem dX5_row_48 : decode cX5_row 48 = .ok (.iconst 1, 1) := by decide +kernel
theorem dX5_row_49 : decode cX5_row 49 = .ok (.iadd, 1) := by decide +kernel
theorem dX5_row_50 : decode cX5_row 50 = .ok (.putfield 255, 3) := by decide +kernel
theorem dX5_row_53 : decode cX5_row 53 = .ok (.aload_n 0, 1) := by decide +kernel
theorem dX5_row_54 : decode cX5_row 54 = .ok (.getfield 255, 3) := by decide +kernel
theorem dX5_row_57 : decode cX5_row 57 = .ok (.ireturn, 1) := by decide +kernel
theorem dX5_judge_0 : decode cX5_judge 0 = .ok (.aload_n 0, 1) := by decide +kernel
theorem dX5_judge_1 : decode cX5_judge 1 = .ok (.getfield 255, 3) := by decide +kernel
theorem dX5_judge_4 : decode cX5_judge 4 = .ok (.istore_n 1, 1) := by decide +kernel
theorem dX5_judge_5 : decode cX5_judge 5 = .ok (.aload_n 0, 1) := by decide +kernel
theorem dX5_judge_6 : decode cX5_judge 6 = .ok (.iconst 0, 1) := by decide +kernel
theorem dX5_judge_7 : decode cX5_judge 7 = .ok (.putfield 255, 3) := by decide +kernel
theorem dX5_judge_10 : decode cX5_judge 10 = .ok (.iconst 0, 1) := by decide +kernel
theorem dX5_judge_11 : decode cX5_judge 11 = .ok (.istore_n 2, 1) := by decide +kernel
theorem dX5_judge_12 : decode cX5_judge 12 = .ok (.iconst 0, 1) := by decide +kernel
theorem dX5_judge_13 : decode cX5_judge 13 = .ok (.istore_n 3, 1) := by decide +kernel
theorem dX5_judge_14 : decode cX5_judge 14 = .ok (.iload_n 3, 1) := by decide +kernel
theorem dX5_judge_15 : decode cX5_judge 15 = .ok (.iload_n 1, 1) := by decide +kernel
theorem dX5_judge_16 : decode cX5_judge 16 = .ok (.if_icmp .ge 97, 3) := by decide +kernel
theorem dX5_judge_19 : decode cX5_judge 19 = .ok (.aload_n 0, 1) := by decide +kernel
theorem dX5_judge_20 : decode cX5_judge 20 = .ok (.getfield 74, 3) := by decide +kernel
theorem dX5_judge_23 : decode cX5_judge 23 = .ok (.iload_n 3, 1) := by decide +kernel
theorem dX5_judge_24 : decode cX5_judge 24 = .ok (.iaload, 1) := by decide +kernel
theorem dX5_judge_25 : decode cX5_judge 25 = .ok (.istore 4, 2) := by decide +kernel
theorem dX5_judge_27 : decode cX5_judge 27 = .ok (.iload_n 3, 1) := by decide +kernel
theorem dX5_judge_28 : decode cX5_judge 28 = .ok (.aload_n 0, 1) := by decide +kernel
theorem dX5_judge_29 : decode cX5_judge 29 = .ok (.getfield 46, 3) := by decide +kernel
theorem dX5_judge_32 : decode cX5_judge 32 = .ok (.if_icmp .ne 8, 3) := by decide +kernel
theorem dX5_judge_35 : decode cX5_judge 35 = .ok (.aload_n 0, 1) := by decide +kernel
theorem dX5_judge_36 : decode cX5_judge 36 = .ok (.getfield 46, 3) := by decide +kernel
theorem dX5_judge_39 : decode cX5_judge 39 = .ok (.ireturn, 1) := by decide +kernel
theorem dX5_judge_40 : decode cX5_judge 40 = .ok (.aload_n 0, 1) := by decide +kernel
theorem dX5_judge_41 : decode cX5_judge 41 = .ok (.iload 4, 2) := by decide +kernel
theorem dX5_judge_43 : decode cX5_judge 43 = .ok (.invokevirtual 81, 3) := by decide +kernel
theorem dX5_judge_46 : decode cX5_judge 46 = .ok (.ifCond .eq 52, 3) := by decide +kernel
theorem dX5_judge_49 : decode cX5_judge 49 = .ok (.aload_n 0, 1) := by decide +kernel
theorem dX5_judge_50 : decode cX5_judge 50 = .ok (.getfield 37, 3) := by decide +kernel
theorem dX5_judge_53 : decode cX5_judge 53 = .ok (.iload 4, 2) := by decide +kernel
theorem dX5_judge_55 : decode cX5_judge 55 = .ok (.iaload, 1) := by decide +kernel
theorem dX5_judge_56 : decode cX5_judge 56 = .ok (.iconst 1, 1) := by decide +kernel
theorem dX5_judge_57 : decode cX5_judge 57 = .ok (.if_icmp .eq 41, 3) := by decide +kernel
theorem dX5_judge_60 : decode cX5_judge 60 = .ok (.iload_n 2, 1) := by decide +kernel
theorem dX5_judge_61 : decode cX5_judge 61 = .ok (.iload 4, 2) := by decide +kernel
theorem dX5_judge_63 : decode cX5_judge 63 = .ok (.ishr, 1) := by decide +kernel
theorem dX5_judge_64 : decode cX5_judge 64 = .ok (.iconst 1, 1) := by decide +kernel
theorem dX5_judge_65 : decode cX5_judge 65 = .ok (.iand, 1) := by decide +kernel
theorem dX5_judge_66 : decode cX5_judge 66 = .ok (.iconst 1, 1) := by decide +kernel
theorem dX5_judge_67 : decode cX5_judge 67 = .ok (.if_icmp .eq 31, 3) := by decide +kernel
theorem dX5_judge_70 : decode cX5_judge 70 = .ok (.aload_n 0, 1) := by decide +kernel
theorem dX5_judge_71 : decode cX5_judge 71 = .ok (.iload_n 3, 1) := by decide +kernel
theorem dX5_judge_72 : decode cX5_judge 72 = .ok (.iload 4, 2) := by decide +kernel
theorem dX5_judge_74 : decode cX5_judge 74 = .ok (.iload_n 3, 1) := by decide +kernel
theorem dX5_judge_75 : decode cX5_judge 75 = .ok (.ifCond .le 14, 3) := by decide +kernel
theorem dX5_judge_78 : decode cX5_judge 78 = .ok (.aload_n 0, 1) := by decide +kernel
theorem dX5_judge_79 : decode cX5_judge 79 = .ok (.getfield 74, 3) := by decide +kernel
theorem dX5_judge_82 : decode cX5_judge 82 = .ok (.iload_n 3, 1) := by decide +kernel
theorem dX5_judge_83 : decode cX5_judge 83 = .ok (.iconst 1, 1) := by decide +kernel
theorem dX5_judge_84 : decode cX5_judge 84 = .ok (.isub, 1) := by decide +kernel
theorem dX5_judge_85 : decode cX5_judge 85 = .ok (.iaload, 1) := by decide +kernel
theorem dX5_judge_86 : decode cX5_judge 86 = .ok (.goto 5, 3) := by decide +kernel
theorem dX5_judge_89 : decode cX5_judge 89 = .ok (.bipush (-9), 2) := by decide +kernel
theorem dX5_judge_91 : decode cX5_judge 91 = .ok (.invokevirtual 201, 3) := by decide +kernel
theorem dX5_judge_94 : decode cX5_judge 94 = .ok (.iconst (-1), 1) := by decide +kernel
theorem dX5_judge_95 : decode cX5_judge 95 = .ok (.if_icmp .eq 5, 3) := by decide +kernel
theorem dX5_judge_98 : decode cX5_judge 98 = .ok (.iload_n 3, 1) := by decide +kernel
theorem dX5_judge_99 : decode cX5_judge 99 = .ok (.ireturn, 1) := by decide +kernel
theorem dX5_judge_100 : decode cX5_judge 100 = .ok (.iload_n 2, 1) := by decide +kernel
theorem dX5_judge_101 : decode cX5_judge 101 = .ok (.iconst 1, 1) := by decide +kernel
theorem dX5_judge_102 : decode cX5_judge 102 = .ok (.iload 4, 2) := by decide +kernel
theorem dX5_judge_104 : decode cX5_judge 104 = .ok (.ishl, 1) := by decide +kernel
theorem dX5_judge_105 : decode cX5_judge 105 = .ok (.ior, 1) := by decide +kernel
theorem dX5_judge_106 : decode cX5_judge 106 = .ok (.istore_n 2, 1) := by decide +kernel
theorem dX5_judge_107 : decode cX5_judge 107 = .ok (.iinc 3 1, 3) := by decide +kernel
theorem dX5_judge_110 : decode cX5_judge 110 = .ok (.goto (-96), 3) := by decide +kernel
theorem dX5_judge_113 : decode cX5_judge 113 = .ok (.iload_n 1, 1) := by decide +kernel
theorem dX5_judge_114 : decode cX5_judge 114 = .ok (.aload_n 0, 1) := by decide +kernel
theorem dX5_judge_115 : decode cX5_judge 115 = .ok (.getfield 46, 3) := by decide +kernel
theorem dX5_judge_118 : decode cX5_judge 118 = .ok (.if_icmp .ge 7, 3) := by decide +kernel
theorem dX5_judge_121 : decode cX5_judge 121 = .ok (.iload_n 1, 1) := by decide +kernel
theorem dX5_judge_122 : decode cX5_judge 122 = .ok (.goto 5, 3) := by decide +kernel
theorem dX5_judge_125 : decode cX5_judge 125 = .ok (.bipush (-9), 2) := by decide +kernel
theorem dX5_judge_127 : decode cX5_judge 127 = .ok (.ireturn, 1) := by decide +kernel
theorem dX5_seeds_0 : decode cX5_seeds 0 = .ok (.iload_n 1, 1) := by decide +kernel
theorem dX5_seeds_1 : decode cX5_seeds 1 = .ok (.iconst 1, 1) := by decide +kernel
theorem dX5_seeds_2 : decode cX5_seeds 2 = .ok (.bipush 60, 2) := by decide +kernel
theorem dX5_seeds_4 : decode cX5_seeds 4 = .ok (.invokestatic 85, 3) := by decide +kernel
theorem dX5_seeds_7 : decode cX5_seeds 7 = .ok (.istore_n 3, 1) := by decide +kernel
theorem dX5_seeds_8 : decode cX5_seeds 8 = .ok (.iload_n 3, 1) := by decide +kernel
theorem dX5_seeds_9 : decode cX5_seeds 9 = .ok (.ifCond .ne 13, 3) := by decide +kernel
theorem dX5_seeds_12 : decode cX5_seeds 12 = .ok (.aload_n 0, 1) := by decide +kernel
theorem dX5_seeds_13 : decode cX5_seeds 13 = .ok (.getfield 78, 3) := by decide +kernel
theorem dX5_seeds_16 : decode cX5_seeds 16 = .ok (.ifCond .ne 6, 3) := by decide +kernel
theorem dX5_seeds_19 : decode cX5_seeds 19 = .ok (.bipush (-3), 2) := by decide +kernel
theorem dX5_seeds_21 : decode cX5_seeds 21 = .ok (.istore_n 3, 1) := by decide +kernel
theorem dX5_seeds_22 : decode cX5_seeds 22 = .ok (.iload_n 3, 1) := by decide +kernel
theorem dX5_seeds_23 : decode cX5_seeds 23 = .ok (.ifCond .eq 9, 3) := by decide +kernel
theorem dX5_seeds_26 : decode cX5_seeds 26 = .ok (.aload_n 0, 1) := by decide +kernel
theorem dX5_seeds_27 : decode cX5_seeds 27 = .ok (.iload_n 3, 1) := by decide +kernel
theorem dX5_seeds_28 : decode cX5_seeds 28 = .ok (.invokevirtual 92, 3) := by decide +kernel
theorem dX5_seeds_31 : decode cX5_seeds 31 = .ok (.ireturn, 1) := by decide +kernel
theorem dX5_seeds_32 : decode cX5_seeds 32 = .ok (.aload_n 0, 1) := by decide +kernel
theorem dX5_seeds_33 : decode cX5_seeds 33 = .ok (.invokevirtual 219, 3) := by decide +kernel
theorem dX5_seeds_36 : decode cX5_seeds 36 = .ok (.iload_n 2, 1) := by decide +kernel
theorem dX5_seeds_37 : decode cX5_seeds 37 = .ok (.istore 4, 2) := by decide +kernel
theorem dX5_seeds_39 : decode cX5_seeds 39 = .ok (.iconst 0, 1) := by decide +kernel
theorem dX5_seeds_40 : decode cX5_seeds 40 = .ok (.istore 5, 2) := by decide +kernel
theorem dX5_seeds_42 : decode cX5_seeds 42 = .ok (.iconst 0, 1) := by decide +kernel
theorem dX5_seeds_43 : decode cX5_seeds 43 = .ok (.istore 6, 2) := by decide +kernel
theorem dX5_seeds_45 : decode cX5_seeds 45 = .ok (.iload 6, 2) := by decide +kernel
theorem dX5_seeds_47 : decode cX5_seeds 47 = .ok (.iload_n 1, 1) := by decide +kernel
theorem dX5_seeds_48 : decode cX5_seeds 48 = .ok (.if_icmp .ge 85, 3) := by decide +kernel
theorem dX5_seeds_51 : decode cX5_seeds 51 = .ok (.iconst 0, 1) := by decide +kernel
theorem dX5_seeds_52 : decode cX5_seeds 52 = .ok (.istore 7, 2) := by decide +kernel
theorem dX5_seeds_54 : decode cX5_seeds 54 = .ok (.iload 7, 2) := by decide +kernel
theorem dX5_seeds_56 : decode cX5_seeds 56 = .ok (.aload_n 0, 1) := by decide +kernel
theorem dX5_seeds_57 : decode cX5_seeds 57 = .ok (.getfield 46, 3) := by decide +kernel
theorem dX5_seeds_60 : decode cX5_seeds 60 = .ok (.if_icmp .ge 43, 3) := by decide +kernel
theorem dX5_seeds_63 : decode cX5_seeds 63 = .ok (.iload 4, 2) := by decide +kernel
theorem dX5_seeds_65 : decode cX5_seeds 65 = .ok (.ldc_w 258, 3) := by decide +kernel
theorem dX5_seeds_68 : decode cX5_seeds 68 = .ok (.imul, 1) := by decide +kernel
theorem dX5_seeds_69 : decode cX5_seeds 69 = .ok (.sipush 12345, 3) := by decide +kernel
theorem dX5_seeds_72 : decode cX5_seeds 72 = .ok (.iadd, 1) := by decide +kernel
theorem dX5_seeds_73 : decode cX5_seeds 73 = .ok (.istore 4, 2) := by decide +kernel
theorem dX5_seeds_75 : decode cX5_seeds 75 = .ok (.aload_n 0, 1) := by decide +kernel
theorem dX5_seeds_76 : decode cX5_seeds 76 = .ok (.getfield 19, 3) := by decide +kernel
theorem dX5_seeds_79 : decode cX5_seeds 79 = .ok (.iload 7, 2) := by decide +kernel
theorem dX5_seeds_81 : decode cX5_seeds 81 = .ok (.iload 4, 2) := by decide +kernel
theorem dX5_seeds_83 : decode cX5_seeds 83 = .ok (.ldc_w 259, 3) := by decide +kernel
theorem dX5_seeds_86 : decode cX5_seeds 86 = .ok (.iand, 1) := by decide +kernel
theorem dX5_seeds_87 : decode cX5_seeds 87 = .ok (.ldc_w 260, 3) := by decide +kernel
theorem dX5_seeds_90 : decode cX5_seeds 90 = .ok (.idiv, 1) := by decide +kernel
theorem dX5_seeds_91 : decode cX5_seeds 91 = .ok (.aload_n 0, 1) := by decide +kernel
theorem dX5_seeds_92 : decode cX5_seeds 92 = .ok (.getfield 78, 3) := by decide +kernel
theorem dX5_seeds_95 : decode cX5_seeds 95 = .ok (.irem, 1) := by decide +kernel
theorem dX5_seeds_96 : decode cX5_seeds 96 = .ok (.iastore, 1) := by decide +kernel
theorem dX5_seeds_97 : decode cX5_seeds 97 = .ok (.iinc 7 1, 3) := by decide +kernel
theorem dX5_seeds_100 : decode cX5_seeds 100 = .ok (.goto (-46), 3) := by decide +kernel
theorem dX5_seeds_103 : decode cX5_seeds 103 = .ok (.iload 5, 2) := by decide +kernel
theorem dX5_seeds_105 : decode cX5_seeds 105 = .ok (.aload_n 0, 1) := by decide +kernel
theorem dX5_seeds_106 : decode cX5_seeds 106 = .ok (.invokevirtual 216, 3) := by decide +kernel
theorem dX5_seeds_109 : decode cX5_seeds 109 = .ok (.ifCond .eq 14, 3) := by decide +kernel
theorem dX5_seeds_112 : decode cX5_seeds 112 = .ok (.aload_n 0, 1) := by decide +kernel
theorem dX5_seeds_113 : decode cX5_seeds 113 = .ok (.invokevirtual 207, 3) := by decide +kernel
theorem dX5_seeds_116 : decode cX5_seeds 116 = .ok (.ifCond .eq 7, 3) := by decide +kernel
theorem dX5_seeds_119 : decode cX5_seeds 119 = .ok (.iconst 1, 1) := by decide +kernel
theorem dX5_seeds_120 : decode cX5_seeds 120 = .ok (.goto 4, 3) := by decide +kernel
theorem dX5_seeds_123 : decode cX5_seeds 123 = .ok (.iconst 0, 1) := by decide +kernel
theorem dX5_seeds_124 : decode cX5_seeds 124 = .ok (.iadd, 1) := by decide +kernel
theorem dX5_seeds_125 : decode cX5_seeds 125 = .ok (.istore 5, 2) := by decide +kernel
theorem dX5_seeds_127 : decode cX5_seeds 127 = .ok (.iinc 6 1, 3) := by decide +kernel
theorem dX5_seeds_130 : decode cX5_seeds 130 = .ok (.goto (-85), 3) := by decide +kernel
theorem dX5_seeds_133 : decode cX5_seeds 133 = .ok (.aload_n 0, 1) := by decide +kernel
theorem dX5_seeds_134 : decode cX5_seeds 134 = .ok (.invokevirtual 225, 3) := by decide +kernel
theorem dX5_seeds_137 : decode cX5_seeds 137 = .ok (.iload 5, 2) := by decide +kernel
theorem dX5_seeds_139 : decode cX5_seeds 139 = .ok (.ireturn, 1) := by decide +kernel
theorem dX5_sumOf_0 : decode cX5_sumOf 0 = .ok (.iconst 0, 1) := by decide +kernel
theorem dX5_sumOf_1 : decode cX5_sumOf 1 = .ok (.istore_n 2, 1) := by decide +kernel
theorem dX5_sumOf_2 : decode cX5_sumOf 2 = .ok (.iconst 0, 1) := by decide +kernel
theorem dX5_sumOf_3 : decode cX5_sumOf 3 = .ok (.istore_n 3, 1) := by decide +kernel
theorem dX5_sumOf_4 : decode cX5_sumOf 4 = .ok (.iload_n 3, 1) := by decide +kernel
theorem dX5_sumOf_5 : decode cX5_sumOf 5 = .ok (.aload_n 1, 1) := by decide +kernel
theorem dX5_sumOf_6 : decode cX5_sumOf 6 = .ok (.arraylength, 1) := by decide +kernel
theorem dX5_sumOf_7 : decode cX5_sumOf 7 = .ok (.if_icmp .ge 15, 3) := by decide +kernel
theorem dX5_sumOf_10 : decode cX5_sumOf 10 = .ok (.iload_n 2, 1) := by decide +kernel
theorem dX5_sumOf_11 : decode cX5_sumOf 11 = .ok (.aload_n 1, 1) := by decide +kernel
theorem dX5_sumOf_12 : decode cX5_sumOf 12 = .ok (.iload_n 3, 1) := by decide +kernel
theorem dX5_sumOf_13 : decode cX5_sumOf 13 = .ok (.iaload, 1) := by decide +kernel
theorem dX5_sumOf_14 : decode cX5_sumOf 14 = .ok (.iadd, 1) := by decide +kernel
theorem dX5_sumOf_15 : decode cX5_sumOf 15 = .ok (.istore_n 2, 1) := by decide +kernel
theorem dX5_sumOf_16 : decode cX5_sumOf 16 = .ok (.iinc 3 1, 3) := by decide +kernel
theorem dX5_sumOf_19 : decode cX5_sumOf 19 = .ok (.goto (-15), 3) := by decide +kernel
theorem dX5_sumOf_22 : decode cX5_sumOf 22 = .ok (.iload_n 2, 1) := by decide +kernel
theorem dX5_sumOf_23 : decode cX5_sumOf 23 = .ok (.ireturn, 1) := by decide +kernel
theorem dX5_count_0 : decode cX5_count 0 = .ok (.iload_n 1, 1) := by decide +kernel
theorem dX5_count_1 : decode cX5_count 1 = .ok (.bipush 11, 2) := by decide +kernel
theorem dX5_count_3 : decode cX5_count 3 = .ok (.bipush 16, 2) := by decide +kernel
theorem dX5_count_5 : decode cX5_count 5 = .ok (.invokestatic 103, 3) := by decide +kernel
theorem dX5_count_8 : decode cX5_count 8 = .ok (.ifCond .eq 13, 3) := by decide +kernel
theorem dX5_count_11 : decode cX5_count 11 = .ok (.aload_n 0, 1) := by decide +kernel
theorem dX5_count_12 : decode cX5_count 12 = .ok (.getfield 7, 3) := by decide +kernel
theorem dX5_count_15 : decode cX5_count 15 = .ok (.iload_n 1, 1) := by decide +kernel
theorem dX5_count_16 : decode cX5_count 16 = .ok (.bipush 10, 2) := by decide +kernel
theorem dX5_count_18 : decode cX5_count 18 = .ok (.isub, 1) := by decide +kernel
theorem dX5_count_19 : decode cX5_count 19 = .ok (.iaload, 1) := by decide +kernel
theorem dX5_count_20 : decode cX5_count 20 = .ok (.ireturn, 1) := by decide +kernel
theorem dX5_count_21 : decode cX5_count 21 = .ok (.iload_n 1, 1) := by decide +kernel
theorem dX5_count_22 : decode cX5_count 22 = .ok (.tableswitch 114 0 9 #[54, 59, 64, 69, 74, 79, 84, 95, 104, 109], 54) := by decide +kernel
theorem dX5_count_76 : decode cX5_count 76 = .ok (.aload_n 0, 1) := by decide +kernel
theorem dX5_count_77 : decode cX5_count 77 = .ok (.getfield 46, 3) := by decide +kernel
theorem dX5_count_80 : decode cX5_count 80 = .ok (.ireturn, 1) := by decide +kernel
theorem dX5_count_81 : decode cX5_count 81 = .ok (.aload_n 0, 1) := by decide +kernel
theorem dX5_count_82 : decode cX5_count 82 = .ok (.getfield 78, 3) := by decide +kernel
theorem dX5_count_85 : decode cX5_count 85 = .ok (.ireturn, 1) := by decide +kernel
theorem dX5_count_86 : decode cX5_count 86 = .ok (.aload_n 0, 1) := by decide +kernel
theorem dX5_count_87 : decode cX5_count 87 = .ok (.getfield 50, 3) := by decide +kernel
theorem dX5_count_90 : decode cX5_count 90 = .ok (.ireturn, 1) := by decide +kernel
theorem dX5_count_91 : decode cX5_count 91 = .ok (.aload_n 0, 1) := by decide +kernel
theorem dX5_count_92 : decode cX5_count 92 = .ok (.getfield 161, 3) := by decide +kernel
theorem dX5_count_95 : decode cX5_count 95 = .ok (.ireturn, 1) := by decide +kernel
theorem dX5_count_96 : decode cX5_count 96 = .ok (.aload_n 0, 1) := by decide +kernel
theorem dX5_count_97 : decode cX5_count 97 = .ok (.invokevirtual 176, 3) := by decide +kernel
theorem dX5_count_100 : decode cX5_count 100 = .ok (.ireturn, 1) := by decide +kernel
theorem dX5_count_101 : decode cX5_count 101 = .ok (.aload_n 0, 1) := by decide +kernel
theorem dX5_count_102 : decode cX5_count 102 = .ok (.invokevirtual 179, 3) := by decide +kernel
theorem dX5_count_105 : decode cX5_count 105 = .ok (.ireturn, 1) := by decide +kernel
theorem dX5_count_106 : decode cX5_count 106 = .ok (.aload_n 0, 1) := by decide +kernel
theorem dX5_count_107 : decode cX5_count 107 = .ok (.aload_n 0, 1) := by decide +kernel
theorem dX5_count_108 : decode cX5_count 108 = .ok (.getfield 40, 3) := by decide +kernel
theorem dX5_count_111 : decode cX5_count 111 = .ok (.invokevirtual 261, 3) := by decide +kernel
theorem dX5_count_114 : decode cX5_count 114 = .ok (.iconst 2, 1) := by decide +kernel
theorem dX5_count_115 : decode cX5_count 115 = .ok (.idiv, 1) := by decide +kernel
theorem dX5_count_116 : decode cX5_count 116 = .ok (.ireturn, 1) := by decide +kernel
theorem dX5_count_117 : decode cX5_count 117 = .ok (.aload_n 0, 1) := by decide +kernel
theorem dX5_count_118 : decode cX5_count 118 = .ok (.aload_n 0, 1) := by decide +kernel
theorem dX5_count_119 : decode cX5_count 119 = .ok (.getfield 43, 3) := by decide +kernel
theorem dX5_count_122 : decode cX5_count 122 = .ok (.invokevirtual 261, 3) := by decide +kernel
theorem dX5_count_125 : decode cX5_count 125 = .ok (.ireturn, 1) := by decide +kernel
theorem dX5_count_126 : decode cX5_count 126 = .ok (.aload_n 0, 1) := by decide +kernel
theorem dX5_count_127 : decode cX5_count 127 = .ok (.getfield 89, 3) := by decide +kernel
theorem dX5_count_130 : decode cX5_count 130 = .ok (.ireturn, 1) := by decide +kernel
theorem dX5_count_131 : decode cX5_count 131 = .ok (.aload_n 0, 1) := by decide +kernel
theorem dX5_count_132 : decode cX5_count 132 = .ok (.getfield 255, 3) := by decide +kernel
theorem dX5_count_135 : decode cX5_count 135 = .ok (.ireturn, 1) := by decide +kernel
theorem dX5_count_136 : decode cX5_count 136 = .ok (.bipush (-9), 2) := by decide +kernel
theorem dX5_count_138 : decode cX5_count 138 = .ok (.ireturn, 1) := by decide +kernel
theorem dJ6_bitCount_0f7a4_0 : decode cJ6_bitCount_0f7a4 0 = .ok (.iload_n 0, 1) := by decide +kernel
theorem dJ6_bitCount_0f7a4_1 : decode cJ6_bitCount_0f7a4 1 = .ok (.iload_n 0, 1) := by decide +kernel
theorem dJ6_bitCount_0f7a4_2 : decode cJ6_bitCount_0f7a4 2 = .ok (.iconst 1, 1) := by decide +kernel
theorem dJ6_bitCount_0f7a4_3 : decode cJ6_bitCount_0f7a4 3 = .ok (.iushr, 1) := by decide +kernel
theorem dJ6_bitCount_0f7a4_4 : decode cJ6_bitCount_0f7a4 4 = .ok (.ldc_w 265, 3) := by decide +kernel
theorem dJ6_bitCount_0f7a4_7 : decode cJ6_bitCount_0f7a4 7 = .ok (.iand, 1) := by decide +kernel
theorem dJ6_bitCount_0f7a4_8 : decode cJ6_bitCount_0f7a4 8 = .ok (.isub, 1) := by decide +kernel
theorem dJ6_bitCount_0f7a4_9 : decode cJ6_bitCount_0f7a4 9 = .ok (.istore_n 0, 1) := by decide +kernel
theorem dJ6_bitCount_0f7a4_10 : decode cJ6_bitCount_0f7a4 10 = .ok (.iload_n 0, 1) := by decide +kernel
theorem dJ6_bitCount_0f7a4_11 : decode cJ6_bitCount_0f7a4 11 = .ok (.ldc_w 266, 3) := by decide +kernel
theorem dJ6_bitCount_0f7a4_14 : decode cJ6_bitCount_0f7a4 14 = .ok (.iand, 1) := by decide +kernel
theorem dJ6_bitCount_0f7a4_15 : decode cJ6_bitCount_0f7a4 15 = .ok (.iload_n 0, 1) := by decide +kernel
theorem dJ6_bitCount_0f7a4_16 : decode cJ6_bitCount_0f7a4 16 = .ok (.iconst 2, 1) := by decide +kernel
theorem dJ6_bitCount_0f7a4_17 : decode cJ6_bitCount_0f7a4 17 = .ok (.iushr, 1) := by decide +kernel
theorem dJ6_bitCount_0f7a4_18 : decode cJ6_bitCount_0f7a4 18 = .ok (.ldc_w 266, 3) := by decide +kernel
theorem dJ6_bitCount_0f7a4_21 : decode cJ6_bitCount_0f7a4 21 = .ok (.iand, 1) := by decide +kernel
theorem dJ6_bitCount_0f7a4_22 : decode cJ6_bitCount_0f7a4 22 = .ok (.iadd, 1) := by decide +kernel
theorem dJ6_bitCount_0f7a4_23 : decode cJ6_bitCount_0f7a4 23 = .ok (.istore_n 0, 1) := by decide +kernel
theorem dJ6_bitCount_0f7a4_24 : decode cJ6_bitCount_0f7a4 24 = .ok (.iload_n 0, 1) := by decide +kernel
theorem dJ6_bitCount_0f7a4_25 : decode cJ6_bitCount_0f7a4 25 = .ok (.iload_n 0, 1) := by decide +kernel
theorem dJ6_bitCount_0f7a4_26 : decode cJ6_bitCount_0f7a4 26 = .ok (.iconst 4, 1) := by decide +kernel
theorem dJ6_bitCount_0f7a4_27 : decode cJ6_bitCount_0f7a4 27 = .ok (.iushr, 1) := by decide +kernel
theorem dJ6_bitCount_0f7a4_28 : decode cJ6_bitCount_0f7a4 28 = .ok (.iadd, 1) := by decide +kernel
theorem dJ6_bitCount_0f7a4_29 : decode cJ6_bitCount_0f7a4 29 = .ok (.ldc_w 267, 3) := by decide +kernel
theorem dJ6_bitCount_0f7a4_32 : decode cJ6_bitCount_0f7a4 32 = .ok (.iand, 1) := by decide +kernel
theorem dJ6_bitCount_0f7a4_33 : decode cJ6_bitCount_0f7a4 33 = .ok (.istore_n 0, 1) := by decide +kernel
theorem dJ6_bitCount_0f7a4_34 : decode cJ6_bitCount_0f7a4 34 = .ok (.iload_n 0, 1) := by decide +kernel
theorem dJ6_bitCount_0f7a4_35 : decode cJ6_bitCount_0f7a4 35 = .ok (.iload_n 0, 1) := by decide +kernel
theorem dJ6_bitCount_0f7a4_36 : decode cJ6_bitCount_0f7a4 36 = .ok (.bipush 8, 2) := by decide +kernel
theorem dJ6_bitCount_0f7a4_38 : decode cJ6_bitCount_0f7a4 38 = .ok (.iushr, 1) := by decide +kernel
theorem dJ6_bitCount_0f7a4_39 : decode cJ6_bitCount_0f7a4 39 = .ok (.iadd, 1) := by decide +kernel
theorem dJ6_bitCount_0f7a4_40 : decode cJ6_bitCount_0f7a4 40 = .ok (.istore_n 0, 1) := by decide +kernel
theorem dJ6_bitCount_0f7a4_41 : decode cJ6_bitCount_0f7a4 41 = .ok (.iload_n 0, 1) := by decide +kernel
theorem dJ6_bitCount_0f7a4_42 : decode cJ6_bitCount_0f7a4 42 = .ok (.iload_n 0, 1) := by decide +kernel
theorem dJ6_bitCount_0f7a4_43 : decode cJ6_bitCount_0f7a4 43 = .ok (.bipush 16, 2) := by decide +kernel
theorem dJ6_bitCount_0f7a4_45 : decode cJ6_bitCount_0f7a4 45 = .ok (.iushr, 1) := by decide +kernel
theorem dJ6_bitCount_0f7a4_46 : decode cJ6_bitCount_0f7a4 46 = .ok (.iadd, 1) := by decide +kernel
theorem dJ6_bitCount_0f7a4_47 : decode cJ6_bitCount_0f7a4 47 = .ok (.istore_n 0, 1) := by decide +kernel
theorem dJ6_bitCount_0f7a4_48 : decode cJ6_bitCount_0f7a4 48 = .ok (.iload_n 0, 1) := by decide +kernel
theorem dJ6_bitCount_0f7a4_49 : decode cJ6_bitCount_0f7a4 49 = .ok (.bipush 63, 2) := by decide +kernel
theorem dJ6_bitCount_0f7a4_51 : decode cJ6_bitCount_0f7a4 51 = .ok (.iand, 1) := by decide +kernel
theorem dJ6_bitCount_0f7a4_52 : decode cJ6_bitCount_0f7a4 52 = .ok (.ireturn, 1) := by decide +kernel
theorem dJ9_max_7cf53_0 : decode cJ9_max_7cf53 0 = .ok (.iload_n 0, 1) := by decide +kernel
theorem dJ9_max_7cf53_1 : decode cJ9_max_7cf53 1 = .ok (.iload_n 1, 1) := by decide +kernel
theorem dJ9_max_7cf53_2 : decode cJ9_max_7cf53 2 = .ok (.if_icmp .lt 7, 3) := by decide +kernel
theorem dJ9_max_7cf53_5 : decode cJ9_max_7cf53 5 = .ok (.iload_n 0, 1) := by decide +kernel
theorem dJ9_max_7cf53_6 : decode cJ9_max_7cf53 6 = .ok (.goto 4, 3) := by decide +kernel
theorem dJ9_max_7cf53_9 : decode cJ9_max_7cf53 9 = .ok (.iload_n 1, 1) := by decide +kernel
theorem dJ9_max_7cf53_10 : decode cJ9_max_7cf53 10 = .ok (.ireturn, 1) := by decide +kernel
theorem dJ9_min_7cf53_0 : decode cJ9_min_7cf53 0 = .ok (.iload_n 0, 1) := by decide +kernel
theorem dJ9_min_7cf53_1 : decode cJ9_min_7cf53 1 = .ok (.iload_n 1, 1) := by decide +kernel
theorem dJ9_min_7cf53_2 : decode cJ9_min_7cf53 2 = .ok (.if_icmp .gt 7, 3) := by decide +kernel
theorem dJ9_min_7cf53_5 : decode cJ9_min_7cf53 5 = .ok (.iload_n 0, 1) := by decide +kernel
theorem dJ9_min_7cf53_6 : decode cJ9_min_7cf53 6 = .ok (.goto 4, 3) := by decide +kernel
theorem dJ9_min_7cf53_9 : decode cJ9_min_7cf53 9 = .ok (.iload_n 1, 1) := by decide +kernel
theorem dJ9_min_7cf53_10 : decode cJ9_min_7cf53 10 = .ok (.ireturn, 1) := by decide +kernel
theorem dL_law_0 : decode cL_law 0 = .ok (.new 7, 3) := by decide +kernel
theorem dL_law_3 : decode cL_law 3 = .ok (.dup, 1) := by decide +kernel
theorem dL_law_4 : decode cL_law 4 = .ok (.invokespecial 9, 3) := by decide +kernel
theorem dL_law_7 : decode cL_law 7 = .ok (.astore_n 1, 1) := by decide +kernel
theorem dL_law_8 : decode cL_law 8 = .ok (.new 10, 3) := by decide +kernel
theorem dL_law_11 : decode cL_law 11 = .ok (.dup, 1) := by decide +kernel
theorem dL_law_12 : decode cL_law 12 = .ok (.invokespecial 12, 3) := by decide +kernel
theorem dL_law_15 : decode cL_law 15 = .ok (.astore_n 2, 1) := by decide +kernel
theorem dL_law_16 : decode cL_law 16 = .ok (.iconst 0, 1) := by decide +kernel
theorem dL_law_17 : decode cL_law 17 = .ok (.istore_n 3, 1) := by decide +kernel
theorem dL_law_18 : decode cL_law 18 = .ok (.iload_n 3, 1) := by decide +kernel
theorem dL_law_19 : decode cL_law 19 = .ok (.aload_n 0, 1) := by decide +kernel
theorem dL_law_20 : decode cL_law 20 = .ok (.arraylength, 1) := by decide +kernel
theorem dL_law_21 : decode cL_law 21 = .ok (.iconst 4, 1) := by decide +kernel
theorem dL_law_22 : decode cL_law 22 = .ok (.isub, 1) := by decide +kernel
theorem dL_law_23 : decode cL_law 23 = .ok (.if_icmp .gt 821, 3) := by decide +kernel
theorem dL_law_26 : decode cL_law 26 = .ok (.aload_n 0, 1) := by decide +kernel
theorem dL_law_27 : decode cL_law 27 = .ok (.iload_n 3, 1) := by decide +kernel
theorem dL_law_28 : decode cL_law 28 = .ok (.iaload, 1) := by decide +kernel
theorem dL_law_29 : decode cL_law 29 = .ok (.bipush 31, 2) := by decide +kernel
theorem dL_law_31 : decode cL_law 31 = .ok (.iand, 1) := by decide +kernel
theorem dL_law_32 : decode cL_law 32 = .ok (.tableswitch 806 0 29 #[136, 159, 172, 205, 238, 271, 314, 337, 370, 383, 406, 429, 442, 465, 478, 501, 514, 547, 560, 573, 586, 619, 642, 655, 688, 711, 724, 757, 770, 783], 136) := by decide +kernel
theorem dL_law_168 : decode cL_law 168 = .ok (.aload_n 1, 1) := by decide +kernel
theorem dL_law_169 : decode cL_law 169 = .ok (.aload_n 0, 1) := by decide +kernel
theorem dL_law_170 : decode cL_law 170 = .ok (.iload_n 3, 1) := by decide +kernel
theorem dL_law_171 : decode cL_law 171 = .ok (.iconst 1, 1) := by decide +kernel
theorem dL_law_172 : decode cL_law 172 = .ok (.iadd, 1) := by decide +kernel
theorem dL_law_173 : decode cL_law 173 = .ok (.iaload, 1) := by decide +kernel
theorem dL_law_174 : decode cL_law 174 = .ok (.invokevirtual 13, 3) := by decide +kernel
theorem dL_law_177 : decode cL_law 177 = .ok (.aload_n 2, 1) := by decide +kernel
theorem dL_law_178 : decode cL_law 178 = .ok (.aload_n 0, 1) := by decide +kernel
theorem dL_law_179 : decode cL_law 179 = .ok (.iload_n 3, 1) := by decide +kernel
theorem dL_law_180 : decode cL_law 180 = .ok (.iconst 1, 1) := by decide +kernel
theorem dL_law_181 : decode cL_law 181 = .ok (.iadd, 1) := by decide +kernel
theorem dL_law_182 : decode cL_law 182 = .ok (.iaload, 1) := by decide +kernel
theorem dL_law_183 : decode cL_law 183 = .ok (.invokevirtual 17, 3) := by decide +kernel
theorem dL_law_186 : decode cL_law 186 = .ok (.if_icmp .eq 652, 3) := by decide +kernel
theorem dL_law_189 : decode cL_law 189 = .ok (.iconst 0, 1) := by decide +kernel
theorem dL_law_190 : decode cL_law 190 = .ok (.ireturn, 1) := by decide +kernel
theorem dL_law_191 : decode cL_law 191 = .ok (.aload_n 1, 1) := by decide +kernel
theorem dL_law_192 : decode cL_law 192 = .ok (.invokevirtual 18, 3) := by decide +kernel
theorem dL_law_195 : decode cL_law 195 = .ok (.aload_n 2, 1) := by decide +kernel
theorem dL_law_196 : decode cL_law 196 = .ok (.invokevirtual 22, 3) := by decide +kernel
theorem dL_law_199 : decode cL_law 199 = .ok (.if_icmp .eq 639, 3) := by decide +kernel
theorem dL_law_202 : decode cL_law 202 = .ok (.iconst 0, 1) := by decide +kernel
theorem dL_law_203 : decode cL_law 203 = .ok (.ireturn, 1) := by decide +kernel
theorem dL_law_204 : decode cL_law 204 = .ok (.aload_n 1, 1) := by decide +kernel
theorem dL_law_205 : decode cL_law 205 = .ok (.aload_n 0, 1) := by decide +kernel
theorem dL_law_206 : decode cL_law 206 = .ok (.iload_n 3, 1) := by decide +kernel
theorem dL_law_207 : decode cL_law 207 = .ok (.iconst 1, 1) := by decide +kernel
theorem dL_law_208 : decode cL_law 208 = .ok (.iadd, 1) := by decide +kernel
theorem dL_law_209 : decode cL_law 209 = .ok (.iaload, 1) := by decide +kernel
theorem dL_law_210 : decode cL_law 210 = .ok (.aload_n 0, 1) := by decide +kernel
theorem dL_law_211 : decode cL_law 211 = .ok (.iload_n 3, 1) := by decide +kernel
theorem dL_law_212 : decode cL_law 212 = .ok (.iconst 2, 1) := by decide +kernel
theorem dL_law_213 : decode cL_law 213 = .ok (.iadd, 1) := by decide +kernel
theorem dL_law_214 : decode cL_law 214 = .ok (.iaload, 1) := by decide +kernel
theorem dL_law_215 : decode cL_law 215 = .ok (.invokevirtual 23, 3) := by decide +kernel
theorem dL_law_218 : decode cL_law 218 = .ok (.aload_n 2, 1) := by decide +kernel
theorem dL_law_219 : decode cL_law 219 = .ok (.aload_n 0, 1) := by decide +kernel
theorem dL_law_220 : decode cL_law 220 = .ok (.iload_n 3, 1) := by decide +kernel
theorem dL_law_221 : decode cL_law 221 = .ok (.iconst 1, 1) := by decide +kernel
theorem dL_law_222 : decode cL_law 222 = .ok (.iadd, 1) := by decide +kernel
theorem dL_law_223 : decode cL_law 223 = .ok (.iaload, 1) := by decide +kernel
theorem dL_law_224 : decode cL_law 224 = .ok (.aload_n 0, 1) := by decide +kernel
theorem dL_law_225 : decode cL_law 225 = .ok (.iload_n 3, 1) := by decide +kernel
theorem dL_law_226 : decode cL_law 226 = .ok (.iconst 2, 1) := by decide +kernel
theorem dL_law_227 : decode cL_law 227 = .ok (.iadd, 1) := by decide +kernel
theorem dL_law_228 : decode cL_law 228 = .ok (.iaload, 1) := by decide +kernel
theorem dL_law_229 : decode cL_law 229 = .ok (.invokevirtual 27, 3) := by decide +kernel
theorem dL_law_232 : decode cL_law 232 = .ok (.if_icmp .eq 606, 3) := by decide +kernel
theorem dL_law_235 : decode cL_law 235 = .ok (.iconst 0, 1) := by decide +kernel
theorem dL_law_236 : decode cL_law 236 = .ok (.ireturn, 1) := by decide +kernel
theorem dL_law_237 : decode cL_law 237 = .ok (.aload_n 1, 1) := by decide +kernel
theorem dL_law_238 : decode cL_law 238 = .ok (.aload_n 0, 1) := by decide +kernel
theorem dL_law_239 : decode cL_law 239 = .ok (.iload_n 3, 1) := by decide +kernel
theorem dL_law_240 : decode cL_law 240 = .ok (.iconst 1, 1) := by decide +kernel
theorem dL_law_241 : decode cL_law 241 = .ok (.iadd, 1) := by decide +kernel
theorem dL_law_242 : decode cL_law 242 = .ok (.iaload, 1) := by decide +kernel
theorem dL_law_243 : decode cL_law 243 = .ok (.aload_n 0, 1) := by decide +kernel
theorem dL_law_244 : decode cL_law 244 = .ok (.iload_n 3, 1) := by decide +kernel
theorem dL_law_245 : decode cL_law 245 = .ok (.iconst 2, 1) := by decide +kernel
theorem dL_law_246 : decode cL_law 246 = .ok (.iadd, 1) := by decide +kernel
theorem dL_law_247 : decode cL_law 247 = .ok (.iaload, 1) := by decide +kernel
theorem dL_law_248 : decode cL_law 248 = .ok (.invokevirtual 28, 3) := by decide +kernel
theorem dL_law_251 : decode cL_law 251 = .ok (.aload_n 2, 1) := by decide +kernel
theorem dL_law_252 : decode cL_law 252 = .ok (.aload_n 0, 1) := by decide +kernel
theorem dL_law_253 : decode cL_law 253 = .ok (.iload_n 3, 1) := by decide +kernel
theorem dL_law_254 : decode cL_law 254 = .ok (.iconst 1, 1) := by decide +kernel
theorem dL_law_255 : decode cL_law 255 = .ok (.iadd, 1) := by decide +kernel
theorem dL_law_256 : decode cL_law 256 = .ok (.iaload, 1) := by decide +kernel
theorem dL_law_257 : decode cL_law 257 = .ok (.aload_n 0, 1) := by decide +kernel
theorem dL_law_258 : decode cL_law 258 = .ok (.iload_n 3, 1) := by decide +kernel
theorem dL_law_259 : decode cL_law 259 = .ok (.iconst 2, 1) := by decide +kernel
theorem dL_law_260 : decode cL_law 260 = .ok (.iadd, 1) := by decide +kernel
theorem dL_law_261 : decode cL_law 261 = .ok (.iaload, 1) := by decide +kernel
theorem dL_law_262 : decode cL_law 262 = .ok (.invokevirtual 31, 3) := by decide +kernel
theorem dL_law_265 : decode cL_law 265 = .ok (.if_icmp .eq 573, 3) := by decide +kernel
theorem dL_law_268 : decode cL_law 268 = .ok (.iconst 0, 1) := by decide +kernel
theorem dL_law_269 : decode cL_law 269 = .ok (.ireturn, 1) := by decide +kernel
theorem dL_law_270 : decode cL_law 270 = .ok (.aload_n 1, 1) := by decide +kernel
theorem dL_law_271 : decode cL_law 271 = .ok (.aload_n 0, 1) := by decide +kernel
theorem dL_law_272 : decode cL_law 272 = .ok (.iload_n 3, 1) := by decide +kernel
theorem dL_law_273 : decode cL_law 273 = .ok (.iconst 1, 1) := by decide +kernel
theorem dL_law_274 : decode cL_law 274 = .ok (.iadd, 1) := by decide +kernel
theorem dL_law_275 : decode cL_law 275 = .ok (.iaload, 1) := by decide +kernel
theorem dL_law_276 : decode cL_law 276 = .ok (.aload_n 0, 1) := by decide +kernel
theorem dL_law_277 : decode cL_law 277 = .ok (.iload_n 3, 1) := by decide +kernel
theorem dL_law_278 : decode cL_law 278 = .ok (.iconst 2, 1) := by decide +kernel
theorem dL_law_279 : decode cL_law 279 = .ok (.iadd, 1) := by decide +kernel
theorem dL_law_280 : decode cL_law 280 = .ok (.iaload, 1) := by decide +kernel
theorem dL_law_281 : decode cL_law 281 = .ok (.invokevirtual 32, 3) := by decide +kernel
theorem dL_law_284 : decode cL_law 284 = .ok (.aload_n 2, 1) := by decide +kernel
theorem dL_law_285 : decode cL_law 285 = .ok (.aload_n 0, 1) := by decide +kernel
theorem dL_law_286 : decode cL_law 286 = .ok (.iload_n 3, 1) := by decide +kernel
theorem dL_law_287 : decode cL_law 287 = .ok (.iconst 1, 1) := by decide +kernel
theorem dL_law_288 : decode cL_law 288 = .ok (.iadd, 1) := by decide +kernel
theorem dL_law_289 : decode cL_law 289 = .ok (.iaload, 1) := by decide +kernel
theorem dL_law_290 : decode cL_law 290 = .ok (.aload_n 0, 1) := by decide +kernel
theorem dL_law_291 : decode cL_law 291 = .ok (.iload_n 3, 1) := by decide +kernel
theorem dL_law_292 : decode cL_law 292 = .ok (.iconst 2, 1) := by decide +kernel
theorem dL_law_293 : decode cL_law 293 = .ok (.iadd, 1) := by decide +kernel
theorem dL_law_294 : decode cL_law 294 = .ok (.iaload, 1) := by decide +kernel
theorem dL_law_295 : decode cL_law 295 = .ok (.invokevirtual 35, 3) := by decide +kernel
theorem dL_law_298 : decode cL_law 298 = .ok (.if_icmp .eq 540, 3) := by decide +kernel
theorem dL_law_301 : decode cL_law 301 = .ok (.iconst 0, 1) := by decide +kernel
theorem dL_law_302 : decode cL_law 302 = .ok (.ireturn, 1) := by decide +kernel
theorem dL_law_303 : decode cL_law 303 = .ok (.aload_n 1, 1) := by decide +kernel
theorem dL_law_304 : decode cL_law 304 = .ok (.aload_n 0, 1) := by decide +kernel
theorem dL_law_305 : decode cL_law 305 = .ok (.iload_n 3, 1) := by decide +kernel
theorem dL_law_306 : decode cL_law 306 = .ok (.iconst 1, 1) := by decide +kernel
theorem dL_law_307 : decode cL_law 307 = .ok (.iadd, 1) := by decide +kernel
theorem dL_law_308 : decode cL_law 308 = .ok (.iaload, 1) := by decide +kernel
theorem dL_law_309 : decode cL_law 309 = .ok (.aload_n 0, 1) := by decide +kernel
theorem dL_law_310 : decode cL_law 310 = .ok (.iload_n 3, 1) := by decide +kernel
theorem dL_law_311 : decode cL_law 311 = .ok (.iconst 2, 1) := by decide +kernel
theorem dL_law_312 : decode cL_law 312 = .ok (.iadd, 1) := by decide +kernel
theorem dL_law_313 : decode cL_law 313 = .ok (.iaload, 1) := by decide +kernel
theorem dL_law_314 : decode cL_law 314 = .ok (.aload_n 0, 1) := by decide +kernel
theorem dL_law_315 : decode cL_law 315 = .ok (.iload_n 3, 1) := by decide +kernel
theorem dL_law_316 : decode cL_law 316 = .ok (.iconst 3, 1) := by decide +kernel
theorem dL_law_317 : decode cL_law 317 = .ok (.iadd, 1) := by decide +kernel
theorem dL_law_318 : decode cL_law 318 = .ok (.iaload, 1) := by decide +kernel
theorem dL_law_319 : decode cL_law 319 = .ok (.invokevirtual 36, 3) := by decide +kernel
theorem dL_law_322 : decode cL_law 322 = .ok (.aload_n 2, 1) := by decide +kernel
theorem dL_law_323 : decode cL_law 323 = .ok (.aload_n 0, 1) := by decide +kernel
theorem dL_law_324 : decode cL_law 324 = .ok (.iload_n 3, 1) := by decide +kernel
theorem dL_law_325 : decode cL_law 325 = .ok (.iconst 1, 1) := by decide +kernel
theorem dL_law_326 : decode cL_law 326 = .ok (.iadd, 1) := by decide +kernel
theorem dL_law_327 : decode cL_law 327 = .ok (.iaload, 1) := by decide +kernel
theorem dL_law_328 : decode cL_law 328 = .ok (.aload_n 0, 1) := by decide +kernel
theorem dL_law_329 : decode cL_law 329 = .ok (.iload_n 3, 1) := by decide +kernel
theorem dL_law_330 : decode cL_law 330 = .ok (.iconst 2, 1) := by decide +kernel
theorem dL_law_331 : decode cL_law 331 = .ok (.iadd, 1) := by decide +kernel
theorem dL_law_332 : decode cL_law 332 = .ok (.iaload, 1) := by decide +kernel
theorem dL_law_333 : decode cL_law 333 = .ok (.aload_n 0, 1) := by decide +kernel
theorem dL_law_334 : decode cL_law 334 = .ok (.iload_n 3, 1) := by decide +kernel
theorem dL_law_335 : decode cL_law 335 = .ok (.iconst 3, 1) := by decide +kernel
theorem dL_law_336 : decode cL_law 336 = .ok (.iadd, 1) := by decide +kernel
theorem dL_law_337 : decode cL_law 337 = .ok (.iaload, 1) := by decide +kernel
theorem dL_law_338 : decode cL_law 338 = .ok (.invokevirtual 40, 3) := by decide +kernel
theorem dL_law_341 : decode cL_law 341 = .ok (.if_icmp .eq 497, 3) := by decide +kernel
theorem dL_law_344 : decode cL_law 344 = .ok (.iconst 0, 1) := by decide +kernel
theorem dL_law_345 : decode cL_law 345 = .ok (.ireturn, 1) := by decide +kernel
theorem dL_law_346 : decode cL_law 346 = .ok (.aload_n 1, 1) := by decide +kernel
theorem dL_law_347 : decode cL_law 347 = .ok (.aload_n 0, 1) := by decide +kernel
theorem dL_law_348 : decode cL_law 348 = .ok (.iload_n 3, 1) := by decide +kernel
theorem dL_law_349 : decode cL_law 349 = .ok (.iconst 1, 1) := by decide +kernel
theorem dL_law_350 : decode cL_law 350 = .ok (.iadd, 1) := by decide +kernel
theorem dL_law_351 : decode cL_law 351 = .ok (.iaload, 1) := by decide +kernel
theorem dL_law_352 : decode cL_law 352 = .ok (.invokevirtual 41, 3) := by decide +kernel
theorem dL_law_355 : decode cL_law 355 = .ok (.aload_n 2, 1) := by decide +kernel
theorem dL_law_356 : decode cL_law 356 = .ok (.aload_n 0, 1) := by decide +kernel
theorem dL_law_357 : decode cL_law 357 = .ok (.iload_n 3, 1) := by decide +kernel
theorem dL_law_358 : decode cL_law 358 = .ok (.iconst 1, 1) := by decide +kernel
theorem dL_law_359 : decode cL_law 359 = .ok (.iadd, 1) := by decide +kernel
theorem dL_law_360 : decode cL_law 360 = .ok (.iaload, 1) := by decide +kernel
theorem dL_law_361 : decode cL_law 361 = .ok (.invokevirtual 44, 3) := by decide +kernel
theorem dL_law_364 : decode cL_law 364 = .ok (.if_icmp .eq 474, 3) := by decide +kernel
theorem dL_law_367 : decode cL_law 367 = .ok (.iconst 0, 1) := by decide +kernel
theorem dL_law_368 : decode cL_law 368 = .ok (.ireturn, 1) := by decide +kernel
theorem dL_law_369 : decode cL_law 369 = .ok (.aload_n 1, 1) := by decide +kernel
theorem dL_law_370 : decode cL_law 370 = .ok (.aload_n 0, 1) := by decide +kernel
theorem dL_law_371 : decode cL_law 371 = .ok (.iload_n 3, 1) := by decide +kernel
theorem dL_law_372 : decode cL_law 372 = .ok (.iconst 1, 1) := by decide +kernel
theorem dL_law_373 : decode cL_law 373 = .ok (.iadd, 1) := by decide +kernel
theorem dL_law_374 : decode cL_law 374 = .ok (.iaload, 1) := by decide +kernel
theorem dL_law_375 : decode cL_law 375 = .ok (.aload_n 0, 1) := by decide +kernel
theorem dL_law_376 : decode cL_law 376 = .ok (.iload_n 3, 1) := by decide +kernel
theorem dL_law_377 : decode cL_law 377 = .ok (.iconst 2, 1) := by decide +kernel
theorem dL_law_378 : decode cL_law 378 = .ok (.iadd, 1) := by decide +kernel
theorem dL_law_379 : decode cL_law 379 = .ok (.iaload, 1) := by decide +kernel
theorem dL_law_380 : decode cL_law 380 = .ok (.invokevirtual 45, 3) := by decide +kernel
theorem dL_law_383 : decode cL_law 383 = .ok (.aload_n 2, 1) := by decide +kernel
theorem dL_law_384 : decode cL_law 384 = .ok (.aload_n 0, 1) := by decide +kernel
theorem dL_law_385 : decode cL_law 385 = .ok (.iload_n 3, 1) := by decide +kernel
theorem dL_law_386 : decode cL_law 386 = .ok (.iconst 1, 1) := by decide +kernel
theorem dL_law_387 : decode cL_law 387 = .ok (.iadd, 1) := by decide +kernel
theorem dL_law_388 : decode cL_law 388 = .ok (.iaload, 1) := by decide +kernel
theorem dL_law_389 : decode cL_law 389 = .ok (.aload_n 0, 1) := by decide +kernel
theorem dL_law_390 : decode cL_law 390 = .ok (.iload_n 3, 1) := by decide +kernel
theorem dL_law_391 : decode cL_law 391 = .ok (.iconst 2, 1) := by decide +kernel
theorem dL_law_392 : decode cL_law 392 = .ok (.iadd, 1) := by decide +kernel
theorem dL_law_393 : decode cL_law 393 = .ok (.iaload, 1) := by decide +kernel
theorem dL_law_394 : decode cL_law 394 = .ok (.invokevirtual 48, 3) := by decide +kernel
theorem dL_law_397 : decode cL_law 397 = .ok (.if_icmp .eq 441, 3) := by decide +kernel
theorem dL_law_400 : decode cL_law 400 = .ok (.iconst 0, 1) := by decide +kernel
theorem dL_law_401 : decode cL_law 401 = .ok (.ireturn, 1) := by decide +kernel
theorem dL_law_402 : decode cL_law 402 = .ok (.aload_n 1, 1) := by decide +kernel
theorem dL_law_403 : decode cL_law 403 = .ok (.invokevirtual 49, 3) := by decide +kernel
theorem dL_law_406 : decode cL_law 406 = .ok (.aload_n 2, 1) := by decide +kernel
theorem dL_law_407 : decode cL_law 407 = .ok (.invokevirtual 52, 3) := by decide +kernel
theorem dL_law_410 : decode cL_law 410 = .ok (.if_icmp .eq 428, 3) := by decide +kernel
theorem dL_law_413 : decode cL_law 413 = .ok (.iconst 0, 1) := by decide +kernel
theorem dL_law_414 : decode cL_law 414 = .ok (.ireturn, 1) := by decide +kernel
theorem dL_law_415 : decode cL_law 415 = .ok (.aload_n 1, 1) := by decide +kernel
theorem dL_law_416 : decode cL_law 416 = .ok (.aload_n 0, 1) := by decide +kernel
theorem dL_law_417 : decode cL_law 417 = .ok (.iload_n 3, 1) := by decide +kernel
theorem dL_law_418 : decode cL_law 418 = .ok (.iconst 1, 1) := by decide +kernel
theorem dL_law_419 : decode cL_law 419 = .ok (.iadd, 1) := by decide +kernel
theorem dL_law_420 : decode cL_law 420 = .ok (.iaload, 1) := by decide +kernel
theorem dL_law_421 : decode cL_law 421 = .ok (.invokevirtual 53, 3) := by decide +kernel
theorem dL_law_424 : decode cL_law 424 = .ok (.aload_n 2, 1) := by decide +kernel
theorem dL_law_425 : decode cL_law 425 = .ok (.aload_n 0, 1) := by decide +kernel
theorem dL_law_426 : decode cL_law 426 = .ok (.iload_n 3, 1) := by decide +kernel
theorem dL_law_427 : decode cL_law 427 = .ok (.iconst 1, 1) := by decide +kernel
theorem dL_law_428 : decode cL_law 428 = .ok (.iadd, 1) := by decide +kernel
theorem dL_law_429 : decode cL_law 429 = .ok (.iaload, 1) := by decide +kernel
theorem dL_law_430 : decode cL_law 430 = .ok (.invokevirtual 56, 3) := by decide +kernel
theorem dL_law_433 : decode cL_law 433 = .ok (.if_icmp .eq 405, 3) := by decide +kernel
theorem dL_law_436 : decode cL_law 436 = .ok (.iconst 0, 1) := by decide +kernel
theorem dL_law_437 : decode cL_law 437 = .ok (.ireturn, 1) := by decide +kernel
theorem dL_law_438 : decode cL_law 438 = .ok (.aload_n 1, 1) := by decide +kernel
theorem dL_law_439 : decode cL_law 439 = .ok (.aload_n 0, 1) := by decide +kernel
theorem dL_law_440 : decode cL_law 440 = .ok (.iload_n 3, 1) := by decide +kernel
theorem dL_law_441 : decode cL_law 441 = .ok (.iconst 1, 1) := by decide +kernel
theorem dL_law_442 : decode cL_law 442 = .ok (.iadd, 1) := by decide +kernel
theorem dL_law_443 : decode cL_law 443 = .ok (.iaload, 1) := by decide +kernel
theorem dL_law_444 : decode cL_law 444 = .ok (.invokevirtual 57, 3) := by decide +kernel
theorem dL_law_447 : decode cL_law 447 = .ok (.aload_n 2, 1) := by decide +kernel
theorem dL_law_448 : decode cL_law 448 = .ok (.aload_n 0, 1) := by decide +kernel
theorem dL_law_449 : decode cL_law 449 = .ok (.iload_n 3, 1) := by decide +kernel
theorem dL_law_450 : decode cL_law 450 = .ok (.iconst 1, 1) := by decide +kernel
theorem dL_law_451 : decode cL_law 451 = .ok (.iadd, 1) := by decide +kernel
theorem dL_law_452 : decode cL_law 452 = .ok (.iaload, 1) := by decide +kernel
theorem dL_law_453 : decode cL_law 453 = .ok (.invokevirtual 60, 3) := by decide +kernel
theorem dL_law_456 : decode cL_law 456 = .ok (.if_icmp .eq 382, 3) := by decide +kernel
theorem dL_law_459 : decode cL_law 459 = .ok (.iconst 0, 1) := by decide +kernel
theorem dL_law_460 : decode cL_law 460 = .ok (.ireturn, 1) := by decide +kernel
theorem dL_law_461 : decode cL_law 461 = .ok (.aload_n 1, 1) := by decide +kernel
theorem dL_law_462 : decode cL_law 462 = .ok (.invokevirtual 61, 3) := by decide +kernel
theorem dL_law_465 : decode cL_law 465 = .ok (.aload_n 2, 1) := by decide +kernel
theorem dL_law_466 : decode cL_law 466 = .ok (.invokevirtual 64, 3) := by decide +kernel
theorem dL_law_469 : decode cL_law 469 = .ok (.if_icmp .eq 369, 3) := by decide +kernel
theorem dL_law_472 : decode cL_law 472 = .ok (.iconst 0, 1) := by decide +kernel
theorem dL_law_473 : decode cL_law 473 = .ok (.ireturn, 1) := by decide +kernel
theorem dL_law_474 : decode cL_law 474 = .ok (.aload_n 1, 1) := by decide +kernel
theorem dL_law_475 : decode cL_law 475 = .ok (.aload_n 0, 1) := by decide +kernel
theorem dL_law_476 : decode cL_law 476 = .ok (.iload_n 3, 1) := by decide +kernel
theorem dL_law_477 : decode cL_law 477 = .ok (.iconst 1, 1) := by decide +kernel
theorem dL_law_478 : decode cL_law 478 = .ok (.iadd, 1) := by decide +kernel
theorem dL_law_479 : decode cL_law 479 = .ok (.iaload, 1) := by decide +kernel
theorem dL_law_480 : decode cL_law 480 = .ok (.invokevirtual 65, 3) := by decide +kernel
theorem dL_law_483 : decode cL_law 483 = .ok (.aload_n 2, 1) := by decide +kernel
theorem dL_law_484 : decode cL_law 484 = .ok (.aload_n 0, 1) := by decide +kernel
theorem dL_law_485 : decode cL_law 485 = .ok (.iload_n 3, 1) := by decide +kernel
theorem dL_law_486 : decode cL_law 486 = .ok (.iconst 1, 1) := by decide +kernel
theorem dL_law_487 : decode cL_law 487 = .ok (.iadd, 1) := by decide +kernel
theorem dL_law_488 : decode cL_law 488 = .ok (.iaload, 1) := by decide +kernel
theorem dL_law_489 : decode cL_law 489 = .ok (.invokevirtual 68, 3) := by decide +kernel
theorem dL_law_492 : decode cL_law 492 = .ok (.if_icmp .eq 346, 3) := by decide +kernel
theorem dL_law_495 : decode cL_law 495 = .ok (.iconst 0, 1) := by decide +kernel
theorem dL_law_496 : decode cL_law 496 = .ok (.ireturn, 1) := by decide +kernel
theorem dL_law_497 : decode cL_law 497 = .ok (.aload_n 1, 1) := by decide +kernel
theorem dL_law_498 : decode cL_law 498 = .ok (.invokevirtual 69, 3) := by decide +kernel
theorem dL_law_501 : decode cL_law 501 = .ok (.aload_n 2, 1) := by decide +kernel
theorem dL_law_502 : decode cL_law 502 = .ok (.invokevirtual 72, 3) := by decide +kernel
theorem dL_law_505 : decode cL_law 505 = .ok (.if_icmp .eq 333, 3) := by decide +kernel
theorem dL_law_508 : decode cL_law 508 = .ok (.iconst 0, 1) := by decide +kernel
theorem dL_law_509 : decode cL_law 509 = .ok (.ireturn, 1) := by decide +kernel
theorem dL_law_510 : decode cL_law 510 = .ok (.aload_n 1, 1) := by decide +kernel
theorem dL_law_511 : decode cL_law 511 = .ok (.aload_n 0, 1) := by decide +kernel
theorem dL_law_512 : decode cL_law 512 = .ok (.iload_n 3, 1) := by decide +kernel
theorem dL_law_513 : decode cL_law 513 = .ok (.iconst 1, 1) := by decide +kernel
theorem dL_law_514 : decode cL_law 514 = .ok (.iadd, 1) := by decide +kernel
theorem dL_law_515 : decode cL_law 515 = .ok (.iaload, 1) := by decide +kernel
theorem dL_law_516 : decode cL_law 516 = .ok (.invokevirtual 73, 3) := by decide +kernel
theorem dL_law_519 : decode cL_law 519 = .ok (.aload_n 2, 1) := by decide +kernel
theorem dL_law_520 : decode cL_law 520 = .ok (.aload_n 0, 1) := by decide +kernel
theorem dL_law_521 : decode cL_law 521 = .ok (.iload_n 3, 1) := by decide +kernel
theorem dL_law_522 : decode cL_law 522 = .ok (.iconst 1, 1) := by decide +kernel
theorem dL_law_523 : decode cL_law 523 = .ok (.iadd, 1) := by decide +kernel
theorem dL_law_524 : decode cL_law 524 = .ok (.iaload, 1) := by decide +kernel
theorem dL_law_525 : decode cL_law 525 = .ok (.invokevirtual 76, 3) := by decide +kernel
theorem dL_law_528 : decode cL_law 528 = .ok (.if_icmp .eq 310, 3) := by decide +kernel
theorem dL_law_531 : decode cL_law 531 = .ok (.iconst 0, 1) := by decide +kernel
theorem dL_law_532 : decode cL_law 532 = .ok (.ireturn, 1) := by decide +kernel
theorem dL_law_533 : decode cL_law 533 = .ok (.aload_n 1, 1) := by decide +kernel
theorem dL_law_534 : decode cL_law 534 = .ok (.invokevirtual 77, 3) := by decide +kernel
theorem dL_law_537 : decode cL_law 537 = .ok (.aload_n 2, 1) := by decide +kernel
theorem dL_law_538 : decode cL_law 538 = .ok (.invokevirtual 80, 3) := by decide +kernel
theorem dL_law_541 : decode cL_law 541 = .ok (.if_icmp .eq 297, 3) := by decide +kernel
theorem dL_law_544 : decode cL_law 544 = .ok (.iconst 0, 1) := by decide +kernel
theorem dL_law_545 : decode cL_law 545 = .ok (.ireturn, 1) := by decide +kernel
theorem dL_law_546 : decode cL_law 546 = .ok (.aload_n 1, 1) := by decide +kernel
theorem dL_law_547 : decode cL_law 547 = .ok (.aload_n 0, 1) := by decide +kernel
theorem dL_law_548 : decode cL_law 548 = .ok (.iload_n 3, 1) := by decide +kernel
theorem dL_law_549 : decode cL_law 549 = .ok (.iconst 1, 1) := by decide +kernel
theorem dL_law_550 : decode cL_law 550 = .ok (.iadd, 1) := by decide +kernel
theorem dL_law_551 : decode cL_law 551 = .ok (.iaload, 1) := by decide +kernel
theorem dL_law_552 : decode cL_law 552 = .ok (.aload_n 0, 1) := by decide +kernel
theorem dL_law_553 : decode cL_law 553 = .ok (.iload_n 3, 1) := by decide +kernel
theorem dL_law_554 : decode cL_law 554 = .ok (.iconst 2, 1) := by decide +kernel
theorem dL_law_555 : decode cL_law 555 = .ok (.iadd, 1) := by decide +kernel
theorem dL_law_556 : decode cL_law 556 = .ok (.iaload, 1) := by decide +kernel
theorem dL_law_557 : decode cL_law 557 = .ok (.invokevirtual 81, 3) := by decide +kernel
theorem dL_law_560 : decode cL_law 560 = .ok (.aload_n 2, 1) := by decide +kernel
theorem dL_law_561 : decode cL_law 561 = .ok (.aload_n 0, 1) := by decide +kernel
theorem dL_law_562 : decode cL_law 562 = .ok (.iload_n 3, 1) := by decide +kernel
theorem dL_law_563 : decode cL_law 563 = .ok (.iconst 1, 1) := by decide +kernel
theorem dL_law_564 : decode cL_law 564 = .ok (.iadd, 1) := by decide +kernel
theorem dL_law_565 : decode cL_law 565 = .ok (.iaload, 1) := by decide +kernel
theorem dL_law_566 : decode cL_law 566 = .ok (.aload_n 0, 1) := by decide +kernel
theorem dL_law_567 : decode cL_law 567 = .ok (.iload_n 3, 1) := by decide +kernel
theorem dL_law_568 : decode cL_law 568 = .ok (.iconst 2, 1) := by decide +kernel
theorem dL_law_569 : decode cL_law 569 = .ok (.iadd, 1) := by decide +kernel
theorem dL_law_570 : decode cL_law 570 = .ok (.iaload, 1) := by decide +kernel
theorem dL_law_571 : decode cL_law 571 = .ok (.invokevirtual 84, 3) := by decide +kernel
theorem dL_law_574 : decode cL_law 574 = .ok (.if_icmp .eq 264, 3) := by decide +kernel
theorem dL_law_577 : decode cL_law 577 = .ok (.iconst 0, 1) := by decide +kernel
theorem dL_law_578 : decode cL_law 578 = .ok (.ireturn, 1) := by decide +kernel
theorem dL_law_579 : decode cL_law 579 = .ok (.aload_n 1, 1) := by decide +kernel
theorem dL_law_580 : decode cL_law 580 = .ok (.invokevirtual 85, 3) := by decide +kernel
theorem dL_law_583 : decode cL_law 583 = .ok (.aload_n 2, 1) := by decide +kernel
theorem dL_law_584 : decode cL_law 584 = .ok (.invokevirtual 88, 3) := by decide +kernel
theorem dL_law_587 : decode cL_law 587 = .ok (.if_icmp .eq 251, 3) := by decide +kernel
theorem dL_law_590 : decode cL_law 590 = .ok (.iconst 0, 1) := by decide +kernel
theorem dL_law_591 : decode cL_law 591 = .ok (.ireturn, 1) := by decide +kernel
theorem dL_law_592 : decode cL_law 592 = .ok (.aload_n 1, 1) := by decide +kernel
theorem dL_law_593 : decode cL_law 593 = .ok (.invokevirtual 89, 3) := by decide +kernel
theorem dL_law_596 : decode cL_law 596 = .ok (.aload_n 2, 1) := by decide +kernel
theorem dL_law_597 : decode cL_law 597 = .ok (.invokevirtual 92, 3) := by decide +kernel
theorem dL_law_600 : decode cL_law 600 = .ok (.if_icmp .eq 238, 3) := by decide +kernel
theorem dL_law_603 : decode cL_law 603 = .ok (.iconst 0, 1) := by decide +kernel
theorem dL_law_604 : decode cL_law 604 = .ok (.ireturn, 1) := by decide +kernel
theorem dL_law_605 : decode cL_law 605 = .ok (.aload_n 1, 1) := by decide +kernel
theorem dL_law_606 : decode cL_law 606 = .ok (.invokevirtual 93, 3) := by decide +kernel
theorem dL_law_609 : decode cL_law 609 = .ok (.aload_n 2, 1) := by decide +kernel
theorem dL_law_610 : decode cL_law 610 = .ok (.invokevirtual 96, 3) := by decide +kernel
theorem dL_law_613 : decode cL_law 613 = .ok (.if_icmp .eq 225, 3) := by decide +kernel
theorem dL_law_616 : decode cL_law 616 = .ok (.iconst 0, 1) := by decide +kernel
theorem dL_law_617 : decode cL_law 617 = .ok (.ireturn, 1) := by decide +kernel
theorem dL_law_618 : decode cL_law 618 = .ok (.aload_n 1, 1) := by decide +kernel
theorem dL_law_619 : decode cL_law 619 = .ok (.aload_n 0, 1) := by decide +kernel
theorem dL_law_620 : decode cL_law 620 = .ok (.iload_n 3, 1) := by decide +kernel
theorem dL_law_621 : decode cL_law 621 = .ok (.iconst 1, 1) := by decide +kernel
theorem dL_law_622 : decode cL_law 622 = .ok (.iadd, 1) := by decide +kernel
theorem dL_law_623 : decode cL_law 623 = .ok (.iaload, 1) := by decide +kernel
theorem dL_law_624 : decode cL_law 624 = .ok (.aload_n 0, 1) := by decide +kernel
theorem dL_law_625 : decode cL_law 625 = .ok (.iload_n 3, 1) := by decide +kernel
theorem dL_law_626 : decode cL_law 626 = .ok (.iconst 2, 1) := by decide +kernel
theorem dL_law_627 : decode cL_law 627 = .ok (.iadd, 1) := by decide +kernel
theorem dL_law_628 : decode cL_law 628 = .ok (.iaload, 1) := by decide +kernel
theorem dL_law_629 : decode cL_law 629 = .ok (.invokevirtual 97, 3) := by decide +kernel
theorem dL_law_632 : decode cL_law 632 = .ok (.aload_n 2, 1) := by decide +kernel
theorem dL_law_633 : decode cL_law 633 = .ok (.aload_n 0, 1) := by decide +kernel
theorem dL_law_634 : decode cL_law 634 = .ok (.iload_n 3, 1) := by decide +kernel
theorem dL_law_635 : decode cL_law 635 = .ok (.iconst 1, 1) := by decide +kernel
theorem dL_law_636 : decode cL_law 636 = .ok (.iadd, 1) := by decide +kernel
theorem dL_law_637 : decode cL_law 637 = .ok (.iaload, 1) := by decide +kernel
theorem dL_law_638 : decode cL_law 638 = .ok (.aload_n 0, 1) := by decide +kernel
theorem dL_law_639 : decode cL_law 639 = .ok (.iload_n 3, 1) := by decide +kernel
theorem dL_law_640 : decode cL_law 640 = .ok (.iconst 2, 1) := by decide +kernel
theorem dL_law_641 : decode cL_law 641 = .ok (.iadd, 1) := by decide +kernel
theorem dL_law_642 : decode cL_law 642 = .ok (.iaload, 1) := by decide +kernel
theorem dL_law_643 : decode cL_law 643 = .ok (.invokevirtual 100, 3) := by decide +kernel
theorem dL_law_646 : decode cL_law 646 = .ok (.if_icmp .eq 192, 3) := by decide +kernel
theorem dL_law_649 : decode cL_law 649 = .ok (.iconst 0, 1) := by decide +kernel
theorem dL_law_650 : decode cL_law 650 = .ok (.ireturn, 1) := by decide +kernel
theorem dL_law_651 : decode cL_law 651 = .ok (.aload_n 1, 1) := by decide +kernel
theorem dL_law_652 : decode cL_law 652 = .ok (.aload_n 0, 1) := by decide +kernel
theorem dL_law_653 : decode cL_law 653 = .ok (.iload_n 3, 1) := by decide +kernel
theorem dL_law_654 : decode cL_law 654 = .ok (.iconst 1, 1) := by decide +kernel
theorem dL_law_655 : decode cL_law 655 = .ok (.iadd, 1) := by decide +kernel
theorem dL_law_656 : decode cL_law 656 = .ok (.iaload, 1) := by decide +kernel
theorem dL_law_657 : decode cL_law 657 = .ok (.invokevirtual 101, 3) := by decide +kernel
theorem dL_law_660 : decode cL_law 660 = .ok (.aload_n 2, 1) := by decide +kernel
theorem dL_law_661 : decode cL_law 661 = .ok (.aload_n 0, 1) := by decide +kernel
theorem dL_law_662 : decode cL_law 662 = .ok (.iload_n 3, 1) := by decide +kernel
theorem dL_law_663 : decode cL_law 663 = .ok (.iconst 1, 1) := by decide +kernel
theorem dL_law_664 : decode cL_law 664 = .ok (.iadd, 1) := by decide +kernel
theorem dL_law_665 : decode cL_law 665 = .ok (.iaload, 1) := by decide +kernel
theorem dL_law_666 : decode cL_law 666 = .ok (.invokevirtual 104, 3) := by decide +kernel
theorem dL_law_669 : decode cL_law 669 = .ok (.if_icmp .eq 169, 3) := by decide +kernel
theorem dL_law_672 : decode cL_law 672 = .ok (.iconst 0, 1) := by decide +kernel
theorem dL_law_673 : decode cL_law 673 = .ok (.ireturn, 1) := by decide +kernel
theorem dL_law_674 : decode cL_law 674 = .ok (.aload_n 1, 1) := by decide +kernel
theorem dL_law_675 : decode cL_law 675 = .ok (.invokevirtual 105, 3) := by decide +kernel
theorem dL_law_678 : decode cL_law 678 = .ok (.aload_n 2, 1) := by decide +kernel
theorem dL_law_679 : decode cL_law 679 = .ok (.invokevirtual 108, 3) := by decide +kernel
theorem dL_law_682 : decode cL_law 682 = .ok (.if_icmp .eq 156, 3) := by decide +kernel
theorem dL_law_685 : decode cL_law 685 = .ok (.iconst 0, 1) := by decide +kernel
theorem dL_law_686 : decode cL_law 686 = .ok (.ireturn, 1) := by decide +kernel
theorem dL_law_687 : decode cL_law 687 = .ok (.aload_n 1, 1) := by decide +kernel
theorem dL_law_688 : decode cL_law 688 = .ok (.aload_n 0, 1) := by decide +kernel
theorem dL_law_689 : decode cL_law 689 = .ok (.iload_n 3, 1) := by decide +kernel
theorem dL_law_690 : decode cL_law 690 = .ok (.iconst 1, 1) := by decide +kernel
theorem dL_law_691 : decode cL_law 691 = .ok (.iadd, 1) := by decide +kernel
theorem dL_law_692 : decode cL_law 692 = .ok (.iaload, 1) := by decide +kernel
theorem dL_law_693 : decode cL_law 693 = .ok (.aload_n 0, 1) := by decide +kernel
theorem dL_law_694 : decode cL_law 694 = .ok (.iload_n 3, 1) := by decide +kernel
theorem dL_law_695 : decode cL_law 695 = .ok (.iconst 2, 1) := by decide +kernel
theorem dL_law_696 : decode cL_law 696 = .ok (.iadd, 1) := by decide +kernel
theorem dL_law_697 : decode cL_law 697 = .ok (.iaload, 1) := by decide +kernel
theorem dL_law_698 : decode cL_law 698 = .ok (.invokevirtual 109, 3) := by decide +kernel
theorem dL_law_701 : decode cL_law 701 = .ok (.aload_n 2, 1) := by decide +kernel
theorem dL_law_702 : decode cL_law 702 = .ok (.aload_n 0, 1) := by decide +kernel
theorem dL_law_703 : decode cL_law 703 = .ok (.iload_n 3, 1) := by decide +kernel
theorem dL_law_704 : decode cL_law 704 = .ok (.iconst 1, 1) := by decide +kernel
theorem dL_law_705 : decode cL_law 705 = .ok (.iadd, 1) := by decide +kernel
theorem dL_law_706 : decode cL_law 706 = .ok (.iaload, 1) := by decide +kernel
theorem dL_law_707 : decode cL_law 707 = .ok (.aload_n 0, 1) := by decide +kernel
theorem dL_law_708 : decode cL_law 708 = .ok (.iload_n 3, 1) := by decide +kernel
theorem dL_law_709 : decode cL_law 709 = .ok (.iconst 2, 1) := by decide +kernel
theorem dL_law_710 : decode cL_law 710 = .ok (.iadd, 1) := by decide +kernel
theorem dL_law_711 : decode cL_law 711 = .ok (.iaload, 1) := by decide +kernel
theorem dL_law_712 : decode cL_law 712 = .ok (.invokevirtual 112, 3) := by decide +kernel
theorem dL_law_715 : decode cL_law 715 = .ok (.if_icmp .eq 123, 3) := by decide +kernel
theorem dL_law_718 : decode cL_law 718 = .ok (.iconst 0, 1) := by decide +kernel
theorem dL_law_719 : decode cL_law 719 = .ok (.ireturn, 1) := by decide +kernel
theorem dL_law_720 : decode cL_law 720 = .ok (.aload_n 1, 1) := by decide +kernel
theorem dL_law_721 : decode cL_law 721 = .ok (.aload_n 0, 1) := by decide +kernel
theorem dL_law_722 : decode cL_law 722 = .ok (.iload_n 3, 1) := by decide +kernel
theorem dL_law_723 : decode cL_law 723 = .ok (.iconst 1, 1) := by decide +kernel
theorem dL_law_724 : decode cL_law 724 = .ok (.iadd, 1) := by decide +kernel
theorem dL_law_725 : decode cL_law 725 = .ok (.iaload, 1) := by decide +kernel
theorem dL_law_726 : decode cL_law 726 = .ok (.invokevirtual 113, 3) := by decide +kernel
theorem dL_law_729 : decode cL_law 729 = .ok (.aload_n 2, 1) := by decide +kernel
theorem dL_law_730 : decode cL_law 730 = .ok (.aload_n 0, 1) := by decide +kernel
theorem dL_law_731 : decode cL_law 731 = .ok (.iload_n 3, 1) := by decide +kernel
theorem dL_law_732 : decode cL_law 732 = .ok (.iconst 1, 1) := by decide +kernel
theorem dL_law_733 : decode cL_law 733 = .ok (.iadd, 1) := by decide +kernel
theorem dL_law_734 : decode cL_law 734 = .ok (.iaload, 1) := by decide +kernel
theorem dL_law_735 : decode cL_law 735 = .ok (.invokevirtual 116, 3) := by decide +kernel
theorem dL_law_738 : decode cL_law 738 = .ok (.if_icmp .eq 100, 3) := by decide +kernel
theorem dL_law_741 : decode cL_law 741 = .ok (.iconst 0, 1) := by decide +kernel
theorem dL_law_742 : decode cL_law 742 = .ok (.ireturn, 1) := by decide +kernel
theorem dL_law_743 : decode cL_law 743 = .ok (.aload_n 1, 1) := by decide +kernel
theorem dL_law_744 : decode cL_law 744 = .ok (.invokevirtual 117, 3) := by decide +kernel
theorem dL_law_747 : decode cL_law 747 = .ok (.aload_n 2, 1) := by decide +kernel
theorem dL_law_748 : decode cL_law 748 = .ok (.invokevirtual 120, 3) := by decide +kernel
theorem dL_law_751 : decode cL_law 751 = .ok (.if_icmp .eq 87, 3) := by decide +kernel
theorem dL_law_754 : decode cL_law 754 = .ok (.iconst 0, 1) := by decide +kernel
theorem dL_law_755 : decode cL_law 755 = .ok (.ireturn, 1) := by decide +kernel
theorem dL_law_756 : decode cL_law 756 = .ok (.aload_n 1, 1) := by decide +kernel
theorem dL_law_757 : decode cL_law 757 = .ok (.aload_n 0, 1) := by decide +kernel
theorem dL_law_758 : decode cL_law 758 = .ok (.iload_n 3, 1) := by decide +kernel
theorem dL_law_759 : decode cL_law 759 = .ok (.iconst 1, 1) := by decide +kernel
theorem dL_law_760 : decode cL_law 760 = .ok (.iadd, 1) := by decide +kernel
theorem dL_law_761 : decode cL_law 761 = .ok (.iaload, 1) := by decide +kernel
theorem dL_law_762 : decode cL_law 762 = .ok (.aload_n 0, 1) := by decide +kernel
end
section
theorem dL_law_763 : decode cL_law 763 = .ok (.iload_n 3, 1) := by decide +kernel
theorem dL_law_764 : decode cL_law 764 = .ok (.iconst 2, 1) := by decide +kernel
theorem dL_law_765 : decode cL_law 765 = .ok (.iadd, 1) := by decide +kernel
theorem dL_law_766 : decode cL_law 766 = .ok (.iaload, 1) := by decide +kernel
theorem dL_law_767 : decode cL_law 767 = .ok (.invokevirtual 121, 3) := by decide +kernel
theorem dL_law_770 : decode cL_law 770 = .ok (.aload_n 2, 1) := by decide +kernel
theorem dL_law_771 : decode cL_law 771 = .ok (.aload_n 0, 1) := by decide +kernel
theorem dL_law_772 : decode cL_law 772 = .ok (.iload_n 3, 1) := by decide +kernel
theorem dL_law_773 : decode cL_law 773 = .ok (.iconst 1, 1) := by decide +kernel
theorem dL_law_774 : decode cL_law 774 = .ok (.iadd, 1) := by decide +kernel
theorem dL_law_775 : decode cL_law 775 = .ok (.iaload, 1) := by decide +kernel
theorem dL_law_776 : decode cL_law 776 = .ok (.aload_n 0, 1) := by decide +kernel
theorem dL_law_777 : decode cL_law 777 = .ok (.iload_n 3, 1) := by decide +kernel
theorem dL_law_778 : decode cL_law 778 = .ok (.iconst 2, 1) := by decide +kernel
theorem dL_law_779 : decode cL_law 779 = .ok (.iadd, 1) := by decide +kernel
theorem dL_law_780 : decode cL_law 780 = .ok (.iaload, 1) := by decide +kernel
theorem dL_law_781 : decode cL_law 781 = .ok (.invokevirtual 124, 3) := by decide +kernel
theorem dL_law_784 : decode cL_law 784 = .ok (.if_icmp .eq 54, 3) := by decide +kernel
theorem dL_law_787 : decode cL_law 787 = .ok (.iconst 0, 1) := by decide +kernel
theorem dL_law_788 : decode cL_law 788 = .ok (.ireturn, 1) := by decide +kernel
theorem dL_law_789 : decode cL_law 789 = .ok (.aload_n 1, 1) := by decide +kernel
theorem dL_law_790 : decode cL_law 790 = .ok (.invokevirtual 125, 3) := by decide +kernel
theorem dL_law_793 : decode cL_law 793 = .ok (.aload_n 2, 1) := by decide +kernel
theorem dL_law_794 : decode cL_law 794 = .ok (.invokevirtual 128, 3) := by decide +kernel
theorem dL_law_797 : decode cL_law 797 = .ok (.if_icmp .eq 41, 3) := by decide +kernel
theorem dL_law_800 : decode cL_law 800 = .ok (.iconst 0, 1) := by decide +kernel
theorem dL_law_801 : decode cL_law 801 = .ok (.ireturn, 1) := by decide +kernel
theorem dL_law_802 : decode cL_law 802 = .ok (.aload_n 1, 1) := by decide +kernel
theorem dL_law_803 : decode cL_law 803 = .ok (.invokevirtual 129, 3) := by decide +kernel
theorem dL_law_806 : decode cL_law 806 = .ok (.aload_n 2, 1) := by decide +kernel
theorem dL_law_807 : decode cL_law 807 = .ok (.invokevirtual 132, 3) := by decide +kernel
theorem dL_law_810 : decode cL_law 810 = .ok (.if_icmp .eq 28, 3) := by decide +kernel
theorem dL_law_813 : decode cL_law 813 = .ok (.iconst 0, 1) := by decide +kernel
theorem dL_law_814 : decode cL_law 814 = .ok (.ireturn, 1) := by decide +kernel
theorem dL_law_815 : decode cL_law 815 = .ok (.aload_n 1, 1) := by decide +kernel
theorem dL_law_816 : decode cL_law 816 = .ok (.aload_n 0, 1) := by decide +kernel
theorem dL_law_817 : decode cL_law 817 = .ok (.iload_n 3, 1) := by decide +kernel
theorem dL_law_818 : decode cL_law 818 = .ok (.iconst 1, 1) := by decide +kernel
theorem dL_law_819 : decode cL_law 819 = .ok (.iadd, 1) := by decide +kernel
theorem dL_law_820 : decode cL_law 820 = .ok (.iaload, 1) := by decide +kernel
theorem dL_law_821 : decode cL_law 821 = .ok (.invokevirtual 133, 3) := by decide +kernel
theorem dL_law_824 : decode cL_law 824 = .ok (.aload_n 2, 1) := by decide +kernel
theorem dL_law_825 : decode cL_law 825 = .ok (.aload_n 0, 1) := by decide +kernel
theorem dL_law_826 : decode cL_law 826 = .ok (.iload_n 3, 1) := by decide +kernel
theorem dL_law_827 : decode cL_law 827 = .ok (.iconst 1, 1) := by decide +kernel
theorem dL_law_828 : decode cL_law 828 = .ok (.iadd, 1) := by decide +kernel
theorem dL_law_829 : decode cL_law 829 = .ok (.iaload, 1) := by decide +kernel
theorem dL_law_830 : decode cL_law 830 = .ok (.invokevirtual 136, 3) := by decide +kernel
theorem dL_law_833 : decode cL_law 833 = .ok (.if_icmp .eq 5, 3) := by decide +kernel
theorem dL_law_836 : decode cL_law 836 = .ok (.iconst 0, 1) := by decide +kernel
theorem dL_law_837 : decode cL_law 837 = .ok (.ireturn, 1) := by decide +kernel
theorem dL_law_838 : decode cL_law 838 = .ok (.iinc 3 4, 3) := by decide +kernel
theorem dL_law_841 : decode cL_law 841 = .ok (.goto (-823), 3) := by decide +kernel
theorem dL_law_844 : decode cL_law 844 = .ok (.iconst 1, 1) := by decide +kernel
theorem dL_law_845 : decode cL_law 845 = .ok (.ireturn, 1) := by decide +kernel
end
section
/-! ===== the abstract machine: one memory of places; AW: from here the method returns with Q ===== -/
abbrev TT : Type := List (Nat × Nat) × (Nat → Nat → Option Nat)
abbrev MU : Type := Nat → Nat → Int32
abbrev MI : Type := MethodName × ByteArray × Nat × Option FieldType
abbrev GG : Type := va_G × (ClassId × ClassId) × (Nat × Nat × (Nat → Int32))
abbrev QQ : Type := Option Int32 → TT → MU → Prop
def aw_S : Nat := 1000000
def aw_cv (ad : Nat → Nat) (v : Value) : Value := match v with
  | .ref k => .ref (ad k)
  | w => w
def aw_isR (ty : FieldType) : Bool := match ty with
  | .int => false
  | .boolean => false
  | _ => true
def aw_ty (ci : Nat) : Nat → FieldType := match ci with
  | 0 => tyX0
  | 1 => tyX1
  | 2 => tyX2
  | 3 => tyX3
  | 4 => tyX4
  | _ => tyX5
def aw_fv (ad : Nat → Nat) (ty : FieldType) (x : Int32) (r : Option Nat) : Value := if aw_isR ty = true then va_rf (r.map ad) else .int x
def aw_fs (ad : Nat → Nat) (ci n : Nat) (f : Nat → Int32) (g : Nat → Option Nat) : List Value := (List.range n).map (fun j => aw_fv ad (aw_ty ci j) (f j) (g j))
def aw_cell (G : GG) (ad : Nat → Nat) (T : TT) (u : MU) (k : Nat) (q : Nat × Nat) : va_E := match q with
  | (0, n) => .inl (G.2.1.1, n, .inl (u k))
  | (1, n) => .inl (G.2.1.2, n, .inr (.inr (.inr (.inr (fun j => (T.2 k j).map ad)))))
  | (ci + 2, n) => .inr (ci, aw_fs ad ci n (u k) (T.2 k))
def aw_ws (G : GG) (ad : Nat → Nat) (T : TT) (u : MU) : va_W := T.1.mapIdx (fun k q => (ad k, aw_cell G ad T u k q))
abbrev aw_tys (G : GG) : List (ClassId × FieldType) := [(G.2.1.1, .int), (G.2.1.2, .object RX2)]
def aw_gt : List Cond := lw_tbl.filter goodWord
def aw_isN (w : Cond) : Bool := match w with
  | .fieldLinkNest .. => true
  | .methodLinkNest .. => true
  | _ => false
def aw_nt : List Cond := lw_tbl.filter aw_isN
def up2 (u : MU) (k j : Nat) (x : Int32) : MU := fun a b => if a = k ∧ b = j then x else u a b
def upz (u : MU) (k : Nat) : MU := fun a b => if a = k then 0 else u a b
def upn (g : Nat → Nat → Option Nat) (k : Nat) : Nat → Nat → Option Nat := fun a b => if a = k then none else g a b
def upr (g : Nat → Nat → Option Nat) (k j v : Nat) : Nat → Nat → Option Nat := fun a b => if a = k ∧ b = j then some v else g a b
def upc (u : MU) (k0 k1 sp dp n : Nat) : MU := fun a b => if a = k1 then va_cpy (u k0) (u k1) sp dp n b else u a b
def aw_wf (T : TT) : Prop := (∀ k j q, T.2 k j = some q → q < T.1.length) ∧ T.1.length < 1000
def aw_C (G : GG) (d : Nat) (mi : MI) (p : Program) (R : Room) (s : State) (m : MethodId) (args : Array Value) (meth : Method) (c : Code) : Prop :=
  p.tables.exec = Jvm.exec ∧ c.code = mi.2.1 ∧ c.maxLocals = mi.2.2.1 ∧ s.vm.findClass mi.1.cls = some m.cls ∧ (∀ w ∈ aw_gt, w.before args s = true) ∧ (∀ w ∈ aw_nt, va_Nw w s) ∧ va_AO RX2 s ∧ va_K G.1 vwCl (aw_tys G) s ∧ (d ≤ R.frames ∧ 40 * d ≤ R.locals) ∧ (mi.1.name = "<init>" → meth.name = "<init>")
def aw_X (G : GG) (mi : MI) (ad : Nat → Nat) (A : Nat → Prop) (s : State) : Prop :=
  ad aw_S = G.2.2.1 ∧ (mi.1 = x → va_X G.2.2.1 G.2.2.2.1 G.2.2.2.2 s s.heap ∧ G.2.2.1 < s.heap.size ∧ ¬ A G.2.2.1)
def aw_R (G : GG) (ad : Nat → Nat) (A : Nat → Prop) (T : TT) (u : MU) (H0 H : Heap) (locs : List Loc) : Prop :=
  va_P G.1 vwCl (aw_ws G ad T u) H ∧ va_D A (aw_ws G ad T u) ∧ va_S A H0 H locs ∧ aw_wf T
def aw_sv (v : Value) : Bool := match v with
  | .int _ => true
  | .ref _ => true
  | _ => false
def aw_L (mi : MI) (ad : Nat → Nat) (L : List Value) (ls : Array Slot) : Prop :=
  L.length = mi.2.2.1 ∧ ls.size = mi.2.2.1 ∧ lv_wf ls ∧ ∀ (i : Nat) (v : Value), L[i]? = some v → aw_sv v = true → ls[i]? = some (.val (aw_cv ad v))
def aw_ok (n : Nat) (v : Value) : Prop := match v with
  | .ref k => k < n ∨ k = aw_S
  | _ => True
def aw_okl (n : Nat) (L : List Value) : Prop := ∀ v ∈ L, aw_ok n v
def aw_oks (n : Nat) (st : List Value) : Prop := ∀ v ∈ st, aw_sv v = true ∧ aw_ok n v
def aw_agree (n : Nat) (ad ad' : Nat → Nat) : Prop := (∀ k, k < n → ad' k = ad k) ∧ ad' aw_S = ad aw_S
def aw_ret (mi : MI) (pc : Nat) (r : Option Int32) : Prop := match r with
  | none => decode mi.2.1 pc = .ok (.return_, 1) ∧ mi.2.2.2 = none
  | some v => decode mi.2.1 pc = .ok (.ireturn, 1) ∧ ∃ ty, mi.2.2.2 = some ty ∧ narrow ty (.int v) = .int v
def aw_rv (r : Option Int32) : List Value := match r with
  | none => []
  | some v => [.int v]
def AW (G : GG) (d : Nat) (mi : MI) (pc : Nat) (L st : List Value) (T : TT) (u : MU) (kc ks : Nat) (Q : QQ) : Prop :=
  ∀ (p : Program) (l : Launch) (e : Env) (R : Room) (s : State) (m : MethodId) (args : Array Value) (below : List Frame) (meth : Method) (c : Code) (H : Heap) (locs : List Loc) (cells slots : Nat) (A : Nat → Prop) (ad : Nat → Nat) (ls : Array Slot) (Qm : State → Prop),
    aw_C G d mi p R s m args meth c → aw_X G mi ad A s → aw_R G ad A T u s.heap H locs → aw_L mi ad L ls → aw_okl T.1.length L → aw_oks T.1.length st → (cells + kc ≤ R.cells ∧ slots + ks ≤ R.slots) → (∀ q, s.heap.size ≤ q → A q) →
    (∀ (r : Option Int32) (T' : TT) (u' : MU) (H' : Heap) (locs' : List Loc) (ad' : Nat → Nat) (pc' : Nat) (ls' : Array Slot), Q r T' u' → aw_agree T.1.length ad ad' → T.1.length ≤ T'.1.length → aw_R G ad' A T' u' s.heap H' locs' → aw_ret mi pc' r → W p l e R s m args below meth c H' locs' R.cells R.slots Qm (F0 m pc' ls' (aw_rv r))) →
    W p l e R s m args below meth c H locs cells slots Qm (F0 m pc ls (st.map (aw_cv ad)))
/-! small facts -/
theorem aw_ws_at {G : GG} {ad : Nat → Nat} {T : TT} {u : MU} {k : Nat} {q : Nat × Nat} (h : T.1[k]? = some q) : (aw_ws G ad T u)[k]? = some (ad k, aw_cell G ad T u k q) := by
  simp [aw_ws, h]
theorem aw_ws_inv {G : GG} {ad : Nat → Nat} {T : TT} {u : MU} {k : Nat} {z : Nat × va_E} (h : (aw_ws G ad T u)[k]? = some z) : ∃ q, T.1[k]? = some q ∧ z = (ad k, aw_cell G ad T u k q) := by
  simp only [aw_ws, List.getElem?_mapIdx] at h
  cases hq : T.1[k]? with
  | none => rw [hq] at h; cases h
  | some q => rw [hq] at h; exact ⟨q, rfl, (Option.some.inj h).symm⟩
theorem aw_ws_len {G : GG} {ad : Nat → Nat} {T : TT} {u : MU} : (aw_ws G ad T u).length = T.1.length := by simp [aw_ws]
theorem aw_lt {T : TT} {k : Nat} {q : Nat × Nat} (h : T.1[k]? = some q) : k < T.1.length := (List.getElem?_eq_some_iff.mp h).1
theorem aw_oks_i {n : Nat} {st : List Value} (y : Int32) (h : aw_oks n st) : aw_oks n (.int y :: st) := fun v hv => (List.mem_cons.mp hv).elim (fun e => by subst e; exact ⟨rfl, trivial⟩) (h v)
theorem aw_oks_c {n k : Nat} {st : List Value} (h0 : aw_ok n (.ref k)) (h : aw_oks n st) : aw_oks n (.ref k :: st) := fun v hv => (List.mem_cons.mp hv).elim (fun e => by subst e; exact ⟨rfl, h0⟩) (h v)
theorem aw_oks_t {n : Nat} {v : Value} {st : List Value} (h : aw_oks n (v :: st)) : aw_oks n st := fun w hw => h w (List.mem_cons_of_mem _ hw)
theorem aw_oks_h {n : Nat} {v : Value} {st : List Value} (h : aw_oks n (v :: st)) : aw_ok n v := (h v List.mem_cons_self).2
theorem aw_cat {v : Value} (ad : Nat → Nat) (h : aw_sv v = true) : (aw_cv ad v).category = 1 := by
  cases v <;> first | rfl | (simp [aw_sv] at h)
theorem aw_cv_agree {n : Nat} {ad ad' : Nat → Nat} {v : Value} (h : aw_agree n ad ad') (hv : aw_ok n v) : aw_cv ad' v = aw_cv ad v := by
  cases v with
  | ref k =>
    show Value.ref (ad' k) = Value.ref (ad k)
    rcases hv with hv | hv
    · rw [h.1 k hv]
    · rw [hv, h.2]
  | _ => rfl
theorem aw_st_agree {n : Nat} {ad ad' : Nat → Nat} {st : List Value} (h : aw_agree n ad ad') (hv : aw_oks n st) : st.map (aw_cv ad') = st.map (aw_cv ad) := List.map_congr_left (fun v hm => aw_cv_agree h (hv v hm).2)
theorem aw_L_agree {mi : MI} {n : Nat} {ad ad' : Nat → Nat} {L : List Value} {ls : Array Slot} (h : aw_agree n ad ad') (ho : aw_okl n L) (hL : aw_L mi ad L ls) : aw_L mi ad' L ls :=
  ⟨hL.1, hL.2.1, hL.2.2.1, fun i v hi hv => by rw [aw_cv_agree h (ho v (List.mem_of_getElem? hi))]; exact hL.2.2.2 i v hi hv⟩
theorem aw_ok_mono {n n' : Nat} (h : n ≤ n') {v : Value} (hv : aw_ok n v) : aw_ok n' v := by
  cases v with
  | ref k => exact hv.elim (fun q => Or.inl (Nat.lt_of_lt_of_le q h)) Or.inr
  | _ => trivial
theorem aw_okl_mono {n n' : Nat} (h : n ≤ n') {L : List Value} (hL : aw_okl n L) : aw_okl n' L := fun v hv => aw_ok_mono h (hL v hv)
theorem aw_oks_mono {n n' : Nat} (h : n ≤ n') {L : List Value} (hL : aw_oks n L) : aw_oks n' L := fun v hv => ⟨(hL v hv).1, aw_ok_mono h (hL v hv).2⟩
theorem aw_agree_trans {n n' : Nat} {a b c : Nat → Nat} (h : n ≤ n') (h1 : aw_agree n a b) (h2 : aw_agree n' b c) : aw_agree n a c := ⟨fun k hk => (h2.1 k (Nat.lt_of_lt_of_le hk h)).trans (h1.1 k hk), h2.2.trans h1.2⟩
theorem aw_agree_rf {n : Nat} {a : Nat → Nat} : aw_agree n a a := ⟨fun _ _ => rfl, rfl⟩
def aw_lv (ad : Nat → Nat) (L : List Value) : List (Nat × Value) := (List.range L.length).filterMap (fun i => match L[i]? with
  | some v => if aw_sv v = true then some (i, aw_cv ad v) else none
  | none => none)
theorem aw_lv_mem {ad : Nat → Nat} {L : List Value} {i : Nat} {v : Value} (h : L[i]? = some v) (hv : aw_sv v = true) : (i, aw_cv ad v) ∈ aw_lv ad L := by
  refine List.mem_filterMap.mpr ⟨i, List.mem_range.mpr (List.getElem?_eq_some_iff.mp h).1, ?_⟩
  simp [h, hv]
theorem aw_lv_inv {ad : Nat → Nat} {L : List Value} {q : Nat × Value} (h : q ∈ aw_lv ad L) : ∃ v, L[q.1]? = some v ∧ aw_sv v = true ∧ q.2 = aw_cv ad v := by
  obtain ⟨i, -, hi⟩ := List.mem_filterMap.mp h
  cases hL : L[i]? with
  | none => rw [hL] at hi; cases hi
  | some v =>
    rw [hL] at hi
    by_cases hv : aw_sv v = true
    · simp only [hv, if_true] at hi
      cases hi
      exact ⟨v, hL, hv, rfl⟩
    · simp [hv] at hi
theorem aw_L_has {mi : MI} {ad : Nat → Nat} {L : List Value} {ls : Array Slot} (h : aw_L mi ad L ls) : lv_has ls mi.2.2.1 (aw_lv ad L) := ⟨h.2.1, h.2.2.1, fun q hq => by
  obtain ⟨v, h1, h2, h3⟩ := aw_lv_inv hq
  rw [h3]
  exact h.2.2.2 q.1 v h1 h2⟩
theorem aw_L_set {mi : MI} {ad : Nat → Nat} {L : List Value} {ls ls' : Array Slot} {i : Nat} {v : Value} (h : aw_L mi ad L ls) (h' : lv_has ls' mi.2.2.1 ((i, aw_cv ad v) :: (aw_lv ad L).filter (fun q => !(q.1 == i) && !(q.1 + 1 == i && q.2.category == 2)))) : aw_L mi ad (L.set i v) ls' := by
  refine ⟨by rw [List.length_set]; exact h.1, h'.1, h'.2.1, fun j w hj hw => ?_⟩
  by_cases hji : j = i
  · subst hji
    have hl : j < L.length := by
      have := (List.getElem?_eq_some_iff.mp hj).1
      rwa [List.length_set] at this
    rw [List.getElem?_set_self hl] at hj
    cases hj
    exact h'.2.2 (j, aw_cv ad v) List.mem_cons_self
  · rw [List.getElem?_set_ne (fun e => hji e.symm)] at hj
    refine h'.2.2 (j, aw_cv ad w) (List.mem_cons_of_mem _ (List.mem_filter.mpr ⟨aw_lv_mem hj hw, ?_⟩))
    have hc := aw_cat ad hw
    simp [hji, hc]
theorem aw_okl_set {n : Nat} {L : List Value} {i : Nat} {v : Value} (h : aw_okl n L) (hv : aw_ok n v) : aw_okl n (L.set i v) := fun w hw => (List.mem_or_eq_of_mem_set hw).elim (h w) (fun e => by rw [e]; exact hv)
theorem AW.mono {G : GG} {d d' : Nat} {mi : MI} {pc : Nat} {L st : List Value} {T : TT} {u : MU} {kc ks : Nat} {Q : QQ} (hd : d ≤ d') (h : AW G d mi pc L st T u kc ks Q) : AW G d' mi pc L st T u kc ks Q := by
  intro p l e R s m args below meth c H locs cells slots A ad ls Qm hC
  obtain ⟨c1, c2, c3, c4, c5, c6, c7, c8, ⟨c9, c10⟩, c11⟩ := hC
  exact h p l e R s m args below meth c H locs cells slots A ad ls Qm ⟨c1, c2, c3, c4, c5, c6, c7, c8, ⟨by omega, by omega⟩, c11⟩
theorem AW.post {G : GG} {d : Nat} {mi : MI} {pc : Nat} {L st : List Value} {T : TT} {u : MU} {kc ks : Nat} {Q Q' : QQ} (hq : ∀ r T' u', Q r T' u' → Q' r T' u') (h : AW G d mi pc L st T u kc ks Q) : AW G d mi pc L st T u kc ks Q' := by
  intro p l e R s m args below meth c H locs cells slots A ad ls Qm hC hX hR hL hoL hoS hk hA hret
  exact h p l e R s m args below meth c H locs cells slots A ad ls Qm hC hX hR hL hoL hoS hk hA (fun r T' u' H' locs' ad' pc' ls' q => hret r T' u' H' locs' ad' pc' ls' (hq r T' u' q))

theorem A_iconst {G : GG} {d : Nat} {mi : MI} {pc : Nat} {L st : List Value} {T : TT} {u : MU} {kc ks : Nat} {Q : QQ} {n : Int} (v : Int32) (hd : decode mi.2.1 pc = .ok (.iconst n, 1)) (hv : Int32.ofInt n = v) (kk : AW G d mi (pc + 1) L (.int v :: st) T u kc ks Q) : AW G d mi pc L st T u kc ks Q := by
  intro p l e R s m args below meth c H locs cells slots A ad ls Qm hC hX hR hL hoL hoS hk hA hret
  refine lv_iconst hC.1 hC.2.1 hd hv ?_
  exact kk p l e R s m args below meth c H locs cells slots A ad ls Qm hC hX hR hL hoL (aw_oks_i v hoS) hk hA hret

theorem A_bipush {G : GG} {d : Nat} {mi : MI} {pc : Nat} {L st : List Value} {T : TT} {u : MU} {kc ks : Nat} {Q : QQ} {n : Int} (v : Int32) (hd : decode mi.2.1 pc = .ok (.bipush n, 2)) (hv : (Int8.ofInt n).toInt32 = v) (kk : AW G d mi (pc + 2) L (.int v :: st) T u kc ks Q) : AW G d mi pc L st T u kc ks Q := by
  intro p l e R s m args below meth c H locs cells slots A ad ls Qm hC hX hR hL hoL hoS hk hA hret
  refine lv_bipush hC.1 hC.2.1 hd hv ?_
  exact kk p l e R s m args below meth c H locs cells slots A ad ls Qm hC hX hR hL hoL (aw_oks_i v hoS) hk hA hret

theorem A_sipush {G : GG} {d : Nat} {mi : MI} {pc : Nat} {L st : List Value} {T : TT} {u : MU} {kc ks : Nat} {Q : QQ} {n : Int} (v : Int32) (hd : decode mi.2.1 pc = .ok (.sipush n, 3)) (hv : (Int16.ofInt n).toInt32 = v) (kk : AW G d mi (pc + 3) L (.int v :: st) T u kc ks Q) : AW G d mi pc L st T u kc ks Q := by
  intro p l e R s m args below meth c H locs cells slots A ad ls Qm hC hX hR hL hoL hoS hk hA hret
  refine lv_sipush hC.1 hC.2.1 hd hv ?_
  exact kk p l e R s m args below meth c H locs cells slots A ad ls Qm hC hX hR hL hoL (aw_oks_i v hoS) hk hA hret

theorem A_ldc {G : GG} {d : Nat} {mi : MI} {pc : Nat} {L st : List Value} {T : TT} {u : MU} {kc ks : Nat} {Q : QQ} {index : Nat} {v : Int32} (hd : decode mi.2.1 pc = .ok (.ldc index, 2)) (hw : Cond.constant mi.1.cls index v ∈ aw_gt) (kk : AW G d mi (pc + 2) L (.int v :: st) T u kc ks Q) : AW G d mi pc L st T u kc ks Q := by
  intro p l e R s m args below meth c H locs cells slots A ad ls Qm hC hX hR hL hoL hoS hk hA hret
  refine lv_ldc hC.1 hC.2.1 hC.2.2.2.1 (hC.2.2.2.2.1 _ hw) hd ?_
  exact kk p l e R s m args below meth c H locs cells slots A ad ls Qm hC hX hR hL hoL (aw_oks_i v hoS) hk hA hret

theorem A_ldcw {G : GG} {d : Nat} {mi : MI} {pc : Nat} {L st : List Value} {T : TT} {u : MU} {kc ks : Nat} {Q : QQ} {index : Nat} {v : Int32} (hd : decode mi.2.1 pc = .ok (.ldc_w index, 3)) (hw : Cond.constant mi.1.cls index v ∈ aw_gt) (kk : AW G d mi (pc + 3) L (.int v :: st) T u kc ks Q) : AW G d mi pc L st T u kc ks Q := by
  intro p l e R s m args below meth c H locs cells slots A ad ls Qm hC hX hR hL hoL hoS hk hA hret
  refine lv_ldcw hC.1 hC.2.1 hC.2.2.2.1 (hC.2.2.2.2.1 _ hw) hd ?_
  exact kk p l e R s m args below meth c H locs cells slots A ad ls Qm hC hX hR hL hoL (aw_oks_i v hoS) hk hA hret

theorem A_iloadn {G : GG} {d : Nat} {mi : MI} {pc : Nat} {L st : List Value} {T : TT} {u : MU} {kc ks : Nat} {Q : QQ} {i : Fin 4} {v : Int32} (hd : decode mi.2.1 pc = .ok (.iload_n i, 1)) (hl : L[(i : Nat)]? = some (.int v)) (kk : AW G d mi (pc + 1) L (.int v :: st) T u kc ks Q) : AW G d mi pc L st T u kc ks Q := by
  intro p l e R s m args below meth c H locs cells slots A ad ls Qm hC hX hR hL hoL hoS hk hA hret
  refine lv_iload_n hC.1 hC.2.1 hd rfl (hL.2.2.2 _ _ hl rfl) ?_
  exact kk p l e R s m args below meth c H locs cells slots A ad ls Qm hC hX hR hL hoL (aw_oks_i v hoS) hk hA hret

theorem A_iload {G : GG} {d : Nat} {mi : MI} {pc : Nat} {L st : List Value} {T : TT} {u : MU} {kc ks : Nat} {Q : QQ} {i : Nat} {v : Int32} (hd : decode mi.2.1 pc = .ok (.iload i, 2)) (hl : L[i]? = some (.int v)) (kk : AW G d mi (pc + 2) L (.int v :: st) T u kc ks Q) : AW G d mi pc L st T u kc ks Q := by
  intro p l e R s m args below meth c H locs cells slots A ad ls Qm hC hX hR hL hoL hoS hk hA hret
  refine lv_iload hC.1 hC.2.1 hd (hL.2.2.2 _ _ hl rfl) ?_
  exact kk p l e R s m args below meth c H locs cells slots A ad ls Qm hC hX hR hL hoL (aw_oks_i v hoS) hk hA hret

theorem A_aloadn {G : GG} {d : Nat} {mi : MI} {pc : Nat} {L st : List Value} {T : TT} {u : MU} {kc ks : Nat} {Q : QQ} {i : Fin 4} {v : Nat} (hd : decode mi.2.1 pc = .ok (.aload_n i, 1)) (hl : L[(i : Nat)]? = some (.ref v)) (kk : AW G d mi (pc + 1) L (.ref v :: st) T u kc ks Q) : AW G d mi pc L st T u kc ks Q := by
  intro p l e R s m args below meth c H locs cells slots A ad ls Qm hC hX hR hL hoL hoS hk hA hret
  refine lv_aload_n hC.1 hC.2.1 hd rfl (hL.2.2.2 _ _ hl rfl) ?_
  exact kk p l e R s m args below meth c H locs cells slots A ad ls Qm hC hX hR hL hoL (aw_oks_c (hoL _ (List.mem_of_getElem? hl)) hoS) hk hA hret

theorem A_aload {G : GG} {d : Nat} {mi : MI} {pc : Nat} {L st : List Value} {T : TT} {u : MU} {kc ks : Nat} {Q : QQ} {i : Nat} {v : Nat} (hd : decode mi.2.1 pc = .ok (.aload i, 2)) (hl : L[i]? = some (.ref v)) (kk : AW G d mi (pc + 2) L (.ref v :: st) T u kc ks Q) : AW G d mi pc L st T u kc ks Q := by
  intro p l e R s m args below meth c H locs cells slots A ad ls Qm hC hX hR hL hoL hoS hk hA hret
  refine lv_aload hC.1 hC.2.1 hd (hL.2.2.2 _ _ hl rfl) ?_
  exact kk p l e R s m args below meth c H locs cells slots A ad ls Qm hC hX hR hL hoL (aw_oks_c (hoL _ (List.mem_of_getElem? hl)) hoS) hk hA hret

theorem A_istoren {G : GG} {d : Nat} {mi : MI} {pc : Nat} {L st : List Value} {T : TT} {u : MU} {kc ks : Nat} {Q : QQ} {i : Fin 4} {v : Int32} (hd : decode mi.2.1 pc = .ok (.istore_n i, 1)) (hi : (i : Nat) < L.length) (kk : AW G d mi (pc + 1) (L.set (i : Nat) (.int v)) st T u kc ks Q) : AW G d mi pc L (.int v :: st) T u kc ks Q := by
  intro p l e R s m args below meth c H locs cells slots A ad ls Qm hC hX hR hL hoL hoS hk hA hret
  refine lv_istore_n hC.1 hC.2.1 hd rfl (aw_L_has hL) (by rw [← hL.1]; exact hi) rfl (fun ls2 hl2 => ?_)
  exact kk p l e R s m args below meth c H locs cells slots A ad ls2 Qm hC hX hR (aw_L_set (v := .int v) hL hl2) (aw_okl_set hoL trivial) (aw_oks_t hoS) hk hA hret

theorem A_istore {G : GG} {d : Nat} {mi : MI} {pc : Nat} {L st : List Value} {T : TT} {u : MU} {kc ks : Nat} {Q : QQ} {i : Nat} {v : Int32} (hd : decode mi.2.1 pc = .ok (.istore i, 2)) (hi : i < L.length) (kk : AW G d mi (pc + 2) (L.set i (.int v)) st T u kc ks Q) : AW G d mi pc L (.int v :: st) T u kc ks Q := by
  intro p l e R s m args below meth c H locs cells slots A ad ls Qm hC hX hR hL hoL hoS hk hA hret
  refine lv_istore hC.1 hC.2.1 hd (aw_L_has hL) (by rw [← hL.1]; exact hi) rfl (fun ls2 hl2 => ?_)
  exact kk p l e R s m args below meth c H locs cells slots A ad ls2 Qm hC hX hR (aw_L_set (v := .int v) hL hl2) (aw_okl_set hoL trivial) (aw_oks_t hoS) hk hA hret

theorem A_astoren {G : GG} {d : Nat} {mi : MI} {pc : Nat} {L st : List Value} {T : TT} {u : MU} {kc ks : Nat} {Q : QQ} {i : Fin 4} {v : Nat} (hd : decode mi.2.1 pc = .ok (.astore_n i, 1)) (hi : (i : Nat) < L.length) (kk : AW G d mi (pc + 1) (L.set (i : Nat) (.ref v)) st T u kc ks Q) : AW G d mi pc L (.ref v :: st) T u kc ks Q := by
  intro p l e R s m args below meth c H locs cells slots A ad ls Qm hC hX hR hL hoL hoS hk hA hret
  refine lv_astore_n hC.1 hC.2.1 hd rfl (aw_L_has hL) (by rw [← hL.1]; exact hi) rfl (fun ls2 hl2 => ?_)
  exact kk p l e R s m args below meth c H locs cells slots A ad ls2 Qm hC hX hR (aw_L_set (v := .ref v) hL hl2) (aw_okl_set hoL (aw_oks_h hoS)) (aw_oks_t hoS) hk hA hret

theorem A_astore {G : GG} {d : Nat} {mi : MI} {pc : Nat} {L st : List Value} {T : TT} {u : MU} {kc ks : Nat} {Q : QQ} {i : Nat} {v : Nat} (hd : decode mi.2.1 pc = .ok (.astore i, 2)) (hi : i < L.length) (kk : AW G d mi (pc + 2) (L.set i (.ref v)) st T u kc ks Q) : AW G d mi pc L (.ref v :: st) T u kc ks Q := by
  intro p l e R s m args below meth c H locs cells slots A ad ls Qm hC hX hR hL hoL hoS hk hA hret
  refine lv_astore hC.1 hC.2.1 hd (aw_L_has hL) (by rw [← hL.1]; exact hi) rfl (fun ls2 hl2 => ?_)
  exact kk p l e R s m args below meth c H locs cells slots A ad ls2 Qm hC hX hR (aw_L_set (v := .ref v) hL hl2) (aw_okl_set hoL (aw_oks_h hoS)) (aw_oks_t hoS) hk hA hret

theorem A_iinc {G : GG} {d : Nat} {mi : MI} {pc : Nat} {L st : List Value} {T : TT} {u : MU} {kc ks : Nat} {Q : QQ} {i : Nat} {n : Int} {v : Int32} (w : Int32) (hd : decode mi.2.1 pc = .ok (.iinc i n, 3)) (hl : L[i]? = some (.int v)) (hw : v + Int32.ofInt n = w) (kk : AW G d mi (pc + 3) (L.set i (.int w)) st T u kc ks Q) : AW G d mi pc L st T u kc ks Q := by
  intro p l e R s m args below meth c H locs cells slots A ad ls Qm hC hX hR hL hoL hoS hk hA hret
  obtain ⟨j, hj⟩ := List.getElem?_of_mem (aw_lv_mem (ad := ad) hl rfl)
  refine lv_iinc hC.1 hC.2.1 hd (aw_L_has hL) hj hw (by rw [← hL.1]; exact (List.getElem?_eq_some_iff.mp hl).1) rfl (fun ls2 hl2 => ?_)
  exact kk p l e R s m args below meth c H locs cells slots A ad ls2 Qm hC hX hR (aw_L_set (v := .int w) hL hl2) (aw_okl_set hoL trivial) hoS hk hA hret

theorem A_iadd {G : GG} {d : Nat} {mi : MI} {pc : Nat} {L st : List Value} {T : TT} {u : MU} {kc ks : Nat} {Q : QQ} {v w : Int32} (hd : decode mi.2.1 pc = .ok (.iadd, 1)) (kk : AW G d mi (pc + 1) L (.int (v + w) :: st) T u kc ks Q) : AW G d mi pc L (.int w :: .int v :: st) T u kc ks Q := by
  intro p l e R s m args below meth c H locs cells slots A ad ls Qm hC hX hR hL hoL hoS hk hA hret
  refine lv_iadd hC.1 hC.2.1 hd ?_
  exact kk p l e R s m args below meth c H locs cells slots A ad ls Qm hC hX hR hL hoL (aw_oks_i _ (aw_oks_t (aw_oks_t hoS))) hk hA hret

theorem A_isub {G : GG} {d : Nat} {mi : MI} {pc : Nat} {L st : List Value} {T : TT} {u : MU} {kc ks : Nat} {Q : QQ} {v w : Int32} (hd : decode mi.2.1 pc = .ok (.isub, 1)) (kk : AW G d mi (pc + 1) L (.int (v - w) :: st) T u kc ks Q) : AW G d mi pc L (.int w :: .int v :: st) T u kc ks Q := by
  intro p l e R s m args below meth c H locs cells slots A ad ls Qm hC hX hR hL hoL hoS hk hA hret
  refine lv_isub hC.1 hC.2.1 hd ?_
  exact kk p l e R s m args below meth c H locs cells slots A ad ls Qm hC hX hR hL hoL (aw_oks_i _ (aw_oks_t (aw_oks_t hoS))) hk hA hret

theorem A_imul {G : GG} {d : Nat} {mi : MI} {pc : Nat} {L st : List Value} {T : TT} {u : MU} {kc ks : Nat} {Q : QQ} {v w : Int32} (hd : decode mi.2.1 pc = .ok (.imul, 1)) (kk : AW G d mi (pc + 1) L (.int (v * w) :: st) T u kc ks Q) : AW G d mi pc L (.int w :: .int v :: st) T u kc ks Q := by
  intro p l e R s m args below meth c H locs cells slots A ad ls Qm hC hX hR hL hoL hoS hk hA hret
  refine lv_imul hC.1 hC.2.1 hd ?_
  exact kk p l e R s m args below meth c H locs cells slots A ad ls Qm hC hX hR hL hoL (aw_oks_i _ (aw_oks_t (aw_oks_t hoS))) hk hA hret

theorem A_iand {G : GG} {d : Nat} {mi : MI} {pc : Nat} {L st : List Value} {T : TT} {u : MU} {kc ks : Nat} {Q : QQ} {v w : Int32} (hd : decode mi.2.1 pc = .ok (.iand, 1)) (kk : AW G d mi (pc + 1) L (.int (v &&& w) :: st) T u kc ks Q) : AW G d mi pc L (.int w :: .int v :: st) T u kc ks Q := by
  intro p l e R s m args below meth c H locs cells slots A ad ls Qm hC hX hR hL hoL hoS hk hA hret
  refine lv_iand hC.1 hC.2.1 hd ?_
  exact kk p l e R s m args below meth c H locs cells slots A ad ls Qm hC hX hR hL hoL (aw_oks_i _ (aw_oks_t (aw_oks_t hoS))) hk hA hret

theorem A_ior {G : GG} {d : Nat} {mi : MI} {pc : Nat} {L st : List Value} {T : TT} {u : MU} {kc ks : Nat} {Q : QQ} {v w : Int32} (hd : decode mi.2.1 pc = .ok (.ior, 1)) (kk : AW G d mi (pc + 1) L (.int (v ||| w) :: st) T u kc ks Q) : AW G d mi pc L (.int w :: .int v :: st) T u kc ks Q := by
  intro p l e R s m args below meth c H locs cells slots A ad ls Qm hC hX hR hL hoL hoS hk hA hret
  refine lv_ior hC.1 hC.2.1 hd ?_
  exact kk p l e R s m args below meth c H locs cells slots A ad ls Qm hC hX hR hL hoL (aw_oks_i _ (aw_oks_t (aw_oks_t hoS))) hk hA hret

theorem A_ixor {G : GG} {d : Nat} {mi : MI} {pc : Nat} {L st : List Value} {T : TT} {u : MU} {kc ks : Nat} {Q : QQ} {v w : Int32} (hd : decode mi.2.1 pc = .ok (.ixor, 1)) (kk : AW G d mi (pc + 1) L (.int (v ^^^ w) :: st) T u kc ks Q) : AW G d mi pc L (.int w :: .int v :: st) T u kc ks Q := by
  intro p l e R s m args below meth c H locs cells slots A ad ls Qm hC hX hR hL hoL hoS hk hA hret
  refine lv_ixor hC.1 hC.2.1 hd ?_
  exact kk p l e R s m args below meth c H locs cells slots A ad ls Qm hC hX hR hL hoL (aw_oks_i _ (aw_oks_t (aw_oks_t hoS))) hk hA hret

theorem A_ishl {G : GG} {d : Nat} {mi : MI} {pc : Nat} {L st : List Value} {T : TT} {u : MU} {kc ks : Nat} {Q : QQ} {v w : Int32} (hd : decode mi.2.1 pc = .ok (.ishl, 1)) (kk : AW G d mi (pc + 1) L (.int (v <<< (w &&& 31)) :: st) T u kc ks Q) : AW G d mi pc L (.int w :: .int v :: st) T u kc ks Q := by
  intro p l e R s m args below meth c H locs cells slots A ad ls Qm hC hX hR hL hoL hoS hk hA hret
  refine lv_ishl hC.1 hC.2.1 hd ?_
  exact kk p l e R s m args below meth c H locs cells slots A ad ls Qm hC hX hR hL hoL (aw_oks_i _ (aw_oks_t (aw_oks_t hoS))) hk hA hret

theorem A_ishr {G : GG} {d : Nat} {mi : MI} {pc : Nat} {L st : List Value} {T : TT} {u : MU} {kc ks : Nat} {Q : QQ} {v w : Int32} (hd : decode mi.2.1 pc = .ok (.ishr, 1)) (kk : AW G d mi (pc + 1) L (.int (v >>> (w &&& 31)) :: st) T u kc ks Q) : AW G d mi pc L (.int w :: .int v :: st) T u kc ks Q := by
  intro p l e R s m args below meth c H locs cells slots A ad ls Qm hC hX hR hL hoL hoS hk hA hret
  refine lv_ishr hC.1 hC.2.1 hd ?_
  exact kk p l e R s m args below meth c H locs cells slots A ad ls Qm hC hX hR hL hoL (aw_oks_i _ (aw_oks_t (aw_oks_t hoS))) hk hA hret

theorem A_iushr {G : GG} {d : Nat} {mi : MI} {pc : Nat} {L st : List Value} {T : TT} {u : MU} {kc ks : Nat} {Q : QQ} {v w : Int32} (hd : decode mi.2.1 pc = .ok (.iushr, 1)) (kk : AW G d mi (pc + 1) L (.int (v.toUInt32 >>> (w.toUInt32 &&& Int32.toUInt32 31)).toInt32 :: st) T u kc ks Q) : AW G d mi pc L (.int w :: .int v :: st) T u kc ks Q := by
  intro p l e R s m args below meth c H locs cells slots A ad ls Qm hC hX hR hL hoL hoS hk hA hret
  refine lv_iushr hC.1 hC.2.1 hd rfl ?_
  exact kk p l e R s m args below meth c H locs cells slots A ad ls Qm hC hX hR hL hoL (aw_oks_i _ (aw_oks_t (aw_oks_t hoS))) hk hA hret

theorem A_idiv {G : GG} {d : Nat} {mi : MI} {pc : Nat} {L st : List Value} {T : TT} {u : MU} {kc ks : Nat} {Q : QQ} {v w : Int32} (hd : decode mi.2.1 pc = .ok (.idiv, 1)) (hne : ¬ w = 0) (kk : AW G d mi (pc + 1) L (.int (v / w) :: st) T u kc ks Q) : AW G d mi pc L (.int w :: .int v :: st) T u kc ks Q := by
  intro p l e R s m args below meth c H locs cells slots A ad ls Qm hC hX hR hL hoL hoS hk hA hret
  refine lv_idiv hC.1 hC.2.1 hd hne ?_
  exact kk p l e R s m args below meth c H locs cells slots A ad ls Qm hC hX hR hL hoL (aw_oks_i _ (aw_oks_t (aw_oks_t hoS))) hk hA hret

theorem A_irem {G : GG} {d : Nat} {mi : MI} {pc : Nat} {L st : List Value} {T : TT} {u : MU} {kc ks : Nat} {Q : QQ} {v w : Int32} (hd : decode mi.2.1 pc = .ok (.irem, 1)) (hne : ¬ w = 0) (kk : AW G d mi (pc + 1) L (.int (v - v / w * w) :: st) T u kc ks Q) : AW G d mi pc L (.int w :: .int v :: st) T u kc ks Q := by
  intro p l e R s m args below meth c H locs cells slots A ad ls Qm hC hX hR hL hoL hoS hk hA hret
  refine lv_irem hC.1 hC.2.1 hd hne ?_
  exact kk p l e R s m args below meth c H locs cells slots A ad ls Qm hC hX hR hL hoL (aw_oks_i _ (aw_oks_t (aw_oks_t hoS))) hk hA hret

theorem A_ineg {G : GG} {d : Nat} {mi : MI} {pc : Nat} {L st : List Value} {T : TT} {u : MU} {kc ks : Nat} {Q : QQ} {v : Int32} (hd : decode mi.2.1 pc = .ok (.ineg, 1)) (kk : AW G d mi (pc + 1) L (.int (-v) :: st) T u kc ks Q) : AW G d mi pc L (.int v :: st) T u kc ks Q := by
  intro p l e R s m args below meth c H locs cells slots A ad ls Qm hC hX hR hL hoL hoS hk hA hret
  refine lv_ineg hC.1 hC.2.1 hd ?_
  exact kk p l e R s m args below meth c H locs cells slots A ad ls Qm hC hX hR hL hoL (aw_oks_i _ (aw_oks_t hoS)) hk hA hret

theorem A_dup {G : GG} {d : Nat} {mi : MI} {pc : Nat} {L st : List Value} {T : TT} {u : MU} {kc ks : Nat} {Q : QQ} {v : Value} (hd : decode mi.2.1 pc = .ok (.dup, 1)) (kk : AW G d mi (pc + 1) L (v :: v :: st) T u kc ks Q) : AW G d mi pc L (v :: st) T u kc ks Q := by
  intro p l e R s m args below meth c H locs cells slots A ad ls Qm hC hX hR hL hoL hoS hk hA hret
  refine lv_dup hC.1 hC.2.1 hd (aw_cat ad (hoS v List.mem_cons_self).1) ?_
  exact kk p l e R s m args below meth c H locs cells slots A ad ls Qm hC hX hR hL hoL (List.forall_mem_cons.mpr ⟨hoS v List.mem_cons_self, hoS⟩) hk hA hret

theorem A_dup2 {G : GG} {d : Nat} {mi : MI} {pc : Nat} {L st : List Value} {T : TT} {u : MU} {kc ks : Nat} {Q : QQ} {v w : Value} (hd : decode mi.2.1 pc = .ok (.dup2, 1)) (kk : AW G d mi (pc + 1) L (v :: w :: v :: w :: st) T u kc ks Q) : AW G d mi pc L (v :: w :: st) T u kc ks Q := by
  intro p l e R s m args below meth c H locs cells slots A ad ls Qm hC hX hR hL hoL hoS hk hA hret
  refine lv_dup2_11 hC.1 hC.2.1 hd (aw_cat ad (hoS v List.mem_cons_self).1) (aw_cat ad (hoS w (List.mem_cons_of_mem _ List.mem_cons_self)).1) ?_
  exact kk p l e R s m args below meth c H locs cells slots A ad ls Qm hC hX hR hL hoL (List.forall_mem_cons.mpr ⟨hoS v List.mem_cons_self, List.forall_mem_cons.mpr ⟨hoS w (List.mem_cons_of_mem _ List.mem_cons_self), hoS⟩⟩) hk hA hret

theorem A_goto {G : GG} {d : Nat} {mi : MI} {pc : Nat} {L st : List Value} {T : TT} {u : MU} {kc ks : Nat} {Q : QQ} {off : Int} (tgt : Nat) (hd : decode mi.2.1 pc = .ok (.goto off, 3)) (ht : (pc : Int) + off = (tgt : Int)) (kk : AW G d mi tgt L st T u kc ks Q) : AW G d mi pc L st T u kc ks Q := by
  intro p l e R s m args below meth c H locs cells slots A ad ls Qm hC hX hR hL hoL hoS hk hA hret
  refine lv_goto hC.1 hC.2.1 hd ht ?_
  exact kk p l e R s m args below meth c H locs cells slots A ad ls Qm hC hX hR hL hoL hoS hk hA hret

theorem A_if_eq {G : GG} {d : Nat} {mi : MI} {pc : Nat} {L st : List Value} {T : TT} {u : MU} {kc ks : Nat} {Q : QQ} {v w : Int32} {off : Int} (tgt : Nat) (hd : decode mi.2.1 pc = .ok (.ifCond .eq off, 3)) (ht : (pc : Int) + off = (tgt : Int)) (kt : v = 0 → AW G d mi tgt L st T u kc ks Q) (kf : ¬ (v = 0) → AW G d mi (pc + 3) L st T u kc ks Q) : AW G d mi pc L (.int v :: st) T u kc ks Q := by
  intro p l e R s m args below meth c H locs cells slots A ad ls Qm hC hX hR hL hoL hoS hk hA hret
  refine lv_if_eq hC.1 hC.2.1 hd ht (fun q => ?_) (fun q => ?_)
  · exact kt q p l e R s m args below meth c H locs cells slots A ad ls Qm hC hX hR hL hoL (aw_oks_t hoS) hk hA hret
  · exact kf q p l e R s m args below meth c H locs cells slots A ad ls Qm hC hX hR hL hoL (aw_oks_t hoS) hk hA hret
theorem A_icmp_eq {G : GG} {d : Nat} {mi : MI} {pc : Nat} {L st : List Value} {T : TT} {u : MU} {kc ks : Nat} {Q : QQ} {v w : Int32} {off : Int} (tgt : Nat) (hd : decode mi.2.1 pc = .ok (.if_icmp .eq off, 3)) (ht : (pc : Int) + off = (tgt : Int)) (kt : v = w → AW G d mi tgt L st T u kc ks Q) (kf : ¬ (v = w) → AW G d mi (pc + 3) L st T u kc ks Q) : AW G d mi pc L (.int w :: .int v :: st) T u kc ks Q := by
  intro p l e R s m args below meth c H locs cells slots A ad ls Qm hC hX hR hL hoL hoS hk hA hret
  refine lv_icmp_eq hC.1 hC.2.1 hd ht (fun q => ?_) (fun q => ?_)
  · exact kt q p l e R s m args below meth c H locs cells slots A ad ls Qm hC hX hR hL hoL (aw_oks_t (aw_oks_t hoS)) hk hA hret
  · exact kf q p l e R s m args below meth c H locs cells slots A ad ls Qm hC hX hR hL hoL (aw_oks_t (aw_oks_t hoS)) hk hA hret
theorem A_if_ne {G : GG} {d : Nat} {mi : MI} {pc : Nat} {L st : List Value} {T : TT} {u : MU} {kc ks : Nat} {Q : QQ} {v w : Int32} {off : Int} (tgt : Nat) (hd : decode mi.2.1 pc = .ok (.ifCond .ne off, 3)) (ht : (pc : Int) + off = (tgt : Int)) (kt : ¬ v = 0 → AW G d mi tgt L st T u kc ks Q) (kf : v = 0 → AW G d mi (pc + 3) L st T u kc ks Q) : AW G d mi pc L (.int v :: st) T u kc ks Q := by
  intro p l e R s m args below meth c H locs cells slots A ad ls Qm hC hX hR hL hoL hoS hk hA hret
  refine lv_if_ne hC.1 hC.2.1 hd ht (fun q => ?_) (fun q => ?_)
  · exact kt q p l e R s m args below meth c H locs cells slots A ad ls Qm hC hX hR hL hoL (aw_oks_t hoS) hk hA hret
  · exact kf q p l e R s m args below meth c H locs cells slots A ad ls Qm hC hX hR hL hoL (aw_oks_t hoS) hk hA hret
theorem A_icmp_ne {G : GG} {d : Nat} {mi : MI} {pc : Nat} {L st : List Value} {T : TT} {u : MU} {kc ks : Nat} {Q : QQ} {v w : Int32} {off : Int} (tgt : Nat) (hd : decode mi.2.1 pc = .ok (.if_icmp .ne off, 3)) (ht : (pc : Int) + off = (tgt : Int)) (kt : ¬ v = w → AW G d mi tgt L st T u kc ks Q) (kf : v = w → AW G d mi (pc + 3) L st T u kc ks Q) : AW G d mi pc L (.int w :: .int v :: st) T u kc ks Q := by
  intro p l e R s m args below meth c H locs cells slots A ad ls Qm hC hX hR hL hoL hoS hk hA hret
  refine lv_icmp_ne hC.1 hC.2.1 hd ht (fun q => ?_) (fun q => ?_)
  · exact kt q p l e R s m args below meth c H locs cells slots A ad ls Qm hC hX hR hL hoL (aw_oks_t (aw_oks_t hoS)) hk hA hret
  · exact kf q p l e R s m args below meth c H locs cells slots A ad ls Qm hC hX hR hL hoL (aw_oks_t (aw_oks_t hoS)) hk hA hret
theorem A_if_lt {G : GG} {d : Nat} {mi : MI} {pc : Nat} {L st : List Value} {T : TT} {u : MU} {kc ks : Nat} {Q : QQ} {v w : Int32} {off : Int} (tgt : Nat) (hd : decode mi.2.1 pc = .ok (.ifCond .lt off, 3)) (ht : (pc : Int) + off = (tgt : Int)) (kt : v < 0 → AW G d mi tgt L st T u kc ks Q) (kf : ¬ (v < 0) → AW G d mi (pc + 3) L st T u kc ks Q) : AW G d mi pc L (.int v :: st) T u kc ks Q := by
  intro p l e R s m args below meth c H locs cells slots A ad ls Qm hC hX hR hL hoL hoS hk hA hret
  refine lv_if_lt hC.1 hC.2.1 hd ht (fun q => ?_) (fun q => ?_)
  · exact kt q p l e R s m args below meth c H locs cells slots A ad ls Qm hC hX hR hL hoL (aw_oks_t hoS) hk hA hret
  · exact kf q p l e R s m args below meth c H locs cells slots A ad ls Qm hC hX hR hL hoL (aw_oks_t hoS) hk hA hret
theorem A_icmp_lt {G : GG} {d : Nat} {mi : MI} {pc : Nat} {L st : List Value} {T : TT} {u : MU} {kc ks : Nat} {Q : QQ} {v w : Int32} {off : Int} (tgt : Nat) (hd : decode mi.2.1 pc = .ok (.if_icmp .lt off, 3)) (ht : (pc : Int) + off = (tgt : Int)) (kt : v < w → AW G d mi tgt L st T u kc ks Q) (kf : ¬ (v < w) → AW G d mi (pc + 3) L st T u kc ks Q) : AW G d mi pc L (.int w :: .int v :: st) T u kc ks Q := by
  intro p l e R s m args below meth c H locs cells slots A ad ls Qm hC hX hR hL hoL hoS hk hA hret
  refine lv_icmp_lt hC.1 hC.2.1 hd ht (fun q => ?_) (fun q => ?_)
  · exact kt q p l e R s m args below meth c H locs cells slots A ad ls Qm hC hX hR hL hoL (aw_oks_t (aw_oks_t hoS)) hk hA hret
  · exact kf q p l e R s m args below meth c H locs cells slots A ad ls Qm hC hX hR hL hoL (aw_oks_t (aw_oks_t hoS)) hk hA hret
theorem A_if_ge {G : GG} {d : Nat} {mi : MI} {pc : Nat} {L st : List Value} {T : TT} {u : MU} {kc ks : Nat} {Q : QQ} {v w : Int32} {off : Int} (tgt : Nat) (hd : decode mi.2.1 pc = .ok (.ifCond .ge off, 3)) (ht : (pc : Int) + off = (tgt : Int)) (kt : 0 ≤ v → AW G d mi tgt L st T u kc ks Q) (kf : ¬ (0 ≤ v) → AW G d mi (pc + 3) L st T u kc ks Q) : AW G d mi pc L (.int v :: st) T u kc ks Q := by
  intro p l e R s m args below meth c H locs cells slots A ad ls Qm hC hX hR hL hoL hoS hk hA hret
  refine lv_if_ge hC.1 hC.2.1 hd ht (fun q => ?_) (fun q => ?_)
  · exact kt q p l e R s m args below meth c H locs cells slots A ad ls Qm hC hX hR hL hoL (aw_oks_t hoS) hk hA hret
  · exact kf q p l e R s m args below meth c H locs cells slots A ad ls Qm hC hX hR hL hoL (aw_oks_t hoS) hk hA hret
theorem A_icmp_ge {G : GG} {d : Nat} {mi : MI} {pc : Nat} {L st : List Value} {T : TT} {u : MU} {kc ks : Nat} {Q : QQ} {v w : Int32} {off : Int} (tgt : Nat) (hd : decode mi.2.1 pc = .ok (.if_icmp .ge off, 3)) (ht : (pc : Int) + off = (tgt : Int)) (kt : w ≤ v → AW G d mi tgt L st T u kc ks Q) (kf : ¬ (w ≤ v) → AW G d mi (pc + 3) L st T u kc ks Q) : AW G d mi pc L (.int w :: .int v :: st) T u kc ks Q := by
  intro p l e R s m args below meth c H locs cells slots A ad ls Qm hC hX hR hL hoL hoS hk hA hret
  refine lv_icmp_ge hC.1 hC.2.1 hd ht (fun q => ?_) (fun q => ?_)
  · exact kt q p l e R s m args below meth c H locs cells slots A ad ls Qm hC hX hR hL hoL (aw_oks_t (aw_oks_t hoS)) hk hA hret
  · exact kf q p l e R s m args below meth c H locs cells slots A ad ls Qm hC hX hR hL hoL (aw_oks_t (aw_oks_t hoS)) hk hA hret
theorem A_if_gt {G : GG} {d : Nat} {mi : MI} {pc : Nat} {L st : List Value} {T : TT} {u : MU} {kc ks : Nat} {Q : QQ} {v w : Int32} {off : Int} (tgt : Nat) (hd : decode mi.2.1 pc = .ok (.ifCond .gt off, 3)) (ht : (pc : Int) + off = (tgt : Int)) (kt : 0 < v → AW G d mi tgt L st T u kc ks Q) (kf : ¬ (0 < v) → AW G d mi (pc + 3) L st T u kc ks Q) : AW G d mi pc L (.int v :: st) T u kc ks Q := by
  intro p l e R s m args below meth c H locs cells slots A ad ls Qm hC hX hR hL hoL hoS hk hA hret
  refine lv_if_gt hC.1 hC.2.1 hd ht (fun q => ?_) (fun q => ?_)
  · exact kt q p l e R s m args below meth c H locs cells slots A ad ls Qm hC hX hR hL hoL (aw_oks_t hoS) hk hA hret
  · exact kf q p l e R s m args below meth c H locs cells slots A ad ls Qm hC hX hR hL hoL (aw_oks_t hoS) hk hA hret
theorem A_icmp_gt {G : GG} {d : Nat} {mi : MI} {pc : Nat} {L st : List Value} {T : TT} {u : MU} {kc ks : Nat} {Q : QQ} {v w : Int32} {off : Int} (tgt : Nat) (hd : decode mi.2.1 pc = .ok (.if_icmp .gt off, 3)) (ht : (pc : Int) + off = (tgt : Int)) (kt : w < v → AW G d mi tgt L st T u kc ks Q) (kf : ¬ (w < v) → AW G d mi (pc + 3) L st T u kc ks Q) : AW G d mi pc L (.int w :: .int v :: st) T u kc ks Q := by
  intro p l e R s m args below meth c H locs cells slots A ad ls Qm hC hX hR hL hoL hoS hk hA hret
  refine lv_icmp_gt hC.1 hC.2.1 hd ht (fun q => ?_) (fun q => ?_)
  · exact kt q p l e R s m args below meth c H locs cells slots A ad ls Qm hC hX hR hL hoL (aw_oks_t (aw_oks_t hoS)) hk hA hret
  · exact kf q p l e R s m args below meth c H locs cells slots A ad ls Qm hC hX hR hL hoL (aw_oks_t (aw_oks_t hoS)) hk hA hret
theorem A_if_le {G : GG} {d : Nat} {mi : MI} {pc : Nat} {L st : List Value} {T : TT} {u : MU} {kc ks : Nat} {Q : QQ} {v w : Int32} {off : Int} (tgt : Nat) (hd : decode mi.2.1 pc = .ok (.ifCond .le off, 3)) (ht : (pc : Int) + off = (tgt : Int)) (kt : v ≤ 0 → AW G d mi tgt L st T u kc ks Q) (kf : ¬ (v ≤ 0) → AW G d mi (pc + 3) L st T u kc ks Q) : AW G d mi pc L (.int v :: st) T u kc ks Q := by
  intro p l e R s m args below meth c H locs cells slots A ad ls Qm hC hX hR hL hoL hoS hk hA hret
  refine lv_if_le hC.1 hC.2.1 hd ht (fun q => ?_) (fun q => ?_)
  · exact kt q p l e R s m args below meth c H locs cells slots A ad ls Qm hC hX hR hL hoL (aw_oks_t hoS) hk hA hret
  · exact kf q p l e R s m args below meth c H locs cells slots A ad ls Qm hC hX hR hL hoL (aw_oks_t hoS) hk hA hret
theorem A_icmp_le {G : GG} {d : Nat} {mi : MI} {pc : Nat} {L st : List Value} {T : TT} {u : MU} {kc ks : Nat} {Q : QQ} {v w : Int32} {off : Int} (tgt : Nat) (hd : decode mi.2.1 pc = .ok (.if_icmp .le off, 3)) (ht : (pc : Int) + off = (tgt : Int)) (kt : v ≤ w → AW G d mi tgt L st T u kc ks Q) (kf : ¬ (v ≤ w) → AW G d mi (pc + 3) L st T u kc ks Q) : AW G d mi pc L (.int w :: .int v :: st) T u kc ks Q := by
  intro p l e R s m args below meth c H locs cells slots A ad ls Qm hC hX hR hL hoL hoS hk hA hret
  refine lv_icmp_le hC.1 hC.2.1 hd ht (fun q => ?_) (fun q => ?_)
  · exact kt q p l e R s m args below meth c H locs cells slots A ad ls Qm hC hX hR hL hoL (aw_oks_t (aw_oks_t hoS)) hk hA hret
  · exact kf q p l e R s m args below meth c H locs cells slots A ad ls Qm hC hX hR hL hoL (aw_oks_t (aw_oks_t hoS)) hk hA hret
theorem A_tabIn {G : GG} {d : Nat} {mi : MI} {pc : Nat} {L st : List Value} {T : TT} {u : MU} {kc ks : Nat} {Q : QQ} {v : Int32} {dflt lo hi : Int} {offs : Array Int} {len : Nat} {off : Int} (tgt : Nat) (hd : decode mi.2.1 pc = .ok (.tableswitch dflt lo hi offs, len)) (h1 : ¬ v.toInt < lo) (h2 : ¬ hi < v.toInt) (ho : offs[(v.toInt - lo).toNat]? = some off) (ht : (pc : Int) + off = (tgt : Int)) (kk : AW G d mi tgt L st T u kc ks Q) : AW G d mi pc L (.int v :: st) T u kc ks Q := by
  intro p l e R s m args below meth c H locs cells slots A ad ls Qm hC hX hR hL hoL hoS hk hA hret
  refine lv_tableIn hC.1 hC.2.1 hd h1 h2 ho ht ?_
  exact kk p l e R s m args below meth c H locs cells slots A ad ls Qm hC hX hR hL hoL (aw_oks_t hoS) hk hA hret

theorem A_tabOut {G : GG} {d : Nat} {mi : MI} {pc : Nat} {L st : List Value} {T : TT} {u : MU} {kc ks : Nat} {Q : QQ} {v : Int32} {dflt lo hi : Int} {offs : Array Int} {len : Nat} (tgt : Nat) (hd : decode mi.2.1 pc = .ok (.tableswitch dflt lo hi offs, len)) (h : v.toInt < lo ∨ hi < v.toInt) (ht : (pc : Int) + dflt = (tgt : Int)) (kk : AW G d mi tgt L st T u kc ks Q) : AW G d mi pc L (.int v :: st) T u kc ks Q := by
  intro p l e R s m args below meth c H locs cells slots A ad ls Qm hC hX hR hL hoL hoS hk hA hret
  refine lv_tableOut hC.1 hC.2.1 hd h ht ?_
  exact kk p l e R s m args below meth c H locs cells slots A ad ls Qm hC hX hR hL hoL (aw_oks_t hoS) hk hA hret

theorem A_lookup {G : GG} {d : Nat} {mi : MI} {pc : Nat} {L st : List Value} {T : TT} {u : MU} {kc ks : Nat} {Q : QQ} {v : Int32} {dflt : Int} {ps : Array (Int × Int)} {len : Nat} {off : Int} (tgt : Nat) (hd : decode mi.2.1 pc = .ok (.lookupswitch dflt ps, len)) (hp : (ps.toList.zip (ps.toList.drop 1)).all (fun (a, next) => a.1 < next.1) = true) (ho : Op.lookupswitch.offset ps.toList dflt v.toInt = off) (ht : (pc : Int) + off = (tgt : Int)) (kk : AW G d mi tgt L st T u kc ks Q) : AW G d mi pc L (.int v :: st) T u kc ks Q := by
  intro p l e R s m args below meth c H locs cells slots A ad ls Qm hC hX hR hL hoL hoS hk hA hret
  refine lv_lookup hC.1 hC.2.1 hd hp ho ht ?_
  exact kk p l e R s m args below meth c H locs cells slots A ad ls Qm hC hX hR hL hoL (aw_oks_t hoS) hk hA hret

theorem A_iret {G : GG} {d : Nat} {mi : MI} {pc : Nat} {L : List Value} {T : TT} {u : MU} {kc ks : Nat} {Q : QQ} {v : Int32} {ty : FieldType} (hd : decode mi.2.1 pc = .ok (.ireturn, 1)) (hr : mi.2.2.2 = some ty) (hn : narrow ty (.int v) = .int v) (hq : Q (some v) T u) : AW G d mi pc L [.int v] T u kc ks Q := by
  intro p l e R s m args below meth c H locs cells slots A ad ls Qm hC hX hR hL hoL hoS hk hA hret
  refine W.widen (k := R.cells) (n := R.slots) (by omega) (by omega) ?_
  exact hret (some v) T u H locs ad pc ls hq aw_agree_rf (Nat.le_refl _) hR ⟨hd, ty, hr, hn⟩
theorem A_vret {G : GG} {d : Nat} {mi : MI} {pc : Nat} {L : List Value} {T : TT} {u : MU} {kc ks : Nat} {Q : QQ} (hd : decode mi.2.1 pc = .ok (.return_, 1)) (hr : mi.2.2.2 = none) (hq : Q none T u) : AW G d mi pc L [] T u kc ks Q := by
  intro p l e R s m args below meth c H locs cells slots A ad ls Qm hC hX hR hL hoL hoS hk hA hret
  refine W.widen (k := R.cells) (n := R.slots) (by omega) (by omega) ?_
  exact hret none T u H locs ad pc ls hq aw_agree_rf (Nat.le_refl _) hR ⟨hd, hr⟩
end
section
/-! ===== memory: fields, arrays, calls ===== -/
theorem aw_cell_congr {G : GG} {ad ad' : Nat → Nat} {T T' : TT} {u u' : MU} {j : Nat} {q : Nat × Nat} (h1 : u' j = u j) (h2 : ∀ i, (T'.2 j i).map ad' = (T.2 j i).map ad) : aw_cell G ad' T' u' j q = aw_cell G ad T u j q := by
  obtain ⟨t, n⟩ := q
  match t with
  | 0 => simp only [aw_cell, h1]
  | 1 => simp only [aw_cell, h2]
  | ci + 2 => simp only [aw_cell, aw_fs, aw_fv, h1, h2]
theorem aw_ws_up {G : GG} {ad : Nat → Nat} {T T' : TT} {u u' : MU} {k : Nat} {q : Nat × Nat} {e : va_E} (hl : T'.1 = T.1) (hk : T.1[k]? = some q) (hu : ∀ j, j ≠ k → u' j = u j ∧ T'.2 j = T.2 j) (he : aw_cell G ad T' u' k q = e) : (aw_ws G ad T u).set k (ad k, e) = aw_ws G ad T' u' := by
  subst he
  apply List.ext_getElem?
  intro j
  by_cases hj : j = k
  · subst hj
    rw [List.getElem?_set_self (by rw [aw_ws_len]; exact aw_lt hk), aw_ws_at (T := T') (by rw [hl]; exact hk)]
  · rw [List.getElem?_set_ne (fun z => hj z.symm)]
    simp only [aw_ws, List.getElem?_mapIdx, hl]
    cases T.1[j]? with
    | none => rfl
    | some q' =>
      obtain ⟨e1, e2⟩ := hu j hj
      simp only [Option.map_some]
      rw [aw_cell_congr (ad := ad) (ad' := ad) (T := T) (T' := T') (u := u) (u' := u') e1 (fun i => by rw [e2])]
theorem aw_fs_at {ad : Nat → Nat} {ci n : Nat} {f : Nat → Int32} {g : Nat → Option Nat} {j : Nat} (hj : j < n) : (aw_fs ad ci n f g)[j]? = some (aw_fv ad (aw_ty ci j) (f j) (g j)) := by
  simp [aw_fs, hj]
theorem aw_fs_len {ad : Nat → Nat} {ci n : Nat} {f : Nat → Int32} {g : Nat → Option Nat} : (aw_fs ad ci n f g).length = n := by simp [aw_fs]
theorem aw_fs_set {ad : Nat → Nat} {ci n : Nat} {f f' : Nat → Int32} {g g' : Nat → Option Nat} {j : Nat} {v : Value} (hj : j < n) (hf : ∀ i, i ≠ j → f' i = f i ∧ g' i = g i) (hv : aw_fv ad (aw_ty ci j) (f' j) (g' j) = v) : (aw_fs ad ci n f g).set j v = aw_fs ad ci n f' g' := by
  subst hv
  apply List.ext_getElem?
  intro i
  by_cases hi : i = j
  · subst hi
    rw [List.getElem?_set_self (by rw [aw_fs_len]; exact hj), aw_fs_at hj]
  · rw [List.getElem?_set_ne (fun z => hi z.symm)]
    by_cases hn : i < n
    · rw [aw_fs_at hn, aw_fs_at hn, (hf i hi).1, (hf i hi).2]
    · rw [List.getElem?_eq_none (by rw [aw_fs_len]; omega), List.getElem?_eq_none (by rw [aw_fs_len]; omega)]
def aw_cls (ci : Nat) (C : String) (F : u_T) (N : Nat) : Prop := vwCl[ci]? = some (C, F, N) ∧ (∀ w ∈ u_ws C F N, w ∈ aw_gt) ∧ (∀ k, k < N → parseFieldDescriptor (F k).2.2.1 = some (aw_ty ci k)) ∧ ∀ a, a < N → ∀ b, b < N → a ≠ b → (F a).2.1 ≠ (F b).2.1
/-- pool entry idx of own is field j of class ci; fin: it is final -/
def aw_fl (own : String) (idx ci j : Nat) (fin nest : Bool) : Prop := ∃ (C : String) (F : u_T) (N : Nat), aw_cls ci C F N ∧ j < N ∧ (F j).2.2.2 = fin ∧ (fin = true → (F j).1 = C) ∧ ((nest = false ∧ Cond.fieldLink own idx (F j).1 (F j).2.1 (F j).2.2.1 ∈ aw_gt) ∨ (nest = true ∧ ∃ host, Cond.fieldLinkNest own idx (F j).1 (F j).2.1 (F j).2.2.1 host ∈ aw_nt))
theorem aw_fv_i {ad : Nat → Nat} {ty : FieldType} {x : Int32} {r : Option Nat} (h : aw_isR ty = false) : aw_fv ad ty x r = .int x := by simp [aw_fv, h]
theorem aw_fv_r {ad : Nat → Nat} {ty : FieldType} {x : Int32} {r : Option Nat} (h : aw_isR ty = true) : aw_fv ad ty x r = va_rf (r.map ad) := by simp [aw_fv, h]
theorem aw_onT {w : Cond} (h : aw_isN w = true) : w.onTables = true := by
  cases w <;> first | rfl | (simp [aw_isN] at h)
theorem aw_warm {w : Cond} (h : aw_isN w = true) {s U : State} (hW : s.WarmedH U.vm) (hZ : va_Nw w s) : va_Nw w U := by
  cases w <;> first | exact va_Nw.warmF hW hZ | exact va_Nw.warmM hW hZ | (simp [aw_isN] at h)
theorem aw_good : GoodIn aw_gt aw_gt := fun w h => ⟨h, good_of_word (List.mem_filter.mp h).2⟩

theorem A_getf {G : GG} {d : Nat} {mi : MI} {pc : Nat} {L st : List Value} {T : TT} {u : MU} {kc ks : Nat} {Q : QQ} {k n idx ci j : Nat} {fin nest : Bool} {v : Value} (hd : decode mi.2.1 pc = .ok (.getfield idx, 3)) (hf : aw_fl mi.1.cls idx ci j fin nest) (hq : T.1[k]? = some (ci + 2, n)) (hj : j < n) (hv : ∀ ad, aw_fv ad (aw_ty ci j) (u k j) (T.2 k j) = aw_cv ad v) (hs : aw_sv v = true) (hok : aw_wf T → aw_ok T.1.length v) (kk : AW G d mi (pc + 3) L (v :: st) T u kc ks Q) : AW G d mi pc L (.ref k :: st) T u kc ks Q := by
  intro p l e R s m args below meth c H locs cells slots A ad ls Qm hC hX hR hL hoL hoS hk hA hret
  obtain ⟨C, F, N, hc, hjN, -, -, hl⟩ := hf
  have hat := aw_ws_at (G := G) (ad := ad) (u := u) hq
  have hv2 : (aw_fs ad ci n (u k) (T.2 k))[j]? = some (aw_cv ad v) := by rw [aw_fs_at hj, hv]
  rcases hl with ⟨hne, hl⟩ | ⟨hne, host, hl⟩
  · refine va_get (D := G.1) (C := C) (T := F) (N := N) hC.1 hC.2.1 hC.2.2.2.2.1 hc.2.1 hC.2.2.2.1 hC.2.2.2.2.2.2.2.1 hR.1 k hat hc.1 j hjN (hC.2.2.2.2.1 _ hl) (fun _ h9 => h9) hv2 hd ?_
    exact kk p l e R s m args below meth c H locs cells slots A ad ls Qm hC hX hR hL hoL (List.forall_mem_cons.mpr ⟨⟨hs, hok hR.2.2.2⟩, aw_oks_t hoS⟩) hk hA hret
  · refine va_getN (D := G.1) (C := C) (T := F) (N := N) hC.1 hC.2.1 hC.2.2.2.2.1 hc.2.1 hC.2.2.2.1 hC.2.2.2.2.2.2.2.1 hR.1 k hat hc.1 j hjN (va_Nw.use rfl (hC.2.2.2.2.2.1 _ hl)) (fun _ h9 => h9) hv2 hd ?_
    exact kk p l e R s m args below meth c H locs cells slots A ad ls Qm hC hX hR hL hoL (List.forall_mem_cons.mpr ⟨⟨hs, hok hR.2.2.2⟩, aw_oks_t hoS⟩) hk hA hret

theorem A_getI {G : GG} {d : Nat} {mi : MI} {pc : Nat} {L st : List Value} {T : TT} {u : MU} {kc ks : Nat} {Q : QQ} {k n idx ci j : Nat} {fin nest : Bool} (hd : decode mi.2.1 pc = .ok (.getfield idx, 3)) (hf : aw_fl mi.1.cls idx ci j fin nest) (hq : T.1[k]? = some (ci + 2, n)) (hj : j < n) (ht : aw_isR (aw_ty ci j) = false) (kk : AW G d mi (pc + 3) L (.int (u k j) :: st) T u kc ks Q) : AW G d mi pc L (.ref k :: st) T u kc ks Q :=
  A_getf (v := .int (u k j)) hd hf hq hj (fun _ => aw_fv_i ht) rfl (fun _ => trivial) kk
theorem A_getR {G : GG} {d : Nat} {mi : MI} {pc : Nat} {L st : List Value} {T : TT} {u : MU} {kc ks : Nat} {Q : QQ} {k n idx ci j q : Nat} {fin nest : Bool} (hd : decode mi.2.1 pc = .ok (.getfield idx, 3)) (hf : aw_fl mi.1.cls idx ci j fin nest) (hq : T.1[k]? = some (ci + 2, n)) (hj : j < n) (ht : aw_isR (aw_ty ci j) = true) (hr : T.2 k j = some q) (kk : AW G d mi (pc + 3) L (.ref q :: st) T u kc ks Q) : AW G d mi pc L (.ref k :: st) T u kc ks Q :=
  A_getf (v := .ref q) hd hf hq hj (fun _ => by rw [aw_fv_r ht, hr]; rfl) rfl (fun hw => Or.inl (hw.1 k j q hr)) kk
theorem A_putf {G : GG} {d : Nat} {mi : MI} {pc : Nat} {L st : List Value} {T : TT} {u : MU} {kc ks : Nat} {Q : QQ} {k n idx ci j : Nat} {fin nest : Bool} {v : Value} {T1 : TT} {u1 : MU} (hd : decode mi.2.1 pc = .ok (.putfield idx, 3)) (hf : aw_fl mi.1.cls idx ci j fin nest) (hq : T.1[k]? = some (ci + 2, n)) (hj : j < n) (hfin : fin = true → nest = false ∧ mi.1.name = "<init>" ∧ (vwCl[ci]?).map (fun q => q.1) = some mi.1.cls) (hN : ∀ ad, narrow (aw_ty ci j) (aw_cv ad v) = aw_cv ad v) (hfit : ∀ ad, fits (aw_ty ci j) (aw_cv ad v) = true) (hT : T1.1 = T.1) (hu : ∀ a, a ≠ k → u1 a = u a ∧ T1.2 a = T.2 a) (hu2 : ∀ b, b ≠ j → u1 k b = u k b ∧ T1.2 k b = T.2 k b) (hv : ∀ ad, aw_fv ad (aw_ty ci j) (u1 k j) (T1.2 k j) = aw_cv ad v) (hwf : aw_wf T → aw_ok T.1.length v → aw_wf T1) (kk : AW G d mi (pc + 3) L st T1 u1 kc ks Q) : AW G d mi pc L (v :: .ref k :: st) T u kc ks Q := by
  intro p l e R s m args below meth c H locs cells slots A ad ls Qm hC hX hR hL hoL hoS hk hA hret
  obtain ⟨C, F, N, hc, hjN, hfi, hdc, hl⟩ := hf
  have hat := aw_ws_at (G := G) (ad := ad) (u := u) hq
  have hset : (aw_ws G ad T u).set k (ad k, .inr (ci, (aw_fs ad ci n (u k) (T.2 k)).set j (aw_cv ad v))) = aw_ws G ad T1 u1 := by
    refine aw_ws_up hT hq hu ?_
    show Sum.inr (ci, aw_fs ad ci n (u1 k) (T1.2 k)) = _
    rw [aw_fs_set hj hu2 (hv ad)]
  have go : ∀ (H1 : Heap) (locs1 : List Loc), va_P G.1 vwCl ((aw_ws G ad T u).set k (ad k, .inr (ci, (aw_fs ad ci n (u k) (T.2 k)).set j (aw_cv ad v)))) H1 → va_D A ((aw_ws G ad T u).set k (ad k, .inr (ci, (aw_fs ad ci n (u k) (T.2 k)).set j (aw_cv ad v)))) → va_S A s.heap H1 locs1 → W p l e R s m args below meth c H1 locs1 cells slots Qm (F0 m (pc + 3) ls (st.map (aw_cv ad))) := by
    intro H1 locs1 hP hD hS
    rw [hset] at hP hD
    refine kk p l e R s m args below meth c H1 locs1 cells slots A ad ls Qm hC hX ⟨hP, hD, hS, hwf hR.2.2.2 (aw_oks_h hoS)⟩ hL (by rw [hT]; exact hoL) (by rw [hT]; exact aw_oks_t (aw_oks_t hoS)) hk hA ?_
    intro r T' u' H' locs' ad' pc' ls' h1 h2 h3 h4 h5
    rw [hT] at h2 h3
    exact hret r T' u' H' locs' ad' pc' ls' h1 h2 h3 h4 h5
  rcases hl with ⟨hne, hl⟩ | ⟨hne, host, hl⟩
  · cases fin with
    | false => exact va_put (D := G.1) (C := C) (T := F) (N := N) hC.1 hC.2.1 hC.2.2.2.2.1 hc.2.1 (aw_ty ci) hc.2.2.1 hc.2.2.2 hC.2.2.2.1 hC.2.2.2.2.2.2.2.1 hR.1 hR.2.1 hR.2.2.1 k hat hc.1 j hjN (hC.2.2.2.2.1 _ hl) (fun _ h9 => h9) hfi (hc.2.2.1 j hjN) (hN ad) (hfit ad) (by rw [aw_fs_len]; exact hj) hd go
    | true =>
      have hCC : C = mi.1.cls := by
        have h1 := (hfin rfl).2.2
        rw [hc.1] at h1
        exact Option.some.inj h1
      exact va_putF (D := G.1) (C := C) (T := F) (N := N) hC.1 hC.2.1 hC.2.2.2.2.1 hc.2.1 (aw_ty ci) hc.2.2.1 hc.2.2.2 hC.2.2.2.1 hC.2.2.2.2.2.2.2.1 hR.1 hR.2.1 hR.2.2.1 k hat hc.1 j hjN (hC.2.2.2.2.1 _ hl) (fun _ h9 => h9) hfi (hC.2.2.2.2.2.2.2.2.2 (hfin rfl).2.1) ((hdc rfl).trans hCC) (hc.2.2.1 j hjN) (hN ad) (hfit ad) (by rw [aw_fs_len]; exact hj) hd go
  · cases fin with
    | false => exact va_putN (D := G.1) (C := C) (T := F) (N := N) hC.1 hC.2.1 hC.2.2.2.2.1 hc.2.1 (aw_ty ci) hc.2.2.1 hc.2.2.2 hC.2.2.2.1 hC.2.2.2.2.2.2.2.1 hR.1 hR.2.1 hR.2.2.1 k hat hc.1 j hjN (va_Nw.use rfl (hC.2.2.2.2.2.1 _ hl)) (fun _ h9 => h9) hfi (hc.2.2.1 j hjN) (hN ad) (hfit ad) (by rw [aw_fs_len]; exact hj) hd go
    | true => exact absurd ((hfin rfl).1.symm.trans hne) (by decide)

theorem up2_o {u : MU} {k j a : Nat} {v : Int32} (h : a ≠ k) : up2 u k j v a = u a := by
  funext b
  simp [up2, h]
theorem up2_i {u : MU} {k j b : Nat} {v : Int32} (h : b ≠ j) : up2 u k j v k b = u k b := by simp [up2, h]
theorem up2_s {u : MU} {k j : Nat} {v : Int32} : up2 u k j v k j = v := by simp [up2]
theorem upr_o {g : Nat → Nat → Option Nat} {k j a v : Nat} (h : a ≠ k) : upr g k j v a = g a := by
  funext b
  simp [upr, h]
theorem A_putI {G : GG} {d : Nat} {mi : MI} {pc : Nat} {L st : List Value} {T : TT} {u : MU} {kc ks : Nat} {Q : QQ} {k n idx ci j : Nat} {fin nest : Bool} {v : Int32} (hd : decode mi.2.1 pc = .ok (.putfield idx, 3)) (hf : aw_fl mi.1.cls idx ci j fin nest) (hq : T.1[k]? = some (ci + 2, n)) (hj : j < n) (hfin : fin = false) (ht : aw_isR (aw_ty ci j) = false) (hN : narrow (aw_ty ci j) (.int v) = .int v) (hfit : fits (aw_ty ci j) (.int v) = true) (kk : AW G d mi (pc + 3) L st T (up2 u k j v) kc ks Q) : AW G d mi pc L (.int v :: .ref k :: st) T u kc ks Q :=
  A_putf (T1 := T) (u1 := up2 u k j v) hd hf hq hj (fun h => by rw [hfin] at h; cases h) (fun _ => hN) (fun _ => hfit) rfl (fun a ha => ⟨up2_o ha, rfl⟩) (fun b hb => ⟨up2_i hb, rfl⟩) (fun _ => by rw [aw_fv_i ht, up2_s]; rfl) (fun h _ => h) kk
theorem A_putR {G : GG} {d : Nat} {mi : MI} {pc : Nat} {L st : List Value} {T : TT} {u : MU} {kc ks : Nat} {Q : QQ} {k n idx ci j v : Nat} {fin nest : Bool} (hd : decode mi.2.1 pc = .ok (.putfield idx, 3)) (hf : aw_fl mi.1.cls idx ci j fin nest) (hq : T.1[k]? = some (ci + 2, n)) (hj : j < n) (hfin : nest = false ∧ mi.1.name = "<init>" ∧ (vwCl[ci]?).map (fun q => q.1) = some mi.1.cls) (ht : aw_isR (aw_ty ci j) = true) (hv : v < T.1.length) (hN : ∀ a, narrow (aw_ty ci j) (.ref a) = .ref a) (hfit : ∀ a, fits (aw_ty ci j) (.ref a) = true) (kk : AW G d mi (pc + 3) L st (T.1, upr T.2 k j v) u kc ks Q) : AW G d mi pc L (.ref v :: .ref k :: st) T u kc ks Q :=
  A_putf (T1 := (T.1, upr T.2 k j v)) (u1 := u) hd hf hq hj (fun _ => hfin) (fun _ => hN _) (fun _ => hfit _) rfl (fun a ha => ⟨rfl, upr_o ha⟩) (fun b hb => ⟨rfl, by simp [upr, hb]⟩) (fun _ => by rw [aw_fv_r ht]; simp [upr, va_rf, aw_cv]) (fun h _ => ⟨fun a b q hq => by
    simp only [upr] at hq
    split at hq
    · cases hq; exact hv
    · exact h.1 a b q hq, h.2⟩) kk
theorem A_iald {G : GG} {d : Nat} {mi : MI} {pc : Nat} {L st : List Value} {T : TT} {u : MU} {kc ks : Nat} {Q : QQ} {k n : Nat} {i : Int32} (hd : decode mi.2.1 pc = .ok (.iaload, 1)) (hq : T.1[k]? = some (0, n)) (hin : vp_in i n) (kk : AW G d mi (pc + 1) L (.int (u k i.toNatClampNeg) :: st) T u kc ks Q) : AW G d mi pc L (.int i :: .ref k :: st) T u kc ks Q := by
  intro p l e R s m args below meth c H locs cells slots A ad ls Qm hC hX hR hL hoL hoS hk hA hret
  refine va_iald (D := G.1) hC.1 hC.2.1 hC.2.2.2.2.2.2.2.1 hR.1 k 0 (aw_ws_at (G := G) (ad := ad) (u := u) hq) rfl hin hd ?_
  exact kk p l e R s m args below meth c H locs cells slots A ad ls Qm hC hX hR hL hoL (aw_oks_i _ (aw_oks_t (aw_oks_t hoS))) hk hA hret
theorem A_aald {G : GG} {d : Nat} {mi : MI} {pc : Nat} {L st : List Value} {T : TT} {u : MU} {kc ks : Nat} {Q : QQ} {k n q : Nat} {i : Int32} (hd : decode mi.2.1 pc = .ok (.aaload, 1)) (hq : T.1[k]? = some (1, n)) (hin : vp_in i n) (hr : T.2 k i.toNatClampNeg = some q) (kk : AW G d mi (pc + 1) L (.ref q :: st) T u kc ks Q) : AW G d mi pc L (.int i :: .ref k :: st) T u kc ks Q := by
  intro p l e R s m args below meth c H locs cells slots A ad ls Qm hC hX hR hL hoL hoS hk hA hret
  refine va_aldq (D := G.1) (C := RX2) hC.1 hC.2.1 hC.2.2.2.2.2.2.2.1 hR.1 k 1 (aw_ws_at (G := G) (ad := ad) (u := u) hq) rfl hin hd ?_
  rw [hr]
  exact kk p l e R s m args below meth c H locs cells slots A ad ls Qm hC hX hR hL hoL (aw_oks_c (Or.inl (hR.2.2.2.1 k _ q hr)) (aw_oks_t (aw_oks_t hoS))) hk hA hret
theorem A_alen {G : GG} {d : Nat} {mi : MI} {pc : Nat} {L st : List Value} {T : TT} {u : MU} {kc ks : Nat} {Q : QQ} {k n : Nat} (v : Int32) (hd : decode mi.2.1 pc = .ok (.arraylength, 1)) (hq : T.1[k]? = some (0, n)) (hv : Int32.ofNat n = v) (kk : AW G d mi (pc + 1) L (.int v :: st) T u kc ks Q) : AW G d mi pc L (.ref k :: st) T u kc ks Q := by
  intro p l e R s m args below meth c H locs cells slots A ad ls Qm hC hX hR hL hoL hoS hk hA hret
  refine va_alen (D := G.1) hC.1 hC.2.1 hC.2.2.2.2.2.2.2.1 hR.1 k 0 (aw_ws_at (G := G) (ad := ad) (u := u) hq) rfl hv hd ?_
  exact kk p l e R s m args below meth c H locs cells slots A ad ls Qm hC hX hR hL hoL (aw_oks_i _ (aw_oks_t hoS)) hk hA hret
theorem A_slen {G : GG} {d : Nat} {mi : MI} {pc : Nat} {L st : List Value} {T : TT} {u : MU} {kc ks : Nat} {Q : QQ} (hd : decode mi.2.1 pc = .ok (.arraylength, 1)) (hx : mi.1 = x) (kk : AW G d mi (pc + 1) L (.int (Int32.ofNat G.2.2.2.1) :: st) T u kc ks Q) : AW G d mi pc L (.ref aw_S :: st) T u kc ks Q := by
  intro p l e R s m args below meth c H locs cells slots A ad ls Qm hC hX hR hL hoL hoS hk hA hret
  obtain ⟨h1, h2, h3⟩ := hX.2 hx
  show W p l e R s m args below meth c H locs cells slots Qm (F0 m pc ls (.ref (ad aw_S) :: st.map (aw_cv ad)))
  rw [hX.1]
  refine va_slen hC.1 hC.2.1 h1 h2 h3 hR.2.2.1 hd ?_
  exact kk p l e R s m args below meth c H locs cells slots A ad ls Qm hC hX hR hL hoL (aw_oks_i _ (aw_oks_t hoS)) hk hA hret
theorem A_sld {G : GG} {d : Nat} {mi : MI} {pc : Nat} {L st : List Value} {T : TT} {u : MU} {kc ks : Nat} {Q : QQ} {i : Int32} (hd : decode mi.2.1 pc = .ok (.iaload, 1)) (hx : mi.1 = x) (hin : vp_in i G.2.2.2.1) (kk : AW G d mi (pc + 1) L (.int (G.2.2.2.2 i.toNatClampNeg) :: st) T u kc ks Q) : AW G d mi pc L (.int i :: .ref aw_S :: st) T u kc ks Q := by
  intro p l e R s m args below meth c H locs cells slots A ad ls Qm hC hX hR hL hoL hoS hk hA hret
  obtain ⟨h1, h2, h3⟩ := hX.2 hx
  show W p l e R s m args below meth c H locs cells slots Qm (F0 m pc ls (.int i :: .ref (ad aw_S) :: st.map (aw_cv ad)))
  rw [hX.1]
  refine va_sld hC.1 hC.2.1 h1 h2 h3 hR.2.2.1 hin hd ?_
  exact kk p l e R s m args below meth c H locs cells slots A ad ls Qm hC hX hR hL hoL (aw_oks_i _ (aw_oks_t (aw_oks_t hoS))) hk hA hret
theorem A_iast {G : GG} {d : Nat} {mi : MI} {pc : Nat} {L st : List Value} {T : TT} {u : MU} {kc ks : Nat} {Q : QQ} {k n : Nat} {i v : Int32} (hd : decode mi.2.1 pc = .ok (.iastore, 1)) (hq : T.1[k]? = some (0, n)) (hin : vp_in i n) (kk : AW G d mi (pc + 1) L st T (up2 u k i.toNatClampNeg v) kc ks Q) : AW G d mi pc L (.int v :: .int i :: .ref k :: st) T u kc ks Q := by
  intro p l e R s m args below meth c H locs cells slots A ad ls Qm hC hX hR hL hoL hoS hk hA hret
  refine va_iast (D := G.1) hC.1 hC.2.1 hC.2.2.2.2.2.2.2.1 hR.1 hR.2.1 hR.2.2.1 k 0 (aw_ws_at (G := G) (ad := ad) (u := u) hq) rfl hin hd (fun H1 locs1 hP hD hS => ?_)
  rw [aw_ws_up (T := T) (T' := T) (u := u) (u' := up2 u k i.toNatClampNeg v) rfl hq (fun a ha => ⟨up2_o ha, rfl⟩) (by
    show Sum.inl (_, n, Sum.inl (up2 u k i.toNatClampNeg v k)) = _
    congr 4
    funext b
    by_cases hb : b = i.toNatClampNeg
    · subst hb; simp [up2, upd]
    · simp [up2, upd, hb])] at hP hD
  exact kk p l e R s m args below meth c H1 locs1 cells slots A ad ls Qm hC hX ⟨hP, hD, hS, hR.2.2.2⟩ hL hoL (aw_oks_t (aw_oks_t (aw_oks_t hoS))) hk hA hret
theorem A_aast {G : GG} {d : Nat} {mi : MI} {pc : Nat} {L st : List Value} {T : TT} {u : MU} {kc ks : Nat} {Q : QQ} {k n v N : Nat} {i : Int32} (hd : decode mi.2.1 pc = .ok (.aastore, 1)) (hq : T.1[k]? = some (1, n)) (hin : vp_in i n) (hv : T.1[v]? = some (4, N)) (kk : AW G d mi (pc + 1) L st (T.1, upr T.2 k i.toNatClampNeg v) u kc ks Q) : AW G d mi pc L (.ref v :: .int i :: .ref k :: st) T u kc ks Q := by
  intro p l e R s m args below meth c H locs cells slots A ad ls Qm hC hX hR hL hoL hoS hk hA hret
  refine va_astq (D := G.1) (r := (RX2, TX2, 6)) hC.1 hC.2.1 hC.2.2.2.2.2.2.2.1 hR.1 hR.2.1 hR.2.2.1 k 1 v 2 (aw_ws_at (G := G) (ad := ad) (u := u) hq) rfl (aw_ws_at (G := G) (ad := ad) (u := u) hv) rfl hin hd (fun H1 locs1 hP hD hS => ?_)
  rw [aw_ws_up (T := T) (T' := (T.1, upr T.2 k i.toNatClampNeg v)) (u := u) (u' := u) rfl hq (fun a ha => ⟨rfl, upr_o ha⟩) (by
    show Sum.inl (_, n, Sum.inr (Sum.inr (Sum.inr (Sum.inr (fun j => (upr T.2 k i.toNatClampNeg v k j).map ad))))) = _
    congr 7
    funext b
    by_cases hb : b = i.toNatClampNeg
    · subst hb; simp [upr, va_up]
    · simp [upr, va_up, hb])] at hP hD
  refine kk p l e R s m args below meth c H1 locs1 cells slots A ad ls Qm hC hX ⟨hP, hD, hS, fun a b q hq2 => ?_, hR.2.2.2.2⟩ hL hoL (aw_oks_t (aw_oks_t (aw_oks_t hoS))) hk hA hret
  simp only [upr] at hq2
  split at hq2
  · cases hq2; exact aw_lt hv
  · exact hR.2.2.2.1 a b q hq2
end
section
/-! ===== contracts and calls ===== -/
def aw_B (G : GG) (ad : Nat → Nat) (T : TT) (u : MU) (sz : Nat) (U : State) : Prop :=
  U.heap.size = sz ∧ va_P G.1 vwCl (aw_ws G ad T u) U.heap ∧ va_K G.1 vwCl (aw_tys G) U ∧ va_D (fun _ => True) (aw_ws G ad T u) ∧ (∀ w ∈ aw_nt, va_Nw w U) ∧ va_AO RX2 U
def aw_Qc (G : GG) (ad : Nat → Nat) (T : TT) (u : MU) (sz : Nat) (Q : QQ) : Array Value → State → Outcome → State → Prop := fun _ st oc t =>
  (∃ (r : Option Int32) (T' : TT) (u' : MU) (ad' : Nat → Nat), oc = .returned (r.map Value.int) ∧ Q r T' u' ∧ aw_agree T.1.length ad ad' ∧ T.1.length ≤ T'.1.length ∧ va_P G.1 vwCl (aw_ws G ad' T' u') t.heap ∧ va_D (va_A (aw_ws G ad T u) sz) (aw_ws G ad' T' u') ∧ aw_wf T') ∧ va_F (va_A (aw_ws G ad T u) sz) st t
/-- what the tables say of a method -/
def aw_mf (mi : MI) (n : Nat) : Prop := Cond.code mi.1 mi.2.1 mi.2.2.1 mi.2.2.2 ∈ aw_gt ∧ Cond.initialized mi.1.cls ∈ aw_gt ∧ (mi.1.cls ≠ "java/lang/invoke/MethodHandle" ∧ mi.1.cls ≠ "java/lang/invoke/VarHandle" ∧ (parseMethodDescriptor mi.1.desc).map (fun d => d.parameters.length) = some n) ∧ plainName mi.1.cls = true ∧ mi.2.2.1 ≤ 21 ∧ mi.1 ≠ x
def aw_mV (mi : MI) : Prop := Cond.instanceMethod mi.1 ∈ aw_gt ∧ Cond.selects mi.1.cls mi.1 mi.1 ∈ aw_gt
def aw_mI (mi : MI) : Prop := mi.1.name = "<init>" ∧ Cond.instanceMethod mi.1 ∈ aw_gt ∧ mi.2.2.2 = none
def aw_ml (own : String) (idx : Nat) (y : MethodName) : Prop := Cond.methodLink own idx y ∈ aw_gt ∨ ∃ host, Cond.methodLinkNest own idx y host ∈ aw_nt
theorem aw_sl_len {vs : List Value} (h : ∀ v ∈ vs, v.category = 1) : (lg_sl vs).length = vs.length := by
  induction vs with
  | nil => rfl
  | cons v t ih =>
    have h1 := h v List.mem_cons_self
    have h2 := ih (fun w hw => h w (List.mem_cons_of_mem _ hw))
    simp only [lg_sl, List.flatMap_cons, h1, List.length_append] at h2 ⊢
    simp only [List.length_cons]
    rw [h2]
    simp
    omega
theorem aw_args_mem {vs : List Value} (h : ∀ v ∈ vs, v.category = 1) : ∀ (j i : Nat) (v : Value), vs[i]? = some v → (j + i, v) ∈ lv_args j vs := by
  induction vs with
  | nil => intro j i v hi; simp at hi
  | cons w t ih =>
    intro j i v hi
    have h1 := h w List.mem_cons_self
    simp only [lv_args, h1]
    cases i with
    | zero =>
      rw [List.getElem?_cons_zero] at hi
      cases hi
      exact List.mem_cons_self
    | succ i =>
      rw [List.getElem?_cons_succ] at hi
      have h2 := ih (fun w hw => h w (List.mem_cons_of_mem _ hw)) (j + 1) i v hi
      rw [show j + (i + 1) = j + 1 + i by omega]
      exact List.mem_cons_of_mem _ h2
theorem aw_met {G : GG} {d : Nat} {mi : MI} {T : TT} {u : MU} {kc ks : Nat} {Q : QQ} {As L0 : List Value} {n : Nat} (l : Launch) (ad : Nat → Nat) (sz : Nat) (hf : aw_mf mi n) (hS : ad aw_S = G.2.2.1) (hwf : aw_wf T) (hAs : aw_oks T.1.length As) (hlen : As.length ≤ mi.2.2.1) (hL0 : L0 = As ++ List.replicate (mi.2.2.1 - As.length) Value.null) (h : AW G d mi 0 L0 [] T u kc ks Q) :
    Met l mi.1 (Cond.code mi.1 mi.2.1 mi.2.2.1 mi.2.2.2 :: aw_gt) ({ frames := d, cells := kc, slots := ks, locals := 40 * d }) (va_Pc (As.map (aw_cv ad)) (aw_B G ad T u sz)) (aw_Qc G ad T u sz Q) kc ks (va_A (aw_ws G ad T u) sz) := by
  refine Met.ofW (cc := mi.2.1) (maxL := mi.2.2.1) (ret := mi.2.2.2) hf.2.2.2.1 rfl ?_
  intro p e s m args below meth c s₁ B hml hv
  obtain ⟨rfl, hsz, hP, hK, hD0, hN, hO⟩ := hv
  subst hsz
  have hts := atoms_spec (ws := Cond.code mi.1 mi.2.1 mi.2.2.1 mi.2.2.2 :: aw_gt) B.pre
  have hcat : ∀ v ∈ As.map (aw_cv ad), v.category = 1 := fun v hv => by
    obtain ⟨w, hw, rfl⟩ := List.mem_map.mp hv
    exact aw_cat ad (hAs w hw).1
  have hl := lv_entry (As.map (aw_cv ad)) (n := mi.2.2.1) (by rw [aw_sl_len hcat, List.length_map]; exact hlen)
  rw [lg_entry_eq]
  generalize (lg_sl (As.map (aw_cv ad)) ++ List.replicate (mi.2.2.1 - (lg_sl (As.map (aw_cv ad))).length) Slot.unset).toArray = ls at hl ⊢
  subst hL0
  refine h p l e _ s m _ below meth c s.heap [] 0 0 (va_A (aw_ws G ad T u) s.heap.size) ad ls _ ⟨B.exec, B.bytes, hml, findClass_of_methodNamed B.named, fun w hw => hts w (List.mem_cons_of_mem _ hw), hN, hO, hK, ⟨Nat.le_refl _, Nat.le_refl _⟩, fun hn => (name_of_methodNamed B.named B.method).1.trans hn⟩ ⟨hS, fun he => absurd he hf.2.2.2.2.2⟩ ⟨hP, hD0.self, va_S.rf, hwf⟩ ⟨by rw [List.length_append, List.length_replicate]; omega, hl.1, hl.2.1, fun i v hi hv => ?_⟩ (fun v hv => ?_) (fun v hv => absurd hv List.not_mem_nil) ⟨by show 0 + kc ≤ kc; omega, by show 0 + ks ≤ ks; omega⟩ (fun q hq => Or.inr hq) (fun r T' u' H' locs' ad' pc' ls' hQ hag hle hR' hrt => ?_)
  · by_cases hi2 : i < As.length
    · rw [List.getElem?_append_left hi2] at hi
      have h1 := aw_args_mem hcat 0 i (aw_cv ad v) (by rw [List.getElem?_map, hi]; rfl)
      have h2 := hl.2.2 _ h1
      rw [Nat.zero_add] at h2
      exact h2
    · rw [List.getElem?_append_right (by omega)] at hi
      have h1 := List.mem_of_getElem? hi
      rw [(List.mem_replicate.mp h1).2] at hv
      simp [aw_sv] at hv
  · rcases List.mem_append.mp hv with h1 | h1
    · exact (hAs v h1).2
    · rw [(List.mem_replicate.mp h1).2]
      trivial
  · obtain ⟨hP', hD', hS', hwf'⟩ := hR'
    cases r with
    | none =>
      obtain ⟨hd1, hr1⟩ := hrt
      exact W.vret B.exec B.bytes (B.returns.trans hr1) (fun t ht hW => ⟨⟨none, T', u', ad', rfl, hQ, hag, hle, by rw [ht]; exact hP', hD', hwf'⟩, hS'.F ht⟩) hS'.2.2 hd1
    | some v =>
      obtain ⟨hd1, ty, hr1, hn1⟩ := hrt
      exact W.zret B.exec B.bytes (B.returns.trans hr1) hn1 (fun t ht hW => ⟨⟨some v, T', u', ad', rfl, hQ, hag, hle, by rw [ht]; exact hP', hD', hwf'⟩, hS'.F ht⟩) hS'.2.2 hd1
theorem aw_cont {p : Program} {l : Launch} {e : Env} {R : Room} {s : State} {m : MethodId} {args : Array Value} {below : List Frame} {meth : Method} {c : Code} {H : Heap} {locs : List Loc} {cells slots mc ms pc : Nat} {ls : Array Slot} {st0 rest : List Value} {G : GG} {ad : Nat → Nat} {T : TT} {u : MU} {Q0 : QQ} {a : Array Value} {A : Nat → Prop} {Qm : State → Prop}
    (hr : va_Run p l e R s m args below meth c H locs cells slots mc ms (F0 m pc ls st0) rest (aw_Qc G ad T u H.size Q0 a) (va_A (aw_ws G ad T u) H.size)) (hR : aw_R G ad A T u s.heap H locs) (hA : ∀ q, s.heap.size ≤ q → A q)
    (kk : ∀ (r : Option Int32) (T' : TT) (u' : MU) (ad' : Nat → Nat) (H1 : Heap) (locs1 : List Loc), Q0 r T' u' → aw_agree T.1.length ad ad' → T.1.length ≤ T'.1.length → aw_R G ad' A T' u' s.heap H1 locs1 → W p l e R s m args below meth c H1 locs1 (cells + mc) (slots + ms) Qm (F0 m (pc + 3) ls (aw_rv r ++ rest))) : W p l e R s m args below meth c H locs cells slots Qm (F0 m pc ls st0) := by
  intro T0 hT X
  obtain ⟨hP, hD, hS, hwf⟩ := hR
  obtain ⟨v, st₀, t, T', L, h0, X', hL, e1, e2, ⟨⟨r, T1, u1, ad1, hv, hQ, hag, hle, hP1, hD1, hwf1⟩, hz, hk⟩, st⟩ := hr T0 hT X
  have hv' : v = r.map Value.int := Outcome.returned.inj hv
  subst hv'
  rw [h0] at hz hk
  have hA1 : ∀ q, va_A (aw_ws G ad T u) H.size q → A q := by
    rintro q (⟨k, e, h⟩ | h)
    · exact hD.2 k _ h
    · exact hA q (Nat.le_trans hS.1 h)
  obtain ⟨t2, a1, b1⟩ := kk r T1 u1 ad1 T'.heap (locs ++ L) hQ hag hle ⟨by rw [e1]; exact hP1, hD1.weaken (fun _ q _ h => hA1 q.1 h), ⟨Nat.le_trans hS.1 (by rw [e1]; exact hz), fun q h1 h2 => by rw [e1, hk q (Nat.lt_of_lt_of_le h1 hS.1) (fun z => h2 (hA1 q z))]; exact hS.2.1 q h1 h2, fun q hq => (List.mem_append.mp hq).elim (hS.2.2 q) (fun h => hA1 _ (hL q h))⟩, hwf1⟩ T' rfl X'
  refine ⟨t2, st t2 ?_, b1⟩
  cases r <;> exact a1
theorem aw_catsum {n : Nat} {ad : Nat → Nat} {st : List Value} (h : aw_oks n st) : ((st.map (aw_cv ad)).map fun v => v.category).sum = st.length := by
  induction st with
  | nil => rfl
  | cons v t ih =>
    simp only [List.map_cons, List.sum_cons, List.length_cons, ih (aw_oks_t h), aw_cat ad (h v List.mem_cons_self).1]
    omega
theorem aw_blind {G : GG} {ad : Nat → Nat} {T : TT} {u : MU} {sz : Nat} {av : List Value} : FrameBlind (va_Pc av (aw_B G ad T u sz)) := fun a U g mk q => by
  obtain ⟨q0, q1, qP, qK, qD, qN, qO⟩ := q
  exact ⟨q0, q1, qP, va_K.moved (u := U) (U := U.calling g mk a) (Vm.Alike.refl U.vm) qK, qD, fun w hw => va_Nw.same (u := U) (U := U.calling g mk a) (aw_onT (List.mem_filter.mp hw).2) rfl (qN w hw), va_AO.moved (u := U) (U := U.calling g mk a) (Vm.Alike.refl U.vm) qO⟩
theorem aw_pre {G : GG} {d : Nat} {mi : MI} {p : Program} {R : Room} {s : State} {m : MethodId} {args : Array Value} {meth : Method} {c : Code} {ad : Nat → Nat} {A : Nat → Prop} {T : TT} {u : MU} {H : Heap} {locs : List Loc} (hC : aw_C G d mi p R s m args meth c) (hR : aw_R G ad A T u s.heap H locs) (av : List Value) : ∀ U : State, U.heap = H → s.WarmedH U.vm → va_Pc av (aw_B G ad T u H.size) av.toArray U := fun U hU hW =>
  ⟨rfl, by rw [hU], by rw [hU]; exact hR.1, va_K.moved hW.alike hC.2.2.2.2.2.2.2.1, hR.2.1.weaken (fun _ _ _ _ => trivial), fun w hw => aw_warm (List.mem_filter.mp hw).2 hW (hC.2.2.2.2.2.1 w hw), va_AO.moved hW.alike hC.2.2.2.2.2.2.1⟩

theorem A_callV {G : GG} {d : Nat} {mi mi2 : MI} {pc : Nat} {L As rest L0 stk : List Value} {T : TT} {u : MU} {kc ks kc0 ks0 n idx : Nat} {Q Q0 : QQ} (hd : decode mi.2.1 pc = .ok (.invokevirtual idx, 3)) (hl : aw_ml mi.1.cls idx mi2.1) (hf : aw_mf mi2 n) (hm : aw_mV mi2) {k ci N : Nat} {F : u_T} (hq : T.1[k]? = some (ci + 2, N)) {N2 : Nat} (hcl : vwCl[ci]? = some (mi2.1.cls, F, N2)) (hn : As.length = n) (hstk : stk = As.reverse ++ .ref k :: rest) (hr : rest.length ≤ 8) (hL0 : L0 = (.ref k :: As) ++ List.replicate (mi2.2.2.1 - (.ref k :: As).length) Value.null) (hlen : (.ref k :: As).length ≤ mi2.2.2.1) (hM : AW G d mi2 0 L0 [] T u kc0 ks0 Q0) (kk : ∀ r T' u', Q0 r T' u' → AW G (d + 1) mi (pc + 3) L (aw_rv r ++ rest) T' u' kc ks Q) : AW G (d + 1) mi pc L stk T u (kc0 + kc) (ks0 + ks) Q := by
  intro p l e R s m args below meth c H locs cells slots A ad ls Qm hC hX hR hL hoL hoS hk hA hret

  subst hstk
  have hoA : aw_oks T.1.length (.ref k :: As) := fun v hv => (List.mem_cons.mp hv).elim (fun h => hoS v (List.mem_append_right _ (by rw [h]; exact List.mem_cons_self))) (fun h => hoS v (List.mem_append_left _ (List.mem_reverse.mpr h)))
  have hoR : aw_oks T.1.length rest := fun v hv => hoS v (List.mem_append_right _ (List.mem_cons_of_mem _ hv))
  have hMet := aw_met (n := n) l ad H.size hf hX.1 hR.2.2.2 hoA hlen hL0 hM
  have hGW : GoodIn aw_gt (Cond.code mi2.1 mi2.2.1 mi2.2.2.1 mi2.2.2.2 :: aw_gt) := fun w h => (List.mem_cons.mp h).elim (fun e => by rw [e]; exact aw_good _ hf.1) (aw_good w)
  have hst2 : List.map (aw_cv ad) (As.reverse ++ .ref k :: rest) = (As.map (aw_cv ad)).reverse ++ .ref (ad k) :: rest.map (aw_cv ad) := by simp [aw_cv]
  rw [hst2]
  refine aw_cont (a := ((.ref k :: As).map (aw_cv ad)).toArray) (ls := ls) (Q0 := Q0) (mc := kc0) (ms := ks0) (rest := rest.map (aw_cv ad)) ?_ hR hA (fun r T' u' ad' H1 locs1 hQ hag hle hR1 => ?_)
  · rcases hl with hl | ⟨host, hl⟩
    · exact va_runV (C := mi2.1.cls) (b := ad k) (As := As.map (aw_cv ad)) ⟨hC.1, hC.2.1, hC.2.2.1, hC.2.2.2.1, hC.2.2.2.2.1⟩ hMet ⟨(callB_of n hC.2.2.2.2.1 hGW rfl rfl rfl (hC.2.2.2.2.1 _ hf.2.1) (hC.2.2.2.2.1 _ hl) hf.2.2.1 ⟨by have := hC.2.2.2.2.2.2.2.2.1.1; show d + 1 ≤ _; omega, by have := hC.2.2.2.2.2.2.2.2.1.2; have := hf.2.2.2.2.1; show 8 + (mi2.2.2.1 + 11) + 40 * d ≤ _; omega⟩), hC.2.2.2.2.1 _ hm.1, hC.2.2.2.2.1 _ hm.2⟩ ⟨aw_blind, va_recv (q := (mi2.1.cls, F, N2)) hC.2.2.2.2.2.2.2.1 hR.1 hcl (aw_ws_at (G := G) (ad := ad) (u := u) hq), aw_pre hC hR _⟩ rfl (by rw [List.length_map]; exact hn) hL.2.1 rfl (lv_room (by rw [aw_catsum hoR]; exact hr)) hd ⟨by omega, by omega⟩
    · exact va_runVN (C := mi2.1.cls) (host := host) (b := ad k) (As := As.map (aw_cv ad)) ⟨hC.1, hC.2.1, hC.2.2.1, hC.2.2.2.1, hC.2.2.2.2.1⟩ hMet ⟨(va_cnB n hC.2.2.2.2.1 hGW rfl rfl rfl (hC.2.2.2.2.2.1 _ hl) (hC.2.2.2.2.1 _ hf.2.1) hf.2.2.1 ⟨by have := hC.2.2.2.2.2.2.2.2.1.1; show d + 1 ≤ _; omega, by have := hC.2.2.2.2.2.2.2.2.1.2; have := hf.2.2.2.2.1; show 8 + (mi2.2.2.1 + 11) + 40 * d ≤ _; omega⟩), hC.2.2.2.2.1 _ hm.1, hC.2.2.2.2.1 _ hm.2⟩ ⟨aw_blind, va_recv (q := (mi2.1.cls, F, N2)) hC.2.2.2.2.2.2.2.1 hR.1 hcl (aw_ws_at (G := G) (ad := ad) (u := u) hq), aw_pre hC hR _⟩ rfl (by rw [List.length_map]; exact hn) hL.2.1 rfl (lv_room (by rw [aw_catsum hoR]; exact hr)) hd ⟨by omega, by omega⟩
  · have hw := kk r T' u' hQ p l e R s m args below meth c H1 locs1 (cells + kc0) (slots + ks0) A ad' ls Qm hC ⟨hag.2.trans hX.1, hX.2⟩ hR1 (aw_L_agree hag hoL hL) (aw_okl_mono hle hoL) (fun v hv => (List.mem_append.mp hv).elim (fun h => by
        cases r with
        | none => exact absurd h List.not_mem_nil
        | some y => rw [List.mem_singleton.mp h]; exact ⟨rfl, trivial⟩) (fun h => ⟨(hoR v h).1, aw_ok_mono hle (hoR v h).2⟩)) ⟨by omega, by omega⟩ hA (fun r2 T2 u2 H2 locs2 ad2 pc2 ls2 q1 q2 q3 q4 q5 => hret r2 T2 u2 H2 locs2 ad2 pc2 ls2 q1 (aw_agree_trans hle hag q2) (Nat.le_trans hle q3) q4 q5)
    rw [List.map_append, aw_st_agree hag hoR] at hw
    cases r <;> exact hw

theorem A_callS {G : GG} {d : Nat} {mi mi2 : MI} {pc : Nat} {L As rest L0 stk : List Value} {T : TT} {u : MU} {kc ks kc0 ks0 n idx : Nat} {Q Q0 : QQ} (hd : decode mi.2.1 pc = .ok (.invokestatic idx, 3)) (hl : aw_ml mi.1.cls idx mi2.1) (hf : aw_mf mi2 n) (hm : Cond.static mi2.1 ∈ aw_gt) (hn : As.length = n) (hstk : stk = As.reverse ++ rest) (hr : rest.length ≤ 8) (hL0 : L0 = As ++ List.replicate (mi2.2.2.1 - As.length) Value.null) (hlen : As.length ≤ mi2.2.2.1) (hM : AW G d mi2 0 L0 [] T u kc0 ks0 Q0) (kk : ∀ r T' u', Q0 r T' u' → AW G (d + 1) mi (pc + 3) L (aw_rv r ++ rest) T' u' kc ks Q) : AW G (d + 1) mi pc L stk T u (kc0 + kc) (ks0 + ks) Q := by
  intro p l e R s m args below meth c H locs cells slots A ad ls Qm hC hX hR hL hoL hoS hk hA hret

  subst hstk
  have hoA : aw_oks T.1.length As := fun v hv => hoS v (List.mem_append_left _ (List.mem_reverse.mpr hv))
  have hoR : aw_oks T.1.length rest := fun v hv => hoS v (List.mem_append_right _ hv)
  have hMet := aw_met (n := n) l ad H.size hf hX.1 hR.2.2.2 hoA hlen hL0 hM
  have hGW : GoodIn aw_gt (Cond.code mi2.1 mi2.2.1 mi2.2.2.1 mi2.2.2.2 :: aw_gt) := fun w h => (List.mem_cons.mp h).elim (fun e => by rw [e]; exact aw_good _ hf.1) (aw_good w)
  have hst2 : List.map (aw_cv ad) (As.reverse ++ rest) = (As.map (aw_cv ad)).reverse ++ rest.map (aw_cv ad) := by simp [aw_cv]
  rw [hst2]
  refine aw_cont (a := (As.map (aw_cv ad)).toArray) (ls := ls) (Q0 := Q0) (mc := kc0) (ms := ks0) (rest := rest.map (aw_cv ad)) ?_ hR hA (fun r T' u' ad' H1 locs1 hQ hag hle hR1 => ?_)
  · rcases hl with hl | ⟨host, hl⟩
    · exact va_runS (As := As.map (aw_cv ad)) ⟨hC.1, hC.2.1, hC.2.2.1, hC.2.2.2.1, hC.2.2.2.2.1⟩ hMet ⟨(callB_of n hC.2.2.2.2.1 hGW rfl rfl rfl (hC.2.2.2.2.1 _ hf.2.1) (hC.2.2.2.2.1 _ hl) hf.2.2.1 ⟨by have := hC.2.2.2.2.2.2.2.2.1.1; show d + 1 ≤ _; omega, by have := hC.2.2.2.2.2.2.2.2.1.2; have := hf.2.2.2.2.1; show 8 + (mi2.2.2.1 + 11) + 40 * d ≤ _; omega⟩), hC.2.2.2.2.1 _ hm⟩ ⟨aw_blind, aw_pre hC hR _⟩ rfl (by rw [List.length_map]; exact hn) hL.2.1 rfl (lv_room (by rw [aw_catsum hoR]; exact hr)) hd ⟨by omega, by omega⟩
    · exact va_runSN (host := host) (As := As.map (aw_cv ad)) ⟨hC.1, hC.2.1, hC.2.2.1, hC.2.2.2.1, hC.2.2.2.2.1⟩ hMet ⟨(va_cnB n hC.2.2.2.2.1 hGW rfl rfl rfl (hC.2.2.2.2.2.1 _ hl) (hC.2.2.2.2.1 _ hf.2.1) hf.2.2.1 ⟨by have := hC.2.2.2.2.2.2.2.2.1.1; show d + 1 ≤ _; omega, by have := hC.2.2.2.2.2.2.2.2.1.2; have := hf.2.2.2.2.1; show 8 + (mi2.2.2.1 + 11) + 40 * d ≤ _; omega⟩), hC.2.2.2.2.1 _ hm, trivial⟩ ⟨aw_blind, aw_pre hC hR _⟩ rfl (by rw [List.length_map]; exact hn) hL.2.1 rfl (lv_room (by rw [aw_catsum hoR]; exact hr)) hd ⟨by omega, by omega⟩
  · have hw := kk r T' u' hQ p l e R s m args below meth c H1 locs1 (cells + kc0) (slots + ks0) A ad' ls Qm hC ⟨hag.2.trans hX.1, hX.2⟩ hR1 (aw_L_agree hag hoL hL) (aw_okl_mono hle hoL) (fun v hv => (List.mem_append.mp hv).elim (fun h => by
        cases r with
        | none => exact absurd h List.not_mem_nil
        | some y => rw [List.mem_singleton.mp h]; exact ⟨rfl, trivial⟩) (fun h => ⟨(hoR v h).1, aw_ok_mono hle (hoR v h).2⟩)) ⟨by omega, by omega⟩ hA (fun r2 T2 u2 H2 locs2 ad2 pc2 ls2 q1 q2 q3 q4 q5 => hret r2 T2 u2 H2 locs2 ad2 pc2 ls2 q1 (aw_agree_trans hle hag q2) (Nat.le_trans hle q3) q4 q5)
    rw [List.map_append, aw_st_agree hag hoR] at hw
    cases r <;> exact hw

theorem A_callI {G : GG} {d : Nat} {mi mi2 : MI} {pc : Nat} {L As rest L0 stk : List Value} {T : TT} {u : MU} {kc ks kc0 ks0 n idx : Nat} {Q Q0 : QQ} (hd : decode mi.2.1 pc = .ok (.invokespecial idx, 3)) (hl : aw_ml mi.1.cls idx mi2.1) (hf : aw_mf mi2 n) (hm : aw_mI mi2) {k : Nat} (hn : As.length = n) (hstk : stk = As.reverse ++ .ref k :: rest) (hr : rest.length ≤ 8) (hL0 : L0 = (.ref k :: As) ++ List.replicate (mi2.2.2.1 - (.ref k :: As).length) Value.null) (hlen : (.ref k :: As).length ≤ mi2.2.2.1) (hM : AW G d mi2 0 L0 [] T u kc0 ks0 Q0) (kk : ∀ r T' u', Q0 r T' u' → AW G (d + 1) mi (pc + 3) L (aw_rv r ++ rest) T' u' kc ks Q) : AW G (d + 1) mi pc L stk T u (kc0 + kc) (ks0 + ks) Q := by
  intro p l e R s m args below meth c H locs cells slots A ad ls Qm hC hX hR hL hoL hoS hk hA hret

  subst hstk
  have hoA : aw_oks T.1.length (.ref k :: As) := fun v hv => (List.mem_cons.mp hv).elim (fun h => hoS v (List.mem_append_right _ (by rw [h]; exact List.mem_cons_self))) (fun h => hoS v (List.mem_append_left _ (List.mem_reverse.mpr h)))
  have hoR : aw_oks T.1.length rest := fun v hv => hoS v (List.mem_append_right _ (List.mem_cons_of_mem _ hv))
  have hMet := aw_met (n := n) l ad H.size hf hX.1 hR.2.2.2 hoA hlen hL0 hM
  have hGW : GoodIn aw_gt (Cond.code mi2.1 mi2.2.1 mi2.2.2.1 mi2.2.2.2 :: aw_gt) := fun w h => (List.mem_cons.mp h).elim (fun e => by rw [e]; exact aw_good _ hf.1) (aw_good w)
  have hst2 : List.map (aw_cv ad) (As.reverse ++ .ref k :: rest) = (As.map (aw_cv ad)).reverse ++ .ref (ad k) :: rest.map (aw_cv ad) := by simp [aw_cv]
  rw [hst2]
  rw [hm.2.2] at hMet hGW
  have hf1 := hf.1
  rw [hm.2.2] at hf1
  refine aw_cont (a := ((.ref k :: As).map (aw_cv ad)).toArray) (ls := ls) (Q0 := Q0) (mc := kc0) (ms := ks0) (rest := rest.map (aw_cv ad)) ?_ hR hA (fun r T' u' ad' H1 locs1 hQ hag hle hR1 => ?_)
  · rcases hl with hl | ⟨host, hl⟩
    · exact va_runI (b := ad k) (As := As.map (aw_cv ad)) ⟨hC.1, hC.2.1, hC.2.2.1, hC.2.2.2.1, hC.2.2.2.2.1⟩ hMet ⟨(callB_of n hC.2.2.2.2.1 hGW rfl rfl rfl (hC.2.2.2.2.1 _ hf.2.1) (hC.2.2.2.2.1 _ hl) hf.2.2.1 ⟨by have := hC.2.2.2.2.2.2.2.2.1.1; show d + 1 ≤ _; omega, by have := hC.2.2.2.2.2.2.2.2.1.2; have := hf.2.2.2.2.1; show 8 + (mi2.2.2.1 + 11) + 40 * d ≤ _; omega⟩), hm.1, hC.2.2.2.2.1 _ hm.2.1⟩ ⟨aw_blind, aw_pre hC hR _⟩ rfl (by rw [List.length_map]; exact hn) hL.2.1 rfl (lv_room (by rw [aw_catsum hoR]; exact hr)) hd ⟨by omega, by omega⟩
    · exact va_runIN (host := host) (b := ad k) (As := As.map (aw_cv ad)) ⟨hC.1, hC.2.1, hC.2.2.1, hC.2.2.2.1, hC.2.2.2.2.1⟩ hMet ⟨(va_cnB n hC.2.2.2.2.1 hGW rfl rfl rfl (hC.2.2.2.2.2.1 _ hl) (hC.2.2.2.2.1 _ hf.2.1) hf.2.2.1 ⟨by have := hC.2.2.2.2.2.2.2.2.1.1; show d + 1 ≤ _; omega, by have := hC.2.2.2.2.2.2.2.2.1.2; have := hf.2.2.2.2.1; show 8 + (mi2.2.2.1 + 11) + 40 * d ≤ _; omega⟩), hm.1, hC.2.2.2.2.1 _ hm.2.1⟩ ⟨aw_blind, aw_pre hC hR _⟩ rfl (by rw [List.length_map]; exact hn) hL.2.1 rfl (lv_room (by rw [aw_catsum hoR]; exact hr)) hd ⟨by omega, by omega⟩
  · have hw := kk r T' u' hQ p l e R s m args below meth c H1 locs1 (cells + kc0) (slots + ks0) A ad' ls Qm hC ⟨hag.2.trans hX.1, hX.2⟩ hR1 (aw_L_agree hag hoL hL) (aw_okl_mono hle hoL) (fun v hv => (List.mem_append.mp hv).elim (fun h => by
        cases r with
        | none => exact absurd h List.not_mem_nil
        | some y => rw [List.mem_singleton.mp h]; exact ⟨rfl, trivial⟩) (fun h => ⟨(hoR v h).1, aw_ok_mono hle (hoR v h).2⟩)) ⟨by omega, by omega⟩ hA (fun r2 T2 u2 H2 locs2 ad2 pc2 ls2 q1 q2 q3 q4 q5 => hret r2 T2 u2 H2 locs2 ad2 pc2 ls2 q1 (aw_agree_trans hle hag q2) (Nat.le_trans hle q3) q4 q5)
    rw [List.map_append, aw_st_agree hag hoR] at hw
    cases r <;> exact hw

theorem A_obj {G : GG} {d : Nat} {mi : MI} {pc : Nat} {L st : List Value} {T : TT} {u : MU} {kc ks : Nat} {Q : QQ} {k idx : Nat} (hd : decode mi.2.1 pc = .ok (.invokespecial idx, 3)) (hl : Cond.methodLink mi.1.cls idx objectInit ∈ aw_gt) (h2 : Cond.instanceMethod objectInit ∈ aw_gt) (h3 : Cond.code objectInit ⟨#[0xb1]⟩ 1 none ∈ aw_gt) (hr : st.length ≤ 8) (kk : AW G (d + 1) mi (pc + 3) L st T u kc ks Q) : AW G (d + 1) mi pc L (.ref k :: st) T u kc ks Q := by
  intro p l e R s m args below meth c H locs cells slots A ad ls Qm hC hX hR hL hoL hoS hk hA hret
  have c1 := hC.2.2.2.2.2.2.2.2.1
  refine W.objInit hC.1 hC.2.1 hC.2.2.2.1 (hC.2.2.2.2.1 _ hl) (hC.2.2.2.2.1 _ h2) (hC.2.2.2.2.1 _ h3) rfl (by rw [hC.2.2.1]; exact hL.2.1) rfl hd (by omega) (by rw [aw_catsum (aw_oks_t hoS)]; show 2 * 0 + _ + 12 ≤ _; omega) ?_
  exact kk p l e R s m args below meth c H locs cells slots A ad ls Qm hC hX hR hL hoL (aw_oks_t hoS) hk hA hret
end
section
theorem A_mmax {G : GG} {d : Nat} {mi : MI} {pc : Nat} {L st : List Value} {T : TT} {u : MU} {kc ks : Nat} {Q : QQ} {v w : Int32} {idx : Nat} (hd : decode mi.2.1 pc = .ok (.invokestatic idx, 3)) (hl : Cond.methodLink mi.1.cls idx Lib.Math.max.name ∈ aw_gt) (h1 : Cond.static Lib.Math.max.name ∈ aw_gt) (h2 : Cond.initialized "java/lang/Math" ∈ aw_gt) (h3 : Cond.code Lib.Math.max.name Lib.Math.max.code 2 (some .int) ∈ aw_gt) (hr : st.length ≤ 8) (kk : AW G (d + 1) mi (pc + 3) L (.int (if v < w then w else v) :: st) T u kc ks Q) : AW G (d + 1) mi pc L (.int w :: .int v :: st) T u kc ks Q := by
  intro p l e R s m args below meth c H locs cells slots A ad ls Qm hC hX hR hL hoL hoS hk hA hret
  have c1 := hC.2.2.2.2.2.2.2.2.1
  refine va_mmax hC.1 hC.2.1 (by rw [hC.2.2.1]; exact hL.2.1.symm) hC.2.2.2.1 (hC.2.2.2.2.1 _ hl) (hC.2.2.2.2.1 _ h1) (hC.2.2.2.2.1 _ h2) (hC.2.2.2.2.1 _ h3) (by omega) (by rw [aw_catsum (aw_oks_t (aw_oks_t hoS))]; omega) (by omega) (by omega) hd ?_
  exact kk p l e R s m args below meth c H locs cells slots A ad ls Qm hC hX hR hL hoL (aw_oks_i _ (aw_oks_t (aw_oks_t hoS))) hk hA hret
theorem A_mmin {G : GG} {d : Nat} {mi : MI} {pc : Nat} {L st : List Value} {T : TT} {u : MU} {kc ks : Nat} {Q : QQ} {v w : Int32} {idx : Nat} (hd : decode mi.2.1 pc = .ok (.invokestatic idx, 3)) (hl : Cond.methodLink mi.1.cls idx Lib.Math.min.name ∈ aw_gt) (h1 : Cond.static Lib.Math.min.name ∈ aw_gt) (h2 : Cond.initialized "java/lang/Math" ∈ aw_gt) (h3 : Cond.code Lib.Math.min.name Lib.Math.min.code 2 (some .int) ∈ aw_gt) (hr : st.length ≤ 8) (kk : AW G (d + 1) mi (pc + 3) L (.int (if w < v then w else v) :: st) T u kc ks Q) : AW G (d + 1) mi pc L (.int w :: .int v :: st) T u kc ks Q := by
  intro p l e R s m args below meth c H locs cells slots A ad ls Qm hC hX hR hL hoL hoS hk hA hret
  have c1 := hC.2.2.2.2.2.2.2.2.1
  refine va_mmin hC.1 hC.2.1 (by rw [hC.2.2.1]; exact hL.2.1.symm) hC.2.2.2.1 (hC.2.2.2.2.1 _ hl) (hC.2.2.2.2.1 _ h1) (hC.2.2.2.2.1 _ h2) (hC.2.2.2.2.1 _ h3) (by omega) (by rw [aw_catsum (aw_oks_t (aw_oks_t hoS))]; omega) (by omega) (by omega) hd ?_
  exact kk p l e R s m args below meth c H locs cells slots A ad ls Qm hC hX hR hL hoL (aw_oks_i _ (aw_oks_t (aw_oks_t hoS))) hk hA hret
theorem A_copyi {G : GG} {d : Nat} {mi : MI} {pc : Nat} {L st : List Value} {T : TT} {u : MU} {kc ks : Nat} {Q : QQ} {k0 k1 n0 n1 idx : Nat} {sp dp n : Int32} (hd : decode mi.2.1 pc = .ok (.invokestatic idx, 3)) (hl : Cond.methodLink mi.1.cls idx arraycopyName ∈ aw_gt) (h1 : Cond.native arraycopyName ∈ aw_gt) (h2 : Cond.static arraycopyName ∈ aw_gt) (h3 : Cond.initialized "java/lang/System" ∈ aw_gt) (hq0 : T.1[k0]? = some (0, n0)) (hq1 : T.1[k1]? = some (0, n1)) (e1 : ¬ sp < 0) (e2 : ¬ dp < 0) (e3 : ¬ n < 0) (e4 : sp.toNatClampNeg + n.toNatClampNeg ≤ n0) (e5 : dp.toNatClampNeg + n.toNatClampNeg ≤ n1) (hr : st.length ≤ 8) (kk : AW G (d + 1) mi (pc + 3) L st T (upc u k0 k1 sp.toNatClampNeg dp.toNatClampNeg n.toNatClampNeg) kc ks Q) : AW G (d + 1) mi pc L (.int n :: .int dp :: .ref k1 :: .int sp :: .ref k0 :: st) T u kc ks Q := by
  intro p l e R s m args below meth c H locs cells slots A ad ls Qm hC hX hR hL hoL hoS hk hA hret
  have c1 := hC.2.2.2.2.2.2.2.2.1
  have hoR : aw_oks T.1.length st := aw_oks_t (aw_oks_t (aw_oks_t (aw_oks_t (aw_oks_t hoS))))
  refine va_copyi (D := G.1) hC.1 hC.2.1 (by rw [hC.2.2.1]; exact hL.2.1.symm) hC.2.2.2.1 (hC.2.2.2.2.1 _ hl) (hC.2.2.2.2.1 _ h1) (hC.2.2.2.2.1 _ h2) (hC.2.2.2.2.1 _ h3) hC.2.2.2.2.2.2.2.1 hR.1 hR.2.1 hR.2.2.1 k0 k1 0 0 (aw_ws_at (G := G) (ad := ad) (u := u) hq0) (aw_ws_at (G := G) (ad := ad) (u := u) hq1) rfl rfl rfl e1 e2 e3 e4 e5 (fun _ _ => rfl) (by omega) (by rw [aw_catsum hoR]; show _ + (7 + 11) ≤ _; omega) hd (fun H1 locs1 hP hD hS => ?_)
  have hset := aw_ws_up (G := G) (ad := ad) (T := T) (T' := T) (u := u) (u' := upc u k0 k1 sp.toNatClampNeg dp.toNatClampNeg n.toNatClampNeg) (e := .inl (G.2.1.1, n1, .inl (va_cpy (u k0) (u k1) sp.toNatClampNeg dp.toNatClampNeg n.toNatClampNeg))) rfl hq1 (fun a ha => ⟨by funext b; simp [upc, ha], rfl⟩) (by
    show Sum.inl (_, n1, Sum.inl (upc u k0 k1 _ _ _ k1)) = _
    congr 4
    funext b
    simp [upc])
  rw [hset] at hP hD
  exact kk p l e R s m args below meth c H1 locs1 cells slots A ad ls Qm hC hX ⟨hP, hD, hS, hR.2.2.2⟩ hL hoL hoR hk hA hret
theorem aw_ws_push {G : GG} {ad : Nat → Nat} {T : TT} {u : MU} {q : Nat} {z : Nat × Nat} {e : va_E} (hw : aw_wf T) (he : aw_cell G (va_up ad T.1.length q) (T.1 ++ [z], upn T.2 T.1.length) (upz u T.1.length) T.1.length z = e) : aw_ws G ad T u ++ [(q, e)] = aw_ws G (va_up ad T.1.length q) (T.1 ++ [z], upn T.2 T.1.length) (upz u T.1.length) := by
  subst he
  apply List.ext_getElem?
  intro j
  by_cases hj : j < T.1.length
  · rw [List.getElem?_append_left (by rw [aw_ws_len]; exact hj), aw_ws_at (T := T) (List.getElem?_eq_getElem hj), aw_ws_at (T := (T.1 ++ [z], upn T.2 T.1.length)) (q := T.1[j]) (by show (T.1 ++ [z])[j]? = _; rw [List.getElem?_append_left hj]; exact List.getElem?_eq_getElem hj)]
    have hne : j ≠ T.1.length := by omega
    rw [aw_cell_congr (ad := ad) (ad' := va_up ad T.1.length q) (T := T) (u := u) (by funext b; simp [upz, hne]) (fun i => ?_)]
    · simp [va_up, hne]
    · simp only [upn, hne, if_false]
      cases hr : T.2 j i with
      | none => rfl
      | some q0 =>
        have := hw.1 j i q0 hr
        have hne2 : q0 ≠ T.1.length := by omega
        simp [va_up, hne2]
  · by_cases hj2 : j = T.1.length
    · subst hj2
      rw [List.getElem?_append_right (by rw [aw_ws_len]; omega), aw_ws_at (T := (T.1 ++ [z], upn T.2 T.1.length)) (q := z) (by simp)]
      simp [aw_ws_len, va_up]
    · rw [List.getElem?_eq_none (by simp [aw_ws_len]; omega), List.getElem?_eq_none (by rw [aw_ws_len]; simp; omega)]
theorem aw_wf_push {T : TT} {z : Nat × Nat} (hw : aw_wf T) (hl : T.1.length < 999) : aw_wf (T.1 ++ [z], upn T.2 T.1.length) := by
  refine ⟨fun k j q hq => ?_, by simp; omega⟩
  simp only [upn] at hq
  split at hq
  · cases hq
  · have := hw.1 k j q hq
    simp
    omega
theorem aw_agree_push {T : TT} {ad : Nat → Nat} (q : Nat) (hw : aw_wf T) : aw_agree T.1.length ad (va_up ad T.1.length q) := by
  have := hw.2
  refine ⟨fun k hk => ?_, ?_⟩
  · have h : k ≠ T.1.length := by omega
    simp [va_up, h]
  · have h : aw_S ≠ T.1.length := by unfold aw_S; omega
    simp [va_up, h]

theorem A_new {G : GG} {d : Nat} {mi : MI} {pc : Nat} {L st : List Value} {T : TT} {u : MU} {kc ks : Nat} {Q : QQ} {idx ci N : Nat} {C : String} {F : u_T} (hd : decode mi.2.1 pc = .ok (.new idx, 3)) (hc : aw_cls ci C F N) (h1 : Cond.classLink mi.1.cls idx C ∈ aw_gt) (h2 : Cond.instantiable C N ∈ aw_gt) (h3 : Cond.initialized C ∈ aw_gt) (hdv : ∀ j, j < N → defaultValue (aw_ty ci j) = if aw_isR (aw_ty ci j) = true then .null else .int 0) (hlt : T.1.length < 999) (kk : AW G d mi (pc + 3) L (.ref T.1.length :: st) (T.1 ++ [(ci + 2, N)], upn T.2 T.1.length) (upz u T.1.length) kc ks Q) : AW G d mi pc L st T u (kc + 1) (ks + N) Q := by
  intro p l e R s m args below meth c H locs cells slots A ad ls Qm hC hX hR hL hoL hoS hk hA hret
  refine va_new (D := G.1) (C := C) (T := F) (N := N) (ci := ci) (fs := aw_fs ad ci N (fun _ => 0) (fun _ => none)) hC.1 hC.2.1 hC.2.2.2.2.1 hc.2.1 (aw_ty ci) hc.2.2.1 hC.2.2.2.1 (hC.2.2.2.2.1 _ h1) (hC.2.2.2.2.1 _ h2) (hC.2.2.2.2.1 _ h3) hC.2.2.2.2.2.2.2.1 hR.1 hR.2.1 hR.2.2.1 hA hc.1 (fun j hj => ?_) (by omega) (by omega) hd (fun q H1 hP hD hS => ?_)
  · rw [hdv j hj, vp_V, List.getD_eq_getElem?_getD, aw_fs_at hj]
    simp only [aw_fv, Option.getD_some]
    rfl
  have hps := aw_ws_push (G := G) (ad := ad) (u := u) (q := q) (z := (ci + 2, N)) (e := .inr (ci, aw_fs ad ci N (fun _ => 0) (fun _ => none))) hR.2.2.2 (by
    show Sum.inr (ci, aw_fs _ ci N (upz u T.1.length T.1.length) (upn T.2 T.1.length T.1.length)) = _
    simp only [aw_fs, aw_fv, upz, upn, if_true, Option.map_none])
  rw [hps] at hP hD
  have hag := aw_agree_push (ad := ad) q hR.2.2.2
  have hle : T.1.length ≤ (T.1 ++ [(ci + 2, N)]).length := by simp
  have hw := kk p l e R s m args below meth c H1 locs (cells + 1) (slots + N) A (va_up ad T.1.length q) ls Qm hC ⟨hag.2.trans hX.1, hX.2⟩ ⟨hP, hD, hS, aw_wf_push hR.2.2.2 hlt⟩ (aw_L_agree hag hoL hL) (aw_okl_mono hle hoL) (aw_oks_c (Or.inl (by simp)) (aw_oks_mono hle hoS)) ⟨by omega, by omega⟩ hA (fun r2 T2 u2 H2 locs2 ad2 pc2 ls2 q1 q2 q3 q4 q5 => hret r2 T2 u2 H2 locs2 ad2 pc2 ls2 q1 (aw_agree_trans hle hag q2) (Nat.le_trans hle q3) q4 q5)
  rw [List.map_cons, aw_st_agree hag hoS] at hw
  have hq : aw_cv (va_up ad T.1.length q) (.ref T.1.length) = .ref q := by simp [aw_cv, va_up]
  rw [hq] at hw
  exact hw

theorem A_newa {G : GG} {d : Nat} {mi : MI} {pc : Nat} {L st : List Value} {T : TT} {u : MU} {kc ks : Nat} {Q : QQ} {n : Int32} (N : Nat) (hd : decode mi.2.1 pc = .ok (.newarray .int, 2)) (h1 : Cond.arrayClass .int ∈ aw_gt) (hn : ¬ n < 0) (hN : n.toNatClampNeg = N) (hb : N * 4 ≤ 536870912) (hlt : T.1.length < 999) (kk : AW G d mi (pc + 2) L (.ref T.1.length :: st) (T.1 ++ [(0, N)], upn T.2 T.1.length) (upz u T.1.length) kc ks Q) : AW G d mi pc L (.int n :: st) T u (kc + 1) (ks + N) Q := by
  intro p l e R s m args below meth c H locs cells slots A ad ls Qm hC hX hR hL hoL hoS hk hA hret
  refine va_newa (D := G.1) (atype := .int) (a0 := (N, .inl (fun _ => 0))) hC.1 hC.2.1 (hC.2.2.2.2.1 _ h1) rfl hC.2.2.2.2.2.2.2.1 hR.1 hR.2.1 hR.2.2.1 hA (fun _ => rfl) hn hN hb (by omega) (by omega) hd (fun q cA H1 hK1 hP hD hS => ?_)
  have hcA : cA = G.2.1.1 := by
    have e1 : s.vm.findClass ("[" ++ FieldType.int.toString) = some cA := (hK1.2 2 (cA, .int) rfl).2
    have e2 : s.vm.findClass ("[" ++ FieldType.int.toString) = some G.2.1.1 := (hC.2.2.2.2.2.2.2.1.2 0 (G.2.1.1, .int) rfl).2
    exact Option.some.inj (e1.symm.trans e2)
  subst hcA
  have hps := aw_ws_push (G := G) (ad := ad) (u := u) (q := q) (z := (0, N)) (e := .inl (G.2.1.1, N, .inl (fun _ => 0))) hR.2.2.2 (by
    show Sum.inl (_, N, Sum.inl (upz u T.1.length T.1.length)) = _
    congr 4
    funext b
    simp [upz])
  rw [hps] at hP hD
  have hag := aw_agree_push (ad := ad) q hR.2.2.2
  have hle : T.1.length ≤ (T.1 ++ [(0, N)]).length := by simp
  have hw := kk p l e R s m args below meth c H1 locs (cells + 1) (slots + N) A (va_up ad T.1.length q) ls Qm hC ⟨hag.2.trans hX.1, hX.2⟩ ⟨hP, hD, hS, aw_wf_push hR.2.2.2 hlt⟩ (aw_L_agree hag hoL hL) (aw_okl_mono hle hoL) (aw_oks_c (Or.inl (by simp)) (aw_oks_mono hle (aw_oks_t hoS))) ⟨by omega, by omega⟩ hA (fun r2 T2 u2 H2 locs2 ad2 pc2 ls2 q1 q2 q3 q4 q5 => hret r2 T2 u2 H2 locs2 ad2 pc2 ls2 q1 (aw_agree_trans hle hag q2) (Nat.le_trans hle q3) q4 q5)
  rw [List.map_cons, aw_st_agree hag (aw_oks_t hoS)] at hw
  have hq : aw_cv (va_up ad T.1.length q) (.ref T.1.length) = .ref q := by simp [aw_cv, va_up]
  rw [hq] at hw
  exact hw

theorem A_anew {G : GG} {d : Nat} {mi : MI} {pc : Nat} {L st : List Value} {T : TT} {u : MU} {kc ks : Nat} {Q : QQ} {n : Int32} {idx : Nat} (N : Nat) (hd : decode mi.2.1 pc = .ok (.anewarray idx, 3)) (h1 : Cond.classLink mi.1.cls idx RX2 ∈ aw_gt) (hn : ¬ n < 0) (hN : n.toNatClampNeg = N) (hb : N * 4 ≤ 536870912) (hlt : T.1.length < 999) (kk : AW G d mi (pc + 3) L (.ref T.1.length :: st) (T.1 ++ [(1, N)], upn T.2 T.1.length) (upz u T.1.length) kc ks Q) : AW G d mi pc L (.int n :: st) T u (kc + 1) (ks + N) Q := by
  intro p l e R s m args below meth c H locs cells slots A ad ls Qm hC hX hR hL hoL hoS hk hA hret
  refine va_newq (D := G.1) (C := RX2) hC.1 hC.2.1 hC.2.2.2.1 (hC.2.2.2.2.1 _ h1) hC.2.2.2.2.2.2.1 hC.2.2.2.2.2.2.2.1 hR.1 hR.2.1 hR.2.2.1 hA hn hN hb (by omega) (by omega) hd (fun q cA H1 hK1 hP hD hS => ?_)
  have hcA : cA = G.2.1.2 := by
    obtain ⟨_, _, _, _, _, e1⟩ := (hK1.2 2 (cA, .object RX2) rfl).2
    obtain ⟨_, _, _, _, _, e2⟩ := (hC.2.2.2.2.2.2.2.1.2 1 (G.2.1.2, .object RX2) rfl).2
    exact Option.some.inj (e1.symm.trans e2)
  subst hcA
  have hps := aw_ws_push (G := G) (ad := ad) (u := u) (q := q) (z := (1, N)) (e := .inl (G.2.1.2, N, .inr (.inr (.inr (.inr (fun _ => none)))))) hR.2.2.2 (by
    show Sum.inl (_, N, Sum.inr (Sum.inr (Sum.inr (Sum.inr (fun j => (upn T.2 T.1.length T.1.length j).map _))))) = _
    congr 7
    funext b
    simp [upn])
  rw [hps] at hP hD
  have hag := aw_agree_push (ad := ad) q hR.2.2.2
  have hle : T.1.length ≤ (T.1 ++ [(1, N)]).length := by simp
  have hw := kk p l e R s m args below meth c H1 locs (cells + 1) (slots + N) A (va_up ad T.1.length q) ls Qm hC ⟨hag.2.trans hX.1, hX.2⟩ ⟨hP, hD, hS, aw_wf_push hR.2.2.2 hlt⟩ (aw_L_agree hag hoL hL) (aw_okl_mono hle hoL) (aw_oks_c (Or.inl (by simp)) (aw_oks_mono hle (aw_oks_t hoS))) ⟨by omega, by omega⟩ hA (fun r2 T2 u2 H2 locs2 ad2 pc2 ls2 q1 q2 q3 q4 q5 => hret r2 T2 u2 H2 locs2 ad2 pc2 ls2 q1 (aw_agree_trans hle hag q2) (Nat.le_trans hle q3) q4 q5)
  rw [List.map_cons, aw_st_agree hag (aw_oks_t hoS)] at hw
  have hq : aw_cv (va_up ad T.1.length q) (.ref T.1.length) = .ref q := by simp [aw_cv, va_up]
  rw [hq] at hw
  exact hw
end
section
/-! ===== what the tables say: classes, fields, methods, links (written by wip/whole/gen_tab.py) ===== -/
theorem aw_in (i : Nat) {w : Cond} (h : lw_tbl[i]? = some w) (hg : goodWord w = true) : w ∈ aw_gt := List.mem_filter.mpr ⟨List.mem_of_getElem? h, hg⟩
theorem aw_inN (i : Nat) {w : Cond} (h : lw_tbl[i]? = some w) (hg : aw_isN w = true) : w ∈ aw_nt := List.mem_filter.mpr ⟨List.mem_of_getElem? h, hg⟩
theorem kX0 : aw_cls 0 RX0 TX0 2 := ⟨rfl, fun w h => by
  obtain ⟨k, hk, rfl⟩ := List.mem_map.mp h
  have hk := List.mem_range.mp hk
  match k, hk with
  | 0, _ => exact aw_in 215 (by decide +kernel) (by decide +kernel)
  | 1, _ => exact aw_in 217 (by decide +kernel) (by decide +kernel)
  | n + 2, h => exact absurd h (by omega), tyX0_ok, nmX0⟩
theorem kX1 : aw_cls 1 RX1 TX1 8 := ⟨rfl, fun w h => by
  obtain ⟨k, hk, rfl⟩ := List.mem_map.mp h
  have hk := List.mem_range.mp hk
  match k, hk with
  | 0, _ => exact aw_in 239 (by decide +kernel) (by decide +kernel)
  | 1, _ => exact aw_in 241 (by decide +kernel) (by decide +kernel)
  | 2, _ => exact aw_in 243 (by decide +kernel) (by decide +kernel)
  | 3, _ => exact aw_in 245 (by decide +kernel) (by decide +kernel)
  | 4, _ => exact aw_in 247 (by decide +kernel) (by decide +kernel)
  | 5, _ => exact aw_in 249 (by decide +kernel) (by decide +kernel)
  | 6, _ => exact aw_in 251 (by decide +kernel) (by decide +kernel)
  | 7, _ => exact aw_in 253 (by decide +kernel) (by decide +kernel)
  | n + 8, h => exact absurd h (by omega), tyX1_ok, nmX1⟩
theorem kX2 : aw_cls 2 RX2 TX2 6 := ⟨rfl, fun w h => by
  obtain ⟨k, hk, rfl⟩ := List.mem_map.mp h
  have hk := List.mem_range.mp hk
  match k, hk with
  | 0, _ => exact aw_in 147 (by decide +kernel) (by decide +kernel)
  | 1, _ => exact aw_in 149 (by decide +kernel) (by decide +kernel)
  | 2, _ => exact aw_in 151 (by decide +kernel) (by decide +kernel)
  | 3, _ => exact aw_in 153 (by decide +kernel) (by decide +kernel)
  | 4, _ => exact aw_in 155 (by decide +kernel) (by decide +kernel)
  | 5, _ => exact aw_in 157 (by decide +kernel) (by decide +kernel)
  | n + 6, h => exact absurd h (by omega), tyX2_ok, nmX2⟩
theorem kX3 : aw_cls 3 RX3 TX3 10 := ⟨rfl, fun w h => by
  obtain ⟨k, hk, rfl⟩ := List.mem_map.mp h
  have hk := List.mem_range.mp hk
  match k, hk with
  | 0, _ => exact aw_in 185 (by decide +kernel) (by decide +kernel)
  | 1, _ => exact aw_in 187 (by decide +kernel) (by decide +kernel)
  | 2, _ => exact aw_in 189 (by decide +kernel) (by decide +kernel)
  | 3, _ => exact aw_in 191 (by decide +kernel) (by decide +kernel)
  | 4, _ => exact aw_in 193 (by decide +kernel) (by decide +kernel)
  | 5, _ => exact aw_in 195 (by decide +kernel) (by decide +kernel)
  | 6, _ => exact aw_in 197 (by decide +kernel) (by decide +kernel)
  | 7, _ => exact aw_in 199 (by decide +kernel) (by decide +kernel)
  | 8, _ => exact aw_in 201 (by decide +kernel) (by decide +kernel)
  | 9, _ => exact aw_in 203 (by decide +kernel) (by decide +kernel)
  | n + 10, h => exact absurd h (by omega), tyX3_ok, nmX3⟩
theorem kX4 : aw_cls 4 RX4 TX4 9 := ⟨rfl, fun w h => by
  obtain ⟨k, hk, rfl⟩ := List.mem_map.mp h
  have hk := List.mem_range.mp hk
  match k, hk with
  | 0, _ => exact aw_in 265 (by decide +kernel) (by decide +kernel)
  | 1, _ => exact aw_in 267 (by decide +kernel) (by decide +kernel)
  | 2, _ => exact aw_in 269 (by decide +kernel) (by decide +kernel)
  | 3, _ => exact aw_in 271 (by decide +kernel) (by decide +kernel)
  | 4, _ => exact aw_in 273 (by decide +kernel) (by decide +kernel)
  | 5, _ => exact aw_in 275 (by decide +kernel) (by decide +kernel)
  | 6, _ => exact aw_in 277 (by decide +kernel) (by decide +kernel)
  | 7, _ => exact aw_in 279 (by decide +kernel) (by decide +kernel)
  | 8, _ => exact aw_in 281 (by decide +kernel) (by decide +kernel)
  | n + 9, h => exact absurd h (by omega), tyX4_ok, nmX4⟩
theorem kX5 : aw_cls 5 RX5 TX5 35 := ⟨rfl, fun w h => by
  obtain ⟨k, hk, rfl⟩ := List.mem_map.mp h
  have hk := List.mem_range.mp hk
  match k, hk with
  | 0, _ => exact aw_in 737 (by decide +kernel) (by decide +kernel)
  | 1, _ => exact aw_in 739 (by decide +kernel) (by decide +kernel)
  | 2, _ => exact aw_in 741 (by decide +kernel) (by decide +kernel)
  | 3, _ => exact aw_in 743 (by decide +kernel) (by decide +kernel)
  | 4, _ => exact aw_in 745 (by decide +kernel) (by decide +kernel)
  | 5, _ => exact aw_in 747 (by decide +kernel) (by decide +kernel)
  | 6, _ => exact aw_in 749 (by decide +kernel) (by decide +kernel)
  | 7, _ => exact aw_in 751 (by decide +kernel) (by decide +kernel)
  | 8, _ => exact aw_in 753 (by decide +kernel) (by decide +kernel)
  | 9, _ => exact aw_in 755 (by decide +kernel) (by decide +kernel)
  | 10, _ => exact aw_in 757 (by decide +kernel) (by decide +kernel)
  | 11, _ => exact aw_in 759 (by decide +kernel) (by decide +kernel)
  | 12, _ => exact aw_in 761 (by decide +kernel) (by decide +kernel)
  | 13, _ => exact aw_in 763 (by decide +kernel) (by decide +kernel)
  | 14, _ => exact aw_in 765 (by decide +kernel) (by decide +kernel)
  | 15, _ => exact aw_in 767 (by decide +kernel) (by decide +kernel)
  | 16, _ => exact aw_in 769 (by decide +kernel) (by decide +kernel)
  | 17, _ => exact aw_in 771 (by decide +kernel) (by decide +kernel)
  | 18, _ => exact aw_in 773 (by decide +kernel) (by decide +kernel)
  | 19, _ => exact aw_in 775 (by decide +kernel) (by decide +kernel)
  | 20, _ => exact aw_in 777 (by decide +kernel) (by decide +kernel)
  | 21, _ => exact aw_in 779 (by decide +kernel) (by decide +kernel)
  | 22, _ => exact aw_in 781 (by decide +kernel) (by decide +kernel)
  | 23, _ => exact aw_in 783 (by decide +kernel) (by decide +kernel)
  | 24, _ => exact aw_in 785 (by decide +kernel) (by decide +kernel)
  | 25, _ => exact aw_in 787 (by decide +kernel) (by decide +kernel)
  | 26, _ => exact aw_in 789 (by decide +kernel) (by decide +kernel)
  | 27, _ => exact aw_in 791 (by decide +kernel) (by decide +kernel)
  | 28, _ => exact aw_in 793 (by decide +kernel) (by decide +kernel)
  | 29, _ => exact aw_in 795 (by decide +kernel) (by decide +kernel)
  | 30, _ => exact aw_in 797 (by decide +kernel) (by decide +kernel)
  | 31, _ => exact aw_in 799 (by decide +kernel) (by decide +kernel)
  | 32, _ => exact aw_in 801 (by decide +kernel) (by decide +kernel)
  | 33, _ => exact aw_in 803 (by decide +kernel) (by decide +kernel)
  | 34, _ => exact aw_in 805 (by decide +kernel) (by decide +kernel)
  | n + 35, h => exact absurd h (by omega), tyX5_ok, nmX5⟩
abbrev mX0_init : MI := (yX0_init, cX0_init, 1, none)
theorem fX0_init : aw_mf mX0_init 0 := ⟨aw_in 210 (by decide +kernel) rfl, aw_in 102 (by decide +kernel) rfl, ⟨by decide +kernel, by decide +kernel, by decide +kernel⟩, by decide +kernel, Nat.le_of_ble_eq_true rfl, by decide +kernel⟩
theorem vX0_init : aw_mI mX0_init := ⟨rfl, aw_in 209 (by decide +kernel) rfl, rfl⟩
abbrev mX0_take : MI := (yX0_take, cX0_take, 2, none)
theorem fX0_take : aw_mf mX0_take 1 := ⟨aw_in 295 (by decide +kernel) rfl, aw_in 102 (by decide +kernel) rfl, ⟨by decide +kernel, by decide +kernel, by decide +kernel⟩, by decide +kernel, Nat.le_of_ble_eq_true rfl, by decide +kernel⟩
theorem vX0_take : aw_mV mX0_take := ⟨aw_in 294 (by decide +kernel) rfl, aw_in 1 (by decide +kernel) rfl⟩
abbrev mX0_at : MI := (yX0_at, cX0_at, 2, (some .int))
theorem fX0_at : aw_mf mX0_at 1 := ⟨aw_in 315 (by decide +kernel) rfl, aw_in 102 (by decide +kernel) rfl, ⟨by decide +kernel, by decide +kernel, by decide +kernel⟩, by decide +kernel, Nat.le_of_ble_eq_true rfl, by decide +kernel⟩
theorem vX0_at : aw_mV mX0_at := ⟨aw_in 314 (by decide +kernel) rfl, aw_in 5 (by decide +kernel) rfl⟩
abbrev mX0_isDigit : MI := (yX0_isDigit, cX0_isDigit, 2, (some .boolean))
theorem fX0_isDigit : aw_mf mX0_isDigit 1 := ⟨aw_in 329 (by decide +kernel) rfl, aw_in 102 (by decide +kernel) rfl, ⟨by decide +kernel, by decide +kernel, by decide +kernel⟩, by decide +kernel, Nat.le_of_ble_eq_true rfl, by decide +kernel⟩
theorem vX0_isDigit : aw_mV mX0_isDigit := ⟨aw_in 328 (by decide +kernel) rfl, aw_in 7 (by decide +kernel) rfl⟩
abbrev mX0_digit : MI := (yX0_digit, cX0_digit, 2, (some .int))
theorem fX0_digit : aw_mf mX0_digit 1 := ⟨aw_in 352 (by decide +kernel) rfl, aw_in 102 (by decide +kernel) rfl, ⟨by decide +kernel, by decide +kernel, by decide +kernel⟩, by decide +kernel, Nat.le_of_ble_eq_true rfl, by decide +kernel⟩
theorem vX0_digit : aw_mV mX0_digit := ⟨aw_in 351 (by decide +kernel) rfl, aw_in 12 (by decide +kernel) rfl⟩
abbrev mX0_leastDigits : MI := (yX0_leastDigits, cX0_leastDigits, 1, (some .int))
theorem fX0_leastDigits : aw_mf mX0_leastDigits 1 := ⟨aw_in 318 (by decide +kernel) rfl, aw_in 102 (by decide +kernel) rfl, ⟨by decide +kernel, by decide +kernel, by decide +kernel⟩, by decide +kernel, Nat.le_of_ble_eq_true rfl, by decide +kernel⟩
theorem sX0_leastDigits : Cond.static mX0_leastDigits.1 ∈ aw_gt := aw_in 317 (by decide +kernel) rfl
abbrev mX0_mostDigits : MI := (yX0_mostDigits, cX0_mostDigits, 1, (some .int))
theorem fX0_mostDigits : aw_mf mX0_mostDigits 1 := ⟨aw_in 321 (by decide +kernel) rfl, aw_in 102 (by decide +kernel) rfl, ⟨by decide +kernel, by decide +kernel, by decide +kernel⟩, by decide +kernel, Nat.le_of_ble_eq_true rfl, by decide +kernel⟩
theorem sX0_mostDigits : Cond.static mX0_mostDigits.1 ∈ aw_gt := aw_in 320 (by decide +kernel) rfl
abbrev mX0_digitsFrom : MI := (yX0_digitsFrom, cX0_digitsFrom, 4, (some .int))
theorem fX0_digitsFrom : aw_mf mX0_digitsFrom 2 := ⟨aw_in 325 (by decide +kernel) rfl, aw_in 102 (by decide +kernel) rfl, ⟨by decide +kernel, by decide +kernel, by decide +kernel⟩, by decide +kernel, Nat.le_of_ble_eq_true rfl, by decide +kernel⟩
theorem vX0_digitsFrom : aw_mV mX0_digitsFrom := ⟨aw_in 324 (by decide +kernel) rfl, aw_in 6 (by decide +kernel) rfl⟩
abbrev mX0_endOf : MI := (yX0_endOf, cX0_endOf, 5, (some .int))
theorem fX0_endOf : aw_mf mX0_endOf 1 := ⟨aw_in 311 (by decide +kernel) rfl, aw_in 102 (by decide +kernel) rfl, ⟨by decide +kernel, by decide +kernel, by decide +kernel⟩, by decide +kernel, Nat.le_of_ble_eq_true rfl, by decide +kernel⟩
theorem vX0_endOf : aw_mV mX0_endOf := ⟨aw_in 310 (by decide +kernel) rfl, aw_in 4 (by decide +kernel) rfl⟩
abbrev mX0_firstWrong : MI := (yX0_firstWrong, cX0_firstWrong, 4, (some .int))
theorem fX0_firstWrong : aw_mf mX0_firstWrong 0 := ⟨aw_in 307 (by decide +kernel) rfl, aw_in 102 (by decide +kernel) rfl, ⟨by decide +kernel, by decide +kernel, by decide +kernel⟩, by decide +kernel, Nat.le_of_ble_eq_true rfl, by decide +kernel⟩
theorem vX0_firstWrong : aw_mV mX0_firstWrong := ⟨aw_in 306 (by decide +kernel) rfl, aw_in 3 (by decide +kernel) rfl⟩
abbrev mX0_tellTo : MI := (yX0_tellTo, cX0_tellTo, 4, (some .int))
theorem fX0_tellTo : aw_mf mX0_tellTo 1 := ⟨aw_in 344 (by decide +kernel) rfl, aw_in 102 (by decide +kernel) rfl, ⟨by decide +kernel, by decide +kernel, by decide +kernel⟩, by decide +kernel, Nat.le_of_ble_eq_true rfl, by decide +kernel⟩
theorem vX0_tellTo : aw_mV mX0_tellTo := ⟨aw_in 343 (by decide +kernel) rfl, aw_in 10 (by decide +kernel) rfl⟩
abbrev mX0_tellStatement : MI := (yX0_tellStatement, cX0_tellStatement, 6, (some .boolean))
theorem fX0_tellStatement : aw_mf mX0_tellStatement 2 := ⟨aw_in 348 (by decide +kernel) rfl, aw_in 102 (by decide +kernel) rfl, ⟨by decide +kernel, by decide +kernel, by decide +kernel⟩, by decide +kernel, Nat.le_of_ble_eq_true rfl, by decide +kernel⟩
theorem vX0_tellStatement : aw_mV mX0_tellStatement := ⟨aw_in 347 (by decide +kernel) rfl, aw_in 11 (by decide +kernel) rfl⟩
abbrev mX0_warmthAt : MI := (yX0_warmthAt, cX0_warmthAt, 2, (some .int))
theorem fX0_warmthAt : aw_mf mX0_warmthAt 1 := ⟨aw_in 372 (by decide +kernel) rfl, aw_in 102 (by decide +kernel) rfl, ⟨by decide +kernel, by decide +kernel, by decide +kernel⟩, by decide +kernel, Nat.le_of_ble_eq_true rfl, by decide +kernel⟩
theorem vX0_warmthAt : aw_mV mX0_warmthAt := ⟨aw_in 371 (by decide +kernel) rfl, aw_in 17 (by decide +kernel) rfl⟩
abbrev mX1_init : MI := (yX1_init, cX1_init, 1, none)
theorem fX1_init : aw_mf mX1_init 0 := ⟨aw_in 224 (by decide +kernel) rfl, aw_in 103 (by decide +kernel) rfl, ⟨by decide +kernel, by decide +kernel, by decide +kernel⟩, by decide +kernel, Nat.le_of_ble_eq_true rfl, by decide +kernel⟩
theorem vX1_init : aw_mI mX1_init := ⟨rfl, aw_in 223 (by decide +kernel) rfl, rfl⟩
abbrev mX1_thinkOf : MI := (yX1_thinkOf, cX1_thinkOf, 4, none)
theorem fX1_thinkOf : aw_mf mX1_thinkOf 2 := ⟨aw_in 547 (by decide +kernel) rfl, aw_in 103 (by decide +kernel) rfl, ⟨by decide +kernel, by decide +kernel, by decide +kernel⟩, by decide +kernel, Nat.le_of_ble_eq_true rfl, by decide +kernel⟩
theorem vX1_thinkOf : aw_mV mX1_thinkOf := ⟨aw_in 546 (by decide +kernel) rfl, aw_in 43 (by decide +kernel) rfl⟩
abbrev mX1_ableIn : MI := (yX1_ableIn, cX1_ableIn, 5, (some .int))
theorem fX1_ableIn : aw_mf mX1_ableIn 2 := ⟨aw_in 552 (by decide +kernel) rfl, aw_in 103 (by decide +kernel) rfl, ⟨by decide +kernel, by decide +kernel, by decide +kernel⟩, by decide +kernel, Nat.le_of_ble_eq_true rfl, by decide +kernel⟩
theorem vX1_ableIn : aw_mV mX1_ableIn := ⟨aw_in 551 (by decide +kernel) rfl, aw_in 44 (by decide +kernel) rfl⟩
abbrev mX1_extend : MI := (yX1_extend, cX1_extend, 8, none)
theorem fX1_extend : aw_mf mX1_extend 5 := ⟨aw_in 558 (by decide +kernel) rfl, aw_in 103 (by decide +kernel) rfl, ⟨by decide +kernel, by decide +kernel, by decide +kernel⟩, by decide +kernel, Nat.le_of_ble_eq_true rfl, by decide +kernel⟩
theorem vX1_extend : aw_mV mX1_extend := ⟨aw_in 557 (by decide +kernel) rfl, aw_in 45 (by decide +kernel) rfl⟩
abbrev mX1_weigh : MI := (yX1_weigh, cX1_weigh, 5, none)
theorem fX1_weigh : aw_mf mX1_weigh 3 := ⟨aw_in 562 (by decide +kernel) rfl, aw_in 103 (by decide +kernel) rfl, ⟨by decide +kernel, by decide +kernel, by decide +kernel⟩, by decide +kernel, Nat.le_of_ble_eq_true rfl, by decide +kernel⟩
theorem vX1_weigh : aw_mV mX1_weigh := ⟨aw_in 561 (by decide +kernel) rfl, aw_in 46 (by decide +kernel) rfl⟩
abbrev mX1_bestChange : MI := (yX1_bestChange, cX1_bestChange, 7, (some .int))
theorem fX1_bestChange : aw_mf mX1_bestChange 1 := ⟨aw_in 585 (by decide +kernel) rfl, aw_in 103 (by decide +kernel) rfl, ⟨by decide +kernel, by decide +kernel, by decide +kernel⟩, by decide +kernel, Nat.le_of_ble_eq_true rfl, by decide +kernel⟩
theorem vX1_bestChange : aw_mV mX1_bestChange := ⟨aw_in 584 (by decide +kernel) rfl, aw_in 47 (by decide +kernel) rfl⟩
abbrev mX1_standingBySeed : MI := (yX1_standingBySeed, cX1_standingBySeed, 8, (some .int))
theorem fX1_standingBySeed : aw_mf mX1_standingBySeed 3 := ⟨aw_in 668 (by decide +kernel) rfl, aw_in 103 (by decide +kernel) rfl, ⟨by decide +kernel, by decide +kernel, by decide +kernel⟩, by decide +kernel, Nat.le_of_ble_eq_true rfl, by decide +kernel⟩
theorem vX1_standingBySeed : aw_mV mX1_standingBySeed := ⟨aw_in 667 (by decide +kernel) rfl, aw_in 55 (by decide +kernel) rfl⟩
abbrev mX1_drawBelow : MI := (yX1_drawBelow, cX1_drawBelow, 2, (some .int))
theorem fX1_drawBelow : aw_mf mX1_drawBelow 2 := ⟨aw_in 672 (by decide +kernel) rfl, aw_in 103 (by decide +kernel) rfl, ⟨by decide +kernel, by decide +kernel, by decide +kernel⟩, by decide +kernel, Nat.le_of_ble_eq_true rfl, by decide +kernel⟩
theorem sX1_drawBelow : Cond.static mX1_drawBelow.1 ∈ aw_gt := aw_in 671 (by decide +kernel) rfl
abbrev mX2_init : MI := (yX2_init, cX2_init, 1, none)
theorem fX2_init : aw_mf mX2_init 0 := ⟨aw_in 127 (by decide +kernel) rfl, aw_in 101 (by decide +kernel) rfl, ⟨by decide +kernel, by decide +kernel, by decide +kernel⟩, by decide +kernel, Nat.le_of_ble_eq_true rfl, by decide +kernel⟩
theorem vX2_init : aw_mI mX2_init := ⟨rfl, aw_in 126 (by decide +kernel) rfl, rfl⟩
abbrev mX2_copyFrom : MI := (yX2_copyFrom, cX2_copyFrom, 2, none)
theorem fX2_copyFrom : aw_mf mX2_copyFrom 1 := ⟨aw_in 340 (by decide +kernel) rfl, aw_in 101 (by decide +kernel) rfl, ⟨by decide +kernel, by decide +kernel, by decide +kernel⟩, by decide +kernel, Nat.le_of_ble_eq_true rfl, by decide +kernel⟩
theorem vX2_copyFrom : aw_mV mX2_copyFrom := ⟨aw_in 339 (by decide +kernel) rfl, aw_in 9 (by decide +kernel) rfl⟩
abbrev mX2_reaches : MI := (yX2_reaches, cX2_reaches, 1, (some .int))
theorem fX2_reaches : aw_mf mX2_reaches 0 := ⟨aw_in 418 (by decide +kernel) rfl, aw_in 101 (by decide +kernel) rfl, ⟨by decide +kernel, by decide +kernel, by decide +kernel⟩, by decide +kernel, Nat.le_of_ble_eq_true rfl, by decide +kernel⟩
theorem vX2_reaches : aw_mV mX2_reaches := ⟨aw_in 417 (by decide +kernel) rfl, aw_in 26 (by decide +kernel) rfl⟩
abbrev mX2_holds : MI := (yX2_holds, cX2_holds, 1, (some .int))
theorem fX2_holds : aw_mf mX2_holds 0 := ⟨aw_in 422 (by decide +kernel) rfl, aw_in 101 (by decide +kernel) rfl, ⟨by decide +kernel, by decide +kernel, by decide +kernel⟩, by decide +kernel, Nat.le_of_ble_eq_true rfl, by decide +kernel⟩
theorem vX2_holds : aw_mV mX2_holds := ⟨aw_in 421 (by decide +kernel) rfl, aw_in 27 (by decide +kernel) rfl⟩
abbrev mX2_cools : MI := (yX2_cools, cX2_cools, 2, (some .int))
theorem fX2_cools : aw_mf mX2_cools 1 := ⟨aw_in 429 (by decide +kernel) rfl, aw_in 101 (by decide +kernel) rfl, ⟨by decide +kernel, by decide +kernel, by decide +kernel⟩, by decide +kernel, Nat.le_of_ble_eq_true rfl, by decide +kernel⟩
theorem vX2_cools : aw_mV mX2_cools := ⟨aw_in 428 (by decide +kernel) rfl, aw_in 28 (by decide +kernel) rfl⟩
abbrev mX2_minutes : MI := (yX2_minutes, cX2_minutes, 3, (some .int))
theorem fX2_minutes : aw_mf mX2_minutes 1 := ⟨aw_in 512 (by decide +kernel) rfl, aw_in 101 (by decide +kernel) rfl, ⟨by decide +kernel, by decide +kernel, by decide +kernel⟩, by decide +kernel, Nat.le_of_ble_eq_true rfl, by decide +kernel⟩
theorem vX2_minutes : aw_mV mX2_minutes := ⟨aw_in 511 (by decide +kernel) rfl, aw_in 37 (by decide +kernel) rfl⟩
abbrev mX3_init : MI := (yX3_init, cX3_init, 2, none)
theorem fX3_init : aw_mf mX3_init 0 := ⟨aw_in 120 (by decide +kernel) rfl, aw_in 100 (by decide +kernel) rfl, ⟨by decide +kernel, by decide +kernel, by decide +kernel⟩, by decide +kernel, Nat.le_of_ble_eq_true rfl, by decide +kernel⟩
theorem vX3_init : aw_mI mX3_init := ⟨rfl, aw_in 119 (by decide +kernel) rfl, rfl⟩
abbrev mX3_copyFrom : MI := (yX3_copyFrom, cX3_copyFrom, 3, none)
theorem fX3_copyFrom : aw_mf mX3_copyFrom 1 := ⟨aw_in 333 (by decide +kernel) rfl, aw_in 100 (by decide +kernel) rfl, ⟨by decide +kernel, by decide +kernel, by decide +kernel⟩, by decide +kernel, Nat.le_of_ble_eq_true rfl, by decide +kernel⟩
theorem vX3_copyFrom : aw_mV mX3_copyFrom := ⟨aw_in 332 (by decide +kernel) rfl, aw_in 8 (by decide +kernel) rfl⟩
abbrev mX3_isYard : MI := (yX3_isYard, cX3_isYard, 2, (some .boolean))
theorem fX3_isYard : aw_mf mX3_isYard 1 := ⟨aw_in 368 (by decide +kernel) rfl, aw_in 100 (by decide +kernel) rfl, ⟨by decide +kernel, by decide +kernel, by decide +kernel⟩, by decide +kernel, Nat.le_of_ble_eq_true rfl, by decide +kernel⟩
theorem vX3_isYard : aw_mV mX3_isYard := ⟨aw_in 367 (by decide +kernel) rfl, aw_in 16 (by decide +kernel) rfl⟩
abbrev mX3_isPerson : MI := (yX3_isPerson, cX3_isPerson, 2, (some .boolean))
theorem fX3_isPerson : aw_mf mX3_isPerson 1 := ⟨aw_in 388 (by decide +kernel) rfl, aw_in 100 (by decide +kernel) rfl, ⟨by decide +kernel, by decide +kernel, by decide +kernel⟩, by decide +kernel, Nat.le_of_ble_eq_true rfl, by decide +kernel⟩
theorem vX3_isPerson : aw_mV mX3_isPerson := ⟨aw_in 387 (by decide +kernel) rfl, aw_in 21 (by decide +kernel) rfl⟩
abbrev mX3_areTwo : MI := (yX3_areTwo, cX3_areTwo, 3, (some .boolean))
theorem fX3_areTwo : aw_mf mX3_areTwo 2 := ⟨aw_in 384 (by decide +kernel) rfl, aw_in 100 (by decide +kernel) rfl, ⟨by decide +kernel, by decide +kernel, by decide +kernel⟩, by decide +kernel, Nat.le_of_ble_eq_true rfl, by decide +kernel⟩
theorem vX3_areTwo : aw_mV mX3_areTwo := ⟨aw_in 383 (by decide +kernel) rfl, aw_in 20 (by decide +kernel) rfl⟩
abbrev mX3_placeOf : MI := (yX3_placeOf, cX3_placeOf, 3, (some .int))
theorem fX3_placeOf : aw_mf mX3_placeOf 1 := ⟨aw_in 433 (by decide +kernel) rfl, aw_in 100 (by decide +kernel) rfl, ⟨by decide +kernel, by decide +kernel, by decide +kernel⟩, by decide +kernel, Nat.le_of_ble_eq_true rfl, by decide +kernel⟩
theorem vX3_placeOf : aw_mV mX3_placeOf := ⟨aw_in 432 (by decide +kernel) rfl, aw_in 29 (by decide +kernel) rfl⟩
abbrev mX3_isNear : MI := (yX3_isNear, cX3_isNear, 2, (some .boolean))
theorem fX3_isNear : aw_mf mX3_isNear 1 := ⟨aw_in 521 (by decide +kernel) rfl, aw_in 100 (by decide +kernel) rfl, ⟨by decide +kernel, by decide +kernel, by decide +kernel⟩, by decide +kernel, Nat.le_of_ble_eq_true rfl, by decide +kernel⟩
theorem vX3_isNear : aw_mV mX3_isNear := ⟨aw_in 520 (by decide +kernel) rfl, aw_in 38 (by decide +kernel) rfl⟩
abbrev mX3_inWater : MI := (yX3_inWater, cX3_inWater, 3, (some .int))
theorem fX3_inWater : aw_mf mX3_inWater 0 := ⟨aw_in 461 (by decide +kernel) rfl, aw_in 100 (by decide +kernel) rfl, ⟨by decide +kernel, by decide +kernel, by decide +kernel⟩, by decide +kernel, Nat.le_of_ble_eq_true rfl, by decide +kernel⟩
theorem vX3_inWater : aw_mV mX3_inWater := ⟨aw_in 460 (by decide +kernel) rfl, aw_in 30 (by decide +kernel) rfl⟩
abbrev mX3_overThere : MI := (yX3_overThere, cX3_overThere, 3, (some .int))
theorem fX3_overThere : aw_mf mX3_overThere 0 := ⟨aw_in 465 (by decide +kernel) rfl, aw_in 100 (by decide +kernel) rfl, ⟨by decide +kernel, by decide +kernel, by decide +kernel⟩, by decide +kernel, Nat.le_of_ble_eq_true rfl, by decide +kernel⟩
theorem vX3_overThere : aw_mV mX3_overThere := ⟨aw_in 464 (by decide +kernel) rfl, aw_in 31 (by decide +kernel) rfl⟩
abbrev mX3_nearBank : MI := (yX3_nearBank, cX3_nearBank, 1, (some .int))
theorem fX3_nearBank : aw_mf mX3_nearBank 0 := ⟨aw_in 601 (by decide +kernel) rfl, aw_in 100 (by decide +kernel) rfl, ⟨by decide +kernel, by decide +kernel, by decide +kernel⟩, by decide +kernel, Nat.le_of_ble_eq_true rfl, by decide +kernel⟩
theorem vX3_nearBank : aw_mV mX3_nearBank := ⟨aw_in 600 (by decide +kernel) rfl, aw_in 48 (by decide +kernel) rfl⟩
abbrev mX3_notOver : MI := (yX3_notOver, cX3_notOver, 3, (some .int))
theorem fX3_notOver : aw_mf mX3_notOver 0 := ⟨aw_in 543 (by decide +kernel) rfl, aw_in 100 (by decide +kernel) rfl, ⟨by decide +kernel, by decide +kernel, by decide +kernel⟩, by decide +kernel, Nat.le_of_ble_eq_true rfl, by decide +kernel⟩
theorem vX3_notOver : aw_mV mX3_notOver := ⟨aw_in 542 (by decide +kernel) rfl, aw_in 42 (by decide +kernel) rfl⟩
abbrev mX3_emptyWater : MI := (yX3_emptyWater, cX3_emptyWater, 2, none)
theorem fX3_emptyWater : aw_mf mX3_emptyWater 0 := ⟨aw_in 360 (by decide +kernel) rfl, aw_in 100 (by decide +kernel) rfl, ⟨by decide +kernel, by decide +kernel, by decide +kernel⟩, by decide +kernel, Nat.le_of_ble_eq_true rfl, by decide +kernel⟩
theorem vX3_emptyWater : aw_mV mX3_emptyWater := ⟨aw_in 359 (by decide +kernel) rfl, aw_in 14 (by decide +kernel) rfl⟩
abbrev mX3_enter : MI := (yX3_enter, cX3_enter, 4, none)
theorem fX3_enter : aw_mf mX3_enter 2 := ⟨aw_in 404 (by decide +kernel) rfl, aw_in 100 (by decide +kernel) rfl, ⟨by decide +kernel, by decide +kernel, by decide +kernel⟩, by decide +kernel, Nat.le_of_ble_eq_true rfl, by decide +kernel⟩
theorem vX3_enter : aw_mV mX3_enter := ⟨aw_in 403 (by decide +kernel) rfl, aw_in 25 (by decide +kernel) rfl⟩
abbrev mX3_grudgeOf : MI := (yX3_grudgeOf, cX3_grudgeOf, 3, (some .int))
theorem fX3_grudgeOf : aw_mf mX3_grudgeOf 2 := ⟨aw_in 392 (by decide +kernel) rfl, aw_in 100 (by decide +kernel) rfl, ⟨by decide +kernel, by decide +kernel, by decide +kernel⟩, by decide +kernel, Nat.le_of_ble_eq_true rfl, by decide +kernel⟩
theorem vX3_grudgeOf : aw_mV mX3_grudgeOf := ⟨aw_in 391 (by decide +kernel) rfl, aw_in 22 (by decide +kernel) rfl⟩
abbrev mX3_setGrudge : MI := (yX3_setGrudge, cX3_setGrudge, 4, none)
theorem fX3_setGrudge : aw_mf mX3_setGrudge 3 := ⟨aw_in 396 (by decide +kernel) rfl, aw_in 100 (by decide +kernel) rfl, ⟨by decide +kernel, by decide +kernel, by decide +kernel⟩, by decide +kernel, Nat.le_of_ble_eq_true rfl, by decide +kernel⟩
theorem vX3_setGrudge : aw_mV mX3_setGrudge := ⟨aw_in 395 (by decide +kernel) rfl, aw_in 23 (by decide +kernel) rfl⟩
abbrev mX3_allGrudges : MI := (yX3_allGrudges, cX3_allGrudges, 3, (some .int))
theorem fX3_allGrudges : aw_mf mX3_allGrudges 0 := ⟨aw_in 690 (by decide +kernel) rfl, aw_in 100 (by decide +kernel) rfl, ⟨by decide +kernel, by decide +kernel, by decide +kernel⟩, by decide +kernel, Nat.le_of_ble_eq_true rfl, by decide +kernel⟩
theorem vX3_allGrudges : aw_mV mX3_allGrudges := ⟨aw_in 689 (by decide +kernel) rfl, aw_in 56 (by decide +kernel) rfl⟩
abbrev mX3_loadOf : MI := (yX3_loadOf, cX3_loadOf, 5, (some .int))
theorem fX3_loadOf : aw_mf mX3_loadOf 1 := ⟨aw_in 474 (by decide +kernel) rfl, aw_in 100 (by decide +kernel) rfl, ⟨by decide +kernel, by decide +kernel, by decide +kernel⟩, by decide +kernel, Nat.le_of_ble_eq_true rfl, by decide +kernel⟩
theorem vX3_loadOf : aw_mV mX3_loadOf := ⟨aw_in 473 (by decide +kernel) rfl, aw_in 32 (by decide +kernel) rfl⟩
abbrev mX3_whyNot : MI := (yX3_whyNot, cX3_whyNot, 3, (some .int))
theorem fX3_whyNot : aw_mf mX3_whyNot 2 := ⟨aw_in 493 (by decide +kernel) rfl, aw_in 100 (by decide +kernel) rfl, ⟨by decide +kernel, by decide +kernel, by decide +kernel⟩, by decide +kernel, Nat.le_of_ble_eq_true rfl, by decide +kernel⟩
theorem vX3_whyNot : aw_mV mX3_whyNot := ⟨aw_in 492 (by decide +kernel) rfl, aw_in 35 (by decide +kernel) rfl⟩
abbrev mX3_whySlips : MI := (yX3_whySlips, cX3_whySlips, 6, (some .int))
theorem fX3_whySlips : aw_mf mX3_whySlips 2 := ⟨aw_in 489 (by decide +kernel) rfl, aw_in 100 (by decide +kernel) rfl, ⟨by decide +kernel, by decide +kernel, by decide +kernel⟩, by decide +kernel, Nat.le_of_ble_eq_true rfl, by decide +kernel⟩
theorem vX3_whySlips : aw_mV mX3_whySlips := ⟨aw_in 488 (by decide +kernel) rfl, aw_in 34 (by decide +kernel) rfl⟩
abbrev mX3_firstSlip : MI := (yX3_firstSlip, cX3_firstSlip, 3, (some .int))
theorem fX3_firstSlip : aw_mf mX3_firstSlip 1 := ⟨aw_in 485 (by decide +kernel) rfl, aw_in 100 (by decide +kernel) rfl, ⟨by decide +kernel, by decide +kernel, by decide +kernel⟩, by decide +kernel, Nat.le_of_ble_eq_true rfl, by decide +kernel⟩
theorem vX3_firstSlip : aw_mV mX3_firstSlip := ⟨aw_in 484 (by decide +kernel) rfl, aw_in 33 (by decide +kernel) rfl⟩
abbrev mX3_minutesOf : MI := (yX3_minutesOf, cX3_minutesOf, 4, (some .int))
theorem fX3_minutesOf : aw_mf mX3_minutesOf 1 := ⟨aw_in 506 (by decide +kernel) rfl, aw_in 100 (by decide +kernel) rfl, ⟨by decide +kernel, by decide +kernel, by decide +kernel⟩, by decide +kernel, Nat.le_of_ble_eq_true rfl, by decide +kernel⟩
theorem vX3_minutesOf : aw_mV mX3_minutesOf := ⟨aw_in 505 (by decide +kernel) rfl, aw_in 36 (by decide +kernel) rfl⟩
abbrev mX3_bringOver : MI := (yX3_bringOver, cX3_bringOver, 5, none)
theorem fX3_bringOver : aw_mf mX3_bringOver 1 := ⟨aw_in 526 (by decide +kernel) rfl, aw_in 100 (by decide +kernel) rfl, ⟨by decide +kernel, by decide +kernel, by decide +kernel⟩, by decide +kernel, Nat.le_of_ble_eq_true rfl, by decide +kernel⟩
theorem vX3_bringOver : aw_mV mX3_bringOver := ⟨aw_in 525 (by decide +kernel) rfl, aw_in 39 (by decide +kernel) rfl⟩
abbrev mX3_firstAmiss : MI := (yX3_firstAmiss, cX3_firstAmiss, 5, (some .int))
theorem fX3_firstAmiss : aw_mf mX3_firstAmiss 2 := ⟨aw_in 656 (by decide +kernel) rfl, aw_in 100 (by decide +kernel) rfl, ⟨by decide +kernel, by decide +kernel, by decide +kernel⟩, by decide +kernel, Nat.le_of_ble_eq_true rfl, by decide +kernel⟩
theorem vX3_firstAmiss : aw_mV mX3_firstAmiss := ⟨aw_in 655 (by decide +kernel) rfl, aw_in 53 (by decide +kernel) rfl⟩
abbrev mX3_canCome : MI := (yX3_canCome, cX3_canCome, 5, (some .boolean))
theorem fX3_canCome : aw_mf mX3_canCome 2 := ⟨aw_in 660 (by decide +kernel) rfl, aw_in 100 (by decide +kernel) rfl, ⟨by decide +kernel, by decide +kernel, by decide +kernel⟩, by decide +kernel, Nat.le_of_ble_eq_true rfl, by decide +kernel⟩
theorem vX3_canCome : aw_mV mX3_canCome := ⟨aw_in 659 (by decide +kernel) rfl, aw_in 54 (by decide +kernel) rfl⟩
abbrev mX3_hoursOf : MI := (yX3_hoursOf, cX3_hoursOf, 3, (some .int))
theorem fX3_hoursOf : aw_mf mX3_hoursOf 2 := ⟨aw_in 531 (by decide +kernel) rfl, aw_in 100 (by decide +kernel) rfl, ⟨by decide +kernel, by decide +kernel, by decide +kernel⟩, by decide +kernel, Nat.le_of_ble_eq_true rfl, by decide +kernel⟩
theorem vX3_hoursOf : aw_mV mX3_hoursOf := ⟨aw_in 530 (by decide +kernel) rfl, aw_in 40 (by decide +kernel) rfl⟩
abbrev mX3_setHours : MI := (yX3_setHours, cX3_setHours, 4, none)
theorem fX3_setHours : aw_mf mX3_setHours 3 := ⟨aw_in 535 (by decide +kernel) rfl, aw_in 100 (by decide +kernel) rfl, ⟨by decide +kernel, by decide +kernel, by decide +kernel⟩, by decide +kernel, Nat.le_of_ble_eq_true rfl, by decide +kernel⟩
theorem vX3_setHours : aw_mV mX3_setHours := ⟨aw_in 534 (by decide +kernel) rfl, aw_in 41 (by decide +kernel) rfl⟩
abbrev mX3_lessenHours : MI := (yX3_lessenHours, cX3_lessenHours, 4, none)
theorem fX3_lessenHours : aw_mf mX3_lessenHours 3 := ⟨aw_in 626 (by decide +kernel) rfl, aw_in 100 (by decide +kernel) rfl, ⟨by decide +kernel, by decide +kernel, by decide +kernel⟩, by decide +kernel, Nat.le_of_ble_eq_true rfl, by decide +kernel⟩
theorem vX3_lessenHours : aw_mV mX3_lessenHours := ⟨aw_in 625 (by decide +kernel) rfl, aw_in 50 (by decide +kernel) rfl⟩
abbrev mX3_allHours : MI := (yX3_allHours, cX3_allHours, 3, (some .int))
theorem fX3_allHours : aw_mf mX3_allHours 0 := ⟨aw_in 695 (by decide +kernel) rfl, aw_in 100 (by decide +kernel) rfl, ⟨by decide +kernel, by decide +kernel, by decide +kernel⟩, by decide +kernel, Nat.le_of_ble_eq_true rfl, by decide +kernel⟩
theorem vX3_allHours : aw_mV mX3_allHours := ⟨aw_in 694 (by decide +kernel) rfl, aw_in 57 (by decide +kernel) rfl⟩
abbrev mX3_strikeTwos : MI := (yX3_strikeTwos, cX3_strikeTwos, 5, (some .int))
theorem fX3_strikeTwos : aw_mf mX3_strikeTwos 0 := ⟨aw_in 622 (by decide +kernel) rfl, aw_in 100 (by decide +kernel) rfl, ⟨by decide +kernel, by decide +kernel, by decide +kernel⟩, by decide +kernel, Nat.le_of_ble_eq_true rfl, by decide +kernel⟩
theorem vX3_strikeTwos : aw_mV mX3_strikeTwos := ⟨aw_in 621 (by decide +kernel) rfl, aw_in 49 (by decide +kernel) rfl⟩
abbrev mX3_strikeThrees : MI := (yX3_strikeThrees, cX3_strikeThrees, 5, (some .int))
theorem fX3_strikeThrees : aw_mf mX3_strikeThrees 0 := ⟨aw_in 630 (by decide +kernel) rfl, aw_in 100 (by decide +kernel) rfl, ⟨by decide +kernel, by decide +kernel, by decide +kernel⟩, by decide +kernel, Nat.le_of_ble_eq_true rfl, by decide +kernel⟩
theorem vX3_strikeThrees : aw_mV mX3_strikeThrees := ⟨aw_in 629 (by decide +kernel) rfl, aw_in 51 (by decide +kernel) rfl⟩
abbrev mX3_strikeThree : MI := (yX3_strikeThree, cX3_strikeThree, 5, (some .int))
theorem fX3_strikeThree : aw_mf mX3_strikeThree 3 := ⟨aw_in 634 (by decide +kernel) rfl, aw_in 100 (by decide +kernel) rfl, ⟨by decide +kernel, by decide +kernel, by decide +kernel⟩, by decide +kernel, Nat.le_of_ble_eq_true rfl, by decide +kernel⟩
theorem vX3_strikeThree : aw_mV mX3_strikeThree := ⟨aw_in 633 (by decide +kernel) rfl, aw_in 52 (by decide +kernel) rfl⟩
abbrev mX3_tellYards : MI := (yX3_tellYards, cX3_tellYards, 3, (some .boolean))
theorem fX3_tellYards : aw_mf mX3_tellYards 1 := ⟨aw_in 356 (by decide +kernel) rfl, aw_in 100 (by decide +kernel) rfl, ⟨by decide +kernel, by decide +kernel, by decide +kernel⟩, by decide +kernel, Nat.le_of_ble_eq_true rfl, by decide +kernel⟩
theorem vX3_tellYards : aw_mV mX3_tellYards := ⟨aw_in 355 (by decide +kernel) rfl, aw_in 13 (by decide +kernel) rfl⟩
abbrev mX3_tellYard : MI := (yX3_tellYard, cX3_tellYard, 4, (some .boolean))
theorem fX3_tellYard : aw_mf mX3_tellYard 3 := ⟨aw_in 364 (by decide +kernel) rfl, aw_in 100 (by decide +kernel) rfl, ⟨by decide +kernel, by decide +kernel, by decide +kernel⟩, by decide +kernel, Nat.le_of_ble_eq_true rfl, by decide +kernel⟩
theorem vX3_tellYard : aw_mV mX3_tellYard := ⟨aw_in 363 (by decide +kernel) rfl, aw_in 15 (by decide +kernel) rfl⟩
abbrev mX3_tellPerson : MI := (yX3_tellPerson, cX3_tellPerson, 7, (some .boolean))
theorem fX3_tellPerson : aw_mf mX3_tellPerson 5 := ⟨aw_in 376 (by decide +kernel) rfl, aw_in 100 (by decide +kernel) rfl, ⟨by decide +kernel, by decide +kernel, by decide +kernel⟩, by decide +kernel, Nat.le_of_ble_eq_true rfl, by decide +kernel⟩
theorem vX3_tellPerson : aw_mV mX3_tellPerson := ⟨aw_in 375 (by decide +kernel) rfl, aw_in 18 (by decide +kernel) rfl⟩
abbrev mX3_tellGrudge : MI := (yX3_tellGrudge, cX3_tellGrudge, 3, (some .boolean))
theorem fX3_tellGrudge : aw_mf mX3_tellGrudge 2 := ⟨aw_in 380 (by decide +kernel) rfl, aw_in 100 (by decide +kernel) rfl, ⟨by decide +kernel, by decide +kernel, by decide +kernel⟩, by decide +kernel, Nat.le_of_ble_eq_true rfl, by decide +kernel⟩
theorem vX3_tellGrudge : aw_mV mX3_tellGrudge := ⟨aw_in 379 (by decide +kernel) rfl, aw_in 19 (by decide +kernel) rfl⟩
abbrev mX3_tellIn : MI := (yX3_tellIn, cX3_tellIn, 3, (some .boolean))
theorem fX3_tellIn : aw_mf mX3_tellIn 2 := ⟨aw_in 400 (by decide +kernel) rfl, aw_in 100 (by decide +kernel) rfl, ⟨by decide +kernel, by decide +kernel, by decide +kernel⟩, by decide +kernel, Nat.le_of_ble_eq_true rfl, by decide +kernel⟩
theorem vX3_tellIn : aw_mV mX3_tellIn := ⟨aw_in 399 (by decide +kernel) rfl, aw_in 24 (by decide +kernel) rfl⟩
abbrev mX4_init : MI := (yX4_init, cX4_init, 1, none)
theorem fX4_init : aw_mf mX4_init 0 := ⟨aw_in 112 (by decide +kernel) rfl, aw_in 99 (by decide +kernel) rfl, ⟨by decide +kernel, by decide +kernel, by decide +kernel⟩, by decide +kernel, Nat.le_of_ble_eq_true rfl, by decide +kernel⟩
theorem vX4_init : aw_mI mX4_init := ⟨rfl, aw_in 111 (by decide +kernel) rfl, rfl⟩
abbrev mX4_feed : MI := (yX4_feed, cX4_feed, 2, (some .int))
theorem fX4_feed : aw_mf mX4_feed 1 := ⟨aw_in 287 (by decide +kernel) rfl, aw_in 99 (by decide +kernel) rfl, ⟨by decide +kernel, by decide +kernel, by decide +kernel⟩, by decide +kernel, Nat.le_of_ble_eq_true rfl, by decide +kernel⟩
theorem vX4_feed : aw_mV mX4_feed := ⟨aw_in 285 (by decide +kernel) rfl, aw_in 286 (by decide +kernel) rfl⟩
abbrev mX4_river : MI := (yX4_river, cX4_river, 2, (some .int))
theorem fX4_river : aw_mf mX4_river 0 := ⟨aw_in 299 (by decide +kernel) rfl, aw_in 99 (by decide +kernel) rfl, ⟨by decide +kernel, by decide +kernel, by decide +kernel⟩, by decide +kernel, Nat.le_of_ble_eq_true rfl, by decide +kernel⟩
theorem vX4_river : aw_mV mX4_river := ⟨aw_in 297 (by decide +kernel) rfl, aw_in 298 (by decide +kernel) rfl⟩
abbrev mX4_yard : MI := (yX4_yard, cX4_yard, 3, (some .int))
theorem fX4_yard : aw_mf mX4_yard 2 := ⟨aw_in 408 (by decide +kernel) rfl, aw_in 99 (by decide +kernel) rfl, ⟨by decide +kernel, by decide +kernel, by decide +kernel⟩, by decide +kernel, Nat.le_of_ble_eq_true rfl, by decide +kernel⟩
theorem vX4_yard : aw_mV mX4_yard := ⟨aw_in 406 (by decide +kernel) rfl, aw_in 407 (by decide +kernel) rfl⟩
abbrev mX4_person : MI := (yX4_person, cX4_person, 4, (some .int))
theorem fX4_person : aw_mf mX4_person 2 := ⟨aw_in 413 (by decide +kernel) rfl, aw_in 99 (by decide +kernel) rfl, ⟨by decide +kernel, by decide +kernel, by decide +kernel⟩, by decide +kernel, Nat.le_of_ble_eq_true rfl, by decide +kernel⟩
theorem vX4_person : aw_mV mX4_person := ⟨aw_in 411 (by decide +kernel) rfl, aw_in 412 (by decide +kernel) rfl⟩
abbrev mX4_grudge : MI := (yX4_grudge, cX4_grudge, 3, (some .int))
theorem fX4_grudge : aw_mf mX4_grudge 2 := ⟨aw_in 437 (by decide +kernel) rfl, aw_in 99 (by decide +kernel) rfl, ⟨by decide +kernel, by decide +kernel, by decide +kernel⟩, by decide +kernel, Nat.le_of_ble_eq_true rfl, by decide +kernel⟩
theorem vX4_grudge : aw_mV mX4_grudge := ⟨aw_in 435 (by decide +kernel) rfl, aw_in 436 (by decide +kernel) rfl⟩
abbrev mX4_quarrel : MI := (yX4_quarrel, cX4_quarrel, 5, (some .int))
theorem fX4_quarrel : aw_mf mX4_quarrel 3 := ⟨aw_in 443 (by decide +kernel) rfl, aw_in 99 (by decide +kernel) rfl, ⟨by decide +kernel, by decide +kernel, by decide +kernel⟩, by decide +kernel, Nat.le_of_ble_eq_true rfl, by decide +kernel⟩
theorem vX4_quarrel : aw_mV mX4_quarrel := ⟨aw_in 441 (by decide +kernel) rfl, aw_in 442 (by decide +kernel) rfl⟩
abbrev mX4_cold : MI := (yX4_cold, cX4_cold, 3, (some .int))
theorem fX4_cold : aw_mf mX4_cold 1 := ⟨aw_in 448 (by decide +kernel) rfl, aw_in 99 (by decide +kernel) rfl, ⟨by decide +kernel, by decide +kernel, by decide +kernel⟩, by decide +kernel, Nat.le_of_ble_eq_true rfl, by decide +kernel⟩
theorem vX4_cold : aw_mV mX4_cold := ⟨aw_in 446 (by decide +kernel) rfl, aw_in 447 (by decide +kernel) rfl⟩
abbrev mX4_put : MI := (yX4_put, cX4_put, 4, (some .int))
theorem fX4_put : aw_mf mX4_put 2 := ⟨aw_in 452 (by decide +kernel) rfl, aw_in 99 (by decide +kernel) rfl, ⟨by decide +kernel, by decide +kernel, by decide +kernel⟩, by decide +kernel, Nat.le_of_ble_eq_true rfl, by decide +kernel⟩
theorem vX4_put : aw_mV mX4_put := ⟨aw_in 450 (by decide +kernel) rfl, aw_in 451 (by decide +kernel) rfl⟩
abbrev mX4_out : MI := (yX4_out, cX4_out, 3, (some .int))
theorem fX4_out : aw_mf mX4_out 0 := ⟨aw_in 457 (by decide +kernel) rfl, aw_in 99 (by decide +kernel) rfl, ⟨by decide +kernel, by decide +kernel, by decide +kernel⟩, by decide +kernel, Nat.le_of_ble_eq_true rfl, by decide +kernel⟩
theorem vX4_out : aw_mV mX4_out := ⟨aw_in 455 (by decide +kernel) rfl, aw_in 456 (by decide +kernel) rfl⟩
abbrev mX4_load : MI := (yX4_load, cX4_load, 2, (some .int))
theorem fX4_load : aw_mf mX4_load 1 := ⟨aw_in 470 (by decide +kernel) rfl, aw_in 99 (by decide +kernel) rfl, ⟨by decide +kernel, by decide +kernel, by decide +kernel⟩, by decide +kernel, Nat.le_of_ble_eq_true rfl, by decide +kernel⟩
theorem vX4_load : aw_mV mX4_load := ⟨aw_in 468 (by decide +kernel) rfl, aw_in 469 (by decide +kernel) rfl⟩
abbrev mX4_slips : MI := (yX4_slips, cX4_slips, 3, (some .int))
theorem fX4_slips : aw_mf mX4_slips 1 := ⟨aw_in 481 (by decide +kernel) rfl, aw_in 99 (by decide +kernel) rfl, ⟨by decide +kernel, by decide +kernel, by decide +kernel⟩, by decide +kernel, Nat.le_of_ble_eq_true rfl, by decide +kernel⟩
theorem vX4_slips : aw_mV mX4_slips := ⟨aw_in 479 (by decide +kernel) rfl, aw_in 480 (by decide +kernel) rfl⟩
abbrev mX4_lasts : MI := (yX4_lasts, cX4_lasts, 1, (some .int))
theorem fX4_lasts : aw_mf mX4_lasts 0 := ⟨aw_in 502 (by decide +kernel) rfl, aw_in 99 (by decide +kernel) rfl, ⟨by decide +kernel, by decide +kernel, by decide +kernel⟩, by decide +kernel, Nat.le_of_ble_eq_true rfl, by decide +kernel⟩
theorem vX4_lasts : aw_mV mX4_lasts := ⟨aw_in 500 (by decide +kernel) rfl, aw_in 501 (by decide +kernel) rfl⟩
abbrev mX4_cross : MI := (yX4_cross, cX4_cross, 2, (some .int))
theorem fX4_cross : aw_mf mX4_cross 1 := ⟨aw_in 517 (by decide +kernel) rfl, aw_in 99 (by decide +kernel) rfl, ⟨by decide +kernel, by decide +kernel, by decide +kernel⟩, by decide +kernel, Nat.le_of_ble_eq_true rfl, by decide +kernel⟩
theorem vX4_cross : aw_mV mX4_cross := ⟨aw_in 515 (by decide +kernel) rfl, aw_in 516 (by decide +kernel) rfl⟩
abbrev mX4_chains : MI := (yX4_chains, cX4_chains, 1, (some .int))
theorem fX4_chains : aw_mf mX4_chains 0 := ⟨aw_in 539 (by decide +kernel) rfl, aw_in 99 (by decide +kernel) rfl, ⟨by decide +kernel, by decide +kernel, by decide +kernel⟩, by decide +kernel, Nat.le_of_ble_eq_true rfl, by decide +kernel⟩
theorem vX4_chains : aw_mV mX4_chains := ⟨aw_in 537 (by decide +kernel) rfl, aw_in 538 (by decide +kernel) rfl⟩
abbrev mX4_longest : MI := (yX4_longest, cX4_longest, 2, (some .int))
theorem fX4_longest : aw_mf mX4_longest 1 := ⟨aw_in 569 (by decide +kernel) rfl, aw_in 99 (by decide +kernel) rfl, ⟨by decide +kernel, by decide +kernel, by decide +kernel⟩, by decide +kernel, Nat.le_of_ble_eq_true rfl, by decide +kernel⟩
theorem vX4_longest : aw_mV mX4_longest := ⟨aw_in 567 (by decide +kernel) rfl, aw_in 568 (by decide +kernel) rfl⟩
abbrev mX4_makeUp : MI := (yX4_makeUp, cX4_makeUp, 1, (some .int))
theorem fX4_makeUp : aw_mf mX4_makeUp 0 := ⟨aw_in 573 (by decide +kernel) rfl, aw_in 99 (by decide +kernel) rfl, ⟨by decide +kernel, by decide +kernel, by decide +kernel⟩, by decide +kernel, Nat.le_of_ble_eq_true rfl, by decide +kernel⟩
theorem vX4_makeUp : aw_mV mX4_makeUp := ⟨aw_in 571 (by decide +kernel) rfl, aw_in 572 (by decide +kernel) rfl⟩
abbrev mX4_worth : MI := (yX4_worth, cX4_worth, 4, (some .int))
theorem fX4_worth : aw_mf mX4_worth 2 := ⟨aw_in 577 (by decide +kernel) rfl, aw_in 99 (by decide +kernel) rfl, ⟨by decide +kernel, by decide +kernel, by decide +kernel⟩, by decide +kernel, Nat.le_of_ble_eq_true rfl, by decide +kernel⟩
theorem vX4_worth : aw_mV mX4_worth := ⟨aw_in 575 (by decide +kernel) rfl, aw_in 576 (by decide +kernel) rfl⟩
abbrev mX4_change : MI := (yX4_change, cX4_change, 1, (some .int))
theorem fX4_change : aw_mf mX4_change 0 := ⟨aw_in 581 (by decide +kernel) rfl, aw_in 99 (by decide +kernel) rfl, ⟨by decide +kernel, by decide +kernel, by decide +kernel⟩, by decide +kernel, Nat.le_of_ble_eq_true rfl, by decide +kernel⟩
theorem vX4_change : aw_mV mX4_change := ⟨aw_in 579 (by decide +kernel) rfl, aw_in 580 (by decide +kernel) rfl⟩
abbrev mX4_flood : MI := (yX4_flood, cX4_flood, 3, (some .int))
theorem fX4_flood : aw_mf mX4_flood 0 := ⟨aw_in 592 (by decide +kernel) rfl, aw_in 99 (by decide +kernel) rfl, ⟨by decide +kernel, by decide +kernel, by decide +kernel⟩, by decide +kernel, Nat.le_of_ble_eq_true rfl, by decide +kernel⟩
theorem vX4_flood : aw_mV mX4_flood := ⟨aw_in 590 (by decide +kernel) rfl, aw_in 591 (by decide +kernel) rfl⟩
abbrev mX4_overs : MI := (yX4_overs, cX4_overs, 1, (some .int))
theorem fX4_overs : aw_mf mX4_overs 0 := ⟨aw_in 597 (by decide +kernel) rfl, aw_in 99 (by decide +kernel) rfl, ⟨by decide +kernel, by decide +kernel, by decide +kernel⟩, by decide +kernel, Nat.le_of_ble_eq_true rfl, by decide +kernel⟩
theorem vX4_overs : aw_mV mX4_overs := ⟨aw_in 595 (by decide +kernel) rfl, aw_in 596 (by decide +kernel) rfl⟩
abbrev mX4_owes : MI := (yX4_owes, cX4_owes, 3, (some .int))
theorem fX4_owes : aw_mf mX4_owes 2 := ⟨aw_in 608 (by decide +kernel) rfl, aw_in 99 (by decide +kernel) rfl, ⟨by decide +kernel, by decide +kernel, by decide +kernel⟩, by decide +kernel, Nat.le_of_ble_eq_true rfl, by decide +kernel⟩
theorem vX4_owes : aw_mV mX4_owes := ⟨aw_in 606 (by decide +kernel) rfl, aw_in 607 (by decide +kernel) rfl⟩
abbrev mX4_owed : MI := (yX4_owed, cX4_owed, 4, (some .int))
theorem fX4_owed : aw_mf mX4_owed 1 := ⟨aw_in 613 (by decide +kernel) rfl, aw_in 99 (by decide +kernel) rfl, ⟨by decide +kernel, by decide +kernel, by decide +kernel⟩, by decide +kernel, Nat.le_of_ble_eq_true rfl, by decide +kernel⟩
theorem vX4_owed : aw_mV mX4_owed := ⟨aw_in 611 (by decide +kernel) rfl, aw_in 612 (by decide +kernel) rfl⟩
abbrev mX4_strike : MI := (yX4_strike, cX4_strike, 1, (some .int))
theorem fX4_strike : aw_mf mX4_strike 0 := ⟨aw_in 618 (by decide +kernel) rfl, aw_in 99 (by decide +kernel) rfl, ⟨by decide +kernel, by decide +kernel, by decide +kernel⟩, by decide +kernel, Nat.le_of_ble_eq_true rfl, by decide +kernel⟩
theorem vX4_strike : aw_mV mX4_strike := ⟨aw_in 616 (by decide +kernel) rfl, aw_in 617 (by decide +kernel) rfl⟩
abbrev mX4_wet : MI := (yX4_wet, cX4_wet, 3, (some .int))
theorem fX4_wet : aw_mf mX4_wet 2 := ⟨aw_in 638 (by decide +kernel) rfl, aw_in 99 (by decide +kernel) rfl, ⟨by decide +kernel, by decide +kernel, by decide +kernel⟩, by decide +kernel, Nat.le_of_ble_eq_true rfl, by decide +kernel⟩
theorem vX4_wet : aw_mV mX4_wet := ⟨aw_in 636 (by decide +kernel) rfl, aw_in 637 (by decide +kernel) rfl⟩
abbrev mX4_row : MI := (yX4_row, cX4_row, 2, (some .int))
theorem fX4_row : aw_mf mX4_row 1 := ⟨aw_in 648 (by decide +kernel) rfl, aw_in 99 (by decide +kernel) rfl, ⟨by decide +kernel, by decide +kernel, by decide +kernel⟩, by decide +kernel, Nat.le_of_ble_eq_true rfl, by decide +kernel⟩
theorem vX4_row : aw_mV mX4_row := ⟨aw_in 646 (by decide +kernel) rfl, aw_in 647 (by decide +kernel) rfl⟩
abbrev mX4_judge : MI := (yX4_judge, cX4_judge, 2, (some .int))
theorem fX4_judge : aw_mf mX4_judge 0 := ⟨aw_in 652 (by decide +kernel) rfl, aw_in 99 (by decide +kernel) rfl, ⟨by decide +kernel, by decide +kernel, by decide +kernel⟩, by decide +kernel, Nat.le_of_ble_eq_true rfl, by decide +kernel⟩
theorem vX4_judge : aw_mV mX4_judge := ⟨aw_in 650 (by decide +kernel) rfl, aw_in 651 (by decide +kernel) rfl⟩
abbrev mX4_seeds : MI := (yX4_seeds, cX4_seeds, 3, (some .int))
theorem fX4_seeds : aw_mf mX4_seeds 2 := ⟨aw_in 664 (by decide +kernel) rfl, aw_in 99 (by decide +kernel) rfl, ⟨by decide +kernel, by decide +kernel, by decide +kernel⟩, by decide +kernel, Nat.le_of_ble_eq_true rfl, by decide +kernel⟩
theorem vX4_seeds : aw_mV mX4_seeds := ⟨aw_in 662 (by decide +kernel) rfl, aw_in 663 (by decide +kernel) rfl⟩
abbrev mX4_image : MI := (yX4_image, cX4_image, 1, (some .int))
theorem fX4_image : aw_mf mX4_image 0 := ⟨aw_in 678 (by decide +kernel) rfl, aw_in 99 (by decide +kernel) rfl, ⟨by decide +kernel, by decide +kernel, by decide +kernel⟩, by decide +kernel, Nat.le_of_ble_eq_true rfl, by decide +kernel⟩
theorem vX4_image : aw_mV mX4_image := ⟨aw_in 676 (by decide +kernel) rfl, aw_in 677 (by decide +kernel) rfl⟩
abbrev mX4_restore : MI := (yX4_restore, cX4_restore, 1, (some .int))
theorem fX4_restore : aw_mf mX4_restore 0 := ⟨aw_in 682 (by decide +kernel) rfl, aw_in 99 (by decide +kernel) rfl, ⟨by decide +kernel, by decide +kernel, by decide +kernel⟩, by decide +kernel, Nat.le_of_ble_eq_true rfl, by decide +kernel⟩
theorem vX4_restore : aw_mV mX4_restore := ⟨aw_in 680 (by decide +kernel) rfl, aw_in 681 (by decide +kernel) rfl⟩
abbrev mX4_count : MI := (yX4_count, cX4_count, 2, (some .int))
theorem fX4_count : aw_mf mX4_count 1 := ⟨aw_in 686 (by decide +kernel) rfl, aw_in 99 (by decide +kernel) rfl, ⟨by decide +kernel, by decide +kernel, by decide +kernel⟩, by decide +kernel, Nat.le_of_ble_eq_true rfl, by decide +kernel⟩
theorem vX4_count : aw_mV mX4_count := ⟨aw_in 684 (by decide +kernel) rfl, aw_in 685 (by decide +kernel) rfl⟩
abbrev mX4_refuse : MI := (yX4_refuse, cX4_refuse, 2, (some .int))
theorem fX4_refuse : aw_mf mX4_refuse 1 := ⟨aw_in 291 (by decide +kernel) rfl, aw_in 99 (by decide +kernel) rfl, ⟨by decide +kernel, by decide +kernel, by decide +kernel⟩, by decide +kernel, Nat.le_of_ble_eq_true rfl, by decide +kernel⟩
theorem vX4_refuse : aw_mV mX4_refuse := ⟨aw_in 290 (by decide +kernel) rfl, aw_in 0 (by decide +kernel) rfl⟩
abbrev mX4_tellRiver : MI := (yX4_tellRiver, cX4_tellRiver, 3, (some .int))
theorem fX4_tellRiver : aw_mf mX4_tellRiver 0 := ⟨aw_in 303 (by decide +kernel) rfl, aw_in 99 (by decide +kernel) rfl, ⟨by decide +kernel, by decide +kernel, by decide +kernel⟩, by decide +kernel, Nat.le_of_ble_eq_true rfl, by decide +kernel⟩
theorem vX4_tellRiver : aw_mV mX4_tellRiver := ⟨aw_in 302 (by decide +kernel) rfl, aw_in 2 (by decide +kernel) rfl⟩
abbrev mX5_init : MI := (yX5_init, cX5_init, 1, none)
theorem fX5_init : aw_mf mX5_init 0 := ⟨aw_in 700 (by decide +kernel) rfl, aw_in 104 (by decide +kernel) rfl, ⟨by decide +kernel, by decide +kernel, by decide +kernel⟩, by decide +kernel, Nat.le_of_ble_eq_true rfl, by decide +kernel⟩
theorem vX5_init : aw_mI mX5_init := ⟨rfl, aw_in 699 (by decide +kernel) rfl, rfl⟩
abbrev mX5_no : MI := (yX5_no, cX5_no, 2, (some .int))
theorem fX5_no : aw_mf mX5_no 1 := ⟨aw_in 818 (by decide +kernel) rfl, aw_in 104 (by decide +kernel) rfl, ⟨by decide +kernel, by decide +kernel, by decide +kernel⟩, by decide +kernel, Nat.le_of_ble_eq_true rfl, by decide +kernel⟩
theorem vX5_no : aw_mV mX5_no := ⟨aw_in 817 (by decide +kernel) rfl, aw_in 58 (by decide +kernel) rfl⟩
abbrev mX5_lower : MI := (yX5_lower, cX5_lower, 2, (some .int))
theorem fX5_lower : aw_mf mX5_lower 1 := ⟨aw_in 1055 (by decide +kernel) rfl, aw_in 104 (by decide +kernel) rfl, ⟨by decide +kernel, by decide +kernel, by decide +kernel⟩, by decide +kernel, Nat.le_of_ble_eq_true rfl, by decide +kernel⟩
theorem vX5_lower : aw_mV mX5_lower := ⟨aw_in 1054 (by decide +kernel) rfl, aw_in 92 (by decide +kernel) rfl⟩
abbrev mX5_isIn : MI := (yX5_isIn, cX5_isIn, 3, (some .boolean))
theorem fX5_isIn : aw_mf mX5_isIn 3 := ⟨aw_in 840 (by decide +kernel) rfl, aw_in 104 (by decide +kernel) rfl, ⟨by decide +kernel, by decide +kernel, by decide +kernel⟩, by decide +kernel, Nat.le_of_ble_eq_true rfl, by decide +kernel⟩
theorem sX5_isIn : Cond.static mX5_isIn.1 ∈ aw_gt := aw_in 839 (by decide +kernel) rfl
abbrev mX5_bound : MI := (yX5_bound, cX5_bound, 3, (some .int))
theorem fX5_bound : aw_mf mX5_bound 3 := ⟨aw_in 814 (by decide +kernel) rfl, aw_in 104 (by decide +kernel) rfl, ⟨by decide +kernel, by decide +kernel, by decide +kernel⟩, by decide +kernel, Nat.le_of_ble_eq_true rfl, by decide +kernel⟩
theorem sX5_bound : Cond.static mX5_bound.1 ∈ aw_gt := aw_in 813 (by decide +kernel) rfl
abbrev mX5_least : MI := (yX5_least, cX5_least, 2, (some .int))
theorem fX5_least : aw_mf mX5_least 2 := ⟨aw_in 951 (by decide +kernel) rfl, aw_in 104 (by decide +kernel) rfl, ⟨by decide +kernel, by decide +kernel, by decide +kernel⟩, by decide +kernel, Nat.le_of_ble_eq_true rfl, by decide +kernel⟩
theorem sX5_least : Cond.static mX5_least.1 ∈ aw_gt := aw_in 950 (by decide +kernel) rfl
abbrev mX5_isYard : MI := (yX5_isYard, cX5_isYard, 2, (some .boolean))
theorem fX5_isYard : aw_mf mX5_isYard 1 := ⟨aw_in 864 (by decide +kernel) rfl, aw_in 104 (by decide +kernel) rfl, ⟨by decide +kernel, by decide +kernel, by decide +kernel⟩, by decide +kernel, Nat.le_of_ble_eq_true rfl, by decide +kernel⟩
theorem vX5_isYard : aw_mV mX5_isYard := ⟨aw_in 863 (by decide +kernel) rfl, aw_in 67 (by decide +kernel) rfl⟩
abbrev mX5_isOne : MI := (yX5_isOne, cX5_isOne, 2, (some .boolean))
theorem fX5_isOne : aw_mf mX5_isOne 1 := ⟨aw_in 876 (by decide +kernel) rfl, aw_in 104 (by decide +kernel) rfl, ⟨by decide +kernel, by decide +kernel, by decide +kernel⟩, by decide +kernel, Nat.le_of_ble_eq_true rfl, by decide +kernel⟩
theorem vX5_isOne : aw_mV mX5_isOne := ⟨aw_in 875 (by decide +kernel) rfl, aw_in 70 (by decide +kernel) rfl⟩
abbrev mX5_areTwo : MI := (yX5_areTwo, cX5_areTwo, 3, (some .boolean))
theorem fX5_areTwo : aw_mf mX5_areTwo 2 := ⟨aw_in 872 (by decide +kernel) rfl, aw_in 104 (by decide +kernel) rfl, ⟨by decide +kernel, by decide +kernel, by decide +kernel⟩, by decide +kernel, Nat.le_of_ble_eq_true rfl, by decide +kernel⟩
theorem vX5_areTwo : aw_mV mX5_areTwo := ⟨aw_in 871 (by decide +kernel) rfl, aw_in 69 (by decide +kernel) rfl⟩
abbrev mX5_yardOf : MI := (yX5_yardOf, cX5_yardOf, 3, (some .int))
theorem fX5_yardOf : aw_mf mX5_yardOf 1 := ⟨aw_in 884 (by decide +kernel) rfl, aw_in 104 (by decide +kernel) rfl, ⟨by decide +kernel, by decide +kernel, by decide +kernel⟩, by decide +kernel, Nat.le_of_ble_eq_true rfl, by decide +kernel⟩
theorem vX5_yardOf : aw_mV mX5_yardOf := ⟨aw_in 883 (by decide +kernel) rfl, aw_in 72 (by decide +kernel) rfl⟩
abbrev mX5_feed : MI := (yX5_feed, cX5_feed, 3, (some .int))
theorem fX5_feed : aw_mf mX5_feed 1 := ⟨aw_in 811 (by decide +kernel) rfl, aw_in 104 (by decide +kernel) rfl, ⟨by decide +kernel, by decide +kernel, by decide +kernel⟩, by decide +kernel, Nat.le_of_ble_eq_true rfl, by decide +kernel⟩
theorem vX5_feed : aw_mV mX5_feed := ⟨aw_in 809 (by decide +kernel) rfl, aw_in 810 (by decide +kernel) rfl⟩
abbrev mX5_next : MI := (yX5_next, cX5_next, 1, (some .int))
theorem fX5_next : aw_mf mX5_next 0 := ⟨aw_in 830 (by decide +kernel) rfl, aw_in 104 (by decide +kernel) rfl, ⟨by decide +kernel, by decide +kernel, by decide +kernel⟩, by decide +kernel, Nat.le_of_ble_eq_true rfl, by decide +kernel⟩
theorem vX5_next : aw_mV mX5_next := ⟨aw_in 829 (by decide +kernel) rfl, aw_in 60 (by decide +kernel) rfl⟩
abbrev mX5_readsNumber : MI := (yX5_readsNumber, cX5_readsNumber, 5, (some .boolean))
theorem fX5_readsNumber : aw_mf mX5_readsNumber 2 := ⟨aw_in 837 (by decide +kernel) rfl, aw_in 104 (by decide +kernel) rfl, ⟨by decide +kernel, by decide +kernel, by decide +kernel⟩, by decide +kernel, Nat.le_of_ble_eq_true rfl, by decide +kernel⟩
theorem vX5_readsNumber : aw_mV mX5_readsNumber := ⟨aw_in 836 (by decide +kernel) rfl, aw_in 61 (by decide +kernel) rfl⟩
abbrev mX5_onesOf : MI := (yX5_onesOf, cX5_onesOf, 1, (some .int))
theorem fX5_onesOf : aw_mf mX5_onesOf 1 := ⟨aw_in 833 (by decide +kernel) rfl, aw_in 104 (by decide +kernel) rfl, ⟨by decide +kernel, by decide +kernel, by decide +kernel⟩, by decide +kernel, Nat.le_of_ble_eq_true rfl, by decide +kernel⟩
theorem sX5_onesOf : Cond.static mX5_onesOf.1 ∈ aw_gt := aw_in 832 (by decide +kernel) rfl
abbrev mX5_statement : MI := (yX5_statement, cX5_statement, 5, (some .boolean))
theorem fX5_statement : aw_mf mX5_statement 0 := ⟨aw_in 826 (by decide +kernel) rfl, aw_in 104 (by decide +kernel) rfl, ⟨by decide +kernel, by decide +kernel, by decide +kernel⟩, by decide +kernel, Nat.le_of_ble_eq_true rfl, by decide +kernel⟩
theorem vX5_statement : aw_mV mX5_statement := ⟨aw_in 825 (by decide +kernel) rfl, aw_in 59 (by decide +kernel) rfl⟩
abbrev mX5_begins : MI := (yX5_begins, cX5_begins, 3, (some .boolean))
theorem fX5_begins : aw_mf mX5_begins 1 := ⟨aw_in 860 (by decide +kernel) rfl, aw_in 104 (by decide +kernel) rfl, ⟨by decide +kernel, by decide +kernel, by decide +kernel⟩, by decide +kernel, Nat.le_of_ble_eq_true rfl, by decide +kernel⟩
theorem vX5_begins : aw_mV mX5_begins := ⟨aw_in 859 (by decide +kernel) rfl, aw_in 66 (by decide +kernel) rfl⟩
abbrev mX5_comesOne : MI := (yX5_comesOne, cX5_comesOne, 3, (some .boolean))
theorem fX5_comesOne : aw_mf mX5_comesOne 1 := ⟨aw_in 868 (by decide +kernel) rfl, aw_in 104 (by decide +kernel) rfl, ⟨by decide +kernel, by decide +kernel, by decide +kernel⟩, by decide +kernel, Nat.le_of_ble_eq_true rfl, by decide +kernel⟩
theorem vX5_comesOne : aw_mV mX5_comesOne := ⟨aw_in 867 (by decide +kernel) rfl, aw_in 68 (by decide +kernel) rfl⟩
abbrev mX5_sets : MI := (yX5_sets, cX5_sets, 4, none)
theorem fX5_sets : aw_mf mX5_sets 2 := ⟨aw_in 880 (by decide +kernel) rfl, aw_in 104 (by decide +kernel) rfl, ⟨by decide +kernel, by decide +kernel, by decide +kernel⟩, by decide +kernel, Nat.le_of_ble_eq_true rfl, by decide +kernel⟩
theorem vX5_sets : aw_mV mX5_sets := ⟨aw_in 879 (by decide +kernel) rfl, aw_in 71 (by decide +kernel) rfl⟩
abbrev mX5_comes : MI := (yX5_comes, cX5_comes, 5, (some .boolean))
theorem fX5_comes : aw_mf mX5_comes 1 := ⟨aw_in 856 (by decide +kernel) rfl, aw_in 104 (by decide +kernel) rfl, ⟨by decide +kernel, by decide +kernel, by decide +kernel⟩, by decide +kernel, Nat.le_of_ble_eq_true rfl, by decide +kernel⟩
theorem vX5_comes : aw_mV mX5_comes := ⟨aw_in 855 (by decide +kernel) rfl, aw_in 65 (by decide +kernel) rfl⟩
abbrev mX5_river : MI := (yX5_river, cX5_river, 3, (some .int))
theorem fX5_river : aw_mf mX5_river 0 := ⟨aw_in 822 (by decide +kernel) rfl, aw_in 104 (by decide +kernel) rfl, ⟨by decide +kernel, by decide +kernel, by decide +kernel⟩, by decide +kernel, Nat.le_of_ble_eq_true rfl, by decide +kernel⟩
theorem vX5_river : aw_mV mX5_river := ⟨aw_in 820 (by decide +kernel) rfl, aw_in 821 (by decide +kernel) rfl⟩
abbrev mX5_passes : MI := (yX5_passes, cX5_passes, 3, none)
theorem fX5_passes : aw_mf mX5_passes 1 := ⟨aw_in 848 (by decide +kernel) rfl, aw_in 104 (by decide +kernel) rfl, ⟨by decide +kernel, by decide +kernel, by decide +kernel⟩, by decide +kernel, Nat.le_of_ble_eq_true rfl, by decide +kernel⟩
theorem vX5_passes : aw_mV mX5_passes := ⟨aw_in 847 (by decide +kernel) rfl, aw_in 63 (by decide +kernel) rfl⟩
abbrev mX5_passOne : MI := (yX5_passOne, cX5_passOne, 3, (some .int))
theorem fX5_passOne : aw_mf mX5_passOne 1 := ⟨aw_in 852 (by decide +kernel) rfl, aw_in 104 (by decide +kernel) rfl, ⟨by decide +kernel, by decide +kernel, by decide +kernel⟩, by decide +kernel, Nat.le_of_ble_eq_true rfl, by decide +kernel⟩
theorem vX5_passOne : aw_mV mX5_passOne := ⟨aw_in 851 (by decide +kernel) rfl, aw_in 64 (by decide +kernel) rfl⟩
abbrev mX5_passesAll : MI := (yX5_passesAll, cX5_passesAll, 3, none)
theorem fX5_passesAll : aw_mf mX5_passesAll 2 := ⟨aw_in 844 (by decide +kernel) rfl, aw_in 104 (by decide +kernel) rfl, ⟨by decide +kernel, by decide +kernel, by decide +kernel⟩, by decide +kernel, Nat.le_of_ble_eq_true rfl, by decide +kernel⟩
theorem vX5_passesAll : aw_mV mX5_passesAll := ⟨aw_in 843 (by decide +kernel) rfl, aw_in 62 (by decide +kernel) rfl⟩
abbrev mX5_image : MI := (yX5_image, cX5_image, 1, (some .int))
theorem fX5_image : aw_mf mX5_image 0 := ⟨aw_in 888 (by decide +kernel) rfl, aw_in 104 (by decide +kernel) rfl, ⟨by decide +kernel, by decide +kernel, by decide +kernel⟩, by decide +kernel, Nat.le_of_ble_eq_true rfl, by decide +kernel⟩
theorem vX5_image : aw_mV mX5_image := ⟨aw_in 886 (by decide +kernel) rfl, aw_in 887 (by decide +kernel) rfl⟩
abbrev mX5_restore : MI := (yX5_restore, cX5_restore, 1, (some .int))
theorem fX5_restore : aw_mf mX5_restore 0 := ⟨aw_in 892 (by decide +kernel) rfl, aw_in 104 (by decide +kernel) rfl, ⟨by decide +kernel, by decide +kernel, by decide +kernel⟩, by decide +kernel, Nat.le_of_ble_eq_true rfl, by decide +kernel⟩
theorem vX5_restore : aw_mV mX5_restore := ⟨aw_in 890 (by decide +kernel) rfl, aw_in 891 (by decide +kernel) rfl⟩
abbrev mX5_reachOf : MI := (yX5_reachOf, cX5_reachOf, 2, (some .int))
theorem fX5_reachOf : aw_mf mX5_reachOf 1 := ⟨aw_in 904 (by decide +kernel) rfl, aw_in 104 (by decide +kernel) rfl, ⟨by decide +kernel, by decide +kernel, by decide +kernel⟩, by decide +kernel, Nat.le_of_ble_eq_true rfl, by decide +kernel⟩
theorem vX5_reachOf : aw_mV mX5_reachOf := ⟨aw_in 903 (by decide +kernel) rfl, aw_in 73 (by decide +kernel) rfl⟩
abbrev mX5_holdOf : MI := (yX5_holdOf, cX5_holdOf, 2, (some .int))
theorem fX5_holdOf : aw_mf mX5_holdOf 1 := ⟨aw_in 908 (by decide +kernel) rfl, aw_in 104 (by decide +kernel) rfl, ⟨by decide +kernel, by decide +kernel, by decide +kernel⟩, by decide +kernel, Nat.le_of_ble_eq_true rfl, by decide +kernel⟩
theorem vX5_holdOf : aw_mV mX5_holdOf := ⟨aw_in 907 (by decide +kernel) rfl, aw_in 74 (by decide +kernel) rfl⟩
abbrev mX5_coolOf : MI := (yX5_coolOf, cX5_coolOf, 2, (some .int))
theorem fX5_coolOf : aw_mf mX5_coolOf 1 := ⟨aw_in 912 (by decide +kernel) rfl, aw_in 104 (by decide +kernel) rfl, ⟨by decide +kernel, by decide +kernel, by decide +kernel⟩, by decide +kernel, Nat.le_of_ble_eq_true rfl, by decide +kernel⟩
theorem vX5_coolOf : aw_mV mX5_coolOf := ⟨aw_in 911 (by decide +kernel) rfl, aw_in 75 (by decide +kernel) rfl⟩
abbrev mX5_yard : MI := (yX5_yard, cX5_yard, 3, (some .int))
theorem fX5_yard : aw_mf mX5_yard 2 := ⟨aw_in 896 (by decide +kernel) rfl, aw_in 104 (by decide +kernel) rfl, ⟨by decide +kernel, by decide +kernel, by decide +kernel⟩, by decide +kernel, Nat.le_of_ble_eq_true rfl, by decide +kernel⟩
theorem vX5_yard : aw_mV mX5_yard := ⟨aw_in 894 (by decide +kernel) rfl, aw_in 895 (by decide +kernel) rfl⟩
abbrev mX5_person : MI := (yX5_person, cX5_person, 3, (some .int))
theorem fX5_person : aw_mf mX5_person 2 := ⟨aw_in 900 (by decide +kernel) rfl, aw_in 104 (by decide +kernel) rfl, ⟨by decide +kernel, by decide +kernel, by decide +kernel⟩, by decide +kernel, Nat.le_of_ble_eq_true rfl, by decide +kernel⟩
theorem vX5_person : aw_mV mX5_person := ⟨aw_in 898 (by decide +kernel) rfl, aw_in 899 (by decide +kernel) rfl⟩
abbrev mX5_grudge : MI := (yX5_grudge, cX5_grudge, 3, (some .int))
theorem fX5_grudge : aw_mf mX5_grudge 2 := ⟨aw_in 916 (by decide +kernel) rfl, aw_in 104 (by decide +kernel) rfl, ⟨by decide +kernel, by decide +kernel, by decide +kernel⟩, by decide +kernel, Nat.le_of_ble_eq_true rfl, by decide +kernel⟩
theorem vX5_grudge : aw_mV mX5_grudge := ⟨aw_in 914 (by decide +kernel) rfl, aw_in 915 (by decide +kernel) rfl⟩
abbrev mX5_quarrel : MI := (yX5_quarrel, cX5_quarrel, 5, (some .int))
theorem fX5_quarrel : aw_mf mX5_quarrel 3 := ⟨aw_in 920 (by decide +kernel) rfl, aw_in 104 (by decide +kernel) rfl, ⟨by decide +kernel, by decide +kernel, by decide +kernel⟩, by decide +kernel, Nat.le_of_ble_eq_true rfl, by decide +kernel⟩
theorem vX5_quarrel : aw_mV mX5_quarrel := ⟨aw_in 918 (by decide +kernel) rfl, aw_in 919 (by decide +kernel) rfl⟩
abbrev mX5_cold : MI := (yX5_cold, cX5_cold, 4, (some .int))
theorem fX5_cold : aw_mf mX5_cold 1 := ⟨aw_in 924 (by decide +kernel) rfl, aw_in 104 (by decide +kernel) rfl, ⟨by decide +kernel, by decide +kernel, by decide +kernel⟩, by decide +kernel, Nat.le_of_ble_eq_true rfl, by decide +kernel⟩
theorem vX5_cold : aw_mV mX5_cold := ⟨aw_in 922 (by decide +kernel) rfl, aw_in 923 (by decide +kernel) rfl⟩
abbrev mX5_put : MI := (yX5_put, cX5_put, 4, (some .int))
theorem fX5_put : aw_mf mX5_put 2 := ⟨aw_in 928 (by decide +kernel) rfl, aw_in 104 (by decide +kernel) rfl, ⟨by decide +kernel, by decide +kernel, by decide +kernel⟩, by decide +kernel, Nat.le_of_ble_eq_true rfl, by decide +kernel⟩
theorem vX5_put : aw_mV mX5_put := ⟨aw_in 926 (by decide +kernel) rfl, aw_in 927 (by decide +kernel) rfl⟩
abbrev mX5_wetMany : MI := (yX5_wetMany, cX5_wetMany, 3, (some .int))
theorem fX5_wetMany : aw_mf mX5_wetMany 0 := ⟨aw_in 936 (by decide +kernel) rfl, aw_in 104 (by decide +kernel) rfl, ⟨by decide +kernel, by decide +kernel, by decide +kernel⟩, by decide +kernel, Nat.le_of_ble_eq_true rfl, by decide +kernel⟩
theorem vX5_wetMany : aw_mV mX5_wetMany := ⟨aw_in 935 (by decide +kernel) rfl, aw_in 76 (by decide +kernel) rfl⟩
abbrev mX5_out : MI := (yX5_out, cX5_out, 3, (some .int))
theorem fX5_out : aw_mf mX5_out 0 := ⟨aw_in 932 (by decide +kernel) rfl, aw_in 104 (by decide +kernel) rfl, ⟨by decide +kernel, by decide +kernel, by decide +kernel⟩, by decide +kernel, Nat.le_of_ble_eq_true rfl, by decide +kernel⟩
theorem vX5_out : aw_mV mX5_out := ⟨aw_in 930 (by decide +kernel) rfl, aw_in 931 (by decide +kernel) rfl⟩
abbrev mX5_loadOf : MI := (yX5_loadOf, cX5_loadOf, 5, (some .int))
theorem fX5_loadOf : aw_mf mX5_loadOf 1 := ⟨aw_in 948 (by decide +kernel) rfl, aw_in 104 (by decide +kernel) rfl, ⟨by decide +kernel, by decide +kernel, by decide +kernel⟩, by decide +kernel, Nat.le_of_ble_eq_true rfl, by decide +kernel⟩
theorem vX5_loadOf : aw_mV mX5_loadOf := ⟨aw_in 947 (by decide +kernel) rfl, aw_in 78 (by decide +kernel) rfl⟩
abbrev mX5_load : MI := (yX5_load, cX5_load, 2, (some .int))
theorem fX5_load : aw_mf mX5_load 1 := ⟨aw_in 944 (by decide +kernel) rfl, aw_in 104 (by decide +kernel) rfl, ⟨by decide +kernel, by decide +kernel, by decide +kernel⟩, by decide +kernel, Nat.le_of_ble_eq_true rfl, by decide +kernel⟩
theorem vX5_load : aw_mV mX5_load := ⟨aw_in 942 (by decide +kernel) rfl, aw_in 943 (by decide +kernel) rfl⟩
abbrev mX5_doesReach : MI := (yX5_doesReach, cX5_doesReach, 4, (some .boolean))
theorem fX5_doesReach : aw_mf mX5_doesReach 3 := ⟨aw_in 967 (by decide +kernel) rfl, aw_in 104 (by decide +kernel) rfl, ⟨by decide +kernel, by decide +kernel, by decide +kernel⟩, by decide +kernel, Nat.le_of_ble_eq_true rfl, by decide +kernel⟩
theorem vX5_doesReach : aw_mV mX5_doesReach := ⟨aw_in 966 (by decide +kernel) rfl, aw_in 81 (by decide +kernel) rfl⟩
abbrev mX5_doesHold : MI := (yX5_doesHold, cX5_doesHold, 3, (some .boolean))
theorem fX5_doesHold : aw_mf mX5_doesHold 2 := ⟨aw_in 971 (by decide +kernel) rfl, aw_in 104 (by decide +kernel) rfl, ⟨by decide +kernel, by decide +kernel, by decide +kernel⟩, by decide +kernel, Nat.le_of_ble_eq_true rfl, by decide +kernel⟩
theorem vX5_doesHold : aw_mV mX5_doesHold := ⟨aw_in 970 (by decide +kernel) rfl, aw_in 82 (by decide +kernel) rfl⟩
abbrev mX5_slipsIn : MI := (yX5_slipsIn, cX5_slipsIn, 4, (some .int))
theorem fX5_slipsIn : aw_mf mX5_slipsIn 3 := ⟨aw_in 963 (by decide +kernel) rfl, aw_in 104 (by decide +kernel) rfl, ⟨by decide +kernel, by decide +kernel, by decide +kernel⟩, by decide +kernel, Nat.le_of_ble_eq_true rfl, by decide +kernel⟩
theorem vX5_slipsIn : aw_mV mX5_slipsIn := ⟨aw_in 962 (by decide +kernel) rfl, aw_in 80 (by decide +kernel) rfl⟩
abbrev mX5_findSlip : MI := (yX5_findSlip, cX5_findSlip, 3, none)
theorem fX5_findSlip : aw_mf mX5_findSlip 0 := ⟨aw_in 959 (by decide +kernel) rfl, aw_in 104 (by decide +kernel) rfl, ⟨by decide +kernel, by decide +kernel, by decide +kernel⟩, by decide +kernel, Nat.le_of_ble_eq_true rfl, by decide +kernel⟩
theorem vX5_findSlip : aw_mV mX5_findSlip := ⟨aw_in 958 (by decide +kernel) rfl, aw_in 79 (by decide +kernel) rfl⟩
abbrev mX5_doesStand : MI := (yX5_doesStand, cX5_doesStand, 1, (some .boolean))
theorem fX5_doesStand : aw_mf mX5_doesStand 0 := ⟨aw_in 979 (by decide +kernel) rfl, aw_in 104 (by decide +kernel) rfl, ⟨by decide +kernel, by decide +kernel, by decide +kernel⟩, by decide +kernel, Nat.le_of_ble_eq_true rfl, by decide +kernel⟩
theorem vX5_doesStand : aw_mV mX5_doesStand := ⟨aw_in 978 (by decide +kernel) rfl, aw_in 83 (by decide +kernel) rfl⟩
abbrev mX5_lastsNow : MI := (yX5_lastsNow, cX5_lastsNow, 3, (some .int))
theorem fX5_lastsNow : aw_mf mX5_lastsNow 0 := ⟨aw_in 983 (by decide +kernel) rfl, aw_in 104 (by decide +kernel) rfl, ⟨by decide +kernel, by decide +kernel, by decide +kernel⟩, by decide +kernel, Nat.le_of_ble_eq_true rfl, by decide +kernel⟩
theorem vX5_lastsNow : aw_mV mX5_lastsNow := ⟨aw_in 982 (by decide +kernel) rfl, aw_in 84 (by decide +kernel) rfl⟩
abbrev mX5_slips : MI := (yX5_slips, cX5_slips, 2, (some .int))
theorem fX5_slips : aw_mf mX5_slips 1 := ⟨aw_in 955 (by decide +kernel) rfl, aw_in 104 (by decide +kernel) rfl, ⟨by decide +kernel, by decide +kernel, by decide +kernel⟩, by decide +kernel, Nat.le_of_ble_eq_true rfl, by decide +kernel⟩
theorem vX5_slips : aw_mV mX5_slips := ⟨aw_in 953 (by decide +kernel) rfl, aw_in 954 (by decide +kernel) rfl⟩
abbrev mX5_lasts : MI := (yX5_lasts, cX5_lasts, 1, (some .int))
theorem fX5_lasts : aw_mf mX5_lasts 0 := ⟨aw_in 975 (by decide +kernel) rfl, aw_in 104 (by decide +kernel) rfl, ⟨by decide +kernel, by decide +kernel, by decide +kernel⟩, by decide +kernel, Nat.le_of_ble_eq_true rfl, by decide +kernel⟩
theorem vX5_lasts : aw_mV mX5_lasts := ⟨aw_in 973 (by decide +kernel) rfl, aw_in 974 (by decide +kernel) rfl⟩
abbrev mX5_overMany : MI := (yX5_overMany, cX5_overMany, 3, (some .int))
theorem fX5_overMany : aw_mf mX5_overMany 0 := ⟨aw_in 940 (by decide +kernel) rfl, aw_in 104 (by decide +kernel) rfl, ⟨by decide +kernel, by decide +kernel, by decide +kernel⟩, by decide +kernel, Nat.le_of_ble_eq_true rfl, by decide +kernel⟩
theorem vX5_overMany : aw_mV mX5_overMany := ⟨aw_in 939 (by decide +kernel) rfl, aw_in 77 (by decide +kernel) rfl⟩
abbrev mX5_cross : MI := (yX5_cross, cX5_cross, 4, (some .int))
theorem fX5_cross : aw_mf mX5_cross 1 := ⟨aw_in 987 (by decide +kernel) rfl, aw_in 104 (by decide +kernel) rfl, ⟨by decide +kernel, by decide +kernel, by decide +kernel⟩, by decide +kernel, Nat.le_of_ble_eq_true rfl, by decide +kernel⟩
theorem vX5_cross : aw_mV mX5_cross := ⟨aw_in 985 (by decide +kernel) rfl, aw_in 986 (by decide +kernel) rfl⟩
abbrev mX5_putsAway : MI := (yX5_putsAway, cX5_putsAway, 2, none)
theorem fX5_putsAway : aw_mf mX5_putsAway 0 := ⟨aw_in 995 (by decide +kernel) rfl, aw_in 104 (by decide +kernel) rfl, ⟨by decide +kernel, by decide +kernel, by decide +kernel⟩, by decide +kernel, Nat.le_of_ble_eq_true rfl, by decide +kernel⟩
theorem vX5_putsAway : aw_mV mX5_putsAway := ⟨aw_in 994 (by decide +kernel) rfl, aw_in 85 (by decide +kernel) rfl⟩
abbrev mX5_putsBack : MI := (yX5_putsBack, cX5_putsBack, 2, none)
theorem fX5_putsBack : aw_mf mX5_putsBack 0 := ⟨aw_in 1007 (by decide +kernel) rfl, aw_in 104 (by decide +kernel) rfl, ⟨by decide +kernel, by decide +kernel, by decide +kernel⟩, by decide +kernel, Nat.le_of_ble_eq_true rfl, by decide +kernel⟩
theorem vX5_putsBack : aw_mV mX5_putsBack := ⟨aw_in 1006 (by decide +kernel) rfl, aw_in 88 (by decide +kernel) rfl⟩
abbrev mX5_areUnlike : MI := (yX5_areUnlike, cX5_areUnlike, 3, (some .boolean))
theorem fX5_areUnlike : aw_mf mX5_areUnlike 0 := ⟨aw_in 1003 (by decide +kernel) rfl, aw_in 104 (by decide +kernel) rfl, ⟨by decide +kernel, by decide +kernel, by decide +kernel⟩, by decide +kernel, Nat.le_of_ble_eq_true rfl, by decide +kernel⟩
theorem vX5_areUnlike : aw_mV mX5_areUnlike := ⟨aw_in 1002 (by decide +kernel) rfl, aw_in 87 (by decide +kernel) rfl⟩
abbrev mX5_nextChain : MI := (yX5_nextChain, cX5_nextChain, 4, (some .boolean))
theorem fX5_nextChain : aw_mf mX5_nextChain 0 := ⟨aw_in 999 (by decide +kernel) rfl, aw_in 104 (by decide +kernel) rfl, ⟨by decide +kernel, by decide +kernel, by decide +kernel⟩, by decide +kernel, Nat.le_of_ble_eq_true rfl, by decide +kernel⟩
theorem vX5_nextChain : aw_mV mX5_nextChain := ⟨aw_in 998 (by decide +kernel) rfl, aw_in 86 (by decide +kernel) rfl⟩
abbrev mX5_chains : MI := (yX5_chains, cX5_chains, 2, (some .int))
theorem fX5_chains : aw_mf mX5_chains 0 := ⟨aw_in 991 (by decide +kernel) rfl, aw_in 104 (by decide +kernel) rfl, ⟨by decide +kernel, by decide +kernel, by decide +kernel⟩, by decide +kernel, Nat.le_of_ble_eq_true rfl, by decide +kernel⟩
theorem vX5_chains : aw_mV mX5_chains := ⟨aw_in 989 (by decide +kernel) rfl, aw_in 990 (by decide +kernel) rfl⟩
abbrev mX5_findLongest : MI := (yX5_findLongest, cX5_findLongest, 2, none)
theorem fX5_findLongest : aw_mf mX5_findLongest 0 := ⟨aw_in 1015 (by decide +kernel) rfl, aw_in 104 (by decide +kernel) rfl, ⟨by decide +kernel, by decide +kernel, by decide +kernel⟩, by decide +kernel, Nat.le_of_ble_eq_true rfl, by decide +kernel⟩
theorem vX5_findLongest : aw_mV mX5_findLongest := ⟨aw_in 1014 (by decide +kernel) rfl, aw_in 89 (by decide +kernel) rfl⟩
abbrev mX5_longest : MI := (yX5_longest, cX5_longest, 2, (some .int))
theorem fX5_longest : aw_mf mX5_longest 1 := ⟨aw_in 1011 (by decide +kernel) rfl, aw_in 104 (by decide +kernel) rfl, ⟨by decide +kernel, by decide +kernel, by decide +kernel⟩, by decide +kernel, Nat.le_of_ble_eq_true rfl, by decide +kernel⟩
theorem vX5_longest : aw_mV mX5_longest := ⟨aw_in 1009 (by decide +kernel) rfl, aw_in 1010 (by decide +kernel) rfl⟩
abbrev mX5_grudgesIn : MI := (yX5_grudgesIn, cX5_grudgesIn, 4, (some .int))
theorem fX5_grudgesIn : aw_mf mX5_grudgesIn 0 := ⟨aw_in 1023 (by decide +kernel) rfl, aw_in 104 (by decide +kernel) rfl, ⟨by decide +kernel, by decide +kernel, by decide +kernel⟩, by decide +kernel, Nat.le_of_ble_eq_true rfl, by decide +kernel⟩
theorem vX5_grudgesIn : aw_mV mX5_grudgesIn := ⟨aw_in 1022 (by decide +kernel) rfl, aw_in 90 (by decide +kernel) rfl⟩
abbrev mX5_makeUp : MI := (yX5_makeUp, cX5_makeUp, 3, (some .int))
theorem fX5_makeUp : aw_mf mX5_makeUp 0 := ⟨aw_in 1019 (by decide +kernel) rfl, aw_in 104 (by decide +kernel) rfl, ⟨by decide +kernel, by decide +kernel, by decide +kernel⟩, by decide +kernel, Nat.le_of_ble_eq_true rfl, by decide +kernel⟩
theorem vX5_makeUp : aw_mV mX5_makeUp := ⟨aw_in 1017 (by decide +kernel) rfl, aw_in 1018 (by decide +kernel) rfl⟩
abbrev mX5_longestOrNothing : MI := (yX5_longestOrNothing, cX5_longestOrNothing, 1, (some .int))
theorem fX5_longestOrNothing : aw_mf mX5_longestOrNothing 0 := ⟨aw_in 1031 (by decide +kernel) rfl, aw_in 104 (by decide +kernel) rfl, ⟨by decide +kernel, by decide +kernel, by decide +kernel⟩, by decide +kernel, Nat.le_of_ble_eq_true rfl, by decide +kernel⟩
theorem vX5_longestOrNothing : aw_mV mX5_longestOrNothing := ⟨aw_in 1030 (by decide +kernel) rfl, aw_in 91 (by decide +kernel) rfl⟩
abbrev mX5_worth : MI := (yX5_worth, cX5_worth, 5, (some .int))
theorem fX5_worth : aw_mf mX5_worth 2 := ⟨aw_in 1027 (by decide +kernel) rfl, aw_in 104 (by decide +kernel) rfl, ⟨by decide +kernel, by decide +kernel, by decide +kernel⟩, by decide +kernel, Nat.le_of_ble_eq_true rfl, by decide +kernel⟩
theorem vX5_worth : aw_mV mX5_worth := ⟨aw_in 1025 (by decide +kernel) rfl, aw_in 1026 (by decide +kernel) rfl⟩
abbrev mX5_change : MI := (yX5_change, cX5_change, 6, (some .int))
theorem fX5_change : aw_mf mX5_change 0 := ⟨aw_in 1035 (by decide +kernel) rfl, aw_in 104 (by decide +kernel) rfl, ⟨by decide +kernel, by decide +kernel, by decide +kernel⟩, by decide +kernel, Nat.le_of_ble_eq_true rfl, by decide +kernel⟩
theorem vX5_change : aw_mV mX5_change := ⟨aw_in 1033 (by decide +kernel) rfl, aw_in 1034 (by decide +kernel) rfl⟩
abbrev mX5_flood : MI := (yX5_flood, cX5_flood, 4, (some .int))
theorem fX5_flood : aw_mf mX5_flood 0 := ⟨aw_in 1039 (by decide +kernel) rfl, aw_in 104 (by decide +kernel) rfl, ⟨by decide +kernel, by decide +kernel, by decide +kernel⟩, by decide +kernel, Nat.le_of_ble_eq_true rfl, by decide +kernel⟩
theorem vX5_flood : aw_mV mX5_flood := ⟨aw_in 1037 (by decide +kernel) rfl, aw_in 1038 (by decide +kernel) rfl⟩
abbrev mX5_overs : MI := (yX5_overs, cX5_overs, 1, (some .int))
theorem fX5_overs : aw_mf mX5_overs 0 := ⟨aw_in 1043 (by decide +kernel) rfl, aw_in 104 (by decide +kernel) rfl, ⟨by decide +kernel, by decide +kernel, by decide +kernel⟩, by decide +kernel, Nat.le_of_ble_eq_true rfl, by decide +kernel⟩
theorem vX5_overs : aw_mV mX5_overs := ⟨aw_in 1041 (by decide +kernel) rfl, aw_in 1042 (by decide +kernel) rfl⟩
abbrev mX5_owes : MI := (yX5_owes, cX5_owes, 3, (some .int))
theorem fX5_owes : aw_mf mX5_owes 2 := ⟨aw_in 1047 (by decide +kernel) rfl, aw_in 104 (by decide +kernel) rfl, ⟨by decide +kernel, by decide +kernel, by decide +kernel⟩, by decide +kernel, Nat.le_of_ble_eq_true rfl, by decide +kernel⟩
theorem vX5_owes : aw_mV mX5_owes := ⟨aw_in 1045 (by decide +kernel) rfl, aw_in 1046 (by decide +kernel) rfl⟩
abbrev mX5_owed : MI := (yX5_owed, cX5_owed, 4, (some .int))
theorem fX5_owed : aw_mf mX5_owed 1 := ⟨aw_in 1051 (by decide +kernel) rfl, aw_in 104 (by decide +kernel) rfl, ⟨by decide +kernel, by decide +kernel, by decide +kernel⟩, by decide +kernel, Nat.le_of_ble_eq_true rfl, by decide +kernel⟩
theorem vX5_owed : aw_mV mX5_owed := ⟨aw_in 1049 (by decide +kernel) rfl, aw_in 1050 (by decide +kernel) rfl⟩
abbrev mX5_doesOwe : MI := (yX5_doesOwe, cX5_doesOwe, 3, (some .boolean))
theorem fX5_doesOwe : aw_mf mX5_doesOwe 2 := ⟨aw_in 1068 (by decide +kernel) rfl, aw_in 104 (by decide +kernel) rfl, ⟨by decide +kernel, by decide +kernel, by decide +kernel⟩, by decide +kernel, Nat.le_of_ble_eq_true rfl, by decide +kernel⟩
theorem vX5_doesOwe : aw_mV mX5_doesOwe := ⟨aw_in 1067 (by decide +kernel) rfl, aw_in 94 (by decide +kernel) rfl⟩
abbrev mX5_strikesTwo : MI := (yX5_strikesTwo, cX5_strikesTwo, 4, (some .boolean))
theorem fX5_strikesTwo : aw_mf mX5_strikesTwo 0 := ⟨aw_in 1064 (by decide +kernel) rfl, aw_in 104 (by decide +kernel) rfl, ⟨by decide +kernel, by decide +kernel, by decide +kernel⟩, by decide +kernel, Nat.le_of_ble_eq_true rfl, by decide +kernel⟩
theorem vX5_strikesTwo : aw_mV mX5_strikesTwo := ⟨aw_in 1063 (by decide +kernel) rfl, aw_in 93 (by decide +kernel) rfl⟩
abbrev mX5_strikesThree : MI := (yX5_strikesThree, cX5_strikesThree, 6, (some .boolean))
theorem fX5_strikesThree : aw_mf mX5_strikesThree 0 := ⟨aw_in 1072 (by decide +kernel) rfl, aw_in 104 (by decide +kernel) rfl, ⟨by decide +kernel, by decide +kernel, by decide +kernel⟩, by decide +kernel, Nat.le_of_ble_eq_true rfl, by decide +kernel⟩
theorem vX5_strikesThree : aw_mV mX5_strikesThree := ⟨aw_in 1071 (by decide +kernel) rfl, aw_in 95 (by decide +kernel) rfl⟩
abbrev mX5_strike : MI := (yX5_strike, cX5_strike, 2, (some .int))
theorem fX5_strike : aw_mf mX5_strike 0 := ⟨aw_in 1060 (by decide +kernel) rfl, aw_in 104 (by decide +kernel) rfl, ⟨by decide +kernel, by decide +kernel, by decide +kernel⟩, by decide +kernel, Nat.le_of_ble_eq_true rfl, by decide +kernel⟩
theorem vX5_strike : aw_mV mX5_strike := ⟨aw_in 1058 (by decide +kernel) rfl, aw_in 1059 (by decide +kernel) rfl⟩
abbrev mX5_areDry : MI := (yX5_areDry, cX5_areDry, 3, (some .boolean))
theorem fX5_areDry : aw_mf mX5_areDry 1 := ⟨aw_in 1080 (by decide +kernel) rfl, aw_in 104 (by decide +kernel) rfl, ⟨by decide +kernel, by decide +kernel, by decide +kernel⟩, by decide +kernel, Nat.le_of_ble_eq_true rfl, by decide +kernel⟩
theorem vX5_areDry : aw_mV mX5_areDry := ⟨aw_in 1079 (by decide +kernel) rfl, aw_in 96 (by decide +kernel) rfl⟩
abbrev mX5_wet : MI := (yX5_wet, cX5_wet, 7, (some .int))
theorem fX5_wet : aw_mf mX5_wet 2 := ⟨aw_in 1076 (by decide +kernel) rfl, aw_in 104 (by decide +kernel) rfl, ⟨by decide +kernel, by decide +kernel, by decide +kernel⟩, by decide +kernel, Nat.le_of_ble_eq_true rfl, by decide +kernel⟩
theorem vX5_wet : aw_mV mX5_wet := ⟨aw_in 1074 (by decide +kernel) rfl, aw_in 1075 (by decide +kernel) rfl⟩
abbrev mX5_row : MI := (yX5_row, cX5_row, 3, (some .int))
theorem fX5_row : aw_mf mX5_row 1 := ⟨aw_in 1084 (by decide +kernel) rfl, aw_in 104 (by decide +kernel) rfl, ⟨by decide +kernel, by decide +kernel, by decide +kernel⟩, by decide +kernel, Nat.le_of_ble_eq_true rfl, by decide +kernel⟩
theorem vX5_row : aw_mV mX5_row := ⟨aw_in 1082 (by decide +kernel) rfl, aw_in 1083 (by decide +kernel) rfl⟩
abbrev mX5_judge : MI := (yX5_judge, cX5_judge, 5, (some .int))
theorem fX5_judge : aw_mf mX5_judge 0 := ⟨aw_in 1088 (by decide +kernel) rfl, aw_in 104 (by decide +kernel) rfl, ⟨by decide +kernel, by decide +kernel, by decide +kernel⟩, by decide +kernel, Nat.le_of_ble_eq_true rfl, by decide +kernel⟩
theorem vX5_judge : aw_mV mX5_judge := ⟨aw_in 1086 (by decide +kernel) rfl, aw_in 1087 (by decide +kernel) rfl⟩
abbrev mX5_seeds : MI := (yX5_seeds, cX5_seeds, 8, (some .int))
theorem fX5_seeds : aw_mf mX5_seeds 2 := ⟨aw_in 1092 (by decide +kernel) rfl, aw_in 104 (by decide +kernel) rfl, ⟨by decide +kernel, by decide +kernel, by decide +kernel⟩, by decide +kernel, Nat.le_of_ble_eq_true rfl, by decide +kernel⟩
theorem vX5_seeds : aw_mV mX5_seeds := ⟨aw_in 1090 (by decide +kernel) rfl, aw_in 1091 (by decide +kernel) rfl⟩
abbrev mX5_sumOf : MI := (yX5_sumOf, cX5_sumOf, 4, (some .int))
theorem fX5_sumOf : aw_mf mX5_sumOf 1 := ⟨aw_in 1103 (by decide +kernel) rfl, aw_in 104 (by decide +kernel) rfl, ⟨by decide +kernel, by decide +kernel, by decide +kernel⟩, by decide +kernel, Nat.le_of_ble_eq_true rfl, by decide +kernel⟩
theorem vX5_sumOf : aw_mV mX5_sumOf := ⟨aw_in 1102 (by decide +kernel) rfl, aw_in 97 (by decide +kernel) rfl⟩
abbrev mX5_count : MI := (yX5_count, cX5_count, 2, (some .int))
theorem fX5_count : aw_mf mX5_count 1 := ⟨aw_in 1099 (by decide +kernel) rfl, aw_in 104 (by decide +kernel) rfl, ⟨by decide +kernel, by decide +kernel, by decide +kernel⟩, by decide +kernel, Nat.le_of_ble_eq_true rfl, by decide +kernel⟩
theorem vX5_count : aw_mV mX5_count := ⟨aw_in 1097 (by decide +kernel) rfl, aw_in 1098 (by decide +kernel) rfl⟩
abbrev mJ6_bitCount_0f7a4 : MI := (yJ6_bitCount_0f7a4, cJ6_bitCount_0f7a4, 1, (some .int))
theorem fJ6_bitCount_0f7a4 : aw_mf mJ6_bitCount_0f7a4 1 := ⟨aw_in 641 (by decide +kernel) rfl, aw_in 107 (by decide +kernel) rfl, ⟨by decide +kernel, by decide +kernel, by decide +kernel⟩, by decide +kernel, Nat.le_of_ble_eq_true rfl, by decide +kernel⟩
theorem sJ6_bitCount_0f7a4 : Cond.static mJ6_bitCount_0f7a4.1 ∈ aw_gt := aw_in 640 (by decide +kernel) rfl
abbrev mL_law : MI := (x, code, maxLocals, ret)
theorem oL : Cond.initialized RL ∈ aw_gt := aw_in 98 (by decide +kernel) rfl
theorem oX4 : Cond.initialized RX4 ∈ aw_gt := aw_in 99 (by decide +kernel) rfl
theorem oX3 : Cond.initialized RX3 ∈ aw_gt := aw_in 100 (by decide +kernel) rfl
theorem oX2 : Cond.initialized RX2 ∈ aw_gt := aw_in 101 (by decide +kernel) rfl
theorem oX0 : Cond.initialized RX0 ∈ aw_gt := aw_in 102 (by decide +kernel) rfl
theorem oX1 : Cond.initialized RX1 ∈ aw_gt := aw_in 103 (by decide +kernel) rfl
theorem oX5 : Cond.initialized RX5 ∈ aw_gt := aw_in 104 (by decide +kernel) rfl
theorem oJ10 : Cond.initialized RJ10 ∈ aw_gt := aw_in 105 (by decide +kernel) rfl
theorem oJ9 : Cond.initialized RJ9 ∈ aw_gt := aw_in 106 (by decide +kernel) rfl
theorem oJ6 : Cond.initialized RJ6 ∈ aw_gt := aw_in 107 (by decide +kernel) rfl
theorem cL_7 : Cond.classLink RL 7 RX4 ∈ aw_gt := aw_in 108 (by decide +kernel) rfl
theorem tX4 : Cond.instantiable RX4 9 ∈ aw_gt := aw_in 109 (by decide +kernel) rfl
theorem lL_9 : aw_ml RL 9 yX4_init := Or.inl (aw_in 110 (by decide +kernel) rfl)
theorem lX4_1 : Cond.methodLink RX4 1 objectInit ∈ aw_gt := aw_in 113 (by decide +kernel) rfl
theorem cX4_7 : Cond.classLink RX4 7 RX3 ∈ aw_gt := aw_in 116 (by decide +kernel) rfl
theorem tX3 : Cond.instantiable RX3 10 ∈ aw_gt := aw_in 117 (by decide +kernel) rfl
theorem lX4_9 : aw_ml RX4 9 yX3_init := Or.inr ⟨"OverByTheHand", aw_inN 118 (by decide +kernel) rfl⟩
theorem lX3_3 : Cond.methodLink RX3 3 objectInit ∈ aw_gt := aw_in 121 (by decide +kernel) rfl
theorem cX3_34 : Cond.classLink RX3 34 RX2 ∈ aw_gt := aw_in 122 (by decide +kernel) rfl
theorem tX2 : Cond.instantiable RX2 6 ∈ aw_gt := aw_in 124 (by decide +kernel) rfl
theorem lX3_46 : aw_ml RX3 46 yX2_init := Or.inr ⟨"OverByTheHand", aw_inN 125 (by decide +kernel) rfl⟩
theorem lX2_3 : Cond.methodLink RX2 3 objectInit ∈ aw_gt := aw_in 128 (by decide +kernel) rfl
theorem gX2_9 : aw_fl RX2 9 2 0 false false := ⟨RX2, TX2, 6, kX2, Nat.le_of_ble_eq_true rfl, rfl, (fun h => by cases h), Or.inl ⟨rfl, aw_in 129 (by decide +kernel) rfl⟩⟩
theorem gX4_86 : aw_fl RX4 86 2 0 false true := ⟨RX2, TX2, 6, kX2, Nat.le_of_ble_eq_true rfl, rfl, (fun h => by cases h), Or.inr ⟨rfl, "OverByTheHand", aw_inN 130 (by decide +kernel) rfl⟩⟩
theorem gX3_147 : aw_fl RX3 147 2 0 false true := ⟨RX2, TX2, 6, kX2, Nat.le_of_ble_eq_true rfl, rfl, (fun h => by cases h), Or.inr ⟨rfl, "OverByTheHand", aw_inN 131 (by decide +kernel) rfl⟩⟩
theorem gX2_15 : aw_fl RX2 15 2 1 false false := ⟨RX2, TX2, 6, kX2, Nat.le_of_ble_eq_true rfl, rfl, (fun h => by cases h), Or.inl ⟨rfl, aw_in 132 (by decide +kernel) rfl⟩⟩
theorem gX4_91 : aw_fl RX4 91 2 1 false true := ⟨RX2, TX2, 6, kX2, Nat.le_of_ble_eq_true rfl, rfl, (fun h => by cases h), Or.inr ⟨rfl, "OverByTheHand", aw_inN 133 (by decide +kernel) rfl⟩⟩
theorem gX3_150 : aw_fl RX3 150 2 1 false true := ⟨RX2, TX2, 6, kX2, Nat.le_of_ble_eq_true rfl, rfl, (fun h => by cases h), Or.inr ⟨rfl, "OverByTheHand", aw_inN 134 (by decide +kernel) rfl⟩⟩
theorem gX2_18 : aw_fl RX2 18 2 2 false false := ⟨RX2, TX2, 6, kX2, Nat.le_of_ble_eq_true rfl, rfl, (fun h => by cases h), Or.inl ⟨rfl, aw_in 135 (by decide +kernel) rfl⟩⟩
theorem gX4_94 : aw_fl RX4 94 2 2 false true := ⟨RX2, TX2, 6, kX2, Nat.le_of_ble_eq_true rfl, rfl, (fun h => by cases h), Or.inr ⟨rfl, "OverByTheHand", aw_inN 136 (by decide +kernel) rfl⟩⟩
theorem gX3_153 : aw_fl RX3 153 2 2 false true := ⟨RX2, TX2, 6, kX2, Nat.le_of_ble_eq_true rfl, rfl, (fun h => by cases h), Or.inr ⟨rfl, "OverByTheHand", aw_inN 137 (by decide +kernel) rfl⟩⟩
theorem gX2_21 : aw_fl RX2 21 2 3 false false := ⟨RX2, TX2, 6, kX2, Nat.le_of_ble_eq_true rfl, rfl, (fun h => by cases h), Or.inl ⟨rfl, aw_in 138 (by decide +kernel) rfl⟩⟩
theorem gX4_97 : aw_fl RX4 97 2 3 false true := ⟨RX2, TX2, 6, kX2, Nat.le_of_ble_eq_true rfl, rfl, (fun h => by cases h), Or.inr ⟨rfl, "OverByTheHand", aw_inN 139 (by decide +kernel) rfl⟩⟩
theorem gX3_156 : aw_fl RX3 156 2 3 false true := ⟨RX2, TX2, 6, kX2, Nat.le_of_ble_eq_true rfl, rfl, (fun h => by cases h), Or.inr ⟨rfl, "OverByTheHand", aw_inN 140 (by decide +kernel) rfl⟩⟩
theorem gX2_24 : aw_fl RX2 24 2 4 false false := ⟨RX2, TX2, 6, kX2, Nat.le_of_ble_eq_true rfl, rfl, (fun h => by cases h), Or.inl ⟨rfl, aw_in 141 (by decide +kernel) rfl⟩⟩
theorem gX4_100 : aw_fl RX4 100 2 4 false true := ⟨RX2, TX2, 6, kX2, Nat.le_of_ble_eq_true rfl, rfl, (fun h => by cases h), Or.inr ⟨rfl, "OverByTheHand", aw_inN 142 (by decide +kernel) rfl⟩⟩
theorem gX3_117 : aw_fl RX3 117 2 4 false true := ⟨RX2, TX2, 6, kX2, Nat.le_of_ble_eq_true rfl, rfl, (fun h => by cases h), Or.inr ⟨rfl, "OverByTheHand", aw_inN 143 (by decide +kernel) rfl⟩⟩
theorem gX2_27 : aw_fl RX2 27 2 5 false false := ⟨RX2, TX2, 6, kX2, Nat.le_of_ble_eq_true rfl, rfl, (fun h => by cases h), Or.inl ⟨rfl, aw_in 144 (by decide +kernel) rfl⟩⟩
theorem gX3_61 : aw_fl RX3 61 2 5 false true := ⟨RX2, TX2, 6, kX2, Nat.le_of_ble_eq_true rfl, rfl, (fun h => by cases h), Or.inr ⟨rfl, "OverByTheHand", aw_inN 145 (by decide +kernel) rfl⟩⟩
theorem gX4_130 : aw_fl RX4 130 2 5 false true := ⟨RX2, TX2, 6, kX2, Nat.le_of_ble_eq_true rfl, rfl, (fun h => by cases h), Or.inr ⟨rfl, "OverByTheHand", aw_inN 146 (by decide +kernel) rfl⟩⟩
theorem aw_arr : Cond.arrayClass .int ∈ aw_gt := aw_in 160 (by decide +kernel) rfl
theorem gX3_9 : aw_fl RX3 9 3 0 false false := ⟨RX3, TX3, 10, kX3, Nat.le_of_ble_eq_true rfl, rfl, (fun h => by cases h), Or.inl ⟨rfl, aw_in 161 (by decide +kernel) rfl⟩⟩
theorem gX1_51 : aw_fl RX1 51 3 0 false true := ⟨RX3, TX3, 10, kX3, Nat.le_of_ble_eq_true rfl, rfl, (fun h => by cases h), Or.inr ⟨rfl, "OverByTheHand", aw_inN 162 (by decide +kernel) rfl⟩⟩
theorem gX4_149 : aw_fl RX4 149 3 0 false true := ⟨RX3, TX3, 10, kX3, Nat.le_of_ble_eq_true rfl, rfl, (fun h => by cases h), Or.inr ⟨rfl, "OverByTheHand", aw_inN 163 (by decide +kernel) rfl⟩⟩
theorem gX3_15 : aw_fl RX3 15 3 1 false false := ⟨RX3, TX3, 10, kX3, Nat.le_of_ble_eq_true rfl, rfl, (fun h => by cases h), Or.inl ⟨rfl, aw_in 164 (by decide +kernel) rfl⟩⟩
theorem gX1_43 : aw_fl RX1 43 3 1 false true := ⟨RX3, TX3, 10, kX3, Nat.le_of_ble_eq_true rfl, rfl, (fun h => by cases h), Or.inr ⟨rfl, "OverByTheHand", aw_inN 165 (by decide +kernel) rfl⟩⟩
theorem gX4_109 : aw_fl RX4 109 3 1 false true := ⟨RX3, TX3, 10, kX3, Nat.le_of_ble_eq_true rfl, rfl, (fun h => by cases h), Or.inr ⟨rfl, "OverByTheHand", aw_inN 166 (by decide +kernel) rfl⟩⟩
theorem gX0_56 : aw_fl RX0 56 3 1 false true := ⟨RX3, TX3, 10, kX3, Nat.le_of_ble_eq_true rfl, rfl, (fun h => by cases h), Or.inr ⟨rfl, "OverByTheHand", aw_inN 167 (by decide +kernel) rfl⟩⟩
theorem gX3_18 : aw_fl RX3 18 3 2 false false := ⟨RX3, TX3, 10, kX3, Nat.le_of_ble_eq_true rfl, rfl, (fun h => by cases h), Or.inl ⟨rfl, aw_in 168 (by decide +kernel) rfl⟩⟩
theorem gX4_235 : aw_fl RX4 235 3 2 false true := ⟨RX3, TX3, 10, kX3, Nat.le_of_ble_eq_true rfl, rfl, (fun h => by cases h), Or.inr ⟨rfl, "OverByTheHand", aw_inN 169 (by decide +kernel) rfl⟩⟩
theorem gX3_21 : aw_fl RX3 21 3 3 false false := ⟨RX3, TX3, 10, kX3, Nat.le_of_ble_eq_true rfl, rfl, (fun h => by cases h), Or.inl ⟨rfl, aw_in 170 (by decide +kernel) rfl⟩⟩
theorem gX1_65 : aw_fl RX1 65 3 3 false true := ⟨RX3, TX3, 10, kX3, Nat.le_of_ble_eq_true rfl, rfl, (fun h => by cases h), Or.inr ⟨rfl, "OverByTheHand", aw_inN 171 (by decide +kernel) rfl⟩⟩
theorem gX4_146 : aw_fl RX4 146 3 3 false true := ⟨RX3, TX3, 10, kX3, Nat.le_of_ble_eq_true rfl, rfl, (fun h => by cases h), Or.inr ⟨rfl, "OverByTheHand", aw_inN 172 (by decide +kernel) rfl⟩⟩
theorem gX3_24 : aw_fl RX3 24 3 4 true false := ⟨RX3, TX3, 10, kX3, Nat.le_of_ble_eq_true rfl, rfl, (fun _ => rfl), Or.inl ⟨rfl, aw_in 173 (by decide +kernel) rfl⟩⟩
theorem gX4_70 : aw_fl RX4 70 3 4 true true := ⟨RX3, TX3, 10, kX3, Nat.le_of_ble_eq_true rfl, rfl, (fun _ => rfl), Or.inr ⟨rfl, "OverByTheHand", aw_inN 174 (by decide +kernel) rfl⟩⟩
theorem gX3_28 : aw_fl RX3 28 3 5 true false := ⟨RX3, TX3, 10, kX3, Nat.le_of_ble_eq_true rfl, rfl, (fun _ => rfl), Or.inl ⟨rfl, aw_in 175 (by decide +kernel) rfl⟩⟩
theorem gX4_73 : aw_fl RX4 73 3 5 true true := ⟨RX3, TX3, 10, kX3, Nat.le_of_ble_eq_true rfl, rfl, (fun _ => rfl), Or.inr ⟨rfl, "OverByTheHand", aw_inN 176 (by decide +kernel) rfl⟩⟩
theorem gX3_31 : aw_fl RX3 31 3 6 true false := ⟨RX3, TX3, 10, kX3, Nat.le_of_ble_eq_true rfl, rfl, (fun _ => rfl), Or.inl ⟨rfl, aw_in 177 (by decide +kernel) rfl⟩⟩
theorem gX4_76 : aw_fl RX4 76 3 6 true true := ⟨RX3, TX3, 10, kX3, Nat.le_of_ble_eq_true rfl, rfl, (fun _ => rfl), Or.inr ⟨rfl, "OverByTheHand", aw_inN 178 (by decide +kernel) rfl⟩⟩
theorem gX1_90 : aw_fl RX1 90 3 6 true true := ⟨RX3, TX3, 10, kX3, Nat.le_of_ble_eq_true rfl, rfl, (fun _ => rfl), Or.inr ⟨rfl, "OverByTheHand", aw_inN 179 (by decide +kernel) rfl⟩⟩
theorem gX3_36 : aw_fl RX3 36 3 7 true false := ⟨RX3, TX3, 10, kX3, Nat.le_of_ble_eq_true rfl, rfl, (fun _ => rfl), Or.inl ⟨rfl, aw_in 180 (by decide +kernel) rfl⟩⟩
theorem gX1_37 : aw_fl RX1 37 3 7 true true := ⟨RX3, TX3, 10, kX3, Nat.le_of_ble_eq_true rfl, rfl, (fun _ => rfl), Or.inr ⟨rfl, "OverByTheHand", aw_inN 181 (by decide +kernel) rfl⟩⟩
theorem gX4_82 : aw_fl RX4 82 3 7 true true := ⟨RX3, TX3, 10, kX3, Nat.le_of_ble_eq_true rfl, rfl, (fun _ => rfl), Or.inr ⟨rfl, "OverByTheHand", aw_inN 182 (by decide +kernel) rfl⟩⟩
theorem gX3_40 : aw_fl RX3 40 3 8 true false := ⟨RX3, TX3, 10, kX3, Nat.le_of_ble_eq_true rfl, rfl, (fun _ => rfl), Or.inl ⟨rfl, aw_in 183 (by decide +kernel) rfl⟩⟩
theorem gX3_43 : aw_fl RX3 43 3 9 true false := ⟨RX3, TX3, 10, kX3, Nat.le_of_ble_eq_true rfl, rfl, (fun _ => rfl), Or.inl ⟨rfl, aw_in 184 (by decide +kernel) rfl⟩⟩
theorem cX4_26 : Cond.classLink RX4 26 RX0 ∈ aw_gt := aw_in 206 (by decide +kernel) rfl
theorem tX0 : Cond.instantiable RX0 2 ∈ aw_gt := aw_in 207 (by decide +kernel) rfl
theorem lX4_28 : aw_ml RX4 28 yX0_init := Or.inr ⟨"OverByTheHand", aw_inN 208 (by decide +kernel) rfl⟩
theorem lX0_3 : Cond.methodLink RX0 3 objectInit ∈ aw_gt := aw_in 211 (by decide +kernel) rfl
theorem gX0_9 : aw_fl RX0 9 0 0 true false := ⟨RX0, TX0, 2, kX0, Nat.le_of_ble_eq_true rfl, rfl, (fun _ => rfl), Or.inl ⟨rfl, aw_in 212 (by decide +kernel) rfl⟩⟩
theorem gX0_15 : aw_fl RX0 15 0 1 false false := ⟨RX0, TX0, 2, kX0, Nat.le_of_ble_eq_true rfl, rfl, (fun h => by cases h), Or.inl ⟨rfl, aw_in 213 (by decide +kernel) rfl⟩⟩
theorem gX4_55 : aw_fl RX4 55 0 1 false true := ⟨RX0, TX0, 2, kX0, Nat.le_of_ble_eq_true rfl, rfl, (fun h => by cases h), Or.inr ⟨rfl, "OverByTheHand", aw_inN 214 (by decide +kernel) rfl⟩⟩
theorem cX4_33 : Cond.classLink RX4 33 RX1 ∈ aw_gt := aw_in 220 (by decide +kernel) rfl
theorem tX1 : Cond.instantiable RX1 8 ∈ aw_gt := aw_in 221 (by decide +kernel) rfl
theorem lX4_35 : aw_ml RX4 35 yX1_init := Or.inr ⟨"OverByTheHand", aw_inN 222 (by decide +kernel) rfl⟩
theorem lX1_3 : Cond.methodLink RX1 3 objectInit ∈ aw_gt := aw_in 225 (by decide +kernel) rfl
theorem gX1_9 : aw_fl RX1 9 1 0 true false := ⟨RX1, TX1, 8, kX1, Nat.le_of_ble_eq_true rfl, rfl, (fun _ => rfl), Or.inl ⟨rfl, aw_in 226 (by decide +kernel) rfl⟩⟩
theorem gX1_15 : aw_fl RX1 15 1 1 true false := ⟨RX1, TX1, 8, kX1, Nat.le_of_ble_eq_true rfl, rfl, (fun _ => rfl), Or.inl ⟨rfl, aw_in 227 (by decide +kernel) rfl⟩⟩
theorem gX1_18 : aw_fl RX1 18 1 2 true false := ⟨RX1, TX1, 8, kX1, Nat.le_of_ble_eq_true rfl, rfl, (fun _ => rfl), Or.inl ⟨rfl, aw_in 228 (by decide +kernel) rfl⟩⟩
theorem gX1_21 : aw_fl RX1 21 1 3 false false := ⟨RX1, TX1, 8, kX1, Nat.le_of_ble_eq_true rfl, rfl, (fun h => by cases h), Or.inl ⟨rfl, aw_in 229 (by decide +kernel) rfl⟩⟩
theorem gX4_179 : aw_fl RX4 179 1 3 false true := ⟨RX1, TX1, 8, kX1, Nat.le_of_ble_eq_true rfl, rfl, (fun h => by cases h), Or.inr ⟨rfl, "OverByTheHand", aw_inN 230 (by decide +kernel) rfl⟩⟩
theorem gX1_25 : aw_fl RX1 25 1 4 false false := ⟨RX1, TX1, 8, kX1, Nat.le_of_ble_eq_true rfl, rfl, (fun h => by cases h), Or.inl ⟨rfl, aw_in 231 (by decide +kernel) rfl⟩⟩
theorem gX4_182 : aw_fl RX4 182 1 4 false true := ⟨RX1, TX1, 8, kX1, Nat.le_of_ble_eq_true rfl, rfl, (fun h => by cases h), Or.inr ⟨rfl, "OverByTheHand", aw_inN 232 (by decide +kernel) rfl⟩⟩
theorem gX1_28 : aw_fl RX1 28 1 5 true false := ⟨RX1, TX1, 8, kX1, Nat.le_of_ble_eq_true rfl, rfl, (fun _ => rfl), Or.inl ⟨rfl, aw_in 233 (by decide +kernel) rfl⟩⟩
theorem gX4_185 : aw_fl RX4 185 1 5 true true := ⟨RX1, TX1, 8, kX1, Nat.le_of_ble_eq_true rfl, rfl, (fun _ => rfl), Or.inr ⟨rfl, "OverByTheHand", aw_inN 234 (by decide +kernel) rfl⟩⟩
theorem gX1_31 : aw_fl RX1 31 1 6 false false := ⟨RX1, TX1, 8, kX1, Nat.le_of_ble_eq_true rfl, rfl, (fun h => by cases h), Or.inl ⟨rfl, aw_in 235 (by decide +kernel) rfl⟩⟩
theorem gX4_188 : aw_fl RX4 188 1 6 false true := ⟨RX1, TX1, 8, kX1, Nat.le_of_ble_eq_true rfl, rfl, (fun h => by cases h), Or.inr ⟨rfl, "OverByTheHand", aw_inN 236 (by decide +kernel) rfl⟩⟩
theorem gX1_34 : aw_fl RX1 34 1 7 true false := ⟨RX1, TX1, 8, kX1, Nat.le_of_ble_eq_true rfl, rfl, (fun _ => rfl), Or.inl ⟨rfl, aw_in 237 (by decide +kernel) rfl⟩⟩
theorem gX4_225 : aw_fl RX4 225 1 7 true true := ⟨RX1, TX1, 8, kX1, Nat.le_of_ble_eq_true rfl, rfl, (fun _ => rfl), Or.inr ⟨rfl, "OverByTheHand", aw_inN 238 (by decide +kernel) rfl⟩⟩
theorem gX4_10 : aw_fl RX4 10 4 0 true false := ⟨RX4, TX4, 9, kX4, Nat.le_of_ble_eq_true rfl, rfl, (fun _ => rfl), Or.inl ⟨rfl, aw_in 256 (by decide +kernel) rfl⟩⟩
theorem gX4_16 : aw_fl RX4 16 4 1 true false := ⟨RX4, TX4, 9, kX4, Nat.le_of_ble_eq_true rfl, rfl, (fun _ => rfl), Or.inl ⟨rfl, aw_in 257 (by decide +kernel) rfl⟩⟩
theorem gX4_19 : aw_fl RX4 19 4 2 true false := ⟨RX4, TX4, 9, kX4, Nat.le_of_ble_eq_true rfl, rfl, (fun _ => rfl), Or.inl ⟨rfl, aw_in 258 (by decide +kernel) rfl⟩⟩
theorem gX4_22 : aw_fl RX4 22 4 3 false false := ⟨RX4, TX4, 9, kX4, Nat.le_of_ble_eq_true rfl, rfl, (fun h => by cases h), Or.inl ⟨rfl, aw_in 259 (by decide +kernel) rfl⟩⟩
theorem gX4_29 : aw_fl RX4 29 4 4 true false := ⟨RX4, TX4, 9, kX4, Nat.le_of_ble_eq_true rfl, rfl, (fun _ => rfl), Or.inl ⟨rfl, aw_in 260 (by decide +kernel) rfl⟩⟩
theorem gX4_36 : aw_fl RX4 36 4 5 true false := ⟨RX4, TX4, 9, kX4, Nat.le_of_ble_eq_true rfl, rfl, (fun _ => rfl), Or.inl ⟨rfl, aw_in 261 (by decide +kernel) rfl⟩⟩
theorem gX4_40 : aw_fl RX4 40 4 6 true false := ⟨RX4, TX4, 9, kX4, Nat.le_of_ble_eq_true rfl, rfl, (fun _ => rfl), Or.inl ⟨rfl, aw_in 262 (by decide +kernel) rfl⟩⟩
theorem gX4_44 : aw_fl RX4 44 4 7 false false := ⟨RX4, TX4, 9, kX4, Nat.le_of_ble_eq_true rfl, rfl, (fun h => by cases h), Or.inl ⟨rfl, aw_in 263 (by decide +kernel) rfl⟩⟩
theorem gX4_48 : aw_fl RX4 48 4 8 true false := ⟨RX4, TX4, 9, kX4, Nat.le_of_ble_eq_true rfl, rfl, (fun _ => rfl), Or.inl ⟨rfl, aw_in 264 (by decide +kernel) rfl⟩⟩
theorem lL_13 : aw_ml RL 13 yX4_feed := Or.inl (aw_in 284 (by decide +kernel) rfl)
theorem lX4_51 : aw_ml RX4 51 yX4_refuse := Or.inl (aw_in 288 (by decide +kernel) rfl)
theorem lX4_58 : aw_ml RX4 58 yX0_take := Or.inr ⟨"OverByTheHand", aw_inN 292 (by decide +kernel) rfl⟩
theorem lL_18 : aw_ml RL 18 yX4_river := Or.inl (aw_in 296 (by decide +kernel) rfl)
theorem lX4_62 : aw_ml RX4 62 yX4_tellRiver := Or.inl (aw_in 300 (by decide +kernel) rfl)
theorem lX4_244 : aw_ml RX4 244 yX0_firstWrong := Or.inr ⟨"OverByTheHand", aw_inN 304 (by decide +kernel) rfl⟩
theorem lX0_37 : aw_ml RX0 37 yX0_endOf := Or.inl (aw_in 308 (by decide +kernel) rfl)
theorem lX0_19 : aw_ml RX0 19 yX0_at := Or.inl (aw_in 312 (by decide +kernel) rfl)
theorem lX0_27 : aw_ml RX0 27 yX0_leastDigits := Or.inl (aw_in 316 (by decide +kernel) rfl)
theorem lX0_30 : aw_ml RX0 30 yX0_mostDigits := Or.inl (aw_in 319 (by decide +kernel) rfl)
theorem lX0_33 : aw_ml RX0 33 yX0_digitsFrom := Or.inl (aw_in 322 (by decide +kernel) rfl)
theorem lX0_23 : aw_ml RX0 23 yX0_isDigit := Or.inl (aw_in 326 (by decide +kernel) rfl)
theorem lX4_191 : aw_ml RX4 191 yX3_copyFrom := Or.inr ⟨"OverByTheHand", aw_inN 330 (by decide +kernel) rfl⟩
theorem lX3_47 : Cond.methodLink RX3 47 arraycopyName ∈ aw_gt := aw_in 334 (by decide +kernel) rfl
theorem lX3_53 : aw_ml RX3 53 yX2_copyFrom := Or.inr ⟨"OverByTheHand", aw_inN 337 (by decide +kernel) rfl⟩
theorem lX4_247 : aw_ml RX4 247 yX0_tellTo := Or.inr ⟨"OverByTheHand", aw_inN 341 (by decide +kernel) rfl⟩
theorem lX0_40 : aw_ml RX0 40 yX0_tellStatement := Or.inl (aw_in 345 (by decide +kernel) rfl)
theorem lX0_44 : aw_ml RX0 44 yX0_digit := Or.inl (aw_in 349 (by decide +kernel) rfl)
theorem lX0_47 : aw_ml RX0 47 yX3_tellYards := Or.inr ⟨"OverByTheHand", aw_inN 353 (by decide +kernel) rfl⟩
theorem lX3_141 : aw_ml RX3 141 yX3_emptyWater := Or.inl (aw_in 357 (by decide +kernel) rfl)
theorem lX0_52 : aw_ml RX0 52 yX3_tellYard := Or.inr ⟨"OverByTheHand", aw_inN 361 (by decide +kernel) rfl⟩
theorem lX3_144 : aw_ml RX3 144 yX3_isYard := Or.inl (aw_in 365 (by decide +kernel) rfl)
theorem lX0_59 : aw_ml RX0 59 yX0_warmthAt := Or.inl (aw_in 369 (by decide +kernel) rfl)
theorem lX0_62 : aw_ml RX0 62 yX3_tellPerson := Or.inr ⟨"OverByTheHand", aw_inN 373 (by decide +kernel) rfl⟩
theorem lX0_66 : aw_ml RX0 66 yX3_tellGrudge := Or.inr ⟨"OverByTheHand", aw_inN 377 (by decide +kernel) rfl⟩
theorem lX3_159 : aw_ml RX3 159 yX3_areTwo := Or.inl (aw_in 381 (by decide +kernel) rfl)
theorem lX3_57 : aw_ml RX3 57 yX3_isPerson := Or.inl (aw_in 385 (by decide +kernel) rfl)
theorem lX3_102 : aw_ml RX3 102 yX3_grudgeOf := Or.inl (aw_in 389 (by decide +kernel) rfl)
theorem lX3_163 : aw_ml RX3 163 yX3_setGrudge := Or.inl (aw_in 393 (by decide +kernel) rfl)
theorem lX0_70 : aw_ml RX0 70 yX3_tellIn := Or.inr ⟨"OverByTheHand", aw_inN 397 (by decide +kernel) rfl⟩
theorem lX3_166 : aw_ml RX3 166 yX3_enter := Or.inl (aw_in 401 (by decide +kernel) rfl)
theorem lL_23 : aw_ml RL 23 yX4_yard := Or.inl (aw_in 405 (by decide +kernel) rfl)
theorem lX4_66 : aw_ml RX4 66 yX3_isYard := Or.inr ⟨"OverByTheHand", aw_inN 409 (by decide +kernel) rfl⟩
theorem lL_28 : aw_ml RL 28 yX4_person := Or.inl (aw_in 410 (by decide +kernel) rfl)
theorem lX4_79 : aw_ml RX4 79 yX3_isPerson := Or.inr ⟨"OverByTheHand", aw_inN 414 (by decide +kernel) rfl⟩
theorem lX4_103 : aw_ml RX4 103 yX2_reaches := Or.inr ⟨"OverByTheHand", aw_inN 415 (by decide +kernel) rfl⟩
theorem lX4_106 : aw_ml RX4 106 yX2_holds := Or.inr ⟨"OverByTheHand", aw_inN 419 (by decide +kernel) rfl⟩
theorem lX2_31 : Cond.methodLink RX2 31 Lib.Math.max.name ∈ aw_gt := aw_in 423 (by decide +kernel) rfl
theorem lX4_112 : aw_ml RX4 112 yX2_cools := Or.inr ⟨"OverByTheHand", aw_inN 426 (by decide +kernel) rfl⟩
theorem lX4_115 : aw_ml RX4 115 yX3_placeOf := Or.inr ⟨"OverByTheHand", aw_inN 430 (by decide +kernel) rfl⟩
theorem lL_32 : aw_ml RL 32 yX4_grudge := Or.inl (aw_in 434 (by decide +kernel) rfl)
theorem lX4_118 : aw_ml RX4 118 yX3_areTwo := Or.inr ⟨"OverByTheHand", aw_inN 438 (by decide +kernel) rfl⟩
theorem lX4_122 : aw_ml RX4 122 yX3_grudgeOf := Or.inr ⟨"OverByTheHand", aw_inN 439 (by decide +kernel) rfl⟩
theorem lL_36 : aw_ml RL 36 yX4_quarrel := Or.inl (aw_in 440 (by decide +kernel) rfl)
theorem lX4_126 : aw_ml RX4 126 yX3_setGrudge := Or.inr ⟨"OverByTheHand", aw_inN 444 (by decide +kernel) rfl⟩
theorem lL_41 : aw_ml RL 41 yX4_cold := Or.inl (aw_in 445 (by decide +kernel) rfl)
theorem lL_45 : aw_ml RL 45 yX4_put := Or.inl (aw_in 449 (by decide +kernel) rfl)
theorem lX4_133 : aw_ml RX4 133 yX3_enter := Or.inr ⟨"OverByTheHand", aw_inN 453 (by decide +kernel) rfl⟩
theorem lL_49 : aw_ml RL 49 yX4_out := Or.inl (aw_in 454 (by decide +kernel) rfl)
theorem lX4_137 : aw_ml RX4 137 yX3_inWater := Or.inr ⟨"OverByTheHand", aw_inN 458 (by decide +kernel) rfl⟩
theorem lX4_140 : aw_ml RX4 140 yX3_overThere := Or.inr ⟨"OverByTheHand", aw_inN 462 (by decide +kernel) rfl⟩
theorem lX4_143 : aw_ml RX4 143 yX3_emptyWater := Or.inr ⟨"OverByTheHand", aw_inN 466 (by decide +kernel) rfl⟩
theorem lL_53 : aw_ml RL 53 yX4_load := Or.inl (aw_in 467 (by decide +kernel) rfl)
theorem lX4_152 : aw_ml RX4 152 yX3_loadOf := Or.inr ⟨"OverByTheHand", aw_inN 471 (by decide +kernel) rfl⟩
theorem lX3_81 : Cond.methodLink RX3 81 Lib.Math.min.name ∈ aw_gt := aw_in 475 (by decide +kernel) rfl
theorem lL_57 : aw_ml RL 57 yX4_slips := Or.inl (aw_in 478 (by decide +kernel) rfl)
theorem lX4_155 : aw_ml RX4 155 yX3_firstSlip := Or.inr ⟨"OverByTheHand", aw_inN 482 (by decide +kernel) rfl⟩
theorem lX3_105 : aw_ml RX3 105 yX3_whySlips := Or.inl (aw_in 486 (by decide +kernel) rfl)
theorem lX3_99 : aw_ml RX3 99 yX3_whyNot := Or.inl (aw_in 490 (by decide +kernel) rfl)
theorem lX3_87 : aw_ml RX3 87 yX2_reaches := Or.inr ⟨"OverByTheHand", aw_inN 494 (by decide +kernel) rfl⟩
theorem lX3_90 : aw_ml RX3 90 yX2_holds := Or.inr ⟨"OverByTheHand", aw_inN 495 (by decide +kernel) rfl⟩
theorem lX3_93 : aw_ml RX3 93 yX3_loadOf := Or.inl (aw_in 496 (by decide +kernel) rfl)
theorem lX3_96 : Cond.methodLink RX3 96 Lib.Math.max.name ∈ aw_gt := aw_in 497 (by decide +kernel) rfl
theorem lX4_159 : aw_ml RX4 159 yX3_whySlips := Or.inr ⟨"OverByTheHand", aw_inN 498 (by decide +kernel) rfl⟩
theorem lL_61 : aw_ml RL 61 yX4_lasts := Or.inl (aw_in 499 (by decide +kernel) rfl)
theorem lX4_163 : aw_ml RX4 163 yX3_minutesOf := Or.inr ⟨"OverByTheHand", aw_inN 503 (by decide +kernel) rfl⟩
theorem lX3_109 : aw_ml RX3 109 yX3_firstSlip := Or.inl (aw_in 507 (by decide +kernel) rfl)
theorem nX3_113 : Cond.constant RX3 113 (2147483647) ∈ aw_gt := aw_in 508 (by decide +kernel) rfl
theorem lX3_114 : aw_ml RX3 114 yX2_minutes := Or.inr ⟨"OverByTheHand", aw_inN 509 (by decide +kernel) rfl⟩
theorem lX2_37 : aw_ml RX2 37 yX2_cools := Or.inl (aw_in 513 (by decide +kernel) rfl)
theorem lL_65 : aw_ml RL 65 yX4_cross := Or.inl (aw_in 514 (by decide +kernel) rfl)
theorem lX4_166 : aw_ml RX4 166 yX3_isNear := Or.inr ⟨"OverByTheHand", aw_inN 518 (by decide +kernel) rfl⟩
theorem lX3_65 : aw_ml RX3 65 yX3_placeOf := Or.inl (aw_in 522 (by decide +kernel) rfl)
theorem lX4_169 : aw_ml RX4 169 yX3_bringOver := Or.inr ⟨"OverByTheHand", aw_inN 523 (by decide +kernel) rfl⟩
theorem lX3_120 : aw_ml RX3 120 yX2_cools := Or.inr ⟨"OverByTheHand", aw_inN 527 (by decide +kernel) rfl⟩
theorem lX3_123 : aw_ml RX3 123 yX3_hoursOf := Or.inl (aw_in 528 (by decide +kernel) rfl)
theorem lX3_126 : aw_ml RX3 126 yX3_setHours := Or.inl (aw_in 532 (by decide +kernel) rfl)
theorem lL_69 : aw_ml RL 69 yX4_chains := Or.inl (aw_in 536 (by decide +kernel) rfl)
theorem lX4_172 : aw_ml RX4 172 yX3_notOver := Or.inr ⟨"OverByTheHand", aw_inN 540 (by decide +kernel) rfl⟩
theorem lX4_175 : aw_ml RX4 175 yX1_thinkOf := Or.inr ⟨"OverByTheHand", aw_inN 544 (by decide +kernel) rfl⟩
theorem lX1_46 : aw_ml RX1 46 yX2_minutes := Or.inr ⟨"OverByTheHand", aw_inN 548 (by decide +kernel) rfl⟩
theorem lX1_54 : aw_ml RX1 54 yX1_ableIn := Or.inl (aw_in 549 (by decide +kernel) rfl)
theorem lX1_68 : aw_ml RX1 68 yX3_whyNot := Or.inr ⟨"OverByTheHand", aw_inN 553 (by decide +kernel) rfl⟩
theorem nX1_60 : Cond.constant RX1 60 (2147483647) ∈ aw_gt := aw_in 554 (by decide +kernel) rfl
theorem lX1_61 : aw_ml RX1 61 yX1_extend := Or.inl (aw_in 555 (by decide +kernel) rfl)
theorem lX1_72 : aw_ml RX1 72 yX1_weigh := Or.inl (aw_in 559 (by decide +kernel) rfl)
theorem lX1_84 : Cond.methodLink RX1 84 arraycopyName ∈ aw_gt := aw_in 563 (by decide +kernel) rfl
theorem lX1_76 : aw_ml RX1 76 yX3_grudgeOf := Or.inr ⟨"OverByTheHand", aw_inN 564 (by decide +kernel) rfl⟩
theorem lX1_79 : Cond.methodLink RX1 79 Lib.Math.min.name ∈ aw_gt := aw_in 565 (by decide +kernel) rfl
theorem lL_73 : aw_ml RL 73 yX4_longest := Or.inl (aw_in 566 (by decide +kernel) rfl)
theorem lL_77 : aw_ml RL 77 yX4_makeUp := Or.inl (aw_in 570 (by decide +kernel) rfl)
theorem lL_81 : aw_ml RL 81 yX4_worth := Or.inl (aw_in 574 (by decide +kernel) rfl)
theorem lL_85 : aw_ml RL 85 yX4_change := Or.inl (aw_in 578 (by decide +kernel) rfl)
theorem lX4_195 : aw_ml RX4 195 yX1_bestChange := Or.inr ⟨"OverByTheHand", aw_inN 582 (by decide +kernel) rfl⟩
theorem lX1_93 : aw_ml RX1 93 yX3_minutesOf := Or.inr ⟨"OverByTheHand", aw_inN 586 (by decide +kernel) rfl⟩
theorem lX1_97 : Cond.methodLink RX1 97 Lib.Math.max.name ∈ aw_gt := aw_in 587 (by decide +kernel) rfl
theorem lX1_100 : aw_ml RX1 100 yX3_isNear := Or.inr ⟨"OverByTheHand", aw_inN 588 (by decide +kernel) rfl⟩
theorem lL_89 : aw_ml RL 89 yX4_flood := Or.inl (aw_in 589 (by decide +kernel) rfl)
theorem lX4_199 : Cond.methodLink RX4 199 Lib.Math.min.name ∈ aw_gt := aw_in 593 (by decide +kernel) rfl
theorem lL_93 : aw_ml RL 93 yX4_overs := Or.inl (aw_in 594 (by decide +kernel) rfl)
theorem lX4_204 : aw_ml RX4 204 yX3_nearBank := Or.inr ⟨"OverByTheHand", aw_inN 598 (by decide +kernel) rfl⟩
theorem lX3_69 : aw_ml RX3 69 yX3_inWater := Or.inl (aw_in 602 (by decide +kernel) rfl)
theorem lX3_73 : aw_ml RX3 73 yX3_overThere := Or.inl (aw_in 603 (by decide +kernel) rfl)
theorem lX4_207 : Cond.methodLink RX4 207 Lib.Math.max.name ∈ aw_gt := aw_in 604 (by decide +kernel) rfl
theorem lL_97 : aw_ml RL 97 yX4_owes := Or.inl (aw_in 605 (by decide +kernel) rfl)
theorem lX4_210 : aw_ml RX4 210 yX3_hoursOf := Or.inr ⟨"OverByTheHand", aw_inN 609 (by decide +kernel) rfl⟩
theorem lL_101 : aw_ml RL 101 yX4_owed := Or.inl (aw_in 610 (by decide +kernel) rfl)
theorem nX4_213 : Cond.constant RX4 213 (1000000000) ∈ aw_gt := aw_in 614 (by decide +kernel) rfl
theorem lL_105 : aw_ml RL 105 yX4_strike := Or.inl (aw_in 615 (by decide +kernel) rfl)
theorem lX4_214 : aw_ml RX4 214 yX3_strikeTwos := Or.inr ⟨"OverByTheHand", aw_inN 619 (by decide +kernel) rfl⟩
theorem lX3_134 : aw_ml RX3 134 yX3_lessenHours := Or.inl (aw_in 623 (by decide +kernel) rfl)
theorem lX4_217 : aw_ml RX4 217 yX3_strikeThrees := Or.inr ⟨"OverByTheHand", aw_inN 627 (by decide +kernel) rfl⟩
theorem lX3_137 : aw_ml RX3 137 yX3_strikeThree := Or.inl (aw_in 631 (by decide +kernel) rfl)
theorem lL_109 : aw_ml RL 109 yX4_wet := Or.inl (aw_in 635 (by decide +kernel) rfl)
theorem lX4_220 : aw_ml RX4 220 yJ6_bitCount_0f7a4 := Or.inl (aw_in 639 (by decide +kernel) rfl)
theorem nJ6_265 : Cond.constant RJ6 265 (1431655765) ∈ aw_gt := aw_in 642 (by decide +kernel) rfl
theorem nJ6_266 : Cond.constant RJ6 266 (858993459) ∈ aw_gt := aw_in 643 (by decide +kernel) rfl
theorem nJ6_267 : Cond.constant RJ6 267 (252645135) ∈ aw_gt := aw_in 644 (by decide +kernel) rfl
theorem lL_113 : aw_ml RL 113 yX4_row := Or.inl (aw_in 645 (by decide +kernel) rfl)
theorem lL_117 : aw_ml RL 117 yX4_judge := Or.inl (aw_in 649 (by decide +kernel) rfl)
theorem lX4_228 : aw_ml RX4 228 yX3_firstAmiss := Or.inr ⟨"OverByTheHand", aw_inN 653 (by decide +kernel) rfl⟩
theorem lX3_130 : aw_ml RX3 130 yX3_canCome := Or.inl (aw_in 657 (by decide +kernel) rfl)
theorem lL_121 : aw_ml RL 121 yX4_seeds := Or.inl (aw_in 661 (by decide +kernel) rfl)
theorem lX4_231 : aw_ml RX4 231 yX1_standingBySeed := Or.inr ⟨"OverByTheHand", aw_inN 665 (by decide +kernel) rfl⟩
theorem nX1_104 : Cond.constant RX1 104 (1103515245) ∈ aw_gt := aw_in 669 (by decide +kernel) rfl
theorem lX1_105 : aw_ml RX1 105 yX1_drawBelow := Or.inl (aw_in 670 (by decide +kernel) rfl)
theorem nX1_112 : Cond.constant RX1 112 (65536) ∈ aw_gt := aw_in 673 (by decide +kernel) rfl
theorem lX1_108 : aw_ml RX1 108 yX3_firstAmiss := Or.inr ⟨"OverByTheHand", aw_inN 674 (by decide +kernel) rfl⟩
theorem lL_125 : aw_ml RL 125 yX4_image := Or.inl (aw_in 675 (by decide +kernel) rfl)
theorem lL_129 : aw_ml RL 129 yX4_restore := Or.inl (aw_in 679 (by decide +kernel) rfl)
theorem lL_133 : aw_ml RL 133 yX4_count := Or.inl (aw_in 683 (by decide +kernel) rfl)
theorem lX4_238 : aw_ml RX4 238 yX3_allGrudges := Or.inr ⟨"OverByTheHand", aw_inN 687 (by decide +kernel) rfl⟩
theorem lX3_76 : aw_ml RX3 76 yJ6_bitCount_0f7a4 := Or.inl (aw_in 691 (by decide +kernel) rfl)
theorem lX4_241 : aw_ml RX4 241 yX3_allHours := Or.inr ⟨"OverByTheHand", aw_inN 692 (by decide +kernel) rfl⟩
theorem cL_10 : Cond.classLink RL 10 RX5 ∈ aw_gt := aw_in 696 (by decide +kernel) rfl
theorem tX5 : Cond.instantiable RX5 35 ∈ aw_gt := aw_in 697 (by decide +kernel) rfl
theorem lL_12 : aw_ml RL 12 yX5_init := Or.inl (aw_in 698 (by decide +kernel) rfl)
theorem lX5_1 : Cond.methodLink RX5 1 objectInit ∈ aw_gt := aw_in 701 (by decide +kernel) rfl
theorem gX5_7 : aw_fl RX5 7 5 0 true false := ⟨RX5, TX5, 35, kX5, Nat.le_of_ble_eq_true rfl, rfl, (fun _ => rfl), Or.inl ⟨rfl, aw_in 702 (by decide +kernel) rfl⟩⟩
theorem gX5_13 : aw_fl RX5 13 5 1 true false := ⟨RX5, TX5, 35, kX5, Nat.le_of_ble_eq_true rfl, rfl, (fun _ => rfl), Or.inl ⟨rfl, aw_in 703 (by decide +kernel) rfl⟩⟩
theorem gX5_16 : aw_fl RX5 16 5 2 true false := ⟨RX5, TX5, 35, kX5, Nat.le_of_ble_eq_true rfl, rfl, (fun _ => rfl), Or.inl ⟨rfl, aw_in 704 (by decide +kernel) rfl⟩⟩
theorem gX5_19 : aw_fl RX5 19 5 3 true false := ⟨RX5, TX5, 35, kX5, Nat.le_of_ble_eq_true rfl, rfl, (fun _ => rfl), Or.inl ⟨rfl, aw_in 705 (by decide +kernel) rfl⟩⟩
theorem gX5_22 : aw_fl RX5 22 5 4 true false := ⟨RX5, TX5, 35, kX5, Nat.le_of_ble_eq_true rfl, rfl, (fun _ => rfl), Or.inl ⟨rfl, aw_in 706 (by decide +kernel) rfl⟩⟩
theorem gX5_25 : aw_fl RX5 25 5 5 true false := ⟨RX5, TX5, 35, kX5, Nat.le_of_ble_eq_true rfl, rfl, (fun _ => rfl), Or.inl ⟨rfl, aw_in 707 (by decide +kernel) rfl⟩⟩
theorem gX5_28 : aw_fl RX5 28 5 6 true false := ⟨RX5, TX5, 35, kX5, Nat.le_of_ble_eq_true rfl, rfl, (fun _ => rfl), Or.inl ⟨rfl, aw_in 708 (by decide +kernel) rfl⟩⟩
theorem gX5_31 : aw_fl RX5 31 5 7 true false := ⟨RX5, TX5, 35, kX5, Nat.le_of_ble_eq_true rfl, rfl, (fun _ => rfl), Or.inl ⟨rfl, aw_in 709 (by decide +kernel) rfl⟩⟩
theorem gX5_34 : aw_fl RX5 34 5 8 true false := ⟨RX5, TX5, 35, kX5, Nat.le_of_ble_eq_true rfl, rfl, (fun _ => rfl), Or.inl ⟨rfl, aw_in 710 (by decide +kernel) rfl⟩⟩
theorem gX5_37 : aw_fl RX5 37 5 9 true false := ⟨RX5, TX5, 35, kX5, Nat.le_of_ble_eq_true rfl, rfl, (fun _ => rfl), Or.inl ⟨rfl, aw_in 711 (by decide +kernel) rfl⟩⟩
theorem gX5_40 : aw_fl RX5 40 5 10 true false := ⟨RX5, TX5, 35, kX5, Nat.le_of_ble_eq_true rfl, rfl, (fun _ => rfl), Or.inl ⟨rfl, aw_in 712 (by decide +kernel) rfl⟩⟩
theorem gX5_43 : aw_fl RX5 43 5 11 true false := ⟨RX5, TX5, 35, kX5, Nat.le_of_ble_eq_true rfl, rfl, (fun _ => rfl), Or.inl ⟨rfl, aw_in 713 (by decide +kernel) rfl⟩⟩
theorem gX5_46 : aw_fl RX5 46 5 12 false false := ⟨RX5, TX5, 35, kX5, Nat.le_of_ble_eq_true rfl, rfl, (fun h => by cases h), Or.inl ⟨rfl, aw_in 714 (by decide +kernel) rfl⟩⟩
theorem gX5_78 : aw_fl RX5 78 5 13 false false := ⟨RX5, TX5, 35, kX5, Nat.le_of_ble_eq_true rfl, rfl, (fun h => by cases h), Or.inl ⟨rfl, aw_in 715 (by decide +kernel) rfl⟩⟩
theorem gX5_50 : aw_fl RX5 50 5 14 false false := ⟨RX5, TX5, 35, kX5, Nat.le_of_ble_eq_true rfl, rfl, (fun h => by cases h), Or.inl ⟨rfl, aw_in 716 (by decide +kernel) rfl⟩⟩
theorem gX5_161 : aw_fl RX5 161 5 15 false false := ⟨RX5, TX5, 35, kX5, Nat.le_of_ble_eq_true rfl, rfl, (fun h => by cases h), Or.inl ⟨rfl, aw_in 717 (by decide +kernel) rfl⟩⟩
theorem gX5_53 : aw_fl RX5 53 5 16 true false := ⟨RX5, TX5, 35, kX5, Nat.le_of_ble_eq_true rfl, rfl, (fun _ => rfl), Or.inl ⟨rfl, aw_in 718 (by decide +kernel) rfl⟩⟩
theorem gX5_56 : aw_fl RX5 56 5 17 true false := ⟨RX5, TX5, 35, kX5, Nat.le_of_ble_eq_true rfl, rfl, (fun _ => rfl), Or.inl ⟨rfl, aw_in 719 (by decide +kernel) rfl⟩⟩
theorem gX5_59 : aw_fl RX5 59 5 18 true false := ⟨RX5, TX5, 35, kX5, Nat.le_of_ble_eq_true rfl, rfl, (fun _ => rfl), Or.inl ⟨rfl, aw_in 720 (by decide +kernel) rfl⟩⟩
theorem gX5_62 : aw_fl RX5 62 5 19 true false := ⟨RX5, TX5, 35, kX5, Nat.le_of_ble_eq_true rfl, rfl, (fun _ => rfl), Or.inl ⟨rfl, aw_in 721 (by decide +kernel) rfl⟩⟩
theorem gX5_89 : aw_fl RX5 89 5 20 false false := ⟨RX5, TX5, 35, kX5, Nat.le_of_ble_eq_true rfl, rfl, (fun h => by cases h), Or.inl ⟨rfl, aw_in 722 (by decide +kernel) rfl⟩⟩
theorem gX5_96 : aw_fl RX5 96 5 21 false false := ⟨RX5, TX5, 35, kX5, Nat.le_of_ble_eq_true rfl, rfl, (fun h => by cases h), Or.inl ⟨rfl, aw_in 723 (by decide +kernel) rfl⟩⟩
theorem gX5_110 : aw_fl RX5 110 5 22 false false := ⟨RX5, TX5, 35, kX5, Nat.le_of_ble_eq_true rfl, rfl, (fun h => by cases h), Or.inl ⟨rfl, aw_in 724 (by decide +kernel) rfl⟩⟩
theorem gX5_65 : aw_fl RX5 65 5 23 true false := ⟨RX5, TX5, 35, kX5, Nat.le_of_ble_eq_true rfl, rfl, (fun _ => rfl), Or.inl ⟨rfl, aw_in 725 (by decide +kernel) rfl⟩⟩
theorem gX5_164 : aw_fl RX5 164 5 24 false false := ⟨RX5, TX5, 35, kX5, Nat.le_of_ble_eq_true rfl, rfl, (fun h => by cases h), Or.inl ⟨rfl, aw_in 726 (by decide +kernel) rfl⟩⟩
theorem gX5_147 : aw_fl RX5 147 5 25 false false := ⟨RX5, TX5, 35, kX5, Nat.le_of_ble_eq_true rfl, rfl, (fun h => by cases h), Or.inl ⟨rfl, aw_in 727 (by decide +kernel) rfl⟩⟩
theorem gX5_151 : aw_fl RX5 151 5 26 false false := ⟨RX5, TX5, 35, kX5, Nat.le_of_ble_eq_true rfl, rfl, (fun h => by cases h), Or.inl ⟨rfl, aw_in 728 (by decide +kernel) rfl⟩⟩
theorem gX5_195 : aw_fl RX5 195 5 27 false false := ⟨RX5, TX5, 35, kX5, Nat.le_of_ble_eq_true rfl, rfl, (fun h => by cases h), Or.inl ⟨rfl, aw_in 729 (by decide +kernel) rfl⟩⟩
theorem gX5_198 : aw_fl RX5 198 5 28 false false := ⟨RX5, TX5, 35, kX5, Nat.le_of_ble_eq_true rfl, rfl, (fun h => by cases h), Or.inl ⟨rfl, aw_in 730 (by decide +kernel) rfl⟩⟩
theorem gX5_68 : aw_fl RX5 68 5 29 true false := ⟨RX5, TX5, 35, kX5, Nat.le_of_ble_eq_true rfl, rfl, (fun _ => rfl), Or.inl ⟨rfl, aw_in 731 (by decide +kernel) rfl⟩⟩
theorem gX5_213 : aw_fl RX5 213 5 30 false false := ⟨RX5, TX5, 35, kX5, Nat.le_of_ble_eq_true rfl, rfl, (fun h => by cases h), Or.inl ⟨rfl, aw_in 732 (by decide +kernel) rfl⟩⟩
theorem gX5_71 : aw_fl RX5 71 5 31 true false := ⟨RX5, TX5, 35, kX5, Nat.le_of_ble_eq_true rfl, rfl, (fun _ => rfl), Or.inl ⟨rfl, aw_in 733 (by decide +kernel) rfl⟩⟩
theorem gX5_228 : aw_fl RX5 228 5 32 false false := ⟨RX5, TX5, 35, kX5, Nat.le_of_ble_eq_true rfl, rfl, (fun h => by cases h), Or.inl ⟨rfl, aw_in 734 (by decide +kernel) rfl⟩⟩
theorem gX5_74 : aw_fl RX5 74 5 33 true false := ⟨RX5, TX5, 35, kX5, Nat.le_of_ble_eq_true rfl, rfl, (fun _ => rfl), Or.inl ⟨rfl, aw_in 735 (by decide +kernel) rfl⟩⟩
theorem gX5_255 : aw_fl RX5 255 5 34 false false := ⟨RX5, TX5, 35, kX5, Nat.le_of_ble_eq_true rfl, rfl, (fun h => by cases h), Or.inl ⟨rfl, aw_in 736 (by decide +kernel) rfl⟩⟩
theorem lL_17 : aw_ml RL 17 yX5_feed := Or.inl (aw_in 808 (by decide +kernel) rfl)
theorem lX5_85 : aw_ml RX5 85 yX5_bound := Or.inl (aw_in 812 (by decide +kernel) rfl)
theorem lX5_92 : aw_ml RX5 92 yX5_no := Or.inl (aw_in 815 (by decide +kernel) rfl)
theorem lL_22 : aw_ml RL 22 yX5_river := Or.inl (aw_in 819 (by decide +kernel) rfl)
theorem lX5_136 : aw_ml RX5 136 yX5_statement := Or.inl (aw_in 823 (by decide +kernel) rfl)
theorem lX5_99 : aw_ml RX5 99 yX5_next := Or.inl (aw_in 827 (by decide +kernel) rfl)
theorem lX5_107 : aw_ml RX5 107 yX5_onesOf := Or.inl (aw_in 831 (by decide +kernel) rfl)
theorem lX5_113 : aw_ml RX5 113 yX5_readsNumber := Or.inl (aw_in 834 (by decide +kernel) rfl)
theorem lX5_103 : aw_ml RX5 103 yX5_isIn := Or.inl (aw_in 838 (by decide +kernel) rfl)
theorem lX5_140 : aw_ml RX5 140 yX5_passesAll := Or.inl (aw_in 841 (by decide +kernel) rfl)
theorem lX5_154 : aw_ml RX5 154 yX5_passes := Or.inl (aw_in 845 (by decide +kernel) rfl)
theorem lX5_158 : aw_ml RX5 158 yX5_passOne := Or.inl (aw_in 849 (by decide +kernel) rfl)
theorem lX5_144 : aw_ml RX5 144 yX5_comes := Or.inl (aw_in 853 (by decide +kernel) rfl)
theorem lX5_120 : aw_ml RX5 120 yX5_begins := Or.inl (aw_in 857 (by decide +kernel) rfl)
theorem lX5_123 : aw_ml RX5 123 yX5_isYard := Or.inl (aw_in 861 (by decide +kernel) rfl)
theorem lX5_126 : aw_ml RX5 126 yX5_comesOne := Or.inl (aw_in 865 (by decide +kernel) rfl)
theorem lX5_129 : aw_ml RX5 129 yX5_areTwo := Or.inl (aw_in 869 (by decide +kernel) rfl)
theorem lX5_81 : aw_ml RX5 81 yX5_isOne := Or.inl (aw_in 873 (by decide +kernel) rfl)
theorem lX5_132 : aw_ml RX5 132 yX5_sets := Or.inl (aw_in 877 (by decide +kernel) rfl)
theorem lX5_117 : aw_ml RX5 117 yX5_yardOf := Or.inl (aw_in 881 (by decide +kernel) rfl)
theorem lL_128 : aw_ml RL 128 yX5_image := Or.inl (aw_in 885 (by decide +kernel) rfl)
theorem lL_132 : aw_ml RL 132 yX5_restore := Or.inl (aw_in 889 (by decide +kernel) rfl)
theorem lL_27 : aw_ml RL 27 yX5_yard := Or.inl (aw_in 893 (by decide +kernel) rfl)
theorem lL_31 : aw_ml RL 31 yX5_person := Or.inl (aw_in 897 (by decide +kernel) rfl)
theorem lX5_167 : aw_ml RX5 167 yX5_reachOf := Or.inl (aw_in 901 (by decide +kernel) rfl)
theorem lX5_170 : aw_ml RX5 170 yX5_holdOf := Or.inl (aw_in 905 (by decide +kernel) rfl)
theorem lX5_173 : aw_ml RX5 173 yX5_coolOf := Or.inl (aw_in 909 (by decide +kernel) rfl)
theorem lL_35 : aw_ml RL 35 yX5_grudge := Or.inl (aw_in 913 (by decide +kernel) rfl)
theorem lL_40 : aw_ml RL 40 yX5_quarrel := Or.inl (aw_in 917 (by decide +kernel) rfl)
theorem lL_44 : aw_ml RL 44 yX5_cold := Or.inl (aw_in 921 (by decide +kernel) rfl)
theorem lL_48 : aw_ml RL 48 yX5_put := Or.inl (aw_in 925 (by decide +kernel) rfl)
theorem lL_52 : aw_ml RL 52 yX5_out := Or.inl (aw_in 929 (by decide +kernel) rfl)
theorem lX5_176 : aw_ml RX5 176 yX5_wetMany := Or.inl (aw_in 933 (by decide +kernel) rfl)
theorem lX5_179 : aw_ml RX5 179 yX5_overMany := Or.inl (aw_in 937 (by decide +kernel) rfl)
theorem lL_56 : aw_ml RL 56 yX5_load := Or.inl (aw_in 941 (by decide +kernel) rfl)
theorem lX5_186 : aw_ml RX5 186 yX5_loadOf := Or.inl (aw_in 945 (by decide +kernel) rfl)
theorem lX5_182 : aw_ml RX5 182 yX5_least := Or.inl (aw_in 949 (by decide +kernel) rfl)
theorem lL_60 : aw_ml RL 60 yX5_slips := Or.inl (aw_in 952 (by decide +kernel) rfl)
theorem lX5_204 : aw_ml RX5 204 yX5_findSlip := Or.inl (aw_in 956 (by decide +kernel) rfl)
theorem lX5_201 : aw_ml RX5 201 yX5_slipsIn := Or.inl (aw_in 960 (by decide +kernel) rfl)
theorem lX5_189 : aw_ml RX5 189 yX5_doesReach := Or.inl (aw_in 964 (by decide +kernel) rfl)
theorem lX5_192 : aw_ml RX5 192 yX5_doesHold := Or.inl (aw_in 968 (by decide +kernel) rfl)
theorem lL_64 : aw_ml RL 64 yX5_lasts := Or.inl (aw_in 972 (by decide +kernel) rfl)
theorem lX5_207 : aw_ml RX5 207 yX5_doesStand := Or.inl (aw_in 976 (by decide +kernel) rfl)
theorem lX5_210 : aw_ml RX5 210 yX5_lastsNow := Or.inl (aw_in 980 (by decide +kernel) rfl)
theorem lL_68 : aw_ml RL 68 yX5_cross := Or.inl (aw_in 984 (by decide +kernel) rfl)
theorem lL_72 : aw_ml RL 72 yX5_chains := Or.inl (aw_in 988 (by decide +kernel) rfl)
theorem lX5_219 : aw_ml RX5 219 yX5_putsAway := Or.inl (aw_in 992 (by decide +kernel) rfl)
theorem lX5_222 : aw_ml RX5 222 yX5_nextChain := Or.inl (aw_in 996 (by decide +kernel) rfl)
theorem lX5_216 : aw_ml RX5 216 yX5_areUnlike := Or.inl (aw_in 1000 (by decide +kernel) rfl)
theorem lX5_225 : aw_ml RX5 225 yX5_putsBack := Or.inl (aw_in 1004 (by decide +kernel) rfl)
theorem lL_76 : aw_ml RL 76 yX5_longest := Or.inl (aw_in 1008 (by decide +kernel) rfl)
theorem lX5_231 : aw_ml RX5 231 yX5_findLongest := Or.inl (aw_in 1012 (by decide +kernel) rfl)
theorem lL_80 : aw_ml RL 80 yX5_makeUp := Or.inl (aw_in 1016 (by decide +kernel) rfl)
theorem lX5_234 : aw_ml RX5 234 yX5_grudgesIn := Or.inl (aw_in 1020 (by decide +kernel) rfl)
theorem lL_84 : aw_ml RL 84 yX5_worth := Or.inl (aw_in 1024 (by decide +kernel) rfl)
theorem lX5_237 : aw_ml RX5 237 yX5_longestOrNothing := Or.inl (aw_in 1028 (by decide +kernel) rfl)
theorem lL_88 : aw_ml RL 88 yX5_change := Or.inl (aw_in 1032 (by decide +kernel) rfl)
theorem lL_92 : aw_ml RL 92 yX5_flood := Or.inl (aw_in 1036 (by decide +kernel) rfl)
theorem lL_96 : aw_ml RL 96 yX5_overs := Or.inl (aw_in 1040 (by decide +kernel) rfl)
theorem lL_100 : aw_ml RL 100 yX5_owes := Or.inl (aw_in 1044 (by decide +kernel) rfl)
theorem lL_104 : aw_ml RL 104 yX5_owed := Or.inl (aw_in 1048 (by decide +kernel) rfl)
theorem lX5_240 : aw_ml RX5 240 yX5_lower := Or.inl (aw_in 1052 (by decide +kernel) rfl)
theorem nX5_77 : Cond.constant RX5 77 (1000000000) ∈ aw_gt := aw_in 1056 (by decide +kernel) rfl
theorem lL_108 : aw_ml RL 108 yX5_strike := Or.inl (aw_in 1057 (by decide +kernel) rfl)
theorem lX5_246 : aw_ml RX5 246 yX5_strikesTwo := Or.inl (aw_in 1061 (by decide +kernel) rfl)
theorem lX5_243 : aw_ml RX5 243 yX5_doesOwe := Or.inl (aw_in 1065 (by decide +kernel) rfl)
theorem lX5_249 : aw_ml RX5 249 yX5_strikesThree := Or.inl (aw_in 1069 (by decide +kernel) rfl)
theorem lL_112 : aw_ml RL 112 yX5_wet := Or.inl (aw_in 1073 (by decide +kernel) rfl)
theorem lX5_252 : aw_ml RX5 252 yX5_areDry := Or.inl (aw_in 1077 (by decide +kernel) rfl)
theorem lL_116 : aw_ml RL 116 yX5_row := Or.inl (aw_in 1081 (by decide +kernel) rfl)
theorem lL_120 : aw_ml RL 120 yX5_judge := Or.inl (aw_in 1085 (by decide +kernel) rfl)
theorem lL_124 : aw_ml RL 124 yX5_seeds := Or.inl (aw_in 1089 (by decide +kernel) rfl)
theorem nX5_258 : Cond.constant RX5 258 (1103515245) ∈ aw_gt := aw_in 1093 (by decide +kernel) rfl
theorem nX5_259 : Cond.constant RX5 259 (2147483647) ∈ aw_gt := aw_in 1094 (by decide +kernel) rfl
theorem nX5_260 : Cond.constant RX5 260 (65536) ∈ aw_gt := aw_in 1095 (by decide +kernel) rfl
theorem lL_136 : aw_ml RL 136 yX5_count := Or.inl (aw_in 1096 (by decide +kernel) rfl)
theorem lX5_261 : aw_ml RX5 261 yX5_sumOf := Or.inl (aw_in 1100 (by decide +kernel) rfl)
theorem amax_1 : Cond.static Lib.Math.max.name ∈ aw_gt := aw_in 424 (by decide +kernel) rfl
theorem amax_3 : Cond.code Lib.Math.max.name Lib.Math.max.code 2 (some .int) ∈ aw_gt := aw_in 425 (by decide +kernel) rfl
theorem amin_1 : Cond.static Lib.Math.min.name ∈ aw_gt := aw_in 476 (by decide +kernel) rfl
theorem amin_3 : Cond.code Lib.Math.min.name Lib.Math.min.code 2 (some .int) ∈ aw_gt := aw_in 477 (by decide +kernel) rfl
theorem acopy_1 : Cond.native arraycopyName ∈ aw_gt := aw_in 336 (by decide +kernel) rfl
theorem acopy_2 : Cond.static arraycopyName ∈ aw_gt := aw_in 335 (by decide +kernel) rfl
theorem aobj_2 : Cond.instanceMethod objectInit ∈ aw_gt := aw_in 114 (by decide +kernel) rfl
theorem aobj_3 : Cond.code objectInit ⟨#[0xb1]⟩ 1 none ∈ aw_gt := aw_in 115 (by decide +kernel) rfl
end
section
/-! ===== where the cells lie: OverByTheHand 0, rivers 1 15 29, Letters 43, Mind 45, Model 53 ===== -/
def sh0 : List (Nat × Nat) := [(6, 9), (5, 10), (0, 5), (0, 5), (0, 5), (1, 7), (0, 7), (0, 49), (4, 6), (4, 6), (4, 6), (4, 6), (4, 6), (4, 6), (4, 6), (5, 10), (0, 5), (0, 5), (0, 5), (1, 7), (0, 7), (0, 49), (4, 6), (4, 6), (4, 6), (4, 6), (4, 6), (4, 6), (4, 6), (5, 10), (0, 5), (0, 5), (0, 5), (1, 7), (0, 7), (0, 49), (4, 6), (4, 6), (4, 6), (4, 6), (4, 6), (4, 6), (4, 6), (2, 2), (0, 80), (3, 8), (0, 5), (0, 5), (0, 7), (0, 5), (0, 7), (0, 5), (0, 7), (7, 35), (0, 7), (0, 5), (0, 5), (0, 5), (0, 7), (0, 7), (0, 7), (0, 7), (0, 7), (0, 7), (0, 49), (0, 49), (0, 80), (0, 40), (0, 40), (0, 200), (0, 340), (0, 5), (0, 5), (0, 5)]
def rf0 : List (Nat × Nat × Nat) := [(1, 4, 2), (1, 5, 3), (1, 6, 4), (1, 7, 5), (1, 8, 6), (1, 9, 7), (5, 0, 8), (5, 1, 9), (5, 2, 10), (5, 3, 11), (5, 4, 12), (5, 5, 13), (5, 6, 14), (0, 0, 1), (15, 4, 16), (15, 5, 17), (15, 6, 18), (15, 7, 19), (15, 8, 20), (15, 9, 21), (19, 0, 22), (19, 1, 23), (19, 2, 24), (19, 3, 25), (19, 4, 26), (19, 5, 27), (19, 6, 28), (0, 1, 15), (29, 4, 30), (29, 5, 31), (29, 6, 32), (29, 7, 33), (29, 8, 34), (29, 9, 35), (33, 0, 36), (33, 1, 37), (33, 2, 38), (33, 3, 39), (33, 4, 40), (33, 5, 41), (33, 6, 42), (0, 2, 29), (43, 0, 44), (0, 4, 43), (45, 0, 46), (45, 1, 47), (45, 2, 48), (45, 5, 49), (45, 7, 50), (0, 5, 45), (0, 6, 51), (0, 8, 52), (53, 0, 54), (53, 1, 55), (53, 2, 56), (53, 3, 57), (53, 4, 58), (53, 5, 59), (53, 6, 60), (53, 7, 61), (53, 8, 62), (53, 9, 63), (53, 10, 64), (53, 11, 65), (53, 16, 66), (53, 17, 67), (53, 18, 68), (53, 19, 69), (53, 23, 70), (53, 29, 71), (53, 31, 72), (53, 33, 73)]
def LAY (T : TT) : Prop := T.1 = sh0 ∧ ∀ q ∈ rf0, T.2 q.1 q.2.1 = some q.2.2
theorem lay_s {T : TT} (h : LAY T) {k : Nat} {q : Nat × Nat} (hk : sh0[k]? = some q) : T.1[k]? = some q := by rw [h.1]; exact hk
theorem lay_r {T : TT} (h : LAY T) (i : Nat) {k j p : Nat} (hk : rf0[i]? = some (k, j, p)) : T.2 k j = some p := h.2 (k, j, p) (List.mem_of_getElem? hk)
def RV (T : TT) (r : Nat) : Prop := T.1[r]? = some (5, 10) ∧ (T.1[r + 1]? = some (0, 5) ∧ T.1[r + 2]? = some (0, 5) ∧ T.1[r + 3]? = some (0, 5) ∧ T.1[r + 4]? = some (1, 7) ∧ T.1[r + 5]? = some (0, 7) ∧ T.1[r + 6]? = some (0, 49)) ∧ (∀ i, i < 7 → T.1[r + 7 + i]? = some (4, 6)) ∧ (T.2 r 4 = some (r + 1) ∧ T.2 r 5 = some (r + 2) ∧ T.2 r 6 = some (r + 3) ∧ T.2 r 7 = some (r + 4) ∧ T.2 r 8 = some (r + 5) ∧ T.2 r 9 = some (r + 6)) ∧ ∀ i, i < 7 → T.2 (r + 4) i = some (r + 7 + i)
theorem rv_0 {T : TT} {r : Nat} (h : RV T r) : T.1[r]? = some (5, 10) := h.1
theorem rv_1 {T : TT} {r : Nat} (h : RV T r) : T.1[r + 1]? = some (0, 5) := h.2.1.1
theorem rv_2 {T : TT} {r : Nat} (h : RV T r) : T.1[r + 2]? = some (0, 5) := h.2.1.2.1
theorem rv_3 {T : TT} {r : Nat} (h : RV T r) : T.1[r + 3]? = some (0, 5) := h.2.1.2.2.1
theorem rv_4 {T : TT} {r : Nat} (h : RV T r) : T.1[r + 4]? = some (1, 7) := h.2.1.2.2.2.1
theorem rv_5 {T : TT} {r : Nat} (h : RV T r) : T.1[r + 5]? = some (0, 7) := h.2.1.2.2.2.2.1
theorem rv_6 {T : TT} {r : Nat} (h : RV T r) : T.1[r + 6]? = some (0, 49) := h.2.1.2.2.2.2.2
theorem rv_p {T : TT} {r : Nat} (h : RV T r) {i : Nat} (hi : i < 7) : T.1[r + 7 + i]? = some (4, 6) := h.2.2.1 i hi
theorem rv_f4 {T : TT} {r : Nat} (h : RV T r) : T.2 r 4 = some (r + 1) := h.2.2.2.1.1
theorem rv_f5 {T : TT} {r : Nat} (h : RV T r) : T.2 r 5 = some (r + 2) := h.2.2.2.1.2.1
theorem rv_f6 {T : TT} {r : Nat} (h : RV T r) : T.2 r 6 = some (r + 3) := h.2.2.2.1.2.2.1
theorem rv_f7 {T : TT} {r : Nat} (h : RV T r) : T.2 r 7 = some (r + 4) := h.2.2.2.1.2.2.2.1
theorem rv_f8 {T : TT} {r : Nat} (h : RV T r) : T.2 r 8 = some (r + 5) := h.2.2.2.1.2.2.2.2.1
theorem rv_f9 {T : TT} {r : Nat} (h : RV T r) : T.2 r 9 = some (r + 6) := h.2.2.2.1.2.2.2.2.2
theorem rv_q {T : TT} {r : Nat} (h : RV T r) {i : Nat} (hi : i < 7) : T.2 (r + 4) i = some (r + 7 + i) := h.2.2.2.2 i hi
theorem lt7 {P : Nat → Prop} (h0 : P 0) (h1 : P 1) (h2 : P 2) (h3 : P 3) (h4 : P 4) (h5 : P 5) (h6 : P 6) : ∀ i, i < 7 → P i := by
  intro i hi
  match i, hi with
  | 0, _ => exact h0
  | 1, _ => exact h1
  | 2, _ => exact h2
  | 3, _ => exact h3
  | 4, _ => exact h4
  | 5, _ => exact h5
  | 6, _ => exact h6
  | n + 7, h => exact absurd h (by omega)
theorem lay_rv1 {T : TT} (h : LAY T) : RV T 1 := ⟨lay_s h rfl, ⟨lay_s h rfl, lay_s h rfl, lay_s h rfl, lay_s h rfl, lay_s h rfl, lay_s h rfl⟩, lt7 (lay_s h rfl) (lay_s h rfl) (lay_s h rfl) (lay_s h rfl) (lay_s h rfl) (lay_s h rfl) (lay_s h rfl), ⟨lay_r h 0 rfl, lay_r h 1 rfl, lay_r h 2 rfl, lay_r h 3 rfl, lay_r h 4 rfl, lay_r h 5 rfl⟩, lt7 (lay_r h 6 rfl) (lay_r h 7 rfl) (lay_r h 8 rfl) (lay_r h 9 rfl) (lay_r h 10 rfl) (lay_r h 11 rfl) (lay_r h 12 rfl)⟩
theorem lay_rv15 {T : TT} (h : LAY T) : RV T 15 := ⟨lay_s h rfl, ⟨lay_s h rfl, lay_s h rfl, lay_s h rfl, lay_s h rfl, lay_s h rfl, lay_s h rfl⟩, lt7 (lay_s h rfl) (lay_s h rfl) (lay_s h rfl) (lay_s h rfl) (lay_s h rfl) (lay_s h rfl) (lay_s h rfl), ⟨lay_r h 14 rfl, lay_r h 15 rfl, lay_r h 16 rfl, lay_r h 17 rfl, lay_r h 18 rfl, lay_r h 19 rfl⟩, lt7 (lay_r h 20 rfl) (lay_r h 21 rfl) (lay_r h 22 rfl) (lay_r h 23 rfl) (lay_r h 24 rfl) (lay_r h 25 rfl) (lay_r h 26 rfl)⟩
theorem lay_rv29 {T : TT} (h : LAY T) : RV T 29 := ⟨lay_s h rfl, ⟨lay_s h rfl, lay_s h rfl, lay_s h rfl, lay_s h rfl, lay_s h rfl, lay_s h rfl⟩, lt7 (lay_s h rfl) (lay_s h rfl) (lay_s h rfl) (lay_s h rfl) (lay_s h rfl) (lay_s h rfl) (lay_s h rfl), ⟨lay_r h 28 rfl, lay_r h 29 rfl, lay_r h 30 rfl, lay_r h 31 rfl, lay_r h 32 rfl, lay_r h 33 rfl⟩, lt7 (lay_r h 34 rfl) (lay_r h 35 rfl) (lay_r h 36 rfl) (lay_r h 37 rfl) (lay_r h 38 rfl) (lay_r h 39 rfl) (lay_r h 40 rfl)⟩
theorem vpin_lt {i : Int32} {n : Nat} (h : vp_in i n) : i.toNatClampNeg < n := Nat.not_le.mp fun q => h (Or.inr q)
def QS (T : TT) (v : Int32) (u1 : MU) : QQ := fun a T' w => a = some v ∧ T' = T ∧ w = u1
def QV (T : TT) (u1 : MU) : QQ := fun a T' w => a = none ∧ T' = T ∧ w = u1
theorem A_fgt (i : Nat) {G : GG} {d : Nat} {mi : MI} {pc : Nat} {L L' st : List Value} {T : TT} {u : MU} {kc ks : Nat} {Q : QQ} (hL' : L.set i .null = L') (h : AW G d mi pc L' st T u kc ks Q) : AW G d mi pc L st T u kc ks Q := by
  intro p l e R s m args below meth c H locs cells slots A ad ls Qm hC hX hR hL hoL hoS hk hA hret
  subst hL'
  refine h p l e R s m args below meth c H locs cells slots A ad ls Qm hC hX hR ⟨by rw [List.length_set]; exact hL.1, hL.2.1, hL.2.2.1, fun j v hj hv => ?_⟩ (aw_okl_set hoL trivial) hoS hk hA hret
  by_cases hji : i = j
  · subst hji
    have hl : i < L.length := by
      have := (List.getElem?_eq_some_iff.mp hj).1
      rwa [List.length_set] at this
    rw [List.getElem?_set_self hl] at hj
    cases hj
    simp [aw_sv] at hv
  · rw [List.getElem?_set_ne hji] at hj
    exact hL.2.2.2 j v hj hv
theorem A_cV0i {G : GG} {d : Nat} {mi mi2 : MI} {pc : Nat} {L rest L0 : List Value} {T : TT} {u u1 : MU} {kc ks idx : Nat} {Q : QQ} {v : Int32} (hd : decode mi.2.1 pc = .ok (.invokevirtual idx, 3)) (hl : aw_ml mi.1.cls idx mi2.1) (hf : aw_mf mi2 0) (hm : aw_mV mi2) {k ci N N2 : Nat} {F : u_T} (hq : T.1[k]? = some (ci + 2, N)) (hcl : vwCl[ci]? = some (mi2.1.cls, F, N2)) (hr : rest.length ≤ 8) (hL0 : L0 = (.ref k :: []) ++ List.replicate (mi2.2.2.1 - 1) Value.null) (hlen : 1 ≤ mi2.2.2.1) (hM : AW G d mi2 0 L0 [] T u 0 0 (QS T v u1)) (kk : AW G (d + 1) mi (pc + 3) L (.int v :: rest) T u1 kc ks Q) : AW G (d + 1) mi pc L (.ref k :: rest) T u kc ks Q := by
  have h := A_callV (kc0 := 0) (ks0 := 0) (kc := kc) (ks := ks) (Q := Q) (L := L) (rest := rest) (As := []) hd hl hf hm hq hcl rfl rfl hr hL0 hlen hM (fun r T' u' hq2 => by obtain ⟨rfl, rfl, rfl⟩ := hq2; exact kk)
  rwa [Nat.zero_add, Nat.zero_add] at h
theorem A_cV0v {G : GG} {d : Nat} {mi mi2 : MI} {pc : Nat} {L rest L0 : List Value} {T : TT} {u u1 : MU} {kc ks idx : Nat} {Q : QQ} (hd : decode mi.2.1 pc = .ok (.invokevirtual idx, 3)) (hl : aw_ml mi.1.cls idx mi2.1) (hf : aw_mf mi2 0) (hm : aw_mV mi2) {k ci N N2 : Nat} {F : u_T} (hq : T.1[k]? = some (ci + 2, N)) (hcl : vwCl[ci]? = some (mi2.1.cls, F, N2)) (hr : rest.length ≤ 8) (hL0 : L0 = (.ref k :: []) ++ List.replicate (mi2.2.2.1 - 1) Value.null) (hlen : 1 ≤ mi2.2.2.1) (hM : AW G d mi2 0 L0 [] T u 0 0 (QV T u1)) (kk : AW G (d + 1) mi (pc + 3) L rest T u1 kc ks Q) : AW G (d + 1) mi pc L (.ref k :: rest) T u kc ks Q := by
  have h := A_callV (kc0 := 0) (ks0 := 0) (kc := kc) (ks := ks) (Q := Q) (L := L) (rest := rest) (As := []) hd hl hf hm hq hcl rfl rfl hr hL0 hlen hM (fun r T' u' hq2 => by obtain ⟨rfl, rfl, rfl⟩ := hq2; exact kk)
  rwa [Nat.zero_add, Nat.zero_add] at h
theorem A_cV1i {G : GG} {d : Nat} {mi mi2 : MI} {pc : Nat} {L rest L0 : List Value} {T : TT} {u u1 : MU} {kc ks idx : Nat} {Q : QQ} {v : Int32} {a1 : Value} (hd : decode mi.2.1 pc = .ok (.invokevirtual idx, 3)) (hl : aw_ml mi.1.cls idx mi2.1) (hf : aw_mf mi2 1) (hm : aw_mV mi2) {k ci N N2 : Nat} {F : u_T} (hq : T.1[k]? = some (ci + 2, N)) (hcl : vwCl[ci]? = some (mi2.1.cls, F, N2)) (hr : rest.length ≤ 8) (hL0 : L0 = (.ref k :: [a1]) ++ List.replicate (mi2.2.2.1 - 2) Value.null) (hlen : 2 ≤ mi2.2.2.1) (hM : AW G d mi2 0 L0 [] T u 0 0 (QS T v u1)) (kk : AW G (d + 1) mi (pc + 3) L (.int v :: rest) T u1 kc ks Q) : AW G (d + 1) mi pc L (a1 :: .ref k :: rest) T u kc ks Q := by
  have h := A_callV (kc0 := 0) (ks0 := 0) (kc := kc) (ks := ks) (Q := Q) (L := L) (rest := rest) (As := [a1]) hd hl hf hm hq hcl rfl rfl hr hL0 hlen hM (fun r T' u' hq2 => by obtain ⟨rfl, rfl, rfl⟩ := hq2; exact kk)
  rwa [Nat.zero_add, Nat.zero_add] at h
theorem A_cV1v {G : GG} {d : Nat} {mi mi2 : MI} {pc : Nat} {L rest L0 : List Value} {T : TT} {u u1 : MU} {kc ks idx : Nat} {Q : QQ} {a1 : Value} (hd : decode mi.2.1 pc = .ok (.invokevirtual idx, 3)) (hl : aw_ml mi.1.cls idx mi2.1) (hf : aw_mf mi2 1) (hm : aw_mV mi2) {k ci N N2 : Nat} {F : u_T} (hq : T.1[k]? = some (ci + 2, N)) (hcl : vwCl[ci]? = some (mi2.1.cls, F, N2)) (hr : rest.length ≤ 8) (hL0 : L0 = (.ref k :: [a1]) ++ List.replicate (mi2.2.2.1 - 2) Value.null) (hlen : 2 ≤ mi2.2.2.1) (hM : AW G d mi2 0 L0 [] T u 0 0 (QV T u1)) (kk : AW G (d + 1) mi (pc + 3) L rest T u1 kc ks Q) : AW G (d + 1) mi pc L (a1 :: .ref k :: rest) T u kc ks Q := by
  have h := A_callV (kc0 := 0) (ks0 := 0) (kc := kc) (ks := ks) (Q := Q) (L := L) (rest := rest) (As := [a1]) hd hl hf hm hq hcl rfl rfl hr hL0 hlen hM (fun r T' u' hq2 => by obtain ⟨rfl, rfl, rfl⟩ := hq2; exact kk)
  rwa [Nat.zero_add, Nat.zero_add] at h
theorem A_cV2i {G : GG} {d : Nat} {mi mi2 : MI} {pc : Nat} {L rest L0 : List Value} {T : TT} {u u1 : MU} {kc ks idx : Nat} {Q : QQ} {v : Int32} {a1 a2 : Value} (hd : decode mi.2.1 pc = .ok (.invokevirtual idx, 3)) (hl : aw_ml mi.1.cls idx mi2.1) (hf : aw_mf mi2 2) (hm : aw_mV mi2) {k ci N N2 : Nat} {F : u_T} (hq : T.1[k]? = some (ci + 2, N)) (hcl : vwCl[ci]? = some (mi2.1.cls, F, N2)) (hr : rest.length ≤ 8) (hL0 : L0 = (.ref k :: [a1, a2]) ++ List.replicate (mi2.2.2.1 - 3) Value.null) (hlen : 3 ≤ mi2.2.2.1) (hM : AW G d mi2 0 L0 [] T u 0 0 (QS T v u1)) (kk : AW G (d + 1) mi (pc + 3) L (.int v :: rest) T u1 kc ks Q) : AW G (d + 1) mi pc L (a2 :: a1 :: .ref k :: rest) T u kc ks Q := by
  have h := A_callV (kc0 := 0) (ks0 := 0) (kc := kc) (ks := ks) (Q := Q) (L := L) (rest := rest) (As := [a1, a2]) hd hl hf hm hq hcl rfl rfl hr hL0 hlen hM (fun r T' u' hq2 => by obtain ⟨rfl, rfl, rfl⟩ := hq2; exact kk)
  rwa [Nat.zero_add, Nat.zero_add] at h
theorem A_cV2v {G : GG} {d : Nat} {mi mi2 : MI} {pc : Nat} {L rest L0 : List Value} {T : TT} {u u1 : MU} {kc ks idx : Nat} {Q : QQ} {a1 a2 : Value} (hd : decode mi.2.1 pc = .ok (.invokevirtual idx, 3)) (hl : aw_ml mi.1.cls idx mi2.1) (hf : aw_mf mi2 2) (hm : aw_mV mi2) {k ci N N2 : Nat} {F : u_T} (hq : T.1[k]? = some (ci + 2, N)) (hcl : vwCl[ci]? = some (mi2.1.cls, F, N2)) (hr : rest.length ≤ 8) (hL0 : L0 = (.ref k :: [a1, a2]) ++ List.replicate (mi2.2.2.1 - 3) Value.null) (hlen : 3 ≤ mi2.2.2.1) (hM : AW G d mi2 0 L0 [] T u 0 0 (QV T u1)) (kk : AW G (d + 1) mi (pc + 3) L rest T u1 kc ks Q) : AW G (d + 1) mi pc L (a2 :: a1 :: .ref k :: rest) T u kc ks Q := by
  have h := A_callV (kc0 := 0) (ks0 := 0) (kc := kc) (ks := ks) (Q := Q) (L := L) (rest := rest) (As := [a1, a2]) hd hl hf hm hq hcl rfl rfl hr hL0 hlen hM (fun r T' u' hq2 => by obtain ⟨rfl, rfl, rfl⟩ := hq2; exact kk)
  rwa [Nat.zero_add, Nat.zero_add] at h
theorem A_cV3i {G : GG} {d : Nat} {mi mi2 : MI} {pc : Nat} {L rest L0 : List Value} {T : TT} {u u1 : MU} {kc ks idx : Nat} {Q : QQ} {v : Int32} {a1 a2 a3 : Value} (hd : decode mi.2.1 pc = .ok (.invokevirtual idx, 3)) (hl : aw_ml mi.1.cls idx mi2.1) (hf : aw_mf mi2 3) (hm : aw_mV mi2) {k ci N N2 : Nat} {F : u_T} (hq : T.1[k]? = some (ci + 2, N)) (hcl : vwCl[ci]? = some (mi2.1.cls, F, N2)) (hr : rest.length ≤ 8) (hL0 : L0 = (.ref k :: [a1, a2, a3]) ++ List.replicate (mi2.2.2.1 - 4) Value.null) (hlen : 4 ≤ mi2.2.2.1) (hM : AW G d mi2 0 L0 [] T u 0 0 (QS T v u1)) (kk : AW G (d + 1) mi (pc + 3) L (.int v :: rest) T u1 kc ks Q) : AW G (d + 1) mi pc L (a3 :: a2 :: a1 :: .ref k :: rest) T u kc ks Q := by
  have h := A_callV (kc0 := 0) (ks0 := 0) (kc := kc) (ks := ks) (Q := Q) (L := L) (rest := rest) (As := [a1, a2, a3]) hd hl hf hm hq hcl rfl rfl hr hL0 hlen hM (fun r T' u' hq2 => by obtain ⟨rfl, rfl, rfl⟩ := hq2; exact kk)
  rwa [Nat.zero_add, Nat.zero_add] at h
theorem A_cV3v {G : GG} {d : Nat} {mi mi2 : MI} {pc : Nat} {L rest L0 : List Value} {T : TT} {u u1 : MU} {kc ks idx : Nat} {Q : QQ} {a1 a2 a3 : Value} (hd : decode mi.2.1 pc = .ok (.invokevirtual idx, 3)) (hl : aw_ml mi.1.cls idx mi2.1) (hf : aw_mf mi2 3) (hm : aw_mV mi2) {k ci N N2 : Nat} {F : u_T} (hq : T.1[k]? = some (ci + 2, N)) (hcl : vwCl[ci]? = some (mi2.1.cls, F, N2)) (hr : rest.length ≤ 8) (hL0 : L0 = (.ref k :: [a1, a2, a3]) ++ List.replicate (mi2.2.2.1 - 4) Value.null) (hlen : 4 ≤ mi2.2.2.1) (hM : AW G d mi2 0 L0 [] T u 0 0 (QV T u1)) (kk : AW G (d + 1) mi (pc + 3) L rest T u1 kc ks Q) : AW G (d + 1) mi pc L (a3 :: a2 :: a1 :: .ref k :: rest) T u kc ks Q := by
  have h := A_callV (kc0 := 0) (ks0 := 0) (kc := kc) (ks := ks) (Q := Q) (L := L) (rest := rest) (As := [a1, a2, a3]) hd hl hf hm hq hcl rfl rfl hr hL0 hlen hM (fun r T' u' hq2 => by obtain ⟨rfl, rfl, rfl⟩ := hq2; exact kk)
  rwa [Nat.zero_add, Nat.zero_add] at h
theorem A_cV4i {G : GG} {d : Nat} {mi mi2 : MI} {pc : Nat} {L rest L0 : List Value} {T : TT} {u u1 : MU} {kc ks idx : Nat} {Q : QQ} {v : Int32} {a1 a2 a3 a4 : Value} (hd : decode mi.2.1 pc = .ok (.invokevirtual idx, 3)) (hl : aw_ml mi.1.cls idx mi2.1) (hf : aw_mf mi2 4) (hm : aw_mV mi2) {k ci N N2 : Nat} {F : u_T} (hq : T.1[k]? = some (ci + 2, N)) (hcl : vwCl[ci]? = some (mi2.1.cls, F, N2)) (hr : rest.length ≤ 8) (hL0 : L0 = (.ref k :: [a1, a2, a3, a4]) ++ List.replicate (mi2.2.2.1 - 5) Value.null) (hlen : 5 ≤ mi2.2.2.1) (hM : AW G d mi2 0 L0 [] T u 0 0 (QS T v u1)) (kk : AW G (d + 1) mi (pc + 3) L (.int v :: rest) T u1 kc ks Q) : AW G (d + 1) mi pc L (a4 :: a3 :: a2 :: a1 :: .ref k :: rest) T u kc ks Q := by
  have h := A_callV (kc0 := 0) (ks0 := 0) (kc := kc) (ks := ks) (Q := Q) (L := L) (rest := rest) (As := [a1, a2, a3, a4]) hd hl hf hm hq hcl rfl rfl hr hL0 hlen hM (fun r T' u' hq2 => by obtain ⟨rfl, rfl, rfl⟩ := hq2; exact kk)
  rwa [Nat.zero_add, Nat.zero_add] at h
theorem A_cV4v {G : GG} {d : Nat} {mi mi2 : MI} {pc : Nat} {L rest L0 : List Value} {T : TT} {u u1 : MU} {kc ks idx : Nat} {Q : QQ} {a1 a2 a3 a4 : Value} (hd : decode mi.2.1 pc = .ok (.invokevirtual idx, 3)) (hl : aw_ml mi.1.cls idx mi2.1) (hf : aw_mf mi2 4) (hm : aw_mV mi2) {k ci N N2 : Nat} {F : u_T} (hq : T.1[k]? = some (ci + 2, N)) (hcl : vwCl[ci]? = some (mi2.1.cls, F, N2)) (hr : rest.length ≤ 8) (hL0 : L0 = (.ref k :: [a1, a2, a3, a4]) ++ List.replicate (mi2.2.2.1 - 5) Value.null) (hlen : 5 ≤ mi2.2.2.1) (hM : AW G d mi2 0 L0 [] T u 0 0 (QV T u1)) (kk : AW G (d + 1) mi (pc + 3) L rest T u1 kc ks Q) : AW G (d + 1) mi pc L (a4 :: a3 :: a2 :: a1 :: .ref k :: rest) T u kc ks Q := by
  have h := A_callV (kc0 := 0) (ks0 := 0) (kc := kc) (ks := ks) (Q := Q) (L := L) (rest := rest) (As := [a1, a2, a3, a4]) hd hl hf hm hq hcl rfl rfl hr hL0 hlen hM (fun r T' u' hq2 => by obtain ⟨rfl, rfl, rfl⟩ := hq2; exact kk)
  rwa [Nat.zero_add, Nat.zero_add] at h
theorem A_cV5i {G : GG} {d : Nat} {mi mi2 : MI} {pc : Nat} {L rest L0 : List Value} {T : TT} {u u1 : MU} {kc ks idx : Nat} {Q : QQ} {v : Int32} {a1 a2 a3 a4 a5 : Value} (hd : decode mi.2.1 pc = .ok (.invokevirtual idx, 3)) (hl : aw_ml mi.1.cls idx mi2.1) (hf : aw_mf mi2 5) (hm : aw_mV mi2) {k ci N N2 : Nat} {F : u_T} (hq : T.1[k]? = some (ci + 2, N)) (hcl : vwCl[ci]? = some (mi2.1.cls, F, N2)) (hr : rest.length ≤ 8) (hL0 : L0 = (.ref k :: [a1, a2, a3, a4, a5]) ++ List.replicate (mi2.2.2.1 - 6) Value.null) (hlen : 6 ≤ mi2.2.2.1) (hM : AW G d mi2 0 L0 [] T u 0 0 (QS T v u1)) (kk : AW G (d + 1) mi (pc + 3) L (.int v :: rest) T u1 kc ks Q) : AW G (d + 1) mi pc L (a5 :: a4 :: a3 :: a2 :: a1 :: .ref k :: rest) T u kc ks Q := by
  have h := A_callV (kc0 := 0) (ks0 := 0) (kc := kc) (ks := ks) (Q := Q) (L := L) (rest := rest) (As := [a1, a2, a3, a4, a5]) hd hl hf hm hq hcl rfl rfl hr hL0 hlen hM (fun r T' u' hq2 => by obtain ⟨rfl, rfl, rfl⟩ := hq2; exact kk)
  rwa [Nat.zero_add, Nat.zero_add] at h
theorem A_cV5v {G : GG} {d : Nat} {mi mi2 : MI} {pc : Nat} {L rest L0 : List Value} {T : TT} {u u1 : MU} {kc ks idx : Nat} {Q : QQ} {a1 a2 a3 a4 a5 : Value} (hd : decode mi.2.1 pc = .ok (.invokevirtual idx, 3)) (hl : aw_ml mi.1.cls idx mi2.1) (hf : aw_mf mi2 5) (hm : aw_mV mi2) {k ci N N2 : Nat} {F : u_T} (hq : T.1[k]? = some (ci + 2, N)) (hcl : vwCl[ci]? = some (mi2.1.cls, F, N2)) (hr : rest.length ≤ 8) (hL0 : L0 = (.ref k :: [a1, a2, a3, a4, a5]) ++ List.replicate (mi2.2.2.1 - 6) Value.null) (hlen : 6 ≤ mi2.2.2.1) (hM : AW G d mi2 0 L0 [] T u 0 0 (QV T u1)) (kk : AW G (d + 1) mi (pc + 3) L rest T u1 kc ks Q) : AW G (d + 1) mi pc L (a5 :: a4 :: a3 :: a2 :: a1 :: .ref k :: rest) T u kc ks Q := by
  have h := A_callV (kc0 := 0) (ks0 := 0) (kc := kc) (ks := ks) (Q := Q) (L := L) (rest := rest) (As := [a1, a2, a3, a4, a5]) hd hl hf hm hq hcl rfl rfl hr hL0 hlen hM (fun r T' u' hq2 => by obtain ⟨rfl, rfl, rfl⟩ := hq2; exact kk)
  rwa [Nat.zero_add, Nat.zero_add] at h
theorem A_cS0i {G : GG} {d : Nat} {mi mi2 : MI} {pc : Nat} {L rest L0 : List Value} {T : TT} {u u1 : MU} {kc ks idx : Nat} {Q : QQ} {v : Int32} (hd : decode mi.2.1 pc = .ok (.invokestatic idx, 3)) (hl : aw_ml mi.1.cls idx mi2.1) (hf : aw_mf mi2 0) (hm : Cond.static mi2.1 ∈ aw_gt) (hr : rest.length ≤ 8) (hL0 : L0 = ([] : List Value) ++ List.replicate (mi2.2.2.1 - 0) Value.null) (hlen : 0 ≤ mi2.2.2.1) (hM : AW G d mi2 0 L0 [] T u 0 0 (QS T v u1)) (kk : AW G (d + 1) mi (pc + 3) L (.int v :: rest) T u1 kc ks Q) : AW G (d + 1) mi pc L (rest) T u kc ks Q := by
  have h := A_callS (kc0 := 0) (ks0 := 0) (kc := kc) (ks := ks) (Q := Q) (L := L) (rest := rest) (As := []) hd hl hf hm rfl rfl hr hL0 hlen hM (fun r T' u' hq2 => by obtain ⟨rfl, rfl, rfl⟩ := hq2; exact kk)
  rwa [Nat.zero_add, Nat.zero_add] at h
theorem A_cS0v {G : GG} {d : Nat} {mi mi2 : MI} {pc : Nat} {L rest L0 : List Value} {T : TT} {u u1 : MU} {kc ks idx : Nat} {Q : QQ} (hd : decode mi.2.1 pc = .ok (.invokestatic idx, 3)) (hl : aw_ml mi.1.cls idx mi2.1) (hf : aw_mf mi2 0) (hm : Cond.static mi2.1 ∈ aw_gt) (hr : rest.length ≤ 8) (hL0 : L0 = ([] : List Value) ++ List.replicate (mi2.2.2.1 - 0) Value.null) (hlen : 0 ≤ mi2.2.2.1) (hM : AW G d mi2 0 L0 [] T u 0 0 (QV T u1)) (kk : AW G (d + 1) mi (pc + 3) L rest T u1 kc ks Q) : AW G (d + 1) mi pc L (rest) T u kc ks Q := by
  have h := A_callS (kc0 := 0) (ks0 := 0) (kc := kc) (ks := ks) (Q := Q) (L := L) (rest := rest) (As := []) hd hl hf hm rfl rfl hr hL0 hlen hM (fun r T' u' hq2 => by obtain ⟨rfl, rfl, rfl⟩ := hq2; exact kk)
  rwa [Nat.zero_add, Nat.zero_add] at h
theorem A_cS1i {G : GG} {d : Nat} {mi mi2 : MI} {pc : Nat} {L rest L0 : List Value} {T : TT} {u u1 : MU} {kc ks idx : Nat} {Q : QQ} {v : Int32} {a1 : Value} (hd : decode mi.2.1 pc = .ok (.invokestatic idx, 3)) (hl : aw_ml mi.1.cls idx mi2.1) (hf : aw_mf mi2 1) (hm : Cond.static mi2.1 ∈ aw_gt) (hr : rest.length ≤ 8) (hL0 : L0 = ([a1] : List Value) ++ List.replicate (mi2.2.2.1 - 1) Value.null) (hlen : 1 ≤ mi2.2.2.1) (hM : AW G d mi2 0 L0 [] T u 0 0 (QS T v u1)) (kk : AW G (d + 1) mi (pc + 3) L (.int v :: rest) T u1 kc ks Q) : AW G (d + 1) mi pc L (a1 :: rest) T u kc ks Q := by
  have h := A_callS (kc0 := 0) (ks0 := 0) (kc := kc) (ks := ks) (Q := Q) (L := L) (rest := rest) (As := [a1]) hd hl hf hm rfl rfl hr hL0 hlen hM (fun r T' u' hq2 => by obtain ⟨rfl, rfl, rfl⟩ := hq2; exact kk)
  rwa [Nat.zero_add, Nat.zero_add] at h
theorem A_cS1v {G : GG} {d : Nat} {mi mi2 : MI} {pc : Nat} {L rest L0 : List Value} {T : TT} {u u1 : MU} {kc ks idx : Nat} {Q : QQ} {a1 : Value} (hd : decode mi.2.1 pc = .ok (.invokestatic idx, 3)) (hl : aw_ml mi.1.cls idx mi2.1) (hf : aw_mf mi2 1) (hm : Cond.static mi2.1 ∈ aw_gt) (hr : rest.length ≤ 8) (hL0 : L0 = ([a1] : List Value) ++ List.replicate (mi2.2.2.1 - 1) Value.null) (hlen : 1 ≤ mi2.2.2.1) (hM : AW G d mi2 0 L0 [] T u 0 0 (QV T u1)) (kk : AW G (d + 1) mi (pc + 3) L rest T u1 kc ks Q) : AW G (d + 1) mi pc L (a1 :: rest) T u kc ks Q := by
  have h := A_callS (kc0 := 0) (ks0 := 0) (kc := kc) (ks := ks) (Q := Q) (L := L) (rest := rest) (As := [a1]) hd hl hf hm rfl rfl hr hL0 hlen hM (fun r T' u' hq2 => by obtain ⟨rfl, rfl, rfl⟩ := hq2; exact kk)
  rwa [Nat.zero_add, Nat.zero_add] at h
theorem A_cS2i {G : GG} {d : Nat} {mi mi2 : MI} {pc : Nat} {L rest L0 : List Value} {T : TT} {u u1 : MU} {kc ks idx : Nat} {Q : QQ} {v : Int32} {a1 a2 : Value} (hd : decode mi.2.1 pc = .ok (.invokestatic idx, 3)) (hl : aw_ml mi.1.cls idx mi2.1) (hf : aw_mf mi2 2) (hm : Cond.static mi2.1 ∈ aw_gt) (hr : rest.length ≤ 8) (hL0 : L0 = ([a1, a2] : List Value) ++ List.replicate (mi2.2.2.1 - 2) Value.null) (hlen : 2 ≤ mi2.2.2.1) (hM : AW G d mi2 0 L0 [] T u 0 0 (QS T v u1)) (kk : AW G (d + 1) mi (pc + 3) L (.int v :: rest) T u1 kc ks Q) : AW G (d + 1) mi pc L (a2 :: a1 :: rest) T u kc ks Q := by
  have h := A_callS (kc0 := 0) (ks0 := 0) (kc := kc) (ks := ks) (Q := Q) (L := L) (rest := rest) (As := [a1, a2]) hd hl hf hm rfl rfl hr hL0 hlen hM (fun r T' u' hq2 => by obtain ⟨rfl, rfl, rfl⟩ := hq2; exact kk)
  rwa [Nat.zero_add, Nat.zero_add] at h
theorem A_cS2v {G : GG} {d : Nat} {mi mi2 : MI} {pc : Nat} {L rest L0 : List Value} {T : TT} {u u1 : MU} {kc ks idx : Nat} {Q : QQ} {a1 a2 : Value} (hd : decode mi.2.1 pc = .ok (.invokestatic idx, 3)) (hl : aw_ml mi.1.cls idx mi2.1) (hf : aw_mf mi2 2) (hm : Cond.static mi2.1 ∈ aw_gt) (hr : rest.length ≤ 8) (hL0 : L0 = ([a1, a2] : List Value) ++ List.replicate (mi2.2.2.1 - 2) Value.null) (hlen : 2 ≤ mi2.2.2.1) (hM : AW G d mi2 0 L0 [] T u 0 0 (QV T u1)) (kk : AW G (d + 1) mi (pc + 3) L rest T u1 kc ks Q) : AW G (d + 1) mi pc L (a2 :: a1 :: rest) T u kc ks Q := by
  have h := A_callS (kc0 := 0) (ks0 := 0) (kc := kc) (ks := ks) (Q := Q) (L := L) (rest := rest) (As := [a1, a2]) hd hl hf hm rfl rfl hr hL0 hlen hM (fun r T' u' hq2 => by obtain ⟨rfl, rfl, rfl⟩ := hq2; exact kk)
  rwa [Nat.zero_add, Nat.zero_add] at h
theorem A_cS3i {G : GG} {d : Nat} {mi mi2 : MI} {pc : Nat} {L rest L0 : List Value} {T : TT} {u u1 : MU} {kc ks idx : Nat} {Q : QQ} {v : Int32} {a1 a2 a3 : Value} (hd : decode mi.2.1 pc = .ok (.invokestatic idx, 3)) (hl : aw_ml mi.1.cls idx mi2.1) (hf : aw_mf mi2 3) (hm : Cond.static mi2.1 ∈ aw_gt) (hr : rest.length ≤ 8) (hL0 : L0 = ([a1, a2, a3] : List Value) ++ List.replicate (mi2.2.2.1 - 3) Value.null) (hlen : 3 ≤ mi2.2.2.1) (hM : AW G d mi2 0 L0 [] T u 0 0 (QS T v u1)) (kk : AW G (d + 1) mi (pc + 3) L (.int v :: rest) T u1 kc ks Q) : AW G (d + 1) mi pc L (a3 :: a2 :: a1 :: rest) T u kc ks Q := by
  have h := A_callS (kc0 := 0) (ks0 := 0) (kc := kc) (ks := ks) (Q := Q) (L := L) (rest := rest) (As := [a1, a2, a3]) hd hl hf hm rfl rfl hr hL0 hlen hM (fun r T' u' hq2 => by obtain ⟨rfl, rfl, rfl⟩ := hq2; exact kk)
  rwa [Nat.zero_add, Nat.zero_add] at h
theorem A_cS3v {G : GG} {d : Nat} {mi mi2 : MI} {pc : Nat} {L rest L0 : List Value} {T : TT} {u u1 : MU} {kc ks idx : Nat} {Q : QQ} {a1 a2 a3 : Value} (hd : decode mi.2.1 pc = .ok (.invokestatic idx, 3)) (hl : aw_ml mi.1.cls idx mi2.1) (hf : aw_mf mi2 3) (hm : Cond.static mi2.1 ∈ aw_gt) (hr : rest.length ≤ 8) (hL0 : L0 = ([a1, a2, a3] : List Value) ++ List.replicate (mi2.2.2.1 - 3) Value.null) (hlen : 3 ≤ mi2.2.2.1) (hM : AW G d mi2 0 L0 [] T u 0 0 (QV T u1)) (kk : AW G (d + 1) mi (pc + 3) L rest T u1 kc ks Q) : AW G (d + 1) mi pc L (a3 :: a2 :: a1 :: rest) T u kc ks Q := by
  have h := A_callS (kc0 := 0) (ks0 := 0) (kc := kc) (ks := ks) (Q := Q) (L := L) (rest := rest) (As := [a1, a2, a3]) hd hl hf hm rfl rfl hr hL0 hlen hM (fun r T' u' hq2 => by obtain ⟨rfl, rfl, rfl⟩ := hq2; exact kk)
  rwa [Nat.zero_add, Nat.zero_add] at h
theorem A_cS4i {G : GG} {d : Nat} {mi mi2 : MI} {pc : Nat} {L rest L0 : List Value} {T : TT} {u u1 : MU} {kc ks idx : Nat} {Q : QQ} {v : Int32} {a1 a2 a3 a4 : Value} (hd : decode mi.2.1 pc = .ok (.invokestatic idx, 3)) (hl : aw_ml mi.1.cls idx mi2.1) (hf : aw_mf mi2 4) (hm : Cond.static mi2.1 ∈ aw_gt) (hr : rest.length ≤ 8) (hL0 : L0 = ([a1, a2, a3, a4] : List Value) ++ List.replicate (mi2.2.2.1 - 4) Value.null) (hlen : 4 ≤ mi2.2.2.1) (hM : AW G d mi2 0 L0 [] T u 0 0 (QS T v u1)) (kk : AW G (d + 1) mi (pc + 3) L (.int v :: rest) T u1 kc ks Q) : AW G (d + 1) mi pc L (a4 :: a3 :: a2 :: a1 :: rest) T u kc ks Q := by
  have h := A_callS (kc0 := 0) (ks0 := 0) (kc := kc) (ks := ks) (Q := Q) (L := L) (rest := rest) (As := [a1, a2, a3, a4]) hd hl hf hm rfl rfl hr hL0 hlen hM (fun r T' u' hq2 => by obtain ⟨rfl, rfl, rfl⟩ := hq2; exact kk)
  rwa [Nat.zero_add, Nat.zero_add] at h
theorem A_cS4v {G : GG} {d : Nat} {mi mi2 : MI} {pc : Nat} {L rest L0 : List Value} {T : TT} {u u1 : MU} {kc ks idx : Nat} {Q : QQ} {a1 a2 a3 a4 : Value} (hd : decode mi.2.1 pc = .ok (.invokestatic idx, 3)) (hl : aw_ml mi.1.cls idx mi2.1) (hf : aw_mf mi2 4) (hm : Cond.static mi2.1 ∈ aw_gt) (hr : rest.length ≤ 8) (hL0 : L0 = ([a1, a2, a3, a4] : List Value) ++ List.replicate (mi2.2.2.1 - 4) Value.null) (hlen : 4 ≤ mi2.2.2.1) (hM : AW G d mi2 0 L0 [] T u 0 0 (QV T u1)) (kk : AW G (d + 1) mi (pc + 3) L rest T u1 kc ks Q) : AW G (d + 1) mi pc L (a4 :: a3 :: a2 :: a1 :: rest) T u kc ks Q := by
  have h := A_callS (kc0 := 0) (ks0 := 0) (kc := kc) (ks := ks) (Q := Q) (L := L) (rest := rest) (As := [a1, a2, a3, a4]) hd hl hf hm rfl rfl hr hL0 hlen hM (fun r T' u' hq2 => by obtain ⟨rfl, rfl, rfl⟩ := hq2; exact kk)
  rwa [Nat.zero_add, Nat.zero_add] at h
theorem A_cS5i {G : GG} {d : Nat} {mi mi2 : MI} {pc : Nat} {L rest L0 : List Value} {T : TT} {u u1 : MU} {kc ks idx : Nat} {Q : QQ} {v : Int32} {a1 a2 a3 a4 a5 : Value} (hd : decode mi.2.1 pc = .ok (.invokestatic idx, 3)) (hl : aw_ml mi.1.cls idx mi2.1) (hf : aw_mf mi2 5) (hm : Cond.static mi2.1 ∈ aw_gt) (hr : rest.length ≤ 8) (hL0 : L0 = ([a1, a2, a3, a4, a5] : List Value) ++ List.replicate (mi2.2.2.1 - 5) Value.null) (hlen : 5 ≤ mi2.2.2.1) (hM : AW G d mi2 0 L0 [] T u 0 0 (QS T v u1)) (kk : AW G (d + 1) mi (pc + 3) L (.int v :: rest) T u1 kc ks Q) : AW G (d + 1) mi pc L (a5 :: a4 :: a3 :: a2 :: a1 :: rest) T u kc ks Q := by
  have h := A_callS (kc0 := 0) (ks0 := 0) (kc := kc) (ks := ks) (Q := Q) (L := L) (rest := rest) (As := [a1, a2, a3, a4, a5]) hd hl hf hm rfl rfl hr hL0 hlen hM (fun r T' u' hq2 => by obtain ⟨rfl, rfl, rfl⟩ := hq2; exact kk)
  rwa [Nat.zero_add, Nat.zero_add] at h
theorem A_cS5v {G : GG} {d : Nat} {mi mi2 : MI} {pc : Nat} {L rest L0 : List Value} {T : TT} {u u1 : MU} {kc ks idx : Nat} {Q : QQ} {a1 a2 a3 a4 a5 : Value} (hd : decode mi.2.1 pc = .ok (.invokestatic idx, 3)) (hl : aw_ml mi.1.cls idx mi2.1) (hf : aw_mf mi2 5) (hm : Cond.static mi2.1 ∈ aw_gt) (hr : rest.length ≤ 8) (hL0 : L0 = ([a1, a2, a3, a4, a5] : List Value) ++ List.replicate (mi2.2.2.1 - 5) Value.null) (hlen : 5 ≤ mi2.2.2.1) (hM : AW G d mi2 0 L0 [] T u 0 0 (QV T u1)) (kk : AW G (d + 1) mi (pc + 3) L rest T u1 kc ks Q) : AW G (d + 1) mi pc L (a5 :: a4 :: a3 :: a2 :: a1 :: rest) T u kc ks Q := by
  have h := A_callS (kc0 := 0) (ks0 := 0) (kc := kc) (ks := ks) (Q := Q) (L := L) (rest := rest) (As := [a1, a2, a3, a4, a5]) hd hl hf hm rfl rfl hr hL0 hlen hM (fun r T' u' hq2 => by obtain ⟨rfl, rfl, rfl⟩ := hq2; exact kk)
  rwa [Nat.zero_add, Nat.zero_add] at h
theorem oi_if {α : Type} {c : Prop} [Decidable c] {t e : Option α} {x : α} (h : (if c then t else e) = some x) : (c ∧ t = some x) ∨ (¬ c ∧ e = some x) := by
  by_cases hc : c
  · rw [if_pos hc] at h; exact Or.inl ⟨hc, h⟩
  · rw [if_neg hc] at h; exact Or.inr ⟨hc, h⟩
theorem oi_ck {α : Type} {c : Prop} [Decidable c] {t : Option α} {x : α} (h : (if c then t else none) = some x) : c ∧ t = some x := by
  by_cases hc : c
  · rw [if_pos hc] at h; exact ⟨hc, h⟩
  · rw [if_neg hc] at h; cases h
theorem oi_t {α : Type} {c : Prop} [Decidable c] {t e : Option α} {x : α} (hc : c) (h : (if c then t else e) = some x) : t = some x := by rw [if_pos hc] at h; exact h
theorem oi_f {α : Type} {c : Prop} [Decidable c] {t e : Option α} {x : α} (hc : ¬ c) (h : (if c then t else e) = some x) : e = some x := by rw [if_neg hc] at h; exact h
theorem oi_b {α β : Type} {a : Option α} {f : α → Option β} {x : β} (h : a.bind f = some x) : ∃ y, a = some y ∧ f y = some x := Option.bind_eq_some_iff.mp h
def letb {α β : Type} (a : α) (f : α → β) : β := f a
theorem oi_l {α β : Type} {a : α} {f : α → Option β} {x : β} (h : letb a f = some x) : f a = some x := h
def bck (v : Int32) : Prop := v = 0 ∨ v = 1
theorem bck_n {v : Int32} (h : v = 0 ∨ v = 1) : narrow .boolean (.int v) = .int v := by rcases h with rfl | rfl <;> rfl
theorem bck_f {v : Int32} (h : v = 0 ∨ v = 1) : fits .boolean (.int v) = true := by rcases h with rfl | rfl <;> rfl
end
section
theorem A_istn {G : GG} {d : Nat} {mi : MI} {pc : Nat} {L st : List Value} {T : TT} {u : MU} {kc ks : Nat} {Q : QQ} {L2 : List Value} {i : Fin 4} {v : Int32} (hd : decode mi.2.1 pc = .ok (.istore_n i, 1)) (hi : (i : Nat) < L.length) (h2 : L.set (i : Nat) (.int v) = L2) (kk : AW G d mi (pc + 1) L2 st T u kc ks Q) : AW G d mi pc L (.int v :: st) T u kc ks Q := by
  subst h2
  exact A_istoren hd hi kk
theorem A_ist {G : GG} {d : Nat} {mi : MI} {pc : Nat} {L st : List Value} {T : TT} {u : MU} {kc ks : Nat} {Q : QQ} {L2 : List Value} {i : Nat} {v : Int32} (hd : decode mi.2.1 pc = .ok (.istore i, 2)) (hi : i < L.length) (h2 : L.set i (.int v) = L2) (kk : AW G d mi (pc + 2) L2 st T u kc ks Q) : AW G d mi pc L (.int v :: st) T u kc ks Q := by
  subst h2
  exact A_istore hd hi kk
theorem A_astn {G : GG} {d : Nat} {mi : MI} {pc : Nat} {L st : List Value} {T : TT} {u : MU} {kc ks : Nat} {Q : QQ} {L2 : List Value} {i : Fin 4} {v : Nat} (hd : decode mi.2.1 pc = .ok (.astore_n i, 1)) (hi : (i : Nat) < L.length) (h2 : L.set (i : Nat) (.ref v) = L2) (kk : AW G d mi (pc + 1) L2 st T u kc ks Q) : AW G d mi pc L (.ref v :: st) T u kc ks Q := by
  subst h2
  exact A_astoren hd hi kk
theorem A_ast {G : GG} {d : Nat} {mi : MI} {pc : Nat} {L st : List Value} {T : TT} {u : MU} {kc ks : Nat} {Q : QQ} {L2 : List Value} {i : Nat} {v : Nat} (hd : decode mi.2.1 pc = .ok (.astore i, 2)) (hi : i < L.length) (h2 : L.set i (.ref v) = L2) (kk : AW G d mi (pc + 2) L2 st T u kc ks Q) : AW G d mi pc L (.ref v :: st) T u kc ks Q := by
  subst h2
  exact A_astore hd hi kk
theorem A_inc {G : GG} {d : Nat} {mi : MI} {pc : Nat} {L st : List Value} {T : TT} {u : MU} {kc ks : Nat} {Q : QQ} {L2 : List Value} {i : Nat} {n : Int} {v : Int32} (w : Int32) (hd : decode mi.2.1 pc = .ok (.iinc i n, 3)) (hl : L[i]? = some (.int v)) (hw : v + Int32.ofInt n = w) (h2 : L.set i (.int w) = L2) (kk : AW G d mi (pc + 3) L2 st T u kc ks Q) : AW G d mi pc L st T u kc ks Q := by
  subst h2
  exact A_iinc w hd hl hw kk
def oob (i : Int32) (n : Nat) : Bool := decide (i < 0 ∨ n ≤ i.toNatClampNeg)
theorem oob_f {i : Int32} {n : Nat} (h : ¬ oob i n = true) : vp_in i n := fun z => h (by simpa [oob] using z)
theorem oi_cf {α : Type} {c : Prop} [Decidable c] {t : Option α} {x : α} (h : (if c then none else t) = some x) : ¬ c ∧ t = some x := by
  by_cases hc : c
  · rw [if_pos hc] at h; cases h
  · rw [if_neg hc] at h; exact ⟨hc, h⟩
theorem cp_of {n : Int32} {a b : Nat} (h : ¬ (n < 0 ∨ a < n.toNatClampNeg ∨ b < n.toNatClampNeg)) : ¬ n < 0 ∧ (0 : Int32).toNatClampNeg + n.toNatClampNeg ≤ a ∧ (0 : Int32).toNatClampNeg + n.toNatClampNeg ≤ b := by
  have e : (0 : Int32).toNatClampNeg = 0 := rfl
  rw [e]
  refine ⟨fun z => h (Or.inl z), ?_, ?_⟩
  · have : ¬ a < n.toNatClampNeg := fun z => h (Or.inr (Or.inl z))
    omega
  · have : ¬ b < n.toNatClampNeg := fun z => h (Or.inr (Or.inr z))
    omega
end
section
def zJ6_bitCount_0f7a4 (n : Nat) (u : MU) (a0 : Int32) : Option (Int32) := letb (a0 - (((a0.toUInt32 >>> ((1 : Int32).toUInt32 &&& Int32.toUInt32 31)).toInt32) &&& 1431655765)) (fun x1 => letb ((x1 &&& 858993459) + (((x1.toUInt32 >>> ((2 : Int32).toUInt32 &&& Int32.toUInt32 31)).toInt32) &&& 858993459)) (fun x2 => letb ((x2 + ((x2.toUInt32 >>> ((4 : Int32).toUInt32 &&& Int32.toUInt32 31)).toInt32)) &&& 252645135) (fun x3 => letb (x3 + ((x3.toUInt32 >>> ((8 : Int32).toUInt32 &&& Int32.toUInt32 31)).toInt32)) (fun x4 => letb (x4 + ((x4.toUInt32 >>> ((16 : Int32).toUInt32 &&& Int32.toUInt32 31)).toInt32)) (fun x5 => some (x5 &&& 63))))))
set_option maxHeartbeats 4000000 in
set_option maxRecDepth 100000 in
theorem wJ6_bitCount_0f7a4 {G : GG} {T : TT} {n d : Nat} (hd : 0 ≤ d) {q : Int32} {u : MU} {a0 : Int32} (hT : LAY T) (hf : zJ6_bitCount_0f7a4 n u a0 = some q) : AW G d mJ6_bitCount_0f7a4 0 [.int a0] [] T u 0 0 (QS T q u) := by
  rw [zJ6_bitCount_0f7a4] at hf
  refine A_iloadn (pc := 0) dJ6_bitCount_0f7a4_0 rfl ?_
  refine A_iloadn (pc := 1) dJ6_bitCount_0f7a4_1 rfl ?_
  refine A_iconst (pc := 2) 1 dJ6_bitCount_0f7a4_2 rfl ?_
  refine A_iushr (pc := 3) dJ6_bitCount_0f7a4_3 ?_
  refine A_ldcw (pc := 4) dJ6_bitCount_0f7a4_4 nJ6_265 ?_
  refine A_iand (pc := 7) dJ6_bitCount_0f7a4_7 ?_
  refine A_isub (pc := 8) dJ6_bitCount_0f7a4_8 ?_
  have hf := oi_l hf
  refine A_istn (pc := 9) (L2 := [.int (a0 - (((a0.toUInt32 >>> ((1 : Int32).toUInt32 &&& Int32.toUInt32 31)).toInt32) &&& 1431655765))]) dJ6_bitCount_0f7a4_9 (Nat.le_of_ble_eq_true rfl) rfl ?_
  refine A_iloadn (pc := 10) dJ6_bitCount_0f7a4_10 rfl ?_
  refine A_ldcw (pc := 11) dJ6_bitCount_0f7a4_11 nJ6_266 ?_
  refine A_iand (pc := 14) dJ6_bitCount_0f7a4_14 ?_
  refine A_iloadn (pc := 15) dJ6_bitCount_0f7a4_15 rfl ?_
  refine A_iconst (pc := 16) 2 dJ6_bitCount_0f7a4_16 rfl ?_
  refine A_iushr (pc := 17) dJ6_bitCount_0f7a4_17 ?_
  refine A_ldcw (pc := 18) dJ6_bitCount_0f7a4_18 nJ6_266 ?_
  refine A_iand (pc := 21) dJ6_bitCount_0f7a4_21 ?_
  refine A_iadd (pc := 22) dJ6_bitCount_0f7a4_22 ?_
  have hf := oi_l hf
  refine A_istn (pc := 23) (L2 := [.int (((a0 - (((a0.toUInt32 >>> ((1 : Int32).toUInt32 &&& Int32.toUInt32 31)).toInt32) &&& 1431655765)) &&& 858993459) + ((((a0 - (((a0.toUInt32 >>> ((1 : Int32).toUInt32 &&& Int32.toUInt32 31)).toInt32) &&& 1431655765)).toUInt32 >>> ((2 : Int32).toUInt32 &&& Int32.toUInt32 31)).toInt32) &&& 858993459))]) dJ6_bitCount_0f7a4_23 (Nat.le_of_ble_eq_true rfl) rfl ?_
  refine A_iloadn (pc := 24) dJ6_bitCount_0f7a4_24 rfl ?_
  refine A_iloadn (pc := 25) dJ6_bitCount_0f7a4_25 rfl ?_
  refine A_iconst (pc := 26) 4 dJ6_bitCount_0f7a4_26 rfl ?_
  refine A_iushr (pc := 27) dJ6_bitCount_0f7a4_27 ?_
  refine A_iadd (pc := 28) dJ6_bitCount_0f7a4_28 ?_
  refine A_ldcw (pc := 29) dJ6_bitCount_0f7a4_29 nJ6_267 ?_
  refine A_iand (pc := 32) dJ6_bitCount_0f7a4_32 ?_
  have hf := oi_l hf
  refine A_istn (pc := 33) (L2 := [.int (((((a0 - (((a0.toUInt32 >>> ((1 : Int32).toUInt32 &&& Int32.toUInt32 31)).toInt32) &&& 1431655765)) &&& 858993459) + ((((a0 - (((a0.toUInt32 >>> ((1 : Int32).toUInt32 &&& Int32.toUInt32 31)).toInt32) &&& 1431655765)).toUInt32 >>> ((2 : Int32).toUInt32 &&& Int32.toUInt32 31)).toInt32) &&& 858993459)) + (((((a0 - (((a0.toUInt32 >>> ((1 : Int32).toUInt32 &&& Int32.toUInt32 31)).toInt32) &&& 1431655765)) &&& 858993459) + ((((a0 - (((a0.toUInt32 >>> ((1 : Int32).toUInt32 &&& Int32.toUInt32 31)).toInt32) &&& 1431655765)).toUInt32 >>> ((2 : Int32).toUInt32 &&& Int32.toUInt32 31)).toInt32) &&& 858993459)).toUInt32 >>> ((4 : Int32).toUInt32 &&& Int32.toUInt32 31)).toInt32)) &&& 252645135)]) dJ6_bitCount_0f7a4_33 (Nat.le_of_ble_eq_true rfl) rfl ?_
  refine A_iloadn (pc := 34) dJ6_bitCount_0f7a4_34 rfl ?_
  refine A_iloadn (pc := 35) dJ6_bitCount_0f7a4_35 rfl ?_
  refine A_bipush (pc := 36) 8 dJ6_bitCount_0f7a4_36 rfl ?_
  refine A_iushr (pc := 38) dJ6_bitCount_0f7a4_38 ?_
  refine A_iadd (pc := 39) dJ6_bitCount_0f7a4_39 ?_
  have hf := oi_l hf
  refine A_istn (pc := 40) (L2 := [.int ((((((a0 - (((a0.toUInt32 >>> ((1 : Int32).toUInt32 &&& Int32.toUInt32 31)).toInt32) &&& 1431655765)) &&& 858993459) + ((((a0 - (((a0.toUInt32 >>> ((1 : Int32).toUInt32 &&& Int32.toUInt32 31)).toInt32) &&& 1431655765)).toUInt32 >>> ((2 : Int32).toUInt32 &&& Int32.toUInt32 31)).toInt32) &&& 858993459)) + (((((a0 - (((a0.toUInt32 >>> ((1 : Int32).toUInt32 &&& Int32.toUInt32 31)).toInt32) &&& 1431655765)) &&& 858993459) + ((((a0 - (((a0.toUInt32 >>> ((1 : Int32).toUInt32 &&& Int32.toUInt32 31)).toInt32) &&& 1431655765)).toUInt32 >>> ((2 : Int32).toUInt32 &&& Int32.toUInt32 31)).toInt32) &&& 858993459)).toUInt32 >>> ((4 : Int32).toUInt32 &&& Int32.toUInt32 31)).toInt32)) &&& 252645135) + (((((((a0 - (((a0.toUInt32 >>> ((1 : Int32).toUInt32 &&& Int32.toUInt32 31)).toInt32) &&& 1431655765)) &&& 858993459) + ((((a0 - (((a0.toUInt32 >>> ((1 : Int32).toUInt32 &&& Int32.toUInt32 31)).toInt32) &&& 1431655765)).toUInt32 >>> ((2 : Int32).toUInt32 &&& Int32.toUInt32 31)).toInt32) &&& 858993459)) + (((((a0 - (((a0.toUInt32 >>> ((1 : Int32).toUInt32 &&& Int32.toUInt32 31)).toInt32) &&& 1431655765)) &&& 858993459) + ((((a0 - (((a0.toUInt32 >>> ((1 : Int32).toUInt32 &&& Int32.toUInt32 31)).toInt32) &&& 1431655765)).toUInt32 >>> ((2 : Int32).toUInt32 &&& Int32.toUInt32 31)).toInt32) &&& 858993459)).toUInt32 >>> ((4 : Int32).toUInt32 &&& Int32.toUInt32 31)).toInt32)) &&& 252645135).toUInt32 >>> ((8 : Int32).toUInt32 &&& Int32.toUInt32 31)).toInt32))]) dJ6_bitCount_0f7a4_40 (Nat.le_of_ble_eq_true rfl) rfl ?_
  refine A_iloadn (pc := 41) dJ6_bitCount_0f7a4_41 rfl ?_
  refine A_iloadn (pc := 42) dJ6_bitCount_0f7a4_42 rfl ?_
  refine A_bipush (pc := 43) 16 dJ6_bitCount_0f7a4_43 rfl ?_
  refine A_iushr (pc := 45) dJ6_bitCount_0f7a4_45 ?_
  refine A_iadd (pc := 46) dJ6_bitCount_0f7a4_46 ?_
  have hf := oi_l hf
  refine A_istn (pc := 47) (L2 := [.int (((((((a0 - (((a0.toUInt32 >>> ((1 : Int32).toUInt32 &&& Int32.toUInt32 31)).toInt32) &&& 1431655765)) &&& 858993459) + ((((a0 - (((a0.toUInt32 >>> ((1 : Int32).toUInt32 &&& Int32.toUInt32 31)).toInt32) &&& 1431655765)).toUInt32 >>> ((2 : Int32).toUInt32 &&& Int32.toUInt32 31)).toInt32) &&& 858993459)) + (((((a0 - (((a0.toUInt32 >>> ((1 : Int32).toUInt32 &&& Int32.toUInt32 31)).toInt32) &&& 1431655765)) &&& 858993459) + ((((a0 - (((a0.toUInt32 >>> ((1 : Int32).toUInt32 &&& Int32.toUInt32 31)).toInt32) &&& 1431655765)).toUInt32 >>> ((2 : Int32).toUInt32 &&& Int32.toUInt32 31)).toInt32) &&& 858993459)).toUInt32 >>> ((4 : Int32).toUInt32 &&& Int32.toUInt32 31)).toInt32)) &&& 252645135) + (((((((a0 - (((a0.toUInt32 >>> ((1 : Int32).toUInt32 &&& Int32.toUInt32 31)).toInt32) &&& 1431655765)) &&& 858993459) + ((((a0 - (((a0.toUInt32 >>> ((1 : Int32).toUInt32 &&& Int32.toUInt32 31)).toInt32) &&& 1431655765)).toUInt32 >>> ((2 : Int32).toUInt32 &&& Int32.toUInt32 31)).toInt32) &&& 858993459)) + (((((a0 - (((a0.toUInt32 >>> ((1 : Int32).toUInt32 &&& Int32.toUInt32 31)).toInt32) &&& 1431655765)) &&& 858993459) + ((((a0 - (((a0.toUInt32 >>> ((1 : Int32).toUInt32 &&& Int32.toUInt32 31)).toInt32) &&& 1431655765)).toUInt32 >>> ((2 : Int32).toUInt32 &&& Int32.toUInt32 31)).toInt32) &&& 858993459)).toUInt32 >>> ((4 : Int32).toUInt32 &&& Int32.toUInt32 31)).toInt32)) &&& 252645135).toUInt32 >>> ((8 : Int32).toUInt32 &&& Int32.toUInt32 31)).toInt32)) + ((((((((a0 - (((a0.toUInt32 >>> ((1 : Int32).toUInt32 &&& Int32.toUInt32 31)).toInt32) &&& 1431655765)) &&& 858993459) + ((((a0 - (((a0.toUInt32 >>> ((1 : Int32).toUInt32 &&& Int32.toUInt32 31)).toInt32) &&& 1431655765)).toUInt32 >>> ((2 : Int32).toUInt32 &&& Int32.toUInt32 31)).toInt32) &&& 858993459)) + (((((a0 - (((a0.toUInt32 >>> ((1 : Int32).toUInt32 &&& Int32.toUInt32 31)).toInt32) &&& 1431655765)) &&& 858993459) + ((((a0 - (((a0.toUInt32 >>> ((1 : Int32).toUInt32 &&& Int32.toUInt32 31)).toInt32) &&& 1431655765)).toUInt32 >>> ((2 : Int32).toUInt32 &&& Int32.toUInt32 31)).toInt32) &&& 858993459)).toUInt32 >>> ((4 : Int32).toUInt32 &&& Int32.toUInt32 31)).toInt32)) &&& 252645135) + (((((((a0 - (((a0.toUInt32 >>> ((1 : Int32).toUInt32 &&& Int32.toUInt32 31)).toInt32) &&& 1431655765)) &&& 858993459) + ((((a0 - (((a0.toUInt32 >>> ((1 : Int32).toUInt32 &&& Int32.toUInt32 31)).toInt32) &&& 1431655765)).toUInt32 >>> ((2 : Int32).toUInt32 &&& Int32.toUInt32 31)).toInt32) &&& 858993459)) + (((((a0 - (((a0.toUInt32 >>> ((1 : Int32).toUInt32 &&& Int32.toUInt32 31)).toInt32) &&& 1431655765)) &&& 858993459) + ((((a0 - (((a0.toUInt32 >>> ((1 : Int32).toUInt32 &&& Int32.toUInt32 31)).toInt32) &&& 1431655765)).toUInt32 >>> ((2 : Int32).toUInt32 &&& Int32.toUInt32 31)).toInt32) &&& 858993459)).toUInt32 >>> ((4 : Int32).toUInt32 &&& Int32.toUInt32 31)).toInt32)) &&& 252645135).toUInt32 >>> ((8 : Int32).toUInt32 &&& Int32.toUInt32 31)).toInt32)).toUInt32 >>> ((16 : Int32).toUInt32 &&& Int32.toUInt32 31)).toInt32))]) dJ6_bitCount_0f7a4_47 (Nat.le_of_ble_eq_true rfl) rfl ?_
  refine A_iloadn (pc := 48) dJ6_bitCount_0f7a4_48 rfl ?_
  refine A_bipush (pc := 49) 63 dJ6_bitCount_0f7a4_49 rfl ?_
  refine A_iand (pc := 51) dJ6_bitCount_0f7a4_51 ?_
  cases hf
  exact A_iret (pc := 52) dJ6_bitCount_0f7a4_52 rfl rfl ⟨rfl, rfl, rfl⟩
end
section
def zX2_cools (n : Nat) (u : MU) (p : Nat) (a1 : Int32) : Option (Int32) := if (u p 0) = 2 then (some (2 * (a1 + 1))) else if (u p 0) = 4 then (some (if 1 < a1 then a1 else 1)) else if (u p 0) = 5 then (some 1) else (some (a1 + 1))
set_option maxHeartbeats 4000000 in
set_option maxRecDepth 100000 in
theorem wX2_cools {G : GG} {T : TT} {n d : Nat} (hd : 1 ≤ d) {q : Int32} {u : MU} {p : Nat} {a1 : Int32} (hT : LAY T) (hP : T.1[p]? = some (4, 6)) (hf : zX2_cools n u p a1 = some q) : AW G d mX2_cools 0 [.ref p, .int a1] [] T u 0 0 (QS T q u) := by
  obtain ⟨d, rfl⟩ : ∃ e, d = e + 1 := ⟨d - 1, by omega⟩
  rw [zX2_cools] at hf
  refine A_aloadn (pc := 0) dX2_cools_0 rfl ?_
  refine A_getI (pc := 1) dX2_cools_1 gX2_9 hP (Nat.le_of_ble_eq_true rfl) rfl ?_
  by_cases c1 : (u p 0) = 2
  · have hf := oi_t c1 hf
    refine A_tabIn (pc := 4) 36 dX2_cools_4 (by rw [c1]; decide) (by rw [c1]; decide) (off := 32) (by rw [c1]; decide) (by decide) ?_
    refine A_iconst (pc := 36) 2 dX2_cools_36 rfl ?_
    refine A_iloadn (pc := 37) dX2_cools_37 rfl ?_
    refine A_iconst (pc := 38) 1 dX2_cools_38 rfl ?_
    refine A_iadd (pc := 39) dX2_cools_39 ?_
    refine A_imul (pc := 40) dX2_cools_40 ?_
    cases hf
    exact A_iret (pc := 41) dX2_cools_41 rfl rfl ⟨rfl, rfl, rfl⟩
  have hf := oi_f c1 hf
  by_cases c2 : (u p 0) = 4
  · have hf := oi_t c2 hf
    refine A_tabIn (pc := 4) 42 dX2_cools_4 (by rw [c2]; decide) (by rw [c2]; decide) (off := 38) (by rw [c2]; decide) (by decide) ?_
    refine A_iconst (pc := 42) 1 dX2_cools_42 rfl ?_
    refine A_iloadn (pc := 43) dX2_cools_43 rfl ?_
    refine A_mmax (pc := 44) dX2_cools_44 lX2_31 amax_1 oJ9 amax_3 (Nat.le_of_ble_eq_true rfl) ?_
    cases hf
    exact A_iret (pc := 47) dX2_cools_47 rfl rfl ⟨rfl, rfl, rfl⟩
  have hf := oi_f c2 hf
  by_cases c3 : (u p 0) = 5
  · have hf := oi_t c3 hf
    refine A_tabIn (pc := 4) 48 dX2_cools_4 (by rw [c3]; decide) (by rw [c3]; decide) (off := 44) (by rw [c3]; decide) (by decide) ?_
    refine A_iconst (pc := 48) 1 dX2_cools_48 rfl ?_
    cases hf
    exact A_iret (pc := 49) dX2_cools_49 rfl rfl ⟨rfl, rfl, rfl⟩
  have hf := oi_f c3 hf
  have ec1 : (u p 0).toInt ≠ 2 := fun h9 => c1 (Int32.toInt_inj.mp (h9.trans (by decide : (2 : Int) = (2 : Int32).toInt)))
  have ec2 : (u p 0).toInt ≠ 4 := fun h9 => c2 (Int32.toInt_inj.mp (h9.trans (by decide : (4 : Int) = (4 : Int32).toInt)))
  have ec3 : (u p 0).toInt ≠ 5 := fun h9 => c3 (Int32.toInt_inj.mp (h9.trans (by decide : (5 : Int) = (5 : Int32).toInt)))
  by_cases z3 : (u p 0) = 3
  · refine A_tabIn (pc := 4) 50 dX2_cools_4 (by rw [z3]; decide) (by rw [z3]; decide) (off := 46) (by rw [z3]; decide) (by decide) ?_
    refine A_iloadn (pc := 50) dX2_cools_50 rfl ?_
    refine A_iconst (pc := 51) 1 dX2_cools_51 rfl ?_
    refine A_iadd (pc := 52) dX2_cools_52 ?_
    cases hf
    exact A_iret (pc := 53) dX2_cools_53 rfl rfl ⟨rfl, rfl, rfl⟩
  have ez3 : (u p 0).toInt ≠ 3 := fun h9 => z3 (Int32.toInt_inj.mp (h9.trans (by decide : (3 : Int) = (3 : Int32).toInt)))
  refine A_tabOut (pc := 4) 50 dX2_cools_4 (by omega) (by decide) ?_
  refine A_iloadn (pc := 50) dX2_cools_50 rfl ?_
  refine A_iconst (pc := 51) 1 dX2_cools_51 rfl ?_
  refine A_iadd (pc := 52) dX2_cools_52 ?_
  cases hf
  exact A_iret (pc := 53) dX2_cools_53 rfl rfl ⟨rfl, rfl, rfl⟩
def zX2_minutes (n : Nat) (u : MU) (p : Nat) (a1 : Int32) : Option (Int32) := Option.bind (zX2_cools n u p a1) (fun q1 => if 1 ≤ q1 then (if q1 = 0 then none else some ((u p 4) / q1)) else (some 0))
set_option maxHeartbeats 4000000 in
set_option maxRecDepth 100000 in
theorem wX2_minutes {G : GG} {T : TT} {n d : Nat} (hd : 2 ≤ d) {q : Int32} {u : MU} {p : Nat} {a1 : Int32} (hT : LAY T) (hP : T.1[p]? = some (4, 6)) (hf : zX2_minutes n u p a1 = some q) : AW G d mX2_minutes 0 [.ref p, .int a1, .null] [] T u 0 0 (QS T q u) := by
  obtain ⟨d, rfl⟩ : ∃ e, d = e + 1 := ⟨d - 1, by omega⟩
  rw [zX2_minutes] at hf
  refine A_aloadn (pc := 0) dX2_minutes_0 rfl ?_
  refine A_iloadn (pc := 1) dX2_minutes_1 rfl ?_
  obtain ⟨q1, h2, hf⟩ := oi_b hf
  refine A_cV1i (pc := 2) dX2_minutes_2 lX2_37 fX2_cools vX2_cools hP rfl (Nat.le_of_ble_eq_true rfl) rfl (Nat.le_of_ble_eq_true rfl) (wX2_cools (by omega) hT hP h2) ?_
  refine A_istn (pc := 5) (L2 := [.ref p, .int a1, .int q1]) dX2_minutes_5 (Nat.le_of_ble_eq_true rfl) rfl ?_
  refine A_iloadn (pc := 6) dX2_minutes_6 rfl ?_
  refine A_iconst (pc := 7) 1 dX2_minutes_7 rfl ?_
  refine A_icmp_ge (pc := 8) 15 dX2_minutes_8 (by decide) (fun c3 => ?_) (fun c3 => ?_)
  · have hf := oi_t c3 hf
    refine A_aloadn (pc := 15) dX2_minutes_15 rfl ?_
    refine A_getI (pc := 16) dX2_minutes_16 gX2_24 hP (Nat.le_of_ble_eq_true rfl) rfl ?_
    refine A_iloadn (pc := 19) dX2_minutes_19 rfl ?_
    obtain ⟨h4, hf⟩ := oi_cf hf
    refine A_idiv (pc := 20) dX2_minutes_20 h4 ?_
    cases hf
    exact A_iret (pc := 21) dX2_minutes_21 rfl rfl ⟨rfl, rfl, rfl⟩
  have hf := oi_f c3 hf
  refine A_iconst (pc := 11) 0 dX2_minutes_11 rfl ?_
  refine A_goto (pc := 12) 21 dX2_minutes_12 (by decide) ?_
  cases hf
  exact A_iret (pc := 21) dX2_minutes_21 rfl rfl ⟨rfl, rfl, rfl⟩
def zX2_reaches (n : Nat) (u : MU) (p : Nat) : Option (Int32) := if (u p 0) = 1 then (some ((u p 2) + 2)) else if (u p 0) = 2 then (some ((u p 2) / 2)) else if (u p 0) = 3 then (some 99) else if (u p 0) = 4 then (some ((u p 2) + 2)) else if (u p 0) = 5 then (some ((u p 2) + 2)) else (some (u p 2))
set_option maxHeartbeats 4000000 in
set_option maxRecDepth 100000 in
theorem wX2_reaches {G : GG} {T : TT} {n d : Nat} (hd : 0 ≤ d) {q : Int32} {u : MU} {p : Nat} (hT : LAY T) (hP : T.1[p]? = some (4, 6)) (hf : zX2_reaches n u p = some q) : AW G d mX2_reaches 0 [.ref p] [] T u 0 0 (QS T q u) := by
  rw [zX2_reaches] at hf
  refine A_aloadn (pc := 0) dX2_reaches_0 rfl ?_
  refine A_getI (pc := 1) dX2_reaches_1 gX2_9 hP (Nat.le_of_ble_eq_true rfl) rfl ?_
  by_cases c1 : (u p 0) = 1
  · have hf := oi_t c1 hf
    refine A_tabIn (pc := 4) 40 dX2_reaches_4 (by rw [c1]; decide) (by rw [c1]; decide) (off := 36) (by rw [c1]; decide) (by decide) ?_
    refine A_aloadn (pc := 40) dX2_reaches_40 rfl ?_
    refine A_getI (pc := 41) dX2_reaches_41 gX2_18 hP (Nat.le_of_ble_eq_true rfl) rfl ?_
    refine A_iconst (pc := 44) 2 dX2_reaches_44 rfl ?_
    refine A_iadd (pc := 45) dX2_reaches_45 ?_
    cases hf
    exact A_iret (pc := 46) dX2_reaches_46 rfl rfl ⟨rfl, rfl, rfl⟩
  have hf := oi_f c1 hf
  by_cases c2 : (u p 0) = 2
  · have hf := oi_t c2 hf
    refine A_tabIn (pc := 4) 47 dX2_reaches_4 (by rw [c2]; decide) (by rw [c2]; decide) (off := 43) (by rw [c2]; decide) (by decide) ?_
    refine A_aloadn (pc := 47) dX2_reaches_47 rfl ?_
    refine A_getI (pc := 48) dX2_reaches_48 gX2_18 hP (Nat.le_of_ble_eq_true rfl) rfl ?_
    refine A_iconst (pc := 51) 2 dX2_reaches_51 rfl ?_
    refine A_idiv (pc := 52) dX2_reaches_52 (by decide) ?_
    cases hf
    exact A_iret (pc := 53) dX2_reaches_53 rfl rfl ⟨rfl, rfl, rfl⟩
  have hf := oi_f c2 hf
  by_cases c3 : (u p 0) = 3
  · have hf := oi_t c3 hf
    refine A_tabIn (pc := 4) 54 dX2_reaches_4 (by rw [c3]; decide) (by rw [c3]; decide) (off := 50) (by rw [c3]; decide) (by decide) ?_
    refine A_bipush (pc := 54) 99 dX2_reaches_54 rfl ?_
    cases hf
    exact A_iret (pc := 56) dX2_reaches_56 rfl rfl ⟨rfl, rfl, rfl⟩
  have hf := oi_f c3 hf
  by_cases c4 : (u p 0) = 4
  · have hf := oi_t c4 hf
    refine A_tabIn (pc := 4) 40 dX2_reaches_4 (by rw [c4]; decide) (by rw [c4]; decide) (off := 36) (by rw [c4]; decide) (by decide) ?_
    refine A_aloadn (pc := 40) dX2_reaches_40 rfl ?_
    refine A_getI (pc := 41) dX2_reaches_41 gX2_18 hP (Nat.le_of_ble_eq_true rfl) rfl ?_
    refine A_iconst (pc := 44) 2 dX2_reaches_44 rfl ?_
    refine A_iadd (pc := 45) dX2_reaches_45 ?_
    cases hf
    exact A_iret (pc := 46) dX2_reaches_46 rfl rfl ⟨rfl, rfl, rfl⟩
  have hf := oi_f c4 hf
  by_cases c5 : (u p 0) = 5
  · have hf := oi_t c5 hf
    refine A_tabIn (pc := 4) 40 dX2_reaches_4 (by rw [c5]; decide) (by rw [c5]; decide) (off := 36) (by rw [c5]; decide) (by decide) ?_
    refine A_aloadn (pc := 40) dX2_reaches_40 rfl ?_
    refine A_getI (pc := 41) dX2_reaches_41 gX2_18 hP (Nat.le_of_ble_eq_true rfl) rfl ?_
    refine A_iconst (pc := 44) 2 dX2_reaches_44 rfl ?_
    refine A_iadd (pc := 45) dX2_reaches_45 ?_
    cases hf
    exact A_iret (pc := 46) dX2_reaches_46 rfl rfl ⟨rfl, rfl, rfl⟩
  have hf := oi_f c5 hf
  have ec1 : (u p 0).toInt ≠ 1 := fun h9 => c1 (Int32.toInt_inj.mp (h9.trans (by decide : (1 : Int) = (1 : Int32).toInt)))
  have ec2 : (u p 0).toInt ≠ 2 := fun h9 => c2 (Int32.toInt_inj.mp (h9.trans (by decide : (2 : Int) = (2 : Int32).toInt)))
  have ec3 : (u p 0).toInt ≠ 3 := fun h9 => c3 (Int32.toInt_inj.mp (h9.trans (by decide : (3 : Int) = (3 : Int32).toInt)))
  have ec4 : (u p 0).toInt ≠ 4 := fun h9 => c4 (Int32.toInt_inj.mp (h9.trans (by decide : (4 : Int) = (4 : Int32).toInt)))
  have ec5 : (u p 0).toInt ≠ 5 := fun h9 => c5 (Int32.toInt_inj.mp (h9.trans (by decide : (5 : Int) = (5 : Int32).toInt)))
  refine A_tabOut (pc := 4) 57 dX2_reaches_4 (by omega) (by decide) ?_
  refine A_aloadn (pc := 57) dX2_reaches_57 rfl ?_
  refine A_getI (pc := 58) dX2_reaches_58 gX2_18 hP (Nat.le_of_ble_eq_true rfl) rfl ?_
  cases hf
  exact A_iret (pc := 61) dX2_reaches_61 rfl rfl ⟨rfl, rfl, rfl⟩
def zX2_holds (n : Nat) (u : MU) (p : Nat) : Option (Int32) := if (u p 0) = 2 then (some (if 0 < ((u p 3) - 2) then ((u p 3) - 2) else 0)) else if (u p 0) = 3 then (some ((u p 3) / 2)) else if (u p 0) = 4 then (some ((u p 3) + (u p 1))) else if (u p 0) = 5 then (some ((u p 3) + (u p 1))) else (some (u p 3))
set_option maxHeartbeats 4000000 in
set_option maxRecDepth 100000 in
theorem wX2_holds {G : GG} {T : TT} {n d : Nat} (hd : 1 ≤ d) {q : Int32} {u : MU} {p : Nat} (hT : LAY T) (hP : T.1[p]? = some (4, 6)) (hf : zX2_holds n u p = some q) : AW G d mX2_holds 0 [.ref p] [] T u 0 0 (QS T q u) := by
  obtain ⟨d, rfl⟩ : ∃ e, d = e + 1 := ⟨d - 1, by omega⟩
  rw [zX2_holds] at hf
  refine A_aloadn (pc := 0) dX2_holds_0 rfl ?_
  refine A_getI (pc := 1) dX2_holds_1 gX2_9 hP (Nat.le_of_ble_eq_true rfl) rfl ?_
  by_cases c1 : (u p 0) = 2
  · have hf := oi_t c1 hf
    refine A_tabIn (pc := 4) 36 dX2_holds_4 (by rw [c1]; decide) (by rw [c1]; decide) (off := 32) (by rw [c1]; decide) (by decide) ?_
    refine A_iconst (pc := 36) 0 dX2_holds_36 rfl ?_
    refine A_aloadn (pc := 37) dX2_holds_37 rfl ?_
    refine A_getI (pc := 38) dX2_holds_38 gX2_21 hP (Nat.le_of_ble_eq_true rfl) rfl ?_
    refine A_iconst (pc := 41) 2 dX2_holds_41 rfl ?_
    refine A_isub (pc := 42) dX2_holds_42 ?_
    refine A_mmax (pc := 43) dX2_holds_43 lX2_31 amax_1 oJ9 amax_3 (Nat.le_of_ble_eq_true rfl) ?_
    cases hf
    exact A_iret (pc := 46) dX2_holds_46 rfl rfl ⟨rfl, rfl, rfl⟩
  have hf := oi_f c1 hf
  by_cases c2 : (u p 0) = 3
  · have hf := oi_t c2 hf
    refine A_tabIn (pc := 4) 47 dX2_holds_4 (by rw [c2]; decide) (by rw [c2]; decide) (off := 43) (by rw [c2]; decide) (by decide) ?_
    refine A_aloadn (pc := 47) dX2_holds_47 rfl ?_
    refine A_getI (pc := 48) dX2_holds_48 gX2_21 hP (Nat.le_of_ble_eq_true rfl) rfl ?_
    refine A_iconst (pc := 51) 2 dX2_holds_51 rfl ?_
    refine A_idiv (pc := 52) dX2_holds_52 (by decide) ?_
    cases hf
    exact A_iret (pc := 53) dX2_holds_53 rfl rfl ⟨rfl, rfl, rfl⟩
  have hf := oi_f c2 hf
  by_cases c3 : (u p 0) = 4
  · have hf := oi_t c3 hf
    refine A_tabIn (pc := 4) 54 dX2_holds_4 (by rw [c3]; decide) (by rw [c3]; decide) (off := 50) (by rw [c3]; decide) (by decide) ?_
    refine A_aloadn (pc := 54) dX2_holds_54 rfl ?_
    refine A_getI (pc := 55) dX2_holds_55 gX2_21 hP (Nat.le_of_ble_eq_true rfl) rfl ?_
    refine A_aloadn (pc := 58) dX2_holds_58 rfl ?_
    refine A_getI (pc := 59) dX2_holds_59 gX2_15 hP (Nat.le_of_ble_eq_true rfl) rfl ?_
    refine A_iadd (pc := 62) dX2_holds_62 ?_
    cases hf
    exact A_iret (pc := 63) dX2_holds_63 rfl rfl ⟨rfl, rfl, rfl⟩
  have hf := oi_f c3 hf
  by_cases c4 : (u p 0) = 5
  · have hf := oi_t c4 hf
    refine A_tabIn (pc := 4) 54 dX2_holds_4 (by rw [c4]; decide) (by rw [c4]; decide) (off := 50) (by rw [c4]; decide) (by decide) ?_
    refine A_aloadn (pc := 54) dX2_holds_54 rfl ?_
    refine A_getI (pc := 55) dX2_holds_55 gX2_21 hP (Nat.le_of_ble_eq_true rfl) rfl ?_
    refine A_aloadn (pc := 58) dX2_holds_58 rfl ?_
    refine A_getI (pc := 59) dX2_holds_59 gX2_15 hP (Nat.le_of_ble_eq_true rfl) rfl ?_
    refine A_iadd (pc := 62) dX2_holds_62 ?_
    cases hf
    exact A_iret (pc := 63) dX2_holds_63 rfl rfl ⟨rfl, rfl, rfl⟩
  have hf := oi_f c4 hf
  have ec1 : (u p 0).toInt ≠ 2 := fun h9 => c1 (Int32.toInt_inj.mp (h9.trans (by decide : (2 : Int) = (2 : Int32).toInt)))
  have ec2 : (u p 0).toInt ≠ 3 := fun h9 => c2 (Int32.toInt_inj.mp (h9.trans (by decide : (3 : Int) = (3 : Int32).toInt)))
  have ec3 : (u p 0).toInt ≠ 4 := fun h9 => c3 (Int32.toInt_inj.mp (h9.trans (by decide : (4 : Int) = (4 : Int32).toInt)))
  have ec4 : (u p 0).toInt ≠ 5 := fun h9 => c4 (Int32.toInt_inj.mp (h9.trans (by decide : (5 : Int) = (5 : Int32).toInt)))
  refine A_tabOut (pc := 4) 64 dX2_holds_4 (by omega) (by decide) ?_
  refine A_aloadn (pc := 64) dX2_holds_64 rfl ?_
  refine A_getI (pc := 65) dX2_holds_65 gX2_21 hP (Nat.le_of_ble_eq_true rfl) rfl ?_
  cases hf
  exact A_iret (pc := 68) dX2_holds_68 rfl rfl ⟨rfl, rfl, rfl⟩
def zX2_copyFrom (n : Nat) (u : MU) (p : Nat) (p1 : Nat) : Option (MU) := letb (up2 u p 0 (u p1 0)) (fun u1 => letb (up2 u1 p 1 (u1 p1 1)) (fun u2 => letb (up2 u2 p 2 (u2 p1 2)) (fun u3 => letb (up2 u3 p 3 (u3 p1 3)) (fun u4 => letb (up2 u4 p 4 (u4 p1 4)) (fun u5 => if (u5 p1 5) = 0 ∨ (u5 p1 5) = 1 then (letb (up2 u5 p 5 (u5 p1 5)) (fun u7 => some u7)) else none)))))
set_option maxHeartbeats 4000000 in
set_option maxRecDepth 100000 in
theorem wX2_copyFrom {G : GG} {T : TT} {n d : Nat} (hd : 0 ≤ d) {q : MU} {u : MU} {p : Nat} {p1 : Nat} (hT : LAY T) (hP : T.1[p]? = some (4, 6)) (hP1 : T.1[p1]? = some (4, 6)) (hf : zX2_copyFrom n u p p1 = some q) : AW G d mX2_copyFrom 0 [.ref p, .ref p1] [] T u 0 0 (QV T q) := by
  rw [zX2_copyFrom] at hf
  refine A_aloadn (pc := 0) dX2_copyFrom_0 rfl ?_
  refine A_aloadn (pc := 1) dX2_copyFrom_1 rfl ?_
  refine A_getI (pc := 2) dX2_copyFrom_2 gX2_9 hP1 (Nat.le_of_ble_eq_true rfl) rfl ?_
  have hf := oi_l hf
  refine A_putI (pc := 5) dX2_copyFrom_5 gX2_9 hP (Nat.le_of_ble_eq_true rfl) rfl rfl rfl rfl ?_
  refine A_aloadn (pc := 8) dX2_copyFrom_8 rfl ?_
  refine A_aloadn (pc := 9) dX2_copyFrom_9 rfl ?_
  refine A_getI (pc := 10) dX2_copyFrom_10 gX2_15 hP1 (Nat.le_of_ble_eq_true rfl) rfl ?_
  have hf := oi_l hf
  refine A_putI (pc := 13) dX2_copyFrom_13 gX2_15 hP (Nat.le_of_ble_eq_true rfl) rfl rfl rfl rfl ?_
  refine A_aloadn (pc := 16) dX2_copyFrom_16 rfl ?_
  refine A_aloadn (pc := 17) dX2_copyFrom_17 rfl ?_
  refine A_getI (pc := 18) dX2_copyFrom_18 gX2_18 hP1 (Nat.le_of_ble_eq_true rfl) rfl ?_
  have hf := oi_l hf
  refine A_putI (pc := 21) dX2_copyFrom_21 gX2_18 hP (Nat.le_of_ble_eq_true rfl) rfl rfl rfl rfl ?_
  refine A_aloadn (pc := 24) dX2_copyFrom_24 rfl ?_
  refine A_aloadn (pc := 25) dX2_copyFrom_25 rfl ?_
  refine A_getI (pc := 26) dX2_copyFrom_26 gX2_21 hP1 (Nat.le_of_ble_eq_true rfl) rfl ?_
  have hf := oi_l hf
  refine A_putI (pc := 29) dX2_copyFrom_29 gX2_21 hP (Nat.le_of_ble_eq_true rfl) rfl rfl rfl rfl ?_
  refine A_aloadn (pc := 32) dX2_copyFrom_32 rfl ?_
  refine A_aloadn (pc := 33) dX2_copyFrom_33 rfl ?_
  refine A_getI (pc := 34) dX2_copyFrom_34 gX2_24 hP1 (Nat.le_of_ble_eq_true rfl) rfl ?_
  have hf := oi_l hf
  refine A_putI (pc := 37) dX2_copyFrom_37 gX2_24 hP (Nat.le_of_ble_eq_true rfl) rfl rfl rfl rfl ?_
  refine A_aloadn (pc := 40) dX2_copyFrom_40 rfl ?_
  refine A_aloadn (pc := 41) dX2_copyFrom_41 rfl ?_
  refine A_getI (pc := 42) dX2_copyFrom_42 gX2_27 hP1 (Nat.le_of_ble_eq_true rfl) rfl ?_
  obtain ⟨h6, hf⟩ := oi_ck hf
  have hf := oi_l hf
  refine A_putI (pc := 45) dX2_copyFrom_45 gX2_27 hP (Nat.le_of_ble_eq_true rfl) rfl rfl (bck_n h6) (bck_f h6) ?_
  cases hf
  exact A_vret (pc := 48) dX2_copyFrom_48 rfl ⟨rfl, rfl, rfl⟩
end
