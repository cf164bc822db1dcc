-- ===== PART A: goes FIRST, ahead of the names: the tables' words, and 'selects' of the private methods out of them =====
/-- a private method of a class that the tables say can be made, by its rows of tables_1 -/
def lw_okq (q : MethodName × Nat) : Prop := (q.1.cls ≠ "java/lang/invoke/MethodHandle" ∧ q.1.cls ≠ "java/lang/invoke/VarHandle") ∧ Cond.instantiable q.1.cls q.2 ∈ tables_1 ∧ Cond.privateMethod q.1 ∈ tables_1 ∧ Cond.instanceMethod q.1 ∈ tables_1
theorem lw_p0 : lw_okq (⟨"OverByTheHand", "refuse", "(I)I"⟩, 9) := ⟨⟨by decide +kernel, by decide +kernel⟩, List.mem_of_getElem? (i := 11) (by decide +kernel), List.mem_of_getElem? (i := 191) (by decide +kernel), List.mem_of_getElem? (i := 192) (by decide +kernel)⟩
theorem lw_p1 : lw_okq (⟨"OverByTheHand$Letters", "take", "(I)V"⟩, 2) := ⟨⟨by decide +kernel, by decide +kernel⟩, List.mem_of_getElem? (i := 109) (by decide +kernel), List.mem_of_getElem? (i := 195) (by decide +kernel), List.mem_of_getElem? (i := 196) (by decide +kernel)⟩
theorem lw_p2 : lw_okq (⟨"OverByTheHand", "tellRiver", "()I"⟩, 9) := ⟨⟨by decide +kernel, by decide +kernel⟩, List.mem_of_getElem? (i := 11) (by decide +kernel), List.mem_of_getElem? (i := 203) (by decide +kernel), List.mem_of_getElem? (i := 204) (by decide +kernel)⟩
theorem lw_p3 : lw_okq (⟨"OverByTheHand$Letters", "firstWrong", "()I"⟩, 2) := ⟨⟨by decide +kernel, by decide +kernel⟩, List.mem_of_getElem? (i := 109) (by decide +kernel), List.mem_of_getElem? (i := 207) (by decide +kernel), List.mem_of_getElem? (i := 208) (by decide +kernel)⟩
theorem lw_p4 : lw_okq (⟨"OverByTheHand$Letters", "endOf", "(I)I"⟩, 2) := ⟨⟨by decide +kernel, by decide +kernel⟩, List.mem_of_getElem? (i := 109) (by decide +kernel), List.mem_of_getElem? (i := 211) (by decide +kernel), List.mem_of_getElem? (i := 212) (by decide +kernel)⟩
theorem lw_p5 : lw_okq (⟨"OverByTheHand$Letters", "at", "(I)I"⟩, 2) := ⟨⟨by decide +kernel, by decide +kernel⟩, List.mem_of_getElem? (i := 109) (by decide +kernel), List.mem_of_getElem? (i := 215) (by decide +kernel), List.mem_of_getElem? (i := 216) (by decide +kernel)⟩
theorem lw_p6 : lw_okq (⟨"OverByTheHand$Letters", "digitsFrom", "(II)I"⟩, 2) := ⟨⟨by decide +kernel, by decide +kernel⟩, List.mem_of_getElem? (i := 109) (by decide +kernel), List.mem_of_getElem? (i := 225) (by decide +kernel), List.mem_of_getElem? (i := 226) (by decide +kernel)⟩
theorem lw_p7 : lw_okq (⟨"OverByTheHand$Letters", "isDigit", "(I)Z"⟩, 2) := ⟨⟨by decide +kernel, by decide +kernel⟩, List.mem_of_getElem? (i := 109) (by decide +kernel), List.mem_of_getElem? (i := 229) (by decide +kernel), List.mem_of_getElem? (i := 230) (by decide +kernel)⟩
theorem lw_p8 : lw_okq (⟨"OverByTheHand$River", "copyFrom", "(LOverByTheHand$River;)V"⟩, 10) := ⟨⟨by decide +kernel, by decide +kernel⟩, List.mem_of_getElem? (i := 19) (by decide +kernel), List.mem_of_getElem? (i := 233) (by decide +kernel), List.mem_of_getElem? (i := 234) (by decide +kernel)⟩
theorem lw_p9 : lw_okq (⟨"OverByTheHand$Person", "copyFrom", "(LOverByTheHand$Person;)V"⟩, 6) := ⟨⟨by decide +kernel, by decide +kernel⟩, List.mem_of_getElem? (i := 26) (by decide +kernel), List.mem_of_getElem? (i := 240) (by decide +kernel), List.mem_of_getElem? (i := 241) (by decide +kernel)⟩
theorem lw_p10 : lw_okq (⟨"OverByTheHand$Letters", "tellTo", "(LOverByTheHand$River;)I"⟩, 2) := ⟨⟨by decide +kernel, by decide +kernel⟩, List.mem_of_getElem? (i := 109) (by decide +kernel), List.mem_of_getElem? (i := 244) (by decide +kernel), List.mem_of_getElem? (i := 245) (by decide +kernel)⟩
theorem lw_p11 : lw_okq (⟨"OverByTheHand$Letters", "tellStatement", "(LOverByTheHand$River;I)Z"⟩, 2) := ⟨⟨by decide +kernel, by decide +kernel⟩, List.mem_of_getElem? (i := 109) (by decide +kernel), List.mem_of_getElem? (i := 248) (by decide +kernel), List.mem_of_getElem? (i := 249) (by decide +kernel)⟩
theorem lw_p12 : lw_okq (⟨"OverByTheHand$Letters", "digit", "(I)I"⟩, 2) := ⟨⟨by decide +kernel, by decide +kernel⟩, List.mem_of_getElem? (i := 109) (by decide +kernel), List.mem_of_getElem? (i := 252) (by decide +kernel), List.mem_of_getElem? (i := 253) (by decide +kernel)⟩
theorem lw_p13 : lw_okq (⟨"OverByTheHand$River", "tellYards", "(I)Z"⟩, 10) := ⟨⟨by decide +kernel, by decide +kernel⟩, List.mem_of_getElem? (i := 19) (by decide +kernel), List.mem_of_getElem? (i := 256) (by decide +kernel), List.mem_of_getElem? (i := 257) (by decide +kernel)⟩
theorem lw_p14 : lw_okq (⟨"OverByTheHand$River", "emptyWater", "()V"⟩, 10) := ⟨⟨by decide +kernel, by decide +kernel⟩, List.mem_of_getElem? (i := 19) (by decide +kernel), List.mem_of_getElem? (i := 260) (by decide +kernel), List.mem_of_getElem? (i := 261) (by decide +kernel)⟩
theorem lw_p15 : lw_okq (⟨"OverByTheHand$River", "tellYard", "(III)Z"⟩, 10) := ⟨⟨by decide +kernel, by decide +kernel⟩, List.mem_of_getElem? (i := 19) (by decide +kernel), List.mem_of_getElem? (i := 264) (by decide +kernel), List.mem_of_getElem? (i := 265) (by decide +kernel)⟩
def lw_privs_1 : List (MethodName × Nat) := [(⟨"OverByTheHand", "refuse", "(I)I"⟩, 9), (⟨"OverByTheHand$Letters", "take", "(I)V"⟩, 2), (⟨"OverByTheHand", "tellRiver", "()I"⟩, 9), (⟨"OverByTheHand$Letters", "firstWrong", "()I"⟩, 2), (⟨"OverByTheHand$Letters", "endOf", "(I)I"⟩, 2), (⟨"OverByTheHand$Letters", "at", "(I)I"⟩, 2), (⟨"OverByTheHand$Letters", "digitsFrom", "(II)I"⟩, 2), (⟨"OverByTheHand$Letters", "isDigit", "(I)Z"⟩, 2), (⟨"OverByTheHand$River", "copyFrom", "(LOverByTheHand$River;)V"⟩, 10), (⟨"OverByTheHand$Person", "copyFrom", "(LOverByTheHand$Person;)V"⟩, 6), (⟨"OverByTheHand$Letters", "tellTo", "(LOverByTheHand$River;)I"⟩, 2), (⟨"OverByTheHand$Letters", "tellStatement", "(LOverByTheHand$River;I)Z"⟩, 2), (⟨"OverByTheHand$Letters", "digit", "(I)I"⟩, 2), (⟨"OverByTheHand$River", "tellYards", "(I)Z"⟩, 10), (⟨"OverByTheHand$River", "emptyWater", "()V"⟩, 10), (⟨"OverByTheHand$River", "tellYard", "(III)Z"⟩, 10)]
theorem lw_r1 : ∀ q ∈ lw_privs_1, lw_okq q := List.forall_mem_cons.mpr ⟨lw_p0, List.forall_mem_cons.mpr ⟨lw_p1, List.forall_mem_cons.mpr ⟨lw_p2, List.forall_mem_cons.mpr ⟨lw_p3, List.forall_mem_cons.mpr ⟨lw_p4, List.forall_mem_cons.mpr ⟨lw_p5, List.forall_mem_cons.mpr ⟨lw_p6, List.forall_mem_cons.mpr ⟨lw_p7, List.forall_mem_cons.mpr ⟨lw_p8, List.forall_mem_cons.mpr ⟨lw_p9, List.forall_mem_cons.mpr ⟨lw_p10, List.forall_mem_cons.mpr ⟨lw_p11, List.forall_mem_cons.mpr ⟨lw_p12, List.forall_mem_cons.mpr ⟨lw_p13, List.forall_mem_cons.mpr ⟨lw_p14, List.forall_mem_cons.mpr ⟨lw_p15, fun _ h => absurd h List.not_mem_nil⟩⟩⟩⟩⟩⟩⟩⟩⟩⟩⟩⟩⟩⟩⟩⟩
theorem lw_p16 : lw_okq (⟨"OverByTheHand$River", "isYard", "(I)Z"⟩, 10) := ⟨⟨by decide +kernel, by decide +kernel⟩, List.mem_of_getElem? (i := 19) (by decide +kernel), List.mem_of_getElem? (i := 268) (by decide +kernel), List.mem_of_getElem? (i := 269) (by decide +kernel)⟩
theorem lw_p17 : lw_okq (⟨"OverByTheHand$Letters", "warmthAt", "(I)I"⟩, 2) := ⟨⟨by decide +kernel, by decide +kernel⟩, List.mem_of_getElem? (i := 109) (by decide +kernel), List.mem_of_getElem? (i := 272) (by decide +kernel), List.mem_of_getElem? (i := 273) (by decide +kernel)⟩
theorem lw_p18 : lw_okq (⟨"OverByTheHand$River", "tellPerson", "(IIIII)Z"⟩, 10) := ⟨⟨by decide +kernel, by decide +kernel⟩, List.mem_of_getElem? (i := 19) (by decide +kernel), List.mem_of_getElem? (i := 276) (by decide +kernel), List.mem_of_getElem? (i := 277) (by decide +kernel)⟩
theorem lw_p19 : lw_okq (⟨"OverByTheHand$River", "tellGrudge", "(II)Z"⟩, 10) := ⟨⟨by decide +kernel, by decide +kernel⟩, List.mem_of_getElem? (i := 19) (by decide +kernel), List.mem_of_getElem? (i := 280) (by decide +kernel), List.mem_of_getElem? (i := 281) (by decide +kernel)⟩
theorem lw_p20 : lw_okq (⟨"OverByTheHand$River", "areTwo", "(II)Z"⟩, 10) := ⟨⟨by decide +kernel, by decide +kernel⟩, List.mem_of_getElem? (i := 19) (by decide +kernel), List.mem_of_getElem? (i := 284) (by decide +kernel), List.mem_of_getElem? (i := 285) (by decide +kernel)⟩
theorem lw_p21 : lw_okq (⟨"OverByTheHand$River", "isPerson", "(I)Z"⟩, 10) := ⟨⟨by decide +kernel, by decide +kernel⟩, List.mem_of_getElem? (i := 19) (by decide +kernel), List.mem_of_getElem? (i := 288) (by decide +kernel), List.mem_of_getElem? (i := 289) (by decide +kernel)⟩
theorem lw_p22 : lw_okq (⟨"OverByTheHand$River", "grudgeOf", "(II)I"⟩, 10) := ⟨⟨by decide +kernel, by decide +kernel⟩, List.mem_of_getElem? (i := 19) (by decide +kernel), List.mem_of_getElem? (i := 292) (by decide +kernel), List.mem_of_getElem? (i := 293) (by decide +kernel)⟩
theorem lw_p23 : lw_okq (⟨"OverByTheHand$River", "setGrudge", "(III)V"⟩, 10) := ⟨⟨by decide +kernel, by decide +kernel⟩, List.mem_of_getElem? (i := 19) (by decide +kernel), List.mem_of_getElem? (i := 296) (by decide +kernel), List.mem_of_getElem? (i := 297) (by decide +kernel)⟩
theorem lw_p24 : lw_okq (⟨"OverByTheHand$River", "tellIn", "(II)Z"⟩, 10) := ⟨⟨by decide +kernel, by decide +kernel⟩, List.mem_of_getElem? (i := 19) (by decide +kernel), List.mem_of_getElem? (i := 300) (by decide +kernel), List.mem_of_getElem? (i := 301) (by decide +kernel)⟩
theorem lw_p25 : lw_okq (⟨"OverByTheHand$River", "enter", "(II)V"⟩, 10) := ⟨⟨by decide +kernel, by decide +kernel⟩, List.mem_of_getElem? (i := 19) (by decide +kernel), List.mem_of_getElem? (i := 304) (by decide +kernel), List.mem_of_getElem? (i := 305) (by decide +kernel)⟩
theorem lw_p26 : lw_okq (⟨"OverByTheHand$Person", "reaches", "()I"⟩, 6) := ⟨⟨by decide +kernel, by decide +kernel⟩, List.mem_of_getElem? (i := 26) (by decide +kernel), List.mem_of_getElem? (i := 318) (by decide +kernel), List.mem_of_getElem? (i := 319) (by decide +kernel)⟩
theorem lw_p27 : lw_okq (⟨"OverByTheHand$Person", "holds", "()I"⟩, 6) := ⟨⟨by decide +kernel, by decide +kernel⟩, List.mem_of_getElem? (i := 26) (by decide +kernel), List.mem_of_getElem? (i := 322) (by decide +kernel), List.mem_of_getElem? (i := 323) (by decide +kernel)⟩
theorem lw_p28 : lw_okq (⟨"OverByTheHand$Person", "cools", "(I)I"⟩, 6) := ⟨⟨by decide +kernel, by decide +kernel⟩, List.mem_of_getElem? (i := 26) (by decide +kernel), List.mem_of_getElem? (i := 329) (by decide +kernel), List.mem_of_getElem? (i := 330) (by decide +kernel)⟩
theorem lw_p29 : lw_okq (⟨"OverByTheHand$River", "placeOf", "(I)I"⟩, 10) := ⟨⟨by decide +kernel, by decide +kernel⟩, List.mem_of_getElem? (i := 19) (by decide +kernel), List.mem_of_getElem? (i := 333) (by decide +kernel), List.mem_of_getElem? (i := 334) (by decide +kernel)⟩
theorem lw_p30 : lw_okq (⟨"OverByTheHand$River", "inWater", "()I"⟩, 10) := ⟨⟨by decide +kernel, by decide +kernel⟩, List.mem_of_getElem? (i := 19) (by decide +kernel), List.mem_of_getElem? (i := 361) (by decide +kernel), List.mem_of_getElem? (i := 362) (by decide +kernel)⟩
theorem lw_p31 : lw_okq (⟨"OverByTheHand$River", "overThere", "()I"⟩, 10) := ⟨⟨by decide +kernel, by decide +kernel⟩, List.mem_of_getElem? (i := 19) (by decide +kernel), List.mem_of_getElem? (i := 365) (by decide +kernel), List.mem_of_getElem? (i := 366) (by decide +kernel)⟩
def lw_privs_2 : List (MethodName × Nat) := [(⟨"OverByTheHand$River", "isYard", "(I)Z"⟩, 10), (⟨"OverByTheHand$Letters", "warmthAt", "(I)I"⟩, 2), (⟨"OverByTheHand$River", "tellPerson", "(IIIII)Z"⟩, 10), (⟨"OverByTheHand$River", "tellGrudge", "(II)Z"⟩, 10), (⟨"OverByTheHand$River", "areTwo", "(II)Z"⟩, 10), (⟨"OverByTheHand$River", "isPerson", "(I)Z"⟩, 10), (⟨"OverByTheHand$River", "grudgeOf", "(II)I"⟩, 10), (⟨"OverByTheHand$River", "setGrudge", "(III)V"⟩, 10), (⟨"OverByTheHand$River", "tellIn", "(II)Z"⟩, 10), (⟨"OverByTheHand$River", "enter", "(II)V"⟩, 10), (⟨"OverByTheHand$Person", "reaches", "()I"⟩, 6), (⟨"OverByTheHand$Person", "holds", "()I"⟩, 6), (⟨"OverByTheHand$Person", "cools", "(I)I"⟩, 6), (⟨"OverByTheHand$River", "placeOf", "(I)I"⟩, 10), (⟨"OverByTheHand$River", "inWater", "()I"⟩, 10), (⟨"OverByTheHand$River", "overThere", "()I"⟩, 10)]
theorem lw_r2 : ∀ q ∈ lw_privs_2, lw_okq q := List.forall_mem_cons.mpr ⟨lw_p16, List.forall_mem_cons.mpr ⟨lw_p17, List.forall_mem_cons.mpr ⟨lw_p18, List.forall_mem_cons.mpr ⟨lw_p19, List.forall_mem_cons.mpr ⟨lw_p20, List.forall_mem_cons.mpr ⟨lw_p21, List.forall_mem_cons.mpr ⟨lw_p22, List.forall_mem_cons.mpr ⟨lw_p23, List.forall_mem_cons.mpr ⟨lw_p24, List.forall_mem_cons.mpr ⟨lw_p25, List.forall_mem_cons.mpr ⟨lw_p26, List.forall_mem_cons.mpr ⟨lw_p27, List.forall_mem_cons.mpr ⟨lw_p28, List.forall_mem_cons.mpr ⟨lw_p29, List.forall_mem_cons.mpr ⟨lw_p30, List.forall_mem_cons.mpr ⟨lw_p31, fun _ h => absurd h List.not_mem_nil⟩⟩⟩⟩⟩⟩⟩⟩⟩⟩⟩⟩⟩⟩⟩⟩
theorem lw_p32 : lw_okq (⟨"OverByTheHand$River", "loadOf", "(I)I"⟩, 10) := ⟨⟨by decide +kernel, by decide +kernel⟩, List.mem_of_getElem? (i := 19) (by decide +kernel), List.mem_of_getElem? (i := 374) (by decide +kernel), List.mem_of_getElem? (i := 375) (by decide +kernel)⟩
theorem lw_p33 : lw_okq (⟨"OverByTheHand$River", "firstSlip", "([I)I"⟩, 10) := ⟨⟨by decide +kernel, by decide +kernel⟩, List.mem_of_getElem? (i := 19) (by decide +kernel), List.mem_of_getElem? (i := 385) (by decide +kernel), List.mem_of_getElem? (i := 386) (by decide +kernel)⟩
theorem lw_p34 : lw_okq (⟨"OverByTheHand$River", "whySlips", "([II)I"⟩, 10) := ⟨⟨by decide +kernel, by decide +kernel⟩, List.mem_of_getElem? (i := 19) (by decide +kernel), List.mem_of_getElem? (i := 389) (by decide +kernel), List.mem_of_getElem? (i := 390) (by decide +kernel)⟩
theorem lw_p35 : lw_okq (⟨"OverByTheHand$River", "whyNot", "(II)I"⟩, 10) := ⟨⟨by decide +kernel, by decide +kernel⟩, List.mem_of_getElem? (i := 19) (by decide +kernel), List.mem_of_getElem? (i := 393) (by decide +kernel), List.mem_of_getElem? (i := 394) (by decide +kernel)⟩
theorem lw_p36 : lw_okq (⟨"OverByTheHand$River", "minutesOf", "([I)I"⟩, 10) := ⟨⟨by decide +kernel, by decide +kernel⟩, List.mem_of_getElem? (i := 19) (by decide +kernel), List.mem_of_getElem? (i := 406) (by decide +kernel), List.mem_of_getElem? (i := 407) (by decide +kernel)⟩
theorem lw_p37 : lw_okq (⟨"OverByTheHand$Person", "minutes", "(I)I"⟩, 6) := ⟨⟨by decide +kernel, by decide +kernel⟩, List.mem_of_getElem? (i := 26) (by decide +kernel), List.mem_of_getElem? (i := 412) (by decide +kernel), List.mem_of_getElem? (i := 413) (by decide +kernel)⟩
theorem lw_p38 : lw_okq (⟨"OverByTheHand$River", "isNear", "(I)Z"⟩, 10) := ⟨⟨by decide +kernel, by decide +kernel⟩, List.mem_of_getElem? (i := 19) (by decide +kernel), List.mem_of_getElem? (i := 421) (by decide +kernel), List.mem_of_getElem? (i := 422) (by decide +kernel)⟩
theorem lw_p39 : lw_okq (⟨"OverByTheHand$River", "bringOver", "(I)V"⟩, 10) := ⟨⟨by decide +kernel, by decide +kernel⟩, List.mem_of_getElem? (i := 19) (by decide +kernel), List.mem_of_getElem? (i := 426) (by decide +kernel), List.mem_of_getElem? (i := 427) (by decide +kernel)⟩
theorem lw_p40 : lw_okq (⟨"OverByTheHand$River", "hoursOf", "(II)I"⟩, 10) := ⟨⟨by decide +kernel, by decide +kernel⟩, List.mem_of_getElem? (i := 19) (by decide +kernel), List.mem_of_getElem? (i := 431) (by decide +kernel), List.mem_of_getElem? (i := 432) (by decide +kernel)⟩
theorem lw_p41 : lw_okq (⟨"OverByTheHand$River", "setHours", "(III)V"⟩, 10) := ⟨⟨by decide +kernel, by decide +kernel⟩, List.mem_of_getElem? (i := 19) (by decide +kernel), List.mem_of_getElem? (i := 435) (by decide +kernel), List.mem_of_getElem? (i := 436) (by decide +kernel)⟩
theorem lw_p42 : lw_okq (⟨"OverByTheHand$River", "notOver", "()I"⟩, 10) := ⟨⟨by decide +kernel, by decide +kernel⟩, List.mem_of_getElem? (i := 19) (by decide +kernel), List.mem_of_getElem? (i := 443) (by decide +kernel), List.mem_of_getElem? (i := 444) (by decide +kernel)⟩
theorem lw_p43 : lw_okq (⟨"OverByTheHand$Mind", "thinkOf", "(LOverByTheHand$River;I)V"⟩, 8) := ⟨⟨by decide +kernel, by decide +kernel⟩, List.mem_of_getElem? (i := 123) (by decide +kernel), List.mem_of_getElem? (i := 447) (by decide +kernel), List.mem_of_getElem? (i := 448) (by decide +kernel)⟩
theorem lw_p44 : lw_okq (⟨"OverByTheHand$Mind", "ableIn", "(LOverByTheHand$River;I)I"⟩, 8) := ⟨⟨by decide +kernel, by decide +kernel⟩, List.mem_of_getElem? (i := 123) (by decide +kernel), List.mem_of_getElem? (i := 452) (by decide +kernel), List.mem_of_getElem? (i := 453) (by decide +kernel)⟩
theorem lw_p45 : lw_okq (⟨"OverByTheHand$Mind", "extend", "(LOverByTheHand$River;IIII)V"⟩, 8) := ⟨⟨by decide +kernel, by decide +kernel⟩, List.mem_of_getElem? (i := 123) (by decide +kernel), List.mem_of_getElem? (i := 458) (by decide +kernel), List.mem_of_getElem? (i := 459) (by decide +kernel)⟩
theorem lw_p46 : lw_okq (⟨"OverByTheHand$Mind", "weigh", "(III)V"⟩, 8) := ⟨⟨by decide +kernel, by decide +kernel⟩, List.mem_of_getElem? (i := 123) (by decide +kernel), List.mem_of_getElem? (i := 462) (by decide +kernel), List.mem_of_getElem? (i := 463) (by decide +kernel)⟩
theorem lw_p47 : lw_okq (⟨"OverByTheHand$Mind", "bestChange", "(LOverByTheHand$River;)I"⟩, 8) := ⟨⟨by decide +kernel, by decide +kernel⟩, List.mem_of_getElem? (i := 123) (by decide +kernel), List.mem_of_getElem? (i := 485) (by decide +kernel), List.mem_of_getElem? (i := 486) (by decide +kernel)⟩
def lw_privs_3 : List (MethodName × Nat) := [(⟨"OverByTheHand$River", "loadOf", "(I)I"⟩, 10), (⟨"OverByTheHand$River", "firstSlip", "([I)I"⟩, 10), (⟨"OverByTheHand$River", "whySlips", "([II)I"⟩, 10), (⟨"OverByTheHand$River", "whyNot", "(II)I"⟩, 10), (⟨"OverByTheHand$River", "minutesOf", "([I)I"⟩, 10), (⟨"OverByTheHand$Person", "minutes", "(I)I"⟩, 6), (⟨"OverByTheHand$River", "isNear", "(I)Z"⟩, 10), (⟨"OverByTheHand$River", "bringOver", "(I)V"⟩, 10), (⟨"OverByTheHand$River", "hoursOf", "(II)I"⟩, 10), (⟨"OverByTheHand$River", "setHours", "(III)V"⟩, 10), (⟨"OverByTheHand$River", "notOver", "()I"⟩, 10), (⟨"OverByTheHand$Mind", "thinkOf", "(LOverByTheHand$River;I)V"⟩, 8), (⟨"OverByTheHand$Mind", "ableIn", "(LOverByTheHand$River;I)I"⟩, 8), (⟨"OverByTheHand$Mind", "extend", "(LOverByTheHand$River;IIII)V"⟩, 8), (⟨"OverByTheHand$Mind", "weigh", "(III)V"⟩, 8), (⟨"OverByTheHand$Mind", "bestChange", "(LOverByTheHand$River;)I"⟩, 8)]
theorem lw_r3 : ∀ q ∈ lw_privs_3, lw_okq q := List.forall_mem_cons.mpr ⟨lw_p32, List.forall_mem_cons.mpr ⟨lw_p33, List.forall_mem_cons.mpr ⟨lw_p34, List.forall_mem_cons.mpr ⟨lw_p35, List.forall_mem_cons.mpr ⟨lw_p36, List.forall_mem_cons.mpr ⟨lw_p37, List.forall_mem_cons.mpr ⟨lw_p38, List.forall_mem_cons.mpr ⟨lw_p39, List.forall_mem_cons.mpr ⟨lw_p40, List.forall_mem_cons.mpr ⟨lw_p41, List.forall_mem_cons.mpr ⟨lw_p42, List.forall_mem_cons.mpr ⟨lw_p43, List.forall_mem_cons.mpr ⟨lw_p44, List.forall_mem_cons.mpr ⟨lw_p45, List.forall_mem_cons.mpr ⟨lw_p46, List.forall_mem_cons.mpr ⟨lw_p47, fun _ h => absurd h List.not_mem_nil⟩⟩⟩⟩⟩⟩⟩⟩⟩⟩⟩⟩⟩⟩⟩⟩
theorem lw_p48 : lw_okq (⟨"OverByTheHand$River", "nearBank", "()I"⟩, 10) := ⟨⟨by decide +kernel, by decide +kernel⟩, List.mem_of_getElem? (i := 19) (by decide +kernel), List.mem_of_getElem? (i := 501) (by decide +kernel), List.mem_of_getElem? (i := 502) (by decide +kernel)⟩
theorem lw_p49 : lw_okq (⟨"OverByTheHand$River", "strikeTwos", "()I"⟩, 10) := ⟨⟨by decide +kernel, by decide +kernel⟩, List.mem_of_getElem? (i := 19) (by decide +kernel), List.mem_of_getElem? (i := 522) (by decide +kernel), List.mem_of_getElem? (i := 523) (by decide +kernel)⟩
theorem lw_p50 : lw_okq (⟨"OverByTheHand$River", "lessenHours", "(III)V"⟩, 10) := ⟨⟨by decide +kernel, by decide +kernel⟩, List.mem_of_getElem? (i := 19) (by decide +kernel), List.mem_of_getElem? (i := 526) (by decide +kernel), List.mem_of_getElem? (i := 527) (by decide +kernel)⟩
theorem lw_p51 : lw_okq (⟨"OverByTheHand$River", "strikeThrees", "()I"⟩, 10) := ⟨⟨by decide +kernel, by decide +kernel⟩, List.mem_of_getElem? (i := 19) (by decide +kernel), List.mem_of_getElem? (i := 530) (by decide +kernel), List.mem_of_getElem? (i := 531) (by decide +kernel)⟩
theorem lw_p52 : lw_okq (⟨"OverByTheHand$River", "strikeThree", "(III)I"⟩, 10) := ⟨⟨by decide +kernel, by decide +kernel⟩, List.mem_of_getElem? (i := 19) (by decide +kernel), List.mem_of_getElem? (i := 534) (by decide +kernel), List.mem_of_getElem? (i := 535) (by decide +kernel)⟩
theorem lw_p53 : lw_okq (⟨"OverByTheHand$River", "firstAmiss", "([II)I"⟩, 10) := ⟨⟨by decide +kernel, by decide +kernel⟩, List.mem_of_getElem? (i := 19) (by decide +kernel), List.mem_of_getElem? (i := 556) (by decide +kernel), List.mem_of_getElem? (i := 557) (by decide +kernel)⟩
theorem lw_p54 : lw_okq (⟨"OverByTheHand$River", "canCome", "([II)Z"⟩, 10) := ⟨⟨by decide +kernel, by decide +kernel⟩, List.mem_of_getElem? (i := 19) (by decide +kernel), List.mem_of_getElem? (i := 560) (by decide +kernel), List.mem_of_getElem? (i := 561) (by decide +kernel)⟩
theorem lw_p55 : lw_okq (⟨"OverByTheHand$Mind", "standingBySeed", "(LOverByTheHand$River;II)I"⟩, 8) := ⟨⟨by decide +kernel, by decide +kernel⟩, List.mem_of_getElem? (i := 123) (by decide +kernel), List.mem_of_getElem? (i := 568) (by decide +kernel), List.mem_of_getElem? (i := 569) (by decide +kernel)⟩
theorem lw_p56 : lw_okq (⟨"OverByTheHand$River", "allGrudges", "()I"⟩, 10) := ⟨⟨by decide +kernel, by decide +kernel⟩, List.mem_of_getElem? (i := 19) (by decide +kernel), List.mem_of_getElem? (i := 590) (by decide +kernel), List.mem_of_getElem? (i := 591) (by decide +kernel)⟩
theorem lw_p57 : lw_okq (⟨"OverByTheHand$River", "allHours", "()I"⟩, 10) := ⟨⟨by decide +kernel, by decide +kernel⟩, List.mem_of_getElem? (i := 19) (by decide +kernel), List.mem_of_getElem? (i := 595) (by decide +kernel), List.mem_of_getElem? (i := 596) (by decide +kernel)⟩
theorem lw_p58 : lw_okq (⟨"OverByTheHandModel", "no", "(I)I"⟩, 35) := ⟨⟨by decide +kernel, by decide +kernel⟩, List.mem_of_getElem? (i := 599) (by decide +kernel), List.mem_of_getElem? (i := 718) (by decide +kernel), List.mem_of_getElem? (i := 719) (by decide +kernel)⟩
theorem lw_p59 : lw_okq (⟨"OverByTheHandModel", "statement", "()Z"⟩, 35) := ⟨⟨by decide +kernel, by decide +kernel⟩, List.mem_of_getElem? (i := 599) (by decide +kernel), List.mem_of_getElem? (i := 726) (by decide +kernel), List.mem_of_getElem? (i := 727) (by decide +kernel)⟩
theorem lw_p60 : lw_okq (⟨"OverByTheHandModel", "next", "()I"⟩, 35) := ⟨⟨by decide +kernel, by decide +kernel⟩, List.mem_of_getElem? (i := 599) (by decide +kernel), List.mem_of_getElem? (i := 730) (by decide +kernel), List.mem_of_getElem? (i := 731) (by decide +kernel)⟩
theorem lw_p61 : lw_okq (⟨"OverByTheHandModel", "readsNumber", "(II)Z"⟩, 35) := ⟨⟨by decide +kernel, by decide +kernel⟩, List.mem_of_getElem? (i := 599) (by decide +kernel), List.mem_of_getElem? (i := 737) (by decide +kernel), List.mem_of_getElem? (i := 738) (by decide +kernel)⟩
theorem lw_p62 : lw_okq (⟨"OverByTheHandModel", "passesAll", "(IZ)V"⟩, 35) := ⟨⟨by decide +kernel, by decide +kernel⟩, List.mem_of_getElem? (i := 599) (by decide +kernel), List.mem_of_getElem? (i := 744) (by decide +kernel), List.mem_of_getElem? (i := 745) (by decide +kernel)⟩
theorem lw_p63 : lw_okq (⟨"OverByTheHandModel", "passes", "([I)V"⟩, 35) := ⟨⟨by decide +kernel, by decide +kernel⟩, List.mem_of_getElem? (i := 599) (by decide +kernel), List.mem_of_getElem? (i := 748) (by decide +kernel), List.mem_of_getElem? (i := 749) (by decide +kernel)⟩
def lw_privs_4 : List (MethodName × Nat) := [(⟨"OverByTheHand$River", "nearBank", "()I"⟩, 10), (⟨"OverByTheHand$River", "strikeTwos", "()I"⟩, 10), (⟨"OverByTheHand$River", "lessenHours", "(III)V"⟩, 10), (⟨"OverByTheHand$River", "strikeThrees", "()I"⟩, 10), (⟨"OverByTheHand$River", "strikeThree", "(III)I"⟩, 10), (⟨"OverByTheHand$River", "firstAmiss", "([II)I"⟩, 10), (⟨"OverByTheHand$River", "canCome", "([II)Z"⟩, 10), (⟨"OverByTheHand$Mind", "standingBySeed", "(LOverByTheHand$River;II)I"⟩, 8), (⟨"OverByTheHand$River", "allGrudges", "()I"⟩, 10), (⟨"OverByTheHand$River", "allHours", "()I"⟩, 10), (⟨"OverByTheHandModel", "no", "(I)I"⟩, 35), (⟨"OverByTheHandModel", "statement", "()Z"⟩, 35), (⟨"OverByTheHandModel", "next", "()I"⟩, 35), (⟨"OverByTheHandModel", "readsNumber", "(II)Z"⟩, 35), (⟨"OverByTheHandModel", "passesAll", "(IZ)V"⟩, 35), (⟨"OverByTheHandModel", "passes", "([I)V"⟩, 35)]
theorem lw_r4 : ∀ q ∈ lw_privs_4, lw_okq q := List.forall_mem_cons.mpr ⟨lw_p48, List.forall_mem_cons.mpr ⟨lw_p49, List.forall_mem_cons.mpr ⟨lw_p50, List.forall_mem_cons.mpr ⟨lw_p51, List.forall_mem_cons.mpr ⟨lw_p52, List.forall_mem_cons.mpr ⟨lw_p53, List.forall_mem_cons.mpr ⟨lw_p54, List.forall_mem_cons.mpr ⟨lw_p55, List.forall_mem_cons.mpr ⟨lw_p56, List.forall_mem_cons.mpr ⟨lw_p57, List.forall_mem_cons.mpr ⟨lw_p58, List.forall_mem_cons.mpr ⟨lw_p59, List.forall_mem_cons.mpr ⟨lw_p60, List.forall_mem_cons.mpr ⟨lw_p61, List.forall_mem_cons.mpr ⟨lw_p62, List.forall_mem_cons.mpr ⟨lw_p63, fun _ h => absurd h List.not_mem_nil⟩⟩⟩⟩⟩⟩⟩⟩⟩⟩⟩⟩⟩⟩⟩⟩
theorem lw_p64 : lw_okq (⟨"OverByTheHandModel", "passOne", "(I)I"⟩, 35) := ⟨⟨by decide +kernel, by decide +kernel⟩, List.mem_of_getElem? (i := 599) (by decide +kernel), List.mem_of_getElem? (i := 752) (by decide +kernel), List.mem_of_getElem? (i := 753) (by decide +kernel)⟩
theorem lw_p65 : lw_okq (⟨"OverByTheHandModel", "comes", "(I)Z"⟩, 35) := ⟨⟨by decide +kernel, by decide +kernel⟩, List.mem_of_getElem? (i := 599) (by decide +kernel), List.mem_of_getElem? (i := 756) (by decide +kernel), List.mem_of_getElem? (i := 757) (by decide +kernel)⟩
theorem lw_p66 : lw_okq (⟨"OverByTheHandModel", "begins", "(I)Z"⟩, 35) := ⟨⟨by decide +kernel, by decide +kernel⟩, List.mem_of_getElem? (i := 599) (by decide +kernel), List.mem_of_getElem? (i := 760) (by decide +kernel), List.mem_of_getElem? (i := 761) (by decide +kernel)⟩
theorem lw_p67 : lw_okq (⟨"OverByTheHandModel", "isYard", "(I)Z"⟩, 35) := ⟨⟨by decide +kernel, by decide +kernel⟩, List.mem_of_getElem? (i := 599) (by decide +kernel), List.mem_of_getElem? (i := 764) (by decide +kernel), List.mem_of_getElem? (i := 765) (by decide +kernel)⟩
theorem lw_p68 : lw_okq (⟨"OverByTheHandModel", "comesOne", "(I)Z"⟩, 35) := ⟨⟨by decide +kernel, by decide +kernel⟩, List.mem_of_getElem? (i := 599) (by decide +kernel), List.mem_of_getElem? (i := 768) (by decide +kernel), List.mem_of_getElem? (i := 769) (by decide +kernel)⟩
theorem lw_p69 : lw_okq (⟨"OverByTheHandModel", "areTwo", "(II)Z"⟩, 35) := ⟨⟨by decide +kernel, by decide +kernel⟩, List.mem_of_getElem? (i := 599) (by decide +kernel), List.mem_of_getElem? (i := 772) (by decide +kernel), List.mem_of_getElem? (i := 773) (by decide +kernel)⟩
theorem lw_p70 : lw_okq (⟨"OverByTheHandModel", "isOne", "(I)Z"⟩, 35) := ⟨⟨by decide +kernel, by decide +kernel⟩, List.mem_of_getElem? (i := 599) (by decide +kernel), List.mem_of_getElem? (i := 776) (by decide +kernel), List.mem_of_getElem? (i := 777) (by decide +kernel)⟩
theorem lw_p71 : lw_okq (⟨"OverByTheHandModel", "sets", "(II)V"⟩, 35) := ⟨⟨by decide +kernel, by decide +kernel⟩, List.mem_of_getElem? (i := 599) (by decide +kernel), List.mem_of_getElem? (i := 780) (by decide +kernel), List.mem_of_getElem? (i := 781) (by decide +kernel)⟩
theorem lw_p72 : lw_okq (⟨"OverByTheHandModel", "yardOf", "(I)I"⟩, 35) := ⟨⟨by decide +kernel, by decide +kernel⟩, List.mem_of_getElem? (i := 599) (by decide +kernel), List.mem_of_getElem? (i := 784) (by decide +kernel), List.mem_of_getElem? (i := 785) (by decide +kernel)⟩
theorem lw_p73 : lw_okq (⟨"OverByTheHandModel", "reachOf", "(I)I"⟩, 35) := ⟨⟨by decide +kernel, by decide +kernel⟩, List.mem_of_getElem? (i := 599) (by decide +kernel), List.mem_of_getElem? (i := 804) (by decide +kernel), List.mem_of_getElem? (i := 805) (by decide +kernel)⟩
theorem lw_p74 : lw_okq (⟨"OverByTheHandModel", "holdOf", "(I)I"⟩, 35) := ⟨⟨by decide +kernel, by decide +kernel⟩, List.mem_of_getElem? (i := 599) (by decide +kernel), List.mem_of_getElem? (i := 808) (by decide +kernel), List.mem_of_getElem? (i := 809) (by decide +kernel)⟩
theorem lw_p75 : lw_okq (⟨"OverByTheHandModel", "coolOf", "(I)I"⟩, 35) := ⟨⟨by decide +kernel, by decide +kernel⟩, List.mem_of_getElem? (i := 599) (by decide +kernel), List.mem_of_getElem? (i := 812) (by decide +kernel), List.mem_of_getElem? (i := 813) (by decide +kernel)⟩
theorem lw_p76 : lw_okq (⟨"OverByTheHandModel", "wetMany", "()I"⟩, 35) := ⟨⟨by decide +kernel, by decide +kernel⟩, List.mem_of_getElem? (i := 599) (by decide +kernel), List.mem_of_getElem? (i := 836) (by decide +kernel), List.mem_of_getElem? (i := 837) (by decide +kernel)⟩
theorem lw_p77 : lw_okq (⟨"OverByTheHandModel", "overMany", "()I"⟩, 35) := ⟨⟨by decide +kernel, by decide +kernel⟩, List.mem_of_getElem? (i := 599) (by decide +kernel), List.mem_of_getElem? (i := 840) (by decide +kernel), List.mem_of_getElem? (i := 841) (by decide +kernel)⟩
theorem lw_p78 : lw_okq (⟨"OverByTheHandModel", "loadOf", "(I)I"⟩, 35) := ⟨⟨by decide +kernel, by decide +kernel⟩, List.mem_of_getElem? (i := 599) (by decide +kernel), List.mem_of_getElem? (i := 848) (by decide +kernel), List.mem_of_getElem? (i := 849) (by decide +kernel)⟩
theorem lw_p79 : lw_okq (⟨"OverByTheHandModel", "findSlip", "()V"⟩, 35) := ⟨⟨by decide +kernel, by decide +kernel⟩, List.mem_of_getElem? (i := 599) (by decide +kernel), List.mem_of_getElem? (i := 859) (by decide +kernel), List.mem_of_getElem? (i := 860) (by decide +kernel)⟩
def lw_privs_5 : List (MethodName × Nat) := [(⟨"OverByTheHandModel", "passOne", "(I)I"⟩, 35), (⟨"OverByTheHandModel", "comes", "(I)Z"⟩, 35), (⟨"OverByTheHandModel", "begins", "(I)Z"⟩, 35), (⟨"OverByTheHandModel", "isYard", "(I)Z"⟩, 35), (⟨"OverByTheHandModel", "comesOne", "(I)Z"⟩, 35), (⟨"OverByTheHandModel", "areTwo", "(II)Z"⟩, 35), (⟨"OverByTheHandModel", "isOne", "(I)Z"⟩, 35), (⟨"OverByTheHandModel", "sets", "(II)V"⟩, 35), (⟨"OverByTheHandModel", "yardOf", "(I)I"⟩, 35), (⟨"OverByTheHandModel", "reachOf", "(I)I"⟩, 35), (⟨"OverByTheHandModel", "holdOf", "(I)I"⟩, 35), (⟨"OverByTheHandModel", "coolOf", "(I)I"⟩, 35), (⟨"OverByTheHandModel", "wetMany", "()I"⟩, 35), (⟨"OverByTheHandModel", "overMany", "()I"⟩, 35), (⟨"OverByTheHandModel", "loadOf", "(I)I"⟩, 35), (⟨"OverByTheHandModel", "findSlip", "()V"⟩, 35)]
theorem lw_r5 : ∀ q ∈ lw_privs_5, lw_okq q := List.forall_mem_cons.mpr ⟨lw_p64, List.forall_mem_cons.mpr ⟨lw_p65, List.forall_mem_cons.mpr ⟨lw_p66, List.forall_mem_cons.mpr ⟨lw_p67, List.forall_mem_cons.mpr ⟨lw_p68, List.forall_mem_cons.mpr ⟨lw_p69, List.forall_mem_cons.mpr ⟨lw_p70, List.forall_mem_cons.mpr ⟨lw_p71, List.forall_mem_cons.mpr ⟨lw_p72, List.forall_mem_cons.mpr ⟨lw_p73, List.forall_mem_cons.mpr ⟨lw_p74, List.forall_mem_cons.mpr ⟨lw_p75, List.forall_mem_cons.mpr ⟨lw_p76, List.forall_mem_cons.mpr ⟨lw_p77, List.forall_mem_cons.mpr ⟨lw_p78, List.forall_mem_cons.mpr ⟨lw_p79, fun _ h => absurd h List.not_mem_nil⟩⟩⟩⟩⟩⟩⟩⟩⟩⟩⟩⟩⟩⟩⟩⟩
theorem lw_p80 : lw_okq (⟨"OverByTheHandModel", "slipsIn", "(III)I"⟩, 35) := ⟨⟨by decide +kernel, by decide +kernel⟩, List.mem_of_getElem? (i := 599) (by decide +kernel), List.mem_of_getElem? (i := 863) (by decide +kernel), List.mem_of_getElem? (i := 864) (by decide +kernel)⟩
theorem lw_p81 : lw_okq (⟨"OverByTheHandModel", "doesReach", "(III)Z"⟩, 35) := ⟨⟨by decide +kernel, by decide +kernel⟩, List.mem_of_getElem? (i := 599) (by decide +kernel), List.mem_of_getElem? (i := 867) (by decide +kernel), List.mem_of_getElem? (i := 868) (by decide +kernel)⟩
theorem lw_p82 : lw_okq (⟨"OverByTheHandModel", "doesHold", "(II)Z"⟩, 35) := ⟨⟨by decide +kernel, by decide +kernel⟩, List.mem_of_getElem? (i := 599) (by decide +kernel), List.mem_of_getElem? (i := 871) (by decide +kernel), List.mem_of_getElem? (i := 872) (by decide +kernel)⟩
theorem lw_p83 : lw_okq (⟨"OverByTheHandModel", "doesStand", "()Z"⟩, 35) := ⟨⟨by decide +kernel, by decide +kernel⟩, List.mem_of_getElem? (i := 599) (by decide +kernel), List.mem_of_getElem? (i := 879) (by decide +kernel), List.mem_of_getElem? (i := 880) (by decide +kernel)⟩
theorem lw_p84 : lw_okq (⟨"OverByTheHandModel", "lastsNow", "()I"⟩, 35) := ⟨⟨by decide +kernel, by decide +kernel⟩, List.mem_of_getElem? (i := 599) (by decide +kernel), List.mem_of_getElem? (i := 883) (by decide +kernel), List.mem_of_getElem? (i := 884) (by decide +kernel)⟩
theorem lw_p85 : lw_okq (⟨"OverByTheHandModel", "putsAway", "()V"⟩, 35) := ⟨⟨by decide +kernel, by decide +kernel⟩, List.mem_of_getElem? (i := 599) (by decide +kernel), List.mem_of_getElem? (i := 895) (by decide +kernel), List.mem_of_getElem? (i := 896) (by decide +kernel)⟩
theorem lw_p86 : lw_okq (⟨"OverByTheHandModel", "nextChain", "()Z"⟩, 35) := ⟨⟨by decide +kernel, by decide +kernel⟩, List.mem_of_getElem? (i := 599) (by decide +kernel), List.mem_of_getElem? (i := 899) (by decide +kernel), List.mem_of_getElem? (i := 900) (by decide +kernel)⟩
theorem lw_p87 : lw_okq (⟨"OverByTheHandModel", "areUnlike", "()Z"⟩, 35) := ⟨⟨by decide +kernel, by decide +kernel⟩, List.mem_of_getElem? (i := 599) (by decide +kernel), List.mem_of_getElem? (i := 903) (by decide +kernel), List.mem_of_getElem? (i := 904) (by decide +kernel)⟩
theorem lw_p88 : lw_okq (⟨"OverByTheHandModel", "putsBack", "()V"⟩, 35) := ⟨⟨by decide +kernel, by decide +kernel⟩, List.mem_of_getElem? (i := 599) (by decide +kernel), List.mem_of_getElem? (i := 907) (by decide +kernel), List.mem_of_getElem? (i := 908) (by decide +kernel)⟩
theorem lw_p89 : lw_okq (⟨"OverByTheHandModel", "findLongest", "()V"⟩, 35) := ⟨⟨by decide +kernel, by decide +kernel⟩, List.mem_of_getElem? (i := 599) (by decide +kernel), List.mem_of_getElem? (i := 915) (by decide +kernel), List.mem_of_getElem? (i := 916) (by decide +kernel)⟩
theorem lw_p90 : lw_okq (⟨"OverByTheHandModel", "grudgesIn", "()I"⟩, 35) := ⟨⟨by decide +kernel, by decide +kernel⟩, List.mem_of_getElem? (i := 599) (by decide +kernel), List.mem_of_getElem? (i := 923) (by decide +kernel), List.mem_of_getElem? (i := 924) (by decide +kernel)⟩
theorem lw_p91 : lw_okq (⟨"OverByTheHandModel", "longestOrNothing", "()I"⟩, 35) := ⟨⟨by decide +kernel, by decide +kernel⟩, List.mem_of_getElem? (i := 599) (by decide +kernel), List.mem_of_getElem? (i := 931) (by decide +kernel), List.mem_of_getElem? (i := 932) (by decide +kernel)⟩
theorem lw_p92 : lw_okq (⟨"OverByTheHandModel", "lower", "(I)I"⟩, 35) := ⟨⟨by decide +kernel, by decide +kernel⟩, List.mem_of_getElem? (i := 599) (by decide +kernel), List.mem_of_getElem? (i := 955) (by decide +kernel), List.mem_of_getElem? (i := 956) (by decide +kernel)⟩
theorem lw_p93 : lw_okq (⟨"OverByTheHandModel", "strikesTwo", "()Z"⟩, 35) := ⟨⟨by decide +kernel, by decide +kernel⟩, List.mem_of_getElem? (i := 599) (by decide +kernel), List.mem_of_getElem? (i := 964) (by decide +kernel), List.mem_of_getElem? (i := 965) (by decide +kernel)⟩
theorem lw_p94 : lw_okq (⟨"OverByTheHandModel", "doesOwe", "(II)Z"⟩, 35) := ⟨⟨by decide +kernel, by decide +kernel⟩, List.mem_of_getElem? (i := 599) (by decide +kernel), List.mem_of_getElem? (i := 968) (by decide +kernel), List.mem_of_getElem? (i := 969) (by decide +kernel)⟩
theorem lw_p95 : lw_okq (⟨"OverByTheHandModel", "strikesThree", "()Z"⟩, 35) := ⟨⟨by decide +kernel, by decide +kernel⟩, List.mem_of_getElem? (i := 599) (by decide +kernel), List.mem_of_getElem? (i := 972) (by decide +kernel), List.mem_of_getElem? (i := 973) (by decide +kernel)⟩
def lw_privs_6 : List (MethodName × Nat) := [(⟨"OverByTheHandModel", "slipsIn", "(III)I"⟩, 35), (⟨"OverByTheHandModel", "doesReach", "(III)Z"⟩, 35), (⟨"OverByTheHandModel", "doesHold", "(II)Z"⟩, 35), (⟨"OverByTheHandModel", "doesStand", "()Z"⟩, 35), (⟨"OverByTheHandModel", "lastsNow", "()I"⟩, 35), (⟨"OverByTheHandModel", "putsAway", "()V"⟩, 35), (⟨"OverByTheHandModel", "nextChain", "()Z"⟩, 35), (⟨"OverByTheHandModel", "areUnlike", "()Z"⟩, 35), (⟨"OverByTheHandModel", "putsBack", "()V"⟩, 35), (⟨"OverByTheHandModel", "findLongest", "()V"⟩, 35), (⟨"OverByTheHandModel", "grudgesIn", "()I"⟩, 35), (⟨"OverByTheHandModel", "longestOrNothing", "()I"⟩, 35), (⟨"OverByTheHandModel", "lower", "(I)I"⟩, 35), (⟨"OverByTheHandModel", "strikesTwo", "()Z"⟩, 35), (⟨"OverByTheHandModel", "doesOwe", "(II)Z"⟩, 35), (⟨"OverByTheHandModel", "strikesThree", "()Z"⟩, 35)]
theorem lw_r6 : ∀ q ∈ lw_privs_6, lw_okq q := List.forall_mem_cons.mpr ⟨lw_p80, List.forall_mem_cons.mpr ⟨lw_p81, List.forall_mem_cons.mpr ⟨lw_p82, List.forall_mem_cons.mpr ⟨lw_p83, List.forall_mem_cons.mpr ⟨lw_p84, List.forall_mem_cons.mpr ⟨lw_p85, List.forall_mem_cons.mpr ⟨lw_p86, List.forall_mem_cons.mpr ⟨lw_p87, List.forall_mem_cons.mpr ⟨lw_p88, List.forall_mem_cons.mpr ⟨lw_p89, List.forall_mem_cons.mpr ⟨lw_p90, List.forall_mem_cons.mpr ⟨lw_p91, List.forall_mem_cons.mpr ⟨lw_p92, List.forall_mem_cons.mpr ⟨lw_p93, List.forall_mem_cons.mpr ⟨lw_p94, List.forall_mem_cons.mpr ⟨lw_p95, fun _ h => absurd h List.not_mem_nil⟩⟩⟩⟩⟩⟩⟩⟩⟩⟩⟩⟩⟩⟩⟩⟩
theorem lw_p96 : lw_okq (⟨"OverByTheHandModel", "areDry", "(I)Z"⟩, 35) := ⟨⟨by decide +kernel, by decide +kernel⟩, List.mem_of_getElem? (i := 599) (by decide +kernel), List.mem_of_getElem? (i := 980) (by decide +kernel), List.mem_of_getElem? (i := 981) (by decide +kernel)⟩
theorem lw_p97 : lw_okq (⟨"OverByTheHandModel", "sumOf", "([I)I"⟩, 35) := ⟨⟨by decide +kernel, by decide +kernel⟩, List.mem_of_getElem? (i := 599) (by decide +kernel), List.mem_of_getElem? (i := 1003) (by decide +kernel), List.mem_of_getElem? (i := 1004) (by decide +kernel)⟩
def lw_privs_7 : List (MethodName × Nat) := [(⟨"OverByTheHandModel", "areDry", "(I)Z"⟩, 35), (⟨"OverByTheHandModel", "sumOf", "([I)I"⟩, 35)]
theorem lw_r7 : ∀ q ∈ lw_privs_7, lw_okq q := List.forall_mem_cons.mpr ⟨lw_p96, List.forall_mem_cons.mpr ⟨lw_p97, fun _ h => absurd h List.not_mem_nil⟩⟩
def lw_privs : List (MethodName × Nat) := lw_privs_1 ++ (lw_privs_2 ++ (lw_privs_3 ++ (lw_privs_4 ++ (lw_privs_5 ++ (lw_privs_6 ++ (lw_privs_7))))))
def lw_tbl : List Cond := k2_sels lw_privs ++ tables_1
theorem lw_privs_ok : ∀ q ∈ lw_privs, lw_okq q := by
  show ∀ q ∈ lw_privs_1 ++ (lw_privs_2 ++ (lw_privs_3 ++ (lw_privs_4 ++ (lw_privs_5 ++ (lw_privs_6 ++ (lw_privs_7)))))), lw_okq q
  exact List.forall_mem_append.mpr ⟨lw_r1, List.forall_mem_append.mpr ⟨lw_r2, List.forall_mem_append.mpr ⟨lw_r3, List.forall_mem_append.mpr ⟨lw_r4, List.forall_mem_append.mpr ⟨lw_r5, List.forall_mem_append.mpr ⟨lw_r6, lw_r7⟩⟩⟩⟩⟩⟩
def RX0 : String := "OverByTheHand$Letters"
def TX0 : u_T := fun k => match k with
  | 0 => ("OverByTheHand$Letters", "row", "[I", true)
  | _ => ("OverByTheHand$Letters", "length", "I", false)
def tyX0 : Nat → FieldType := fun k => match k with
  | 0 => .array .int
  | _ => .int
theorem nmX0 : ∀ a, a < 2 → ∀ b, b < 2 → a ≠ b → (TX0 a).2.1 ≠ (TX0 b).2.1 := by decide +kernel
theorem tyX0_ok : ∀ k, k < 2 → parseFieldDescriptor (TX0 k).2.2.1 = some (tyX0 k) := by decide +kernel
abbrev cX0_init : ByteArray := prog_2_method_1_code
def yX0_init : MethodName := ⟨RX0, "<init>", "()V"⟩
abbrev cX0_take : ByteArray := prog_2_method_2_code
def yX0_take : MethodName := ⟨RX0, "take", "(I)V"⟩
abbrev cX0_at : ByteArray := prog_2_method_3_code
def yX0_at : MethodName := ⟨RX0, "at", "(I)I"⟩
abbrev cX0_isDigit : ByteArray := prog_2_method_4_code
def yX0_isDigit : MethodName := ⟨RX0, "isDigit", "(I)Z"⟩
abbrev cX0_digit : ByteArray := prog_2_method_5_code
def yX0_digit : MethodName := ⟨RX0, "digit", "(I)I"⟩
abbrev cX0_leastDigits : ByteArray := prog_2_method_6_code
def yX0_leastDigits : MethodName := ⟨RX0, "leastDigits", "(I)I"⟩
abbrev cX0_mostDigits : ByteArray := prog_2_method_7_code
def yX0_mostDigits : MethodName := ⟨RX0, "mostDigits", "(I)I"⟩
abbrev cX0_digitsFrom : ByteArray := prog_2_method_8_code
def yX0_digitsFrom : MethodName := ⟨RX0, "digitsFrom", "(II)I"⟩
abbrev cX0_endOf : ByteArray := prog_2_method_9_code
def yX0_endOf : MethodName := ⟨RX0, "endOf", "(I)I"⟩
abbrev cX0_firstWrong : ByteArray := prog_2_method_10_code
def yX0_firstWrong : MethodName := ⟨RX0, "firstWrong", "()I"⟩
abbrev cX0_tellTo : ByteArray := prog_2_method_11_code
def yX0_tellTo : MethodName := ⟨RX0, "tellTo", "(LOverByTheHand$River;)I"⟩
abbrev cX0_tellStatement : ByteArray := prog_2_method_12_code
def yX0_tellStatement : MethodName := ⟨RX0, "tellStatement", "(LOverByTheHand$River;I)Z"⟩
abbrev cX0_warmthAt : ByteArray := prog_2_method_13_code
def yX0_warmthAt : MethodName := ⟨RX0, "warmthAt", "(I)I"⟩
def RX1 : String := "OverByTheHand$Mind"
def TX1 : u_T := fun k => match k with
  | 0 => ("OverByTheHand$Mind", "chain", "[I", true)
  | 1 => ("OverByTheHand$Mind", "able", "[I", true)
  | 2 => ("OverByTheHand$Mind", "minutes", "[I", true)
  | 3 => ("OverByTheHand$Mind", "standing", "I", false)
  | 4 => ("OverByTheHand$Mind", "mostMinutes", "I", false)
  | 5 => ("OverByTheHand$Mind", "best", "[I", true)
  | 6 => ("OverByTheHand$Mind", "fewestGrudges", "I", false)
  | _ => ("OverByTheHand$Mind", "stoodIn", "[I", true)
def tyX1 : Nat → FieldType := fun k => match k with
  | 0 => .array .int
  | 1 => .array .int
  | 2 => .array .int
  | 3 => .int
  | 4 => .int
  | 5 => .array .int
  | 6 => .int
  | _ => .array .int
theorem nmX1 : ∀ a, a < 8 → ∀ b, b < 8 → a ≠ b → (TX1 a).2.1 ≠ (TX1 b).2.1 := by decide +kernel
theorem tyX1_ok : ∀ k, k < 8 → parseFieldDescriptor (TX1 k).2.2.1 = some (tyX1 k) := by decide +kernel
abbrev cX1_init : ByteArray := prog_3_method_1_code
def yX1_init : MethodName := ⟨RX1, "<init>", "()V"⟩
abbrev cX1_thinkOf : ByteArray := prog_3_method_2_code
def yX1_thinkOf : MethodName := ⟨RX1, "thinkOf", "(LOverByTheHand$River;I)V"⟩
abbrev cX1_ableIn : ByteArray := prog_3_method_3_code
def yX1_ableIn : MethodName := ⟨RX1, "ableIn", "(LOverByTheHand$River;I)I"⟩
abbrev cX1_extend : ByteArray := prog_3_method_4_code
def yX1_extend : MethodName := ⟨RX1, "extend", "(LOverByTheHand$River;IIII)V"⟩
abbrev cX1_weigh : ByteArray := prog_3_method_5_code
def yX1_weigh : MethodName := ⟨RX1, "weigh", "(III)V"⟩
abbrev cX1_bestChange : ByteArray := prog_3_method_6_code
def yX1_bestChange : MethodName := ⟨RX1, "bestChange", "(LOverByTheHand$River;)I"⟩
abbrev cX1_standingBySeed : ByteArray := prog_3_method_7_code
def yX1_standingBySeed : MethodName := ⟨RX1, "standingBySeed", "(LOverByTheHand$River;II)I"⟩
abbrev cX1_drawBelow : ByteArray := prog_3_method_8_code
def yX1_drawBelow : MethodName := ⟨RX1, "drawBelow", "(II)I"⟩
def RX2 : String := "OverByTheHand$Person"
def TX2 : u_T := fun k => match k with
  | 0 => ("OverByTheHand$Person", "kind", "I", false)
  | 1 => ("OverByTheHand$Person", "figure", "I", false)
  | 2 => ("OverByTheHand$Person", "height", "I", false)
  | 3 => ("OverByTheHand$Person", "strength", "I", false)
  | 4 => ("OverByTheHand$Person", "warmth", "I", false)
  | _ => ("OverByTheHand$Person", "over", "Z", false)
def tyX2 : Nat → FieldType := fun k => match k with
  | 0 => .int
  | 1 => .int
  | 2 => .int
  | 3 => .int
  | 4 => .int
  | _ => .boolean
theorem nmX2 : ∀ a, a < 6 → ∀ b, b < 6 → a ≠ b → (TX2 a).2.1 ≠ (TX2 b).2.1 := by decide +kernel
theorem tyX2_ok : ∀ k, k < 6 → parseFieldDescriptor (TX2 k).2.2.1 = some (tyX2 k) := by decide +kernel
abbrev cX2_init : ByteArray := prog_4_method_1_code
def yX2_init : MethodName := ⟨RX2, "<init>", "()V"⟩
abbrev cX2_copyFrom : ByteArray := prog_4_method_2_code
def yX2_copyFrom : MethodName := ⟨RX2, "copyFrom", "(LOverByTheHand$Person;)V"⟩
abbrev cX2_reaches : ByteArray := prog_4_method_3_code
def yX2_reaches : MethodName := ⟨RX2, "reaches", "()I"⟩
abbrev cX2_holds : ByteArray := prog_4_method_4_code
def yX2_holds : MethodName := ⟨RX2, "holds", "()I"⟩
abbrev cX2_cools : ByteArray := prog_4_method_5_code
def yX2_cools : MethodName := ⟨RX2, "cools", "(I)I"⟩
abbrev cX2_minutes : ByteArray := prog_4_method_6_code
def yX2_minutes : MethodName := ⟨RX2, "minutes", "(I)I"⟩
def RX3 : String := "OverByTheHand$River"
def TX3 : u_T := fun k => match k with
  | 0 => ("OverByTheHand$River", "yards", "I", false)
  | 1 => ("OverByTheHand$River", "cold", "I", false)
  | 2 => ("OverByTheHand$River", "minute", "I", false)
  | 3 => ("OverByTheHand$River", "people", "I", false)
  | 4 => ("OverByTheHand$River", "depth", "[I", true)
  | 5 => ("OverByTheHand$River", "pull", "[I", true)
  | 6 => ("OverByTheHand$River", "who", "[I", true)
  | 7 => ("OverByTheHand$River", "persons", "[LOverByTheHand$Person;", true)
  | 8 => ("OverByTheHand$River", "grudges", "[I", true)
  | _ => ("OverByTheHand$River", "hours", "[I", true)
def tyX3 : Nat → FieldType := fun k => match k with
  | 0 => .int
  | 1 => .int
  | 2 => .int
  | 3 => .int
  | 4 => .array .int
  | 5 => .array .int
  | 6 => .array .int
  | 7 => .array (.object "OverByTheHand$Person")
  | 8 => .array .int
  | _ => .array .int
theorem nmX3 : ∀ a, a < 10 → ∀ b, b < 10 → a ≠ b → (TX3 a).2.1 ≠ (TX3 b).2.1 := by decide +kernel
theorem tyX3_ok : ∀ k, k < 10 → parseFieldDescriptor (TX3 k).2.2.1 = some (tyX3 k) := by decide +kernel
abbrev cX3_init : ByteArray := prog_5_method_1_code
def yX3_init : MethodName := ⟨RX3, "<init>", "()V"⟩
abbrev cX3_copyFrom : ByteArray := prog_5_method_2_code
def yX3_copyFrom : MethodName := ⟨RX3, "copyFrom", "(LOverByTheHand$River;)V"⟩
abbrev cX3_isYard : ByteArray := prog_5_method_3_code
def yX3_isYard : MethodName := ⟨RX3, "isYard", "(I)Z"⟩
abbrev cX3_isPerson : ByteArray := prog_5_method_4_code
def yX3_isPerson : MethodName := ⟨RX3, "isPerson", "(I)Z"⟩
abbrev cX3_areTwo : ByteArray := prog_5_method_5_code
def yX3_areTwo : MethodName := ⟨RX3, "areTwo", "(II)Z"⟩
abbrev cX3_placeOf : ByteArray := prog_5_method_6_code
def yX3_placeOf : MethodName := ⟨RX3, "placeOf", "(I)I"⟩
abbrev cX3_isNear : ByteArray := prog_5_method_7_code
def yX3_isNear : MethodName := ⟨RX3, "isNear", "(I)Z"⟩
abbrev cX3_inWater : ByteArray := prog_5_method_8_code
def yX3_inWater : MethodName := ⟨RX3, "inWater", "()I"⟩
abbrev cX3_overThere : ByteArray := prog_5_method_9_code
def yX3_overThere : MethodName := ⟨RX3, "overThere", "()I"⟩
abbrev cX3_nearBank : ByteArray := prog_5_method_10_code
def yX3_nearBank : MethodName := ⟨RX3, "nearBank", "()I"⟩
abbrev cX3_notOver : ByteArray := prog_5_method_11_code
def yX3_notOver : MethodName := ⟨RX3, "notOver", "()I"⟩
abbrev cX3_emptyWater : ByteArray := prog_5_method_12_code
def yX3_emptyWater : MethodName := ⟨RX3, "emptyWater", "()V"⟩
abbrev cX3_enter : ByteArray := prog_5_method_13_code
def yX3_enter : MethodName := ⟨RX3, "enter", "(II)V"⟩
abbrev cX3_grudgeOf : ByteArray := prog_5_method_14_code
def yX3_grudgeOf : MethodName := ⟨RX3, "grudgeOf", "(II)I"⟩
abbrev cX3_setGrudge : ByteArray := prog_5_method_15_code
def yX3_setGrudge : MethodName := ⟨RX3, "setGrudge", "(III)V"⟩
abbrev cX3_allGrudges : ByteArray := prog_5_method_16_code
def yX3_allGrudges : MethodName := ⟨RX3, "allGrudges", "()I"⟩
abbrev cX3_loadOf : ByteArray := prog_5_method_17_code
def yX3_loadOf : MethodName := ⟨RX3, "loadOf", "(I)I"⟩
abbrev cX3_whyNot : ByteArray := prog_5_method_18_code
def yX3_whyNot : MethodName := ⟨RX3, "whyNot", "(II)I"⟩
abbrev cX3_whySlips : ByteArray := prog_5_method_19_code
def yX3_whySlips : MethodName := ⟨RX3, "whySlips", "([II)I"⟩
abbrev cX3_firstSlip : ByteArray := prog_5_method_20_code
def yX3_firstSlip : MethodName := ⟨RX3, "firstSlip", "([I)I"⟩
abbrev cX3_minutesOf : ByteArray := prog_5_method_21_code
def yX3_minutesOf : MethodName := ⟨RX3, "minutesOf", "([I)I"⟩
abbrev cX3_bringOver : ByteArray := prog_5_method_22_code
def yX3_bringOver : MethodName := ⟨RX3, "bringOver", "(I)V"⟩
abbrev cX3_firstAmiss : ByteArray := prog_5_method_23_code
def yX3_firstAmiss : MethodName := ⟨RX3, "firstAmiss", "([II)I"⟩
abbrev cX3_canCome : ByteArray := prog_5_method_24_code
def yX3_canCome : MethodName := ⟨RX3, "canCome", "([II)Z"⟩
abbrev cX3_hoursOf : ByteArray := prog_5_method_25_code
def yX3_hoursOf : MethodName := ⟨RX3, "hoursOf", "(II)I"⟩
abbrev cX3_setHours : ByteArray := prog_5_method_26_code
def yX3_setHours : MethodName := ⟨RX3, "setHours", "(III)V"⟩
abbrev cX3_lessenHours : ByteArray := prog_5_method_27_code
def yX3_lessenHours : MethodName := ⟨RX3, "lessenHours", "(III)V"⟩
abbrev cX3_allHours : ByteArray := prog_5_method_28_code
def yX3_allHours : MethodName := ⟨RX3, "allHours", "()I"⟩
abbrev cX3_strikeTwos : ByteArray := prog_5_method_29_code
def yX3_strikeTwos : MethodName := ⟨RX3, "strikeTwos", "()I"⟩
abbrev cX3_strikeThrees : ByteArray := prog_5_method_30_code
def yX3_strikeThrees : MethodName := ⟨RX3, "strikeThrees", "()I"⟩
abbrev cX3_strikeThree : ByteArray := prog_5_method_31_code
def yX3_strikeThree : MethodName := ⟨RX3, "strikeThree", "(III)I"⟩
abbrev cX3_tellYards : ByteArray := prog_5_method_32_code
def yX3_tellYards : MethodName := ⟨RX3, "tellYards", "(I)Z"⟩
abbrev cX3_tellYard : ByteArray := prog_5_method_33_code
def yX3_tellYard : MethodName := ⟨RX3, "tellYard", "(III)Z"⟩
abbrev cX3_tellPerson : ByteArray := prog_5_method_34_code
def yX3_tellPerson : MethodName := ⟨RX3, "tellPerson", "(IIIII)Z"⟩
abbrev cX3_tellGrudge : ByteArray := prog_5_method_35_code
def yX3_tellGrudge : MethodName := ⟨RX3, "tellGrudge", "(II)Z"⟩
abbrev cX3_tellIn : ByteArray := prog_5_method_36_code
def yX3_tellIn : MethodName := ⟨RX3, "tellIn", "(II)Z"⟩
def RX4 : String := "OverByTheHand"
def TX4 : u_T := fun k => match k with
  | 0 => ("OverByTheHand", "now", "LOverByTheHand$River;", true)
  | 1 => ("OverByTheHand", "trial", "LOverByTheHand$River;", true)
  | 2 => ("OverByTheHand", "kept", "LOverByTheHand$River;", true)
  | 3 => ("OverByTheHand", "isKept", "Z", false)
  | 4 => ("OverByTheHand", "letters", "LOverByTheHand$Letters;", true)
  | 5 => ("OverByTheHand", "mind", "LOverByTheHand$Mind;", true)
  | 6 => ("OverByTheHand", "told", "[I", true)
  | 7 => ("OverByTheHand", "toldLength", "I", false)
  | _ => ("OverByTheHand", "refusals", "[I", true)
def tyX4 : Nat → FieldType := fun k => match k with
  | 0 => .object "OverByTheHand$River"
  | 1 => .object "OverByTheHand$River"
  | 2 => .object "OverByTheHand$River"
  | 3 => .boolean
  | 4 => .object "OverByTheHand$Letters"
  | 5 => .object "OverByTheHand$Mind"
  | 6 => .array .int
  | 7 => .int
  | _ => .array .int
theorem nmX4 : ∀ a, a < 9 → ∀ b, b < 9 → a ≠ b → (TX4 a).2.1 ≠ (TX4 b).2.1 := by decide +kernel
theorem tyX4_ok : ∀ k, k < 9 → parseFieldDescriptor (TX4 k).2.2.1 = some (tyX4 k) := by decide +kernel
abbrev cX4_init : ByteArray := prog_1_method_1_code
def yX4_init : MethodName := ⟨RX4, "<init>", "()V"⟩
abbrev cX4_feed : ByteArray := prog_1_method_2_code
def yX4_feed : MethodName := ⟨RX4, "feed", "(I)I"⟩
abbrev cX4_river : ByteArray := prog_1_method_3_code
def yX4_river : MethodName := ⟨RX4, "river", "()I"⟩
abbrev cX4_yard : ByteArray := prog_1_method_4_code
def yX4_yard : MethodName := ⟨RX4, "yard", "(II)I"⟩
abbrev cX4_person : ByteArray := prog_1_method_5_code
def yX4_person : MethodName := ⟨RX4, "person", "(II)I"⟩
abbrev cX4_grudge : ByteArray := prog_1_method_6_code
def yX4_grudge : MethodName := ⟨RX4, "grudge", "(II)I"⟩
abbrev cX4_quarrel : ByteArray := prog_1_method_7_code
def yX4_quarrel : MethodName := ⟨RX4, "quarrel", "(III)I"⟩
abbrev cX4_cold : ByteArray := prog_1_method_8_code
def yX4_cold : MethodName := ⟨RX4, "cold", "(I)I"⟩
abbrev cX4_put : ByteArray := prog_1_method_9_code
def yX4_put : MethodName := ⟨RX4, "put", "(II)I"⟩
abbrev cX4_out : ByteArray := prog_1_method_10_code
def yX4_out : MethodName := ⟨RX4, "out", "()I"⟩
abbrev cX4_load : ByteArray := prog_1_method_11_code
def yX4_load : MethodName := ⟨RX4, "load", "(I)I"⟩
abbrev cX4_slips : ByteArray := prog_1_method_12_code
def yX4_slips : MethodName := ⟨RX4, "slips", "(I)I"⟩
abbrev cX4_lasts : ByteArray := prog_1_method_13_code
def yX4_lasts : MethodName := ⟨RX4, "lasts", "()I"⟩
abbrev cX4_cross : ByteArray := prog_1_method_14_code
def yX4_cross : MethodName := ⟨RX4, "cross", "(I)I"⟩
abbrev cX4_chains : ByteArray := prog_1_method_15_code
def yX4_chains : MethodName := ⟨RX4, "chains", "()I"⟩
abbrev cX4_longest : ByteArray := prog_1_method_16_code
def yX4_longest : MethodName := ⟨RX4, "longest", "(I)I"⟩
abbrev cX4_makeUp : ByteArray := prog_1_method_17_code
def yX4_makeUp : MethodName := ⟨RX4, "makeUp", "()I"⟩
abbrev cX4_worth : ByteArray := prog_1_method_18_code
def yX4_worth : MethodName := ⟨RX4, "worth", "(II)I"⟩
abbrev cX4_change : ByteArray := prog_1_method_19_code
def yX4_change : MethodName := ⟨RX4, "change", "()I"⟩
abbrev cX4_flood : ByteArray := prog_1_method_20_code
def yX4_flood : MethodName := ⟨RX4, "flood", "()I"⟩
abbrev cX4_overs : ByteArray := prog_1_method_21_code
def yX4_overs : MethodName := ⟨RX4, "overs", "()I"⟩
abbrev cX4_owes : ByteArray := prog_1_method_22_code
def yX4_owes : MethodName := ⟨RX4, "owes", "(II)I"⟩
abbrev cX4_owed : ByteArray := prog_1_method_23_code
def yX4_owed : MethodName := ⟨RX4, "owed", "(I)I"⟩
abbrev cX4_strike : ByteArray := prog_1_method_24_code
def yX4_strike : MethodName := ⟨RX4, "strike", "()I"⟩
abbrev cX4_wet : ByteArray := prog_1_method_25_code
def yX4_wet : MethodName := ⟨RX4, "wet", "(II)I"⟩
abbrev cX4_row : ByteArray := prog_1_method_26_code
def yX4_row : MethodName := ⟨RX4, "row", "(I)I"⟩
abbrev cX4_judge : ByteArray := prog_1_method_27_code
def yX4_judge : MethodName := ⟨RX4, "judge", "()I"⟩
abbrev cX4_seeds : ByteArray := prog_1_method_28_code
def yX4_seeds : MethodName := ⟨RX4, "seeds", "(II)I"⟩
abbrev cX4_image : ByteArray := prog_1_method_29_code
def yX4_image : MethodName := ⟨RX4, "image", "()I"⟩
abbrev cX4_restore : ByteArray := prog_1_method_30_code
def yX4_restore : MethodName := ⟨RX4, "restore", "()I"⟩
abbrev cX4_count : ByteArray := prog_1_method_31_code
def yX4_count : MethodName := ⟨RX4, "count", "(I)I"⟩
abbrev cX4_refuse : ByteArray := prog_1_method_32_code
def yX4_refuse : MethodName := ⟨RX4, "refuse", "(I)I"⟩
abbrev cX4_tellRiver : ByteArray := prog_1_method_33_code
def yX4_tellRiver : MethodName := ⟨RX4, "tellRiver", "()I"⟩
def RX5 : String := "OverByTheHandModel"
def TX5 : u_T := fun k => match k with
  | 0 => ("OverByTheHandModel", "refused", "[I", true)
  | 1 => ("OverByTheHandModel", "depth", "[I", true)
  | 2 => ("OverByTheHandModel", "pull", "[I", true)
  | 3 => ("OverByTheHandModel", "inYard", "[I", true)
  | 4 => ("OverByTheHandModel", "kind", "[I", true)
  | 5 => ("OverByTheHandModel", "figure", "[I", true)
  | 6 => ("OverByTheHandModel", "height", "[I", true)
  | 7 => ("OverByTheHandModel", "strength", "[I", true)
  | 8 => ("OverByTheHandModel", "warmth", "[I", true)
  | 9 => ("OverByTheHandModel", "over", "[I", true)
  | 10 => ("OverByTheHandModel", "bad", "[I", true)
  | 11 => ("OverByTheHandModel", "hours", "[I", true)
  | 12 => ("OverByTheHandModel", "yards", "I", false)
  | 13 => ("OverByTheHandModel", "people", "I", false)
  | 14 => ("OverByTheHandModel", "cold", "I", false)
  | 15 => ("OverByTheHandModel", "minute", "I", false)
  | 16 => ("OverByTheHandModel", "tape", "[I", true)
  | 17 => ("OverByTheHandModel", "letter", "[I", true)
  | 18 => ("OverByTheHandModel", "letterAt", "[I", true)
  | 19 => ("OverByTheHandModel", "told", "[I", true)
  | 20 => ("OverByTheHandModel", "taped", "I", false)
  | 21 => ("OverByTheHandModel", "at", "I", false)
  | 22 => ("OverByTheHandModel", "statements", "I", false)
  | 23 => ("OverByTheHandModel", "kept", "[I", true)
  | 24 => ("OverByTheHandModel", "hasImage", "Z", false)
  | 25 => ("OverByTheHandModel", "isKeeping", "Z", false)
  | 26 => ("OverByTheHandModel", "cursor", "I", false)
  | 27 => ("OverByTheHandModel", "slipYard", "I", false)
  | 28 => ("OverByTheHandModel", "slipWhy", "I", false)
  | 29 => ("OverByTheHandModel", "stood", "[I", true)
  | 30 => ("OverByTheHandModel", "chainNumber", "I", false)
  | 31 => ("OverByTheHandModel", "best", "[I", true)
  | 32 => ("OverByTheHandModel", "bestLasts", "I", false)
  | 33 => ("OverByTheHandModel", "row", "[I", true)
  | _ => ("OverByTheHandModel", "rowMany", "I", false)
def tyX5 : Nat → FieldType := fun k => match k with
  | 0 => .array .int
  | 1 => .array .int
  | 2 => .array .int
  | 3 => .array .int
  | 4 => .array .int
  | 5 => .array .int
  | 6 => .array .int
  | 7 => .array .int
  | 8 => .array .int
  | 9 => .array .int
  | 10 => .array .int
  | 11 => .array .int
  | 12 => .int
  | 13 => .int
  | 14 => .int
  | 15 => .int
  | 16 => .array .int
  | 17 => .array .int
  | 18 => .array .int
  | 19 => .array .int
  | 20 => .int
  | 21 => .int
  | 22 => .int
  | 23 => .array .int
  | 24 => .boolean
  | 25 => .boolean
  | 26 => .int
  | 27 => .int
  | 28 => .int
  | 29 => .array .int
  | 30 => .int
  | 31 => .array .int
  | 32 => .int
  | 33 => .array .int
  | _ => .int
theorem nmX5 : ∀ a, a < 35 → ∀ b, b < 35 → a ≠ b → (TX5 a).2.1 ≠ (TX5 b).2.1 := by decide +kernel
theorem tyX5_ok : ∀ k, k < 35 → parseFieldDescriptor (TX5 k).2.2.1 = some (tyX5 k) := by decide +kernel
abbrev cX5_init : ByteArray := prog_7_method_1_code
def yX5_init : MethodName := ⟨RX5, "<init>", "()V"⟩
abbrev cX5_no : ByteArray := prog_7_method_2_code
def yX5_no : MethodName := ⟨RX5, "no", "(I)I"⟩
abbrev cX5_lower : ByteArray := prog_7_method_3_code
def yX5_lower : MethodName := ⟨RX5, "lower", "(I)I"⟩
abbrev cX5_isIn : ByteArray := prog_7_method_4_code
def yX5_isIn : MethodName := ⟨RX5, "isIn", "(III)Z"⟩
abbrev cX5_bound : ByteArray := prog_7_method_5_code
def yX5_bound : MethodName := ⟨RX5, "bound", "(III)I"⟩
abbrev cX5_least : ByteArray := prog_7_method_6_code
def yX5_least : MethodName := ⟨RX5, "least", "(II)I"⟩
abbrev cX5_isYard : ByteArray := prog_7_method_7_code
def yX5_isYard : MethodName := ⟨RX5, "isYard", "(I)Z"⟩
abbrev cX5_isOne : ByteArray := prog_7_method_8_code
def yX5_isOne : MethodName := ⟨RX5, "isOne", "(I)Z"⟩
abbrev cX5_areTwo : ByteArray := prog_7_method_9_code
def yX5_areTwo : MethodName := ⟨RX5, "areTwo", "(II)Z"⟩
abbrev cX5_yardOf : ByteArray := prog_7_method_10_code
def yX5_yardOf : MethodName := ⟨RX5, "yardOf", "(I)I"⟩
abbrev cX5_feed : ByteArray := prog_7_method_11_code
def yX5_feed : MethodName := ⟨RX5, "feed", "(I)I"⟩
abbrev cX5_next : ByteArray := prog_7_method_12_code
def yX5_next : MethodName := ⟨RX5, "next", "()I"⟩
abbrev cX5_readsNumber : ByteArray := prog_7_method_13_code
def yX5_readsNumber : MethodName := ⟨RX5, "readsNumber", "(II)Z"⟩
abbrev cX5_onesOf : ByteArray := prog_7_method_14_code
def yX5_onesOf : MethodName := ⟨RX5, "onesOf", "(I)I"⟩
abbrev cX5_statement : ByteArray := prog_7_method_15_code
def yX5_statement : MethodName := ⟨RX5, "statement", "()Z"⟩
abbrev cX5_begins : ByteArray := prog_7_method_16_code
def yX5_begins : MethodName := ⟨RX5, "begins", "(I)Z"⟩
abbrev cX5_comesOne : ByteArray := prog_7_method_17_code
def yX5_comesOne : MethodName := ⟨RX5, "comesOne", "(I)Z"⟩
abbrev cX5_sets : ByteArray := prog_7_method_18_code
def yX5_sets : MethodName := ⟨RX5, "sets", "(II)V"⟩
abbrev cX5_comes : ByteArray := prog_7_method_19_code
def yX5_comes : MethodName := ⟨RX5, "comes", "(I)Z"⟩
abbrev cX5_river : ByteArray := prog_7_method_20_code
def yX5_river : MethodName := ⟨RX5, "river", "()I"⟩
abbrev cX5_passes : ByteArray := prog_7_method_21_code
def yX5_passes : MethodName := ⟨RX5, "passes", "([I)V"⟩
abbrev cX5_passOne : ByteArray := prog_7_method_22_code
def yX5_passOne : MethodName := ⟨RX5, "passOne", "(I)I"⟩
abbrev cX5_passesAll : ByteArray := prog_7_method_23_code
def yX5_passesAll : MethodName := ⟨RX5, "passesAll", "(IZ)V"⟩
abbrev cX5_image : ByteArray := prog_7_method_24_code
def yX5_image : MethodName := ⟨RX5, "image", "()I"⟩
abbrev cX5_restore : ByteArray := prog_7_method_25_code
def yX5_restore : MethodName := ⟨RX5, "restore", "()I"⟩
abbrev cX5_reachOf : ByteArray := prog_7_method_26_code
def yX5_reachOf : MethodName := ⟨RX5, "reachOf", "(I)I"⟩
abbrev cX5_holdOf : ByteArray := prog_7_method_27_code
def yX5_holdOf : MethodName := ⟨RX5, "holdOf", "(I)I"⟩
abbrev cX5_coolOf : ByteArray := prog_7_method_28_code
def yX5_coolOf : MethodName := ⟨RX5, "coolOf", "(I)I"⟩
abbrev cX5_yard : ByteArray := prog_7_method_29_code
def yX5_yard : MethodName := ⟨RX5, "yard", "(II)I"⟩
abbrev cX5_person : ByteArray := prog_7_method_30_code
def yX5_person : MethodName := ⟨RX5, "person", "(II)I"⟩
abbrev cX5_grudge : ByteArray := prog_7_method_31_code
def yX5_grudge : MethodName := ⟨RX5, "grudge", "(II)I"⟩
abbrev cX5_quarrel : ByteArray := prog_7_method_32_code
def yX5_quarrel : MethodName := ⟨RX5, "quarrel", "(III)I"⟩
abbrev cX5_cold : ByteArray := prog_7_method_33_code
def yX5_cold : MethodName := ⟨RX5, "cold", "(I)I"⟩
abbrev cX5_put : ByteArray := prog_7_method_34_code
def yX5_put : MethodName := ⟨RX5, "put", "(II)I"⟩
abbrev cX5_wetMany : ByteArray := prog_7_method_35_code
def yX5_wetMany : MethodName := ⟨RX5, "wetMany", "()I"⟩
abbrev cX5_out : ByteArray := prog_7_method_36_code
def yX5_out : MethodName := ⟨RX5, "out", "()I"⟩
abbrev cX5_loadOf : ByteArray := prog_7_method_37_code
def yX5_loadOf : MethodName := ⟨RX5, "loadOf", "(I)I"⟩
abbrev cX5_load : ByteArray := prog_7_method_38_code
def yX5_load : MethodName := ⟨RX5, "load", "(I)I"⟩
abbrev cX5_doesReach : ByteArray := prog_7_method_39_code
def yX5_doesReach : MethodName := ⟨RX5, "doesReach", "(III)Z"⟩
abbrev cX5_doesHold : ByteArray := prog_7_method_40_code
def yX5_doesHold : MethodName := ⟨RX5, "doesHold", "(II)Z"⟩
abbrev cX5_slipsIn : ByteArray := prog_7_method_41_code
def yX5_slipsIn : MethodName := ⟨RX5, "slipsIn", "(III)I"⟩
abbrev cX5_findSlip : ByteArray := prog_7_method_42_code
def yX5_findSlip : MethodName := ⟨RX5, "findSlip", "()V"⟩
abbrev cX5_doesStand : ByteArray := prog_7_method_43_code
def yX5_doesStand : MethodName := ⟨RX5, "doesStand", "()Z"⟩
abbrev cX5_lastsNow : ByteArray := prog_7_method_44_code
def yX5_lastsNow : MethodName := ⟨RX5, "lastsNow", "()I"⟩
abbrev cX5_slips : ByteArray := prog_7_method_45_code
def yX5_slips : MethodName := ⟨RX5, "slips", "(I)I"⟩
abbrev cX5_lasts : ByteArray := prog_7_method_46_code
def yX5_lasts : MethodName := ⟨RX5, "lasts", "()I"⟩
abbrev cX5_overMany : ByteArray := prog_7_method_47_code
def yX5_overMany : MethodName := ⟨RX5, "overMany", "()I"⟩
abbrev cX5_cross : ByteArray := prog_7_method_48_code
def yX5_cross : MethodName := ⟨RX5, "cross", "(I)I"⟩
abbrev cX5_putsAway : ByteArray := prog_7_method_49_code
def yX5_putsAway : MethodName := ⟨RX5, "putsAway", "()V"⟩
abbrev cX5_putsBack : ByteArray := prog_7_method_50_code
def yX5_putsBack : MethodName := ⟨RX5, "putsBack", "()V"⟩
abbrev cX5_areUnlike : ByteArray := prog_7_method_51_code
def yX5_areUnlike : MethodName := ⟨RX5, "areUnlike", "()Z"⟩
abbrev cX5_nextChain : ByteArray := prog_7_method_52_code
def yX5_nextChain : MethodName := ⟨RX5, "nextChain", "()Z"⟩
abbrev cX5_chains : ByteArray := prog_7_method_53_code
def yX5_chains : MethodName := ⟨RX5, "chains", "()I"⟩
abbrev cX5_findLongest : ByteArray := prog_7_method_54_code
def yX5_findLongest : MethodName := ⟨RX5, "findLongest", "()V"⟩
abbrev cX5_longest : ByteArray := prog_7_method_55_code
def yX5_longest : MethodName := ⟨RX5, "longest", "(I)I"⟩
abbrev cX5_grudgesIn : ByteArray := prog_7_method_56_code
def yX5_grudgesIn : MethodName := ⟨RX5, "grudgesIn", "()I"⟩
abbrev cX5_makeUp : ByteArray := prog_7_method_57_code
def yX5_makeUp : MethodName := ⟨RX5, "makeUp", "()I"⟩
abbrev cX5_longestOrNothing : ByteArray := prog_7_method_58_code
def yX5_longestOrNothing : MethodName := ⟨RX5, "longestOrNothing", "()I"⟩
abbrev cX5_worth : ByteArray := prog_7_method_59_code
def yX5_worth : MethodName := ⟨RX5, "worth", "(II)I"⟩
abbrev cX5_change : ByteArray := prog_7_method_60_code
def yX5_change : MethodName := ⟨RX5, "change", "()I"⟩
abbrev cX5_flood : ByteArray := prog_7_method_61_code
def yX5_flood : MethodName := ⟨RX5, "flood", "()I"⟩
abbrev cX5_overs : ByteArray := prog_7_method_62_code
def yX5_overs : MethodName := ⟨RX5, "overs", "()I"⟩
abbrev cX5_owes : ByteArray := prog_7_method_63_code
def yX5_owes : MethodName := ⟨RX5, "owes", "(II)I"⟩
abbrev cX5_owed : ByteArray := prog_7_method_64_code
def yX5_owed : MethodName := ⟨RX5, "owed", "(I)I"⟩
abbrev cX5_doesOwe : ByteArray := prog_7_method_65_code
def yX5_doesOwe : MethodName := ⟨RX5, "doesOwe", "(II)Z"⟩
abbrev cX5_strikesTwo : ByteArray := prog_7_method_66_code
def yX5_strikesTwo : MethodName := ⟨RX5, "strikesTwo", "()Z"⟩
abbrev cX5_strikesThree : ByteArray := prog_7_method_67_code
def yX5_strikesThree : MethodName := ⟨RX5, "strikesThree", "()Z"⟩
abbrev cX5_strike : ByteArray := prog_7_method_68_code
def yX5_strike : MethodName := ⟨RX5, "strike", "()I"⟩
abbrev cX5_areDry : ByteArray := prog_7_method_69_code
def yX5_areDry : MethodName := ⟨RX5, "areDry", "(I)Z"⟩
abbrev cX5_wet : ByteArray := prog_7_method_70_code
def yX5_wet : MethodName := ⟨RX5, "wet", "(II)I"⟩
abbrev cX5_row : ByteArray := prog_7_method_71_code
def yX5_row : MethodName := ⟨RX5, "row", "(I)I"⟩
abbrev cX5_judge : ByteArray := prog_7_method_72_code
def yX5_judge : MethodName := ⟨RX5, "judge", "()I"⟩
abbrev cX5_seeds : ByteArray := prog_7_method_73_code
def yX5_seeds : MethodName := ⟨RX5, "seeds", "(II)I"⟩
abbrev cX5_sumOf : ByteArray := prog_7_method_74_code
def yX5_sumOf : MethodName := ⟨RX5, "sumOf", "([I)I"⟩
abbrev cX5_count : ByteArray := prog_7_method_75_code
def yX5_count : MethodName := ⟨RX5, "count", "(I)I"⟩
def RJ6 : String := "java/lang/Integer"
abbrev cJ6_bitCount_0f7a4 : ByteArray := prog_8_method_49_code
def yJ6_bitCount_0f7a4 : MethodName := ⟨RJ6, "bitCount", "(I)I"⟩
def RJ9 : String := "java/lang/Math"
abbrev cJ9_max_7cf53 : ByteArray := prog_9_method_65_code
def yJ9_max_7cf53 : MethodName := ⟨RJ9, "max", "(II)I"⟩
abbrev cJ9_min_7cf53 : ByteArray := prog_9_method_69_code
def yJ9_min_7cf53 : MethodName := ⟨RJ9, "min", "(II)I"⟩
def RJ10 : String := "java/lang/System"
def RL : String := "OverByTheHandLaw"
abbrev cL_law : ByteArray := code
def yL_law : MethodName := ⟨RL, "law", "([I)Z"⟩
abbrev vwCl : List vw_C := [(RX0, TX0, 2), (RX1, TX1, 8), (RX2, TX2, 6), (RX3, TX3, 10), (RX4, TX4, 9), (RX5, TX5, 35)]
