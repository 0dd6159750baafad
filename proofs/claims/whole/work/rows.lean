section
-- ===== PART A: goes FIRST, ahead of the names: the tables' words, and 'selects' of the private methods out of them =====
/-- a private method of a class that the tables say can be made, by its rows of tables_1 -/
def lw_okq (q : MethodName × Nat) : Prop := (q.1.cls ≠ "java/lang/invoke/MethodHandle" ∧ q.1.cls ≠ "java/lang/invoke/VarHandle") ∧ Cond.instantiable q.1.cls q.2 ∈ tables_1 ∧ Cond.privateMethod q.1 ∈ tables_1 ∧ Cond.instanceMethod q.1 ∈ tables_1
theorem lw_p0 : lw_okq (⟨"KeptSeats", "beginAct", "()V"⟩, 8) := ⟨⟨by decide +kernel, by decide +kernel⟩, List.mem_of_getElem? (i := 13) (by decide +kernel), List.mem_of_getElem? (i := 186) (by decide +kernel), List.mem_of_getElem? (i := 187) (by decide +kernel)⟩
theorem lw_p1 : lw_okq (⟨"KeptSeats$Diary", "pageAt", "(I)LKeptSeats$Office;"⟩, 3) := ⟨⟨by decide +kernel, by decide +kernel⟩, List.mem_of_getElem? (i := 36) (by decide +kernel), List.mem_of_getElem? (i := 194) (by decide +kernel), List.mem_of_getElem? (i := 195) (by decide +kernel)⟩
theorem lw_p2 : lw_okq (⟨"KeptSeats", "changePerson", "(IIII)I"⟩, 8) := ⟨⟨by decide +kernel, by decide +kernel⟩, List.mem_of_getElem? (i := 13) (by decide +kernel), List.mem_of_getElem? (i := 217) (by decide +kernel), List.mem_of_getElem? (i := 218) (by decide +kernel)⟩
theorem lw_p3 : lw_okq (⟨"KeptSeats", "isPerson", "(I)Z"⟩, 8) := ⟨⟨by decide +kernel, by decide +kernel⟩, List.mem_of_getElem? (i := 13) (by decide +kernel), List.mem_of_getElem? (i := 221) (by decide +kernel), List.mem_of_getElem? (i := 222) (by decide +kernel)⟩
theorem lw_p4 : lw_okq (⟨"KeptSeats", "change", "(III)I"⟩, 8) := ⟨⟨by decide +kernel, by decide +kernel⟩, List.mem_of_getElem? (i := 13) (by decide +kernel), List.mem_of_getElem? (i := 225) (by decide +kernel), List.mem_of_getElem? (i := 226) (by decide +kernel)⟩
theorem lw_p5 : lw_okq (⟨"KeptSeats", "presentChoice", "()LKeptSeats$Choice;"⟩, 8) := ⟨⟨by decide +kernel, by decide +kernel⟩, List.mem_of_getElem? (i := 13) (by decide +kernel), List.mem_of_getElem? (i := 259) (by decide +kernel), List.mem_of_getElem? (i := 260) (by decide +kernel)⟩
theorem lw_p6 : lw_okq (⟨"KeptSeats$Choice", "rankAll", "(LKeptSeats$Office;)V"⟩, 12) := ⟨⟨by decide +kernel, by decide +kernel⟩, List.mem_of_getElem? (i := 55) (by decide +kernel), List.mem_of_getElem? (i := 268) (by decide +kernel), List.mem_of_getElem? (i := 269) (by decide +kernel)⟩
theorem lw_p7 : lw_okq (⟨"KeptSeats$Choice", "findFree", "(LKeptSeats$Office;)V"⟩, 12) := ⟨⟨by decide +kernel, by decide +kernel⟩, List.mem_of_getElem? (i := 55) (by decide +kernel), List.mem_of_getElem? (i := 281) (by decide +kernel), List.mem_of_getElem? (i := 282) (by decide +kernel)⟩
theorem lw_p8 : lw_okq (⟨"KeptSeats$Choice", "occupy", "(II)V"⟩, 12) := ⟨⟨by decide +kernel, by decide +kernel⟩, List.mem_of_getElem? (i := 55) (by decide +kernel), List.mem_of_getElem? (i := 286) (by decide +kernel), List.mem_of_getElem? (i := 287) (by decide +kernel)⟩
theorem lw_p9 : lw_okq (⟨"KeptSeats$Choice", "findCandidates", "(LKeptSeats$Office;)V"⟩, 12) := ⟨⟨by decide +kernel, by decide +kernel⟩, List.mem_of_getElem? (i := 55) (by decide +kernel), List.mem_of_getElem? (i := 294) (by decide +kernel), List.mem_of_getElem? (i := 295) (by decide +kernel)⟩
theorem lw_p10 : lw_okq (⟨"KeptSeats$Choice", "takeIn", "(LKeptSeats$Office;I)V"⟩, 12) := ⟨⟨by decide +kernel, by decide +kernel⟩, List.mem_of_getElem? (i := 55) (by decide +kernel), List.mem_of_getElem? (i := 306) (by decide +kernel), List.mem_of_getElem? (i := 307) (by decide +kernel)⟩
theorem lw_p11 : lw_okq (⟨"KeptSeats$Choice", "lineUp", "(I)V"⟩, 12) := ⟨⟨by decide +kernel, by decide +kernel⟩, List.mem_of_getElem? (i := 55) (by decide +kernel), List.mem_of_getElem? (i := 310) (by decide +kernel), List.mem_of_getElem? (i := 311) (by decide +kernel)⟩
theorem lw_p12 : lw_okq (⟨"KeptSeats$Choice", "withoutSeat", "(I)I"⟩, 12) := ⟨⟨by decide +kernel, by decide +kernel⟩, List.mem_of_getElem? (i := 55) (by decide +kernel), List.mem_of_getElem? (i := 314) (by decide +kernel), List.mem_of_getElem? (i := 315) (by decide +kernel)⟩
theorem lw_p13 : lw_okq (⟨"KeptSeats$Choice", "takeFullest", "(LKeptSeats$Office;II)V"⟩, 12) := ⟨⟨by decide +kernel, by decide +kernel⟩, List.mem_of_getElem? (i := 55) (by decide +kernel), List.mem_of_getElem? (i := 327) (by decide +kernel), List.mem_of_getElem? (i := 328) (by decide +kernel)⟩
theorem lw_p14 : lw_okq (⟨"KeptSeats$Tally", "changeLeft", "(II)V"⟩, 2) := ⟨⟨by decide +kernel, by decide +kernel⟩, List.mem_of_getElem? (i := 74) (by decide +kernel), List.mem_of_getElem? (i := 340) (by decide +kernel), List.mem_of_getElem? (i := 341) (by decide +kernel)⟩
theorem lw_p15 : lw_okq (⟨"KeptSeats$Choice", "take", "(III)V"⟩, 12) := ⟨⟨by decide +kernel, by decide +kernel⟩, List.mem_of_getElem? (i := 55) (by decide +kernel), List.mem_of_getElem? (i := 357) (by decide +kernel), List.mem_of_getElem? (i := 358) (by decide +kernel)⟩
def lw_privs_1 : List (MethodName × Nat) := [(⟨"KeptSeats", "beginAct", "()V"⟩, 8), (⟨"KeptSeats$Diary", "pageAt", "(I)LKeptSeats$Office;"⟩, 3), (⟨"KeptSeats", "changePerson", "(IIII)I"⟩, 8), (⟨"KeptSeats", "isPerson", "(I)Z"⟩, 8), (⟨"KeptSeats", "change", "(III)I"⟩, 8), (⟨"KeptSeats", "presentChoice", "()LKeptSeats$Choice;"⟩, 8), (⟨"KeptSeats$Choice", "rankAll", "(LKeptSeats$Office;)V"⟩, 12), (⟨"KeptSeats$Choice", "findFree", "(LKeptSeats$Office;)V"⟩, 12), (⟨"KeptSeats$Choice", "occupy", "(II)V"⟩, 12), (⟨"KeptSeats$Choice", "findCandidates", "(LKeptSeats$Office;)V"⟩, 12), (⟨"KeptSeats$Choice", "takeIn", "(LKeptSeats$Office;I)V"⟩, 12), (⟨"KeptSeats$Choice", "lineUp", "(I)V"⟩, 12), (⟨"KeptSeats$Choice", "withoutSeat", "(I)I"⟩, 12), (⟨"KeptSeats$Choice", "takeFullest", "(LKeptSeats$Office;II)V"⟩, 12), (⟨"KeptSeats$Tally", "changeLeft", "(II)V"⟩, 2), (⟨"KeptSeats$Choice", "take", "(III)V"⟩, 12)]
theorem lw_r1 : ∀ q ∈ lw_privs_1, lw_okq q := List.forall_mem_cons.mpr ⟨lw_p0, List.forall_mem_cons.mpr ⟨lw_p1, List.forall_mem_cons.mpr ⟨lw_p2, List.forall_mem_cons.mpr ⟨lw_p3, List.forall_mem_cons.mpr ⟨lw_p4, List.forall_mem_cons.mpr ⟨lw_p5, List.forall_mem_cons.mpr ⟨lw_p6, List.forall_mem_cons.mpr ⟨lw_p7, List.forall_mem_cons.mpr ⟨lw_p8, List.forall_mem_cons.mpr ⟨lw_p9, List.forall_mem_cons.mpr ⟨lw_p10, List.forall_mem_cons.mpr ⟨lw_p11, List.forall_mem_cons.mpr ⟨lw_p12, List.forall_mem_cons.mpr ⟨lw_p13, List.forall_mem_cons.mpr ⟨lw_p14, List.forall_mem_cons.mpr ⟨lw_p15, fun _ h => absurd h List.not_mem_nil⟩⟩⟩⟩⟩⟩⟩⟩⟩⟩⟩⟩⟩⟩⟩⟩
theorem lw_p16 : lw_okq (⟨"KeptSeats$Choice", "takeByGroups", "(LKeptSeats$Office;II)V"⟩, 12) := ⟨⟨by decide +kernel, by decide +kernel⟩, List.mem_of_getElem? (i := 55) (by decide +kernel), List.mem_of_getElem? (i := 361) (by decide +kernel), List.mem_of_getElem? (i := 362) (by decide +kernel)⟩
theorem lw_p17 : lw_okq (⟨"KeptSeats$Choice", "takeForGroup", "(LKeptSeats$Office;III)I"⟩, 12) := ⟨⟨by decide +kernel, by decide +kernel⟩, List.mem_of_getElem? (i := 55) (by decide +kernel), List.mem_of_getElem? (i := 366) (by decide +kernel), List.mem_of_getElem? (i := 367) (by decide +kernel)⟩
theorem lw_p18 : lw_okq (⟨"KeptSeats$Choice", "takeBest", "(II)V"⟩, 12) := ⟨⟨by decide +kernel, by decide +kernel⟩, List.mem_of_getElem? (i := 55) (by decide +kernel), List.mem_of_getElem? (i := 374) (by decide +kernel), List.mem_of_getElem? (i := 375) (by decide +kernel)⟩
theorem lw_p19 : lw_okq (⟨"KeptSeats$Choice", "passOn", "(LKeptSeats$Office;I)V"⟩, 12) := ⟨⟨by decide +kernel, by decide +kernel⟩, List.mem_of_getElem? (i := 55) (by decide +kernel), List.mem_of_getElem? (i := 378) (by decide +kernel), List.mem_of_getElem? (i := 379) (by decide +kernel)⟩
theorem lw_p20 : lw_okq (⟨"KeptSeats$Choice", "findReceiver", "(LKeptSeats$Office;I)I"⟩, 12) := ⟨⟨by decide +kernel, by decide +kernel⟩, List.mem_of_getElem? (i := 55) (by decide +kernel), List.mem_of_getElem? (i := 390) (by decide +kernel), List.mem_of_getElem? (i := 391) (by decide +kernel)⟩
theorem lw_p21 : lw_okq (⟨"KeptSeats$Choice", "bestWithoutSeat", "(I)I"⟩, 12) := ⟨⟨by decide +kernel, by decide +kernel⟩, List.mem_of_getElem? (i := 55) (by decide +kernel), List.mem_of_getElem? (i := 395) (by decide +kernel), List.mem_of_getElem? (i := 396) (by decide +kernel)⟩
theorem lw_p22 : lw_okq (⟨"KeptSeats$Choice", "tallyTaken", "(LKeptSeats$Office;I)V"⟩, 12) := ⟨⟨by decide +kernel, by decide +kernel⟩, List.mem_of_getElem? (i := 55) (by decide +kernel), List.mem_of_getElem? (i := 403) (by decide +kernel), List.mem_of_getElem? (i := 404) (by decide +kernel)⟩
theorem lw_p23 : lw_okq (⟨"KeptSeats", "worstMark", "(LKeptSeats$Choice;I)I"⟩, 8) := ⟨⟨by decide +kernel, by decide +kernel⟩, List.mem_of_getElem? (i := 13) (by decide +kernel), List.mem_of_getElem? (i := 509) (by decide +kernel), List.mem_of_getElem? (i := 510) (by decide +kernel)⟩
theorem lw_p24 : lw_okq (⟨"KeptSeats$Countings", "include", "(ILKeptSeats$Choice;I)V"⟩, 1) := ⟨⟨by decide +kernel, by decide +kernel⟩, List.mem_of_getElem? (i := 126) (by decide +kernel), List.mem_of_getElem? (i := 530) (by decide +kernel), List.mem_of_getElem? (i := 531) (by decide +kernel)⟩
theorem lw_p25 : lw_okq (⟨"KeptSeats", "sumOfMarks", "(I)I"⟩, 8) := ⟨⟨by decide +kernel, by decide +kernel⟩, List.mem_of_getElem? (i := 13) (by decide +kernel), List.mem_of_getElem? (i := 557) (by decide +kernel), List.mem_of_getElem? (i := 558) (by decide +kernel)⟩
theorem lw_p26 : lw_okq (⟨"KeptSeats", "leastMark", "(I)I"⟩, 8) := ⟨⟨by decide +kernel, by decide +kernel⟩, List.mem_of_getElem? (i := 13) (by decide +kernel), List.mem_of_getElem? (i := 576) (by decide +kernel), List.mem_of_getElem? (i := 577) (by decide +kernel)⟩
theorem lw_p27 : lw_okq (⟨"KeptSeats", "leastGroups", "(I)I"⟩, 8) := ⟨⟨by decide +kernel, by decide +kernel⟩, List.mem_of_getElem? (i := 13) (by decide +kernel), List.mem_of_getElem? (i := 585) (by decide +kernel), List.mem_of_getElem? (i := 586) (by decide +kernel)⟩
theorem lw_p28 : lw_okq (⟨"KeptSeats", "placeOfGap", "(I)I"⟩, 8) := ⟨⟨by decide +kernel, by decide +kernel⟩, List.mem_of_getElem? (i := 13) (by decide +kernel), List.mem_of_getElem? (i := 607) (by decide +kernel), List.mem_of_getElem? (i := 608) (by decide +kernel)⟩
theorem lw_p29 : lw_okq (⟨"KeptSeats$Choice", "countEnvious", "(LKeptSeats$Office;III)I"⟩, 12) := ⟨⟨by decide +kernel, by decide +kernel⟩, List.mem_of_getElem? (i := 55) (by decide +kernel), List.mem_of_getElem? (i := 620) (by decide +kernel), List.mem_of_getElem? (i := 621) (by decide +kernel)⟩
theorem lw_p30 : lw_okq (⟨"KeptSeats", "settle", "(I)I"⟩, 8) := ⟨⟨by decide +kernel, by decide +kernel⟩, List.mem_of_getElem? (i := 13) (by decide +kernel), List.mem_of_getElem? (i := 629) (by decide +kernel), List.mem_of_getElem? (i := 630) (by decide +kernel)⟩
theorem lw_p31 : lw_okq (⟨"KeptSeatsModel", "keep", "()V"⟩, 21) := ⟨⟨by decide +kernel, by decide +kernel⟩, List.mem_of_getElem? (i := 666) (by decide +kernel), List.mem_of_getElem? (i := 752) (by decide +kernel), List.mem_of_getElem? (i := 753) (by decide +kernel)⟩
def lw_privs_2 : List (MethodName × Nat) := [(⟨"KeptSeats$Choice", "takeByGroups", "(LKeptSeats$Office;II)V"⟩, 12), (⟨"KeptSeats$Choice", "takeForGroup", "(LKeptSeats$Office;III)I"⟩, 12), (⟨"KeptSeats$Choice", "takeBest", "(II)V"⟩, 12), (⟨"KeptSeats$Choice", "passOn", "(LKeptSeats$Office;I)V"⟩, 12), (⟨"KeptSeats$Choice", "findReceiver", "(LKeptSeats$Office;I)I"⟩, 12), (⟨"KeptSeats$Choice", "bestWithoutSeat", "(I)I"⟩, 12), (⟨"KeptSeats$Choice", "tallyTaken", "(LKeptSeats$Office;I)V"⟩, 12), (⟨"KeptSeats", "worstMark", "(LKeptSeats$Choice;I)I"⟩, 8), (⟨"KeptSeats$Countings", "include", "(ILKeptSeats$Choice;I)V"⟩, 1), (⟨"KeptSeats", "sumOfMarks", "(I)I"⟩, 8), (⟨"KeptSeats", "leastMark", "(I)I"⟩, 8), (⟨"KeptSeats", "leastGroups", "(I)I"⟩, 8), (⟨"KeptSeats", "placeOfGap", "(I)I"⟩, 8), (⟨"KeptSeats$Choice", "countEnvious", "(LKeptSeats$Office;III)I"⟩, 12), (⟨"KeptSeats", "settle", "(I)I"⟩, 8), (⟨"KeptSeatsModel", "keep", "()V"⟩, 21)]
theorem lw_r2 : ∀ q ∈ lw_privs_2, lw_okq q := List.forall_mem_cons.mpr ⟨lw_p16, List.forall_mem_cons.mpr ⟨lw_p17, List.forall_mem_cons.mpr ⟨lw_p18, List.forall_mem_cons.mpr ⟨lw_p19, List.forall_mem_cons.mpr ⟨lw_p20, List.forall_mem_cons.mpr ⟨lw_p21, List.forall_mem_cons.mpr ⟨lw_p22, List.forall_mem_cons.mpr ⟨lw_p23, List.forall_mem_cons.mpr ⟨lw_p24, List.forall_mem_cons.mpr ⟨lw_p25, List.forall_mem_cons.mpr ⟨lw_p26, List.forall_mem_cons.mpr ⟨lw_p27, List.forall_mem_cons.mpr ⟨lw_p28, List.forall_mem_cons.mpr ⟨lw_p29, List.forall_mem_cons.mpr ⟨lw_p30, List.forall_mem_cons.mpr ⟨lw_p31, fun _ h => absurd h List.not_mem_nil⟩⟩⟩⟩⟩⟩⟩⟩⟩⟩⟩⟩⟩⟩⟩⟩
theorem lw_p32 : lw_okq (⟨"KeptSeatsModel", "become", "(III)V"⟩, 21) := ⟨⟨by decide +kernel, by decide +kernel⟩, List.mem_of_getElem? (i := 666) (by decide +kernel), List.mem_of_getElem? (i := 756) (by decide +kernel), List.mem_of_getElem? (i := 757) (by decide +kernel)⟩
theorem lw_p33 : lw_okq (⟨"KeptSeatsModel", "forgets", "(I)V"⟩, 21) := ⟨⟨by decide +kernel, by decide +kernel⟩, List.mem_of_getElem? (i := 666) (by decide +kernel), List.mem_of_getElem? (i := 760) (by decide +kernel), List.mem_of_getElem? (i := 761) (by decide +kernel)⟩
theorem lw_p34 : lw_okq (⟨"KeptSeatsModel", "personal", "(IIII)I"⟩, 21) := ⟨⟨by decide +kernel, by decide +kernel⟩, List.mem_of_getElem? (i := 666) (by decide +kernel), List.mem_of_getElem? (i := 768) (by decide +kernel), List.mem_of_getElem? (i := 769) (by decide +kernel)⟩
theorem lw_p35 : lw_okq (⟨"KeptSeatsModel", "isPerson", "(I)Z"⟩, 21) := ⟨⟨by decide +kernel, by decide +kernel⟩, List.mem_of_getElem? (i := 666) (by decide +kernel), List.mem_of_getElem? (i := 772) (by decide +kernel), List.mem_of_getElem? (i := 773) (by decide +kernel)⟩
theorem lw_p36 : lw_okq (⟨"KeptSeatsModel", "changes", "(II)I"⟩, 21) := ⟨⟨by decide +kernel, by decide +kernel⟩, List.mem_of_getElem? (i := 666) (by decide +kernel), List.mem_of_getElem? (i := 776) (by decide +kernel), List.mem_of_getElem? (i := 777) (by decide +kernel)⟩
theorem lw_p37 : lw_okq (⟨"KeptSeatsModel", "aheadOf", "(I)I"⟩, 21) := ⟨⟨by decide +kernel, by decide +kernel⟩, List.mem_of_getElem? (i := 666) (by decide +kernel), List.mem_of_getElem? (i := 796) (by decide +kernel), List.mem_of_getElem? (i := 797) (by decide +kernel)⟩
theorem lw_p38 : lw_okq (⟨"KeptSeatsModel", "isAhead", "(II)Z"⟩, 21) := ⟨⟨by decide +kernel, by decide +kernel⟩, List.mem_of_getElem? (i := 666) (by decide +kernel), List.mem_of_getElem? (i := 800) (by decide +kernel), List.mem_of_getElem? (i := 801) (by decide +kernel)⟩
theorem lw_p39 : lw_okq (⟨"KeptSeatsModel", "of", "(II)I"⟩, 21) := ⟨⟨by decide +kernel, by decide +kernel⟩, List.mem_of_getElem? (i := 666) (by decide +kernel), List.mem_of_getElem? (i := 804) (by decide +kernel), List.mem_of_getElem? (i := 805) (by decide +kernel)⟩
theorem lw_p40 : lw_okq (⟨"KeptSeatsModel", "choose", "()V"⟩, 21) := ⟨⟨by decide +kernel, by decide +kernel⟩, List.mem_of_getElem? (i := 666) (by decide +kernel), List.mem_of_getElem? (i := 844) (by decide +kernel), List.mem_of_getElem? (i := 845) (by decide +kernel)⟩
theorem lw_p41 : lw_okq (⟨"KeptSeatsModel", "findFree", "()V"⟩, 21) := ⟨⟨by decide +kernel, by decide +kernel⟩, List.mem_of_getElem? (i := 666) (by decide +kernel), List.mem_of_getElem? (i := 848) (by decide +kernel), List.mem_of_getElem? (i := 849) (by decide +kernel)⟩
theorem lw_p42 : lw_okq (⟨"KeptSeatsModel", "noted", "(II)I"⟩, 21) := ⟨⟨by decide +kernel, by decide +kernel⟩, List.mem_of_getElem? (i := 666) (by decide +kernel), List.mem_of_getElem? (i := 852) (by decide +kernel), List.mem_of_getElem? (i := 853) (by decide +kernel)⟩
theorem lw_p43 : lw_okq (⟨"KeptSeatsModel", "takeIn", "(I)V"⟩, 21) := ⟨⟨by decide +kernel, by decide +kernel⟩, List.mem_of_getElem? (i := 666) (by decide +kernel), List.mem_of_getElem? (i := 859) (by decide +kernel), List.mem_of_getElem? (i := 860) (by decide +kernel)⟩
theorem lw_p44 : lw_okq (⟨"KeptSeatsModel", "findCandidates", "(I)V"⟩, 21) := ⟨⟨by decide +kernel, by decide +kernel⟩, List.mem_of_getElem? (i := 666) (by decide +kernel), List.mem_of_getElem? (i := 863) (by decide +kernel), List.mem_of_getElem? (i := 864) (by decide +kernel)⟩
theorem lw_p45 : lw_okq (⟨"KeptSeatsModel", "takesPart", "(I)Z"⟩, 21) := ⟨⟨by decide +kernel, by decide +kernel⟩, List.mem_of_getElem? (i := 666) (by decide +kernel), List.mem_of_getElem? (i := 867) (by decide +kernel), List.mem_of_getElem? (i := 868) (by decide +kernel)⟩
theorem lw_p46 : lw_okq (⟨"KeptSeatsModel", "isCandidate", "(II)Z"⟩, 21) := ⟨⟨by decide +kernel, by decide +kernel⟩, List.mem_of_getElem? (i := 666) (by decide +kernel), List.mem_of_getElem? (i := 871) (by decide +kernel), List.mem_of_getElem? (i := 872) (by decide +kernel)⟩
theorem lw_p47 : lw_okq (⟨"KeptSeatsModel", "takeFilling", "(II)V"⟩, 21) := ⟨⟨by decide +kernel, by decide +kernel⟩, List.mem_of_getElem? (i := 666) (by decide +kernel), List.mem_of_getElem? (i := 875) (by decide +kernel), List.mem_of_getElem? (i := 876) (by decide +kernel)⟩
def lw_privs_3 : List (MethodName × Nat) := [(⟨"KeptSeatsModel", "become", "(III)V"⟩, 21), (⟨"KeptSeatsModel", "forgets", "(I)V"⟩, 21), (⟨"KeptSeatsModel", "personal", "(IIII)I"⟩, 21), (⟨"KeptSeatsModel", "isPerson", "(I)Z"⟩, 21), (⟨"KeptSeatsModel", "changes", "(II)I"⟩, 21), (⟨"KeptSeatsModel", "aheadOf", "(I)I"⟩, 21), (⟨"KeptSeatsModel", "isAhead", "(II)Z"⟩, 21), (⟨"KeptSeatsModel", "of", "(II)I"⟩, 21), (⟨"KeptSeatsModel", "choose", "()V"⟩, 21), (⟨"KeptSeatsModel", "findFree", "()V"⟩, 21), (⟨"KeptSeatsModel", "noted", "(II)I"⟩, 21), (⟨"KeptSeatsModel", "takeIn", "(I)V"⟩, 21), (⟨"KeptSeatsModel", "findCandidates", "(I)V"⟩, 21), (⟨"KeptSeatsModel", "takesPart", "(I)Z"⟩, 21), (⟨"KeptSeatsModel", "isCandidate", "(II)Z"⟩, 21), (⟨"KeptSeatsModel", "takeFilling", "(II)V"⟩, 21)]
theorem lw_r3 : ∀ q ∈ lw_privs_3, lw_okq q := List.forall_mem_cons.mpr ⟨lw_p32, List.forall_mem_cons.mpr ⟨lw_p33, List.forall_mem_cons.mpr ⟨lw_p34, List.forall_mem_cons.mpr ⟨lw_p35, List.forall_mem_cons.mpr ⟨lw_p36, List.forall_mem_cons.mpr ⟨lw_p37, List.forall_mem_cons.mpr ⟨lw_p38, List.forall_mem_cons.mpr ⟨lw_p39, List.forall_mem_cons.mpr ⟨lw_p40, List.forall_mem_cons.mpr ⟨lw_p41, List.forall_mem_cons.mpr ⟨lw_p42, List.forall_mem_cons.mpr ⟨lw_p43, List.forall_mem_cons.mpr ⟨lw_p44, List.forall_mem_cons.mpr ⟨lw_p45, List.forall_mem_cons.mpr ⟨lw_p46, List.forall_mem_cons.mpr ⟨lw_p47, fun _ h => absurd h List.not_mem_nil⟩⟩⟩⟩⟩⟩⟩⟩⟩⟩⟩⟩⟩⟩⟩⟩
theorem lw_p48 : lw_okq (⟨"KeptSeatsModel", "leaveAll", "(I)V"⟩, 21) := ⟨⟨by decide +kernel, by decide +kernel⟩, List.mem_of_getElem? (i := 666) (by decide +kernel), List.mem_of_getElem? (i := 879) (by decide +kernel), List.mem_of_getElem? (i := 880) (by decide +kernel)⟩
theorem lw_p49 : lw_okq (⟨"KeptSeatsModel", "sumHave", "()V"⟩, 21) := ⟨⟨by decide +kernel, by decide +kernel⟩, List.mem_of_getElem? (i := 666) (by decide +kernel), List.mem_of_getElem? (i := 883) (by decide +kernel), List.mem_of_getElem? (i := 884) (by decide +kernel)⟩
theorem lw_p50 : lw_okq (⟨"KeptSeatsModel", "noOthers", "()V"⟩, 21) := ⟨⟨by decide +kernel, by decide +kernel⟩, List.mem_of_getElem? (i := 666) (by decide +kernel), List.mem_of_getElem? (i := 890) (by decide +kernel), List.mem_of_getElem? (i := 891) (by decide +kernel)⟩
theorem lw_p51 : lw_okq (⟨"KeptSeatsModel", "findBehind", "()V"⟩, 21) := ⟨⟨by decide +kernel, by decide +kernel⟩, List.mem_of_getElem? (i := 666) (by decide +kernel), List.mem_of_getElem? (i := 894) (by decide +kernel), List.mem_of_getElem? (i := 895) (by decide +kernel)⟩
theorem lw_p52 : lw_okq (⟨"KeptSeatsModel", "leastCut", "(I)I"⟩, 21) := ⟨⟨by decide +kernel, by decide +kernel⟩, List.mem_of_getElem? (i := 666) (by decide +kernel), List.mem_of_getElem? (i := 898) (by decide +kernel), List.mem_of_getElem? (i := 899) (by decide +kernel)⟩
theorem lw_p53 : lw_okq (⟨"KeptSeatsModel", "addOther", "(II)V"⟩, 21) := ⟨⟨by decide +kernel, by decide +kernel⟩, List.mem_of_getElem? (i := 666) (by decide +kernel), List.mem_of_getElem? (i := 902) (by decide +kernel), List.mem_of_getElem? (i := 903) (by decide +kernel)⟩
theorem lw_p54 : lw_okq (⟨"KeptSeatsModel", "takeByGroups", "(II)V"⟩, 21) := ⟨⟨by decide +kernel, by decide +kernel⟩, List.mem_of_getElem? (i := 666) (by decide +kernel), List.mem_of_getElem? (i := 906) (by decide +kernel), List.mem_of_getElem? (i := 907) (by decide +kernel)⟩
theorem lw_p55 : lw_okq (⟨"KeptSeatsModel", "takeBest", "(I)V"⟩, 21) := ⟨⟨by decide +kernel, by decide +kernel⟩, List.mem_of_getElem? (i := 666) (by decide +kernel), List.mem_of_getElem? (i := 910) (by decide +kernel), List.mem_of_getElem? (i := 911) (by decide +kernel)⟩
theorem lw_p56 : lw_okq (⟨"KeptSeatsModel", "handOn", "(I)V"⟩, 21) := ⟨⟨by decide +kernel, by decide +kernel⟩, List.mem_of_getElem? (i := 666) (by decide +kernel), List.mem_of_getElem? (i := 914) (by decide +kernel), List.mem_of_getElem? (i := 915) (by decide +kernel)⟩
theorem lw_p57 : lw_okq (⟨"KeptSeatsModel", "heirOf", "(I)I"⟩, 21) := ⟨⟨by decide +kernel, by decide +kernel⟩, List.mem_of_getElem? (i := 666) (by decide +kernel), List.mem_of_getElem? (i := 918) (by decide +kernel), List.mem_of_getElem? (i := 919) (by decide +kernel)⟩
theorem lw_p58 : lw_okq (⟨"KeptSeatsModel", "bestOf", "(I)I"⟩, 21) := ⟨⟨by decide +kernel, by decide +kernel⟩, List.mem_of_getElem? (i := 666) (by decide +kernel), List.mem_of_getElem? (i := 922) (by decide +kernel), List.mem_of_getElem? (i := 923) (by decide +kernel)⟩
theorem lw_p59 : lw_okq (⟨"KeptSeatsModel", "chooseAll", "()V"⟩, 21) := ⟨⟨by decide +kernel, by decide +kernel⟩, List.mem_of_getElem? (i := 666) (by decide +kernel), List.mem_of_getElem? (i := 930) (by decide +kernel), List.mem_of_getElem? (i := 931) (by decide +kernel)⟩
theorem lw_p60 : lw_okq (⟨"KeptSeatsModel", "countIn", "(I)V"⟩, 21) := ⟨⟨by decide +kernel, by decide +kernel⟩, List.mem_of_getElem? (i := 666) (by decide +kernel), List.mem_of_getElem? (i := 934) (by decide +kernel), List.mem_of_getElem? (i := 935) (by decide +kernel)⟩
theorem lw_p61 : lw_okq (⟨"KeptSeatsModel", "isTakenIn", "(II)Z"⟩, 21) := ⟨⟨by decide +kernel, by decide +kernel⟩, List.mem_of_getElem? (i := 666) (by decide +kernel), List.mem_of_getElem? (i := 938) (by decide +kernel), List.mem_of_getElem? (i := 939) (by decide +kernel)⟩
theorem lw_p62 : lw_okq (⟨"KeptSeatsModel", "firstGroup", "(II)I"⟩, 21) := ⟨⟨by decide +kernel, by decide +kernel⟩, List.mem_of_getElem? (i := 666) (by decide +kernel), List.mem_of_getElem? (i := 942) (by decide +kernel), List.mem_of_getElem? (i := 943) (by decide +kernel)⟩
theorem lw_p63 : lw_okq (⟨"KeptSeatsModel", "countedIn", "(II)I"⟩, 21) := ⟨⟨by decide +kernel, by decide +kernel⟩, List.mem_of_getElem? (i := 666) (by decide +kernel), List.mem_of_getElem? (i := 958) (by decide +kernel), List.mem_of_getElem? (i := 959) (by decide +kernel)⟩
def lw_privs_4 : List (MethodName × Nat) := [(⟨"KeptSeatsModel", "leaveAll", "(I)V"⟩, 21), (⟨"KeptSeatsModel", "sumHave", "()V"⟩, 21), (⟨"KeptSeatsModel", "noOthers", "()V"⟩, 21), (⟨"KeptSeatsModel", "findBehind", "()V"⟩, 21), (⟨"KeptSeatsModel", "leastCut", "(I)I"⟩, 21), (⟨"KeptSeatsModel", "addOther", "(II)V"⟩, 21), (⟨"KeptSeatsModel", "takeByGroups", "(II)V"⟩, 21), (⟨"KeptSeatsModel", "takeBest", "(I)V"⟩, 21), (⟨"KeptSeatsModel", "handOn", "(I)V"⟩, 21), (⟨"KeptSeatsModel", "heirOf", "(I)I"⟩, 21), (⟨"KeptSeatsModel", "bestOf", "(I)I"⟩, 21), (⟨"KeptSeatsModel", "chooseAll", "()V"⟩, 21), (⟨"KeptSeatsModel", "countIn", "(I)V"⟩, 21), (⟨"KeptSeatsModel", "isTakenIn", "(II)Z"⟩, 21), (⟨"KeptSeatsModel", "firstGroup", "(II)I"⟩, 21), (⟨"KeptSeatsModel", "countedIn", "(II)I"⟩, 21)]
theorem lw_r4 : ∀ q ∈ lw_privs_4, lw_okq q := List.forall_mem_cons.mpr ⟨lw_p48, List.forall_mem_cons.mpr ⟨lw_p49, List.forall_mem_cons.mpr ⟨lw_p50, List.forall_mem_cons.mpr ⟨lw_p51, List.forall_mem_cons.mpr ⟨lw_p52, List.forall_mem_cons.mpr ⟨lw_p53, List.forall_mem_cons.mpr ⟨lw_p54, List.forall_mem_cons.mpr ⟨lw_p55, List.forall_mem_cons.mpr ⟨lw_p56, List.forall_mem_cons.mpr ⟨lw_p57, List.forall_mem_cons.mpr ⟨lw_p58, List.forall_mem_cons.mpr ⟨lw_p59, List.forall_mem_cons.mpr ⟨lw_p60, List.forall_mem_cons.mpr ⟨lw_p61, List.forall_mem_cons.mpr ⟨lw_p62, List.forall_mem_cons.mpr ⟨lw_p63, fun _ h => absurd h List.not_mem_nil⟩⟩⟩⟩⟩⟩⟩⟩⟩⟩⟩⟩⟩⟩⟩⟩
theorem lw_p64 : lw_okq (⟨"KeptSeatsModel", "worstMark", "(I)I"⟩, 21) := ⟨⟨by decide +kernel, by decide +kernel⟩, List.mem_of_getElem? (i := 666) (by decide +kernel), List.mem_of_getElem? (i := 962) (by decide +kernel), List.mem_of_getElem? (i := 963) (by decide +kernel)⟩
theorem lw_p65 : lw_okq (⟨"KeptSeatsModel", "fillOf", "(I)I"⟩, 21) := ⟨⟨by decide +kernel, by decide +kernel⟩, List.mem_of_getElem? (i := 666) (by decide +kernel), List.mem_of_getElem? (i := 966) (by decide +kernel), List.mem_of_getElem? (i := 967) (by decide +kernel)⟩
theorem lw_p66 : lw_okq (⟨"KeptSeatsModel", "addWays", "(II)V"⟩, 21) := ⟨⟨by decide +kernel, by decide +kernel⟩, List.mem_of_getElem? (i := 666) (by decide +kernel), List.mem_of_getElem? (i := 975) (by decide +kernel), List.mem_of_getElem? (i := 976) (by decide +kernel)⟩
theorem lw_p67 : lw_okq (⟨"KeptSeatsModel", "chosen", "()I"⟩, 21) := ⟨⟨by decide +kernel, by decide +kernel⟩, List.mem_of_getElem? (i := 666) (by decide +kernel), List.mem_of_getElem? (i := 989) (by decide +kernel), List.mem_of_getElem? (i := 990) (by decide +kernel)⟩
theorem lw_p68 : lw_okq (⟨"KeptSeatsModel", "marksOf", "(I)I"⟩, 21) := ⟨⟨by decide +kernel, by decide +kernel⟩, List.mem_of_getElem? (i := 666) (by decide +kernel), List.mem_of_getElem? (i := 996) (by decide +kernel), List.mem_of_getElem? (i := 997) (by decide +kernel)⟩
theorem lw_p69 : lw_okq (⟨"KeptSeatsModel", "countedInAll", "()I"⟩, 21) := ⟨⟨by decide +kernel, by decide +kernel⟩, List.mem_of_getElem? (i := 666) (by decide +kernel), List.mem_of_getElem? (i := 1000) (by decide +kernel), List.mem_of_getElem? (i := 1001) (by decide +kernel)⟩
theorem lw_p70 : lw_okq (⟨"KeptSeatsModel", "sets", "(I)Z"⟩, 21) := ⟨⟨by decide +kernel, by decide +kernel⟩, List.mem_of_getElem? (i := 666) (by decide +kernel), List.mem_of_getElem? (i := 1008) (by decide +kernel), List.mem_of_getElem? (i := 1009) (by decide +kernel)⟩
theorem lw_p71 : lw_okq (⟨"KeptSeatsModel", "thresholdOf", "(I)I"⟩, 21) := ⟨⟨by decide +kernel, by decide +kernel⟩, List.mem_of_getElem? (i := 666) (by decide +kernel), List.mem_of_getElem? (i := 1016) (by decide +kernel), List.mem_of_getElem? (i := 1017) (by decide +kernel)⟩
theorem lw_p72 : lw_okq (⟨"KeptSeatsModel", "isChosen", "(I)Z"⟩, 21) := ⟨⟨by decide +kernel, by decide +kernel⟩, List.mem_of_getElem? (i := 666) (by decide +kernel), List.mem_of_getElem? (i := 1020) (by decide +kernel), List.mem_of_getElem? (i := 1021) (by decide +kernel)⟩
theorem lw_p73 : lw_okq (⟨"KeptSeatsModel", "whoMisses", "()I"⟩, 21) := ⟨⟨by decide +kernel, by decide +kernel⟩, List.mem_of_getElem? (i := 666) (by decide +kernel), List.mem_of_getElem? (i := 1040) (by decide +kernel), List.mem_of_getElem? (i := 1041) (by decide +kernel)⟩
theorem lw_p74 : lw_okq (⟨"KeptSeatsModel", "isAsGood", "(III)Z"⟩, 21) := ⟨⟨by decide +kernel, by decide +kernel⟩, List.mem_of_getElem? (i := 666) (by decide +kernel), List.mem_of_getElem? (i := 1048) (by decide +kernel), List.mem_of_getElem? (i := 1049) (by decide +kernel)⟩
theorem lw_p75 : lw_okq (⟨"KeptSeatsModel", "notes", "(I)V"⟩, 21) := ⟨⟨by decide +kernel, by decide +kernel⟩, List.mem_of_getElem? (i := 666) (by decide +kernel), List.mem_of_getElem? (i := 1056) (by decide +kernel), List.mem_of_getElem? (i := 1057) (by decide +kernel)⟩
theorem lw_p76 : lw_okq (⟨"KeptSeatsModel", "standing", "(II)I"⟩, 21) := ⟨⟨by decide +kernel, by decide +kernel⟩, List.mem_of_getElem? (i := 666) (by decide +kernel), List.mem_of_getElem? (i := 1076) (by decide +kernel), List.mem_of_getElem? (i := 1077) (by decide +kernel)⟩
def lw_privs_5 : List (MethodName × Nat) := [(⟨"KeptSeatsModel", "worstMark", "(I)I"⟩, 21), (⟨"KeptSeatsModel", "fillOf", "(I)I"⟩, 21), (⟨"KeptSeatsModel", "addWays", "(II)V"⟩, 21), (⟨"KeptSeatsModel", "chosen", "()I"⟩, 21), (⟨"KeptSeatsModel", "marksOf", "(I)I"⟩, 21), (⟨"KeptSeatsModel", "countedInAll", "()I"⟩, 21), (⟨"KeptSeatsModel", "sets", "(I)Z"⟩, 21), (⟨"KeptSeatsModel", "thresholdOf", "(I)I"⟩, 21), (⟨"KeptSeatsModel", "isChosen", "(I)Z"⟩, 21), (⟨"KeptSeatsModel", "whoMisses", "()I"⟩, 21), (⟨"KeptSeatsModel", "isAsGood", "(III)Z"⟩, 21), (⟨"KeptSeatsModel", "notes", "(I)V"⟩, 21), (⟨"KeptSeatsModel", "standing", "(II)I"⟩, 21)]
theorem lw_r5 : ∀ q ∈ lw_privs_5, lw_okq q := List.forall_mem_cons.mpr ⟨lw_p64, List.forall_mem_cons.mpr ⟨lw_p65, List.forall_mem_cons.mpr ⟨lw_p66, List.forall_mem_cons.mpr ⟨lw_p67, List.forall_mem_cons.mpr ⟨lw_p68, List.forall_mem_cons.mpr ⟨lw_p69, List.forall_mem_cons.mpr ⟨lw_p70, List.forall_mem_cons.mpr ⟨lw_p71, List.forall_mem_cons.mpr ⟨lw_p72, List.forall_mem_cons.mpr ⟨lw_p73, List.forall_mem_cons.mpr ⟨lw_p74, List.forall_mem_cons.mpr ⟨lw_p75, List.forall_mem_cons.mpr ⟨lw_p76, fun _ h => absurd h List.not_mem_nil⟩⟩⟩⟩⟩⟩⟩⟩⟩⟩⟩⟩⟩
def lw_privs : List (MethodName × Nat) := lw_privs_1 ++ (lw_privs_2 ++ (lw_privs_3 ++ (lw_privs_4 ++ (lw_privs_5))))
def lw_tbl : List Cond := k2_sels lw_privs ++ tables_1
theorem lw_privs_ok : ∀ q ∈ lw_privs, lw_okq q := by
  show ∀ q ∈ lw_privs_1 ++ (lw_privs_2 ++ (lw_privs_3 ++ (lw_privs_4 ++ (lw_privs_5)))), lw_okq q
  exact List.forall_mem_append.mpr ⟨lw_r1, List.forall_mem_append.mpr ⟨lw_r2, List.forall_mem_append.mpr ⟨lw_r3, List.forall_mem_append.mpr ⟨lw_r4, lw_r5⟩⟩⟩⟩
end
section
def RX0 : String := "KeptSeats$Choice"
def TX0 : u_T := fun k => match k with
  | 0 => ("KeptSeats$Choice", "rankKeys", "LKeptSeats$Row;", true)
  | 1 => ("KeptSeats$Choice", "freeSeats", "LKeptSeats$Row;", true)
  | 2 => ("KeptSeats$Choice", "freeReserved", "LKeptSeats$Row;", true)
  | 3 => ("KeptSeats$Choice", "candidates", "LKeptSeats$Row;", true)
  | 4 => ("KeptSeats$Choice", "seatKinds", "LKeptSeats$Row;", true)
  | 5 => ("KeptSeats$Choice", "groups", "LKeptSeats$Row;", true)
  | 6 => ("KeptSeats$Choice", "handed", "LKeptSeats$Row;", true)
  | 7 => ("KeptSeats$Choice", "line", "LKeptSeats$Row;", true)
  | 8 => ("KeptSeats$Choice", "tally", "LKeptSeats$Tally;", true)
  | 9 => ("KeptSeats$Choice", "lineLength", "I", false)
  | 10 => ("KeptSeats$Choice", "people", "I", false)
  | _ => ("KeptSeats$Choice", "members", "I", false)
def tyX0 : Nat → FieldType := fun k => match k with
  | 0 => .object "KeptSeats$Row"
  | 1 => .object "KeptSeats$Row"
  | 2 => .object "KeptSeats$Row"
  | 3 => .object "KeptSeats$Row"
  | 4 => .object "KeptSeats$Row"
  | 5 => .object "KeptSeats$Row"
  | 6 => .object "KeptSeats$Row"
  | 7 => .object "KeptSeats$Row"
  | 8 => .object "KeptSeats$Tally"
  | 9 => .int
  | 10 => .int
  | _ => .int
theorem nmX0 : ∀ a, a < 12 → ∀ b, b < 12 → a ≠ b → (TX0 a).2.1 ≠ (TX0 b).2.1 := by decide +kernel
theorem tyX0_ok : ∀ k, k < 12 → parseFieldDescriptor (TX0 k).2.2.1 = some (tyX0 k) := by decide +kernel
abbrev cX0_init : ByteArray := prog_2_method_1_code
def yX0_init : MethodName := ⟨RX0, "<init>", "()V"⟩
abbrev cX0_make : ByteArray := prog_2_method_2_code
def yX0_make : MethodName := ⟨RX0, "make", "(LKeptSeats$Office;)V"⟩
abbrev cX0_assignGroups : ByteArray := prog_2_method_3_code
def yX0_assignGroups : MethodName := ⟨RX0, "assignGroups", "(LKeptSeats$Office;)V"⟩
abbrev cX0_personAt : ByteArray := prog_2_method_4_code
def yX0_personAt : MethodName := ⟨RX0, "personAt", "(I)I"⟩
abbrev cX0_freeSeats : ByteArray := prog_2_method_5_code
def yX0_freeSeats : MethodName := ⟨RX0, "freeSeats", "(I)I"⟩
abbrev cX0_freeReserved : ByteArray := prog_2_method_6_code
def yX0_freeReserved : MethodName := ⟨RX0, "freeReserved", "(II)I"⟩
abbrev cX0_seatOf : ByteArray := prog_2_method_7_code
def yX0_seatOf : MethodName := ⟨RX0, "seatOf", "(I)I"⟩
abbrev cX0_groupOf : ByteArray := prog_2_method_8_code
def yX0_groupOf : MethodName := ⟨RX0, "groupOf", "(I)I"⟩
abbrev cX0_handedTo : ByteArray := prog_2_method_9_code
def yX0_handedTo : MethodName := ⟨RX0, "handedTo", "(I)I"⟩
abbrev cX0_has : ByteArray := prog_2_method_10_code
def yX0_has : MethodName := ⟨RX0, "has", "(I)Z"⟩
abbrev cX0_isTaken : ByteArray := prog_2_method_11_code
def yX0_isTaken : MethodName := ⟨RX0, "isTaken", "(II)Z"⟩
abbrev cX0_members : ByteArray := prog_2_method_12_code
def yX0_members : MethodName := ⟨RX0, "members", "()I"⟩
abbrev cX0_takenAt : ByteArray := prog_2_method_13_code
def yX0_takenAt : MethodName := ⟨RX0, "takenAt", "(II)I"⟩
abbrev cX0_countTaken : ByteArray := prog_2_method_14_code
def yX0_countTaken : MethodName := ⟨RX0, "countTaken", "(I)I"⟩
abbrev cX0_countSeated : ByteArray := prog_2_method_15_code
def yX0_countSeated : MethodName := ⟨RX0, "countSeated", "(I)I"⟩
abbrev cX0_countTo : ByteArray := prog_2_method_16_code
def yX0_countTo : MethodName := ⟨RX0, "countTo", "(II)I"⟩
abbrev cX0_countCountedIn : ByteArray := prog_2_method_17_code
def yX0_countCountedIn : MethodName := ⟨RX0, "countCountedIn", "(I)I"⟩
abbrev cX0_countCounted : ByteArray := prog_2_method_18_code
def yX0_countCounted : MethodName := ⟨RX0, "countCounted", "()I"⟩
abbrev cX0_fillOf : ByteArray := prog_2_method_19_code
def yX0_fillOf : MethodName := ⟨RX0, "fillOf", "(LKeptSeats$Office;I)I"⟩
abbrev cX0_countEnvy : ByteArray := prog_2_method_20_code
def yX0_countEnvy : MethodName := ⟨RX0, "countEnvy", "(LKeptSeats$Office;I)I"⟩
abbrev cX0_countEnvious : ByteArray := prog_2_method_21_code
def yX0_countEnvious : MethodName := ⟨RX0, "countEnvious", "(LKeptSeats$Office;III)I"⟩
abbrev cX0_tallyTaken : ByteArray := prog_2_method_22_code
def yX0_tallyTaken : MethodName := ⟨RX0, "tallyTaken", "(LKeptSeats$Office;I)V"⟩
abbrev cX0_rankAll : ByteArray := prog_2_method_23_code
def yX0_rankAll : MethodName := ⟨RX0, "rankAll", "(LKeptSeats$Office;)V"⟩
abbrev cX0_findFree : ByteArray := prog_2_method_24_code
def yX0_findFree : MethodName := ⟨RX0, "findFree", "(LKeptSeats$Office;)V"⟩
abbrev cX0_occupy : ByteArray := prog_2_method_25_code
def yX0_occupy : MethodName := ⟨RX0, "occupy", "(II)V"⟩
abbrev cX0_findCandidates : ByteArray := prog_2_method_26_code
def yX0_findCandidates : MethodName := ⟨RX0, "findCandidates", "(LKeptSeats$Office;)V"⟩
abbrev cX0_withoutSeat : ByteArray := prog_2_method_27_code
def yX0_withoutSeat : MethodName := ⟨RX0, "withoutSeat", "(I)I"⟩
abbrev cX0_takeIn : ByteArray := prog_2_method_28_code
def yX0_takeIn : MethodName := ⟨RX0, "takeIn", "(LKeptSeats$Office;I)V"⟩
abbrev cX0_lineUp : ByteArray := prog_2_method_29_code
def yX0_lineUp : MethodName := ⟨RX0, "lineUp", "(I)V"⟩
abbrev cX0_take : ByteArray := prog_2_method_30_code
def yX0_take : MethodName := ⟨RX0, "take", "(III)V"⟩
abbrev cX0_takeFullest : ByteArray := prog_2_method_31_code
def yX0_takeFullest : MethodName := ⟨RX0, "takeFullest", "(LKeptSeats$Office;II)V"⟩
abbrev cX0_takeByGroups : ByteArray := prog_2_method_32_code
def yX0_takeByGroups : MethodName := ⟨RX0, "takeByGroups", "(LKeptSeats$Office;II)V"⟩
abbrev cX0_takeForGroup : ByteArray := prog_2_method_33_code
def yX0_takeForGroup : MethodName := ⟨RX0, "takeForGroup", "(LKeptSeats$Office;III)I"⟩
abbrev cX0_takeBest : ByteArray := prog_2_method_34_code
def yX0_takeBest : MethodName := ⟨RX0, "takeBest", "(II)V"⟩
abbrev cX0_passOn : ByteArray := prog_2_method_35_code
def yX0_passOn : MethodName := ⟨RX0, "passOn", "(LKeptSeats$Office;I)V"⟩
abbrev cX0_findReceiver : ByteArray := prog_2_method_36_code
def yX0_findReceiver : MethodName := ⟨RX0, "findReceiver", "(LKeptSeats$Office;I)I"⟩
abbrev cX0_bestWithoutSeat : ByteArray := prog_2_method_37_code
def yX0_bestWithoutSeat : MethodName := ⟨RX0, "bestWithoutSeat", "(I)I"⟩
def RX1 : String := "KeptSeats$Countings"
def TX1 : u_T := fun k => match k with
  | _ => ("KeptSeats$Countings", "table", "LKeptSeats$Row;", true)
def tyX1 : Nat → FieldType := fun k => match k with
  | _ => .object "KeptSeats$Row"
theorem nmX1 : ∀ a, a < 1 → ∀ b, b < 1 → a ≠ b → (TX1 a).2.1 ≠ (TX1 b).2.1 := by decide +kernel
theorem tyX1_ok : ∀ k, k < 1 → parseFieldDescriptor (TX1 k).2.2.1 = some (tyX1 k) := by decide +kernel
abbrev cX1_init : ByteArray := prog_3_method_1_code
def yX1_init : MethodName := ⟨RX1, "<init>", "()V"⟩
abbrev cX1_count : ByteArray := prog_3_method_2_code
def yX1_count : MethodName := ⟨RX1, "count", "(LKeptSeats$Office;LKeptSeats$Choice;I)J"⟩
abbrev cX1_include : ByteArray := prog_3_method_3_code
def yX1_include : MethodName := ⟨RX1, "include", "(ILKeptSeats$Choice;I)V"⟩
abbrev cX1_sumOfDigits : ByteArray := prog_3_method_4_code
def yX1_sumOfDigits : MethodName := ⟨RX1, "sumOfDigits", "(I)I"⟩
def RX2 : String := "KeptSeats$Diary"
def TX2 : u_T := fun k => match k with
  | 0 => ("KeptSeats$Diary", "pages", "[LKeptSeats$Office;", true)
  | 1 => ("KeptSeats$Diary", "next", "I", false)
  | _ => ("KeptSeats$Diary", "kept", "I", false)
def tyX2 : Nat → FieldType := fun k => match k with
  | 0 => .array (.object "KeptSeats$Office")
  | 1 => .int
  | _ => .int
theorem nmX2 : ∀ a, a < 3 → ∀ b, b < 3 → a ≠ b → (TX2 a).2.1 ≠ (TX2 b).2.1 := by decide +kernel
theorem tyX2_ok : ∀ k, k < 3 → parseFieldDescriptor (TX2 k).2.2.1 = some (tyX2 k) := by decide +kernel
abbrev cX2_init : ByteArray := prog_4_method_1_code
def yX2_init : MethodName := ⟨RX2, "<init>", "()V"⟩
abbrev cX2_size : ByteArray := prog_4_method_2_code
def yX2_size : MethodName := ⟨RX2, "size", "()I"⟩
abbrev cX2_keep : ByteArray := prog_4_method_3_code
def yX2_keep : MethodName := ⟨RX2, "keep", "(LKeptSeats$Office;)V"⟩
abbrev cX2_restore : ByteArray := prog_4_method_4_code
def yX2_restore : MethodName := ⟨RX2, "restore", "(LKeptSeats$Office;)V"⟩
abbrev cX2_pageAt : ByteArray := prog_4_method_5_code
def yX2_pageAt : MethodName := ⟨RX2, "pageAt", "(I)LKeptSeats$Office;"⟩
def RX3 : String := "KeptSeats$Office"
def TX3 : u_T := fun k => match k with
  | _ => ("KeptSeats$Office", "cells", "[I", true)
def tyX3 : Nat → FieldType := fun k => match k with
  | _ => .array .int
theorem nmX3 : ∀ a, a < 1 → ∀ b, b < 1 → a ≠ b → (TX3 a).2.1 ≠ (TX3 b).2.1 := by decide +kernel
theorem tyX3_ok : ∀ k, k < 1 → parseFieldDescriptor (TX3 k).2.2.1 = some (tyX3 k) := by decide +kernel
abbrev cX3_init : ByteArray := prog_5_method_1_code
def yX3_init : MethodName := ⟨RX3, "<init>", "()V"⟩
abbrev cX3_get : ByteArray := prog_5_method_2_code
def yX3_get : MethodName := ⟨RX3, "get", "(II)I"⟩
abbrev cX3_set : ByteArray := prog_5_method_3_code
def yX3_set : MethodName := ⟨RX3, "set", "(III)V"⟩
abbrev cX3_copyFrom : ByteArray := prog_5_method_4_code
def yX3_copyFrom : MethodName := ⟨RX3, "copyFrom", "(LKeptSeats$Office;)V"⟩
abbrev cX3_setOrder : ByteArray := prog_5_method_5_code
def yX3_setOrder : MethodName := ⟨RX3, "setOrder", "(IIII)V"⟩
abbrev cX3_dismiss : ByteArray := prog_5_method_6_code
def yX3_dismiss : MethodName := ⟨RX3, "dismiss", "(II)V"⟩
abbrev cX3_people : ByteArray := prog_5_method_7_code
def yX3_people : MethodName := ⟨RX3, "people", "()I"⟩
abbrev cX3_isActive : ByteArray := prog_5_method_8_code
def yX3_isActive : MethodName := ⟨RX3, "isActive", "(I)Z"⟩
abbrev cX3_rankKey : ByteArray := prog_5_method_9_code
def yX3_rankKey : MethodName := ⟨RX3, "rankKey", "(I)I"⟩
abbrev cX3_isAhead : ByteArray := prog_5_method_10_code
def yX3_isAhead : MethodName := ⟨RX3, "isAhead", "(II)Z"⟩
abbrev cX3_countAhead : ByteArray := prog_5_method_11_code
def yX3_countAhead : MethodName := ⟨RX3, "countAhead", "(I)I"⟩
abbrev cX3_countWith : ByteArray := prog_5_method_12_code
def yX3_countWith : MethodName := ⟨RX3, "countWith", "(II)I"⟩
abbrev cX3_countActive : ByteArray := prog_5_method_13_code
def yX3_countActive : MethodName := ⟨RX3, "countActive", "()I"⟩
def RX4 : String := "KeptSeats$Row"
def TX4 : u_T := fun k => match k with
  | _ => ("KeptSeats$Row", "cells", "[I", true)
def tyX4 : Nat → FieldType := fun k => match k with
  | _ => .array .int
theorem nmX4 : ∀ a, a < 1 → ∀ b, b < 1 → a ≠ b → (TX4 a).2.1 ≠ (TX4 b).2.1 := by decide +kernel
theorem tyX4_ok : ∀ k, k < 1 → parseFieldDescriptor (TX4 k).2.2.1 = some (tyX4 k) := by decide +kernel
abbrev cX4_init : ByteArray := prog_6_method_1_code
def yX4_init : MethodName := ⟨RX4, "<init>", "(I)V"⟩
abbrev cX4_get : ByteArray := prog_6_method_2_code
def yX4_get : MethodName := ⟨RX4, "get", "(I)I"⟩
abbrev cX4_set : ByteArray := prog_6_method_3_code
def yX4_set : MethodName := ⟨RX4, "set", "(II)V"⟩
abbrev cX4_add : ByteArray := prog_6_method_4_code
def yX4_add : MethodName := ⟨RX4, "add", "(II)V"⟩
abbrev cX4_fill : ByteArray := prog_6_method_5_code
def yX4_fill : MethodName := ⟨RX4, "fill", "(I)V"⟩
def RX5 : String := "KeptSeats$Tally"
def TX5 : u_T := fun k => match k with
  | 0 => ("KeptSeats$Tally", "bounds", "[I", true)
  | _ => ("KeptSeats$Tally", "left", "LKeptSeats$Row;", true)
def tyX5 : Nat → FieldType := fun k => match k with
  | 0 => .array .int
  | _ => .object "KeptSeats$Row"
theorem nmX5 : ∀ a, a < 2 → ∀ b, b < 2 → a ≠ b → (TX5 a).2.1 ≠ (TX5 b).2.1 := by decide +kernel
theorem tyX5_ok : ∀ k, k < 2 → parseFieldDescriptor (TX5 k).2.2.1 = some (tyX5 k) := by decide +kernel
abbrev cX5_init : ByteArray := prog_7_method_1_code
def yX5_init : MethodName := ⟨RX5, "<init>", "()V"⟩
abbrev cX5_begin : ByteArray := prog_7_method_2_code
def yX5_begin : MethodName := ⟨RX5, "begin", "(LKeptSeats$Choice;I)V"⟩
abbrev cX5_add : ByteArray := prog_7_method_3_code
def yX5_add : MethodName := ⟨RX5, "add", "(II)V"⟩
abbrev cX5_fill : ByteArray := prog_7_method_4_code
def yX5_fill : MethodName := ⟨RX5, "fill", "()I"⟩
abbrev cX5_assign : ByteArray := prog_7_method_5_code
def yX5_assign : MethodName := ⟨RX5, "assign", "(I)I"⟩
abbrev cX5_changeLeft : ByteArray := prog_7_method_6_code
def yX5_changeLeft : MethodName := ⟨RX5, "changeLeft", "(II)V"⟩
def RX6 : String := "KeptSeats"
def TX6 : u_T := fun k => match k with
  | 0 => ("KeptSeats", "office", "LKeptSeats$Office;", true)
  | 1 => ("KeptSeats", "diary", "LKeptSeats$Diary;", true)
  | 2 => ("KeptSeats", "choice", "LKeptSeats$Choice;", true)
  | 3 => ("KeptSeats", "trial", "LKeptSeats$Office;", true)
  | 4 => ("KeptSeats", "guess", "LKeptSeats$Choice;", true)
  | 5 => ("KeptSeats", "countings", "LKeptSeats$Countings;", true)
  | 6 => ("KeptSeats", "gaps", "LKeptSeats$Row;", true)
  | _ => ("KeptSeats", "stale", "Z", false)
def tyX6 : Nat → FieldType := fun k => match k with
  | 0 => .object "KeptSeats$Office"
  | 1 => .object "KeptSeats$Diary"
  | 2 => .object "KeptSeats$Choice"
  | 3 => .object "KeptSeats$Office"
  | 4 => .object "KeptSeats$Choice"
  | 5 => .object "KeptSeats$Countings"
  | 6 => .object "KeptSeats$Row"
  | _ => .boolean
theorem nmX6 : ∀ a, a < 8 → ∀ b, b < 8 → a ≠ b → (TX6 a).2.1 ≠ (TX6 b).2.1 := by decide +kernel
theorem tyX6_ok : ∀ k, k < 8 → parseFieldDescriptor (TX6 k).2.2.1 = some (tyX6 k) := by decide +kernel
abbrev cX6_init : ByteArray := prog_1_method_1_code
def yX6_init : MethodName := ⟨RX6, "<init>", "()V"⟩
abbrev cX6_enter : ByteArray := prog_1_method_2_code
def yX6_enter : MethodName := ⟨RX6, "enter", "(IIII)I"⟩
abbrev cX6_mark : ByteArray := prog_1_method_3_code
def yX6_mark : MethodName := ⟨RX6, "mark", "(II)I"⟩
abbrev cX6_ticket : ByteArray := prog_1_method_4_code
def yX6_ticket : MethodName := ⟨RX6, "ticket", "(II)I"⟩
abbrev cX6_kind : ByteArray := prog_1_method_5_code
def yX6_kind : MethodName := ⟨RX6, "kind", "(II)I"⟩
abbrev cX6_groups : ByteArray := prog_1_method_6_code
def yX6_groups : MethodName := ⟨RX6, "groups", "(II)I"⟩
abbrev cX6_ofPerson : ByteArray := prog_1_method_7_code
def yX6_ofPerson : MethodName := ⟨RX6, "ofPerson", "(II)I"⟩
abbrev cX6_ranked : ByteArray := prog_1_method_8_code
def yX6_ranked : MethodName := ⟨RX6, "ranked", "(I)I"⟩
abbrev cX6_above : ByteArray := prog_1_method_9_code
def yX6_above : MethodName := ⟨RX6, "above", "(I)I"⟩
abbrev cX6_alike : ByteArray := prog_1_method_10_code
def yX6_alike : MethodName := ⟨RX6, "alike", "(I)I"⟩
abbrev cX6_seats : ByteArray := prog_1_method_11_code
def yX6_seats : MethodName := ⟨RX6, "seats", "(II)I"⟩
abbrev cX6_reserve : ByteArray := prog_1_method_12_code
def yX6_reserve : MethodName := ⟨RX6, "reserve", "(III)I"⟩
abbrev cX6_heir : ByteArray := prog_1_method_13_code
def yX6_heir : MethodName := ⟨RX6, "heir", "(II)I"⟩
abbrev cX6_manner : ByteArray := prog_1_method_14_code
def yX6_manner : MethodName := ⟨RX6, "manner", "(I)I"⟩
abbrev cX6_order : ByteArray := prog_1_method_15_code
def yX6_order : MethodName := ⟨RX6, "order", "(IIII)I"⟩
abbrev cX6_seat : ByteArray := prog_1_method_16_code
def yX6_seat : MethodName := ⟨RX6, "seat", "(I)I"⟩
abbrev cX6_counted : ByteArray := prog_1_method_17_code
def yX6_counted : MethodName := ⟨RX6, "counted", "(I)I"⟩
abbrev cX6_handed : ByteArray := prog_1_method_18_code
def yX6_handed : MethodName := ⟨RX6, "handed", "(I)I"⟩
abbrev cX6_taken : ByteArray := prog_1_method_19_code
def yX6_taken : MethodName := ⟨RX6, "taken", "(II)I"⟩
abbrev cX6_ofKind : ByteArray := prog_1_method_20_code
def yX6_ofKind : MethodName := ⟨RX6, "ofKind", "(II)I"⟩
abbrev cX6_ways : ByteArray := prog_1_method_21_code
def yX6_ways : MethodName := ⟨RX6, "ways", "(I)J"⟩
abbrev cX6_by : ByteArray := prog_1_method_22_code
def yX6_by : MethodName := ⟨RX6, "by", "(II)I"⟩
abbrev cX6_sure : ByteArray := prog_1_method_23_code
def yX6_sure : MethodName := ⟨RX6, "sure", "(I)I"⟩
abbrev cX6_threshold : ByteArray := prog_1_method_24_code
def yX6_threshold : MethodName := ⟨RX6, "threshold", "(I)I"⟩
abbrev cX6_claim : ByteArray := prog_1_method_25_code
def yX6_claim : MethodName := ⟨RX6, "claim", "(I)I"⟩
abbrev cX6_successor : ByteArray := prog_1_method_26_code
def yX6_successor : MethodName := ⟨RX6, "successor", "(I)I"⟩
abbrev cX6_passed : ByteArray := prog_1_method_27_code
def yX6_passed : MethodName := ⟨RX6, "passed", "(I)I"⟩
abbrev cX6_nearest : ByteArray := prog_1_method_28_code
def yX6_nearest : MethodName := ⟨RX6, "nearest", "(I)I"⟩
abbrev cX6_envy : ByteArray := prog_1_method_29_code
def yX6_envy : MethodName := ⟨RX6, "envy", "()I"⟩
abbrev cX6_round : ByteArray := prog_1_method_30_code
def yX6_round : MethodName := ⟨RX6, "round", "()I"⟩
abbrev cX6_answer : ByteArray := prog_1_method_31_code
def yX6_answer : MethodName := ⟨RX6, "answer", "(II)I"⟩
abbrev cX6_again : ByteArray := prog_1_method_32_code
def yX6_again : MethodName := ⟨RX6, "again", "(I)I"⟩
abbrev cX6_note : ByteArray := prog_1_method_33_code
def yX6_note : MethodName := ⟨RX6, "note", "(II)I"⟩
abbrev cX6_back : ByteArray := prog_1_method_34_code
def yX6_back : MethodName := ⟨RX6, "back", "(I)I"⟩
abbrev cX6_many : ByteArray := prog_1_method_35_code
def yX6_many : MethodName := ⟨RX6, "many", "(I)I"⟩
abbrev cX6_isWithin : ByteArray := prog_1_method_36_code
def yX6_isWithin : MethodName := ⟨RX6, "isWithin", "(II)Z"⟩
abbrev cX6_isKind : ByteArray := prog_1_method_37_code
def yX6_isKind : MethodName := ⟨RX6, "isKind", "(I)Z"⟩
abbrev cX6_isGroup : ByteArray := prog_1_method_38_code
def yX6_isGroup : MethodName := ⟨RX6, "isGroup", "(I)Z"⟩
abbrev cX6_isGroupSet : ByteArray := prog_1_method_39_code
def yX6_isGroupSet : MethodName := ⟨RX6, "isGroupSet", "(I)Z"⟩
abbrev cX6_isOrder : ByteArray := prog_1_method_40_code
def yX6_isOrder : MethodName := ⟨RX6, "isOrder", "(IIII)Z"⟩
abbrev cX6_isPerson : ByteArray := prog_1_method_41_code
def yX6_isPerson : MethodName := ⟨RX6, "isPerson", "(I)Z"⟩
abbrev cX6_beginAct : ByteArray := prog_1_method_42_code
def yX6_beginAct : MethodName := ⟨RX6, "beginAct", "()V"⟩
abbrev cX6_change : ByteArray := prog_1_method_43_code
def yX6_change : MethodName := ⟨RX6, "change", "(III)I"⟩
abbrev cX6_changePerson : ByteArray := prog_1_method_44_code
def yX6_changePerson : MethodName := ⟨RX6, "changePerson", "(IIII)I"⟩
abbrev cX6_presentChoice : ByteArray := prog_1_method_45_code
def yX6_presentChoice : MethodName := ⟨RX6, "presentChoice", "()LKeptSeats$Choice;"⟩
abbrev cX6_worstMark : ByteArray := prog_1_method_46_code
def yX6_worstMark : MethodName := ⟨RX6, "worstMark", "(LKeptSeats$Choice;I)I"⟩
abbrev cX6_sumOfMarks : ByteArray := prog_1_method_47_code
def yX6_sumOfMarks : MethodName := ⟨RX6, "sumOfMarks", "(I)I"⟩
abbrev cX6_leastMark : ByteArray := prog_1_method_48_code
def yX6_leastMark : MethodName := ⟨RX6, "leastMark", "(I)I"⟩
abbrev cX6_leastGroups : ByteArray := prog_1_method_49_code
def yX6_leastGroups : MethodName := ⟨RX6, "leastGroups", "(I)I"⟩
abbrev cX6_placeOfGap : ByteArray := prog_1_method_50_code
def yX6_placeOfGap : MethodName := ⟨RX6, "placeOfGap", "(I)I"⟩
abbrev cX6_settle : ByteArray := prog_1_method_51_code
def yX6_settle : MethodName := ⟨RX6, "settle", "(I)I"⟩
def RX7 : String := "KeptSeatsModel"
def TX7 : u_T := fun k => match k with
  | 0 => ("KeptSeatsModel", "now", "[I", true)
  | 1 => ("KeptSeatsModel", "kept", "[I", true)
  | 2 => ("KeptSeatsModel", "keptMany", "I", false)
  | 3 => ("KeptSeatsModel", "keptNext", "I", false)
  | 4 => ("KeptSeatsModel", "byRank", "[I", true)
  | 5 => ("KeptSeatsModel", "free", "[I", true)
  | 6 => ("KeptSeatsModel", "freeReserved", "[I", true)
  | 7 => ("KeptSeatsModel", "takenMany", "[I", true)
  | 8 => ("KeptSeatsModel", "empty", "[I", true)
  | 9 => ("KeptSeatsModel", "seatOf", "[I", true)
  | 10 => ("KeptSeatsModel", "groupOf", "[I", true)
  | 11 => ("KeptSeatsModel", "isHanded", "[Z", true)
  | 12 => ("KeptSeatsModel", "candidate", "[I", true)
  | 13 => ("KeptSeatsModel", "isTaken", "[Z", true)
  | 14 => ("KeptSeatsModel", "candidates", "I", false)
  | 15 => ("KeptSeatsModel", "have", "[I", true)
  | 16 => ("KeptSeatsModel", "others", "[I", true)
  | 17 => ("KeptSeatsModel", "behind", "[I", true)
  | 18 => ("KeptSeatsModel", "left", "[I", true)
  | 19 => ("KeptSeatsModel", "ways", "[J", true)
  | _ => ("KeptSeatsModel", "misses", "[I", true)
def tyX7 : Nat → FieldType := fun k => match k with
  | 0 => .array .int
  | 1 => .array .int
  | 2 => .int
  | 3 => .int
  | 4 => .array .int
  | 5 => .array .int
  | 6 => .array .int
  | 7 => .array .int
  | 8 => .array .int
  | 9 => .array .int
  | 10 => .array .int
  | 11 => .array .boolean
  | 12 => .array .int
  | 13 => .array .boolean
  | 14 => .int
  | 15 => .array .int
  | 16 => .array .int
  | 17 => .array .int
  | 18 => .array .int
  | 19 => .array .long
  | _ => .array .int
theorem nmX7 : ∀ a, a < 21 → ∀ b, b < 21 → a ≠ b → (TX7 a).2.1 ≠ (TX7 b).2.1 := by decide +kernel
theorem tyX7_ok : ∀ k, k < 21 → parseFieldDescriptor (TX7 k).2.2.1 = some (tyX7 k) := by decide +kernel
abbrev cX7_init : ByteArray := prog_9_method_1_code
def yX7_init : MethodName := ⟨RX7, "<init>", "()V"⟩
abbrev cX7_within : ByteArray := prog_9_method_2_code
def yX7_within : MethodName := ⟨RX7, "within", "(III)Z"⟩
abbrev cX7_isPerson : ByteArray := prog_9_method_3_code
def yX7_isPerson : MethodName := ⟨RX7, "isPerson", "(I)Z"⟩
abbrev cX7_isKind : ByteArray := prog_9_method_4_code
def yX7_isKind : MethodName := ⟨RX7, "isKind", "(I)Z"⟩
abbrev cX7_of : ByteArray := prog_9_method_5_code
def yX7_of : MethodName := ⟨RX7, "of", "(II)I"⟩
abbrev cX7_become : ByteArray := prog_9_method_6_code
def yX7_become : MethodName := ⟨RX7, "become", "(III)V"⟩
abbrev cX7_sizeOf : ByteArray := prog_9_method_7_code
def yX7_sizeOf : MethodName := ⟨RX7, "sizeOf", "(I)I"⟩
abbrev cX7_keep : ByteArray := prog_9_method_8_code
def yX7_keep : MethodName := ⟨RX7, "keep", "()V"⟩
abbrev cX7_back : ByteArray := prog_9_method_9_code
def yX7_back : MethodName := ⟨RX7, "back", "(I)I"⟩
abbrev cX7_changes : ByteArray := prog_9_method_10_code
def yX7_changes : MethodName := ⟨RX7, "changes", "(II)I"⟩
abbrev cX7_enter : ByteArray := prog_9_method_11_code
def yX7_enter : MethodName := ⟨RX7, "enter", "(IIII)I"⟩
abbrev cX7_forgets : ByteArray := prog_9_method_12_code
def yX7_forgets : MethodName := ⟨RX7, "forgets", "(I)V"⟩
abbrev cX7_personal : ByteArray := prog_9_method_13_code
def yX7_personal : MethodName := ⟨RX7, "personal", "(IIII)I"⟩
abbrev cX7_mark : ByteArray := prog_9_method_14_code
def yX7_mark : MethodName := ⟨RX7, "mark", "(II)I"⟩
abbrev cX7_ticket : ByteArray := prog_9_method_15_code
def yX7_ticket : MethodName := ⟨RX7, "ticket", "(II)I"⟩
abbrev cX7_kind : ByteArray := prog_9_method_16_code
def yX7_kind : MethodName := ⟨RX7, "kind", "(II)I"⟩
abbrev cX7_groups : ByteArray := prog_9_method_17_code
def yX7_groups : MethodName := ⟨RX7, "groups", "(II)I"⟩
abbrev cX7_isAhead : ByteArray := prog_9_method_18_code
def yX7_isAhead : MethodName := ⟨RX7, "isAhead", "(II)Z"⟩
abbrev cX7_aheadOf : ByteArray := prog_9_method_19_code
def yX7_aheadOf : MethodName := ⟨RX7, "aheadOf", "(I)I"⟩
abbrev cX7_ofPerson : ByteArray := prog_9_method_20_code
def yX7_ofPerson : MethodName := ⟨RX7, "ofPerson", "(II)I"⟩
abbrev cX7_ranked : ByteArray := prog_9_method_21_code
def yX7_ranked : MethodName := ⟨RX7, "ranked", "(I)I"⟩
abbrev cX7_above : ByteArray := prog_9_method_22_code
def yX7_above : MethodName := ⟨RX7, "above", "(I)I"⟩
abbrev cX7_alike : ByteArray := prog_9_method_23_code
def yX7_alike : MethodName := ⟨RX7, "alike", "(I)I"⟩
abbrev cX7_seats : ByteArray := prog_9_method_24_code
def yX7_seats : MethodName := ⟨RX7, "seats", "(II)I"⟩
abbrev cX7_reserve : ByteArray := prog_9_method_25_code
def yX7_reserve : MethodName := ⟨RX7, "reserve", "(III)I"⟩
abbrev cX7_heir : ByteArray := prog_9_method_26_code
def yX7_heir : MethodName := ⟨RX7, "heir", "(II)I"⟩
abbrev cX7_manner : ByteArray := prog_9_method_27_code
def yX7_manner : MethodName := ⟨RX7, "manner", "(I)I"⟩
abbrev cX7_order : ByteArray := prog_9_method_28_code
def yX7_order : MethodName := ⟨RX7, "order", "(IIII)I"⟩
abbrev cX7_takesPart : ByteArray := prog_9_method_29_code
def yX7_takesPart : MethodName := ⟨RX7, "takesPart", "(I)Z"⟩
abbrev cX7_isCandidate : ByteArray := prog_9_method_30_code
def yX7_isCandidate : MethodName := ⟨RX7, "isCandidate", "(II)Z"⟩
abbrev cX7_noted : ByteArray := prog_9_method_31_code
def yX7_noted : MethodName := ⟨RX7, "noted", "(II)I"⟩
abbrev cX7_atLeastNone : ByteArray := prog_9_method_32_code
def yX7_atLeastNone : MethodName := ⟨RX7, "atLeastNone", "(I)I"⟩
abbrev cX7_findFree : ByteArray := prog_9_method_33_code
def yX7_findFree : MethodName := ⟨RX7, "findFree", "()V"⟩
abbrev cX7_isIn : ByteArray := prog_9_method_34_code
def yX7_isIn : MethodName := ⟨RX7, "isIn", "(II)I"⟩
abbrev cX7_sumHave : ByteArray := prog_9_method_35_code
def yX7_sumHave : MethodName := ⟨RX7, "sumHave", "()V"⟩
abbrev cX7_leaveAll : ByteArray := prog_9_method_36_code
def yX7_leaveAll : MethodName := ⟨RX7, "leaveAll", "(I)V"⟩
abbrev cX7_addOther : ByteArray := prog_9_method_37_code
def yX7_addOther : MethodName := ⟨RX7, "addOther", "(II)V"⟩
abbrev cX7_noOthers : ByteArray := prog_9_method_38_code
def yX7_noOthers : MethodName := ⟨RX7, "noOthers", "()V"⟩
abbrev cX7_leastCut : ByteArray := prog_9_method_39_code
def yX7_leastCut : MethodName := ⟨RX7, "leastCut", "(I)I"⟩
abbrev cX7_findCandidates : ByteArray := prog_9_method_40_code
def yX7_findCandidates : MethodName := ⟨RX7, "findCandidates", "(I)V"⟩
abbrev cX7_findBehind : ByteArray := prog_9_method_41_code
def yX7_findBehind : MethodName := ⟨RX7, "findBehind", "()V"⟩
abbrev cX7_takeFilling : ByteArray := prog_9_method_42_code
def yX7_takeFilling : MethodName := ⟨RX7, "takeFilling", "(II)V"⟩
abbrev cX7_takeByGroups : ByteArray := prog_9_method_43_code
def yX7_takeByGroups : MethodName := ⟨RX7, "takeByGroups", "(II)V"⟩
abbrev cX7_takeBest : ByteArray := prog_9_method_44_code
def yX7_takeBest : MethodName := ⟨RX7, "takeBest", "(I)V"⟩
abbrev cX7_takeIn : ByteArray := prog_9_method_45_code
def yX7_takeIn : MethodName := ⟨RX7, "takeIn", "(I)V"⟩
abbrev cX7_countIn : ByteArray := prog_9_method_46_code
def yX7_countIn : MethodName := ⟨RX7, "countIn", "(I)V"⟩
abbrev cX7_firstGroup : ByteArray := prog_9_method_47_code
def yX7_firstGroup : MethodName := ⟨RX7, "firstGroup", "(II)I"⟩
abbrev cX7_bestOf : ByteArray := prog_9_method_48_code
def yX7_bestOf : MethodName := ⟨RX7, "bestOf", "(I)I"⟩
abbrev cX7_heirOf : ByteArray := prog_9_method_49_code
def yX7_heirOf : MethodName := ⟨RX7, "heirOf", "(I)I"⟩
abbrev cX7_handOn : ByteArray := prog_9_method_50_code
def yX7_handOn : MethodName := ⟨RX7, "handOn", "(I)V"⟩
abbrev cX7_choose : ByteArray := prog_9_method_51_code
def yX7_choose : MethodName := ⟨RX7, "choose", "()V"⟩
abbrev cX7_chooseAll : ByteArray := prog_9_method_52_code
def yX7_chooseAll : MethodName := ⟨RX7, "chooseAll", "()V"⟩
abbrev cX7_chosen : ByteArray := prog_9_method_53_code
def yX7_chosen : MethodName := ⟨RX7, "chosen", "()I"⟩
abbrev cX7_seat : ByteArray := prog_9_method_54_code
def yX7_seat : MethodName := ⟨RX7, "seat", "(I)I"⟩
abbrev cX7_counted : ByteArray := prog_9_method_55_code
def yX7_counted : MethodName := ⟨RX7, "counted", "(I)I"⟩
abbrev cX7_handed : ByteArray := prog_9_method_56_code
def yX7_handed : MethodName := ⟨RX7, "handed", "(I)I"⟩
abbrev cX7_isTakenIn : ByteArray := prog_9_method_57_code
def yX7_isTakenIn : MethodName := ⟨RX7, "isTakenIn", "(II)Z"⟩
abbrev cX7_taken : ByteArray := prog_9_method_58_code
def yX7_taken : MethodName := ⟨RX7, "taken", "(II)I"⟩
abbrev cX7_fillOf : ByteArray := prog_9_method_59_code
def yX7_fillOf : MethodName := ⟨RX7, "fillOf", "(I)I"⟩
abbrev cX7_countedIn : ByteArray := prog_9_method_60_code
def yX7_countedIn : MethodName := ⟨RX7, "countedIn", "(II)I"⟩
abbrev cX7_worstMark : ByteArray := prog_9_method_61_code
def yX7_worstMark : MethodName := ⟨RX7, "worstMark", "(I)I"⟩
abbrev cX7_ofKind : ByteArray := prog_9_method_62_code
def yX7_ofKind : MethodName := ⟨RX7, "ofKind", "(II)I"⟩
abbrev cX7_usedOf : ByteArray := prog_9_method_63_code
def yX7_usedOf : MethodName := ⟨RX7, "usedOf", "(II)I"⟩
abbrev cX7_sixes : ByteArray := prog_9_method_64_code
def yX7_sixes : MethodName := ⟨RX7, "sixes", "(I)I"⟩
abbrev cX7_addWays : ByteArray := prog_9_method_65_code
def yX7_addWays : MethodName := ⟨RX7, "addWays", "(II)V"⟩
abbrev cX7_ways : ByteArray := prog_9_method_66_code
def yX7_ways : MethodName := ⟨RX7, "ways", "(I)J"⟩
abbrev cX7_countedInAll : ByteArray := prog_9_method_67_code
def yX7_countedInAll : MethodName := ⟨RX7, "countedInAll", "()I"⟩
abbrev cX7_marksOf : ByteArray := prog_9_method_68_code
def yX7_marksOf : MethodName := ⟨RX7, "marksOf", "(I)I"⟩
abbrev cX7_by : ByteArray := prog_9_method_69_code
def yX7_by : MethodName := ⟨RX7, "by", "(II)I"⟩
abbrev cX7_sure : ByteArray := prog_9_method_70_code
def yX7_sure : MethodName := ⟨RX7, "sure", "(I)I"⟩
abbrev cX7_sets : ByteArray := prog_9_method_71_code
def yX7_sets : MethodName := ⟨RX7, "sets", "(I)Z"⟩
abbrev cX7_isChosen : ByteArray := prog_9_method_72_code
def yX7_isChosen : MethodName := ⟨RX7, "isChosen", "(I)Z"⟩
abbrev cX7_thresholdOf : ByteArray := prog_9_method_73_code
def yX7_thresholdOf : MethodName := ⟨RX7, "thresholdOf", "(I)I"⟩
abbrev cX7_threshold : ByteArray := prog_9_method_74_code
def yX7_threshold : MethodName := ⟨RX7, "threshold", "(I)I"⟩
abbrev cX7_claim : ByteArray := prog_9_method_75_code
def yX7_claim : MethodName := ⟨RX7, "claim", "(I)I"⟩
abbrev cX7_successor : ByteArray := prog_9_method_76_code
def yX7_successor : MethodName := ⟨RX7, "successor", "(I)I"⟩
abbrev cX7_passed : ByteArray := prog_9_method_77_code
def yX7_passed : MethodName := ⟨RX7, "passed", "(I)I"⟩
abbrev cX7_whoMisses : ByteArray := prog_9_method_78_code
def yX7_whoMisses : MethodName := ⟨RX7, "whoMisses", "()I"⟩
abbrev cX7_nearest : ByteArray := prog_9_method_79_code
def yX7_nearest : MethodName := ⟨RX7, "nearest", "(I)I"⟩
abbrev cX7_isAsGood : ByteArray := prog_9_method_80_code
def yX7_isAsGood : MethodName := ⟨RX7, "isAsGood", "(III)Z"⟩
abbrev cX7_envy : ByteArray := prog_9_method_81_code
def yX7_envy : MethodName := ⟨RX7, "envy", "()I"⟩
abbrev cX7_round : ByteArray := prog_9_method_82_code
def yX7_round : MethodName := ⟨RX7, "round", "()I"⟩
abbrev cX7_notes : ByteArray := prog_9_method_83_code
def yX7_notes : MethodName := ⟨RX7, "notes", "(I)V"⟩
abbrev cX7_answer : ByteArray := prog_9_method_84_code
def yX7_answer : MethodName := ⟨RX7, "answer", "(II)I"⟩
abbrev cX7_again : ByteArray := prog_9_method_85_code
def yX7_again : MethodName := ⟨RX7, "again", "(I)I"⟩
abbrev cX7_note : ByteArray := prog_9_method_86_code
def yX7_note : MethodName := ⟨RX7, "note", "(II)I"⟩
abbrev cX7_standing : ByteArray := prog_9_method_87_code
def yX7_standing : MethodName := ⟨RX7, "standing", "(II)I"⟩
abbrev cX7_many : ByteArray := prog_9_method_88_code
def yX7_many : MethodName := ⟨RX7, "many", "(I)I"⟩
def RJ6 : String := "java/lang/Integer"
abbrev cJ6_bitCount_0f7a4 : ByteArray := prog_10_method_49_code
def yJ6_bitCount_0f7a4 : MethodName := ⟨RJ6, "bitCount", "(I)I"⟩
def RJ9 : String := "java/lang/Math"
abbrev cJ9_max_7cf53 : ByteArray := prog_11_method_65_code
def yJ9_max_7cf53 : MethodName := ⟨RJ9, "max", "(II)I"⟩
abbrev cJ9_min_7cf53 : ByteArray := prog_11_method_69_code
def yJ9_min_7cf53 : MethodName := ⟨RJ9, "min", "(II)I"⟩
def RJ10 : String := "java/lang/System"
def RL : String := "KeptSeatsLaw"
abbrev cL_law : ByteArray := code
def yL_law : MethodName := ⟨RL, "law", "([I)Z"⟩
abbrev vwCl : List vw_C := [(RX0, TX0, 12), (RX1, TX1, 1), (RX2, TX2, 3), (RX3, TX3, 1), (RX4, TX4, 1), (RX5, TX5, 2), (RX6, TX6, 8), (RX7, TX7, 21)]
end
section
/-! THE WORLD: 33 objects in 121 cells, one behind another from the address b on; what changes in it are numbers alone: cm (the class's objects: object, part, place), mm (the reference's parts), lm (its row of longs) -/
def Gt : List Cond := lw_tbl.filter goodWord
theorem gt_of {w : Cond} (h : w ∈ lw_tbl) (g : goodWord w = true) : w ∈ Gt := List.mem_filter.mpr ⟨h, g⟩
theorem gt_at {w : Cond} (i : Nat) (h : tables_1[i]? = some w) (g : goodWord w = true) : w ∈ Gt := gt_of (List.mem_append_right _ (List.mem_of_getElem? h)) g
theorem gt_pr {w : Cond} (i : Nat) (h : (k2_sels lw_privs)[i]? = some w) (g : goodWord w = true) : w ∈ Gt := gt_of (List.mem_append_left _ (List.mem_of_getElem? h)) g
theorem gt_tbl {w : Cond} (h : w ∈ Gt) : w ∈ lw_tbl := (List.mem_filter.mp h).1
theorem gt_good {y : MethodName} {cc : ByteArray} {n : Nat} {ret : Option FieldType} {ws : List Cond} (h : Cond.code y cc n ret ∈ Gt) (hw : ∀ w ∈ Gt, w ∈ ws) : GoodIn ws (Cond.code y cc n ret :: Gt) := by
  intro w hm
  rcases List.mem_cons.mp hm with rfl | hm
  · exact ⟨hw _ h, good_of_word (List.mem_filter.mp h).2⟩
  · exact ⟨hw _ hm, good_of_word (List.mem_filter.mp hm).2⟩
abbrev CM : Type := Nat → Nat → Nat → Int32
abbrev MM : Type := Nat → Nat → Int32
abbrev LM : Type := Nat → Int64
def u3 (m : CM) (o p : Nat) (f : Nat → Int32) : CM := fun a b => if a = o ∧ b = p then f else m a b
def u2 (m : MM) (p : Nat) (f : Nat → Int32) : MM := fun b => if b = p then f else m b
theorem u3_s (m : CM) (o p : Nat) (f : Nat → Int32) : u3 m o p f o p = f := by simp [u3]
theorem u3_n (m : CM) {o p a b : Nat} (f : Nat → Int32) (h : ¬ (a = o ∧ b = p)) : u3 m o p f a b = m a b := by simp only [u3, if_neg h]
theorem u2_s (m : MM) (p : Nat) (f : Nat → Int32) : u2 m p f p = f := by simp [u2]
theorem u2_n (m : MM) {p b : Nat} (f : Nat → Int32) (h : b ≠ p) : u2 m p f b = m b := by simp only [u2, if_neg h]
/-- kind of an object: the number of its class -/
def kd (o : Nat) : Nat := if o = 0 then 6 else if o = 2 then 2 else if o = 27 then 0 else if o = 29 then 0 else if o = 30 then 1 else if o = 31 then 4 else if o = 32 then 7 else 3
def szk (k : Nat) : Nat := if k = 0 then 21 else if k = 1 then 3 else if k = 2 then 2 else if k = 3 then 2 else if k = 4 then 2 else if k = 6 then 1 else 19
def bs (o : Nat) : Nat := if o = 0 then 0 else if o = 1 then 1 else if o = 2 then 3 else if o < 27 then 2 * o - 1 else if o = 27 then 53 else if o = 28 then 74 else if o = 29 then 76 else if o = 30 then 97 else if o = 31 then 100 else 102
def inv (k : Nat) : Nat × Nat := if k = 0 then (0, 0) else if k < 3 then (1, k - 1) else if k < 5 then (2, k - 3) else if k < 53 then ((k + 1) / 2, (k + 1) % 2) else if k < 74 then (27, k - 53) else if k < 76 then (28, k - 74) else if k < 97 then (29, k - 76) else if k < 100 then (30, k - 97) else if k < 102 then (31, k - 100) else (32, k - 102)
theorem inv_bs : ∀ o, o < 33 → ∀ p, p < szk (kd o) → inv (bs o + p) = (o, p) ∧ bs o + p < 121 := by decide +kernel
theorem bs_inv : ∀ k, k < 121 → bs (inv k).1 + (inv k).2 = k := by decide +kernel
/-- launch, numbers of the classes and of their fields, classes of the rows (int, long, boolean, Office), the first address -/
abbrev ZC : Type := Launch × va_G × (ClassId × ClassId × ClassId × ClassId) × Nat
abbrev zl (Z : ZC) : Launch := Z.1
abbrev zD (Z : ZC) : va_G := Z.2.1
abbrev zb (Z : ZC) : Nat := Z.2.2.2
abbrev zI (Z : ZC) : ClassId := Z.2.2.1.1
abbrev zJ (Z : ZC) : ClassId := Z.2.2.1.2.1
abbrev zB (Z : ZC) : ClassId := Z.2.2.1.2.2.1
abbrev zO (Z : ZC) : ClassId := Z.2.2.1.2.2.2
def ad (Z : ZC) (o p : Nat) : Nat := zb Z + (bs o + p)
abbrev ztys (Z : ZC) : List (ClassId × FieldType) := [(zI Z, .int), (zJ Z, .long), (zB Z, .boolean), (zO Z, .object "KeptSeats$Office")]
/-- what a part of an object holds -/
def enCh (Z : ZC) (o p : Nat) (f : Nat → Int32) : va_E :=
  if p = 0 then .inr (0, [.ref (ad Z o 1), .ref (ad Z o 3), .ref (ad Z o 5), .ref (ad Z o 7), .ref (ad Z o 9), .ref (ad Z o 11), .ref (ad Z o 13), .ref (ad Z o 15), .ref (ad Z o 17), .int (f 9), .int (f 10), .int (f 11)])
  else if p = 1 then .inr (4, [.ref (ad Z o 2)]) else if p = 2 then .inl (zI Z, 16, .inl f)
  else if p = 3 then .inr (4, [.ref (ad Z o 4)]) else if p = 4 then .inl (zI Z, 4, .inl f)
  else if p = 5 then .inr (4, [.ref (ad Z o 6)]) else if p = 6 then .inl (zI Z, 16, .inl f)
  else if p = 7 then .inr (4, [.ref (ad Z o 8)]) else if p = 8 then .inl (zI Z, 4, .inl f)
  else if p = 9 then .inr (4, [.ref (ad Z o 10)]) else if p = 10 then .inl (zI Z, 16, .inl f)
  else if p = 11 then .inr (4, [.ref (ad Z o 12)]) else if p = 12 then .inl (zI Z, 16, .inl f)
  else if p = 13 then .inr (4, [.ref (ad Z o 14)]) else if p = 14 then .inl (zI Z, 16, .inl f)
  else if p = 15 then .inr (4, [.ref (ad Z o 16)]) else if p = 16 then .inl (zI Z, 16, .inl f)
  else if p = 17 then .inr (5, [.ref (ad Z o 18), .ref (ad Z o 19)]) else if p = 18 then .inl (zI Z, 16, .inl f)
  else if p = 19 then .inr (4, [.ref (ad Z o 20)]) else .inl (zI Z, 4, .inl f)
def enOf (Z : ZC) (o p : Nat) (f : Nat → Int32) : va_E := if p = 0 then .inr (3, [.ref (ad Z o 1)]) else .inl (zI Z, 159, .inl f)
def enDi (Z : ZC) (p : Nat) (f : Nat → Int32) : va_E := if p = 0 then .inr (2, [.ref (ad Z 2 1), .int (f 1), .int (f 2)]) else .inl (zO Z, 24, .inr (.inr (.inr (.inr (fun i => some (ad Z (3 + i) 0))))))
def enCo (Z : ZC) (p : Nat) (f : Nat → Int32) : va_E := if p = 0 then .inr (1, [.ref (ad Z 30 1)]) else if p = 1 then .inr (4, [.ref (ad Z 30 2)]) else .inl (zI Z, 1296, .inl f)
def enGa (Z : ZC) (p : Nat) (f : Nat → Int32) : va_E := if p = 0 then .inr (4, [.ref (ad Z 31 1)]) else .inl (zI Z, 16, .inl f)
def enSe (Z : ZC) (f : Nat → Int32) : va_E := .inr (6, [.ref (ad Z 1 0), .ref (ad Z 2 0), .ref (ad Z 27 0), .ref (ad Z 28 0), .ref (ad Z 29 0), .ref (ad Z 30 0), .ref (ad Z 31 0), .int (f 7)])
def mlen (p : Nat) : Nat := if p = 1 then 159 else if p = 2 then 3816 else if p = 4 then 4 else if p = 6 then 4 else if p = 7 then 4 else if p = 15 then 272 else if p = 16 then 4 else if p = 17 then 1296 else 16
def enMo (Z : ZC) (p : Nat) (f : Nat → Int32) (g : LM) : va_E :=
  if p = 0 then .inr (7, [.ref (ad Z 32 1), .ref (ad Z 32 2), .int (f 2), .int (f 3), .ref (ad Z 32 3), .ref (ad Z 32 4), .ref (ad Z 32 5), .ref (ad Z 32 6), .ref (ad Z 32 7), .ref (ad Z 32 8), .ref (ad Z 32 9), .ref (ad Z 32 10), .ref (ad Z 32 11), .ref (ad Z 32 12), .int (f 14), .ref (ad Z 32 13), .ref (ad Z 32 14), .ref (ad Z 32 15), .ref (ad Z 32 16), .ref (ad Z 32 17), .ref (ad Z 32 18)])
  else if p = 17 then .inl (zJ Z, 1296, .inr (.inl g))
  else if p = 10 then .inl (zB Z, 16, .inl f)
  else if p = 12 then .inl (zB Z, 16, .inl f)
  else .inl (zI Z, mlen p, .inl f)
def enC (Z : ZC) (k o p : Nat) (f : Nat → Int32) : va_E := if k = 0 then enCh Z o p f else if k = 1 then enCo Z p f else if k = 2 then enDi Z p f else if k = 3 then enOf Z o p f else if k = 4 then enGa Z p f else enSe Z f
def en (Z : ZC) (cm : CM) (mm : MM) (lm : LM) (o p : Nat) : va_E := if o = 32 then enMo Z p (mm p) lm else enC Z (kd o) o p (cm o p)
def wl (Z : ZC) (cm : CM) (mm : MM) (lm : LM) : va_W := (List.range 121).map fun k => (zb Z + k, en Z cm mm lm (inv k).1 (inv k).2)
abbrev okp (o p : Nat) : Prop := o < 33 ∧ p < szk (kd o)
theorem wl_len (Z : ZC) (cm : CM) (mm : MM) (lm : LM) : (wl Z cm mm lm).length = 121 := by simp [wl]
theorem wl_at {Z : ZC} {cm : CM} {mm : MM} {lm : LM} {k : Nat} (h : k < 121) : (wl Z cm mm lm)[k]? = some (zb Z + k, en Z cm mm lm (inv k).1 (inv k).2) := by
  simp [wl, h]
theorem wl_get {Z : ZC} {cm : CM} {mm : MM} {lm : LM} {o p : Nat} (h : okp o p) : (wl Z cm mm lm)[bs o + p]? = some (ad Z o p, en Z cm mm lm o p) := by
  obtain ⟨h1, h2⟩ := inv_bs o h.1 p h.2
  rw [wl_at h2, h1]; rfl
theorem wl_set {Z : ZC} {cm cm' : CM} {mm mm' : MM} {lm lm' : LM} {o p : Nat} (h : okp o p) (hs : ∀ a b, ¬ (a = o ∧ b = p) → en Z cm' mm' lm' a b = en Z cm mm lm a b) : (wl Z cm mm lm).set (bs o + p) (ad Z o p, en Z cm' mm' lm' o p) = wl Z cm' mm' lm' := by
  obtain ⟨h1, h2⟩ := inv_bs o h.1 p h.2
  apply List.ext_getElem?
  intro k
  rw [List.getElem?_set]
  split
  · rename_i e
    subst e
    rw [if_pos (by rw [wl_len]; exact h2), wl_get h]
  · rename_i e
    by_cases hk : k < 121
    · rw [wl_at hk, wl_at hk, hs]
      intro ⟨e1, e2⟩
      have := bs_inv k hk
      rw [e1, e2] at this
      exact e this
    · rw [List.getElem?_eq_none (by rw [wl_len]; omega), List.getElem?_eq_none (by rw [wl_len]; omega)]
theorem wl_D (Z : ZC) (cm : CM) (mm : MM) (lm : LM) : va_D (fun q => zb Z ≤ q) (wl Z cm mm lm) := by
  have key : ∀ (i : Nat) (p : Nat × va_E), (wl Z cm mm lm)[i]? = some p → p.1 = zb Z + i := by
    intro i p h
    by_cases hi : i < 121
    · rw [wl_at hi] at h
      cases h; rfl
    · rw [List.getElem?_eq_none (by rw [wl_len]; omega)] at h
      cases h
  refine ⟨fun i j p q hp hq e => ?_, fun k q h => ?_⟩
  · have a := key i p hp
    have b := key j q hq
    omega
  · rw [key k q h]; exact Nat.le_add_right _ _
theorem en_u3 {Z : ZC} {cm : CM} {mm : MM} {lm : LM} {o p : Nat} {f : Nat → Int32} (a b : Nat) (h : ¬ (a = o ∧ b = p)) : en Z (u3 cm o p f) mm lm a b = en Z cm mm lm a b := by
  unfold en
  rw [u3_n cm f h]
theorem en_u3s {Z : ZC} {cm : CM} {mm : MM} {lm : LM} {o p : Nat} {f : Nat → Int32} (ho : o ≠ 32) : en Z (u3 cm o p f) mm lm o p = enC Z (kd o) o p f := by
  unfold en
  rw [if_neg ho, u3_s]
theorem en_u2 {Z : ZC} {cm : CM} {mm : MM} {lm : LM} {p : Nat} {f : Nat → Int32} (a b : Nat) (h : ¬ (a = 32 ∧ b = p)) : en Z cm (u2 mm p f) lm a b = en Z cm mm lm a b := by
  unfold en
  by_cases e : a = 32
  · rw [if_pos e, if_pos e, u2_n mm f (fun q => h ⟨e, q⟩)]
  · rw [if_neg e, if_neg e]
theorem en_u2s {Z : ZC} {cm : CM} {mm : MM} {lm : LM} {p : Nat} {f : Nat → Int32} : en Z cm (u2 mm p f) lm 32 p = enMo Z p f lm := by
  unfold en
  rw [if_pos rfl, u2_s]
theorem en_ul {Z : ZC} {cm : CM} {mm : MM} {lm lm' : LM} (a b : Nat) (h : ¬ (a = 32 ∧ b = 17)) : en Z cm mm lm' a b = en Z cm mm lm a b := by
  unfold en
  by_cases e : a = 32
  · rw [if_pos e, if_pos e]
    unfold enMo
    by_cases e2 : b = 17
    · exact absurd ⟨e, e2⟩ h
    · simp only [if_neg e2]
  · rw [if_neg e, if_neg e]
theorem en_c {Z : ZC} {cm : CM} {mm : MM} {lm : LM} {o p : Nat} (ho : o ≠ 32) : en Z cm mm lm o p = enC Z (kd o) o p (cm o p) := by
  unfold en
  rw [if_neg ho]
theorem en_m {Z : ZC} {cm : CM} {mm : MM} {lm : LM} {p : Nat} : en Z cm mm lm 32 p = enMo Z p (mm p) lm := by
  unfold en
  rw [if_pos rfl]
/-- the machine's own part: program, env, room, start, method, arguments, frames below, method, code, goal, cells and slots made so far -/
abbrev XC : Type := Program × Env × Room × State × MethodId × Array Value × List Frame × Method × Code × (State → Prop) × Nat × Nat
def lkv : List (Option Value) → Nat → Option Value
  | [], _ => none
  | v :: _, 0 => v
  | _ :: l, n + 1 => lkv l n
def stv : List (Option Value) → Nat → Option Value → List (Option Value)
  | [], _, _ => []
  | _ :: l, 0, x => x :: l
  | v :: l, n + 1, x => v :: stv l n x
def ctk (lv : List (Option Value)) : Nat → Bool
  | 0 => true
  | j + 1 => match lkv lv j with
    | some v => v.category != 2
    | none => true
def hasL (ls : Array Slot) (nL : Nat) (lv : List (Option Value)) : Prop := ls.size = nL ∧ lv_wf ls ∧ ∀ i v, lkv lv i = some v → ls[i]? = some (.val v)
theorem lkv_stv_s : ∀ (lv : List (Option Value)) (i : Nat) (x v : Value), lkv (stv lv i (some x)) i = some v → v = x
  | [], _, _, _, h => by simp [stv, lkv] at h
  | _ :: _, 0, _, _, h => by simp [stv, lkv] at h; exact h.symm
  | _ :: l, n + 1, x, v, h => lkv_stv_s l n x v h
theorem lkv_stv_n : ∀ (lv : List (Option Value)) (i j : Nat) (x : Option Value), j ≠ i → lkv (stv lv i x) j = lkv lv j
  | [], _, _, _, _ => rfl
  | _ :: _, 0, 0, _, h => absurd rfl h
  | _ :: _, 0, _ + 1, _, _ => rfl
  | _ :: _, _ + 1, 0, _, _ => rfl
  | _ :: l, n + 1, j + 1, x, h => lkv_stv_n l n j x (fun e => h (by rw [e]))
def prs : Nat → List (Option Value) → List (Nat × Value)
  | _, [] => []
  | n, none :: l => prs (n + 1) l
  | n, some v :: l => (n, v) :: prs (n + 1) l
theorem mem_prs : ∀ (lv : List (Option Value)) (n i : Nat) (v : Value), lkv lv i = some v → (n + i, v) ∈ prs n lv
  | [], _, _, _, h => by simp [lkv] at h
  | none :: _, _, 0, _, h => by simp [lkv] at h
  | some _ :: _, n, 0, v, h => by simp [lkv] at h; subst h; exact List.mem_cons_self
  | none :: l, n, i + 1, v, h => by
    have := mem_prs l (n + 1) i v h
    rw [show n + (i + 1) = n + 1 + i by omega]
    exact this
  | some _ :: l, n, i + 1, v, h => by
    have := mem_prs l (n + 1) i v h
    rw [show n + (i + 1) = n + 1 + i by omega]
    exact List.mem_cons_of_mem _ this
theorem prs_mem : ∀ (lv : List (Option Value)) (n : Nat) (q : Nat × Value), q ∈ prs n lv → ∃ i, q.1 = n + i ∧ lkv lv i = some q.2
  | [], _, _, h => by simp [prs] at h
  | none :: l, n, q, h => by
    obtain ⟨i, h1, h2⟩ := prs_mem l (n + 1) q h
    exact ⟨i + 1, by omega, h2⟩
  | some v :: l, n, q, h => by
    rcases List.mem_cons.mp h with rfl | h
    · exact ⟨0, rfl, rfl⟩
    · obtain ⟨i, h1, h2⟩ := prs_mem l (n + 1) q h
      exact ⟨i + 1, by omega, h2⟩
theorem hasL.kit {ls : Array Slot} {nL : Nat} {lv : List (Option Value)} (h : hasL ls nL lv) : lv_has ls nL (prs 0 lv) := by
  refine ⟨h.1, h.2.1, fun q hq => ?_⟩
  obtain ⟨i, h1, h2⟩ := prs_mem lv 0 q hq
  rw [h1, Nat.zero_add]
  exact h.2.2 i q.2 h2
theorem hasL.st {ls : Array Slot} {nL i : Nat} {lv : List (Option Value)} {x : Value} (hc : ctk lv i = true) (h : lv_has ls nL ((i, x) :: (prs 0 lv).filter (fun q => !(q.1 == i) && !(q.1 + 1 == i && q.2.category == 2)))) : hasL ls nL (stv lv i (some x)) := by
  refine ⟨h.1, h.2.1, fun j v hj => ?_⟩
  by_cases e : j = i
  · subst e
    rw [lkv_stv_s lv j x v hj]
    exact h.2.2 _ List.mem_cons_self
  · rw [lkv_stv_n lv i j _ e] at hj
    refine h.2.2 (j, v) (List.mem_cons_of_mem _ (List.mem_filter.mpr ⟨?_, ?_⟩))
    · have := mem_prs lv 0 j v hj
      rwa [Nat.zero_add] at this
    · by_cases e2 : j + 1 = i
      · subst e2
        simp only [ctk, hj] at hc
        simp_all
      · simp [e, e2]
theorem hasL.st2 {ls : Array Slot} {nL i : Nat} {lv : List (Option Value)} {x : Value} (hc : ctk lv i = true) (h : lv_has ls nL ((i, x) :: (prs 0 lv).filter (fun q => !(q.1 == i) && (!(q.1 == i + 1) && !(q.1 + 1 == i && q.2.category == 2))))) : hasL ls nL (stv (stv lv (i + 1) none) i (some x)) := by
  refine ⟨h.1, h.2.1, fun j v hj => ?_⟩
  by_cases e : j = i
  · subst e
    rw [lkv_stv_s _ j x v hj]
    exact h.2.2 _ List.mem_cons_self
  · rw [lkv_stv_n _ i j _ e] at hj
    by_cases e3 : j = i + 1
    · subst e3
      exfalso
      have key : ∀ (l : List (Option Value)) (n : Nat), lkv (stv l n none) n = none := by
        intro l
        induction l with
        | nil => intro n; rfl
        | cons a l ih => intro n; cases n with
          | zero => rfl
          | succ n => exact ih n
      rw [key] at hj
      cases hj
    · rw [lkv_stv_n _ (i + 1) j _ e3] at hj
      refine h.2.2 (j, v) (List.mem_cons_of_mem _ (List.mem_filter.mpr ⟨?_, ?_⟩))
      · have := mem_prs lv 0 j v hj
        rwa [Nat.zero_add] at this
      · by_cases e2 : j + 1 = i
        · subst e2
          simp only [ctk, hj] at hc
          simp_all
        · simp [e, e2, e3]
theorem hasL_entry {args : List Value} {n : Nat} {lv : List (Option Value)} (hc : args.all (fun v => v.category == 1) = true) (hn : args.length ≤ n) (hl : args.map some ++ List.replicate (n - args.length) none = lv) : hasL ((lg_sl args ++ List.replicate (n - (lg_sl args).length) Slot.unset).toArray) n lv := by
  have hlen : lg_sl args = args.map Slot.val := by
    unfold lg_sl
    clear hn hl
    induction args with
    | nil => rfl
    | cons a l ih =>
      simp only [List.all_cons, Bool.and_eq_true, beq_iff_eq] at hc
      rw [List.flatMap_cons, ih hc.2, if_neg (by rw [hc.1]; decide)]
      rfl
  have h := lv_entry args (n := n) (by rw [hlen, List.length_map]; exact hn)
  refine ⟨h.1, h.2.1, fun i v hi => h.2.2 (i, v) ?_⟩
  have key : ∀ (l : List Value) (m k : Nat), l.all (fun v => v.category == 1) = true → ∀ i v, lkv (l.map some ++ List.replicate m none) i = some v → (k + i, v) ∈ lv_args k l := by
    intro l
    induction l with
    | nil =>
      intro m k _ i v h
      exfalso
      have : ∀ (m i : Nat), lkv (List.replicate m none) i = none := by
        intro m
        induction m with
        | zero => intro i; rfl
        | succ m ih => intro i; cases i with
          | zero => rfl
          | succ i => exact ih i
      rw [List.map_nil, List.nil_append, this] at h
      cases h
    | cons a l ih =>
      intro m k hc i v h
      simp only [List.all_cons, Bool.and_eq_true, beq_iff_eq] at hc
      cases i with
      | zero =>
        have e : v = a := by simp [lkv] at h; exact h.symm
        subst e
        exact List.mem_cons_self
      | succ i =>
        unfold lv_args
        rw [if_neg (by rw [hc.1]; decide)]
        have := ih m (k + 1) hc.2 i v h
        rw [show k + (i + 1) = k + 1 + i by omega]
        exact List.mem_cons_of_mem _ this
  have := key args (n - args.length) 0 hc i v (by rw [hl]; exact hi)
  rwa [Nat.zero_add] at this
end
section
/-! THE JUDGEMENTS. J: from any heap that holds the memory, any locals that hold lv, the machine at pc with the stack st comes to the goal. G: the same, if the decompiled rest gives some a with k a. -/
def J (Z : ZC) (X : XC) (nL : Nat) (cm : CM) (mm : MM) (lm : LM) (pc : Nat) (lv : List (Option Value)) (st : List Value) : Prop :=
  ∀ (H : Heap) (locs : List Loc) (ls : Array Slot), va_P (zD Z) vwCl (wl Z cm mm lm) H → va_S (fun q => zb Z ≤ q) X.2.2.2.1.heap H locs → hasL ls nL lv →
    W X.1 (zl Z) X.2.1 X.2.2.1 X.2.2.2.1 X.2.2.2.2.1 X.2.2.2.2.2.1 X.2.2.2.2.2.2.1 X.2.2.2.2.2.2.2.1 X.2.2.2.2.2.2.2.2.1 H locs X.2.2.2.2.2.2.2.2.2.2.1 X.2.2.2.2.2.2.2.2.2.2.2 X.2.2.2.2.2.2.2.2.2.1 (F0 X.2.2.2.2.1 pc ls st)
def Cx (Z : ZC) (X : XC) (cc : ByteArray) (nL : Nat) (own : String) (R0 : Room) : Prop :=
  X.1.tables.exec = Jvm.exec ∧ X.2.2.2.2.2.2.2.2.1.code = cc ∧ X.2.2.2.2.2.2.2.2.1.maxLocals = nL ∧ X.2.2.2.1.vm.findClass own = some X.2.2.2.2.1.cls ∧ (∀ w ∈ Gt, w.before X.2.2.2.2.2.1 X.2.2.2.1 = true) ∧ va_K (zD Z) vwCl (ztys Z) X.2.2.2.1 ∧ X.2.2.1 = R0 ∧ X.2.2.2.2.2.2.2.2.2.2.1 ≤ R0.cells ∧ X.2.2.2.2.2.2.2.2.2.2.2 ≤ R0.slots ∧ zb Z ≤ X.2.2.2.1.heap.size
def G {α : Type} (k : α → Prop) (o : Option α) (P : Prop) : Prop := ∀ a, o = some a → k a → P
/-- what a method's end says -/
def Qm (Z : ZC) (rv : Option Value) (cm : CM) (mm : MM) (lm : LM) : Array Value → State → Outcome → State → Prop := fun _ st oc t =>
  oc = .returned rv ∧ va_P (zD Z) vwCl (wl Z cm mm lm) t.heap ∧ va_K (zD Z) vwCl (ztys Z) t ∧ va_F (fun q => zb Z ≤ q) st t
def Pm (Z : ZC) (av : List Value) (cm : CM) (mm : MM) (lm : LM) : Array Value → State → Prop := fun v U =>
  v = av.toArray ∧ va_P (zD Z) vwCl (wl Z cm mm lm) U.heap ∧ va_K (zD Z) vwCl (ztys Z) U ∧ zb Z ≤ U.heap.size
theorem Pm_blind (Z : ZC) (av : List Value) (cm : CM) (mm : MM) (lm : LM) : FrameBlind (Pm Z av cm mm lm) := by
  intro a U g mk h
  obtain ⟨h1, h2, h3, h4⟩ := h
  exact ⟨h1, h2, va_K.moved (u := U) (U := U.calling g mk a) (Vm.Alike.refl U.vm) h3, h4⟩
/-- a method's contract -/
def Ct (Z : ZC) (y : MethodName) (cc : ByteArray) (maxL : Nat) (ret : Option FieldType) (rm : Room) (av : List Value) (cm : CM) (mm : MM) (lm : LM) (rv : Option Value) (cm' : CM) (mm' : MM) (lm' : LM) : Prop :=
  Met (zl Z) y (Cond.code y cc maxL ret :: Gt) rm (Pm Z av cm mm lm) (Qm Z rv cm' mm' lm') 0 0 (fun q => zb Z ≤ q)
/-- the end that a body must come to -/
def Fx (Z : ZC) (X : XC) (ret : Option FieldType) (rv : Option Value) (cm : CM) (mm : MM) (lm : LM) : Prop :=
  X.2.2.2.2.2.2.2.1.sig.returnType = ret ∧ X.2.2.2.2.2.2.2.1.locks = false ∧ X.2.2.2.2.2.2.2.2.2.1 = MQ X.2.2.2.2.2.2.1 (Qm Z rv cm mm lm) X.2.2.2.2.2.1 X.2.2.2.1 X.2.2.2.2.2.2.2.2.2.2.1 X.2.2.2.2.2.2.2.2.2.2.2 (fun q => zb Z ≤ q)
theorem Ct_of {Z : ZC} {y : MethodName} {cc : ByteArray} {maxL : Nat} {ret : Option FieldType} {rm : Room} {av : List Value} {cm cm' : CM} {mm mm' : MM} {lm lm' : LM} {rv : Option Value} {own : String} (lv : List (Option Value)) (hy : plainName y.cls = true ∧ y.cls = own) (hc : av.all (fun v => v.category == 1) = true) (hn : av.length ≤ maxL) (hl : av.map some ++ List.replicate (maxL - av.length) none = lv)
    (body : ∀ X : XC, Cx Z X cc maxL own rm → Fx Z X ret rv cm' mm' lm' → J Z X maxL cm mm lm 0 lv []) : Ct Z y cc maxL ret rm av cm mm lm rv cm' mm' lm' := by
  refine Met.ofW (cc := cc) (maxL := maxL) (ret := ret) hy.1 rfl ?_
  intro p e s m args below meth c s₁ B hml hv
  obtain ⟨rfl, hP, hK, hb⟩ := hv
  have hts := atoms_spec (ws := Cond.code y cc maxL ret :: Gt) B.pre
  have hown : s.vm.findClass own = some m.cls := by rw [← hy.2]; exact findClass_of_methodNamed B.named
  have K := body (p, e, (headSpec (Cond.code y cc maxL ret :: Gt) rm).room, s, m, av.toArray, below, meth, c, MQ below (Qm Z rv cm' mm' lm') av.toArray s 0 0 (fun q => zb Z ≤ q), 0, 0)
    ⟨B.exec, B.bytes, hml, hown, fun w hw => hts w (List.mem_cons_of_mem _ hw), hK, rfl, Nat.zero_le _, Nat.zero_le _, hb⟩ ⟨B.returns, B.notSynchronized, rfl⟩
  rw [lg_entry_eq]
  exact K s.heap [] _ hP va_S.rf (hasL_entry hc hn hl)
section Rows
variable {Z : ZC} {X : XC} {cc : ByteArray} {nL : Nat} {own : String} {R0 : Room} {cm cm' : CM} {mm mm' : MM} {lm lm' : LM} {pc q i : Nat} {lv : List (Option Value)} {st : List Value} {α : Type} {k : α → Prop} {o : Option α}
theorem g_leaf {P : α → Prop} {a : α} : G P (some a) (P a) := fun b h hk => by cases h; exact hk
theorem g_end {P : Prop} {a : α} (h : k a → P) : G k (some a) P := fun b e hk => by cases e; exact h hk
theorem g_if {c : Prop} [Decidable c] {A B : Option α} {P : Prop} (ht : c → G k A P) (hf : ¬ c → G k B P) : G k (if c then A else B) P := by
  intro a h hk
  by_cases hc : c
  · rw [if_pos hc] at h; exact ht hc a h hk
  · rw [if_neg hc] at h; exact hf hc a h hk
theorem g_bind {β : Type} {o : Option β} {K : β → Option α} {P : Prop} (PJ : β → Prop) (h1 : G PJ o P) (h2 : ∀ v, G k (K v) (PJ v)) : G k (o.bind K) P := by
  intro a h hk
  obtain ⟨v, hv, h⟩ := Option.bind_eq_some_iff.mp h
  exact h1 v hv (h2 v a h hk)
theorem g_nop {P P' : Prop} (h : P' → P) (g : G k o P') : G k o P := fun a e hk => h (g a e hk)
/-- loops -/
def itr {S O : Type} (step : S → Option (O ⊕ S)) : Nat → S → Option O
  | 0, _ => none
  | n + 1, s => match step s with
    | none => none
    | some (.inl o) => some o
    | some (.inr s') => itr step n s'
theorem itr_J {S O : Type} {step : S → Option (O ⊕ S)} {Hd : S → Prop} {Ex : O → Prop} (hs : ∀ s, G (fun r => match r with | .inl o => Ex o | .inr s' => Hd s') (step s) (Hd s)) : ∀ (n : Nat) (s : S) (o : O), itr step n s = some o → Ex o → Hd s
  | 0, _, _, h, _ => by simp [itr] at h
  | n + 1, s, o, h, he => by
    unfold itr at h
    cases hq : step s with
    | none => rw [hq] at h; simp at h
    | some r =>
      rw [hq] at h
      cases r with
      | inl o' =>
        simp at h
        subst h
        exact hs s _ hq he
      | inr s' => exact hs s _ hq (itr_J hs n s' o h he)
theorem g_loop {S O : Type} {step : S → Option (O ⊕ S)} {n : Nat} {s : S} {K : O → Option α} (Hd : S → Prop) (Ex : O → Prop) (hs : ∀ s, G (fun r => match r with | .inl o => Ex o | .inr s' => Hd s') (step s) (Hd s)) (hx : ∀ o, G k (K o) (Ex o)) : G k ((itr step n s).bind K) (Hd s) := by
  intro a h hk
  obtain ⟨v, hv, h⟩ := Option.bind_eq_some_iff.mp h
  exact itr_J hs n s v hv (hx v a h hk)
theorem g_iconst (hX : Cx Z X cc nL own R0) {n : Int} {v : Int32} (hv : Int32.ofInt n = v) (hd : decode cc pc = .ok (.iconst n, 1) ∧ pc + 1 = q) (kk : G k o (J Z X nL cm mm lm q lv (.int v :: st))) : G k o (J Z X nL cm mm lm pc lv (st)) := by
  obtain ⟨hx, hb, hml, hown, hts, hK, rfl, hc, hs, hbz⟩ := hX
  obtain ⟨hd, rfl⟩ := hd
  intro a ha hk H locs ls hP hS hl
  exact lv_iconst hx hb hd hv (kk a ha hk H locs ls hP hS hl)

theorem g_bipush (hX : Cx Z X cc nL own R0) {n : Int} {v : Int32} (hv : (Int8.ofInt n).toInt32 = v) (hd : decode cc pc = .ok (.bipush n, 2) ∧ pc + 2 = q) (kk : G k o (J Z X nL cm mm lm q lv (.int v :: st))) : G k o (J Z X nL cm mm lm pc lv (st)) := by
  obtain ⟨hx, hb, hml, hown, hts, hK, rfl, hc, hs, hbz⟩ := hX
  obtain ⟨hd, rfl⟩ := hd
  intro a ha hk H locs ls hP hS hl
  exact lv_bipush hx hb hd hv (kk a ha hk H locs ls hP hS hl)

theorem g_sipush (hX : Cx Z X cc nL own R0) {n : Int} {v : Int32} (hv : (Int16.ofInt n).toInt32 = v) (hd : decode cc pc = .ok (.sipush n, 3) ∧ pc + 3 = q) (kk : G k o (J Z X nL cm mm lm q lv (.int v :: st))) : G k o (J Z X nL cm mm lm pc lv (st)) := by
  obtain ⟨hx, hb, hml, hown, hts, hK, rfl, hc, hs, hbz⟩ := hX
  obtain ⟨hd, rfl⟩ := hd
  intro a ha hk H locs ls hP hS hl
  exact lv_sipush hx hb hd hv (kk a ha hk H locs ls hP hS hl)

theorem g_lconst (hX : Cx Z X cc nL own R0) {n : Fin 2} {v : Int64} (hv : Int64.ofNat (n : Nat) = v) (hd : decode cc pc = .ok (.lconst n, 1) ∧ pc + 1 = q) (kk : G k o (J Z X nL cm mm lm q lv (.long v :: st))) : G k o (J Z X nL cm mm lm pc lv (st)) := by
  obtain ⟨hx, hb, hml, hown, hts, hK, rfl, hc, hs, hbz⟩ := hX
  obtain ⟨hd, rfl⟩ := hd
  intro a ha hk H locs ls hP hS hl
  exact lv_lconst hx hb hd hv (kk a ha hk H locs ls hP hS hl)

theorem g_iload_n (hX : Cx Z X cc nL own R0) {n : Fin 4} {x : Int32} (hi : (n : Nat) = i) (hv : lkv lv i = some (.int x)) (hd : decode cc pc = .ok (.iload_n n, 1) ∧ pc + 1 = q) (kk : G k o (J Z X nL cm mm lm q lv (.int x :: st))) : G k o (J Z X nL cm mm lm pc lv (st)) := by
  obtain ⟨hx, hb, hml, hown, hts, hK, rfl, hc, hs, hbz⟩ := hX
  obtain ⟨hd, rfl⟩ := hd
  intro a ha hk H locs ls hP hS hl
  exact lv_iload_n hx hb hd hi (hl.2.2 i _ hv) (kk a ha hk H locs ls hP hS hl)

theorem g_iload (hX : Cx Z X cc nL own R0) {x : Int32} (hv : lkv lv i = some (.int x)) (hd : decode cc pc = .ok (.iload i, 2) ∧ pc + 2 = q) (kk : G k o (J Z X nL cm mm lm q lv (.int x :: st))) : G k o (J Z X nL cm mm lm pc lv (st)) := by
  obtain ⟨hx, hb, hml, hown, hts, hK, rfl, hc, hs, hbz⟩ := hX
  obtain ⟨hd, rfl⟩ := hd
  intro a ha hk H locs ls hP hS hl
  exact lv_iload hx hb hd (hl.2.2 i _ hv) (kk a ha hk H locs ls hP hS hl)

theorem g_aload_n (hX : Cx Z X cc nL own R0) {n : Fin 4} {x : Nat} (hi : (n : Nat) = i) (hv : lkv lv i = some (.ref x)) (hd : decode cc pc = .ok (.aload_n n, 1) ∧ pc + 1 = q) (kk : G k o (J Z X nL cm mm lm q lv (.ref x :: st))) : G k o (J Z X nL cm mm lm pc lv (st)) := by
  obtain ⟨hx, hb, hml, hown, hts, hK, rfl, hc, hs, hbz⟩ := hX
  obtain ⟨hd, rfl⟩ := hd
  intro a ha hk H locs ls hP hS hl
  exact lv_aload_n hx hb hd hi (hl.2.2 i _ hv) (kk a ha hk H locs ls hP hS hl)

theorem g_aload (hX : Cx Z X cc nL own R0) {x : Nat} (hv : lkv lv i = some (.ref x)) (hd : decode cc pc = .ok (.aload i, 2) ∧ pc + 2 = q) (kk : G k o (J Z X nL cm mm lm q lv (.ref x :: st))) : G k o (J Z X nL cm mm lm pc lv (st)) := by
  obtain ⟨hx, hb, hml, hown, hts, hK, rfl, hc, hs, hbz⟩ := hX
  obtain ⟨hd, rfl⟩ := hd
  intro a ha hk H locs ls hP hS hl
  exact lv_aload hx hb hd (hl.2.2 i _ hv) (kk a ha hk H locs ls hP hS hl)

theorem g_lload_n (hX : Cx Z X cc nL own R0) {n : Fin 4} {x : Int64} (hi : (n : Nat) = i) (hv : lkv lv i = some (.long x)) (hd : decode cc pc = .ok (.lload_n n, 1) ∧ pc + 1 = q) (kk : G k o (J Z X nL cm mm lm q lv (.long x :: st))) : G k o (J Z X nL cm mm lm pc lv (st)) := by
  obtain ⟨hx, hb, hml, hown, hts, hK, rfl, hc, hs, hbz⟩ := hX
  obtain ⟨hd, rfl⟩ := hd
  intro a ha hk H locs ls hP hS hl
  exact lv_lload_n hx hb hd hi (hl.2.2 i _ hv) (kk a ha hk H locs ls hP hS hl)

theorem g_lload (hX : Cx Z X cc nL own R0) {x : Int64} (hv : lkv lv i = some (.long x)) (hd : decode cc pc = .ok (.lload i, 2) ∧ pc + 2 = q) (kk : G k o (J Z X nL cm mm lm q lv (.long x :: st))) : G k o (J Z X nL cm mm lm pc lv (st)) := by
  obtain ⟨hx, hb, hml, hown, hts, hK, rfl, hc, hs, hbz⟩ := hX
  obtain ⟨hd, rfl⟩ := hd
  intro a ha hk H locs ls hP hS hl
  exact lv_lload hx hb hd (hl.2.2 i _ hv) (kk a ha hk H locs ls hP hS hl)

theorem g_aload_nN (hX : Cx Z X cc nL own R0) {n : Fin 4} (hi : (n : Nat) = i) (hv : lkv lv i = some .null) (hd : decode cc pc = .ok (.aload_n n, 1) ∧ pc + 1 = q) (kk : G k o (J Z X nL cm mm lm q lv (.null :: st))) : G k o (J Z X nL cm mm lm pc lv (st)) := by
  obtain ⟨hx, hb, hml, hown, hts, hK, rfl, hc, hs, hbz⟩ := hX
  obtain ⟨hd, rfl⟩ := hd
  intro a ha hk H locs ls hP hS hl
  exact lv_aload_nN hx hb hd hi (hl.2.2 i _ hv) (kk a ha hk H locs ls hP hS hl)

theorem g_istore_n (hX : Cx Z X cc nL own R0) {n : Fin 4} {x : Int32} (hi : (n : Nat) = i) (hn : i < nL) (hc2 : ctk lv i = true) (hd : decode cc pc = .ok (.istore_n n, 1) ∧ pc + 1 = q) (kk : G k o (J Z X nL cm mm lm q (stv lv i (some (.int x))) (st))) : G k o (J Z X nL cm mm lm pc lv (.int x :: st)) := by
  obtain ⟨hx, hb, hml, hown, hts, hK, rfl, hc, hs, hbz⟩ := hX
  obtain ⟨hd, rfl⟩ := hd
  intro a ha hk H locs ls hP hS hl
  exact lv_istore_n hx hb hd hi hl.kit hn rfl (fun ls' hl' => kk a ha hk H locs ls' hP hS (hasL.st hc2 hl'))

theorem g_istore (hX : Cx Z X cc nL own R0) {x : Int32} (hn : i < nL) (hc2 : ctk lv i = true) (hd : decode cc pc = .ok (.istore i, 2) ∧ pc + 2 = q) (kk : G k o (J Z X nL cm mm lm q (stv lv i (some (.int x))) (st))) : G k o (J Z X nL cm mm lm pc lv (.int x :: st)) := by
  obtain ⟨hx, hb, hml, hown, hts, hK, rfl, hc, hs, hbz⟩ := hX
  obtain ⟨hd, rfl⟩ := hd
  intro a ha hk H locs ls hP hS hl
  exact lv_istore hx hb hd hl.kit hn rfl (fun ls' hl' => kk a ha hk H locs ls' hP hS (hasL.st hc2 hl'))

theorem g_astore_n (hX : Cx Z X cc nL own R0) {n : Fin 4} {x : Nat} (hi : (n : Nat) = i) (hn : i < nL) (hc2 : ctk lv i = true) (hd : decode cc pc = .ok (.astore_n n, 1) ∧ pc + 1 = q) (kk : G k o (J Z X nL cm mm lm q (stv lv i (some (.ref x))) (st))) : G k o (J Z X nL cm mm lm pc lv (.ref x :: st)) := by
  obtain ⟨hx, hb, hml, hown, hts, hK, rfl, hc, hs, hbz⟩ := hX
  obtain ⟨hd, rfl⟩ := hd
  intro a ha hk H locs ls hP hS hl
  exact lv_astore_n hx hb hd hi hl.kit hn rfl (fun ls' hl' => kk a ha hk H locs ls' hP hS (hasL.st hc2 hl'))

theorem g_astore (hX : Cx Z X cc nL own R0) {x : Nat} (hn : i < nL) (hc2 : ctk lv i = true) (hd : decode cc pc = .ok (.astore i, 2) ∧ pc + 2 = q) (kk : G k o (J Z X nL cm mm lm q (stv lv i (some (.ref x))) (st))) : G k o (J Z X nL cm mm lm pc lv (.ref x :: st)) := by
  obtain ⟨hx, hb, hml, hown, hts, hK, rfl, hc, hs, hbz⟩ := hX
  obtain ⟨hd, rfl⟩ := hd
  intro a ha hk H locs ls hP hS hl
  exact lv_astore hx hb hd hl.kit hn rfl (fun ls' hl' => kk a ha hk H locs ls' hP hS (hasL.st hc2 hl'))

theorem g_astore_nN (hX : Cx Z X cc nL own R0) {n : Fin 4} (hi : (n : Nat) = i) (hn : i < nL) (hc2 : ctk lv i = true) (hd : decode cc pc = .ok (.astore_n n, 1) ∧ pc + 1 = q) (kk : G k o (J Z X nL cm mm lm q (stv lv i (some .null)) (st))) : G k o (J Z X nL cm mm lm pc lv (.null :: st)) := by
  obtain ⟨hx, hb, hml, hown, hts, hK, rfl, hc, hs, hbz⟩ := hX
  obtain ⟨hd, rfl⟩ := hd
  intro a ha hk H locs ls hP hS hl
  exact lv_astore_nN hx hb hd hi hl.kit hn rfl (fun ls' hl' => kk a ha hk H locs ls' hP hS (hasL.st hc2 hl'))

theorem g_lstore_n (hX : Cx Z X cc nL own R0) {n : Fin 4} {x : Int64} (hi : (n : Nat) = i) (hn : i + 1 < nL) (hc2 : ctk lv i = true) (hd : decode cc pc = .ok (.lstore_n n, 1) ∧ pc + 1 = q) (kk : G k o (J Z X nL cm mm lm q (stv (stv lv (i + 1) none) i (some (.long x))) (st))) : G k o (J Z X nL cm mm lm pc lv (.long x :: st)) := by
  obtain ⟨hx, hb, hml, hown, hts, hK, rfl, hc, hs, hbz⟩ := hX
  obtain ⟨hd, rfl⟩ := hd
  intro a ha hk H locs ls hP hS hl
  exact lv_lstore_n hx hb hd hi hl.kit hn rfl (fun ls' hl' => kk a ha hk H locs ls' hP hS (hasL.st2 hc2 hl'))

theorem g_lstore (hX : Cx Z X cc nL own R0) {x : Int64} (hn : i + 1 < nL) (hc2 : ctk lv i = true) (hd : decode cc pc = .ok (.lstore i, 2) ∧ pc + 2 = q) (kk : G k o (J Z X nL cm mm lm q (stv (stv lv (i + 1) none) i (some (.long x))) (st))) : G k o (J Z X nL cm mm lm pc lv (.long x :: st)) := by
  obtain ⟨hx, hb, hml, hown, hts, hK, rfl, hc, hs, hbz⟩ := hX
  obtain ⟨hd, rfl⟩ := hd
  intro a ha hk H locs ls hP hS hl
  exact lv_lstore hx hb hd hl.kit hn rfl (fun ls' hl' => kk a ha hk H locs ls' hP hS (hasL.st2 hc2 hl'))

theorem g_iadd (hX : Cx Z X cc nL own R0) {x y : Int32} (hd : decode cc pc = .ok (.iadd, 1) ∧ pc + 1 = q) (kk : G k o (J Z X nL cm mm lm q lv (.int (x + y) :: st))) : G k o (J Z X nL cm mm lm pc lv (.int y :: .int x :: st)) := by
  obtain ⟨hx, hb, hml, hown, hts, hK, rfl, hc, hs, hbz⟩ := hX
  obtain ⟨hd, rfl⟩ := hd
  intro a ha hk H locs ls hP hS hl
  exact lv_iadd hx hb hd (kk a ha hk H locs ls hP hS hl)

theorem g_isub (hX : Cx Z X cc nL own R0) {x y : Int32} (hd : decode cc pc = .ok (.isub, 1) ∧ pc + 1 = q) (kk : G k o (J Z X nL cm mm lm q lv (.int (x - y) :: st))) : G k o (J Z X nL cm mm lm pc lv (.int y :: .int x :: st)) := by
  obtain ⟨hx, hb, hml, hown, hts, hK, rfl, hc, hs, hbz⟩ := hX
  obtain ⟨hd, rfl⟩ := hd
  intro a ha hk H locs ls hP hS hl
  exact lv_isub hx hb hd (kk a ha hk H locs ls hP hS hl)

theorem g_imul (hX : Cx Z X cc nL own R0) {x y : Int32} (hd : decode cc pc = .ok (.imul, 1) ∧ pc + 1 = q) (kk : G k o (J Z X nL cm mm lm q lv (.int (x * y) :: st))) : G k o (J Z X nL cm mm lm pc lv (.int y :: .int x :: st)) := by
  obtain ⟨hx, hb, hml, hown, hts, hK, rfl, hc, hs, hbz⟩ := hX
  obtain ⟨hd, rfl⟩ := hd
  intro a ha hk H locs ls hP hS hl
  exact lv_imul hx hb hd (kk a ha hk H locs ls hP hS hl)

theorem g_iand (hX : Cx Z X cc nL own R0) {x y : Int32} (hd : decode cc pc = .ok (.iand, 1) ∧ pc + 1 = q) (kk : G k o (J Z X nL cm mm lm q lv (.int (x &&& y) :: st))) : G k o (J Z X nL cm mm lm pc lv (.int y :: .int x :: st)) := by
  obtain ⟨hx, hb, hml, hown, hts, hK, rfl, hc, hs, hbz⟩ := hX
  obtain ⟨hd, rfl⟩ := hd
  intro a ha hk H locs ls hP hS hl
  exact lv_iand hx hb hd (kk a ha hk H locs ls hP hS hl)

theorem g_ior (hX : Cx Z X cc nL own R0) {x y : Int32} (hd : decode cc pc = .ok (.ior, 1) ∧ pc + 1 = q) (kk : G k o (J Z X nL cm mm lm q lv (.int (x ||| y) :: st))) : G k o (J Z X nL cm mm lm pc lv (.int y :: .int x :: st)) := by
  obtain ⟨hx, hb, hml, hown, hts, hK, rfl, hc, hs, hbz⟩ := hX
  obtain ⟨hd, rfl⟩ := hd
  intro a ha hk H locs ls hP hS hl
  exact lv_ior hx hb hd (kk a ha hk H locs ls hP hS hl)

theorem g_ixor (hX : Cx Z X cc nL own R0) {x y : Int32} (hd : decode cc pc = .ok (.ixor, 1) ∧ pc + 1 = q) (kk : G k o (J Z X nL cm mm lm q lv (.int (x ^^^ y) :: st))) : G k o (J Z X nL cm mm lm pc lv (.int y :: .int x :: st)) := by
  obtain ⟨hx, hb, hml, hown, hts, hK, rfl, hc, hs, hbz⟩ := hX
  obtain ⟨hd, rfl⟩ := hd
  intro a ha hk H locs ls hP hS hl
  exact lv_ixor hx hb hd (kk a ha hk H locs ls hP hS hl)

theorem g_idiv (hX : Cx Z X cc nL own R0) {x y : Int32} (hne : ¬ y = 0) (hd : decode cc pc = .ok (.idiv, 1) ∧ pc + 1 = q) (kk : G k o (J Z X nL cm mm lm q lv (.int (x / y) :: st))) : G k o (J Z X nL cm mm lm pc lv (.int y :: .int x :: st)) := by
  obtain ⟨hx, hb, hml, hown, hts, hK, rfl, hc, hs, hbz⟩ := hX
  obtain ⟨hd, rfl⟩ := hd
  intro a ha hk H locs ls hP hS hl
  exact lv_idiv hx hb hd hne (kk a ha hk H locs ls hP hS hl)

theorem g_irem (hX : Cx Z X cc nL own R0) {x y : Int32} (hne : ¬ y = 0) (hd : decode cc pc = .ok (.irem, 1) ∧ pc + 1 = q) (kk : G k o (J Z X nL cm mm lm q lv (.int (x - x / y * y) :: st))) : G k o (J Z X nL cm mm lm pc lv (.int y :: .int x :: st)) := by
  obtain ⟨hx, hb, hml, hown, hts, hK, rfl, hc, hs, hbz⟩ := hX
  obtain ⟨hd, rfl⟩ := hd
  intro a ha hk H locs ls hP hS hl
  exact lv_irem hx hb hd hne (kk a ha hk H locs ls hP hS hl)

theorem g_ishl (hX : Cx Z X cc nL own R0) {x y : Int32} (hd : decode cc pc = .ok (.ishl, 1) ∧ pc + 1 = q) (kk : G k o (J Z X nL cm mm lm q lv (.int (x <<< (y &&& 31)) :: st))) : G k o (J Z X nL cm mm lm pc lv (.int y :: .int x :: st)) := by
  obtain ⟨hx, hb, hml, hown, hts, hK, rfl, hc, hs, hbz⟩ := hX
  obtain ⟨hd, rfl⟩ := hd
  intro a ha hk H locs ls hP hS hl
  exact lv_ishl hx hb hd (kk a ha hk H locs ls hP hS hl)

theorem g_ishr (hX : Cx Z X cc nL own R0) {x y : Int32} (hd : decode cc pc = .ok (.ishr, 1) ∧ pc + 1 = q) (kk : G k o (J Z X nL cm mm lm q lv (.int (x >>> (y &&& 31)) :: st))) : G k o (J Z X nL cm mm lm pc lv (.int y :: .int x :: st)) := by
  obtain ⟨hx, hb, hml, hown, hts, hK, rfl, hc, hs, hbz⟩ := hX
  obtain ⟨hd, rfl⟩ := hd
  intro a ha hk H locs ls hP hS hl
  exact lv_ishr hx hb hd (kk a ha hk H locs ls hP hS hl)

theorem g_iushr (hX : Cx Z X cc nL own R0) {x y : Int32} (hd : decode cc pc = .ok (.iushr, 1) ∧ pc + 1 = q) (kk : G k o (J Z X nL cm mm lm q lv (.int ((x.toUInt32 >>> (y.toUInt32 &&& Int32.toUInt32 31)).toInt32) :: st))) : G k o (J Z X nL cm mm lm pc lv (.int y :: .int x :: st)) := by
  obtain ⟨hx, hb, hml, hown, hts, hK, rfl, hc, hs, hbz⟩ := hX
  obtain ⟨hd, rfl⟩ := hd
  intro a ha hk H locs ls hP hS hl
  exact lv_iushr hx hb hd rfl (kk a ha hk H locs ls hP hS hl)

theorem g_i2l (hX : Cx Z X cc nL own R0) {x : Int32} (hd : decode cc pc = .ok (.i2l, 1) ∧ pc + 1 = q) (kk : G k o (J Z X nL cm mm lm q lv (.long x.toInt64 :: st))) : G k o (J Z X nL cm mm lm pc lv (.int x :: st)) := by
  obtain ⟨hx, hb, hml, hown, hts, hK, rfl, hc, hs, hbz⟩ := hX
  obtain ⟨hd, rfl⟩ := hd
  intro a ha hk H locs ls hP hS hl
  exact lv_i2l hx hb hd rfl (kk a ha hk H locs ls hP hS hl)

theorem g_ladd (hX : Cx Z X cc nL own R0) {x y : Int64} (hd : decode cc pc = .ok (.ladd, 1) ∧ pc + 1 = q) (kk : G k o (J Z X nL cm mm lm q lv (.long (x + y) :: st))) : G k o (J Z X nL cm mm lm pc lv (.long y :: .long x :: st)) := by
  obtain ⟨hx, hb, hml, hown, hts, hK, rfl, hc, hs, hbz⟩ := hX
  obtain ⟨hd, rfl⟩ := hd
  intro a ha hk H locs ls hP hS hl
  exact lv_ladd hx hb hd (kk a ha hk H locs ls hP hS hl)

theorem g_lcmp (hX : Cx Z X cc nL own R0) {x y : Int64} (hd : decode cc pc = .ok (.lcmp, 1) ∧ pc + 1 = q) (kk : G k o (J Z X nL cm mm lm q lv (.int (lg_cmp x y) :: st))) : G k o (J Z X nL cm mm lm pc lv (.long y :: .long x :: st)) := by
  obtain ⟨hx, hb, hml, hown, hts, hK, rfl, hc, hs, hbz⟩ := hX
  obtain ⟨hd, rfl⟩ := hd
  intro a ha hk H locs ls hP hS hl
  exact W.lcmp hx hb hd (kk a ha hk H locs ls hP hS hl)

theorem g_dup (hX : Cx Z X cc nL own R0) {v : Value} (hv : v.category = 1) (hd : decode cc pc = .ok (.dup, 1) ∧ pc + 1 = q) (kk : G k o (J Z X nL cm mm lm q lv (v :: v :: st))) : G k o (J Z X nL cm mm lm pc lv (v :: st)) := by
  obtain ⟨hx, hb, hml, hown, hts, hK, rfl, hc, hs, hbz⟩ := hX
  obtain ⟨hd, rfl⟩ := hd
  intro a ha hk H locs ls hP hS hl
  exact lv_dup hx hb hd hv (kk a ha hk H locs ls hP hS hl)

theorem g_pop (hX : Cx Z X cc nL own R0) {v : Value} (hv : v.category = 1) (hd : decode cc pc = .ok (.pop, 1) ∧ pc + 1 = q) (kk : G k o (J Z X nL cm mm lm q lv (st))) : G k o (J Z X nL cm mm lm pc lv (v :: st)) := by
  obtain ⟨hx, hb, hml, hown, hts, hK, rfl, hc, hs, hbz⟩ := hX
  obtain ⟨hd, rfl⟩ := hd
  intro a ha hk H locs ls hP hS hl
  exact lv_pop hx hb hd hv (kk a ha hk H locs ls hP hS hl)

theorem g_dup2 (hX : Cx Z X cc nL own R0) {v w : Value} (hv : v.category = 1) (hw : w.category = 1) (hd : decode cc pc = .ok (.dup2, 1) ∧ pc + 1 = q) (kk : G k o (J Z X nL cm mm lm q lv (v :: w :: v :: w :: st))) : G k o (J Z X nL cm mm lm pc lv (v :: w :: st)) := by
  obtain ⟨hx, hb, hml, hown, hts, hK, rfl, hc, hs, hbz⟩ := hX
  obtain ⟨hd, rfl⟩ := hd
  intro a ha hk H locs ls hP hS hl
  exact lv_dup2_11 hx hb hd hv hw (kk a ha hk H locs ls hP hS hl)

theorem g_null (hX : Cx Z X cc nL own R0)  (hd : decode cc pc = .ok (.aconst_null, 1) ∧ pc + 1 = q) (kk : G k o (J Z X nL cm mm lm q lv (.null :: st))) : G k o (J Z X nL cm mm lm pc lv (st)) := by
  obtain ⟨hx, hb, hml, hown, hts, hK, rfl, hc, hs, hbz⟩ := hX
  obtain ⟨hd, rfl⟩ := hd
  intro a ha hk H locs ls hP hS hl
  exact lv_null hx hb hd (kk a ha hk H locs ls hP hS hl)

theorem g_ldc (hX : Cx Z X cc nL own R0) {j : Nat} {v : Int32} (hw : Cond.constant own j v ∈ Gt) (hd : decode cc pc = .ok (.ldc j, 2) ∧ pc + 2 = q) (kk : G k o (J Z X nL cm mm lm q lv (.int v :: st))) : G k o (J Z X nL cm mm lm pc lv (st)) := by
  obtain ⟨hx, hb, hml, hown, hts, hK, rfl, hc, hs, hbz⟩ := hX
  obtain ⟨hd, rfl⟩ := hd
  intro a ha hk H locs ls hP hS hl
  exact lv_ldc hx hb hown (hts _ hw) hd (kk a ha hk H locs ls hP hS hl)

theorem g_ldcw (hX : Cx Z X cc nL own R0) {j : Nat} {v : Int32} (hw : Cond.constant own j v ∈ Gt) (hd : decode cc pc = .ok (.ldc_w j, 3) ∧ pc + 3 = q) (kk : G k o (J Z X nL cm mm lm q lv (.int v :: st))) : G k o (J Z X nL cm mm lm pc lv (st)) := by
  obtain ⟨hx, hb, hml, hown, hts, hK, rfl, hc, hs, hbz⟩ := hX
  obtain ⟨hd, rfl⟩ := hd
  intro a ha hk H locs ls hP hS hl
  exact lv_ldcw hx hb hown (hts _ hw) hd (kk a ha hk H locs ls hP hS hl)

theorem g_ldc2 (hX : Cx Z X cc nL own R0) {j : Nat} {v : Int64} (hw : Cond.constantLong own j v ∈ Gt) (hd : decode cc pc = .ok (.ldc2_w j, 3) ∧ pc + 3 = q) (kk : G k o (J Z X nL cm mm lm q lv (.long v :: st))) : G k o (J Z X nL cm mm lm pc lv (st)) := by
  obtain ⟨hx, hb, hml, hown, hts, hK, rfl, hc, hs, hbz⟩ := hX
  obtain ⟨hd, rfl⟩ := hd
  intro a ha hk H locs ls hP hS hl
  exact lv_ldc2 hx hb hown (hts _ hw) hd (kk a ha hk H locs ls hP hS hl)

theorem g_ifref (hX : Cx Z X cc nL own R0) {x : Nat} {off : Int} (hd : decode cc pc = .ok (.ifnull off, 3) ∧ pc + 3 = q) (kk : G k o (J Z X nL cm mm lm q lv (st))) : G k o (J Z X nL cm mm lm pc lv (.ref x :: st)) := by
  obtain ⟨hx, hb, hml, hown, hts, hK, rfl, hc, hs, hbz⟩ := hX
  obtain ⟨hd, rfl⟩ := hd
  intro a ha hk H locs ls hP hS hl
  exact lv_ifnull hx hb hd (kk a ha hk H locs ls hP hS hl)

theorem g_iinc (hX : Cx Z X cc nL own R0) {n : Int} {x v : Int32} (hv : lkv lv i = some (.int x)) (hn : i < nL) (hc2 : ctk lv i = true) (he : x + Int32.ofInt n = v) (hd : decode cc pc = .ok (.iinc i n, 3) ∧ pc + 3 = q) (kk : G k o (J Z X nL cm mm lm q (stv lv i (some (.int v))) st)) : G k o (J Z X nL cm mm lm pc lv st) := by
  obtain ⟨hx, hb, hml, hown, hts, hK, rfl, hc, hs, hbz⟩ := hX
  obtain ⟨hd, rfl⟩ := hd
  intro a ha hk H locs ls hP hS hl
  obtain ⟨j, hj⟩ := List.getElem?_of_mem (mem_prs lv 0 i _ hv)
  rw [Nat.zero_add] at hj
  exact lv_iinc hx hb hd hl.kit hj he hn rfl (fun ls' hl' => kk a ha hk H locs ls' hP hS (hasL.st hc2 hl'))

theorem g_goto (hX : Cx Z X cc nL own R0) {off : Int} {t : Nat} (hd : decode cc pc = .ok (.goto off, 3) ∧ (pc : Int) + off = (t : Int)) (kk : G k o (J Z X nL cm mm lm t lv st)) : G k o (J Z X nL cm mm lm pc lv st) := by
  obtain ⟨hx, hb, hml, hown, hts, hK, rfl, hc, hs, hbz⟩ := hX
  obtain ⟨hd, ht⟩ := hd
  intro a ha hk H locs ls hP hS hl
  exact lv_goto hx hb hd ht (kk a ha hk H locs ls hP hS hl)

theorem g_ifnul (hX : Cx Z X cc nL own R0) {off : Int} {t : Nat} (hd : decode cc pc = .ok (.ifnull off, 3) ∧ pc + 3 = q ∧ (pc : Int) + off = (t : Int)) (kk : G k o (J Z X nL cm mm lm t lv st)) : G k o (J Z X nL cm mm lm pc lv (.null :: st)) := by
  obtain ⟨hx, hb, hml, hown, hts, hK, rfl, hc, hs, hbz⟩ := hX
  obtain ⟨hd, -, ht⟩ := hd
  intro a ha hk H locs ls hP hS hl
  exact lv_ifnullN hx hb hd ht (kk a ha hk H locs ls hP hS hl)

theorem g_icmp_eq (hX : Cx Z X cc nL own R0) {x y : Int32} {off : Int} {t : Nat} {_ : Decidable (x = y)} {A B : Option α} (hd : decode cc pc = .ok (.if_icmp .eq off, 3) ∧ pc + 3 = q ∧ (pc : Int) + off = (t : Int)) (kt : x = y → G k A (J Z X nL cm mm lm t lv st)) (kf : ¬ (x = y) → G k B (J Z X nL cm mm lm q lv st)) : G k (if x = y then A else B) (J Z X nL cm mm lm pc lv (.int y :: .int x :: st)) := by
  obtain ⟨hx, hb, hml, hown, hts, hK, rfl, hc, hs, hbz⟩ := hX
  obtain ⟨hd, rfl, ht⟩ := hd
  intro a ha hk H locs ls hP hS hl
  refine lv_icmp_eq hx hb hd ht (fun h => kt ?_ a ?_ hk H locs ls hP hS hl) (fun h => kf ?_ a ?_ hk H locs ls hP hS hl)
  · exact h
  · rw [if_pos (by exact h)] at ha; exact ha
  · exact h
  · rw [if_neg (by exact h)] at ha; exact ha

theorem g_if_eq (hX : Cx Z X cc nL own R0) {x : Int32} {off : Int} {t : Nat} {_ : Decidable (x = 0)} {A B : Option α} (hd : decode cc pc = .ok (.ifCond .eq off, 3) ∧ pc + 3 = q ∧ (pc : Int) + off = (t : Int)) (kt : x = 0 → G k A (J Z X nL cm mm lm t lv st)) (kf : ¬ (x = 0) → G k B (J Z X nL cm mm lm q lv st)) : G k (if x = 0 then A else B) (J Z X nL cm mm lm pc lv (.int x :: st)) := by
  obtain ⟨hx, hb, hml, hown, hts, hK, rfl, hc, hs, hbz⟩ := hX
  obtain ⟨hd, rfl, ht⟩ := hd
  intro a ha hk H locs ls hP hS hl
  refine lv_if_eq hx hb hd ht (fun h => kt ?_ a ?_ hk H locs ls hP hS hl) (fun h => kf ?_ a ?_ hk H locs ls hP hS hl)
  · exact h
  · rw [if_pos (by exact h)] at ha; exact ha
  · exact h
  · rw [if_neg (by exact h)] at ha; exact ha

theorem g_icmp_ne (hX : Cx Z X cc nL own R0) {x y : Int32} {off : Int} {t : Nat} {_ : Decidable (x = y)} {A B : Option α} (hd : decode cc pc = .ok (.if_icmp .ne off, 3) ∧ pc + 3 = q ∧ (pc : Int) + off = (t : Int)) (kf : x = y → G k B (J Z X nL cm mm lm q lv st)) (kt : ¬ (x = y) → G k A (J Z X nL cm mm lm t lv st)) : G k (if x = y then B else A) (J Z X nL cm mm lm pc lv (.int y :: .int x :: st)) := by
  obtain ⟨hx, hb, hml, hown, hts, hK, rfl, hc, hs, hbz⟩ := hX
  obtain ⟨hd, rfl, ht⟩ := hd
  intro a ha hk H locs ls hP hS hl
  refine lv_icmp_ne hx hb hd ht (fun h => kt h a ?_ hk H locs ls hP hS hl) (fun h => kf h a ?_ hk H locs ls hP hS hl)
  · rw [if_neg h] at ha; exact ha
  · rw [if_pos h] at ha; exact ha

theorem g_if_ne (hX : Cx Z X cc nL own R0) {x : Int32} {off : Int} {t : Nat} {_ : Decidable (x = 0)} {A B : Option α} (hd : decode cc pc = .ok (.ifCond .ne off, 3) ∧ pc + 3 = q ∧ (pc : Int) + off = (t : Int)) (kf : x = 0 → G k B (J Z X nL cm mm lm q lv st)) (kt : ¬ (x = 0) → G k A (J Z X nL cm mm lm t lv st)) : G k (if x = 0 then B else A) (J Z X nL cm mm lm pc lv (.int x :: st)) := by
  obtain ⟨hx, hb, hml, hown, hts, hK, rfl, hc, hs, hbz⟩ := hX
  obtain ⟨hd, rfl, ht⟩ := hd
  intro a ha hk H locs ls hP hS hl
  refine lv_if_ne hx hb hd ht (fun h => kt h a ?_ hk H locs ls hP hS hl) (fun h => kf h a ?_ hk H locs ls hP hS hl)
  · rw [if_neg h] at ha; exact ha
  · rw [if_pos h] at ha; exact ha

theorem g_icmp_lt (hX : Cx Z X cc nL own R0) {x y : Int32} {off : Int} {t : Nat} {_ : Decidable (x < y)} {A B : Option α} (hd : decode cc pc = .ok (.if_icmp .lt off, 3) ∧ pc + 3 = q ∧ (pc : Int) + off = (t : Int)) (kt : x < y → G k A (J Z X nL cm mm lm t lv st)) (kf : ¬ (x < y) → G k B (J Z X nL cm mm lm q lv st)) : G k (if x < y then A else B) (J Z X nL cm mm lm pc lv (.int y :: .int x :: st)) := by
  obtain ⟨hx, hb, hml, hown, hts, hK, rfl, hc, hs, hbz⟩ := hX
  obtain ⟨hd, rfl, ht⟩ := hd
  intro a ha hk H locs ls hP hS hl
  refine lv_icmp_lt hx hb hd ht (fun h => kt ?_ a ?_ hk H locs ls hP hS hl) (fun h => kf ?_ a ?_ hk H locs ls hP hS hl)
  · exact h
  · rw [if_pos (by exact h)] at ha; exact ha
  · exact h
  · rw [if_neg (by exact h)] at ha; exact ha

theorem g_if_lt (hX : Cx Z X cc nL own R0) {x : Int32} {off : Int} {t : Nat} {_ : Decidable (x < 0)} {A B : Option α} (hd : decode cc pc = .ok (.ifCond .lt off, 3) ∧ pc + 3 = q ∧ (pc : Int) + off = (t : Int)) (kt : x < 0 → G k A (J Z X nL cm mm lm t lv st)) (kf : ¬ (x < 0) → G k B (J Z X nL cm mm lm q lv st)) : G k (if x < 0 then A else B) (J Z X nL cm mm lm pc lv (.int x :: st)) := by
  obtain ⟨hx, hb, hml, hown, hts, hK, rfl, hc, hs, hbz⟩ := hX
  obtain ⟨hd, rfl, ht⟩ := hd
  intro a ha hk H locs ls hP hS hl
  refine lv_if_lt hx hb hd ht (fun h => kt ?_ a ?_ hk H locs ls hP hS hl) (fun h => kf ?_ a ?_ hk H locs ls hP hS hl)
  · exact h
  · rw [if_pos (by exact h)] at ha; exact ha
  · exact h
  · rw [if_neg (by exact h)] at ha; exact ha

theorem g_icmp_ge (hX : Cx Z X cc nL own R0) {x y : Int32} {off : Int} {t : Nat} {_ : Decidable (y ≤ x)} {A B : Option α} (hd : decode cc pc = .ok (.if_icmp .ge off, 3) ∧ pc + 3 = q ∧ (pc : Int) + off = (t : Int)) (kt : y ≤ x → G k A (J Z X nL cm mm lm t lv st)) (kf : ¬ (y ≤ x) → G k B (J Z X nL cm mm lm q lv st)) : G k (if y ≤ x then A else B) (J Z X nL cm mm lm pc lv (.int y :: .int x :: st)) := by
  obtain ⟨hx, hb, hml, hown, hts, hK, rfl, hc, hs, hbz⟩ := hX
  obtain ⟨hd, rfl, ht⟩ := hd
  intro a ha hk H locs ls hP hS hl
  refine lv_icmp_ge hx hb hd ht (fun h => kt ?_ a ?_ hk H locs ls hP hS hl) (fun h => kf ?_ a ?_ hk H locs ls hP hS hl)
  · exact h
  · rw [if_pos (by exact h)] at ha; exact ha
  · exact h
  · rw [if_neg (by exact h)] at ha; exact ha

theorem g_if_ge (hX : Cx Z X cc nL own R0) {x : Int32} {off : Int} {t : Nat} {_ : Decidable (0 ≤ x)} {A B : Option α} (hd : decode cc pc = .ok (.ifCond .ge off, 3) ∧ pc + 3 = q ∧ (pc : Int) + off = (t : Int)) (kt : 0 ≤ x → G k A (J Z X nL cm mm lm t lv st)) (kf : ¬ (0 ≤ x) → G k B (J Z X nL cm mm lm q lv st)) : G k (if 0 ≤ x then A else B) (J Z X nL cm mm lm pc lv (.int x :: st)) := by
  obtain ⟨hx, hb, hml, hown, hts, hK, rfl, hc, hs, hbz⟩ := hX
  obtain ⟨hd, rfl, ht⟩ := hd
  intro a ha hk H locs ls hP hS hl
  refine lv_if_ge hx hb hd ht (fun h => kt ?_ a ?_ hk H locs ls hP hS hl) (fun h => kf ?_ a ?_ hk H locs ls hP hS hl)
  · exact h
  · rw [if_pos (by exact h)] at ha; exact ha
  · exact h
  · rw [if_neg (by exact h)] at ha; exact ha

theorem g_icmp_gt (hX : Cx Z X cc nL own R0) {x y : Int32} {off : Int} {t : Nat} {_ : Decidable (y < x)} {A B : Option α} (hd : decode cc pc = .ok (.if_icmp .gt off, 3) ∧ pc + 3 = q ∧ (pc : Int) + off = (t : Int)) (kt : y < x → G k A (J Z X nL cm mm lm t lv st)) (kf : ¬ (y < x) → G k B (J Z X nL cm mm lm q lv st)) : G k (if y < x then A else B) (J Z X nL cm mm lm pc lv (.int y :: .int x :: st)) := by
  obtain ⟨hx, hb, hml, hown, hts, hK, rfl, hc, hs, hbz⟩ := hX
  obtain ⟨hd, rfl, ht⟩ := hd
  intro a ha hk H locs ls hP hS hl
  refine lv_icmp_gt hx hb hd ht (fun h => kt ?_ a ?_ hk H locs ls hP hS hl) (fun h => kf ?_ a ?_ hk H locs ls hP hS hl)
  · exact h
  · rw [if_pos (by exact h)] at ha; exact ha
  · exact h
  · rw [if_neg (by exact h)] at ha; exact ha

theorem g_if_gt (hX : Cx Z X cc nL own R0) {x : Int32} {off : Int} {t : Nat} {_ : Decidable (0 < x)} {A B : Option α} (hd : decode cc pc = .ok (.ifCond .gt off, 3) ∧ pc + 3 = q ∧ (pc : Int) + off = (t : Int)) (kt : 0 < x → G k A (J Z X nL cm mm lm t lv st)) (kf : ¬ (0 < x) → G k B (J Z X nL cm mm lm q lv st)) : G k (if 0 < x then A else B) (J Z X nL cm mm lm pc lv (.int x :: st)) := by
  obtain ⟨hx, hb, hml, hown, hts, hK, rfl, hc, hs, hbz⟩ := hX
  obtain ⟨hd, rfl, ht⟩ := hd
  intro a ha hk H locs ls hP hS hl
  refine lv_if_gt hx hb hd ht (fun h => kt ?_ a ?_ hk H locs ls hP hS hl) (fun h => kf ?_ a ?_ hk H locs ls hP hS hl)
  · exact h
  · rw [if_pos (by exact h)] at ha; exact ha
  · exact h
  · rw [if_neg (by exact h)] at ha; exact ha

theorem g_icmp_le (hX : Cx Z X cc nL own R0) {x y : Int32} {off : Int} {t : Nat} {_ : Decidable (x ≤ y)} {A B : Option α} (hd : decode cc pc = .ok (.if_icmp .le off, 3) ∧ pc + 3 = q ∧ (pc : Int) + off = (t : Int)) (kt : x ≤ y → G k A (J Z X nL cm mm lm t lv st)) (kf : ¬ (x ≤ y) → G k B (J Z X nL cm mm lm q lv st)) : G k (if x ≤ y then A else B) (J Z X nL cm mm lm pc lv (.int y :: .int x :: st)) := by
  obtain ⟨hx, hb, hml, hown, hts, hK, rfl, hc, hs, hbz⟩ := hX
  obtain ⟨hd, rfl, ht⟩ := hd
  intro a ha hk H locs ls hP hS hl
  refine lv_icmp_le hx hb hd ht (fun h => kt ?_ a ?_ hk H locs ls hP hS hl) (fun h => kf ?_ a ?_ hk H locs ls hP hS hl)
  · exact h
  · rw [if_pos (by exact h)] at ha; exact ha
  · exact h
  · rw [if_neg (by exact h)] at ha; exact ha

theorem g_if_le (hX : Cx Z X cc nL own R0) {x : Int32} {off : Int} {t : Nat} {_ : Decidable (x ≤ 0)} {A B : Option α} (hd : decode cc pc = .ok (.ifCond .le off, 3) ∧ pc + 3 = q ∧ (pc : Int) + off = (t : Int)) (kt : x ≤ 0 → G k A (J Z X nL cm mm lm t lv st)) (kf : ¬ (x ≤ 0) → G k B (J Z X nL cm mm lm q lv st)) : G k (if x ≤ 0 then A else B) (J Z X nL cm mm lm pc lv (.int x :: st)) := by
  obtain ⟨hx, hb, hml, hown, hts, hK, rfl, hc, hs, hbz⟩ := hX
  obtain ⟨hd, rfl, ht⟩ := hd
  intro a ha hk H locs ls hP hS hl
  refine lv_if_le hx hb hd ht (fun h => kt ?_ a ?_ hk H locs ls hP hS hl) (fun h => kf ?_ a ?_ hk H locs ls hP hS hl)
  · exact h
  · rw [if_pos (by exact h)] at ha; exact ha
  · exact h
  · rw [if_neg (by exact h)] at ha; exact ha
end Rows
end
section
/-! rows that read and write the world, calls and ends -/
def rd (n : Nat) (f : Nat → Int32) (i : Int32) : Option Int32 := if i < 0 ∨ n ≤ i.toNatClampNeg then none else some (f i.toNatClampNeg)
def wr (n : Nat) (f : Nat → Int32) (i : Int32) (x : Int32) : Option (Nat → Int32) := if i < 0 ∨ n ≤ i.toNatClampNeg then none else some (upd f i.toNatClampNeg x)
def rdL (n : Nat) (f : LM) (i : Int32) : Option Int64 := if i < 0 ∨ n ≤ i.toNatClampNeg then none else some (f i.toNatClampNeg)
def wrL (n : Nat) (f : LM) (i : Int32) (x : Int64) : Option LM := if i < 0 ∨ n ≤ i.toNatClampNeg then none else some (vp_updL f i.toNatClampNeg x)
def dvI (x y : Int32) : Option Int32 := if y = 0 then none else some (x / y)
def rmI (x y : Int32) : Option Int32 := if y = 0 then none else some (x - x / y * y)
theorem rd_some {n : Nat} {f : Nat → Int32} {i x : Int32} (h : rd n f i = some x) : vp_in i n ∧ f i.toNatClampNeg = x := by
  unfold rd at h
  split at h
  · cases h
  · rename_i hi; exact ⟨hi, Option.some.inj h⟩
theorem wr_some {n : Nat} {f g : Nat → Int32} {i x : Int32} (h : wr n f i x = some g) : vp_in i n ∧ upd f i.toNatClampNeg x = g := by
  unfold wr at h
  split at h
  · cases h
  · rename_i hi; exact ⟨hi, Option.some.inj h⟩
theorem rdL_some {n : Nat} {f : LM} {i : Int32} {x : Int64} (h : rdL n f i = some x) : vp_in i n ∧ f i.toNatClampNeg = x := by
  unfold rdL at h
  split at h
  · cases h
  · rename_i hi; exact ⟨hi, Option.some.inj h⟩
theorem wrL_some {n : Nat} {f g : LM} {i : Int32} {x : Int64} (h : wrL n f i x = some g) : vp_in i n ∧ vp_updL f i.toNatClampNeg x = g := by
  unfold wrL at h
  split at h
  · cases h
  · rename_i hi; exact ⟨hi, Option.some.inj h⟩
/-- a field that an instruction names -/
def FI (own : String) (idx ci : Nat) (C : String) (T : u_T) (N j : Nat) : Prop := vwCl[ci]? = some (C, T, N) ∧ j < N ∧ Cond.fieldLink own idx (T j).1 (T j).2.1 (T j).2.2.1 ∈ Gt ∧ ∀ w ∈ u_ws C T N, w ∈ Gt
section Heap
variable {Z : ZC} {X : XC} {cc : ByteArray} {nL : Nat} {own : String} {R0 : Room} {cm cm' : CM} {mm mm' : MM} {lm lm' : LM} {pc q ob pt : Nat} {lv : List (Option Value)} {st : List Value} {α : Type} {k : α → Prop} {o : Option α}
theorem g_get (hX : Cx Z X cc nL own R0) {idx ci N j : Nat} {C : String} {T : u_T} {fs : List Value} {v : Value} (hf : FI own idx ci C T N j) (hp : okp ob pt) (he : en Z cm mm lm ob pt = .inr (ci, fs)) (hv : fs[j]? = some v) (hd : decode cc pc = .ok (.getfield idx, 3) ∧ pc + 3 = q) (kk : G k o (J Z X nL cm mm lm q lv (v :: st))) : G k o (J Z X nL cm mm lm pc lv (.ref (ad Z ob pt) :: st)) := by
  obtain ⟨hx, hb, hml, hown, hts, hK, rfl, hc, hs, hbz⟩ := hX
  obtain ⟨hd, rfl⟩ := hd
  obtain ⟨f1, f2, f3, f4⟩ := hf
  intro a ha hk H locs ls hP hS hl
  exact va_get hx hb hts f4 hown hK hP (bs ob + pt) (by rw [wl_get hp, he]) f1 j f2 (hts _ f3) (fun _ h => h) hv hd (kk a ha hk H locs ls hP hS hl)
theorem g_putC (hX : Cx Z X cc nL own R0) {idx ci N j : Nat} {C : String} {T : u_T} {F : (Nat → Int32) → List Value} {x : Int32} {ty : FieldType} {ty0 : Nat → FieldType} (hf : FI own idx ci C T N j) (hp : okp ob pt) (h32 : ob ≠ 32) (he : ∀ f, enC Z (kd ob) ob pt f = .inr (ci, F f)) (hset : (F (cm ob pt)).set j (.int x) = F (upd (cm ob pt) j x)) (hlen : j < (F (cm ob pt)).length)
    (hty : ∀ k, k < N → parseFieldDescriptor (T k).2.2.1 = some (ty0 k)) (hnm : ∀ a, a < N → ∀ b, b < N → a ≠ b → (T a).2.1 ≠ (T b).2.1) (hfin : (T j).2.2.2 = false) (htj : ty0 j = ty) (hn : narrow ty (.int x) = .int x) (hfit : fits ty (.int x) = true)
    (hd : decode cc pc = .ok (.putfield idx, 3) ∧ pc + 3 = q) (kk : G k o (J Z X nL (u3 cm ob pt (upd (cm ob pt) j x)) mm lm q lv st)) : G k o (J Z X nL cm mm lm pc lv (.int x :: .ref (ad Z ob pt) :: st)) := by
  obtain ⟨hx, hb, hml, hown, hts, hK, rfl, hc, hs, hbz⟩ := hX
  obtain ⟨hd, rfl⟩ := hd
  obtain ⟨f1, f2, f3, f4⟩ := hf
  intro a ha hk H locs ls hP hS hl
  have hw : (wl Z cm mm lm)[bs ob + pt]? = some (ad Z ob pt, .inr (ci, F (cm ob pt))) := by rw [wl_get hp, en_c h32, he]
  refine va_put (ty := ty) hx hb hts f4 ty0 hty hnm hown hK hP (wl_D Z cm mm lm) hS (bs ob + pt) hw f1 j f2 (hts _ f3) (fun _ h => h) hfin (by rw [← htj]; exact hty j f2) hn hfit hlen hd (fun H1 locs1 hP1 _ hS1 => ?_)
  refine kk a ha hk H1 locs1 ls ?_ hS1 hl
  have := wl_set (Z := Z) (cm := cm) (mm := mm) (lm := lm) (cm' := u3 cm ob pt (upd (cm ob pt) j x)) (mm' := mm) (lm' := lm) hp (fun a b h => en_u3 a b h)
  rw [en_u3s h32, he] at this
  rw [← this, ← hset]
  exact hP1
theorem g_putM (hX : Cx Z X cc nL own R0) {idx j : Nat} {F : (Nat → Int32) → List Value} {x : Int32} (hf : FI own idx 7 RX7 TX7 21 j) (he : ∀ f, enMo Z 0 f lm = .inr (7, F f)) (hset : (F (mm 0)).set j (.int x) = F (upd (mm 0) j x)) (hlen : j < (F (mm 0)).length)
    (hfin : (TX7 j).2.2.2 = false) (htj : tyX7 j = .int)
    (hd : decode cc pc = .ok (.putfield idx, 3) ∧ pc + 3 = q) (kk : G k o (J Z X nL cm (u2 mm 0 (upd (mm 0) j x)) lm q lv st)) : G k o (J Z X nL cm mm lm pc lv (.int x :: .ref (ad Z 32 0) :: st)) := by
  obtain ⟨hx, hb, hml, hown, hts, hK, rfl, hc, hs, hbz⟩ := hX
  obtain ⟨hd, rfl⟩ := hd
  obtain ⟨f1, f2, f3, f4⟩ := hf
  intro a ha hk H locs ls hP hS hl
  have hp : okp 32 0 := by decide
  have hw : (wl Z cm mm lm)[bs 32 + 0]? = some (ad Z 32 0, .inr (7, F (mm 0))) := by rw [wl_get hp, en_m, he]
  refine va_put (ty := .int) hx hb hts f4 tyX7 tyX7_ok nmX7 hown hK hP (wl_D Z cm mm lm) hS (bs 32 + 0) hw f1 j f2 (hts _ f3) (fun _ h => h) hfin (by rw [← htj]; exact tyX7_ok j f2) rfl rfl hlen hd (fun H1 locs1 hP1 _ hS1 => ?_)
  refine kk a ha hk H1 locs1 ls ?_ hS1 hl
  have := wl_set (Z := Z) (cm := cm) (mm := mm) (lm := lm) (cm' := cm) (mm' := u2 mm 0 (upd (mm 0) j x)) (lm' := lm) hp (fun a b h => en_u2 a b h)
  rw [en_u2s, he] at this
  rw [← this, ← hset]
  exact hP1
theorem g_alen (hX : Cx Z X cc nL own R0) {n : Nat} {v : Int32} {f : Nat → Int32} (hp : okp ob pt) (he : en Z cm mm lm ob pt = .inl (zI Z, n, .inl f)) (hv : Int32.ofNat n = v) (hd : decode cc pc = .ok (.arraylength, 1) ∧ pc + 1 = q) (kk : G k o (J Z X nL cm mm lm q lv (.int v :: st))) : G k o (J Z X nL cm mm lm pc lv (.ref (ad Z ob pt) :: st)) := by
  obtain ⟨hx, hb, hml, hown, hts, hK, rfl, hc, hs, hbz⟩ := hX
  obtain ⟨hd, rfl⟩ := hd
  intro a ha hk H locs ls hP hS hl
  exact va_alen hx hb hK hP (bs ob + pt) 0 (by rw [wl_get hp, he]) rfl hv hd (kk a ha hk H locs ls hP hS hl)
theorem g_alenO (hX : Cx Z X cc nL own R0) (hd : decode cc pc = .ok (.arraylength, 1) ∧ pc + 1 = q) (kk : G k o (J Z X nL cm mm lm q lv (.int 24 :: st))) : G k o (J Z X nL cm mm lm pc lv (.ref (ad Z 2 1) :: st)) := by
  obtain ⟨hx, hb, hml, hown, hts, hK, rfl, hc, hs, hbz⟩ := hX
  obtain ⟨hd, rfl⟩ := hd
  intro a ha hk H locs ls hP hS hl
  exact va_alen (ty := .object "KeptSeats$Office") hx hb hK hP (bs 2 + 1) 3 (by rw [wl_get (by decide), en_c (by decide)]; rfl) rfl rfl hd (kk a ha hk H locs ls hP hS hl)
theorem g_iald (hX : Cx Z X cc nL own R0) {n : Nat} {i : Int32} {f : Nat → Int32} {K : Int32 → Option α} (hp : okp ob pt) (he : en Z cm mm lm ob pt = .inl (zI Z, n, .inl f)) (hd : decode cc pc = .ok (.iaload, 1) ∧ pc + 1 = q) (kk : ∀ x, rd n f i = some x → G k (K x) (J Z X nL cm mm lm q lv (.int x :: st))) : G k ((rd n f i).bind K) (J Z X nL cm mm lm pc lv (.int i :: .ref (ad Z ob pt) :: st)) := by
  obtain ⟨hx, hb, hml, hown, hts, hK, rfl, hc, hs, hbz⟩ := hX
  obtain ⟨hd, rfl⟩ := hd
  intro a ha hk H locs ls hP hS hl
  obtain ⟨x, hv, ha⟩ := Option.bind_eq_some_iff.mp ha
  obtain ⟨h1, h2⟩ := rd_some hv
  subst h2
  exact va_iald hx hb hK hP (bs ob + pt) 0 (by rw [wl_get hp, he]) rfl h1 hd (kk _ hv a ha hk H locs ls hP hS hl)
theorem g_zald (hX : Cx Z X cc nL own R0) {n : Nat} {i : Int32} {f : Nat → Int32} {K : Int32 → Option α} (hp : okp ob pt) (he : en Z cm mm lm ob pt = .inl (zB Z, n, .inl f)) (hd : decode cc pc = .ok (.baload, 1) ∧ pc + 1 = q) (kk : ∀ x, rd n f i = some x → G k (K x) (J Z X nL cm mm lm q lv (.int x :: st))) : G k ((rd n f i).bind K) (J Z X nL cm mm lm pc lv (.int i :: .ref (ad Z ob pt) :: st)) := by
  obtain ⟨hx, hb, hml, hown, hts, hK, rfl, hc, hs, hbz⟩ := hX
  obtain ⟨hd, rfl⟩ := hd
  intro a ha hk H locs ls hP hS hl
  obtain ⟨x, hv, ha⟩ := Option.bind_eq_some_iff.mp ha
  obtain ⟨h1, h2⟩ := rd_some hv
  subst h2
  exact va_zald hx hb hK hP (bs ob + pt) 2 (by rw [wl_get hp, he]) rfl h1 hd (kk _ hv a ha hk H locs ls hP hS hl)
theorem g_lald (hX : Cx Z X cc nL own R0) {i : Int32} {K : Int64 → Option α} (hd : decode cc pc = .ok (.laload, 1) ∧ pc + 1 = q) (kk : ∀ x, rdL 1296 lm i = some x → G k (K x) (J Z X nL cm mm lm q lv (.long x :: st))) : G k ((rdL 1296 lm i).bind K) (J Z X nL cm mm lm pc lv (.int i :: .ref (ad Z 32 17) :: st)) := by
  obtain ⟨hx, hb, hml, hown, hts, hK, rfl, hc, hs, hbz⟩ := hX
  obtain ⟨hd, rfl⟩ := hd
  intro a ha hk H locs ls hP hS hl
  obtain ⟨x, hv, ha⟩ := Option.bind_eq_some_iff.mp ha
  obtain ⟨h1, h2⟩ := rdL_some hv
  subst h2
  exact va_lald hx hb hK hP (bs 32 + 17) 1 (by rw [wl_get (by decide), en_m]; rfl) rfl h1 hd (kk _ hv a ha hk H locs ls hP hS hl)
theorem g_last (hX : Cx Z X cc nL own R0) {i : Int32} {x : Int64} {K : LM → Option α} (hd : decode cc pc = .ok (.lastore, 1) ∧ pc + 1 = q) (kk : ∀ g, wrL 1296 lm i x = some g → G k (K g) (J Z X nL cm mm g q lv st)) : G k ((wrL 1296 lm i x).bind K) (J Z X nL cm mm lm pc lv (.long x :: .int i :: .ref (ad Z 32 17) :: st)) := by
  obtain ⟨hx, hb, hml, hown, hts, hK, rfl, hc, hs, hbz⟩ := hX
  obtain ⟨hd, rfl⟩ := hd
  intro a ha hk H locs ls hP hS hl
  obtain ⟨g, hv, ha⟩ := Option.bind_eq_some_iff.mp ha
  obtain ⟨h1, h2⟩ := wrL_some hv
  subst h2
  have hp : okp 32 17 := by decide
  refine va_last hx hb hK hP (wl_D Z cm mm lm) hS (bs 32 + 17) 1 (by rw [wl_get hp, en_m]; rfl) rfl h1 hd (fun H1 locs1 hP1 _ hS1 => ?_)
  refine kk _ hv a ha hk H1 locs1 ls ?_ hS1 hl
  have := wl_set (Z := Z) (cm := cm) (mm := mm) (lm := lm) (cm' := cm) (mm' := mm) (lm' := vp_updL lm i.toNatClampNeg x) hp (fun a b h => en_ul a b h)
  rw [en_m] at this
  rw [← this]
  exact hP1
theorem g_iastC (hX : Cx Z X cc nL own R0) {n : Nat} {i x : Int32} {K : (Nat → Int32) → Option α} (hp : okp ob pt) (h32 : ob ≠ 32) (he : ∀ f, enC Z (kd ob) ob pt f = .inl (zI Z, n, .inl f)) (hd : decode cc pc = .ok (.iastore, 1) ∧ pc + 1 = q) (kk : ∀ g, wr n (cm ob pt) i x = some g → G k (K g) (J Z X nL (u3 cm ob pt g) mm lm q lv st)) : G k ((wr n (cm ob pt) i x).bind K) (J Z X nL cm mm lm pc lv (.int x :: .int i :: .ref (ad Z ob pt) :: st)) := by
  obtain ⟨hx, hb, hml, hown, hts, hK, rfl, hc, hs, hbz⟩ := hX
  obtain ⟨hd, rfl⟩ := hd
  intro a ha hk H locs ls hP hS hl
  obtain ⟨g, hv, ha⟩ := Option.bind_eq_some_iff.mp ha
  obtain ⟨h1, h2⟩ := wr_some hv
  subst h2
  refine va_iast hx hb hK hP (wl_D Z cm mm lm) hS (bs ob + pt) 0 (by rw [wl_get hp, en_c h32, he]) rfl h1 hd (fun H1 locs1 hP1 _ hS1 => ?_)
  refine kk _ hv a ha hk H1 locs1 ls ?_ hS1 hl
  have := wl_set (Z := Z) (cm := cm) (mm := mm) (lm := lm) (cm' := u3 cm ob pt (upd (cm ob pt) i.toNatClampNeg x)) (mm' := mm) (lm' := lm) hp (fun a b h => en_u3 a b h)
  rw [en_u3s h32, he] at this
  rw [← this]
  exact hP1
theorem g_iastM (hX : Cx Z X cc nL own R0) {n : Nat} {i x : Int32} {K : (Nat → Int32) → Option α} (hp : okp 32 pt) (he : ∀ f, enMo Z pt f lm = .inl (zI Z, n, .inl f)) (hd : decode cc pc = .ok (.iastore, 1) ∧ pc + 1 = q) (kk : ∀ g, wr n (mm pt) i x = some g → G k (K g) (J Z X nL cm (u2 mm pt g) lm q lv st)) : G k ((wr n (mm pt) i x).bind K) (J Z X nL cm mm lm pc lv (.int x :: .int i :: .ref (ad Z 32 pt) :: st)) := by
  obtain ⟨hx, hb, hml, hown, hts, hK, rfl, hc, hs, hbz⟩ := hX
  obtain ⟨hd, rfl⟩ := hd
  intro a ha hk H locs ls hP hS hl
  obtain ⟨g, hv, ha⟩ := Option.bind_eq_some_iff.mp ha
  obtain ⟨h1, h2⟩ := wr_some hv
  subst h2
  refine va_iast hx hb hK hP (wl_D Z cm mm lm) hS (bs 32 + pt) 0 (by rw [wl_get hp, en_m, he]) rfl h1 hd (fun H1 locs1 hP1 _ hS1 => ?_)
  refine kk _ hv a ha hk H1 locs1 ls ?_ hS1 hl
  have := wl_set (Z := Z) (cm := cm) (mm := mm) (lm := lm) (cm' := cm) (mm' := u2 mm pt (upd (mm pt) i.toNatClampNeg x)) (lm' := lm) hp (fun a b h => en_u2 a b h)
  rw [en_u2s, he] at this
  rw [← this]
  exact hP1
theorem g_zastM (hX : Cx Z X cc nL own R0) {n : Nat} {i x : Int32} {K : (Nat → Int32) → Option α} (hp : okp 32 pt) (he : ∀ f, enMo Z pt f lm = .inl (zB Z, n, .inl f)) (hnb : vp_nar .boolean x = x) (hd : decode cc pc = .ok (.bastore, 1) ∧ pc + 1 = q) (kk : ∀ g, wr n (mm pt) i x = some g → G k (K g) (J Z X nL cm (u2 mm pt g) lm q lv st)) : G k ((wr n (mm pt) i x).bind K) (J Z X nL cm mm lm pc lv (.int x :: .int i :: .ref (ad Z 32 pt) :: st)) := by
  obtain ⟨hx, hb, hml, hown, hts, hK, rfl, hc, hs, hbz⟩ := hX
  obtain ⟨hd, rfl⟩ := hd
  intro a ha hk H locs ls hP hS hl
  obtain ⟨g, hv, ha⟩ := Option.bind_eq_some_iff.mp ha
  obtain ⟨h1, h2⟩ := wr_some hv
  subst h2
  refine va_zast hx hb hK hP (wl_D Z cm mm lm) hS (bs 32 + pt) 2 (by rw [wl_get hp, en_m, he]) rfl h1 hd (fun H1 locs1 hP1 _ hS1 => ?_)
  refine kk _ hv a ha hk H1 locs1 ls ?_ hS1 hl
  have := wl_set (Z := Z) (cm := cm) (mm := mm) (lm := lm) (cm' := cm) (mm' := u2 mm pt (upd (mm pt) i.toNatClampNeg x)) (lm' := lm) hp (fun a b h => en_u2 a b h)
  rw [en_u2s, he] at this
  rw [← this, ← hnb]
  rw [hnb] at hP1 ⊢
  exact hP1
theorem g_idiv' (hX : Cx Z X cc nL own R0) {x y : Int32} {K : Int32 → Option α} (hd : decode cc pc = .ok (.idiv, 1) ∧ pc + 1 = q) (kk : ∀ v, dvI x y = some v → G k (K v) (J Z X nL cm mm lm q lv (.int v :: st))) : G k ((dvI x y).bind K) (J Z X nL cm mm lm pc lv (.int y :: .int x :: st)) := by
  intro a ha hk
  obtain ⟨v, hv, ha⟩ := Option.bind_eq_some_iff.mp ha
  have h2 := hv
  unfold dvI at h2
  split at h2
  · cases h2
  · rename_i h0
    cases h2
    exact g_idiv hX h0 hd (kk _ hv) a ha hk
theorem g_irem' (hX : Cx Z X cc nL own R0) {x y : Int32} {K : Int32 → Option α} (hd : decode cc pc = .ok (.irem, 1) ∧ pc + 1 = q) (kk : ∀ v, rmI x y = some v → G k (K v) (J Z X nL cm mm lm q lv (.int v :: st))) : G k ((rmI x y).bind K) (J Z X nL cm mm lm pc lv (.int y :: .int x :: st)) := by
  intro a ha hk
  obtain ⟨v, hv, ha⟩ := Option.bind_eq_some_iff.mp ha
  have h2 := hv
  unfold rmI at h2
  split at h2
  · cases h2
  · rename_i h0
    cases h2
    exact g_irem hX h0 hd (kk _ hv) a ha hk
/-- ends -/
theorem g_iret (hX : Cx Z X cc nL own R0) {a : α} {v : Int32} (hF : k a → Fx Z X (some .int) (some (.int v)) cm mm lm) (hd : decode cc pc = .ok (.ireturn, 1) ∧ pc + 1 = q) : G k (some a) (J Z X nL cm mm lm pc lv [.int v]) := by
  intro a' ha hk H locs ls hP hS hl
  cases ha
  obtain ⟨hx, hb, hml, hown, hts, hK, rfl, hc, hs, hbz⟩ := hX
  obtain ⟨r1, r2, r3⟩ := hF hk
  rw [r3]
  exact W.iret hx hb r1 (fun t ht hW => ⟨rfl, by rw [ht]; exact hP, va_K.moved hW.alike hK, hS.F ht⟩) hS.2.2 hd.1 r2
theorem g_zret (hX : Cx Z X cc nL own R0) {a : α} {v : Int32} (hn : narrow .boolean (.int v) = .int v) (hF : k a → Fx Z X (some .boolean) (some (.int v)) cm mm lm) (hd : decode cc pc = .ok (.ireturn, 1) ∧ pc + 1 = q) : G k (some a) (J Z X nL cm mm lm pc lv [.int v]) := by
  intro a' ha hk H locs ls hP hS hl
  cases ha
  obtain ⟨hx, hb, hml, hown, hts, hK, rfl, hc, hs, hbz⟩ := hX
  obtain ⟨r1, r2, r3⟩ := hF hk
  rw [r3]
  exact W.zret hx hb r1 hn (fun t ht hW => ⟨rfl, by rw [ht]; exact hP, va_K.moved hW.alike hK, hS.F ht⟩) hS.2.2 hd.1 r2
theorem g_lret (hX : Cx Z X cc nL own R0) {a : α} {v : Int64} (hF : k a → Fx Z X (some .long) (some (.long v)) cm mm lm) (hd : decode cc pc = .ok (.lreturn, 1) ∧ pc + 1 = q) : G k (some a) (J Z X nL cm mm lm pc lv [.long v]) := by
  intro a' ha hk H locs ls hP hS hl
  cases ha
  obtain ⟨hx, hb, hml, hown, hts, hK, rfl, hc, hs, hbz⟩ := hX
  obtain ⟨r1, r2, r3⟩ := hF hk
  rw [r3]
  exact W.lret hx hb r1 (fun t ht hW => ⟨rfl, by rw [ht]; exact hP, va_K.moved hW.alike hK, hS.F ht⟩) hS.2.2 hd.1 r2
theorem g_vret (hX : Cx Z X cc nL own R0) {a : α} (hF : k a → Fx Z X none none cm mm lm) (hd : decode cc pc = .ok (.return_, 1) ∧ pc + 1 = q) : G k (some a) (J Z X nL cm mm lm pc lv []) := by
  intro a' ha hk H locs ls hP hS hl
  cases ha
  obtain ⟨hx, hb, hml, hown, hts, hK, rfl, hc, hs, hbz⟩ := hX
  obtain ⟨r1, r2, r3⟩ := hF hk
  rw [r3]
  exact W.vret hx hb r1 (fun t ht hW => ⟨rfl, by rw [ht]; exact hP, va_K.moved hW.alike hK, hS.F ht⟩) hS.2.2 hd.1 r2
theorem g_aret (hX : Cx Z X cc nL own R0) {a : α} {v : Value} {C : String} (hv : v = .null ∨ ∃ a, v = .ref a) (hF : k a → Fx Z X (some (.object C)) (some v) cm mm lm) (hd : decode cc pc = .ok (.areturn, 1) ∧ pc + 1 = q) : G k (some a) (J Z X nL cm mm lm pc lv [v]) := by
  intro a' ha hk H locs ls hP hS hl
  cases ha
  obtain ⟨hx, hb, hml, hown, hts, hK, rfl, hc, hs, hbz⟩ := hX
  obtain ⟨r1, r2, r3⟩ := hF hk
  rw [r3]
  exact W.aret hx hb r1 (Or.inl ⟨_, rfl⟩) hv (fun t ht hW => ⟨rfl, by rw [ht]; exact hP, va_K.moved hW.alike hK, hS.F ht⟩) hS.2.2 hd.1 r2
/-- a method as the tables have it -/
def MI (y : MethodName) (cc : ByteArray) (maxL : Nat) (ret : Option FieldType) (n : Nat) : Prop := Cond.code y cc maxL ret ∈ Gt ∧ Cond.instanceMethod y ∈ Gt ∧ Cond.selects y.cls y y ∈ Gt ∧ Cond.initialized y.cls ∈ Gt ∧ y.cls ≠ "java/lang/invoke/MethodHandle" ∧ y.cls ≠ "java/lang/invoke/VarHandle" ∧ (parseMethodDescriptor y.desc).map (fun d => d.parameters.length) = some n
def MS (y : MethodName) (cc : ByteArray) (maxL : Nat) (ret : Option FieldType) (n : Nat) : Prop := Cond.code y cc maxL ret ∈ Gt ∧ Cond.static y ∈ Gt ∧ Cond.initialized y.cls ∈ Gt ∧ y.cls ≠ "java/lang/invoke/MethodHandle" ∧ y.cls ≠ "java/lang/invoke/VarHandle" ∧ (parseMethodDescriptor y.desc).map (fun d => d.parameters.length) = some n
def rmOk (rm R0 : Room) (maxL : Nat) : Bool := (rm.frames + 1).ble R0.frames && (8 + (maxL + 11) + rm.locals).ble R0.locals && rm.cells == 0 && rm.slots == 0
theorem rmOk_spec {rm R0 : Room} {maxL : Nat} (h : rmOk rm R0 maxL = true) : rm.frames + 1 ≤ R0.frames ∧ 8 + (maxL + 11) + rm.locals ≤ R0.locals ∧ rm.cells = 0 ∧ rm.slots = 0 := by
  unfold rmOk at h
  simp only [Bool.and_eq_true, beq_iff_eq] at h
  exact ⟨Nat.le_of_ble_eq_true h.1.1.1, Nat.le_of_ble_eq_true h.1.1.2, h.1.2, h.2⟩
theorem runJ {p : Program} {e : Env} {R : Room} {s : State} {m : MethodId} {args : Array Value} {below : List Frame} {meth : Method} {c : Code} {H : Heap} {locs : List Loc} {cells slots : Nat} {Q : State → Prop} {ls : Array Slot} {st0 rest : List Value} {rv : Option Value} {av : Array Value} (hr : va_Run p (zl Z) e R s m args below meth c H locs cells slots 0 0 (F0 m pc ls st0) rest (Qm Z rv cm' mm' lm' av) (fun q => zb Z ≤ q)) (hS : va_S (fun q => zb Z ≤ q) s.heap H locs)
    (kk : ∀ (H1 : Heap) (locs1 : List Loc), va_P (zD Z) vwCl (wl Z cm' mm' lm') H1 → va_S (fun q => zb Z ≤ q) s.heap H1 locs1 → W p (zl Z) e R s m args below meth c H1 locs1 cells slots Q (F0 m (pc + 3) ls (rv.toList ++ rest))) : W p (zl Z) e R s m args below meth c H locs cells slots Q (F0 m pc ls st0) := by
  intro T hT X
  obtain ⟨v, st₀, t, T', L, h0, X', hL, e1, e2, ⟨hv, hP, hK, hz, hk⟩, go⟩ := hr T hT X
  cases hv
  rw [h0] at hz hk
  obtain ⟨t2, a1, b1⟩ := kk T'.heap (locs ++ L) (by rw [e1]; exact hP)
    ⟨Nat.le_trans hS.1 (by rw [e1]; exact hz), fun q h1 h2 => by rw [e1, hk q (Nat.lt_of_lt_of_le h1 hS.1) h2]; exact hS.2.1 q h1 h2, fun q hq => by
      rcases List.mem_append.mp hq with h | h
      · exact hS.2.2 q h
      · exact hL q h⟩ T' rfl X'
  exact ⟨t2, go t2 a1, b1⟩
theorem g_callV {β : Type} (hX : Cx Z X cc nL own R0) {y : MethodName} {cy : ByteArray} {maxL n idx ci N : Nat} {ret : Option FieldType} {rm : Room} {C : String} {T : u_T} {fs : List Value} {As st0 : List Value} {ov : Option β} {K : β → Option α} (rv : β → Option Value) (cm' : β → CM) (mm' : β → MM) (lm' : β → LM)
    (hM : ∀ r, ov = some r → Ct Z y cy maxL ret rm (.ref (ad Z ob pt) :: As) cm mm lm (rv r) (cm' r) (mm' r) (lm' r)) (mi : MI y cy maxL ret n) (ml : Cond.methodLink own idx y ∈ Gt) (hp : okp ob pt) (he : en Z cm mm lm ob pt = .inr (ci, fs)) (hC : vwCl[ci]? = some (C, T, N)) (hyc : y.cls = C) (hn : As.length = n) (hrm : rmOk rm R0 maxL = true) (hst : st0 = As.reverse ++ .ref (ad Z ob pt) :: st) (hsum : (st.map fun v => v.category).sum ≤ 8)
    (hd : decode cc pc = .ok (.invokevirtual idx, 3) ∧ pc + 3 = q) (kk : ∀ r, ov = some r → G k (K r) (J Z X nL (cm' r) (mm' r) (lm' r) q lv ((rv r).toList ++ st))) : G k (ov.bind K) (J Z X nL cm mm lm pc lv st0) := by
  obtain ⟨hx, hb, hml, hown, hts, hK, hR, hc, hs, hbz⟩ := hX
  obtain ⟨hd, rfl⟩ := hd
  intro a ha hk H locs ls hP hS hl
  obtain ⟨r, hv, ha⟩ := Option.bind_eq_some_iff.mp ha
  obtain ⟨r1, r2, r3, r4⟩ := rmOk_spec hrm
  obtain ⟨m1, m2, m3, m4, m5, m6, m7⟩ := mi
  rw [← hR] at r1 r2 hc hs
  have cw : CallW X.2.2.1 X.2.2.2.1 X.2.2.2.2.2.1 own C idx y cy maxL ret (Cond.code y cy maxL ret :: Gt) rm 0 0 n := by
    refine ⟨callB_of n hts (gt_good m1 (fun _ h => h)) rfl r3 r4 (hts _ m4) (hts _ ml) ⟨m5, m6, m7⟩ ⟨r1, r2⟩, hts _ m2, ?_⟩
    rw [← hyc]
    exact hts _ m3
  have hw : (wl Z cm mm lm)[bs ob + pt]? = some (ad Z ob pt, .inr (ci, fs)) := by rw [wl_get hp, he]
  refine runJ (va_runV (As := As) (rest := st) ⟨hx, hb, hml, hown, hts⟩ (hM r hv) cw ⟨Pm_blind Z _ cm mm lm, va_recv hK hP hC hw, fun U hU hW => ⟨rfl, by rw [hU]; exact hP, va_K.moved hW.alike hK, by rw [hU]; exact Nat.le_trans hbz hS.1⟩⟩ rfl hn hl.1 hst (lv_room hsum) hd ⟨hc, hs⟩) hS (fun H1 locs1 hP1 hS1 => kk r hv a ha hk H1 locs1 ls hP1 hS1 hl)
theorem g_callS {β : Type} (hX : Cx Z X cc nL own R0) {y : MethodName} {cy : ByteArray} {maxL n idx : Nat} {ret : Option FieldType} {rm : Room} {As st0 : List Value} {ov : Option β} {K : β → Option α} (rv : β → Option Value) (cm' : β → CM) (mm' : β → MM) (lm' : β → LM)
    (hM : ∀ r, ov = some r → Ct Z y cy maxL ret rm As cm mm lm (rv r) (cm' r) (mm' r) (lm' r)) (mi : MS y cy maxL ret n) (ml : Cond.methodLink own idx y ∈ Gt) (hn : As.length = n) (hrm : rmOk rm R0 maxL = true) (hst : st0 = As.reverse ++ st) (hsum : (st.map fun v => v.category).sum ≤ 8)
    (hd : decode cc pc = .ok (.invokestatic idx, 3) ∧ pc + 3 = q) (kk : ∀ r, ov = some r → G k (K r) (J Z X nL (cm' r) (mm' r) (lm' r) q lv ((rv r).toList ++ st))) : G k (ov.bind K) (J Z X nL cm mm lm pc lv st0) := by
  obtain ⟨hx, hb, hml, hown, hts, hK, hR, hc, hs, hbz⟩ := hX
  obtain ⟨hd, rfl⟩ := hd
  intro a ha hk H locs ls hP hS hl
  obtain ⟨r, hv, ha⟩ := Option.bind_eq_some_iff.mp ha
  obtain ⟨r1, r2, r3, r4⟩ := rmOk_spec hrm
  obtain ⟨m1, m2, m4, m5, m6, m7⟩ := mi
  rw [← hR] at r1 r2 hc hs
  refine runJ (va_runS (As := As) (rest := st) ⟨hx, hb, hml, hown, hts⟩ (hM r hv) ⟨callB_of n hts (gt_good m1 (fun _ h => h)) rfl r3 r4 (hts _ m4) (hts _ ml) ⟨m5, m6, m7⟩ ⟨r1, r2⟩, hts _ m2⟩ ⟨Pm_blind Z _ cm mm lm, fun U hU hW => ⟨rfl, by rw [hU]; exact hP, va_K.moved hW.alike hK, by rw [hU]; exact Nat.le_trans hbz hS.1⟩⟩ rfl hn hl.1 hst (lv_room hsum) hd ⟨hc, hs⟩) hS (fun H1 locs1 hP1 hS1 => kk r hv a ha hk H1 locs1 ls hP1 hS1 hl)
theorem g_callSN {β : Type} (hX : Cx Z X cc nL own R0) {y : MethodName} {cy : ByteArray} {maxL n idx : Nat} {host : String} {ret : Option FieldType} {rm : Room} {As st0 : List Value} {ov : Option β} {K : β → Option α} (rv : β → Option Value) (cm' : β → CM) (mm' : β → MM) (lm' : β → LM)
    (hM : ∀ r, ov = some r → Ct Z y cy maxL ret rm As cm mm lm (rv r) (cm' r) (mm' r) (lm' r)) (mi : MS y cy maxL ret n) (ml : Cond.methodLinkNest own idx y host ∈ Gt) (hn : As.length = n) (hrm : rmOk rm R0 maxL = true) (hst : st0 = As.reverse ++ st) (hsum : (st.map fun v => v.category).sum ≤ 8)
    (hd : decode cc pc = .ok (.invokestatic idx, 3) ∧ pc + 3 = q) (kk : ∀ r, ov = some r → G k (K r) (J Z X nL (cm' r) (mm' r) (lm' r) q lv ((rv r).toList ++ st))) : G k (ov.bind K) (J Z X nL cm mm lm pc lv st0) := by
  obtain ⟨hx, hb, hml, hown, hts, hK, hR, hc, hs, hbz⟩ := hX
  obtain ⟨hd, rfl⟩ := hd
  intro a ha hk H locs ls hP hS hl
  obtain ⟨r, hv, ha⟩ := Option.bind_eq_some_iff.mp ha
  obtain ⟨r1, r2, r3, r4⟩ := rmOk_spec hrm
  obtain ⟨m1, m2, m4, m5, m6, m7⟩ := mi
  rw [← hR] at r1 r2 hc hs
  refine runJ (va_runSN (host := host) (As := As) (rest := st) ⟨hx, hb, hml, hown, hts⟩ (hM r hv) ⟨va_cnB n hts (gt_good m1 (fun _ h => h)) rfl r3 r4 (va_Nw.of rfl (hts _ ml)) (hts _ m4) ⟨m5, m6, m7⟩ ⟨r1, r2⟩, hts _ m2, trivial⟩ ⟨Pm_blind Z _ cm mm lm, fun U hU hW => ⟨rfl, by rw [hU]; exact hP, va_K.moved hW.alike hK, by rw [hU]; exact Nat.le_trans hbz hS.1⟩⟩ rfl hn hl.1 hst (lv_room hsum) hd ⟨hc, hs⟩) hS (fun H1 locs1 hP1 hS1 => kk r hv a ha hk H1 locs1 ls hP1 hS1 hl)
end Heap
end
