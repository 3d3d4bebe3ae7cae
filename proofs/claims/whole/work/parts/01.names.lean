-- ===== PART A: goes FIRST, ahead of the names: the tables' words, and 'selects' of the private methods out of them =====
/-- a private method of a class that the tables say can be made, by its rows of tables_1 -/
def lw_okq (q : MethodName × Nat) : Prop := (q.1.cls ≠ "java/lang/invoke/MethodHandle" ∧ q.1.cls ≠ "java/lang/invoke/VarHandle") ∧ Cond.instantiable q.1.cls q.2 ∈ tables_1 ∧ Cond.privateMethod q.1 ∈ tables_1 ∧ Cond.instanceMethod q.1 ∈ tables_1
theorem lw_p0 : lw_okq (⟨"CampBook", "isChild", "(I)Z"⟩, 7) := ⟨⟨by decide +kernel, by decide +kernel⟩, List.mem_of_getElem? (i := 14) (by decide +kernel), List.mem_of_getElem? (i := 298) (by decide +kernel), List.mem_of_getElem? (i := 299) (by decide +kernel)⟩
theorem lw_p1 : lw_okq (⟨"CampBook", "isLeader", "(I)Z"⟩, 7) := ⟨⟨by decide +kernel, by decide +kernel⟩, List.mem_of_getElem? (i := 14) (by decide +kernel), List.mem_of_getElem? (i := 313) (by decide +kernel), List.mem_of_getElem? (i := 314) (by decide +kernel)⟩
theorem lw_p2 : lw_okq (⟨"CampBook", "isTask", "(I)Z"⟩, 7) := ⟨⟨by decide +kernel, by decide +kernel⟩, List.mem_of_getElem? (i := 14) (by decide +kernel), List.mem_of_getElem? (i := 331) (by decide +kernel), List.mem_of_getElem? (i := 332) (by decide +kernel)⟩
theorem lw_p3 : lw_okq (⟨"CampBook", "isBadge", "(I)Z"⟩, 7) := ⟨⟨by decide +kernel, by decide +kernel⟩, List.mem_of_getElem? (i := 14) (by decide +kernel), List.mem_of_getElem? (i := 339) (by decide +kernel), List.mem_of_getElem? (i := 340) (by decide +kernel)⟩
theorem lw_p4 : lw_okq (⟨"CampBook", "isSignature", "(I)Z"⟩, 7) := ⟨⟨by decide +kernel, by decide +kernel⟩, List.mem_of_getElem? (i := 14) (by decide +kernel), List.mem_of_getElem? (i := 351) (by decide +kernel), List.mem_of_getElem? (i := 352) (by decide +kernel)⟩
theorem lw_p5 : lw_okq (⟨"CampBook$Days", "readDone", "(LCampBook$Book;)V"⟩, 2) := ⟨⟨by decide +kernel, by decide +kernel⟩, List.mem_of_getElem? (i := 208) (by decide +kernel), List.mem_of_getElem? (i := 359) (by decide +kernel), List.mem_of_getElem? (i := 360) (by decide +kernel)⟩
theorem lw_p6 : lw_okq (⟨"CampBook$Days", "readTask", "(LCampBook$Book;I)V"⟩, 2) := ⟨⟨by decide +kernel, by decide +kernel⟩, List.mem_of_getElem? (i := 208) (by decide +kernel), List.mem_of_getElem? (i := 364) (by decide +kernel), List.mem_of_getElem? (i := 365) (by decide +kernel)⟩
theorem lw_p7 : lw_okq (⟨"CampBook$Days", "counts", "(LCampBook$Book;I)Z"⟩, 2) := ⟨⟨by decide +kernel, by decide +kernel⟩, List.mem_of_getElem? (i := 208) (by decide +kernel), List.mem_of_getElem? (i := 368) (by decide +kernel), List.mem_of_getElem? (i := 369) (by decide +kernel)⟩
theorem lw_p8 : lw_okq (⟨"CampBook$People", "hasPaper", "(III)Z"⟩, 7) := ⟨⟨by decide +kernel, by decide +kernel⟩, List.mem_of_getElem? (i := 28) (by decide +kernel), List.mem_of_getElem? (i := 372) (by decide +kernel), List.mem_of_getElem? (i := 373) (by decide +kernel)⟩
theorem lw_p9 : lw_okq (⟨"CampBook$Days", "doneFrom", "(II)I"⟩, 2) := ⟨⟨by decide +kernel, by decide +kernel⟩, List.mem_of_getElem? (i := 208) (by decide +kernel), List.mem_of_getElem? (i := 376) (by decide +kernel), List.mem_of_getElem? (i := 377) (by decide +kernel)⟩
theorem lw_p10 : lw_okq (⟨"CampBook$Days", "readHeld", "(LCampBook$Book;I)V"⟩, 2) := ⟨⟨by decide +kernel, by decide +kernel⟩, List.mem_of_getElem? (i := 208) (by decide +kernel), List.mem_of_getElem? (i := 396) (by decide +kernel), List.mem_of_getElem? (i := 397) (by decide +kernel)⟩
theorem lw_p11 : lw_okq (⟨"CampBook$Days", "readBadge", "(LCampBook$Book;II)I"⟩, 2) := ⟨⟨by decide +kernel, by decide +kernel⟩, List.mem_of_getElem? (i := 208) (by decide +kernel), List.mem_of_getElem? (i := 400) (by decide +kernel), List.mem_of_getElem? (i := 401) (by decide +kernel)⟩
theorem lw_p12 : lw_okq (⟨"CampBook$Days", "allFrom", "(II)I"⟩, 2) := ⟨⟨by decide +kernel, by decide +kernel⟩, List.mem_of_getElem? (i := 208) (by decide +kernel), List.mem_of_getElem? (i := 404) (by decide +kernel), List.mem_of_getElem? (i := 405) (by decide +kernel)⟩
theorem lw_p13 : lw_okq (⟨"CampBook$Days", "someFrom", "(III)I"⟩, 2) := ⟨⟨by decide +kernel, by decide +kernel⟩, List.mem_of_getElem? (i := 208) (by decide +kernel), List.mem_of_getElem? (i := 414) (by decide +kernel), List.mem_of_getElem? (i := 415) (by decide +kernel)⟩
theorem lw_p14 : lw_okq (⟨"CampBook$Days", "doneBy", "(III)I"⟩, 2) := ⟨⟨by decide +kernel, by decide +kernel⟩, List.mem_of_getElem? (i := 208) (by decide +kernel), List.mem_of_getElem? (i := 418) (by decide +kernel), List.mem_of_getElem? (i := 419) (by decide +kernel)⟩
theorem lw_p15 : lw_okq (⟨"CampBook$Days", "otherFrom", "(I)I"⟩, 2) := ⟨⟨by decide +kernel, by decide +kernel⟩, List.mem_of_getElem? (i := 208) (by decide +kernel), List.mem_of_getElem? (i := 422) (by decide +kernel), List.mem_of_getElem? (i := 423) (by decide +kernel)⟩
def lw_privs_1 : List (MethodName × Nat) := [(⟨"CampBook", "isChild", "(I)Z"⟩, 7), (⟨"CampBook", "isLeader", "(I)Z"⟩, 7), (⟨"CampBook", "isTask", "(I)Z"⟩, 7), (⟨"CampBook", "isBadge", "(I)Z"⟩, 7), (⟨"CampBook", "isSignature", "(I)Z"⟩, 7), (⟨"CampBook$Days", "readDone", "(LCampBook$Book;)V"⟩, 2), (⟨"CampBook$Days", "readTask", "(LCampBook$Book;I)V"⟩, 2), (⟨"CampBook$Days", "counts", "(LCampBook$Book;I)Z"⟩, 2), (⟨"CampBook$People", "hasPaper", "(III)Z"⟩, 7), (⟨"CampBook$Days", "doneFrom", "(II)I"⟩, 2), (⟨"CampBook$Days", "readHeld", "(LCampBook$Book;I)V"⟩, 2), (⟨"CampBook$Days", "readBadge", "(LCampBook$Book;II)I"⟩, 2), (⟨"CampBook$Days", "allFrom", "(II)I"⟩, 2), (⟨"CampBook$Days", "someFrom", "(III)I"⟩, 2), (⟨"CampBook$Days", "doneBy", "(III)I"⟩, 2), (⟨"CampBook$Days", "otherFrom", "(I)I"⟩, 2)]
theorem lw_r1 : ∀ q ∈ lw_privs_1, lw_okq q := List.forall_mem_cons.mpr ⟨lw_p0, List.forall_mem_cons.mpr ⟨lw_p1, List.forall_mem_cons.mpr ⟨lw_p2, List.forall_mem_cons.mpr ⟨lw_p3, List.forall_mem_cons.mpr ⟨lw_p4, List.forall_mem_cons.mpr ⟨lw_p5, List.forall_mem_cons.mpr ⟨lw_p6, List.forall_mem_cons.mpr ⟨lw_p7, List.forall_mem_cons.mpr ⟨lw_p8, List.forall_mem_cons.mpr ⟨lw_p9, List.forall_mem_cons.mpr ⟨lw_p10, List.forall_mem_cons.mpr ⟨lw_p11, List.forall_mem_cons.mpr ⟨lw_p12, List.forall_mem_cons.mpr ⟨lw_p13, List.forall_mem_cons.mpr ⟨lw_p14, List.forall_mem_cons.mpr ⟨lw_p15, fun _ h => absurd h List.not_mem_nil⟩⟩⟩⟩⟩⟩⟩⟩⟩⟩⟩⟩⟩⟩⟩⟩
theorem lw_p16 : lw_okq (⟨"CampBook$Days", "bitsNotDone", "(II)I"⟩, 2) := ⟨⟨by decide +kernel, by decide +kernel⟩, List.mem_of_getElem? (i := 208) (by decide +kernel), List.mem_of_getElem? (i := 430) (by decide +kernel), List.mem_of_getElem? (i := 431) (by decide +kernel)⟩
theorem lw_p17 : lw_okq (⟨"CampBook$Days", "countHeld", "(LCampBook$Book;I)I"⟩, 2) := ⟨⟨by decide +kernel, by decide +kernel⟩, List.mem_of_getElem? (i := 208) (by decide +kernel), List.mem_of_getElem? (i := 441) (by decide +kernel), List.mem_of_getElem? (i := 442) (by decide +kernel)⟩
theorem lw_p18 : lw_okq (⟨"CampBook", "makePlan", "()V"⟩, 7) := ⟨⟨by decide +kernel, by decide +kernel⟩, List.mem_of_getElem? (i := 14) (by decide +kernel), List.mem_of_getElem? (i := 465) (by decide +kernel), List.mem_of_getElem? (i := 466) (by decide +kernel)⟩
theorem lw_p19 : lw_okq (⟨"CampBook$Planner", "read", "(LCampBook$Book;I)V"⟩, 10) := ⟨⟨by decide +kernel, by decide +kernel⟩, List.mem_of_getElem? (i := 222) (by decide +kernel), List.mem_of_getElem? (i := 469) (by decide +kernel), List.mem_of_getElem? (i := 470) (by decide +kernel)⟩
theorem lw_p20 : lw_okq (⟨"CampBook$People", "countFree", "(I)I"⟩, 7) := ⟨⟨by decide +kernel, by decide +kernel⟩, List.mem_of_getElem? (i := 28) (by decide +kernel), List.mem_of_getElem? (i := 473) (by decide +kernel), List.mem_of_getElem? (i := 474) (by decide +kernel)⟩
theorem lw_p21 : lw_okq (⟨"CampBook$People", "countPatrol", "(I)I"⟩, 7) := ⟨⟨by decide +kernel, by decide +kernel⟩, List.mem_of_getElem? (i := 28) (by decide +kernel), List.mem_of_getElem? (i := 481) (by decide +kernel), List.mem_of_getElem? (i := 482) (by decide +kernel)⟩
theorem lw_p22 : lw_okq (⟨"CampBook$Planner", "readOffer", "(LCampBook$Camps;II)I"⟩, 10) := ⟨⟨by decide +kernel, by decide +kernel⟩, List.mem_of_getElem? (i := 222) (by decide +kernel), List.mem_of_getElem? (i := 485) (by decide +kernel), List.mem_of_getElem? (i := 486) (by decide +kernel)⟩
theorem lw_p23 : lw_okq (⟨"CampBook$Planner", "readHopes", "()V"⟩, 10) := ⟨⟨by decide +kernel, by decide +kernel⟩, List.mem_of_getElem? (i := 222) (by decide +kernel), List.mem_of_getElem? (i := 489) (by decide +kernel), List.mem_of_getElem? (i := 490) (by decide +kernel)⟩
theorem lw_p24 : lw_okq (⟨"CampBook$Planner", "search", "()V"⟩, 10) := ⟨⟨by decide +kernel, by decide +kernel⟩, List.mem_of_getElem? (i := 222) (by decide +kernel), List.mem_of_getElem? (i := 494) (by decide +kernel), List.mem_of_getElem? (i := 495) (by decide +kernel)⟩
theorem lw_p25 : lw_okq (⟨"CampBook$Planner", "isNoBetter", "(III)Z"⟩, 10) := ⟨⟨by decide +kernel, by decide +kernel⟩, List.mem_of_getElem? (i := 222) (by decide +kernel), List.mem_of_getElem? (i := 502) (by decide +kernel), List.mem_of_getElem? (i := 503) (by decide +kernel)⟩
theorem lw_p26 : lw_okq (⟨"CampBook$Planner", "takeTried", "(II)V"⟩, 10) := ⟨⟨by decide +kernel, by decide +kernel⟩, List.mem_of_getElem? (i := 222) (by decide +kernel), List.mem_of_getElem? (i := 506) (by decide +kernel), List.mem_of_getElem? (i := 507) (by decide +kernel)⟩
theorem lw_p27 : lw_okq (⟨"CampBook$Planner", "countAway", "(I)I"⟩, 10) := ⟨⟨by decide +kernel, by decide +kernel⟩, List.mem_of_getElem? (i := 222) (by decide +kernel), List.mem_of_getElem? (i := 521) (by decide +kernel), List.mem_of_getElem? (i := 522) (by decide +kernel)⟩
theorem lw_p28 : lw_okq (⟨"CampBook$Days", "countCounting", "(LCampBook$Book;)I"⟩, 2) := ⟨⟨by decide +kernel, by decide +kernel⟩, List.mem_of_getElem? (i := 208) (by decide +kernel), List.mem_of_getElem? (i := 529) (by decide +kernel), List.mem_of_getElem? (i := 530) (by decide +kernel)⟩
theorem lw_p29 : lw_okq (⟨"CampBook$Days", "countHeldOfAll", "(LCampBook$Book;)I"⟩, 2) := ⟨⟨by decide +kernel, by decide +kernel⟩, List.mem_of_getElem? (i := 208) (by decide +kernel), List.mem_of_getElem? (i := 533) (by decide +kernel), List.mem_of_getElem? (i := 534) (by decide +kernel)⟩
theorem lw_p30 : lw_okq (⟨"CampBook$Book", "become", "(LCampBook$Book;)V"⟩, 4) := ⟨⟨by decide +kernel, by decide +kernel⟩, List.mem_of_getElem? (i := 22) (by decide +kernel), List.mem_of_getElem? (i := 544) (by decide +kernel), List.mem_of_getElem? (i := 545) (by decide +kernel)⟩
theorem lw_p31 : lw_okq (⟨"CampBook$People", "become", "(LCampBook$People;)V"⟩, 7) := ⟨⟨by decide +kernel, by decide +kernel⟩, List.mem_of_getElem? (i := 28) (by decide +kernel), List.mem_of_getElem? (i := 548) (by decide +kernel), List.mem_of_getElem? (i := 549) (by decide +kernel)⟩
def lw_privs_2 : List (MethodName × Nat) := [(⟨"CampBook$Days", "bitsNotDone", "(II)I"⟩, 2), (⟨"CampBook$Days", "countHeld", "(LCampBook$Book;I)I"⟩, 2), (⟨"CampBook", "makePlan", "()V"⟩, 7), (⟨"CampBook$Planner", "read", "(LCampBook$Book;I)V"⟩, 10), (⟨"CampBook$People", "countFree", "(I)I"⟩, 7), (⟨"CampBook$People", "countPatrol", "(I)I"⟩, 7), (⟨"CampBook$Planner", "readOffer", "(LCampBook$Camps;II)I"⟩, 10), (⟨"CampBook$Planner", "readHopes", "()V"⟩, 10), (⟨"CampBook$Planner", "search", "()V"⟩, 10), (⟨"CampBook$Planner", "isNoBetter", "(III)Z"⟩, 10), (⟨"CampBook$Planner", "takeTried", "(II)V"⟩, 10), (⟨"CampBook$Planner", "countAway", "(I)I"⟩, 10), (⟨"CampBook$Days", "countCounting", "(LCampBook$Book;)I"⟩, 2), (⟨"CampBook$Days", "countHeldOfAll", "(LCampBook$Book;)I"⟩, 2), (⟨"CampBook$Book", "become", "(LCampBook$Book;)V"⟩, 4), (⟨"CampBook$People", "become", "(LCampBook$People;)V"⟩, 7)]
theorem lw_r2 : ∀ q ∈ lw_privs_2, lw_okq q := List.forall_mem_cons.mpr ⟨lw_p16, List.forall_mem_cons.mpr ⟨lw_p17, List.forall_mem_cons.mpr ⟨lw_p18, List.forall_mem_cons.mpr ⟨lw_p19, List.forall_mem_cons.mpr ⟨lw_p20, List.forall_mem_cons.mpr ⟨lw_p21, List.forall_mem_cons.mpr ⟨lw_p22, List.forall_mem_cons.mpr ⟨lw_p23, List.forall_mem_cons.mpr ⟨lw_p24, List.forall_mem_cons.mpr ⟨lw_p25, List.forall_mem_cons.mpr ⟨lw_p26, List.forall_mem_cons.mpr ⟨lw_p27, List.forall_mem_cons.mpr ⟨lw_p28, List.forall_mem_cons.mpr ⟨lw_p29, List.forall_mem_cons.mpr ⟨lw_p30, List.forall_mem_cons.mpr ⟨lw_p31, fun _ h => absurd h List.not_mem_nil⟩⟩⟩⟩⟩⟩⟩⟩⟩⟩⟩⟩⟩⟩⟩⟩
theorem lw_p32 : lw_okq (⟨"CampBook$Texts", "become", "(LCampBook$Texts;)V"⟩, 9) := ⟨⟨by decide +kernel, by decide +kernel⟩, List.mem_of_getElem? (i := 69) (by decide +kernel), List.mem_of_getElem? (i := 553) (by decide +kernel), List.mem_of_getElem? (i := 554) (by decide +kernel)⟩
theorem lw_p33 : lw_okq (⟨"CampBook$Signatures", "become", "(LCampBook$Signatures;)V"⟩, 6) := ⟨⟨by decide +kernel, by decide +kernel⟩, List.mem_of_getElem? (i := 121) (by decide +kernel), List.mem_of_getElem? (i := 558) (by decide +kernel), List.mem_of_getElem? (i := 559) (by decide +kernel)⟩
theorem lw_p34 : lw_okq (⟨"CampBook$Camps", "become", "(LCampBook$Camps;)V"⟩, 4) := ⟨⟨by decide +kernel, by decide +kernel⟩, List.mem_of_getElem? (i := 159) (by decide +kernel), List.mem_of_getElem? (i := 566) (by decide +kernel), List.mem_of_getElem? (i := 567) (by decide +kernel)⟩
theorem lw_p35 : lw_okq (⟨"CampBookModel", "came", "(I)I"⟩, 25) := ⟨⟨by decide +kernel, by decide +kernel⟩, List.mem_of_getElem? (i := 576) (by decide +kernel), List.mem_of_getElem? (i := 668) (by decide +kernel), List.mem_of_getElem? (i := 669) (by decide +kernel)⟩
theorem lw_p36 : lw_okq (⟨"CampBookModel", "is", "(II)Z"⟩, 25) := ⟨⟨by decide +kernel, by decide +kernel⟩, List.mem_of_getElem? (i := 576) (by decide +kernel), List.mem_of_getElem? (i := 676) (by decide +kernel), List.mem_of_getElem? (i := 677) (by decide +kernel)⟩
theorem lw_p37 : lw_okq (⟨"CampBookModel", "findDone", "(I)V"⟩, 25) := ⟨⟨by decide +kernel, by decide +kernel⟩, List.mem_of_getElem? (i := 576) (by decide +kernel), List.mem_of_getElem? (i := 715) (by decide +kernel), List.mem_of_getElem? (i := 716) (by decide +kernel)⟩
theorem lw_p38 : lw_okq (⟨"CampBookModel", "counts", "(I)Z"⟩, 25) := ⟨⟨by decide +kernel, by decide +kernel⟩, List.mem_of_getElem? (i := 576) (by decide +kernel), List.mem_of_getElem? (i := 719) (by decide +kernel), List.mem_of_getElem? (i := 720) (by decide +kernel)⟩
theorem lw_p39 : lw_okq (⟨"CampBookModel", "findHeld", "(I)V"⟩, 25) := ⟨⟨by decide +kernel, by decide +kernel⟩, List.mem_of_getElem? (i := 576) (by decide +kernel), List.mem_of_getElem? (i := 731) (by decide +kernel), List.mem_of_getElem? (i := 732) (by decide +kernel)⟩
theorem lw_p40 : lw_okq (⟨"CampBookModel", "dayOf", "(II)I"⟩, 25) := ⟨⟨by decide +kernel, by decide +kernel⟩, List.mem_of_getElem? (i := 576) (by decide +kernel), List.mem_of_getElem? (i := 738) (by decide +kernel), List.mem_of_getElem? (i := 739) (by decide +kernel)⟩
theorem lw_p41 : lw_okq (⟨"CampBookModel", "isDone", "(I)Z"⟩, 25) := ⟨⟨by decide +kernel, by decide +kernel⟩, List.mem_of_getElem? (i := 576) (by decide +kernel), List.mem_of_getElem? (i := 742) (by decide +kernel), List.mem_of_getElem? (i := 743) (by decide +kernel)⟩
theorem lw_p42 : lw_okq (⟨"CampBookModel", "findPlan", "()V"⟩, 25) := ⟨⟨by decide +kernel, by decide +kernel⟩, List.mem_of_getElem? (i := 576) (by decide +kernel), List.mem_of_getElem? (i := 777) (by decide +kernel), List.mem_of_getElem? (i := 778) (by decide +kernel)⟩
theorem lw_p43 : lw_okq (⟨"CampBookModel", "sizeOf", "(I)I"⟩, 25) := ⟨⟨by decide +kernel, by decide +kernel⟩, List.mem_of_getElem? (i := 576) (by decide +kernel), List.mem_of_getElem? (i := 781) (by decide +kernel), List.mem_of_getElem? (i := 782) (by decide +kernel)⟩
theorem lw_p44 : lw_okq (⟨"CampBookModel", "fits", "(I)Z"⟩, 25) := ⟨⟨by decide +kernel, by decide +kernel⟩, List.mem_of_getElem? (i := 576) (by decide +kernel), List.mem_of_getElem? (i := 785) (by decide +kernel), List.mem_of_getElem? (i := 786) (by decide +kernel)⟩
theorem lw_p45 : lw_okq (⟨"CampBookModel", "takes", "()V"⟩, 25) := ⟨⟨by decide +kernel, by decide +kernel⟩, List.mem_of_getElem? (i := 576) (by decide +kernel), List.mem_of_getElem? (i := 789) (by decide +kernel), List.mem_of_getElem? (i := 790) (by decide +kernel)⟩
theorem lw_p46 : lw_okq (⟨"CampBookModel", "worthOf", "(I)I"⟩, 25) := ⟨⟨by decide +kernel, by decide +kernel⟩, List.mem_of_getElem? (i := 576) (by decide +kernel), List.mem_of_getElem? (i := 793) (by decide +kernel), List.mem_of_getElem? (i := 794) (by decide +kernel)⟩
theorem lw_p47 : lw_okq (⟨"CampBookModel", "counting", "()I"⟩, 25) := ⟨⟨by decide +kernel, by decide +kernel⟩, List.mem_of_getElem? (i := 576) (by decide +kernel), List.mem_of_getElem? (i := 805) (by decide +kernel), List.mem_of_getElem? (i := 806) (by decide +kernel)⟩
def lw_privs_3 : List (MethodName × Nat) := [(⟨"CampBook$Texts", "become", "(LCampBook$Texts;)V"⟩, 9), (⟨"CampBook$Signatures", "become", "(LCampBook$Signatures;)V"⟩, 6), (⟨"CampBook$Camps", "become", "(LCampBook$Camps;)V"⟩, 4), (⟨"CampBookModel", "came", "(I)I"⟩, 25), (⟨"CampBookModel", "is", "(II)Z"⟩, 25), (⟨"CampBookModel", "findDone", "(I)V"⟩, 25), (⟨"CampBookModel", "counts", "(I)Z"⟩, 25), (⟨"CampBookModel", "findHeld", "(I)V"⟩, 25), (⟨"CampBookModel", "dayOf", "(II)I"⟩, 25), (⟨"CampBookModel", "isDone", "(I)Z"⟩, 25), (⟨"CampBookModel", "findPlan", "()V"⟩, 25), (⟨"CampBookModel", "sizeOf", "(I)I"⟩, 25), (⟨"CampBookModel", "fits", "(I)Z"⟩, 25), (⟨"CampBookModel", "takes", "()V"⟩, 25), (⟨"CampBookModel", "worthOf", "(I)I"⟩, 25), (⟨"CampBookModel", "counting", "()I"⟩, 25)]
theorem lw_r3 : ∀ q ∈ lw_privs_3, lw_okq q := List.forall_mem_cons.mpr ⟨lw_p32, List.forall_mem_cons.mpr ⟨lw_p33, List.forall_mem_cons.mpr ⟨lw_p34, List.forall_mem_cons.mpr ⟨lw_p35, List.forall_mem_cons.mpr ⟨lw_p36, List.forall_mem_cons.mpr ⟨lw_p37, List.forall_mem_cons.mpr ⟨lw_p38, List.forall_mem_cons.mpr ⟨lw_p39, List.forall_mem_cons.mpr ⟨lw_p40, List.forall_mem_cons.mpr ⟨lw_p41, List.forall_mem_cons.mpr ⟨lw_p42, List.forall_mem_cons.mpr ⟨lw_p43, List.forall_mem_cons.mpr ⟨lw_p44, List.forall_mem_cons.mpr ⟨lw_p45, List.forall_mem_cons.mpr ⟨lw_p46, List.forall_mem_cons.mpr ⟨lw_p47, fun _ h => absurd h List.not_mem_nil⟩⟩⟩⟩⟩⟩⟩⟩⟩⟩⟩⟩⟩⟩⟩⟩
theorem lw_p48 : lw_okq (⟨"CampBookModel", "holding", "()I"⟩, 25) := ⟨⟨by decide +kernel, by decide +kernel⟩, List.mem_of_getElem? (i := 576) (by decide +kernel), List.mem_of_getElem? (i := 810) (by decide +kernel), List.mem_of_getElem? (i := 811) (by decide +kernel)⟩
theorem lw_p49 : lw_okq (⟨"CampBookModel", "moveAll", "(Z)V"⟩, 25) := ⟨⟨by decide +kernel, by decide +kernel⟩, List.mem_of_getElem? (i := 576) (by decide +kernel), List.mem_of_getElem? (i := 819) (by decide +kernel), List.mem_of_getElem? (i := 820) (by decide +kernel)⟩
theorem lw_p50 : lw_okq (⟨"CampBookModel", "move", "([IIZ)V"⟩, 25) := ⟨⟨by decide +kernel, by decide +kernel⟩, List.mem_of_getElem? (i := 576) (by decide +kernel), List.mem_of_getElem? (i := 823) (by decide +kernel), List.mem_of_getElem? (i := 824) (by decide +kernel)⟩
def lw_privs_4 : List (MethodName × Nat) := [(⟨"CampBookModel", "holding", "()I"⟩, 25), (⟨"CampBookModel", "moveAll", "(Z)V"⟩, 25), (⟨"CampBookModel", "move", "([IIZ)V"⟩, 25)]
theorem lw_r4 : ∀ q ∈ lw_privs_4, lw_okq q := List.forall_mem_cons.mpr ⟨lw_p48, List.forall_mem_cons.mpr ⟨lw_p49, List.forall_mem_cons.mpr ⟨lw_p50, fun _ h => absurd h List.not_mem_nil⟩⟩⟩
def lw_privs : List (MethodName × Nat) := lw_privs_1 ++ (lw_privs_2 ++ (lw_privs_3 ++ (lw_privs_4)))
def lw_tbl : List Cond := k2_sels lw_privs ++ tables_1
theorem lw_privs_ok : ∀ q ∈ lw_privs, lw_okq q := by
  show ∀ q ∈ lw_privs_1 ++ (lw_privs_2 ++ (lw_privs_3 ++ (lw_privs_4))), lw_okq q
  exact List.forall_mem_append.mpr ⟨lw_r1, List.forall_mem_append.mpr ⟨lw_r2, List.forall_mem_append.mpr ⟨lw_r3, lw_r4⟩⟩⟩
def RX0 : String := "CampBook$Book"
def TX0 : u_T := fun k => match k with
  | 0 => ("CampBook$Book", "people", "LCampBook$People;", true)
  | 1 => ("CampBook$Book", "texts", "LCampBook$Texts;", true)
  | 2 => ("CampBook$Book", "signatures", "LCampBook$Signatures;", true)
  | _ => ("CampBook$Book", "camps", "LCampBook$Camps;", true)
def tyX0 : Nat → FieldType := fun k => match k with
  | 0 => .object "CampBook$People"
  | 1 => .object "CampBook$Texts"
  | 2 => .object "CampBook$Signatures"
  | _ => .object "CampBook$Camps"
abbrev wsX00 : List Cond := u_ws RX0 TX0 4
theorem nmX0 : ∀ a, a < 4 → ∀ b, b < 4 → a ≠ b → (TX0 a).2.1 ≠ (TX0 b).2.1 := by decide +kernel
theorem tyX0_ok : ∀ k, k < 4 → parseFieldDescriptor (TX0 k).2.2.1 = some (tyX0 k) := by decide +kernel
abbrev cX0_init : ByteArray := prog_2_method_1_code
def yX0_init : MethodName := ⟨RX0, "<init>", "()V"⟩
abbrev cX0_become : ByteArray := prog_2_method_2_code
def yX0_become : MethodName := ⟨RX0, "become", "(LCampBook$Book;)V"⟩
def RX1 : String := "CampBook$Camps"
def TX1 : u_T := fun k => match k with
  | 0 => ("CampBook$Camps", "sites", "I", false)
  | 1 => ("CampBook$Camps", "beds", "[I", true)
  | 2 => ("CampBook$Camps", "woods", "[Z", true)
  | _ => ("CampBook$Camps", "wishes", "[I", true)
def tyX1 : Nat → FieldType := fun k => match k with
  | 0 => .int
  | 1 => .array .int
  | 2 => .array .boolean
  | _ => .array .int
abbrev wsX10 : List Cond := u_ws RX1 TX1 4
theorem nmX1 : ∀ a, a < 4 → ∀ b, b < 4 → a ≠ b → (TX1 a).2.1 ≠ (TX1 b).2.1 := by decide +kernel
theorem tyX1_ok : ∀ k, k < 4 → parseFieldDescriptor (TX1 k).2.2.1 = some (tyX1 k) := by decide +kernel
abbrev cX1_init : ByteArray := prog_3_method_1_code
def yX1_init : MethodName := ⟨RX1, "<init>", "()V"⟩
abbrev cX1_become : ByteArray := prog_3_method_2_code
def yX1_become : MethodName := ⟨RX1, "become", "(LCampBook$Camps;)V"⟩
def RX2 : String := "CampBook$Days"
def TX2 : u_T := fun k => match k with
  | 0 => ("CampBook$Days", "done", "[I", true)
  | _ => ("CampBook$Days", "held", "[I", true)
def tyX2 : Nat → FieldType := fun k => match k with
  | 0 => .array .int
  | _ => .array .int
abbrev wsX20 : List Cond := u_ws RX2 TX2 2
theorem nmX2 : ∀ a, a < 2 → ∀ b, b < 2 → a ≠ b → (TX2 a).2.1 ≠ (TX2 b).2.1 := by decide +kernel
theorem tyX2_ok : ∀ k, k < 2 → parseFieldDescriptor (TX2 k).2.2.1 = some (tyX2 k) := by decide +kernel
abbrev cX2_init : ByteArray := prog_4_method_1_code
def yX2_init : MethodName := ⟨RX2, "<init>", "()V"⟩
abbrev cX2_readDone : ByteArray := prog_4_method_2_code
def yX2_readDone : MethodName := ⟨RX2, "readDone", "(LCampBook$Book;)V"⟩
abbrev cX2_readTask : ByteArray := prog_4_method_3_code
def yX2_readTask : MethodName := ⟨RX2, "readTask", "(LCampBook$Book;I)V"⟩
abbrev cX2_counts : ByteArray := prog_4_method_4_code
def yX2_counts : MethodName := ⟨RX2, "counts", "(LCampBook$Book;I)Z"⟩
abbrev cX2_countCounting : ByteArray := prog_4_method_5_code
def yX2_countCounting : MethodName := ⟨RX2, "countCounting", "(LCampBook$Book;)I"⟩
abbrev cX2_doneFrom : ByteArray := prog_4_method_6_code
def yX2_doneFrom : MethodName := ⟨RX2, "doneFrom", "(II)I"⟩
abbrev cX2_bitsNotDone : ByteArray := prog_4_method_7_code
def yX2_bitsNotDone : MethodName := ⟨RX2, "bitsNotDone", "(II)I"⟩
abbrev cX2_doneBy : ByteArray := prog_4_method_8_code
def yX2_doneBy : MethodName := ⟨RX2, "doneBy", "(III)I"⟩
abbrev cX2_allFrom : ByteArray := prog_4_method_9_code
def yX2_allFrom : MethodName := ⟨RX2, "allFrom", "(II)I"⟩
abbrev cX2_someFrom : ByteArray := prog_4_method_10_code
def yX2_someFrom : MethodName := ⟨RX2, "someFrom", "(III)I"⟩
abbrev cX2_otherFrom : ByteArray := prog_4_method_11_code
def yX2_otherFrom : MethodName := ⟨RX2, "otherFrom", "(I)I"⟩
abbrev cX2_readHeld : ByteArray := prog_4_method_12_code
def yX2_readHeld : MethodName := ⟨RX2, "readHeld", "(LCampBook$Book;I)V"⟩
abbrev cX2_readBadge : ByteArray := prog_4_method_13_code
def yX2_readBadge : MethodName := ⟨RX2, "readBadge", "(LCampBook$Book;II)I"⟩
abbrev cX2_countHeld : ByteArray := prog_4_method_14_code
def yX2_countHeld : MethodName := ⟨RX2, "countHeld", "(LCampBook$Book;I)I"⟩
abbrev cX2_countHeldOfAll : ByteArray := prog_4_method_15_code
def yX2_countHeldOfAll : MethodName := ⟨RX2, "countHeldOfAll", "(LCampBook$Book;)I"⟩
def RX3 : String := "CampBook$People"
def TX3 : u_T := fun k => match k with
  | 0 => ("CampBook$People", "children", "I", false)
  | 1 => ("CampBook$People", "ages", "[I", true)
  | 2 => ("CampBook$People", "patrols", "[I", true)
  | 3 => ("CampBook$People", "leaders", "I", false)
  | 4 => ("CampBook$People", "paperFrom", "[I", true)
  | 5 => ("CampBook$People", "paperTo", "[I", true)
  | _ => ("CampBook$People", "weekends", "[I", true)
def tyX3 : Nat → FieldType := fun k => match k with
  | 0 => .int
  | 1 => .array .int
  | 2 => .array .int
  | 3 => .int
  | 4 => .array .int
  | 5 => .array .int
  | _ => .array .int
abbrev wsX30 : List Cond := u_ws RX3 TX3 7
theorem nmX3 : ∀ a, a < 7 → ∀ b, b < 7 → a ≠ b → (TX3 a).2.1 ≠ (TX3 b).2.1 := by decide +kernel
theorem tyX3_ok : ∀ k, k < 7 → parseFieldDescriptor (TX3 k).2.2.1 = some (tyX3 k) := by decide +kernel
abbrev cX3_init : ByteArray := prog_5_method_1_code
def yX3_init : MethodName := ⟨RX3, "<init>", "()V"⟩
abbrev cX3_become : ByteArray := prog_5_method_2_code
def yX3_become : MethodName := ⟨RX3, "become", "(LCampBook$People;)V"⟩
abbrev cX3_hasPaper : ByteArray := prog_5_method_3_code
def yX3_hasPaper : MethodName := ⟨RX3, "hasPaper", "(III)Z"⟩
abbrev cX3_countPatrol : ByteArray := prog_5_method_4_code
def yX3_countPatrol : MethodName := ⟨RX3, "countPatrol", "(I)I"⟩
abbrev cX3_countFree : ByteArray := prog_5_method_5_code
def yX3_countFree : MethodName := ⟨RX3, "countFree", "(I)I"⟩
def RX4 : String := "CampBook$Planner"
def TX4 : u_T := fun k => match k with
  | 0 => ("CampBook$Planner", "heads", "[I", true)
  | 1 => ("CampBook$Planner", "room", "[I", true)
  | 2 => ("CampBook$Planner", "offers", "[I", true)
  | 3 => ("CampBook$Planner", "bars", "[I", true)
  | 4 => ("CampBook$Planner", "hopes", "[I", true)
  | 5 => ("CampBook$Planner", "askers", "[I", true)
  | 6 => ("CampBook$Planner", "tried", "[I", true)
  | 7 => ("CampBook$Planner", "best", "[I", true)
  | 8 => ("CampBook$Planner", "bestWorth", "I", false)
  | _ => ("CampBook$Planner", "bestGiven", "I", false)
def tyX4 : Nat → FieldType := fun k => match k with
  | 0 => .array .int
  | 1 => .array .int
  | 2 => .array .int
  | 3 => .array .int
  | 4 => .array .int
  | 5 => .array .int
  | 6 => .array .int
  | 7 => .array .int
  | 8 => .int
  | _ => .int
abbrev wsX40 : List Cond := u_ws RX4 TX4 10
theorem nmX4 : ∀ a, a < 10 → ∀ b, b < 10 → a ≠ b → (TX4 a).2.1 ≠ (TX4 b).2.1 := by decide +kernel
theorem tyX4_ok : ∀ k, k < 10 → parseFieldDescriptor (TX4 k).2.2.1 = some (tyX4 k) := by decide +kernel
abbrev cX4_init : ByteArray := prog_6_method_1_code
def yX4_init : MethodName := ⟨RX4, "<init>", "()V"⟩
abbrev cX4_read : ByteArray := prog_6_method_2_code
def yX4_read : MethodName := ⟨RX4, "read", "(LCampBook$Book;I)V"⟩
abbrev cX4_readBars : ByteArray := prog_6_method_3_code
def yX4_readBars : MethodName := ⟨RX4, "readBars", "(IZ)I"⟩
abbrev cX4_readOffer : ByteArray := prog_6_method_4_code
def yX4_readOffer : MethodName := ⟨RX4, "readOffer", "(LCampBook$Camps;II)I"⟩
abbrev cX4_readHopes : ByteArray := prog_6_method_5_code
def yX4_readHopes : MethodName := ⟨RX4, "readHopes", "()V"⟩
abbrev cX4_search : ByteArray := prog_6_method_6_code
def yX4_search : MethodName := ⟨RX4, "search", "()V"⟩
abbrev cX4_seek : ByteArray := prog_6_method_7_code
def yX4_seek : MethodName := ⟨RX4, "seek", "(LCampBook$Planner;IIII)V"⟩
abbrev cX4_isNoBetter : ByteArray := prog_6_method_8_code
def yX4_isNoBetter : MethodName := ⟨RX4, "isNoBetter", "(III)Z"⟩
abbrev cX4_takeTried : ByteArray := prog_6_method_9_code
def yX4_takeTried : MethodName := ⟨RX4, "takeTried", "(II)V"⟩
abbrev cX4_countAway : ByteArray := prog_6_method_10_code
def yX4_countAway : MethodName := ⟨RX4, "countAway", "(I)I"⟩
def RX5 : String := "CampBook$Signatures"
def TX5 : u_T := fun k => match k with
  | 0 => ("CampBook$Signatures", "size", "I", false)
  | 1 => ("CampBook$Signatures", "children", "[I", true)
  | 2 => ("CampBook$Signatures", "tasks", "[I", true)
  | 3 => ("CampBook$Signatures", "leaders", "[I", true)
  | 4 => ("CampBook$Signatures", "days", "[I", true)
  | _ => ("CampBook$Signatures", "struck", "[Z", true)
def tyX5 : Nat → FieldType := fun k => match k with
  | 0 => .int
  | 1 => .array .int
  | 2 => .array .int
  | 3 => .array .int
  | 4 => .array .int
  | _ => .array .boolean
abbrev wsX50 : List Cond := u_ws RX5 TX5 6
theorem nmX5 : ∀ a, a < 6 → ∀ b, b < 6 → a ≠ b → (TX5 a).2.1 ≠ (TX5 b).2.1 := by decide +kernel
theorem tyX5_ok : ∀ k, k < 6 → parseFieldDescriptor (TX5 k).2.2.1 = some (tyX5 k) := by decide +kernel
abbrev cX5_init : ByteArray := prog_7_method_1_code
def yX5_init : MethodName := ⟨RX5, "<init>", "()V"⟩
abbrev cX5_become : ByteArray := prog_7_method_2_code
def yX5_become : MethodName := ⟨RX5, "become", "(LCampBook$Signatures;)V"⟩
def RX6 : String := "CampBook$Texts"
def TX6 : u_T := fun k => match k with
  | 0 => ("CampBook$Texts", "tasks", "I", false)
  | 1 => ("CampBook$Texts", "sorts", "[I", true)
  | 2 => ("CampBook$Texts", "leans", "[I", true)
  | 3 => ("CampBook$Texts", "badges", "I", false)
  | 4 => ("CampBook$Texts", "alls", "[I", true)
  | 5 => ("CampBook$Texts", "somes", "[I", true)
  | 6 => ("CampBook$Texts", "manys", "[I", true)
  | 7 => ("CampBook$Texts", "ages", "[I", true)
  | _ => ("CampBook$Texts", "others", "[I", true)
def tyX6 : Nat → FieldType := fun k => match k with
  | 0 => .int
  | 1 => .array .int
  | 2 => .array .int
  | 3 => .int
  | 4 => .array .int
  | 5 => .array .int
  | 6 => .array .int
  | 7 => .array .int
  | _ => .array .int
abbrev wsX60 : List Cond := u_ws RX6 TX6 9
theorem nmX6 : ∀ a, a < 9 → ∀ b, b < 9 → a ≠ b → (TX6 a).2.1 ≠ (TX6 b).2.1 := by decide +kernel
theorem tyX6_ok : ∀ k, k < 9 → parseFieldDescriptor (TX6 k).2.2.1 = some (tyX6 k) := by decide +kernel
abbrev cX6_init : ByteArray := prog_8_method_1_code
def yX6_init : MethodName := ⟨RX6, "<init>", "()V"⟩
abbrev cX6_become : ByteArray := prog_8_method_2_code
def yX6_become : MethodName := ⟨RX6, "become", "(LCampBook$Texts;)V"⟩
def RX7 : String := "CampBook"
def TX7 : u_T := fun k => match k with
  | 0 => ("CampBook", "book", "LCampBook$Book;", true)
  | 1 => ("CampBook", "kept", "LCampBook$Book;", true)
  | 2 => ("CampBook", "days", "LCampBook$Days;", true)
  | 3 => ("CampBook", "planner", "LCampBook$Planner;", true)
  | 4 => ("CampBook", "isKept", "Z", false)
  | 5 => ("CampBook", "isPlanOld", "Z", false)
  | _ => ("CampBook", "ratioNow", "I", false)
def tyX7 : Nat → FieldType := fun k => match k with
  | 0 => .object "CampBook$Book"
  | 1 => .object "CampBook$Book"
  | 2 => .object "CampBook$Days"
  | 3 => .object "CampBook$Planner"
  | 4 => .boolean
  | 5 => .boolean
  | _ => .int
abbrev wsX70 : List Cond := u_ws RX7 TX7 7
theorem nmX7 : ∀ a, a < 7 → ∀ b, b < 7 → a ≠ b → (TX7 a).2.1 ≠ (TX7 b).2.1 := by decide +kernel
theorem tyX7_ok : ∀ k, k < 7 → parseFieldDescriptor (TX7 k).2.2.1 = some (tyX7 k) := by decide +kernel
abbrev cX7_init : ByteArray := prog_1_method_1_code
def yX7_init : MethodName := ⟨RX7, "<init>", "()V"⟩
abbrev cX7_child : ByteArray := prog_1_method_2_code
def yX7_child : MethodName := ⟨RX7, "child", "(II)I"⟩
abbrev cX7_change : ByteArray := prog_1_method_3_code
def yX7_change : MethodName := ⟨RX7, "change", "(III)I"⟩
abbrev cX7_leader : ByteArray := prog_1_method_4_code
def yX7_leader : MethodName := ⟨RX7, "leader", "()I"⟩
abbrev cX7_paper : ByteArray := prog_1_method_5_code
def yX7_paper : MethodName := ⟨RX7, "paper", "(IIII)I"⟩
abbrev cX7_lose : ByteArray := prog_1_method_6_code
def yX7_lose : MethodName := ⟨RX7, "lose", "(II)I"⟩
abbrev cX7_task : ByteArray := prog_1_method_7_code
def yX7_task : MethodName := ⟨RX7, "task", "(II)I"⟩
abbrev cX7_badge : ByteArray := prog_1_method_8_code
def yX7_badge : MethodName := ⟨RX7, "badge", "(IIIII)I"⟩
abbrev cX7_sign : ByteArray := prog_1_method_9_code
def yX7_sign : MethodName := ⟨RX7, "sign", "(IIII)I"⟩
abbrev cX7_strike : ByteArray := prog_1_method_10_code
def yX7_strike : MethodName := ⟨RX7, "strike", "(I)I"⟩
abbrev cX7_of : ByteArray := prog_1_method_11_code
def yX7_of : MethodName := ⟨RX7, "of", "(II)I"⟩
abbrev cX7_done : ByteArray := prog_1_method_12_code
def yX7_done : MethodName := ⟨RX7, "done", "(II)I"⟩
abbrev cX7_held : ByteArray := prog_1_method_13_code
def yX7_held : MethodName := ⟨RX7, "held", "(II)I"⟩
abbrev cX7_lacks : ByteArray := prog_1_method_14_code
def yX7_lacks : MethodName := ⟨RX7, "lacks", "(III)I"⟩
abbrev cX7_badges : ByteArray := prog_1_method_15_code
def yX7_badges : MethodName := ⟨RX7, "badges", "(II)I"⟩
abbrev cX7_site : ByteArray := prog_1_method_16_code
def yX7_site : MethodName := ⟨RX7, "site", "(IZ)I"⟩
abbrev cX7_wish : ByteArray := prog_1_method_17_code
def yX7_wish : MethodName := ⟨RX7, "wish", "(IIII)I"⟩
abbrev cX7_free : ByteArray := prog_1_method_18_code
def yX7_free : MethodName := ⟨RX7, "free", "(II)I"⟩
abbrev cX7_ratio : ByteArray := prog_1_method_19_code
def yX7_ratio : MethodName := ⟨RX7, "ratio", "(I)I"⟩
abbrev cX7_plan : ByteArray := prog_1_method_20_code
def yX7_plan : MethodName := ⟨RX7, "plan", "(I)I"⟩
abbrev cX7_planned : ByteArray := prog_1_method_21_code
def yX7_planned : MethodName := ⟨RX7, "planned", "(I)I"⟩
abbrev cX7_many : ByteArray := prog_1_method_22_code
def yX7_many : MethodName := ⟨RX7, "many", "(I)I"⟩
abbrev cX7_keep : ByteArray := prog_1_method_23_code
def yX7_keep : MethodName := ⟨RX7, "keep", "()I"⟩
abbrev cX7_back : ByteArray := prog_1_method_24_code
def yX7_back : MethodName := ⟨RX7, "back", "()I"⟩
abbrev cX7_makePlan : ByteArray := prog_1_method_25_code
def yX7_makePlan : MethodName := ⟨RX7, "makePlan", "()V"⟩
abbrev cX7_isChild : ByteArray := prog_1_method_26_code
def yX7_isChild : MethodName := ⟨RX7, "isChild", "(I)Z"⟩
abbrev cX7_isLeader : ByteArray := prog_1_method_27_code
def yX7_isLeader : MethodName := ⟨RX7, "isLeader", "(I)Z"⟩
abbrev cX7_isTask : ByteArray := prog_1_method_28_code
def yX7_isTask : MethodName := ⟨RX7, "isTask", "(I)Z"⟩
abbrev cX7_isBadge : ByteArray := prog_1_method_29_code
def yX7_isBadge : MethodName := ⟨RX7, "isBadge", "(I)Z"⟩
abbrev cX7_isSignature : ByteArray := prog_1_method_30_code
def yX7_isSignature : MethodName := ⟨RX7, "isSignature", "(I)Z"⟩
abbrev cX7_isBelow : ByteArray := prog_1_method_31_code
def yX7_isBelow : MethodName := ⟨RX7, "isBelow", "(II)Z"⟩
abbrev cX7_isUpTo : ByteArray := prog_1_method_32_code
def yX7_isUpTo : MethodName := ⟨RX7, "isUpTo", "(II)Z"⟩
abbrev cX7_isDay : ByteArray := prog_1_method_33_code
def yX7_isDay : MethodName := ⟨RX7, "isDay", "(I)Z"⟩
abbrev cX7_isAge : ByteArray := prog_1_method_34_code
def yX7_isAge : MethodName := ⟨RX7, "isAge", "(I)Z"⟩
abbrev cX7_hasBit : ByteArray := prog_1_method_35_code
def yX7_hasBit : MethodName := ⟨RX7, "hasBit", "(II)Z"⟩
abbrev cX7_dayOrNone : ByteArray := prog_1_method_36_code
def yX7_dayOrNone : MethodName := ⟨RX7, "dayOrNone", "(I)I"⟩
abbrev cX7_replace : ByteArray := prog_1_method_37_code
def yX7_replace : MethodName := ⟨RX7, "replace", "([III)I"⟩
abbrev cX7_copyRow : ByteArray := prog_1_method_38_code
def yX7_copyRow : MethodName := ⟨RX7, "copyRow", "([I[I)V"⟩
abbrev cX7_copyMarks : ByteArray := prog_1_method_39_code
def yX7_copyMarks : MethodName := ⟨RX7, "copyMarks", "([Z[Z)V"⟩
def RX8 : String := "CampBookModel"
def TX8 : u_T := fun k => match k with
  | 0 => ("CampBookModel", "many", "[I", true)
  | 1 => ("CampBookModel", "ages", "[I", true)
  | 2 => ("CampBookModel", "patrols", "[I", true)
  | 3 => ("CampBookModel", "paperFrom", "[I", true)
  | 4 => ("CampBookModel", "paperTo", "[I", true)
  | 5 => ("CampBookModel", "frees", "[I", true)
  | 6 => ("CampBookModel", "sorts", "[I", true)
  | 7 => ("CampBookModel", "leans", "[I", true)
  | 8 => ("CampBookModel", "badges", "[I", true)
  | 9 => ("CampBookModel", "signed", "[I", true)
  | 10 => ("CampBookModel", "beds", "[I", true)
  | 11 => ("CampBookModel", "woods", "[I", true)
  | 12 => ("CampBookModel", "wishes", "[I", true)
  | 13 => ("CampBookModel", "ratio", "I", false)
  | 14 => ("CampBookModel", "isKept", "Z", false)
  | 15 => ("CampBookModel", "kept", "[I", true)
  | 16 => ("CampBookModel", "doneFrom", "[I", true)
  | 17 => ("CampBookModel", "heldFrom", "[I", true)
  | 18 => ("CampBookModel", "choice", "[I", true)
  | 19 => ("CampBookModel", "best", "[I", true)
  | 20 => ("CampBookModel", "sizes", "[I", true)
  | 21 => ("CampBookModel", "room", "[I", true)
  | 22 => ("CampBookModel", "bestWorth", "I", false)
  | 23 => ("CampBookModel", "bestMany", "I", false)
  | _ => ("CampBookModel", "at", "I", false)
def tyX8 : Nat → FieldType := fun k => match k with
  | 0 => .array .int
  | 1 => .array .int
  | 2 => .array .int
  | 3 => .array .int
  | 4 => .array .int
  | 5 => .array .int
  | 6 => .array .int
  | 7 => .array .int
  | 8 => .array .int
  | 9 => .array .int
  | 10 => .array .int
  | 11 => .array .int
  | 12 => .array .int
  | 13 => .int
  | 14 => .boolean
  | 15 => .array .int
  | 16 => .array .int
  | 17 => .array .int
  | 18 => .array .int
  | 19 => .array .int
  | 20 => .array .int
  | 21 => .array .int
  | 22 => .int
  | 23 => .int
  | _ => .int
abbrev wsX80 : List Cond := u_ws RX8 TX8 25
theorem nmX8 : ∀ a, a < 25 → ∀ b, b < 25 → a ≠ b → (TX8 a).2.1 ≠ (TX8 b).2.1 := by decide +kernel
theorem tyX8_ok : ∀ k, k < 25 → parseFieldDescriptor (TX8 k).2.2.1 = some (tyX8 k) := by decide +kernel
abbrev cX8_init : ByteArray := prog_10_method_1_code
def yX8_init : MethodName := ⟨RX8, "<init>", "()V"⟩
abbrev cX8_in : ByteArray := prog_10_method_2_code
def yX8_in : MethodName := ⟨RX8, "in", "(III)Z"⟩
abbrev cX8_is : ByteArray := prog_10_method_3_code
def yX8_is : MethodName := ⟨RX8, "is", "(II)Z"⟩
abbrev cX8_isDay : ByteArray := prog_10_method_4_code
def yX8_isDay : MethodName := ⟨RX8, "isDay", "(I)Z"⟩
abbrev cX8_isPatrol : ByteArray := prog_10_method_5_code
def yX8_isPatrol : MethodName := ⟨RX8, "isPatrol", "(I)Z"⟩
abbrev cX8_came : ByteArray := prog_10_method_6_code
def yX8_came : MethodName := ⟨RX8, "came", "(I)I"⟩
abbrev cX8_child : ByteArray := prog_10_method_7_code
def yX8_child : MethodName := ⟨RX8, "child", "(II)I"⟩
abbrev cX8_change : ByteArray := prog_10_method_8_code
def yX8_change : MethodName := ⟨RX8, "change", "(III)I"⟩
abbrev cX8_leader : ByteArray := prog_10_method_9_code
def yX8_leader : MethodName := ⟨RX8, "leader", "()I"⟩
abbrev cX8_paper : ByteArray := prog_10_method_10_code
def yX8_paper : MethodName := ⟨RX8, "paper", "(IIII)I"⟩
abbrev cX8_lose : ByteArray := prog_10_method_11_code
def yX8_lose : MethodName := ⟨RX8, "lose", "(II)I"⟩
abbrev cX8_task : ByteArray := prog_10_method_12_code
def yX8_task : MethodName := ⟨RX8, "task", "(II)I"⟩
abbrev cX8_badge : ByteArray := prog_10_method_13_code
def yX8_badge : MethodName := ⟨RX8, "badge", "(IIIII)I"⟩
abbrev cX8_sign : ByteArray := prog_10_method_14_code
def yX8_sign : MethodName := ⟨RX8, "sign", "(IIII)I"⟩
abbrev cX8_strike : ByteArray := prog_10_method_15_code
def yX8_strike : MethodName := ⟨RX8, "strike", "(I)I"⟩
abbrev cX8_counts : ByteArray := prog_10_method_16_code
def yX8_counts : MethodName := ⟨RX8, "counts", "(I)Z"⟩
abbrev cX8_findDone : ByteArray := prog_10_method_17_code
def yX8_findDone : MethodName := ⟨RX8, "findDone", "(I)V"⟩
abbrev cX8_isDone : ByteArray := prog_10_method_18_code
def yX8_isDone : MethodName := ⟨RX8, "isDone", "(I)Z"⟩
abbrev cX8_dayOf : ByteArray := prog_10_method_19_code
def yX8_dayOf : MethodName := ⟨RX8, "dayOf", "(II)I"⟩
abbrev cX8_later : ByteArray := prog_10_method_20_code
def yX8_later : MethodName := ⟨RX8, "later", "(II)I"⟩
abbrev cX8_ones : ByteArray := prog_10_method_21_code
def yX8_ones : MethodName := ⟨RX8, "ones", "(I)I"⟩
abbrev cX8_findHeld : ByteArray := prog_10_method_22_code
def yX8_findHeld : MethodName := ⟨RX8, "findHeld", "(I)V"⟩
abbrev cX8_of : ByteArray := prog_10_method_23_code
def yX8_of : MethodName := ⟨RX8, "of", "(II)I"⟩
abbrev cX8_done : ByteArray := prog_10_method_24_code
def yX8_done : MethodName := ⟨RX8, "done", "(II)I"⟩
abbrev cX8_held : ByteArray := prog_10_method_25_code
def yX8_held : MethodName := ⟨RX8, "held", "(II)I"⟩
abbrev cX8_lacks : ByteArray := prog_10_method_26_code
def yX8_lacks : MethodName := ⟨RX8, "lacks", "(III)I"⟩
abbrev cX8_badges : ByteArray := prog_10_method_27_code
def yX8_badges : MethodName := ⟨RX8, "badges", "(II)I"⟩
abbrev cX8_site : ByteArray := prog_10_method_28_code
def yX8_site : MethodName := ⟨RX8, "site", "(IZ)I"⟩
abbrev cX8_wish : ByteArray := prog_10_method_29_code
def yX8_wish : MethodName := ⟨RX8, "wish", "(IIII)I"⟩
abbrev cX8_free : ByteArray := prog_10_method_30_code
def yX8_free : MethodName := ⟨RX8, "free", "(II)I"⟩
abbrev cX8_ratio : ByteArray := prog_10_method_31_code
def yX8_ratio : MethodName := ⟨RX8, "ratio", "(I)I"⟩
abbrev cX8_sizeOf : ByteArray := prog_10_method_32_code
def yX8_sizeOf : MethodName := ⟨RX8, "sizeOf", "(I)I"⟩
abbrev cX8_fits : ByteArray := prog_10_method_33_code
def yX8_fits : MethodName := ⟨RX8, "fits", "(I)Z"⟩
abbrev cX8_worthOf : ByteArray := prog_10_method_34_code
def yX8_worthOf : MethodName := ⟨RX8, "worthOf", "(I)I"⟩
abbrev cX8_findPlan : ByteArray := prog_10_method_35_code
def yX8_findPlan : MethodName := ⟨RX8, "findPlan", "()V"⟩
abbrev cX8_takes : ByteArray := prog_10_method_36_code
def yX8_takes : MethodName := ⟨RX8, "takes", "()V"⟩
abbrev cX8_plan : ByteArray := prog_10_method_37_code
def yX8_plan : MethodName := ⟨RX8, "plan", "(I)I"⟩
abbrev cX8_planned : ByteArray := prog_10_method_38_code
def yX8_planned : MethodName := ⟨RX8, "planned", "(I)I"⟩
abbrev cX8_counting : ByteArray := prog_10_method_39_code
def yX8_counting : MethodName := ⟨RX8, "counting", "()I"⟩
abbrev cX8_holding : ByteArray := prog_10_method_40_code
def yX8_holding : MethodName := ⟨RX8, "holding", "()I"⟩
abbrev cX8_many : ByteArray := prog_10_method_41_code
def yX8_many : MethodName := ⟨RX8, "many", "(I)I"⟩
abbrev cX8_move : ByteArray := prog_10_method_42_code
def yX8_move : MethodName := ⟨RX8, "move", "([IIZ)V"⟩
abbrev cX8_moveAll : ByteArray := prog_10_method_43_code
def yX8_moveAll : MethodName := ⟨RX8, "moveAll", "(Z)V"⟩
abbrev cX8_keep : ByteArray := prog_10_method_44_code
def yX8_keep : MethodName := ⟨RX8, "keep", "()I"⟩
abbrev cX8_back : ByteArray := prog_10_method_45_code
def yX8_back : MethodName := ⟨RX8, "back", "()I"⟩
def RJ9 : String := "java/lang/Math"
def TJ9 : u_T := fun k => match k with
  | _ => ("", "", "", false)
def tyJ9 : Nat → FieldType := fun k => match k with
  | _ => .int
abbrev cJ9_max_7cf53 : ByteArray := prog_11_method_65_code
def yJ9_max_7cf53 : MethodName := ⟨RJ9, "max", "(II)I"⟩
abbrev cJ9_min_7cf53 : ByteArray := prog_11_method_69_code
def yJ9_min_7cf53 : MethodName := ⟨RJ9, "min", "(II)I"⟩
def RJ10 : String := "java/lang/System"
def TJ10 : u_T := fun k => match k with
  | _ => ("", "", "", false)
def tyJ10 : Nat → FieldType := fun k => match k with
  | _ => .int
def RJ7 : String := "java/util/Arrays"
def TJ7 : u_T := fun k => match k with
  | _ => ("", "", "", false)
def tyJ7 : Nat → FieldType := fun k => match k with
  | _ => .int
abbrev cJ7_fill_53178 : ByteArray := prog_13_method_103_code
def yJ7_fill_53178 : MethodName := ⟨RJ7, "fill", "([II)V"⟩
def RL : String := "CampBookLaw"
abbrev cL_law : ByteArray := code
def yL_law : MethodName := ⟨RL, "law", "([I)Z"⟩
abbrev vwCl : List vw_C := [(RX0, TX0, 4), (RX1, TX1, 4), (RX2, TX2, 2), (RX3, TX3, 7), (RX4, TX4, 10), (RX5, TX5, 6), (RX6, TX6, 9), (RX7, TX7, 7), (RX8, TX8, 25)]
