-- ===== PART A: goes FIRST, ahead of the names: the tables' words, and 'selects' of the private methods out of them =====
/-- a private method of a class that the tables say can be made, by its rows of tables_1 -/
def lw_okq (q : MethodName × Nat) : Prop := (q.1.cls ≠ "java/lang/invoke/MethodHandle" ∧ q.1.cls ≠ "java/lang/invoke/VarHandle") ∧ Cond.instantiable q.1.cls q.2 ∈ tables_1 ∧ Cond.privateMethod q.1 ∈ tables_1 ∧ Cond.instanceMethod q.1 ∈ tables_1
theorem lw_p0 : lw_okq (⟨"SwallowCount$Text", "append", "(I)Z"⟩, 5) := ⟨⟨by decide +kernel, by decide +kernel⟩, List.mem_of_getElem? (i := 22) (by decide +kernel), List.mem_of_getElem? (i := 262) (by decide +kernel), List.mem_of_getElem? (i := 263) (by decide +kernel)⟩
theorem lw_p1 : lw_okq (⟨"SwallowCount$Text", "readInto", "(LSwallowCount$Land;)Z"⟩, 5) := ⟨⟨by decide +kernel, by decide +kernel⟩, List.mem_of_getElem? (i := 22) (by decide +kernel), List.mem_of_getElem? (i := 271) (by decide +kernel), List.mem_of_getElem? (i := 272) (by decide +kernel)⟩
theorem lw_p2 : lw_okq (⟨"SwallowCount$Land", "clear", "()V"⟩, 11) := ⟨⟨by decide +kernel, by decide +kernel⟩, List.mem_of_getElem? (i := 48) (by decide +kernel), List.mem_of_getElem? (i := 275) (by decide +kernel), List.mem_of_getElem? (i := 276) (by decide +kernel)⟩
theorem lw_p3 : lw_okq (⟨"SwallowCount$Text", "nextLetter", "()I"⟩, 5) := ⟨⟨by decide +kernel, by decide +kernel⟩, List.mem_of_getElem? (i := 22) (by decide +kernel), List.mem_of_getElem? (i := 279) (by decide +kernel), List.mem_of_getElem? (i := 280) (by decide +kernel)⟩
theorem lw_p4 : lw_okq (⟨"SwallowCount$Text", "readClause", "(LSwallowCount$Land;)Z"⟩, 5) := ⟨⟨by decide +kernel, by decide +kernel⟩, List.mem_of_getElem? (i := 22) (by decide +kernel), List.mem_of_getElem? (i := 283) (by decide +kernel), List.mem_of_getElem? (i := 284) (by decide +kernel)⟩
theorem lw_p5 : lw_okq (⟨"SwallowCount$Text", "faulty", "(II)Z"⟩, 5) := ⟨⟨by decide +kernel, by decide +kernel⟩, List.mem_of_getElem? (i := 22) (by decide +kernel), List.mem_of_getElem? (i := 287) (by decide +kernel), List.mem_of_getElem? (i := 288) (by decide +kernel)⟩
theorem lw_p6 : lw_okq (⟨"SwallowCount$Text", "readTreaty", "(LSwallowCount$Land;)Z"⟩, 5) := ⟨⟨by decide +kernel, by decide +kernel⟩, List.mem_of_getElem? (i := 22) (by decide +kernel), List.mem_of_getElem? (i := 291) (by decide +kernel), List.mem_of_getElem? (i := 292) (by decide +kernel)⟩
theorem lw_p7 : lw_okq (⟨"SwallowCount$Text", "readNumber", "(II)I"⟩, 5) := ⟨⟨by decide +kernel, by decide +kernel⟩, List.mem_of_getElem? (i := 22) (by decide +kernel), List.mem_of_getElem? (i := 295) (by decide +kernel), List.mem_of_getElem? (i := 296) (by decide +kernel)⟩
theorem lw_p8 : lw_okq (⟨"SwallowCount$Text", "readEndOfClause", "()Z"⟩, 5) := ⟨⟨by decide +kernel, by decide +kernel⟩, List.mem_of_getElem? (i := 22) (by decide +kernel), List.mem_of_getElem? (i := 299) (by decide +kernel), List.mem_of_getElem? (i := 300) (by decide +kernel)⟩
theorem lw_p9 : lw_okq (⟨"SwallowCount$Text", "readBarn", "(LSwallowCount$Land;)Z"⟩, 5) := ⟨⟨by decide +kernel, by decide +kernel⟩, List.mem_of_getElem? (i := 22) (by decide +kernel), List.mem_of_getElem? (i := 303) (by decide +kernel), List.mem_of_getElem? (i := 304) (by decide +kernel)⟩
theorem lw_p10 : lw_okq (⟨"SwallowCount$Text", "readNests", "(I)I"⟩, 5) := ⟨⟨by decide +kernel, by decide +kernel⟩, List.mem_of_getElem? (i := 22) (by decide +kernel), List.mem_of_getElem? (i := 307) (by decide +kernel), List.mem_of_getElem? (i := 308) (by decide +kernel)⟩
theorem lw_p11 : lw_okq (⟨"SwallowCount$Text", "readRains", "(LSwallowCount$Land;)Z"⟩, 5) := ⟨⟨by decide +kernel, by decide +kernel⟩, List.mem_of_getElem? (i := 22) (by decide +kernel), List.mem_of_getElem? (i := 311) (by decide +kernel), List.mem_of_getElem? (i := 312) (by decide +kernel)⟩
theorem lw_p12 : lw_okq (⟨"SwallowCount$Flock", "settle", "(LSwallowCount$Land;)V"⟩, 7) := ⟨⟨by decide +kernel, by decide +kernel⟩, List.mem_of_getElem? (i := 113) (by decide +kernel), List.mem_of_getElem? (i := 315) (by decide +kernel), List.mem_of_getElem? (i := 316) (by decide +kernel)⟩
theorem lw_p13 : lw_okq (⟨"SwallowCount$History", "clear", "()V"⟩, 3) := ⟨⟨by decide +kernel, by decide +kernel⟩, List.mem_of_getElem? (i := 153) (by decide +kernel), List.mem_of_getElem? (i := 325) (by decide +kernel), List.mem_of_getElem? (i := 326) (by decide +kernel)⟩
theorem lw_p14 : lw_okq (⟨"SwallowCount", "forgetEntries", "()V"⟩, 15) := ⟨⟨by decide +kernel, by decide +kernel⟩, List.mem_of_getElem? (i := 14) (by decide +kernel), List.mem_of_getElem? (i := 329) (by decide +kernel), List.mem_of_getElem? (i := 330) (by decide +kernel)⟩
theorem lw_p15 : lw_okq (⟨"SwallowCount$Land", "rainOf", "(I)I"⟩, 11) := ⟨⟨by decide +kernel, by decide +kernel⟩, List.mem_of_getElem? (i := 48) (by decide +kernel), List.mem_of_getElem? (i := 341) (by decide +kernel), List.mem_of_getElem? (i := 342) (by decide +kernel)⟩
def lw_privs_1 : List (MethodName × Nat) := [(⟨"SwallowCount$Text", "append", "(I)Z"⟩, 5), (⟨"SwallowCount$Text", "readInto", "(LSwallowCount$Land;)Z"⟩, 5), (⟨"SwallowCount$Land", "clear", "()V"⟩, 11), (⟨"SwallowCount$Text", "nextLetter", "()I"⟩, 5), (⟨"SwallowCount$Text", "readClause", "(LSwallowCount$Land;)Z"⟩, 5), (⟨"SwallowCount$Text", "faulty", "(II)Z"⟩, 5), (⟨"SwallowCount$Text", "readTreaty", "(LSwallowCount$Land;)Z"⟩, 5), (⟨"SwallowCount$Text", "readNumber", "(II)I"⟩, 5), (⟨"SwallowCount$Text", "readEndOfClause", "()Z"⟩, 5), (⟨"SwallowCount$Text", "readBarn", "(LSwallowCount$Land;)Z"⟩, 5), (⟨"SwallowCount$Text", "readNests", "(I)I"⟩, 5), (⟨"SwallowCount$Text", "readRains", "(LSwallowCount$Land;)Z"⟩, 5), (⟨"SwallowCount$Flock", "settle", "(LSwallowCount$Land;)V"⟩, 7), (⟨"SwallowCount$History", "clear", "()V"⟩, 3), (⟨"SwallowCount", "forgetEntries", "()V"⟩, 15), (⟨"SwallowCount$Land", "rainOf", "(I)I"⟩, 11)]
theorem lw_r1 : ∀ q ∈ lw_privs_1, lw_okq q := List.forall_mem_cons.mpr ⟨lw_p0, List.forall_mem_cons.mpr ⟨lw_p1, List.forall_mem_cons.mpr ⟨lw_p2, List.forall_mem_cons.mpr ⟨lw_p3, List.forall_mem_cons.mpr ⟨lw_p4, List.forall_mem_cons.mpr ⟨lw_p5, List.forall_mem_cons.mpr ⟨lw_p6, List.forall_mem_cons.mpr ⟨lw_p7, List.forall_mem_cons.mpr ⟨lw_p8, List.forall_mem_cons.mpr ⟨lw_p9, List.forall_mem_cons.mpr ⟨lw_p10, List.forall_mem_cons.mpr ⟨lw_p11, List.forall_mem_cons.mpr ⟨lw_p12, List.forall_mem_cons.mpr ⟨lw_p13, List.forall_mem_cons.mpr ⟨lw_p14, List.forall_mem_cons.mpr ⟨lw_p15, fun _ h => absurd h List.not_mem_nil⟩⟩⟩⟩⟩⟩⟩⟩⟩⟩⟩⟩⟩⟩⟩⟩
theorem lw_p16 : lw_okq (⟨"SwallowCount$Land", "allBarns", "()I"⟩, 11) := ⟨⟨by decide +kernel, by decide +kernel⟩, List.mem_of_getElem? (i := 48) (by decide +kernel), List.mem_of_getElem? (i := 345) (by decide +kernel), List.mem_of_getElem? (i := 346) (by decide +kernel)⟩
theorem lw_p17 : lw_okq (⟨"SwallowCount$Land", "hasBarn", "(I)Z"⟩, 11) := ⟨⟨by decide +kernel, by decide +kernel⟩, List.mem_of_getElem? (i := 48) (by decide +kernel), List.mem_of_getElem? (i := 356) (by decide +kernel), List.mem_of_getElem? (i := 357) (by decide +kernel)⟩
theorem lw_p18 : lw_okq (⟨"SwallowCount$Flock", "isShut", "(I)Z"⟩, 7) := ⟨⟨by decide +kernel, by decide +kernel⟩, List.mem_of_getElem? (i := 113) (by decide +kernel), List.mem_of_getElem? (i := 361) (by decide +kernel), List.mem_of_getElem? (i := 362) (by decide +kernel)⟩
theorem lw_p19 : lw_okq (⟨"SwallowCount", "refusalOfYears", "(I)I"⟩, 15) := ⟨⟨by decide +kernel, by decide +kernel⟩, List.mem_of_getElem? (i := 14) (by decide +kernel), List.mem_of_getElem? (i := 369) (by decide +kernel), List.mem_of_getElem? (i := 370) (by decide +kernel)⟩
theorem lw_p20 : lw_okq (⟨"SwallowCount$History", "remember", "(LSwallowCount$Flock;)V"⟩, 3) := ⟨⟨by decide +kernel, by decide +kernel⟩, List.mem_of_getElem? (i := 153) (by decide +kernel), List.mem_of_getElem? (i := 374) (by decide +kernel), List.mem_of_getElem? (i := 375) (by decide +kernel)⟩
theorem lw_p21 : lw_okq (⟨"SwallowCount$Shelf", "put", "(ILSwallowCount$Flock;)V"⟩, 2) := ⟨⟨by decide +kernel, by decide +kernel⟩, List.mem_of_getElem? (i := 159) (by decide +kernel), List.mem_of_getElem? (i := 378) (by decide +kernel), List.mem_of_getElem? (i := 379) (by decide +kernel)⟩
theorem lw_p22 : lw_okq (⟨"SwallowCount$Flock", "passYear", "(LSwallowCount$Land;I)V"⟩, 7) := ⟨⟨by decide +kernel, by decide +kernel⟩, List.mem_of_getElem? (i := 113) (by decide +kernel), List.mem_of_getElem? (i := 386) (by decide +kernel), List.mem_of_getElem? (i := 387) (by decide +kernel)⟩
theorem lw_p23 : lw_okq (⟨"SwallowCount$Flock", "takeByCat", "(I)V"⟩, 7) := ⟨⟨by decide +kernel, by decide +kernel⟩, List.mem_of_getElem? (i := 113) (by decide +kernel), List.mem_of_getElem? (i := 390) (by decide +kernel), List.mem_of_getElem? (i := 391) (by decide +kernel)⟩
theorem lw_p24 : lw_okq (⟨"SwallowCount$Flock", "turnOut", "(III)V"⟩, 7) := ⟨⟨by decide +kernel, by decide +kernel⟩, List.mem_of_getElem? (i := 113) (by decide +kernel), List.mem_of_getElem? (i := 395) (by decide +kernel), List.mem_of_getElem? (i := 396) (by decide +kernel)⟩
theorem lw_p25 : lw_okq (⟨"SwallowCount$Flock", "youngOf", "(III)I"⟩, 7) := ⟨⟨by decide +kernel, by decide +kernel⟩, List.mem_of_getElem? (i := 113) (by decide +kernel), List.mem_of_getElem? (i := 400) (by decide +kernel), List.mem_of_getElem? (i := 401) (by decide +kernel)⟩
theorem lw_p26 : lw_okq (⟨"SwallowCount$Flock", "takeIn", "(III)V"⟩, 7) := ⟨⟨by decide +kernel, by decide +kernel⟩, List.mem_of_getElem? (i := 113) (by decide +kernel), List.mem_of_getElem? (i := 404) (by decide +kernel), List.mem_of_getElem? (i := 405) (by decide +kernel)⟩
theorem lw_p27 : lw_okq (⟨"SwallowCount", "canCarry", "(III)Z"⟩, 15) := ⟨⟨by decide +kernel, by decide +kernel⟩, List.mem_of_getElem? (i := 14) (by decide +kernel), List.mem_of_getElem? (i := 417) (by decide +kernel), List.mem_of_getElem? (i := 418) (by decide +kernel)⟩
theorem lw_p28 : lw_okq (⟨"SwallowCount$Flock", "carry", "(III)V"⟩, 7) := ⟨⟨by decide +kernel, by decide +kernel⟩, List.mem_of_getElem? (i := 113) (by decide +kernel), List.mem_of_getElem? (i := 421) (by decide +kernel), List.mem_of_getElem? (i := 422) (by decide +kernel)⟩
theorem lw_p29 : lw_okq (⟨"SwallowCount$Flock", "bringNearer", "(II)V"⟩, 7) := ⟨⟨by decide +kernel, by decide +kernel⟩, List.mem_of_getElem? (i := 113) (by decide +kernel), List.mem_of_getElem? (i := 429) (by decide +kernel), List.mem_of_getElem? (i := 430) (by decide +kernel)⟩
theorem lw_p30 : lw_okq (⟨"SwallowCount", "drawRain", "()I"⟩, 15) := ⟨⟨by decide +kernel, by decide +kernel⟩, List.mem_of_getElem? (i := 14) (by decide +kernel), List.mem_of_getElem? (i := 441) (by decide +kernel), List.mem_of_getElem? (i := 442) (by decide +kernel)⟩
theorem lw_p31 : lw_okq (⟨"SwallowCount$History", "bringBack", "(LSwallowCount$Flock;)Z"⟩, 3) := ⟨⟨by decide +kernel, by decide +kernel⟩, List.mem_of_getElem? (i := 153) (by decide +kernel), List.mem_of_getElem? (i := 452) (by decide +kernel), List.mem_of_getElem? (i := 453) (by decide +kernel)⟩
def lw_privs_2 : List (MethodName × Nat) := [(⟨"SwallowCount$Land", "allBarns", "()I"⟩, 11), (⟨"SwallowCount$Land", "hasBarn", "(I)Z"⟩, 11), (⟨"SwallowCount$Flock", "isShut", "(I)Z"⟩, 7), (⟨"SwallowCount", "refusalOfYears", "(I)I"⟩, 15), (⟨"SwallowCount$History", "remember", "(LSwallowCount$Flock;)V"⟩, 3), (⟨"SwallowCount$Shelf", "put", "(ILSwallowCount$Flock;)V"⟩, 2), (⟨"SwallowCount$Flock", "passYear", "(LSwallowCount$Land;I)V"⟩, 7), (⟨"SwallowCount$Flock", "takeByCat", "(I)V"⟩, 7), (⟨"SwallowCount$Flock", "turnOut", "(III)V"⟩, 7), (⟨"SwallowCount$Flock", "youngOf", "(III)I"⟩, 7), (⟨"SwallowCount$Flock", "takeIn", "(III)V"⟩, 7), (⟨"SwallowCount", "canCarry", "(III)Z"⟩, 15), (⟨"SwallowCount$Flock", "carry", "(III)V"⟩, 7), (⟨"SwallowCount$Flock", "bringNearer", "(II)V"⟩, 7), (⟨"SwallowCount", "drawRain", "()I"⟩, 15), (⟨"SwallowCount$History", "bringBack", "(LSwallowCount$Flock;)Z"⟩, 3)]
theorem lw_r2 : ∀ q ∈ lw_privs_2, lw_okq q := List.forall_mem_cons.mpr ⟨lw_p16, List.forall_mem_cons.mpr ⟨lw_p17, List.forall_mem_cons.mpr ⟨lw_p18, List.forall_mem_cons.mpr ⟨lw_p19, List.forall_mem_cons.mpr ⟨lw_p20, List.forall_mem_cons.mpr ⟨lw_p21, List.forall_mem_cons.mpr ⟨lw_p22, List.forall_mem_cons.mpr ⟨lw_p23, List.forall_mem_cons.mpr ⟨lw_p24, List.forall_mem_cons.mpr ⟨lw_p25, List.forall_mem_cons.mpr ⟨lw_p26, List.forall_mem_cons.mpr ⟨lw_p27, List.forall_mem_cons.mpr ⟨lw_p28, List.forall_mem_cons.mpr ⟨lw_p29, List.forall_mem_cons.mpr ⟨lw_p30, List.forall_mem_cons.mpr ⟨lw_p31, fun _ h => absurd h List.not_mem_nil⟩⟩⟩⟩⟩⟩⟩⟩⟩⟩⟩⟩⟩⟩⟩⟩
theorem lw_p32 : lw_okq (⟨"SwallowCount$Shelf", "take", "(ILSwallowCount$Flock;)V"⟩, 2) := ⟨⟨by decide +kernel, by decide +kernel⟩, List.mem_of_getElem? (i := 159) (by decide +kernel), List.mem_of_getElem? (i := 456) (by decide +kernel), List.mem_of_getElem? (i := 457) (by decide +kernel)⟩
theorem lw_p33 : lw_okq (⟨"SwallowCount$Land", "hasCounty", "(I)Z"⟩, 11) := ⟨⟨by decide +kernel, by decide +kernel⟩, List.mem_of_getElem? (i := 48) (by decide +kernel), List.mem_of_getElem? (i := 464) (by decide +kernel), List.mem_of_getElem? (i := 465) (by decide +kernel)⟩
theorem lw_p34 : lw_okq (⟨"SwallowCount$Flock", "copyFrom", "(LSwallowCount$Flock;)V"⟩, 7) := ⟨⟨by decide +kernel, by decide +kernel⟩, List.mem_of_getElem? (i := 113) (by decide +kernel), List.mem_of_getElem? (i := 468) (by decide +kernel), List.mem_of_getElem? (i := 469) (by decide +kernel)⟩
theorem lw_p35 : lw_okq (⟨"SwallowCount", "passTrialYear", "()V"⟩, 15) := ⟨⟨by decide +kernel, by decide +kernel⟩, List.mem_of_getElem? (i := 14) (by decide +kernel), List.mem_of_getElem? (i := 472) (by decide +kernel), List.mem_of_getElem? (i := 473) (by decide +kernel)⟩
theorem lw_p36 : lw_okq (⟨"SwallowCount", "soulsOf", "(LSwallowCount$Flock;I)I"⟩, 15) := ⟨⟨by decide +kernel, by decide +kernel⟩, List.mem_of_getElem? (i := 14) (by decide +kernel), List.mem_of_getElem? (i := 476) (by decide +kernel), List.mem_of_getElem? (i := 477) (by decide +kernel)⟩
theorem lw_p37 : lw_okq (⟨"SwallowCount$Land", "barnsOf", "(I)I"⟩, 11) := ⟨⟨by decide +kernel, by decide +kernel⟩, List.mem_of_getElem? (i := 48) (by decide +kernel), List.mem_of_getElem? (i := 480) (by decide +kernel), List.mem_of_getElem? (i := 481) (by decide +kernel)⟩
theorem lw_p38 : lw_okq (⟨"SwallowCount$Land", "seatsFor", "(I)I"⟩, 11) := ⟨⟨by decide +kernel, by decide +kernel⟩, List.mem_of_getElem? (i := 48) (by decide +kernel), List.mem_of_getElem? (i := 484) (by decide +kernel), List.mem_of_getElem? (i := 485) (by decide +kernel)⟩
theorem lw_p39 : lw_okq (⟨"SwallowCount$Land", "menFor", "(I)I"⟩, 11) := ⟨⟨by decide +kernel, by decide +kernel⟩, List.mem_of_getElem? (i := 48) (by decide +kernel), List.mem_of_getElem? (i := 488) (by decide +kernel), List.mem_of_getElem? (i := 489) (by decide +kernel)⟩
theorem lw_p40 : lw_okq (⟨"SwallowCount", "leavingServes", "(IIII)Z"⟩, 15) := ⟨⟨by decide +kernel, by decide +kernel⟩, List.mem_of_getElem? (i := 14) (by decide +kernel), List.mem_of_getElem? (i := 502) (by decide +kernel), List.mem_of_getElem? (i := 503) (by decide +kernel)⟩
theorem lw_p41 : lw_okq (⟨"SwallowCount", "trialSeats", "(I)I"⟩, 15) := ⟨⟨by decide +kernel, by decide +kernel⟩, List.mem_of_getElem? (i := 14) (by decide +kernel), List.mem_of_getElem? (i := 506) (by decide +kernel), List.mem_of_getElem? (i := 507) (by decide +kernel)⟩
theorem lw_p42 : lw_okq (⟨"SwallowCount", "playAllPairs", "(II)V"⟩, 15) := ⟨⟨by decide +kernel, by decide +kernel⟩, List.mem_of_getElem? (i := 14) (by decide +kernel), List.mem_of_getElem? (i := 518) (by decide +kernel), List.mem_of_getElem? (i := 519) (by decide +kernel)⟩
theorem lw_p43 : lw_okq (⟨"SwallowCount", "digPools", "(II)V"⟩, 15) := ⟨⟨by decide +kernel, by decide +kernel⟩, List.mem_of_getElem? (i := 14) (by decide +kernel), List.mem_of_getElem? (i := 522) (by decide +kernel), List.mem_of_getElem? (i := 523) (by decide +kernel)⟩
theorem lw_p44 : lw_okq (⟨"SwallowCount", "makeSmoke", "(II)V"⟩, 15) := ⟨⟨by decide +kernel, by decide +kernel⟩, List.mem_of_getElem? (i := 14) (by decide +kernel), List.mem_of_getElem? (i := 526) (by decide +kernel), List.mem_of_getElem? (i := 527) (by decide +kernel)⟩
theorem lw_p45 : lw_okq (⟨"SwallowCount", "nobodyWouldLeave", "(II)Z"⟩, 15) := ⟨⟨by decide +kernel, by decide +kernel⟩, List.mem_of_getElem? (i := 14) (by decide +kernel), List.mem_of_getElem? (i := 530) (by decide +kernel), List.mem_of_getElem? (i := 531) (by decide +kernel)⟩
theorem lw_p46 : lw_okq (⟨"SwallowCount", "gainOfFirst", "(II)I"⟩, 15) := ⟨⟨by decide +kernel, by decide +kernel⟩, List.mem_of_getElem? (i := 14) (by decide +kernel), List.mem_of_getElem? (i := 534) (by decide +kernel), List.mem_of_getElem? (i := 535) (by decide +kernel)⟩
theorem lw_p47 : lw_okq (⟨"SwallowCount", "gainOfOther", "(II)I"⟩, 15) := ⟨⟨by decide +kernel, by decide +kernel⟩, List.mem_of_getElem? (i := 14) (by decide +kernel), List.mem_of_getElem? (i := 538) (by decide +kernel), List.mem_of_getElem? (i := 539) (by decide +kernel)⟩
def lw_privs_3 : List (MethodName × Nat) := [(⟨"SwallowCount$Shelf", "take", "(ILSwallowCount$Flock;)V"⟩, 2), (⟨"SwallowCount$Land", "hasCounty", "(I)Z"⟩, 11), (⟨"SwallowCount$Flock", "copyFrom", "(LSwallowCount$Flock;)V"⟩, 7), (⟨"SwallowCount", "passTrialYear", "()V"⟩, 15), (⟨"SwallowCount", "soulsOf", "(LSwallowCount$Flock;I)I"⟩, 15), (⟨"SwallowCount$Land", "barnsOf", "(I)I"⟩, 11), (⟨"SwallowCount$Land", "seatsFor", "(I)I"⟩, 11), (⟨"SwallowCount$Land", "menFor", "(I)I"⟩, 11), (⟨"SwallowCount", "leavingServes", "(IIII)Z"⟩, 15), (⟨"SwallowCount", "trialSeats", "(I)I"⟩, 15), (⟨"SwallowCount", "playAllPairs", "(II)V"⟩, 15), (⟨"SwallowCount", "digPools", "(II)V"⟩, 15), (⟨"SwallowCount", "makeSmoke", "(II)V"⟩, 15), (⟨"SwallowCount", "nobodyWouldLeave", "(II)Z"⟩, 15), (⟨"SwallowCount", "gainOfFirst", "(II)I"⟩, 15), (⟨"SwallowCount", "gainOfOther", "(II)I"⟩, 15)]
theorem lw_r3 : ∀ q ∈ lw_privs_3, lw_okq q := List.forall_mem_cons.mpr ⟨lw_p32, List.forall_mem_cons.mpr ⟨lw_p33, List.forall_mem_cons.mpr ⟨lw_p34, List.forall_mem_cons.mpr ⟨lw_p35, List.forall_mem_cons.mpr ⟨lw_p36, List.forall_mem_cons.mpr ⟨lw_p37, List.forall_mem_cons.mpr ⟨lw_p38, List.forall_mem_cons.mpr ⟨lw_p39, List.forall_mem_cons.mpr ⟨lw_p40, List.forall_mem_cons.mpr ⟨lw_p41, List.forall_mem_cons.mpr ⟨lw_p42, List.forall_mem_cons.mpr ⟨lw_p43, List.forall_mem_cons.mpr ⟨lw_p44, List.forall_mem_cons.mpr ⟨lw_p45, List.forall_mem_cons.mpr ⟨lw_p46, List.forall_mem_cons.mpr ⟨lw_p47, fun _ h => absurd h List.not_mem_nil⟩⟩⟩⟩⟩⟩⟩⟩⟩⟩⟩⟩⟩⟩⟩⟩
theorem lw_p48 : lw_okq (⟨"SwallowCount", "findLeastMud", "(I)I"⟩, 15) := ⟨⟨by decide +kernel, by decide +kernel⟩, List.mem_of_getElem? (i := 14) (by decide +kernel), List.mem_of_getElem? (i := 546) (by decide +kernel), List.mem_of_getElem? (i := 547) (by decide +kernel)⟩
theorem lw_p49 : lw_okq (⟨"SwallowCount", "seatsWithMud", "(I)I"⟩, 15) := ⟨⟨by decide +kernel, by decide +kernel⟩, List.mem_of_getElem? (i := 14) (by decide +kernel), List.mem_of_getElem? (i := 551) (by decide +kernel), List.mem_of_getElem? (i := 552) (by decide +kernel)⟩
theorem lw_p50 : lw_okq (⟨"SwallowCount", "usefulMud", "(II)I"⟩, 15) := ⟨⟨by decide +kernel, by decide +kernel⟩, List.mem_of_getElem? (i := 14) (by decide +kernel), List.mem_of_getElem? (i := 558) (by decide +kernel), List.mem_of_getElem? (i := 559) (by decide +kernel)⟩
theorem lw_p51 : lw_okq (⟨"SwallowCount", "votesOf", "(I)I"⟩, 15) := ⟨⟨by decide +kernel, by decide +kernel⟩, List.mem_of_getElem? (i := 14) (by decide +kernel), List.mem_of_getElem? (i := 567) (by decide +kernel), List.mem_of_getElem? (i := 568) (by decide +kernel)⟩
theorem lw_p52 : lw_okq (⟨"SwallowCount$Entries", "add", "(II)I"⟩, 4) := ⟨⟨by decide +kernel, by decide +kernel⟩, List.mem_of_getElem? (i := 188) (by decide +kernel), List.mem_of_getElem? (i := 585) (by decide +kernel), List.mem_of_getElem? (i := 586) (by decide +kernel)⟩
theorem lw_p53 : lw_okq (⟨"SwallowCount", "wouldExplain", "(III)Z"⟩, 15) := ⟨⟨by decide +kernel, by decide +kernel⟩, List.mem_of_getElem? (i := 14) (by decide +kernel), List.mem_of_getElem? (i := 594) (by decide +kernel), List.mem_of_getElem? (i := 595) (by decide +kernel)⟩
theorem lw_p54 : lw_okq (⟨"SwallowCount", "leastIn", "(I)I"⟩, 15) := ⟨⟨by decide +kernel, by decide +kernel⟩, List.mem_of_getElem? (i := 14) (by decide +kernel), List.mem_of_getElem? (i := 606) (by decide +kernel), List.mem_of_getElem? (i := 607) (by decide +kernel)⟩
theorem lw_p55 : lw_okq (⟨"SwallowCount", "mostIn", "(I)I"⟩, 15) := ⟨⟨by decide +kernel, by decide +kernel⟩, List.mem_of_getElem? (i := 14) (by decide +kernel), List.mem_of_getElem? (i := 611) (by decide +kernel), List.mem_of_getElem? (i := 612) (by decide +kernel)⟩
theorem lw_p56 : lw_okq (⟨"SwallowCountModel", "here", "()I"⟩, 46) := ⟨⟨by decide +kernel, by decide +kernel⟩, List.mem_of_getElem? (i := 645) (by decide +kernel), List.mem_of_getElem? (i := 805) (by decide +kernel), List.mem_of_getElem? (i := 806) (by decide +kernel)⟩
theorem lw_p57 : lw_okq (⟨"SwallowCountModel", "takeClause", "()I"⟩, 46) := ⟨⟨by decide +kernel, by decide +kernel⟩, List.mem_of_getElem? (i := 645) (by decide +kernel), List.mem_of_getElem? (i := 809) (by decide +kernel), List.mem_of_getElem? (i := 810) (by decide +kernel)⟩
theorem lw_p58 : lw_okq (⟨"SwallowCountModel", "fails", "(II)I"⟩, 46) := ⟨⟨by decide +kernel, by decide +kernel⟩, List.mem_of_getElem? (i := 645) (by decide +kernel), List.mem_of_getElem? (i := 813) (by decide +kernel), List.mem_of_getElem? (i := 814) (by decide +kernel)⟩
theorem lw_p59 : lw_okq (⟨"SwallowCountModel", "takeTreaty", "()I"⟩, 46) := ⟨⟨by decide +kernel, by decide +kernel⟩, List.mem_of_getElem? (i := 645) (by decide +kernel), List.mem_of_getElem? (i := 817) (by decide +kernel), List.mem_of_getElem? (i := 818) (by decide +kernel)⟩
theorem lw_p60 : lw_okq (⟨"SwallowCountModel", "into", "([IIII)I"⟩, 46) := ⟨⟨by decide +kernel, by decide +kernel⟩, List.mem_of_getElem? (i := 645) (by decide +kernel), List.mem_of_getElem? (i := 821) (by decide +kernel), List.mem_of_getElem? (i := 822) (by decide +kernel)⟩
theorem lw_p61 : lw_okq (⟨"SwallowCountModel", "takeNumber", "(II)I"⟩, 46) := ⟨⟨by decide +kernel, by decide +kernel⟩, List.mem_of_getElem? (i := 645) (by decide +kernel), List.mem_of_getElem? (i := 825) (by decide +kernel), List.mem_of_getElem? (i := 826) (by decide +kernel)⟩
theorem lw_p62 : lw_okq (⟨"SwallowCountModel", "takeBarn", "()I"⟩, 46) := ⟨⟨by decide +kernel, by decide +kernel⟩, List.mem_of_getElem? (i := 645) (by decide +kernel), List.mem_of_getElem? (i := 831) (by decide +kernel), List.mem_of_getElem? (i := 832) (by decide +kernel)⟩
theorem lw_p63 : lw_okq (⟨"SwallowCountModel", "takeRains", "()I"⟩, 46) := ⟨⟨by decide +kernel, by decide +kernel⟩, List.mem_of_getElem? (i := 645) (by decide +kernel), List.mem_of_getElem? (i := 835) (by decide +kernel), List.mem_of_getElem? (i := 836) (by decide +kernel)⟩
def lw_privs_4 : List (MethodName × Nat) := [(⟨"SwallowCount", "findLeastMud", "(I)I"⟩, 15), (⟨"SwallowCount", "seatsWithMud", "(I)I"⟩, 15), (⟨"SwallowCount", "usefulMud", "(II)I"⟩, 15), (⟨"SwallowCount", "votesOf", "(I)I"⟩, 15), (⟨"SwallowCount$Entries", "add", "(II)I"⟩, 4), (⟨"SwallowCount", "wouldExplain", "(III)Z"⟩, 15), (⟨"SwallowCount", "leastIn", "(I)I"⟩, 15), (⟨"SwallowCount", "mostIn", "(I)I"⟩, 15), (⟨"SwallowCountModel", "here", "()I"⟩, 46), (⟨"SwallowCountModel", "takeClause", "()I"⟩, 46), (⟨"SwallowCountModel", "fails", "(II)I"⟩, 46), (⟨"SwallowCountModel", "takeTreaty", "()I"⟩, 46), (⟨"SwallowCountModel", "into", "([IIII)I"⟩, 46), (⟨"SwallowCountModel", "takeNumber", "(II)I"⟩, 46), (⟨"SwallowCountModel", "takeBarn", "()I"⟩, 46), (⟨"SwallowCountModel", "takeRains", "()I"⟩, 46)]
theorem lw_r4 : ∀ q ∈ lw_privs_4, lw_okq q := List.forall_mem_cons.mpr ⟨lw_p48, List.forall_mem_cons.mpr ⟨lw_p49, List.forall_mem_cons.mpr ⟨lw_p50, List.forall_mem_cons.mpr ⟨lw_p51, List.forall_mem_cons.mpr ⟨lw_p52, List.forall_mem_cons.mpr ⟨lw_p53, List.forall_mem_cons.mpr ⟨lw_p54, List.forall_mem_cons.mpr ⟨lw_p55, List.forall_mem_cons.mpr ⟨lw_p56, List.forall_mem_cons.mpr ⟨lw_p57, List.forall_mem_cons.mpr ⟨lw_p58, List.forall_mem_cons.mpr ⟨lw_p59, List.forall_mem_cons.mpr ⟨lw_p60, List.forall_mem_cons.mpr ⟨lw_p61, List.forall_mem_cons.mpr ⟨lw_p62, List.forall_mem_cons.mpr ⟨lw_p63, fun _ h => absurd h List.not_mem_nil⟩⟩⟩⟩⟩⟩⟩⟩⟩⟩⟩⟩⟩⟩⟩⟩
theorem lw_p64 : lw_okq (⟨"SwallowCountModel", "takeRead", "()V"⟩, 46) := ⟨⟨by decide +kernel, by decide +kernel⟩, List.mem_of_getElem? (i := 645) (by decide +kernel), List.mem_of_getElem? (i := 839) (by decide +kernel), List.mem_of_getElem? (i := 840) (by decide +kernel)⟩
theorem lw_p65 : lw_okq (⟨"SwallowCountModel", "sumOf", "(I)I"⟩, 46) := ⟨⟨by decide +kernel, by decide +kernel⟩, List.mem_of_getElem? (i := 645) (by decide +kernel), List.mem_of_getElem? (i := 851) (by decide +kernel), List.mem_of_getElem? (i := 852) (by decide +kernel)⟩
theorem lw_p66 : lw_okq (⟨"SwallowCountModel", "isBarn", "(I)Z"⟩, 46) := ⟨⟨by decide +kernel, by decide +kernel⟩, List.mem_of_getElem? (i := 645) (by decide +kernel), List.mem_of_getElem? (i := 859) (by decide +kernel), List.mem_of_getElem? (i := 860) (by decide +kernel)⟩
theorem lw_p67 : lw_okq (⟨"SwallowCountModel", "yearsRefused", "(I)I"⟩, 46) := ⟨⟨by decide +kernel, by decide +kernel⟩, List.mem_of_getElem? (i := 645) (by decide +kernel), List.mem_of_getElem? (i := 868) (by decide +kernel), List.mem_of_getElem? (i := 869) (by decide +kernel)⟩
theorem lw_p68 : lw_okq (⟨"SwallowCountModel", "remember", "()V"⟩, 46) := ⟨⟨by decide +kernel, by decide +kernel⟩, List.mem_of_getElem? (i := 645) (by decide +kernel), List.mem_of_getElem? (i := 874) (by decide +kernel), List.mem_of_getElem? (i := 875) (by decide +kernel)⟩
theorem lw_p69 : lw_okq (⟨"SwallowCountModel", "pass", "()V"⟩, 46) := ⟨⟨by decide +kernel, by decide +kernel⟩, List.mem_of_getElem? (i := 645) (by decide +kernel), List.mem_of_getElem? (i := 878) (by decide +kernel), List.mem_of_getElem? (i := 879) (by decide +kernel)⟩
theorem lw_p70 : lw_okq (⟨"SwallowCountModel", "passBy", "(I)V"⟩, 46) := ⟨⟨by decide +kernel, by decide +kernel⟩, List.mem_of_getElem? (i := 645) (by decide +kernel), List.mem_of_getElem? (i := 882) (by decide +kernel), List.mem_of_getElem? (i := 883) (by decide +kernel)⟩
theorem lw_p71 : lw_okq (⟨"SwallowCountModel", "takeCat", "(I)V"⟩, 46) := ⟨⟨by decide +kernel, by decide +kernel⟩, List.mem_of_getElem? (i := 645) (by decide +kernel), List.mem_of_getElem? (i := 886) (by decide +kernel), List.mem_of_getElem? (i := 887) (by decide +kernel)⟩
theorem lw_p72 : lw_okq (⟨"SwallowCountModel", "breed", "(II)V"⟩, 46) := ⟨⟨by decide +kernel, by decide +kernel⟩, List.mem_of_getElem? (i := 645) (by decide +kernel), List.mem_of_getElem? (i := 890) (by decide +kernel), List.mem_of_getElem? (i := 891) (by decide +kernel)⟩
theorem lw_p73 : lw_okq (⟨"SwallowCountModel", "youngOf", "(II)I"⟩, 46) := ⟨⟨by decide +kernel, by decide +kernel⟩, List.mem_of_getElem? (i := 645) (by decide +kernel), List.mem_of_getElem? (i := 897) (by decide +kernel), List.mem_of_getElem? (i := 898) (by decide +kernel)⟩
theorem lw_p74 : lw_okq (⟨"SwallowCountModel", "house", "(I)V"⟩, 46) := ⟨⟨by decide +kernel, by decide +kernel⟩, List.mem_of_getElem? (i := 645) (by decide +kernel), List.mem_of_getElem? (i := 904) (by decide +kernel), List.mem_of_getElem? (i := 905) (by decide +kernel)⟩
theorem lw_p75 : lw_okq (⟨"SwallowCountModel", "canMove", "(III)Z"⟩, 46) := ⟨⟨by decide +kernel, by decide +kernel⟩, List.mem_of_getElem? (i := 645) (by decide +kernel), List.mem_of_getElem? (i := 917) (by decide +kernel), List.mem_of_getElem? (i := 918) (by decide +kernel)⟩
theorem lw_p76 : lw_okq (⟨"SwallowCountModel", "moveNow", "(III)V"⟩, 46) := ⟨⟨by decide +kernel, by decide +kernel⟩, List.mem_of_getElem? (i := 645) (by decide +kernel), List.mem_of_getElem? (i := 921) (by decide +kernel), List.mem_of_getElem? (i := 922) (by decide +kernel)⟩
theorem lw_p77 : lw_okq (⟨"SwallowCountModel", "draw", "(I)I"⟩, 46) := ⟨⟨by decide +kernel, by decide +kernel⟩, List.mem_of_getElem? (i := 645) (by decide +kernel), List.mem_of_getElem? (i := 938) (by decide +kernel), List.mem_of_getElem? (i := 939) (by decide +kernel)⟩
theorem lw_p78 : lw_okq (⟨"SwallowCountModel", "isCounty", "(I)Z"⟩, 46) := ⟨⟨by decide +kernel, by decide +kernel⟩, List.mem_of_getElem? (i := 645) (by decide +kernel), List.mem_of_getElem? (i := 954) (by decide +kernel), List.mem_of_getElem? (i := 955) (by decide +kernel)⟩
theorem lw_p79 : lw_okq (⟨"SwallowCountModel", "save", "()V"⟩, 46) := ⟨⟨by decide +kernel, by decide +kernel⟩, List.mem_of_getElem? (i := 645) (by decide +kernel), List.mem_of_getElem? (i := 960) (by decide +kernel), List.mem_of_getElem? (i := 961) (by decide +kernel)⟩
def lw_privs_5 : List (MethodName × Nat) := [(⟨"SwallowCountModel", "takeRead", "()V"⟩, 46), (⟨"SwallowCountModel", "sumOf", "(I)I"⟩, 46), (⟨"SwallowCountModel", "isBarn", "(I)Z"⟩, 46), (⟨"SwallowCountModel", "yearsRefused", "(I)I"⟩, 46), (⟨"SwallowCountModel", "remember", "()V"⟩, 46), (⟨"SwallowCountModel", "pass", "()V"⟩, 46), (⟨"SwallowCountModel", "passBy", "(I)V"⟩, 46), (⟨"SwallowCountModel", "takeCat", "(I)V"⟩, 46), (⟨"SwallowCountModel", "breed", "(II)V"⟩, 46), (⟨"SwallowCountModel", "youngOf", "(II)I"⟩, 46), (⟨"SwallowCountModel", "house", "(I)V"⟩, 46), (⟨"SwallowCountModel", "canMove", "(III)Z"⟩, 46), (⟨"SwallowCountModel", "moveNow", "(III)V"⟩, 46), (⟨"SwallowCountModel", "draw", "(I)I"⟩, 46), (⟨"SwallowCountModel", "isCounty", "(I)Z"⟩, 46), (⟨"SwallowCountModel", "save", "()V"⟩, 46)]
theorem lw_r5 : ∀ q ∈ lw_privs_5, lw_okq q := List.forall_mem_cons.mpr ⟨lw_p64, List.forall_mem_cons.mpr ⟨lw_p65, List.forall_mem_cons.mpr ⟨lw_p66, List.forall_mem_cons.mpr ⟨lw_p67, List.forall_mem_cons.mpr ⟨lw_p68, List.forall_mem_cons.mpr ⟨lw_p69, List.forall_mem_cons.mpr ⟨lw_p70, List.forall_mem_cons.mpr ⟨lw_p71, List.forall_mem_cons.mpr ⟨lw_p72, List.forall_mem_cons.mpr ⟨lw_p73, List.forall_mem_cons.mpr ⟨lw_p74, List.forall_mem_cons.mpr ⟨lw_p75, List.forall_mem_cons.mpr ⟨lw_p76, List.forall_mem_cons.mpr ⟨lw_p77, List.forall_mem_cons.mpr ⟨lw_p78, List.forall_mem_cons.mpr ⟨lw_p79, fun _ h => absurd h List.not_mem_nil⟩⟩⟩⟩⟩⟩⟩⟩⟩⟩⟩⟩⟩⟩⟩⟩
theorem lw_p80 : lw_okq (⟨"SwallowCountModel", "souls", "(I)I"⟩, 46) := ⟨⟨by decide +kernel, by decide +kernel⟩, List.mem_of_getElem? (i := 645) (by decide +kernel), List.mem_of_getElem? (i := 964) (by decide +kernel), List.mem_of_getElem? (i := 965) (by decide +kernel)⟩
theorem lw_p81 : lw_okq (⟨"SwallowCountModel", "putBack", "()V"⟩, 46) := ⟨⟨by decide +kernel, by decide +kernel⟩, List.mem_of_getElem? (i := 645) (by decide +kernel), List.mem_of_getElem? (i := 968) (by decide +kernel), List.mem_of_getElem? (i := 969) (by decide +kernel)⟩
theorem lw_p82 : lw_okq (⟨"SwallowCountModel", "ofCounty", "(I)I"⟩, 46) := ⟨⟨by decide +kernel, by decide +kernel⟩, List.mem_of_getElem? (i := 645) (by decide +kernel), List.mem_of_getElem? (i := 976) (by decide +kernel), List.mem_of_getElem? (i := 977) (by decide +kernel)⟩
theorem lw_p83 : lw_okq (⟨"SwallowCountModel", "findGains", "(II)V"⟩, 46) := ⟨⟨by decide +kernel, by decide +kernel⟩, List.mem_of_getElem? (i := 645) (by decide +kernel), List.mem_of_getElem? (i := 991) (by decide +kernel), List.mem_of_getElem? (i := 992) (by decide +kernel)⟩
theorem lw_p84 : lw_okq (⟨"SwallowCountModel", "digs", "(II)V"⟩, 46) := ⟨⟨by decide +kernel, by decide +kernel⟩, List.mem_of_getElem? (i := 645) (by decide +kernel), List.mem_of_getElem? (i := 995) (by decide +kernel), List.mem_of_getElem? (i := 996) (by decide +kernel)⟩
theorem lw_p85 : lw_okq (⟨"SwallowCountModel", "smoke", "(I)V"⟩, 46) := ⟨⟨by decide +kernel, by decide +kernel⟩, List.mem_of_getElem? (i := 645) (by decide +kernel), List.mem_of_getElem? (i := 999) (by decide +kernel), List.mem_of_getElem? (i := 1000) (by decide +kernel)⟩
theorem lw_p86 : lw_okq (⟨"SwallowCountModel", "stays", "(I)Z"⟩, 46) := ⟨⟨by decide +kernel, by decide +kernel⟩, List.mem_of_getElem? (i := 645) (by decide +kernel), List.mem_of_getElem? (i := 1003) (by decide +kernel), List.mem_of_getElem? (i := 1004) (by decide +kernel)⟩
theorem lw_p87 : lw_okq (⟨"SwallowCountModel", "findMud", "(I)I"⟩, 46) := ⟨⟨by decide +kernel, by decide +kernel⟩, List.mem_of_getElem? (i := 645) (by decide +kernel), List.mem_of_getElem? (i := 1014) (by decide +kernel), List.mem_of_getElem? (i := 1015) (by decide +kernel)⟩
theorem lw_p88 : lw_okq (⟨"SwallowCountModel", "codeOf", "()I"⟩, 46) := ⟨⟨by decide +kernel, by decide +kernel⟩, List.mem_of_getElem? (i := 645) (by decide +kernel), List.mem_of_getElem? (i := 1018) (by decide +kernel), List.mem_of_getElem? (i := 1019) (by decide +kernel)⟩
theorem lw_p89 : lw_okq (⟨"SwallowCountModel", "brings", "(III)Z"⟩, 46) := ⟨⟨by decide +kernel, by decide +kernel⟩, List.mem_of_getElem? (i := 645) (by decide +kernel), List.mem_of_getElem? (i := 1022) (by decide +kernel), List.mem_of_getElem? (i := 1023) (by decide +kernel)⟩
theorem lw_p90 : lw_okq (⟨"SwallowCountModel", "nextRow", "(I)Z"⟩, 46) := ⟨⟨by decide +kernel, by decide +kernel⟩, List.mem_of_getElem? (i := 645) (by decide +kernel), List.mem_of_getElem? (i := 1029) (by decide +kernel), List.mem_of_getElem? (i := 1030) (by decide +kernel)⟩
theorem lw_p91 : lw_okq (⟨"SwallowCountModel", "couldMove", "(III)Z"⟩, 46) := ⟨⟨by decide +kernel, by decide +kernel⟩, List.mem_of_getElem? (i := 645) (by decide +kernel), List.mem_of_getElem? (i := 1057) (by decide +kernel), List.mem_of_getElem? (i := 1058) (by decide +kernel)⟩
theorem lw_p92 : lw_okq (⟨"SwallowCountModel", "findSpan", "(I)V"⟩, 46) := ⟨⟨by decide +kernel, by decide +kernel⟩, List.mem_of_getElem? (i := 645) (by decide +kernel), List.mem_of_getElem? (i := 1070) (by decide +kernel), List.mem_of_getElem? (i := 1071) (by decide +kernel)⟩
theorem lw_p93 : lw_okq (⟨"SwallowCountModel", "eavesOf", "(I)I"⟩, 46) := ⟨⟨by decide +kernel, by decide +kernel⟩, List.mem_of_getElem? (i := 645) (by decide +kernel), List.mem_of_getElem? (i := 1074) (by decide +kernel), List.mem_of_getElem? (i := 1075) (by decide +kernel)⟩
def lw_privs_6 : List (MethodName × Nat) := [(⟨"SwallowCountModel", "souls", "(I)I"⟩, 46), (⟨"SwallowCountModel", "putBack", "()V"⟩, 46), (⟨"SwallowCountModel", "ofCounty", "(I)I"⟩, 46), (⟨"SwallowCountModel", "findGains", "(II)V"⟩, 46), (⟨"SwallowCountModel", "digs", "(II)V"⟩, 46), (⟨"SwallowCountModel", "smoke", "(I)V"⟩, 46), (⟨"SwallowCountModel", "stays", "(I)Z"⟩, 46), (⟨"SwallowCountModel", "findMud", "(I)I"⟩, 46), (⟨"SwallowCountModel", "codeOf", "()I"⟩, 46), (⟨"SwallowCountModel", "brings", "(III)Z"⟩, 46), (⟨"SwallowCountModel", "nextRow", "(I)Z"⟩, 46), (⟨"SwallowCountModel", "couldMove", "(III)Z"⟩, 46), (⟨"SwallowCountModel", "findSpan", "(I)V"⟩, 46), (⟨"SwallowCountModel", "eavesOf", "(I)I"⟩, 46)]
theorem lw_r6 : ∀ q ∈ lw_privs_6, lw_okq q := List.forall_mem_cons.mpr ⟨lw_p80, List.forall_mem_cons.mpr ⟨lw_p81, List.forall_mem_cons.mpr ⟨lw_p82, List.forall_mem_cons.mpr ⟨lw_p83, List.forall_mem_cons.mpr ⟨lw_p84, List.forall_mem_cons.mpr ⟨lw_p85, List.forall_mem_cons.mpr ⟨lw_p86, List.forall_mem_cons.mpr ⟨lw_p87, List.forall_mem_cons.mpr ⟨lw_p88, List.forall_mem_cons.mpr ⟨lw_p89, List.forall_mem_cons.mpr ⟨lw_p90, List.forall_mem_cons.mpr ⟨lw_p91, List.forall_mem_cons.mpr ⟨lw_p92, List.forall_mem_cons.mpr ⟨lw_p93, fun _ h => absurd h List.not_mem_nil⟩⟩⟩⟩⟩⟩⟩⟩⟩⟩⟩⟩⟩⟩
def lw_privs : List (MethodName × Nat) := lw_privs_1 ++ (lw_privs_2 ++ (lw_privs_3 ++ (lw_privs_4 ++ (lw_privs_5 ++ (lw_privs_6)))))
def lw_tbl : List Cond := k2_sels lw_privs ++ tables_1
theorem lw_privs_ok : ∀ q ∈ lw_privs, lw_okq q := by
  show ∀ q ∈ lw_privs_1 ++ (lw_privs_2 ++ (lw_privs_3 ++ (lw_privs_4 ++ (lw_privs_5 ++ (lw_privs_6))))), lw_okq q
  exact List.forall_mem_append.mpr ⟨lw_r1, List.forall_mem_append.mpr ⟨lw_r2, List.forall_mem_append.mpr ⟨lw_r3, List.forall_mem_append.mpr ⟨lw_r4, List.forall_mem_append.mpr ⟨lw_r5, lw_r6⟩⟩⟩⟩⟩
/-! ===== BEGIN words of one list among another's, by their places ===== -/
theorem goodIn_r {big : List Cond} (ws : List Cond) (ps : List Nat) (hp : ws = ps.filterMap (fun i => big[i]?)) (h : ws.all goodWord = true) : GoodIn big ws := by
  intro w hw
  have h1 := List.all_eq_true.mp h w hw
  rw [hp] at hw
  obtain ⟨i, -, hi⟩ := List.mem_filterMap.mp hw
  have hm : w ∈ big := by first | exact List.mem_of_getElem? hi | exact List.getElem?_mem hi
  exact ⟨hm, good_of_word h1⟩
theorem goodIn_app {big a b : List Cond} (ha : GoodIn big a) (hb : GoodIn big b) : GoodIn big (a ++ b) := fun w h => (List.mem_append.mp h).elim (ha w) (hb w)
theorem goodIn_ca {big a b : List Cond} {c : Cond} (ha : GoodIn big (c :: a)) (hb : GoodIn big b) : GoodIn big (c :: (a ++ b)) := fun w h => (List.mem_cons.mp h).elim (fun e => ha w (List.mem_cons.mpr (Or.inl e))) (fun h => (List.mem_append.mp h).elim (fun h => ha w (List.mem_cons.mpr (Or.inr h))) (hb w))
theorem goodIn_sub {big ws : List Cond} (hm : ∀ w ∈ ws, w ∈ big) (h : ws.all goodWord = true) : GoodIn big ws := fun w hw => ⟨hm w hw, good_of_word (List.all_eq_true.mp h w hw)⟩
/-! ===== END ===== -/

/-! ===== BEGIN printed: names, fields, word lists, decode rows ===== -/
def RX0 : String := "SwallowCount$Entries"
def TX0 : u_T := fun k => match k with
  | 0 => ("SwallowCount$Entries", "most", "I", true)
  | 1 => ("SwallowCount$Entries", "whose", "[I", true)
  | 2 => ("SwallowCount$Entries", "number", "[I", true)
  | _ => ("SwallowCount$Entries", "size", "I", false)
def tyX0 : Nat → FieldType := fun k => match k with
  | 0 => .int
  | 1 => .array .int
  | 2 => .array .int
  | _ => .int
abbrev wsX00 : List Cond := u_ws RX0 TX0 4
theorem nmX0 : ∀ a, a < 4 → ∀ b, b < 4 → a ≠ b → (TX0 a).2.1 ≠ (TX0 b).2.1 := by decide +kernel
theorem tyX0_ok : ∀ k, k < 4 → parseFieldDescriptor (TX0 k).2.2.1 = some (tyX0 k) := by decide +kernel
abbrev cX0_init : ByteArray := prog_2_method_1_code
def yX0_init : MethodName := ⟨RX0, "<init>", "(I)V"⟩
abbrev cX0_add : ByteArray := prog_2_method_2_code
def yX0_add : MethodName := ⟨RX0, "add", "(II)I"⟩
def RX1 : String := "SwallowCount$Flock"
def TX1 : u_T := fun k => match k with
  | 0 => ("SwallowCount$Flock", "nests", "[I", true)
  | 1 => ("SwallowCount$Flock", "rings", "[I", true)
  | 2 => ("SwallowCount$Flock", "far", "[I", true)
  | 3 => ("SwallowCount$Flock", "homeless", "[I", true)
  | 4 => ("SwallowCount$Flock", "shut", "I", false)
  | 5 => ("SwallowCount$Flock", "lost", "I", false)
  | _ => ("SwallowCount$Flock", "years", "I", false)
def tyX1 : Nat → FieldType := fun k => match k with
  | 0 => .array .int
  | 1 => .array .int
  | 2 => .array .int
  | 3 => .array .int
  | 4 => .int
  | 5 => .int
  | _ => .int
abbrev wsX10 : List Cond := u_ws RX1 TX1 7
theorem nmX1 : ∀ a, a < 7 → ∀ b, b < 7 → a ≠ b → (TX1 a).2.1 ≠ (TX1 b).2.1 := by decide +kernel
theorem tyX1_ok : ∀ k, k < 7 → parseFieldDescriptor (TX1 k).2.2.1 = some (tyX1 k) := by decide +kernel
abbrev cX1_init : ByteArray := prog_3_method_1_code
def yX1_init : MethodName := ⟨RX1, "<init>", "()V"⟩
abbrev cX1_settle : ByteArray := prog_3_method_2_code
def yX1_settle : MethodName := ⟨RX1, "settle", "(LSwallowCount$Land;)V"⟩
abbrev cX1_copyFrom : ByteArray := prog_3_method_3_code
def yX1_copyFrom : MethodName := ⟨RX1, "copyFrom", "(LSwallowCount$Flock;)V"⟩
abbrev cX1_isShut : ByteArray := prog_3_method_4_code
def yX1_isShut : MethodName := ⟨RX1, "isShut", "(I)Z"⟩
abbrev cX1_carry : ByteArray := prog_3_method_5_code
def yX1_carry : MethodName := ⟨RX1, "carry", "(III)V"⟩
abbrev cX1_bringNearer : ByteArray := prog_3_method_6_code
def yX1_bringNearer : MethodName := ⟨RX1, "bringNearer", "(II)V"⟩
abbrev cX1_passYear : ByteArray := prog_3_method_7_code
def yX1_passYear : MethodName := ⟨RX1, "passYear", "(LSwallowCount$Land;I)V"⟩
abbrev cX1_takeByCat : ByteArray := prog_3_method_8_code
def yX1_takeByCat : MethodName := ⟨RX1, "takeByCat", "(I)V"⟩
abbrev cX1_youngOf : ByteArray := prog_3_method_9_code
def yX1_youngOf : MethodName := ⟨RX1, "youngOf", "(III)I"⟩
abbrev cX1_turnOut : ByteArray := prog_3_method_10_code
def yX1_turnOut : MethodName := ⟨RX1, "turnOut", "(III)V"⟩
abbrev cX1_takeIn : ByteArray := prog_3_method_11_code
def yX1_takeIn : MethodName := ⟨RX1, "takeIn", "(III)V"⟩
def RX2 : String := "SwallowCount$History"
def TX2 : u_T := fun k => match k with
  | 0 => ("SwallowCount$History", "shelf", "LSwallowCount$Shelf;", true)
  | 1 => ("SwallowCount$History", "size", "I", false)
  | _ => ("SwallowCount$History", "next", "I", false)
def tyX2 : Nat → FieldType := fun k => match k with
  | 0 => .object "SwallowCount$Shelf"
  | 1 => .int
  | _ => .int
abbrev wsX20 : List Cond := u_ws RX2 TX2 3
theorem nmX2 : ∀ a, a < 3 → ∀ b, b < 3 → a ≠ b → (TX2 a).2.1 ≠ (TX2 b).2.1 := by decide +kernel
theorem tyX2_ok : ∀ k, k < 3 → parseFieldDescriptor (TX2 k).2.2.1 = some (tyX2 k) := by decide +kernel
abbrev cX2_init : ByteArray := prog_4_method_1_code
def yX2_init : MethodName := ⟨RX2, "<init>", "()V"⟩
abbrev cX2_clear : ByteArray := prog_4_method_2_code
def yX2_clear : MethodName := ⟨RX2, "clear", "()V"⟩
abbrev cX2_remember : ByteArray := prog_4_method_3_code
def yX2_remember : MethodName := ⟨RX2, "remember", "(LSwallowCount$Flock;)V"⟩
abbrev cX2_bringBack : ByteArray := prog_4_method_4_code
def yX2_bringBack : MethodName := ⟨RX2, "bringBack", "(LSwallowCount$Flock;)Z"⟩
def RX3 : String := "SwallowCount$Land"
def TX3 : u_T := fun k => match k with
  | 0 => ("SwallowCount$Land", "counties", "I", false)
  | 1 => ("SwallowCount$Land", "soulsASeat", "I", false)
  | 2 => ("SwallowCount$Land", "soulsAMan", "I", false)
  | 3 => ("SwallowCount$Land", "barns", "I", false)
  | 4 => ("SwallowCount$Land", "rains", "I", false)
  | 5 => ("SwallowCount$Land", "county", "[I", true)
  | 6 => ("SwallowCount$Land", "eaves", "[I", true)
  | 7 => ("SwallowCount$Land", "nestsAtFirst", "[I", true)
  | 8 => ("SwallowCount$Land", "farAtFirst", "[I", true)
  | 9 => ("SwallowCount$Land", "kind", "[I", true)
  | _ => ("SwallowCount$Land", "rain", "[I", true)
def tyX3 : Nat → FieldType := fun k => match k with
  | 0 => .int
  | 1 => .int
  | 2 => .int
  | 3 => .int
  | 4 => .int
  | 5 => .array .int
  | 6 => .array .int
  | 7 => .array .int
  | 8 => .array .int
  | 9 => .array .int
  | _ => .array .int
abbrev wsX30 : List Cond := u_ws RX3 TX3 11
theorem nmX3 : ∀ a, a < 11 → ∀ b, b < 11 → a ≠ b → (TX3 a).2.1 ≠ (TX3 b).2.1 := by decide +kernel
theorem tyX3_ok : ∀ k, k < 11 → parseFieldDescriptor (TX3 k).2.2.1 = some (tyX3 k) := by decide +kernel
abbrev cX3_init : ByteArray := prog_5_method_1_code
def yX3_init : MethodName := ⟨RX3, "<init>", "()V"⟩
abbrev cX3_clear : ByteArray := prog_5_method_2_code
def yX3_clear : MethodName := ⟨RX3, "clear", "()V"⟩
abbrev cX3_hasBarn : ByteArray := prog_5_method_3_code
def yX3_hasBarn : MethodName := ⟨RX3, "hasBarn", "(I)Z"⟩
abbrev cX3_hasCounty : ByteArray := prog_5_method_4_code
def yX3_hasCounty : MethodName := ⟨RX3, "hasCounty", "(I)Z"⟩
abbrev cX3_allBarns : ByteArray := prog_5_method_5_code
def yX3_allBarns : MethodName := ⟨RX3, "allBarns", "()I"⟩
abbrev cX3_barnsOf : ByteArray := prog_5_method_6_code
def yX3_barnsOf : MethodName := ⟨RX3, "barnsOf", "(I)I"⟩
abbrev cX3_rainOf : ByteArray := prog_5_method_7_code
def yX3_rainOf : MethodName := ⟨RX3, "rainOf", "(I)I"⟩
abbrev cX3_seatsFor : ByteArray := prog_5_method_8_code
def yX3_seatsFor : MethodName := ⟨RX3, "seatsFor", "(I)I"⟩
abbrev cX3_menFor : ByteArray := prog_5_method_9_code
def yX3_menFor : MethodName := ⟨RX3, "menFor", "(I)I"⟩
def RX4 : String := "SwallowCount$Shelf"
def TX4 : u_T := fun k => match k with
  | 0 => ("SwallowCount$Shelf", "places", "I", true)
  | _ => ("SwallowCount$Shelf", "cells", "[I", true)
def tyX4 : Nat → FieldType := fun k => match k with
  | 0 => .int
  | _ => .array .int
abbrev wsX40 : List Cond := u_ws RX4 TX4 2
theorem nmX4 : ∀ a, a < 2 → ∀ b, b < 2 → a ≠ b → (TX4 a).2.1 ≠ (TX4 b).2.1 := by decide +kernel
theorem tyX4_ok : ∀ k, k < 2 → parseFieldDescriptor (TX4 k).2.2.1 = some (tyX4 k) := by decide +kernel
abbrev cX4_init : ByteArray := prog_6_method_1_code
def yX4_init : MethodName := ⟨RX4, "<init>", "(I)V"⟩
abbrev cX4_put : ByteArray := prog_6_method_2_code
def yX4_put : MethodName := ⟨RX4, "put", "(ILSwallowCount$Flock;)V"⟩
abbrev cX4_take : ByteArray := prog_6_method_3_code
def yX4_take : MethodName := ⟨RX4, "take", "(ILSwallowCount$Flock;)V"⟩
def RX5 : String := "SwallowCount$Text"
def TX5 : u_T := fun k => match k with
  | 0 => ("SwallowCount$Text", "letters", "[I", true)
  | 1 => ("SwallowCount$Text", "length", "I", false)
  | 2 => ("SwallowCount$Text", "at", "I", false)
  | 3 => ("SwallowCount$Text", "faultPlace", "I", false)
  | _ => ("SwallowCount$Text", "faultNumber", "I", false)
def tyX5 : Nat → FieldType := fun k => match k with
  | 0 => .array .int
  | 1 => .int
  | 2 => .int
  | 3 => .int
  | _ => .int
abbrev wsX50 : List Cond := u_ws RX5 TX5 5
theorem nmX5 : ∀ a, a < 5 → ∀ b, b < 5 → a ≠ b → (TX5 a).2.1 ≠ (TX5 b).2.1 := by decide +kernel
theorem tyX5_ok : ∀ k, k < 5 → parseFieldDescriptor (TX5 k).2.2.1 = some (tyX5 k) := by decide +kernel
abbrev cX5_init : ByteArray := prog_7_method_1_code
def yX5_init : MethodName := ⟨RX5, "<init>", "()V"⟩
abbrev cX5_append : ByteArray := prog_7_method_2_code
def yX5_append : MethodName := ⟨RX5, "append", "(I)Z"⟩
abbrev cX5_readInto : ByteArray := prog_7_method_3_code
def yX5_readInto : MethodName := ⟨RX5, "readInto", "(LSwallowCount$Land;)Z"⟩
abbrev cX5_readClause : ByteArray := prog_7_method_4_code
def yX5_readClause : MethodName := ⟨RX5, "readClause", "(LSwallowCount$Land;)Z"⟩
abbrev cX5_readTreaty : ByteArray := prog_7_method_5_code
def yX5_readTreaty : MethodName := ⟨RX5, "readTreaty", "(LSwallowCount$Land;)Z"⟩
abbrev cX5_readBarn : ByteArray := prog_7_method_6_code
def yX5_readBarn : MethodName := ⟨RX5, "readBarn", "(LSwallowCount$Land;)Z"⟩
abbrev cX5_readRains : ByteArray := prog_7_method_7_code
def yX5_readRains : MethodName := ⟨RX5, "readRains", "(LSwallowCount$Land;)Z"⟩
abbrev cX5_readEndOfClause : ByteArray := prog_7_method_8_code
def yX5_readEndOfClause : MethodName := ⟨RX5, "readEndOfClause", "()Z"⟩
abbrev cX5_readNests : ByteArray := prog_7_method_9_code
def yX5_readNests : MethodName := ⟨RX5, "readNests", "(I)I"⟩
abbrev cX5_readNumber : ByteArray := prog_7_method_10_code
def yX5_readNumber : MethodName := ⟨RX5, "readNumber", "(II)I"⟩
abbrev cX5_nextLetter : ByteArray := prog_7_method_11_code
def yX5_nextLetter : MethodName := ⟨RX5, "nextLetter", "()I"⟩
abbrev cX5_faulty : ByteArray := prog_7_method_12_code
def yX5_faulty : MethodName := ⟨RX5, "faulty", "(II)Z"⟩
def RX6 : String := "SwallowCount"
def TX6 : u_T := fun k => match k with
  | 0 => ("SwallowCount", "text", "LSwallowCount$Text;", true)
  | 1 => ("SwallowCount", "land", "LSwallowCount$Land;", false)
  | 2 => ("SwallowCount", "draft", "LSwallowCount$Land;", false)
  | 3 => ("SwallowCount", "now", "LSwallowCount$Flock;", true)
  | 4 => ("SwallowCount", "trial", "LSwallowCount$Flock;", true)
  | 5 => ("SwallowCount", "history", "LSwallowCount$History;", true)
  | 6 => ("SwallowCount", "images", "LSwallowCount$Shelf;", true)
  | 7 => ("SwallowCount", "imageSeeds", "[I", true)
  | 8 => ("SwallowCount", "imagesKept", "I", false)
  | 9 => ("SwallowCount", "seen", "LSwallowCount$Entries;", true)
  | 10 => ("SwallowCount", "roughCounts", "LSwallowCount$Entries;", true)
  | 11 => ("SwallowCount", "book", "LSwallowCount$Entries;", true)
  | 12 => ("SwallowCount", "mudTried", "[I", true)
  | 13 => ("SwallowCount", "leads", "[I", true)
  | _ => ("SwallowCount", "theSeed", "I", false)
def tyX6 : Nat → FieldType := fun k => match k with
  | 0 => .object "SwallowCount$Text"
  | 1 => .object "SwallowCount$Land"
  | 2 => .object "SwallowCount$Land"
  | 3 => .object "SwallowCount$Flock"
  | 4 => .object "SwallowCount$Flock"
  | 5 => .object "SwallowCount$History"
  | 6 => .object "SwallowCount$Shelf"
  | 7 => .array .int
  | 8 => .int
  | 9 => .object "SwallowCount$Entries"
  | 10 => .object "SwallowCount$Entries"
  | 11 => .object "SwallowCount$Entries"
  | 12 => .array .int
  | 13 => .array .int
  | _ => .int
abbrev wsX60 : List Cond := u_ws RX6 TX6 15
theorem nmX6 : ∀ a, a < 15 → ∀ b, b < 15 → a ≠ b → (TX6 a).2.1 ≠ (TX6 b).2.1 := by decide +kernel
theorem tyX6_ok : ∀ k, k < 15 → parseFieldDescriptor (TX6 k).2.2.1 = some (tyX6 k) := by decide +kernel
abbrev cX6_init : ByteArray := prog_1_method_1_code
def yX6_init : MethodName := ⟨RX6, "<init>", "()V"⟩
abbrev cX6_feed : ByteArray := prog_1_method_2_code
def yX6_feed : MethodName := ⟨RX6, "feed", "(I)I"⟩
abbrev cX6_land : ByteArray := prog_1_method_3_code
def yX6_land : MethodName := ⟨RX6, "land", "()I"⟩
abbrev cX6_fault : ByteArray := prog_1_method_4_code
def yX6_fault : MethodName := ⟨RX6, "fault", "()I"⟩
abbrev cX6_told : ByteArray := prog_1_method_5_code
def yX6_told : MethodName := ⟨RX6, "told", "(I)I"⟩
abbrev cX6_barn : ByteArray := prog_1_method_6_code
def yX6_barn : MethodName := ⟨RX6, "barn", "(II)I"⟩
abbrev cX6_year : ByteArray := prog_1_method_7_code
def yX6_year : MethodName := ⟨RX6, "year", "(I)I"⟩
abbrev cX6_open : ByteArray := prog_1_method_8_code
def yX6_open : MethodName := ⟨RX6, "open", "(IZ)I"⟩
abbrev cX6_move : ByteArray := prog_1_method_9_code
def yX6_move : MethodName := ⟨RX6, "move", "(III)I"⟩
abbrev cX6_mud : ByteArray := prog_1_method_10_code
def yX6_mud : MethodName := ⟨RX6, "mud", "(II)I"⟩
abbrev cX6_ring : ByteArray := prog_1_method_11_code
def yX6_ring : MethodName := ⟨RX6, "ring", "(II)I"⟩
abbrev cX6_drift : ByteArray := prog_1_method_12_code
def yX6_drift : MethodName := ⟨RX6, "drift", "(I)I"⟩
abbrev cX6_undo : ByteArray := prog_1_method_13_code
def yX6_undo : MethodName := ⟨RX6, "undo", "()I"⟩
abbrev cX6_count : ByteArray := prog_1_method_14_code
def yX6_count : MethodName := ⟨RX6, "count", "(III)I"⟩
abbrev cX6_leave : ByteArray := prog_1_method_15_code
def yX6_leave : MethodName := ⟨RX6, "leave", "(III)I"⟩
abbrev cX6_counters : ByteArray := prog_1_method_16_code
def yX6_counters : MethodName := ⟨RX6, "counters", "(I)I"⟩
abbrev cX6_game : ByteArray := prog_1_method_17_code
def yX6_game : MethodName := ⟨RX6, "game", "(III)I"⟩
abbrev cX6_leastMud : ByteArray := prog_1_method_18_code
def yX6_leastMud : MethodName := ⟨RX6, "leastMud", "(II)I"⟩
abbrev cX6_votes : ByteArray := prog_1_method_19_code
def yX6_votes : MethodName := ⟨RX6, "votes", "(I)I"⟩
abbrev cX6_elected : ByteArray := prog_1_method_20_code
def yX6_elected : MethodName := ⟨RX6, "elected", "()I"⟩
abbrev cX6_spring : ByteArray := prog_1_method_21_code
def yX6_spring : MethodName := ⟨RX6, "spring", "(II)I"⟩
abbrev cX6_see : ByteArray := prog_1_method_22_code
def yX6_see : MethodName := ⟨RX6, "see", "(II)I"⟩
abbrev cX6_moved : ByteArray := prog_1_method_23_code
def yX6_moved : MethodName := ⟨RX6, "moved", "(I)I"⟩
abbrev cX6_rough : ByteArray := prog_1_method_24_code
def yX6_rough : MethodName := ⟨RX6, "rough", "(II)I"⟩
abbrev cX6_span : ByteArray := prog_1_method_25_code
def yX6_span : MethodName := ⟨RX6, "span", "(II)I"⟩
abbrev cX6_uncounted : ByteArray := prog_1_method_26_code
def yX6_uncounted : MethodName := ⟨RX6, "uncounted", "()I"⟩
abbrev cX6_write : ByteArray := prog_1_method_27_code
def yX6_write : MethodName := ⟨RX6, "write", "(II)I"⟩
abbrev cX6_tear : ByteArray := prog_1_method_28_code
def yX6_tear : MethodName := ⟨RX6, "tear", "()I"⟩
abbrev cX6_judge : ByteArray := prog_1_method_29_code
def yX6_judge : MethodName := ⟨RX6, "judge", "()I"⟩
abbrev cX6_seed : ByteArray := prog_1_method_30_code
def yX6_seed : MethodName := ⟨RX6, "seed", "(I)I"⟩
abbrev cX6_keep : ByteArray := prog_1_method_31_code
def yX6_keep : MethodName := ⟨RX6, "keep", "(I)I"⟩
abbrev cX6_goBack : ByteArray := prog_1_method_32_code
def yX6_goBack : MethodName := ⟨RX6, "goBack", "(I)I"⟩
abbrev cX6_refusalOfYears : ByteArray := prog_1_method_33_code
def yX6_refusalOfYears : MethodName := ⟨RX6, "refusalOfYears", "(I)I"⟩
abbrev cX6_drawRain : ByteArray := prog_1_method_34_code
def yX6_drawRain : MethodName := ⟨RX6, "drawRain", "()I"⟩
abbrev cX6_forgetEntries : ByteArray := prog_1_method_35_code
def yX6_forgetEntries : MethodName := ⟨RX6, "forgetEntries", "()V"⟩
abbrev cX6_canCarry : ByteArray := prog_1_method_36_code
def yX6_canCarry : MethodName := ⟨RX6, "canCarry", "(III)Z"⟩
abbrev cX6_sumOver : ByteArray := prog_1_method_37_code
def yX6_sumOver : MethodName := ⟨RX6, "sumOver", "([II)I"⟩
abbrev cX6_soulsOf : ByteArray := prog_1_method_38_code
def yX6_soulsOf : MethodName := ⟨RX6, "soulsOf", "(LSwallowCount$Flock;I)I"⟩
abbrev cX6_votesOf : ByteArray := prog_1_method_39_code
def yX6_votesOf : MethodName := ⟨RX6, "votesOf", "(I)I"⟩
abbrev cX6_passTrialYear : ByteArray := prog_1_method_40_code
def yX6_passTrialYear : MethodName := ⟨RX6, "passTrialYear", "()V"⟩
abbrev cX6_trialSeats : ByteArray := prog_1_method_41_code
def yX6_trialSeats : MethodName := ⟨RX6, "trialSeats", "(I)I"⟩
abbrev cX6_leavingServes : ByteArray := prog_1_method_42_code
def yX6_leavingServes : MethodName := ⟨RX6, "leavingServes", "(IIII)Z"⟩
abbrev cX6_playAllPairs : ByteArray := prog_1_method_43_code
def yX6_playAllPairs : MethodName := ⟨RX6, "playAllPairs", "(II)V"⟩
abbrev cX6_digPools : ByteArray := prog_1_method_44_code
def yX6_digPools : MethodName := ⟨RX6, "digPools", "(II)V"⟩
abbrev cX6_makeSmoke : ByteArray := prog_1_method_45_code
def yX6_makeSmoke : MethodName := ⟨RX6, "makeSmoke", "(II)V"⟩
abbrev cX6_nobodyWouldLeave : ByteArray := prog_1_method_46_code
def yX6_nobodyWouldLeave : MethodName := ⟨RX6, "nobodyWouldLeave", "(II)Z"⟩
abbrev cX6_gainOfFirst : ByteArray := prog_1_method_47_code
def yX6_gainOfFirst : MethodName := ⟨RX6, "gainOfFirst", "(II)I"⟩
abbrev cX6_gainOfOther : ByteArray := prog_1_method_48_code
def yX6_gainOfOther : MethodName := ⟨RX6, "gainOfOther", "(II)I"⟩
abbrev cX6_findLeastMud : ByteArray := prog_1_method_49_code
def yX6_findLeastMud : MethodName := ⟨RX6, "findLeastMud", "(I)I"⟩
abbrev cX6_sharesServe : ByteArray := prog_1_method_50_code
def yX6_sharesServe : MethodName := ⟨RX6, "sharesServe", "(LSwallowCount;IIII)Z"⟩
abbrev cX6_usefulMud : ByteArray := prog_1_method_51_code
def yX6_usefulMud : MethodName := ⟨RX6, "usefulMud", "(II)I"⟩
abbrev cX6_seatsWithMud : ByteArray := prog_1_method_52_code
def yX6_seatsWithMud : MethodName := ⟨RX6, "seatsWithMud", "(I)I"⟩
abbrev cX6_wouldExplain : ByteArray := prog_1_method_53_code
def yX6_wouldExplain : MethodName := ⟨RX6, "wouldExplain", "(III)Z"⟩
abbrev cX6_leastIn : ByteArray := prog_1_method_54_code
def yX6_leastIn : MethodName := ⟨RX6, "leastIn", "(I)I"⟩
abbrev cX6_mostIn : ByteArray := prog_1_method_55_code
def yX6_mostIn : MethodName := ⟨RX6, "mostIn", "(I)I"⟩
def RX7 : String := "SwallowCountModel"
def TX7 : u_T := fun k => match k with
  | 0 => ("SwallowCountModel", "counties", "I", false)
  | 1 => ("SwallowCountModel", "seat", "I", false)
  | 2 => ("SwallowCountModel", "man", "I", false)
  | 3 => ("SwallowCountModel", "barns", "I", false)
  | 4 => ("SwallowCountModel", "county", "[I", true)
  | 5 => ("SwallowCountModel", "eaves", "[I", true)
  | 6 => ("SwallowCountModel", "kind", "[I", true)
  | 7 => ("SwallowCountModel", "rains", "I", false)
  | 8 => ("SwallowCountModel", "rain", "[I", true)
  | 9 => ("SwallowCountModel", "now", "[I", true)
  | 10 => ("SwallowCountModel", "seed", "I", false)
  | 11 => ("SwallowCountModel", "text", "[I", true)
  | 12 => ("SwallowCountModel", "texted", "I", false)
  | 13 => ("SwallowCountModel", "faultPlace", "I", false)
  | 14 => ("SwallowCountModel", "at0", "I", false)
  | 15 => ("SwallowCountModel", "number", "I", false)
  | 16 => ("SwallowCountModel", "numberAt", "I", false)
  | 17 => ("SwallowCountModel", "readTreaty", "[I", true)
  | 18 => ("SwallowCountModel", "readBarns", "I", false)
  | 19 => ("SwallowCountModel", "readCounty", "[I", true)
  | 20 => ("SwallowCountModel", "readEaves", "[I", true)
  | 21 => ("SwallowCountModel", "readNests", "[I", true)
  | 22 => ("SwallowCountModel", "readFar", "[I", true)
  | 23 => ("SwallowCountModel", "readKind", "[I", true)
  | 24 => ("SwallowCountModel", "readRains", "I", false)
  | 25 => ("SwallowCountModel", "readRain", "[I", true)
  | 26 => ("SwallowCountModel", "homeless", "[I", true)
  | 27 => ("SwallowCountModel", "undos", "I", false)
  | 28 => ("SwallowCountModel", "past", "[I", true)
  | 29 => ("SwallowCountModel", "was", "[I", true)
  | 30 => ("SwallowCountModel", "gains", "[I", true)
  | 31 => ("SwallowCountModel", "mudRow", "I", false)
  | 32 => ("SwallowCountModel", "lay", "[I", true)
  | 33 => ("SwallowCountModel", "seen", "I", false)
  | 34 => ("SwallowCountModel", "seenBarn", "[I", true)
  | 35 => ("SwallowCountModel", "seenNests", "[I", true)
  | 36 => ("SwallowCountModel", "roughs", "I", false)
  | 37 => ("SwallowCountModel", "roughSet", "[I", true)
  | 38 => ("SwallowCountModel", "roughNests", "[I", true)
  | 39 => ("SwallowCountModel", "least", "I", false)
  | 40 => ("SwallowCountModel", "most", "I", false)
  | 41 => ("SwallowCountModel", "booked", "I", false)
  | 42 => ("SwallowCountModel", "bookCounty", "[I", true)
  | 43 => ("SwallowCountModel", "bookSouls", "[I", true)
  | 44 => ("SwallowCountModel", "images", "[I", true)
  | _ => ("SwallowCountModel", "isKept", "[Z", true)
def tyX7 : Nat → FieldType := fun k => match k with
  | 0 => .int
  | 1 => .int
  | 2 => .int
  | 3 => .int
  | 4 => .array .int
  | 5 => .array .int
  | 6 => .array .int
  | 7 => .int
  | 8 => .array .int
  | 9 => .array .int
  | 10 => .int
  | 11 => .array .int
  | 12 => .int
  | 13 => .int
  | 14 => .int
  | 15 => .int
  | 16 => .int
  | 17 => .array .int
  | 18 => .int
  | 19 => .array .int
  | 20 => .array .int
  | 21 => .array .int
  | 22 => .array .int
  | 23 => .array .int
  | 24 => .int
  | 25 => .array .int
  | 26 => .array .int
  | 27 => .int
  | 28 => .array .int
  | 29 => .array .int
  | 30 => .array .int
  | 31 => .int
  | 32 => .array .int
  | 33 => .int
  | 34 => .array .int
  | 35 => .array .int
  | 36 => .int
  | 37 => .array .int
  | 38 => .array .int
  | 39 => .int
  | 40 => .int
  | 41 => .int
  | 42 => .array .int
  | 43 => .array .int
  | 44 => .array .int
  | _ => .array .boolean
abbrev wsX70 : List Cond := u_ws RX7 TX7 46
theorem nmX7 : ∀ a, a < 46 → ∀ b, b < 46 → a ≠ b → (TX7 a).2.1 ≠ (TX7 b).2.1 := by decide +kernel
theorem tyX7_ok : ∀ k, k < 46 → parseFieldDescriptor (TX7 k).2.2.1 = some (tyX7 k) := by decide +kernel
abbrev cX7_init : ByteArray := prog_9_method_1_code
def yX7_init : MethodName := ⟨RX7, "<init>", "()V"⟩
abbrev cX7_in : ByteArray := prog_9_method_3_code
def yX7_in : MethodName := ⟨RX7, "in", "(JJJ)Z"⟩
abbrev cX7_has : ByteArray := prog_9_method_4_code
def yX7_has : MethodName := ⟨RX7, "has", "(II)Z"⟩
abbrev cX7_bits : ByteArray := prog_9_method_5_code
def yX7_bits : MethodName := ⟨RX7, "bits", "(I)I"⟩
abbrev cX7_atMost : ByteArray := prog_9_method_6_code
def yX7_atMost : MethodName := ⟨RX7, "atMost", "(II)I"⟩
abbrev cX7_isBarn : ByteArray := prog_9_method_7_code
def yX7_isBarn : MethodName := ⟨RX7, "isBarn", "(I)Z"⟩
abbrev cX7_isCounty : ByteArray := prog_9_method_8_code
def yX7_isCounty : MethodName := ⟨RX7, "isCounty", "(I)Z"⟩
abbrev cX7_feed : ByteArray := prog_9_method_9_code
def yX7_feed : MethodName := ⟨RX7, "feed", "(I)I"⟩
abbrev cX7_here : ByteArray := prog_9_method_10_code
def yX7_here : MethodName := ⟨RX7, "here", "()I"⟩
abbrev cX7_fails : ByteArray := prog_9_method_11_code
def yX7_fails : MethodName := ⟨RX7, "fails", "(II)I"⟩
abbrev cX7_takeNumber : ByteArray := prog_9_method_12_code
def yX7_takeNumber : MethodName := ⟨RX7, "takeNumber", "(II)I"⟩
abbrev cX7_into : ByteArray := prog_9_method_13_code
def yX7_into : MethodName := ⟨RX7, "into", "([IIII)I"⟩
abbrev cX7_takeTreaty : ByteArray := prog_9_method_14_code
def yX7_takeTreaty : MethodName := ⟨RX7, "takeTreaty", "()I"⟩
abbrev cX7_takeBarn : ByteArray := prog_9_method_15_code
def yX7_takeBarn : MethodName := ⟨RX7, "takeBarn", "()I"⟩
abbrev cX7_takeRains : ByteArray := prog_9_method_16_code
def yX7_takeRains : MethodName := ⟨RX7, "takeRains", "()I"⟩
abbrev cX7_takeClause : ByteArray := prog_9_method_17_code
def yX7_takeClause : MethodName := ⟨RX7, "takeClause", "()I"⟩
abbrev cX7_takeRead : ByteArray := prog_9_method_18_code
def yX7_takeRead : MethodName := ⟨RX7, "takeRead", "()V"⟩
abbrev cX7_land : ByteArray := prog_9_method_19_code
def yX7_land : MethodName := ⟨RX7, "land", "()I"⟩
abbrev cX7_fault : ByteArray := prog_9_method_20_code
def yX7_fault : MethodName := ⟨RX7, "fault", "()I"⟩
abbrev cX7_sumOf : ByteArray := prog_9_method_21_code
def yX7_sumOf : MethodName := ⟨RX7, "sumOf", "(I)I"⟩
abbrev cX7_told : ByteArray := prog_9_method_22_code
def yX7_told : MethodName := ⟨RX7, "told", "(I)I"⟩
abbrev cX7_barn : ByteArray := prog_9_method_23_code
def yX7_barn : MethodName := ⟨RX7, "barn", "(II)I"⟩
abbrev cX7_youngOf : ByteArray := prog_9_method_24_code
def yX7_youngOf : MethodName := ⟨RX7, "youngOf", "(II)I"⟩
abbrev cX7_takeCat : ByteArray := prog_9_method_25_code
def yX7_takeCat : MethodName := ⟨RX7, "takeCat", "(I)V"⟩
abbrev cX7_breed : ByteArray := prog_9_method_26_code
def yX7_breed : MethodName := ⟨RX7, "breed", "(II)V"⟩
abbrev cX7_house : ByteArray := prog_9_method_27_code
def yX7_house : MethodName := ⟨RX7, "house", "(I)V"⟩
abbrev cX7_passBy : ByteArray := prog_9_method_28_code
def yX7_passBy : MethodName := ⟨RX7, "passBy", "(I)V"⟩
abbrev cX7_pass : ByteArray := prog_9_method_29_code
def yX7_pass : MethodName := ⟨RX7, "pass", "()V"⟩
abbrev cX7_remember : ByteArray := prog_9_method_30_code
def yX7_remember : MethodName := ⟨RX7, "remember", "()V"⟩
abbrev cX7_yearsRefused : ByteArray := prog_9_method_31_code
def yX7_yearsRefused : MethodName := ⟨RX7, "yearsRefused", "(I)I"⟩
abbrev cX7_year : ByteArray := prog_9_method_32_code
def yX7_year : MethodName := ⟨RX7, "year", "(I)I"⟩
abbrev cX7_open : ByteArray := prog_9_method_33_code
def yX7_open : MethodName := ⟨RX7, "open", "(IZ)I"⟩
abbrev cX7_canMove : ByteArray := prog_9_method_34_code
def yX7_canMove : MethodName := ⟨RX7, "canMove", "(III)Z"⟩
abbrev cX7_moveNow : ByteArray := prog_9_method_35_code
def yX7_moveNow : MethodName := ⟨RX7, "moveNow", "(III)V"⟩
abbrev cX7_move : ByteArray := prog_9_method_36_code
def yX7_move : MethodName := ⟨RX7, "move", "(III)I"⟩
abbrev cX7_mud : ByteArray := prog_9_method_37_code
def yX7_mud : MethodName := ⟨RX7, "mud", "(II)I"⟩
abbrev cX7_ring : ByteArray := prog_9_method_38_code
def yX7_ring : MethodName := ⟨RX7, "ring", "(II)I"⟩
abbrev cX7_draw : ByteArray := prog_9_method_39_code
def yX7_draw : MethodName := ⟨RX7, "draw", "(I)I"⟩
abbrev cX7_drift : ByteArray := prog_9_method_40_code
def yX7_drift : MethodName := ⟨RX7, "drift", "(I)I"⟩
abbrev cX7_undo : ByteArray := prog_9_method_41_code
def yX7_undo : MethodName := ⟨RX7, "undo", "()I"⟩
abbrev cX7_save : ByteArray := prog_9_method_42_code
def yX7_save : MethodName := ⟨RX7, "save", "()V"⟩
abbrev cX7_putBack : ByteArray := prog_9_method_43_code
def yX7_putBack : MethodName := ⟨RX7, "putBack", "()V"⟩
abbrev cX7_souls : ByteArray := prog_9_method_44_code
def yX7_souls : MethodName := ⟨RX7, "souls", "(I)I"⟩
abbrev cX7_ofCounty : ByteArray := prog_9_method_45_code
def yX7_ofCounty : MethodName := ⟨RX7, "ofCounty", "(I)I"⟩
abbrev cX7_count : ByteArray := prog_9_method_46_code
def yX7_count : MethodName := ⟨RX7, "count", "(III)I"⟩
abbrev cX7_leave : ByteArray := prog_9_method_47_code
def yX7_leave : MethodName := ⟨RX7, "leave", "(III)I"⟩
abbrev cX7_counters : ByteArray := prog_9_method_48_code
def yX7_counters : MethodName := ⟨RX7, "counters", "(I)I"⟩
abbrev cX7_digs : ByteArray := prog_9_method_49_code
def yX7_digs : MethodName := ⟨RX7, "digs", "(II)V"⟩
abbrev cX7_smoke : ByteArray := prog_9_method_50_code
def yX7_smoke : MethodName := ⟨RX7, "smoke", "(I)V"⟩
abbrev cX7_findGains : ByteArray := prog_9_method_51_code
def yX7_findGains : MethodName := ⟨RX7, "findGains", "(II)V"⟩
abbrev cX7_cost : ByteArray := prog_9_method_52_code
def yX7_cost : MethodName := ⟨RX7, "cost", "(I)I"⟩
abbrev cX7_stays : ByteArray := prog_9_method_53_code
def yX7_stays : MethodName := ⟨RX7, "stays", "(I)Z"⟩
abbrev cX7_game : ByteArray := prog_9_method_54_code
def yX7_game : MethodName := ⟨RX7, "game", "(III)I"⟩
abbrev cX7_figure : ByteArray := prog_9_method_55_code
def yX7_figure : MethodName := ⟨RX7, "figure", "(II)I"⟩
abbrev cX7_brings : ByteArray := prog_9_method_56_code
def yX7_brings : MethodName := ⟨RX7, "brings", "(III)Z"⟩
abbrev cX7_codeOf : ByteArray := prog_9_method_57_code
def yX7_codeOf : MethodName := ⟨RX7, "codeOf", "()I"⟩
abbrev cX7_nextRow : ByteArray := prog_9_method_58_code
def yX7_nextRow : MethodName := ⟨RX7, "nextRow", "(I)Z"⟩
abbrev cX7_findMud : ByteArray := prog_9_method_59_code
def yX7_findMud : MethodName := ⟨RX7, "findMud", "(I)I"⟩
abbrev cX7_leastMud : ByteArray := prog_9_method_60_code
def yX7_leastMud : MethodName := ⟨RX7, "leastMud", "(II)I"⟩
abbrev cX7_votes : ByteArray := prog_9_method_61_code
def yX7_votes : MethodName := ⟨RX7, "votes", "(I)I"⟩
abbrev cX7_elected : ByteArray := prog_9_method_62_code
def yX7_elected : MethodName := ⟨RX7, "elected", "()I"⟩
abbrev cX7_spring : ByteArray := prog_9_method_63_code
def yX7_spring : MethodName := ⟨RX7, "spring", "(II)I"⟩
abbrev cX7_see : ByteArray := prog_9_method_64_code
def yX7_see : MethodName := ⟨RX7, "see", "(II)I"⟩
abbrev cX7_couldMove : ByteArray := prog_9_method_65_code
def yX7_couldMove : MethodName := ⟨RX7, "couldMove", "(III)Z"⟩
abbrev cX7_moved : ByteArray := prog_9_method_66_code
def yX7_moved : MethodName := ⟨RX7, "moved", "(I)I"⟩
abbrev cX7_rough : ByteArray := prog_9_method_67_code
def yX7_rough : MethodName := ⟨RX7, "rough", "(II)I"⟩
abbrev cX7_eavesOf : ByteArray := prog_9_method_68_code
def yX7_eavesOf : MethodName := ⟨RX7, "eavesOf", "(I)I"⟩
abbrev cX7_findSpan : ByteArray := prog_9_method_69_code
def yX7_findSpan : MethodName := ⟨RX7, "findSpan", "(I)V"⟩
abbrev cX7_span : ByteArray := prog_9_method_70_code
def yX7_span : MethodName := ⟨RX7, "span", "(II)I"⟩
abbrev cX7_uncounted : ByteArray := prog_9_method_71_code
def yX7_uncounted : MethodName := ⟨RX7, "uncounted", "()I"⟩
abbrev cX7_write : ByteArray := prog_9_method_72_code
def yX7_write : MethodName := ⟨RX7, "write", "(II)I"⟩
abbrev cX7_tear : ByteArray := prog_9_method_73_code
def yX7_tear : MethodName := ⟨RX7, "tear", "()I"⟩
abbrev cX7_judge : ByteArray := prog_9_method_74_code
def yX7_judge : MethodName := ⟨RX7, "judge", "()I"⟩
abbrev cX7_seed : ByteArray := prog_9_method_75_code
def yX7_seed : MethodName := ⟨RX7, "seed", "(I)I"⟩
abbrev cX7_keep : ByteArray := prog_9_method_76_code
def yX7_keep : MethodName := ⟨RX7, "keep", "(I)I"⟩
abbrev cX7_goBack : ByteArray := prog_9_method_77_code
def yX7_goBack : MethodName := ⟨RX7, "goBack", "(I)I"⟩
def RJ6 : String := "java/lang/Integer"
def TJ6 : u_T := fun k => match k with
  | _ => ("", "", "", false)
def tyJ6 : Nat → FieldType := fun k => match k with
  | _ => .int
abbrev wsJ60 : List Cond := u_ws RJ6 TJ6 0
theorem nmJ6 : ∀ a, a < 0 → ∀ b, b < 0 → a ≠ b → (TJ6 a).2.1 ≠ (TJ6 b).2.1 := by decide +kernel
theorem tyJ6_ok : ∀ k, k < 0 → parseFieldDescriptor (TJ6 k).2.2.1 = some (tyJ6 k) := by decide +kernel
abbrev cJ6_bitCount_0f7a4 : ByteArray := prog_10_method_49_code
def yJ6_bitCount_0f7a4 : MethodName := ⟨RJ6, "bitCount", "(I)I"⟩
def RJ9 : String := "java/lang/Math"
def TJ9 : u_T := fun k => match k with
  | _ => ("", "", "", false)
def tyJ9 : Nat → FieldType := fun k => match k with
  | _ => .int
abbrev wsJ90 : List Cond := u_ws RJ9 TJ9 0
theorem nmJ9 : ∀ a, a < 0 → ∀ b, b < 0 → a ≠ b → (TJ9 a).2.1 ≠ (TJ9 b).2.1 := by decide +kernel
theorem tyJ9_ok : ∀ k, k < 0 → parseFieldDescriptor (TJ9 k).2.2.1 = some (tyJ9 k) := by decide +kernel
abbrev cJ9_max_7cf53 : ByteArray := prog_11_method_65_code
def yJ9_max_7cf53 : MethodName := ⟨RJ9, "max", "(II)I"⟩
abbrev cJ9_min_7cf53 : ByteArray := prog_11_method_69_code
def yJ9_min_7cf53 : MethodName := ⟨RJ9, "min", "(II)I"⟩
def RJ10 : String := "java/lang/System"
def TJ10 : u_T := fun k => match k with
  | _ => ("", "", "", false)
def tyJ10 : Nat → FieldType := fun k => match k with
  | _ => .int
abbrev wsJ100 : List Cond := u_ws RJ10 TJ10 0
theorem nmJ10 : ∀ a, a < 0 → ∀ b, b < 0 → a ≠ b → (TJ10 a).2.1 ≠ (TJ10 b).2.1 := by decide +kernel
theorem tyJ10_ok : ∀ k, k < 0 → parseFieldDescriptor (TJ10 k).2.2.1 = some (tyJ10 k) := by decide +kernel
def RJ7 : String := "java/util/Arrays"
def TJ7 : u_T := fun k => match k with
  | _ => ("", "", "", false)
def tyJ7 : Nat → FieldType := fun k => match k with
  | _ => .int
abbrev wsJ70 : List Cond := u_ws RJ7 TJ7 0
theorem nmJ7 : ∀ a, a < 0 → ∀ b, b < 0 → a ≠ b → (TJ7 a).2.1 ≠ (TJ7 b).2.1 := by decide +kernel
theorem tyJ7_ok : ∀ k, k < 0 → parseFieldDescriptor (TJ7 k).2.2.1 = some (tyJ7 k) := by decide +kernel
abbrev cJ7_fill_53178 : ByteArray := prog_13_method_103_code
def yJ7_fill_53178 : MethodName := ⟨RJ7, "fill", "([II)V"⟩
def RL : String := "SwallowCountLaw"
abbrev cL_law : ByteArray := code
def yL_law : MethodName := ⟨RL, "law", "([I)Z"⟩
abbrev vwCl : List vw_C := [(RX0, TX0, 4), (RX1, TX1, 7), (RX2, TX2, 3), (RX3, TX3, 11), (RX4, TX4, 2), (RX5, TX5, 5), (RX6, TX6, 15), (RX7, TX7, 46)]
