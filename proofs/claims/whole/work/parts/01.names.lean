-- ===== PART A: goes FIRST, ahead of the names: the tables' words, and 'selects' of the private methods out of them =====
/-- a private method of a class that the tables say can be made, by its rows of tables_1 -/
def lw_okq (q : MethodName × Nat) : Prop := (q.1.cls ≠ "java/lang/invoke/MethodHandle" ∧ q.1.cls ≠ "java/lang/invoke/VarHandle") ∧ Cond.instantiable q.1.cls q.2 ∈ tables_1 ∧ Cond.privateMethod q.1 ∈ tables_1 ∧ Cond.instanceMethod q.1 ∈ tables_1
theorem lw_p0 : lw_okq (⟨"LowLand$Ditches", "add", "(III)I"⟩, 8) := ⟨⟨by decide +kernel, by decide +kernel⟩, List.mem_of_getElem? (i := 31) (by decide +kernel), List.mem_of_getElem? (i := 333) (by decide +kernel), List.mem_of_getElem? (i := 334) (by decide +kernel)⟩
theorem lw_p1 : lw_okq (⟨"LowLand$Ditches", "has", "(I)Z"⟩, 8) := ⟨⟨by decide +kernel, by decide +kernel⟩, List.mem_of_getElem? (i := 31) (by decide +kernel), List.mem_of_getElem? (i := 341) (by decide +kernel), List.mem_of_getElem? (i := 342) (by decide +kernel)⟩
theorem lw_p2 : lw_okq (⟨"LowLand$Ditches", "level", "(I[I)I"⟩, 8) := ⟨⟨by decide +kernel, by decide +kernel⟩, List.mem_of_getElem? (i := 31) (by decide +kernel), List.mem_of_getElem? (i := 350) (by decide +kernel), List.mem_of_getElem? (i := 351) (by decide +kernel)⟩
theorem lw_p3 : lw_okq (⟨"LowLand$Ditches", "breach", "(I[I)I"⟩, 8) := ⟨⟨by decide +kernel, by decide +kernel⟩, List.mem_of_getElem? (i := 31) (by decide +kernel), List.mem_of_getElem? (i := 354) (by decide +kernel), List.mem_of_getElem? (i := 355) (by decide +kernel)⟩
theorem lw_p4 : lw_okq (⟨"LowLand$Weirs", "add", "(IIII)I"⟩, 5) := ⟨⟨by decide +kernel, by decide +kernel⟩, List.mem_of_getElem? (i := 76) (by decide +kernel), List.mem_of_getElem? (i := 363) (by decide +kernel), List.mem_of_getElem? (i := 364) (by decide +kernel)⟩
theorem lw_p5 : lw_okq (⟨"LowLand$Pumps", "add", "(IIIII)I"⟩, 8) := ⟨⟨by decide +kernel, by decide +kernel⟩, List.mem_of_getElem? (i := 104) (by decide +kernel), List.mem_of_getElem? (i := 372) (by decide +kernel), List.mem_of_getElem? (i := 373) (by decide +kernel)⟩
theorem lw_p6 : lw_okq (⟨"LowLand$Sluices", "add", "(II)I"⟩, 4) := ⟨⟨by decide +kernel, by decide +kernel⟩, List.mem_of_getElem? (i := 144) (by decide +kernel), List.mem_of_getElem? (i := 380) (by decide +kernel), List.mem_of_getElem? (i := 381) (by decide +kernel)⟩
theorem lw_p7 : lw_okq (⟨"LowLand$Pumps", "has", "(I)Z"⟩, 8) := ⟨⟨by decide +kernel, by decide +kernel⟩, List.mem_of_getElem? (i := 104) (by decide +kernel), List.mem_of_getElem? (i := 388) (by decide +kernel), List.mem_of_getElem? (i := 389) (by decide +kernel)⟩
theorem lw_p8 : lw_okq (⟨"LowLand$Pumps", "mustStayOff", "(II)Z"⟩, 8) := ⟨⟨by decide +kernel, by decide +kernel⟩, List.mem_of_getElem? (i := 104) (by decide +kernel), List.mem_of_getElem? (i := 392) (by decide +kernel), List.mem_of_getElem? (i := 393) (by decide +kernel)⟩
theorem lw_p9 : lw_okq (⟨"LowLand$Pumps", "isOn", "(I)Z"⟩, 8) := ⟨⟨by decide +kernel, by decide +kernel⟩, List.mem_of_getElem? (i := 104) (by decide +kernel), List.mem_of_getElem? (i := 396) (by decide +kernel), List.mem_of_getElem? (i := 397) (by decide +kernel)⟩
theorem lw_p10 : lw_okq (⟨"LowLand$Pumps", "pausesAt", "(II)Z"⟩, 8) := ⟨⟨by decide +kernel, by decide +kernel⟩, List.mem_of_getElem? (i := 104) (by decide +kernel), List.mem_of_getElem? (i := 400) (by decide +kernel), List.mem_of_getElem? (i := 401) (by decide +kernel)⟩
theorem lw_p11 : lw_okq (⟨"LowLand$Pumps", "mustRunOn", "(II)Z"⟩, 8) := ⟨⟨by decide +kernel, by decide +kernel⟩, List.mem_of_getElem? (i := 104) (by decide +kernel), List.mem_of_getElem? (i := 410) (by decide +kernel), List.mem_of_getElem? (i := 411) (by decide +kernel)⟩
theorem lw_p12 : lw_okq (⟨"LowLand$Pumps", "put", "(IZI)V"⟩, 8) := ⟨⟨by decide +kernel, by decide +kernel⟩, List.mem_of_getElem? (i := 104) (by decide +kernel), List.mem_of_getElem? (i := 415) (by decide +kernel), List.mem_of_getElem? (i := 416) (by decide +kernel)⟩
theorem lw_p13 : lw_okq (⟨"LowLand$Sluices", "has", "(I)Z"⟩, 4) := ⟨⟨by decide +kernel, by decide +kernel⟩, List.mem_of_getElem? (i := 144) (by decide +kernel), List.mem_of_getElem? (i := 423) (by decide +kernel), List.mem_of_getElem? (i := 424) (by decide +kernel)⟩
theorem lw_p14 : lw_okq (⟨"LowLand$Land", "advance", "(I)I"⟩, 9) := ⟨⟨by decide +kernel, by decide +kernel⟩, List.mem_of_getElem? (i := 25) (by decide +kernel), List.mem_of_getElem? (i := 445) (by decide +kernel), List.mem_of_getElem? (i := 446) (by decide +kernel)⟩
theorem lw_p15 : lw_okq (⟨"LowLand$Pumps", "awake", "(II)I"⟩, 8) := ⟨⟨by decide +kernel, by decide +kernel⟩, List.mem_of_getElem? (i := 104) (by decide +kernel), List.mem_of_getElem? (i := 449) (by decide +kernel), List.mem_of_getElem? (i := 450) (by decide +kernel)⟩
def lw_privs_1 : List (MethodName × Nat) := [(⟨"LowLand$Ditches", "add", "(III)I"⟩, 8), (⟨"LowLand$Ditches", "has", "(I)Z"⟩, 8), (⟨"LowLand$Ditches", "level", "(I[I)I"⟩, 8), (⟨"LowLand$Ditches", "breach", "(I[I)I"⟩, 8), (⟨"LowLand$Weirs", "add", "(IIII)I"⟩, 5), (⟨"LowLand$Pumps", "add", "(IIIII)I"⟩, 8), (⟨"LowLand$Sluices", "add", "(II)I"⟩, 4), (⟨"LowLand$Pumps", "has", "(I)Z"⟩, 8), (⟨"LowLand$Pumps", "mustStayOff", "(II)Z"⟩, 8), (⟨"LowLand$Pumps", "isOn", "(I)Z"⟩, 8), (⟨"LowLand$Pumps", "pausesAt", "(II)Z"⟩, 8), (⟨"LowLand$Pumps", "mustRunOn", "(II)Z"⟩, 8), (⟨"LowLand$Pumps", "put", "(IZI)V"⟩, 8), (⟨"LowLand$Sluices", "has", "(I)Z"⟩, 4), (⟨"LowLand$Land", "advance", "(I)I"⟩, 9), (⟨"LowLand$Pumps", "awake", "(II)I"⟩, 8)]
theorem lw_r1 : ∀ q ∈ lw_privs_1, lw_okq q := List.forall_mem_cons.mpr ⟨lw_p0, List.forall_mem_cons.mpr ⟨lw_p1, List.forall_mem_cons.mpr ⟨lw_p2, List.forall_mem_cons.mpr ⟨lw_p3, List.forall_mem_cons.mpr ⟨lw_p4, List.forall_mem_cons.mpr ⟨lw_p5, List.forall_mem_cons.mpr ⟨lw_p6, List.forall_mem_cons.mpr ⟨lw_p7, List.forall_mem_cons.mpr ⟨lw_p8, List.forall_mem_cons.mpr ⟨lw_p9, List.forall_mem_cons.mpr ⟨lw_p10, List.forall_mem_cons.mpr ⟨lw_p11, List.forall_mem_cons.mpr ⟨lw_p12, List.forall_mem_cons.mpr ⟨lw_p13, List.forall_mem_cons.mpr ⟨lw_p14, List.forall_mem_cons.mpr ⟨lw_p15, fun _ h => absurd h List.not_mem_nil⟩⟩⟩⟩⟩⟩⟩⟩⟩⟩⟩⟩⟩⟩⟩⟩
theorem lw_p16 : lw_okq (⟨"LowLand$Land", "move", "([IIIILLowLand$Flow;)V"⟩, 9) := ⟨⟨by decide +kernel, by decide +kernel⟩, List.mem_of_getElem? (i := 25) (by decide +kernel), List.mem_of_getElem? (i := 453) (by decide +kernel), List.mem_of_getElem? (i := 454) (by decide +kernel)⟩
theorem lw_p17 : lw_okq (⟨"LowLand$Land", "passWeir", "(I[I)I"⟩, 9) := ⟨⟨by decide +kernel, by decide +kernel⟩, List.mem_of_getElem? (i := 25) (by decide +kernel), List.mem_of_getElem? (i := 457) (by decide +kernel), List.mem_of_getElem? (i := 458) (by decide +kernel)⟩
theorem lw_p18 : lw_okq (⟨"LowLand$Land", "passPump", "(I[I)I"⟩, 9) := ⟨⟨by decide +kernel, by decide +kernel⟩, List.mem_of_getElem? (i := 25) (by decide +kernel), List.mem_of_getElem? (i := 468) (by decide +kernel), List.mem_of_getElem? (i := 469) (by decide +kernel)⟩
theorem lw_p19 : lw_okq (⟨"LowLand$Land", "passSluice", "(I[II)I"⟩, 9) := ⟨⟨by decide +kernel, by decide +kernel⟩, List.mem_of_getElem? (i := 25) (by decide +kernel), List.mem_of_getElem? (i := 476) (by decide +kernel), List.mem_of_getElem? (i := 477) (by decide +kernel)⟩
theorem lw_p20 : lw_okq (⟨"LowLand$Land", "drain", "()V"⟩, 9) := ⟨⟨by decide +kernel, by decide +kernel⟩, List.mem_of_getElem? (i := 25) (by decide +kernel), List.mem_of_getElem? (i := 480) (by decide +kernel), List.mem_of_getElem? (i := 481) (by decide +kernel)⟩
theorem lw_p21 : lw_okq (⟨"LowLand$Land", "cost", "(II)I"⟩, 9) := ⟨⟨by decide +kernel, by decide +kernel⟩, List.mem_of_getElem? (i := 25) (by decide +kernel), List.mem_of_getElem? (i := 484) (by decide +kernel), List.mem_of_getElem? (i := 485) (by decide +kernel)⟩
theorem lw_p22 : lw_okq (⟨"LowLand$Ditches", "alarms", "()I"⟩, 8) := ⟨⟨by decide +kernel, by decide +kernel⟩, List.mem_of_getElem? (i := 31) (by decide +kernel), List.mem_of_getElem? (i := 494) (by decide +kernel), List.mem_of_getElem? (i := 495) (by decide +kernel)⟩
theorem lw_p23 : lw_okq (⟨"LowLand$Weirs", "has", "(I)Z"⟩, 5) := ⟨⟨by decide +kernel, by decide +kernel⟩, List.mem_of_getElem? (i := 76) (by decide +kernel), List.mem_of_getElem? (i := 503) (by decide +kernel), List.mem_of_getElem? (i := 504) (by decide +kernel)⟩
theorem lw_p24 : lw_okq (⟨"LowLand$Worlds", "add", "()I"⟩, 2) := ⟨⟨by decide +kernel, by decide +kernel⟩, List.mem_of_getElem? (i := 235) (by decide +kernel), List.mem_of_getElem? (i := 511) (by decide +kernel), List.mem_of_getElem? (i := 512) (by decide +kernel)⟩
theorem lw_p25 : lw_okq (⟨"LowLand$Worlds", "has", "(I)Z"⟩, 2) := ⟨⟨by decide +kernel, by decide +kernel⟩, List.mem_of_getElem? (i := 235) (by decide +kernel), List.mem_of_getElem? (i := 519) (by decide +kernel), List.mem_of_getElem? (i := 520) (by decide +kernel)⟩
theorem lw_p26 : lw_okq (⟨"LowLand$Planner", "seek", "(I)V"⟩, 8) := ⟨⟨by decide +kernel, by decide +kernel⟩, List.mem_of_getElem? (i := 253) (by decide +kernel), List.mem_of_getElem? (i := 530) (by decide +kernel), List.mem_of_getElem? (i := 531) (by decide +kernel)⟩
theorem lw_p27 : lw_okq (⟨"LowLand$Planner", "begin", "()V"⟩, 8) := ⟨⟨by decide +kernel, by decide +kernel⟩, List.mem_of_getElem? (i := 253) (by decide +kernel), List.mem_of_getElem? (i := 535) (by decide +kernel), List.mem_of_getElem? (i := 536) (by decide +kernel)⟩
theorem lw_p28 : lw_okq (⟨"LowLand$Worlds", "tried", "()I"⟩, 2) := ⟨⟨by decide +kernel, by decide +kernel⟩, List.mem_of_getElem? (i := 235) (by decide +kernel), List.mem_of_getElem? (i := 539) (by decide +kernel), List.mem_of_getElem? (i := 540) (by decide +kernel)⟩
theorem lw_p29 : lw_okq (⟨"LowLand$Pumps", "inPlans", "()I"⟩, 8) := ⟨⟨by decide +kernel, by decide +kernel⟩, List.mem_of_getElem? (i := 104) (by decide +kernel), List.mem_of_getElem? (i := 550) (by decide +kernel), List.mem_of_getElem? (i := 551) (by decide +kernel)⟩
theorem lw_p30 : lw_okq (⟨"LowLand$Planner", "fits", "(II)Z"⟩, 8) := ⟨⟨by decide +kernel, by decide +kernel⟩, List.mem_of_getElem? (i := 253) (by decide +kernel), List.mem_of_getElem? (i := 556) (by decide +kernel), List.mem_of_getElem? (i := 557) (by decide +kernel)⟩
theorem lw_p31 : lw_okq (⟨"LowLand$Planner", "tells", "(III)Z"⟩, 8) := ⟨⟨by decide +kernel, by decide +kernel⟩, List.mem_of_getElem? (i := 253) (by decide +kernel), List.mem_of_getElem? (i := 560) (by decide +kernel), List.mem_of_getElem? (i := 561) (by decide +kernel)⟩
def lw_privs_2 : List (MethodName × Nat) := [(⟨"LowLand$Land", "move", "([IIIILLowLand$Flow;)V"⟩, 9), (⟨"LowLand$Land", "passWeir", "(I[I)I"⟩, 9), (⟨"LowLand$Land", "passPump", "(I[I)I"⟩, 9), (⟨"LowLand$Land", "passSluice", "(I[II)I"⟩, 9), (⟨"LowLand$Land", "drain", "()V"⟩, 9), (⟨"LowLand$Land", "cost", "(II)I"⟩, 9), (⟨"LowLand$Ditches", "alarms", "()I"⟩, 8), (⟨"LowLand$Weirs", "has", "(I)Z"⟩, 5), (⟨"LowLand$Worlds", "add", "()I"⟩, 2), (⟨"LowLand$Worlds", "has", "(I)Z"⟩, 2), (⟨"LowLand$Planner", "seek", "(I)V"⟩, 8), (⟨"LowLand$Planner", "begin", "()V"⟩, 8), (⟨"LowLand$Worlds", "tried", "()I"⟩, 2), (⟨"LowLand$Pumps", "inPlans", "()I"⟩, 8), (⟨"LowLand$Planner", "fits", "(II)Z"⟩, 8), (⟨"LowLand$Planner", "tells", "(III)Z"⟩, 8)]
theorem lw_r2 : ∀ q ∈ lw_privs_2, lw_okq q := List.forall_mem_cons.mpr ⟨lw_p16, List.forall_mem_cons.mpr ⟨lw_p17, List.forall_mem_cons.mpr ⟨lw_p18, List.forall_mem_cons.mpr ⟨lw_p19, List.forall_mem_cons.mpr ⟨lw_p20, List.forall_mem_cons.mpr ⟨lw_p21, List.forall_mem_cons.mpr ⟨lw_p22, List.forall_mem_cons.mpr ⟨lw_p23, List.forall_mem_cons.mpr ⟨lw_p24, List.forall_mem_cons.mpr ⟨lw_p25, List.forall_mem_cons.mpr ⟨lw_p26, List.forall_mem_cons.mpr ⟨lw_p27, List.forall_mem_cons.mpr ⟨lw_p28, List.forall_mem_cons.mpr ⟨lw_p29, List.forall_mem_cons.mpr ⟨lw_p30, List.forall_mem_cons.mpr ⟨lw_p31, fun _ h => absurd h List.not_mem_nil⟩⟩⟩⟩⟩⟩⟩⟩⟩⟩⟩⟩⟩⟩⟩⟩
theorem lw_p32 : lw_okq (⟨"LowLand$Planner", "mayEnd", "(III)Z"⟩, 8) := ⟨⟨by decide +kernel, by decide +kernel⟩, List.mem_of_getElem? (i := 253) (by decide +kernel), List.mem_of_getElem? (i := 565) (by decide +kernel), List.mem_of_getElem? (i := 566) (by decide +kernel)⟩
theorem lw_p33 : lw_okq (⟨"LowLand$Planner", "isBetter", "(IJJ)Z"⟩, 8) := ⟨⟨by decide +kernel, by decide +kernel⟩, List.mem_of_getElem? (i := 253) (by decide +kernel), List.mem_of_getElem? (i := 570) (by decide +kernel), List.mem_of_getElem? (i := 571) (by decide +kernel)⟩
theorem lw_p34 : lw_okq (⟨"LowLand$Planner", "tread", "(II)J"⟩, 8) := ⟨⟨by decide +kernel, by decide +kernel⟩, List.mem_of_getElem? (i := 253) (by decide +kernel), List.mem_of_getElem? (i := 574) (by decide +kernel), List.mem_of_getElem? (i := 575) (by decide +kernel)⟩
theorem lw_p35 : lw_okq (⟨"LowLand$Ditches", "allBreach", "([I)J"⟩, 8) := ⟨⟨by decide +kernel, by decide +kernel⟩, List.mem_of_getElem? (i := 31) (by decide +kernel), List.mem_of_getElem? (i := 580) (by decide +kernel), List.mem_of_getElem? (i := 581) (by decide +kernel)⟩
theorem lw_p36 : lw_okq (⟨"LowLand$Planner", "isPlan", "(II)Z"⟩, 8) := ⟨⟨by decide +kernel, by decide +kernel⟩, List.mem_of_getElem? (i := 253) (by decide +kernel), List.mem_of_getElem? (i := 593) (by decide +kernel), List.mem_of_getElem? (i := 594) (by decide +kernel)⟩
theorem lw_p37 : lw_okq (⟨"LowLand$Planner", "bitsOf", "(II)I"⟩, 8) := ⟨⟨by decide +kernel, by decide +kernel⟩, List.mem_of_getElem? (i := 253) (by decide +kernel), List.mem_of_getElem? (i := 597) (by decide +kernel), List.mem_of_getElem? (i := 598) (by decide +kernel)⟩
theorem lw_p38 : lw_okq (⟨"LowLand$Planner", "isWell", "(II)Z"⟩, 8) := ⟨⟨by decide +kernel, by decide +kernel⟩, List.mem_of_getElem? (i := 253) (by decide +kernel), List.mem_of_getElem? (i := 601) (by decide +kernel), List.mem_of_getElem? (i := 602) (by decide +kernel)⟩
theorem lw_p39 : lw_okq (⟨"LowLand$Planner", "costOf", "(II)J"⟩, 8) := ⟨⟨by decide +kernel, by decide +kernel⟩, List.mem_of_getElem? (i := 253) (by decide +kernel), List.mem_of_getElem? (i := 605) (by decide +kernel), List.mem_of_getElem? (i := 606) (by decide +kernel)⟩
theorem lw_p40 : lw_okq (⟨"LowLand$Planner", "breachOf", "(II)J"⟩, 8) := ⟨⟨by decide +kernel, by decide +kernel⟩, List.mem_of_getElem? (i := 253) (by decide +kernel), List.mem_of_getElem? (i := 609) (by decide +kernel), List.mem_of_getElem? (i := 610) (by decide +kernel)⟩
theorem lw_p41 : lw_okq (⟨"LowLand$Sheets", "clear", "(III)V"⟩, 3) := ⟨⟨by decide +kernel, by decide +kernel⟩, List.mem_of_getElem? (i := 290) (by decide +kernel), List.mem_of_getElem? (i := 629) (by decide +kernel), List.mem_of_getElem? (i := 630) (by decide +kernel)⟩
theorem lw_p42 : lw_okq (⟨"LowLand$Sheets", "isNothing", "(I)Z"⟩, 3) := ⟨⟨by decide +kernel, by decide +kernel⟩, List.mem_of_getElem? (i := 290) (by decide +kernel), List.mem_of_getElem? (i := 637) (by decide +kernel), List.mem_of_getElem? (i := 638) (by decide +kernel)⟩
theorem lw_p43 : lw_okq (⟨"LowLand$Sheets", "hasCell", "(II)Z"⟩, 3) := ⟨⟨by decide +kernel, by decide +kernel⟩, List.mem_of_getElem? (i := 290) (by decide +kernel), List.mem_of_getElem? (i := 641) (by decide +kernel), List.mem_of_getElem? (i := 642) (by decide +kernel)⟩
theorem lw_p44 : lw_okq (⟨"LowLand$Sheets", "put", "(III)V"⟩, 3) := ⟨⟨by decide +kernel, by decide +kernel⟩, List.mem_of_getElem? (i := 290) (by decide +kernel), List.mem_of_getElem? (i := 645) (by decide +kernel), List.mem_of_getElem? (i := 646) (by decide +kernel)⟩
theorem lw_p45 : lw_okq (⟨"LowLand$Sheets", "faultAs", "(II)I"⟩, 3) := ⟨⟨by decide +kernel, by decide +kernel⟩, List.mem_of_getElem? (i := 290) (by decide +kernel), List.mem_of_getElem? (i := 653) (by decide +kernel), List.mem_of_getElem? (i := 654) (by decide +kernel)⟩
theorem lw_p46 : lw_okq (⟨"LowLand$Ditches", "allWater", "()I"⟩, 8) := ⟨⟨by decide +kernel, by decide +kernel⟩, List.mem_of_getElem? (i := 31) (by decide +kernel), List.mem_of_getElem? (i := 669) (by decide +kernel), List.mem_of_getElem? (i := 670) (by decide +kernel)⟩
theorem lw_p47 : lw_okq (⟨"LowLandModel", "isDitch", "(I)Z"⟩, 44) := ⟨⟨by decide +kernel, by decide +kernel⟩, List.mem_of_getElem? (i := 673) (by decide +kernel), List.mem_of_getElem? (i := 827) (by decide +kernel), List.mem_of_getElem? (i := 828) (by decide +kernel)⟩
def lw_privs_3 : List (MethodName × Nat) := [(⟨"LowLand$Planner", "mayEnd", "(III)Z"⟩, 8), (⟨"LowLand$Planner", "isBetter", "(IJJ)Z"⟩, 8), (⟨"LowLand$Planner", "tread", "(II)J"⟩, 8), (⟨"LowLand$Ditches", "allBreach", "([I)J"⟩, 8), (⟨"LowLand$Planner", "isPlan", "(II)Z"⟩, 8), (⟨"LowLand$Planner", "bitsOf", "(II)I"⟩, 8), (⟨"LowLand$Planner", "isWell", "(II)Z"⟩, 8), (⟨"LowLand$Planner", "costOf", "(II)J"⟩, 8), (⟨"LowLand$Planner", "breachOf", "(II)J"⟩, 8), (⟨"LowLand$Sheets", "clear", "(III)V"⟩, 3), (⟨"LowLand$Sheets", "isNothing", "(I)Z"⟩, 3), (⟨"LowLand$Sheets", "hasCell", "(II)Z"⟩, 3), (⟨"LowLand$Sheets", "put", "(III)V"⟩, 3), (⟨"LowLand$Sheets", "faultAs", "(II)I"⟩, 3), (⟨"LowLand$Ditches", "allWater", "()I"⟩, 8), (⟨"LowLandModel", "isDitch", "(I)Z"⟩, 44)]
theorem lw_r3 : ∀ q ∈ lw_privs_3, lw_okq q := List.forall_mem_cons.mpr ⟨lw_p32, List.forall_mem_cons.mpr ⟨lw_p33, List.forall_mem_cons.mpr ⟨lw_p34, List.forall_mem_cons.mpr ⟨lw_p35, List.forall_mem_cons.mpr ⟨lw_p36, List.forall_mem_cons.mpr ⟨lw_p37, List.forall_mem_cons.mpr ⟨lw_p38, List.forall_mem_cons.mpr ⟨lw_p39, List.forall_mem_cons.mpr ⟨lw_p40, List.forall_mem_cons.mpr ⟨lw_p41, List.forall_mem_cons.mpr ⟨lw_p42, List.forall_mem_cons.mpr ⟨lw_p43, List.forall_mem_cons.mpr ⟨lw_p44, List.forall_mem_cons.mpr ⟨lw_p45, List.forall_mem_cons.mpr ⟨lw_p46, List.forall_mem_cons.mpr ⟨lw_p47, fun _ h => absurd h List.not_mem_nil⟩⟩⟩⟩⟩⟩⟩⟩⟩⟩⟩⟩⟩⟩⟩⟩
theorem lw_p48 : lw_okq (⟨"LowLandModel", "level", "(I)I"⟩, 44) := ⟨⟨by decide +kernel, by decide +kernel⟩, List.mem_of_getElem? (i := 673) (by decide +kernel), List.mem_of_getElem? (i := 839) (by decide +kernel), List.mem_of_getElem? (i := 840) (by decide +kernel)⟩
theorem lw_p49 : lw_okq (⟨"LowLandModel", "breach", "(I)I"⟩, 44) := ⟨⟨by decide +kernel, by decide +kernel⟩, List.mem_of_getElem? (i := 673) (by decide +kernel), List.mem_of_getElem? (i := 843) (by decide +kernel), List.mem_of_getElem? (i := 844) (by decide +kernel)⟩
theorem lw_p50 : lw_okq (⟨"LowLandModel", "isPaused", "(II)Z"⟩, 44) := ⟨⟨by decide +kernel, by decide +kernel⟩, List.mem_of_getElem? (i := 673) (by decide +kernel), List.mem_of_getElem? (i := 865) (by decide +kernel), List.mem_of_getElem? (i := 866) (by decide +kernel)⟩
theorem lw_p51 : lw_okq (⟨"LowLandModel", "turns", "(IZ)V"⟩, 44) := ⟨⟨by decide +kernel, by decide +kernel⟩, List.mem_of_getElem? (i := 673) (by decide +kernel), List.mem_of_getElem? (i := 869) (by decide +kernel), List.mem_of_getElem? (i := 870) (by decide +kernel)⟩
theorem lw_p52 : lw_okq (⟨"LowLandModel", "steps", "(I)I"⟩, 44) := ⟨⟨by decide +kernel, by decide +kernel⟩, List.mem_of_getElem? (i := 673) (by decide +kernel), List.mem_of_getElem? (i := 891) (by decide +kernel), List.mem_of_getElem? (i := 892) (by decide +kernel)⟩
theorem lw_p53 : lw_okq (⟨"LowLandModel", "flows", "(III)V"⟩, 44) := ⟨⟨by decide +kernel, by decide +kernel⟩, List.mem_of_getElem? (i := 673) (by decide +kernel), List.mem_of_getElem? (i := 895) (by decide +kernel), List.mem_of_getElem? (i := 896) (by decide +kernel)⟩
theorem lw_p54 : lw_okq (⟨"LowLandModel", "alarms", "()I"⟩, 44) := ⟨⟨by decide +kernel, by decide +kernel⟩, List.mem_of_getElem? (i := 673) (by decide +kernel), List.mem_of_getElem? (i := 902) (by decide +kernel), List.mem_of_getElem? (i := 903) (by decide +kernel)⟩
theorem lw_p55 : lw_okq (⟨"LowLandModel", "findPlan", "(I)V"⟩, 44) := ⟨⟨by decide +kernel, by decide +kernel⟩, List.mem_of_getElem? (i := 673) (by decide +kernel), List.mem_of_getElem? (i := 923) (by decide +kernel), List.mem_of_getElem? (i := 924) (by decide +kernel)⟩
theorem lw_p56 : lw_okq (⟨"LowLandModel", "isPlan", "(II)Z"⟩, 44) := ⟨⟨by decide +kernel, by decide +kernel⟩, List.mem_of_getElem? (i := 673) (by decide +kernel), List.mem_of_getElem? (i := 927) (by decide +kernel), List.mem_of_getElem? (i := 928) (by decide +kernel)⟩
theorem lw_p57 : lw_okq (⟨"LowLandModel", "isIn", "(III)Z"⟩, 44) := ⟨⟨by decide +kernel, by decide +kernel⟩, List.mem_of_getElem? (i := 673) (by decide +kernel), List.mem_of_getElem? (i := 931) (by decide +kernel), List.mem_of_getElem? (i := 932) (by decide +kernel)⟩
theorem lw_p58 : lw_okq (⟨"LowLandModel", "isWell", "(II)Z"⟩, 44) := ⟨⟨by decide +kernel, by decide +kernel⟩, List.mem_of_getElem? (i := 673) (by decide +kernel), List.mem_of_getElem? (i := 935) (by decide +kernel), List.mem_of_getElem? (i := 936) (by decide +kernel)⟩
theorem lw_p59 : lw_okq (⟨"LowLandModel", "breachOf", "(II)J"⟩, 44) := ⟨⟨by decide +kernel, by decide +kernel⟩, List.mem_of_getElem? (i := 673) (by decide +kernel), List.mem_of_getElem? (i := 939) (by decide +kernel), List.mem_of_getElem? (i := 940) (by decide +kernel)⟩
theorem lw_p60 : lw_okq (⟨"LowLandModel", "keeps", "()V"⟩, 44) := ⟨⟨by decide +kernel, by decide +kernel⟩, List.mem_of_getElem? (i := 673) (by decide +kernel), List.mem_of_getElem? (i := 943) (by decide +kernel), List.mem_of_getElem? (i := 944) (by decide +kernel)⟩
theorem lw_p61 : lw_okq (⟨"LowLandModel", "keepsPassed", "()V"⟩, 44) := ⟨⟨by decide +kernel, by decide +kernel⟩, List.mem_of_getElem? (i := 673) (by decide +kernel), List.mem_of_getElem? (i := 947) (by decide +kernel), List.mem_of_getElem? (i := 948) (by decide +kernel)⟩
theorem lw_p62 : lw_okq (⟨"LowLandModel", "gives", "()V"⟩, 44) := ⟨⟨by decide +kernel, by decide +kernel⟩, List.mem_of_getElem? (i := 673) (by decide +kernel), List.mem_of_getElem? (i := 951) (by decide +kernel), List.mem_of_getElem? (i := 952) (by decide +kernel)⟩
theorem lw_p63 : lw_okq (⟨"LowLandModel", "givesPassed", "()V"⟩, 44) := ⟨⟨by decide +kernel, by decide +kernel⟩, List.mem_of_getElem? (i := 673) (by decide +kernel), List.mem_of_getElem? (i := 955) (by decide +kernel), List.mem_of_getElem? (i := 956) (by decide +kernel)⟩
def lw_privs_4 : List (MethodName × Nat) := [(⟨"LowLandModel", "level", "(I)I"⟩, 44), (⟨"LowLandModel", "breach", "(I)I"⟩, 44), (⟨"LowLandModel", "isPaused", "(II)Z"⟩, 44), (⟨"LowLandModel", "turns", "(IZ)V"⟩, 44), (⟨"LowLandModel", "steps", "(I)I"⟩, 44), (⟨"LowLandModel", "flows", "(III)V"⟩, 44), (⟨"LowLandModel", "alarms", "()I"⟩, 44), (⟨"LowLandModel", "findPlan", "(I)V"⟩, 44), (⟨"LowLandModel", "isPlan", "(II)Z"⟩, 44), (⟨"LowLandModel", "isIn", "(III)Z"⟩, 44), (⟨"LowLandModel", "isWell", "(II)Z"⟩, 44), (⟨"LowLandModel", "breachOf", "(II)J"⟩, 44), (⟨"LowLandModel", "keeps", "()V"⟩, 44), (⟨"LowLandModel", "keepsPassed", "()V"⟩, 44), (⟨"LowLandModel", "gives", "()V"⟩, 44), (⟨"LowLandModel", "givesPassed", "()V"⟩, 44)]
theorem lw_r4 : ∀ q ∈ lw_privs_4, lw_okq q := List.forall_mem_cons.mpr ⟨lw_p48, List.forall_mem_cons.mpr ⟨lw_p49, List.forall_mem_cons.mpr ⟨lw_p50, List.forall_mem_cons.mpr ⟨lw_p51, List.forall_mem_cons.mpr ⟨lw_p52, List.forall_mem_cons.mpr ⟨lw_p53, List.forall_mem_cons.mpr ⟨lw_p54, List.forall_mem_cons.mpr ⟨lw_p55, List.forall_mem_cons.mpr ⟨lw_p56, List.forall_mem_cons.mpr ⟨lw_p57, List.forall_mem_cons.mpr ⟨lw_p58, List.forall_mem_cons.mpr ⟨lw_p59, List.forall_mem_cons.mpr ⟨lw_p60, List.forall_mem_cons.mpr ⟨lw_p61, List.forall_mem_cons.mpr ⟨lw_p62, List.forall_mem_cons.mpr ⟨lw_p63, fun _ h => absurd h List.not_mem_nil⟩⟩⟩⟩⟩⟩⟩⟩⟩⟩⟩⟩⟩⟩⟩⟩
theorem lw_p64 : lw_okq (⟨"LowLandModel", "costOf", "(II)J"⟩, 44) := ⟨⟨by decide +kernel, by decide +kernel⟩, List.mem_of_getElem? (i := 673) (by decide +kernel), List.mem_of_getElem? (i := 959) (by decide +kernel), List.mem_of_getElem? (i := 960) (by decide +kernel)⟩
theorem lw_p65 : lw_okq (⟨"LowLandModel", "bars", "(IIIII)I"⟩, 44) := ⟨⟨by decide +kernel, by decide +kernel⟩, List.mem_of_getElem? (i := 673) (by decide +kernel), List.mem_of_getElem? (i := 994) (by decide +kernel), List.mem_of_getElem? (i := 995) (by decide +kernel)⟩
def lw_privs_5 : List (MethodName × Nat) := [(⟨"LowLandModel", "costOf", "(II)J"⟩, 44), (⟨"LowLandModel", "bars", "(IIIII)I"⟩, 44)]
theorem lw_r5 : ∀ q ∈ lw_privs_5, lw_okq q := List.forall_mem_cons.mpr ⟨lw_p64, List.forall_mem_cons.mpr ⟨lw_p65, fun _ h => absurd h List.not_mem_nil⟩⟩
def lw_privs : List (MethodName × Nat) := lw_privs_1 ++ (lw_privs_2 ++ (lw_privs_3 ++ (lw_privs_4 ++ (lw_privs_5))))
def lw_tbl : List Cond := k2_sels lw_privs ++ tables_1
theorem lw_privs_ok : ∀ q ∈ lw_privs, lw_okq q := by
  show ∀ q ∈ lw_privs_1 ++ (lw_privs_2 ++ (lw_privs_3 ++ (lw_privs_4 ++ (lw_privs_5)))), lw_okq q
  exact List.forall_mem_append.mpr ⟨lw_r1, List.forall_mem_append.mpr ⟨lw_r2, List.forall_mem_append.mpr ⟨lw_r3, List.forall_mem_append.mpr ⟨lw_r4, lw_r5⟩⟩⟩⟩
def va_AOA (t : FieldType) (U : State) : Prop := (Cond.arrayOver (.array t)).before #[] U = true
theorem va_AOA.of {t : FieldType} {A : Array Value} {U : State} (h : (Cond.arrayOver (.array t)).before A U = true) : va_AOA t U := h
theorem va_AOA.use {t : FieldType} {A : Array Value} {U : State} (h : va_AOA t U) : (Cond.arrayOver (.array t)).before A U = true := h
/-! ===== BEGIN words of one list among another's, by their places ===== -/
theorem goodIn_r {big : List Cond} (ws : List Cond) (ps : List Nat) (hp : ws = ps.filterMap (fun i => big[i]?)) (h : ws.all goodWord = true) : GoodIn big ws := by
  intro w hw
  have h1 := List.all_eq_true.mp h w hw
  rw [hp] at hw
  obtain ⟨i, -, hi⟩ := List.mem_filterMap.mp hw
  have hm : w ∈ big := by first | exact List.mem_of_getElem? hi | exact List.getElem?_mem hi
  exact ⟨hm, good_of_word h1⟩
theorem goodIn_app {big a b : List Cond} (ha : GoodIn big a) (hb : GoodIn big b) : GoodIn big (a ++ b) := fun w h => (List.mem_append.mp h).elim (ha w) (hb w)
theorem goodIn_ca {big a b : List Cond} {c : Cond} (ha : GoodIn big (c :: a)) (hb : GoodIn big b) : GoodIn big (c :: (a ++ b)) := fun w h => (List.mem_cons.mp h).elim (fun e => ha w (List.mem_cons.mpr (Or.inl e))) (fun h => (List.mem_append.mp h).elim (fun h => ha w (List.mem_cons.mpr (Or.inr h))) (hb w))
theorem goodIn_sub {big ws : List Cond} (hm : ∀ w ∈ ws, w ∈ big) (h : ws.all goodWord = true) : GoodIn big ws := fun w hw => ⟨hm w hw, good_of_word (List.all_eq_true.mp h w hw)⟩
/-! ===== END ===== -/

/-! ===== BEGIN new T[n][m]: the outer array a place, the inner ones among the pooled ===== -/
/-- f, but v at every address of l -/
def vr_up {α : Type} (f : Nat → α) (l : List Nat) (v : α) : Nat → α := fun a => if a ∈ l then v else f a
theorem vr_up_in {α : Type} {f : Nat → α} {l : List Nat} {v : α} {a : Nat} (h : a ∈ l) : vr_up f l v a = v := if_pos h
theorem vr_up_ne {α : Type} {f : Nat → α} {l : List Nat} {v : α} {a : Nat} (h : a ∉ l) : vr_up f l v a = f a := if_neg h
theorem vr_rows {L l : List Nat} {f : Nat → va_E} {e : va_E} (h : ∀ a, a ∈ l → a ∉ L) : va_pl L f ++ l.map (fun a => (a, e)) = va_pl (L ++ l) (vr_up f l e) := by
  unfold va_pl
  rw [List.map_append]
  congr 1
  · apply List.map_congr_left
    intro a ha
    rw [vr_up_ne (fun q => h a q ha)]
  · apply List.map_congr_left
    intro a ha
    rw [vr_up_in ha]
theorem vr_lay {X rows : va_W} {x : Nat × va_E} {pl : va_W} {D : va_G} {cl : List vw_C} {H : Heap} (hP : va_P D cl (((X ++ pl) ++ [x]) ++ rows) H) : va_P D cl ((X ++ [x]) ++ (pl ++ rows)) H := by
  rw [List.append_assoc (X ++ pl)] at hP
  have h := va_P.swap hP
  rw [← List.append_assoc X] at h
  have h2 := va_P.swap h
  rw [List.append_assoc (X ++ [x])] at h2
  exact h2
theorem vr_layD {X rows : va_W} {x : Nat × va_E} {pl : va_W} {A : Nat → Prop} (hD : va_D A (((X ++ pl) ++ [x]) ++ rows)) : va_D A ((X ++ [x]) ++ (pl ++ rows)) := by
  rw [List.append_assoc (X ++ pl)] at hD
  have h := va_D.swap hD
  rw [← List.append_assoc X] at h
  have h2 := va_D.swap h
  rw [List.append_assoc (X ++ [x])] at h2
  exact h2
theorem vr_outer (c : ClassId) (N h0 : Nat) : ∀ i : Nat, Jvm.Free.Multi.outerC c N h0 i = arrV c N (fun j => va_rf (if j < i then some (h0 + 1 + j) else none))
  | 0 => by
    show ({ cls := c, slots := Array.replicate N .null, vm := .none } : Cell) = _
    rw [arrV_new]
    refine congrArg (arrV c N) (funext fun j => ?_)
    simp [va_rf]
  | i + 1 => by
    show (Jvm.Free.Multi.outerC c N h0 i).setSlot i (.ref (h0 + 1 + i)) = _
    rw [vr_outer c N h0 i, arrV_store]
    refine congrArg (arrV c N) (funext fun j => ?_)
    by_cases e : j = i
    · subst e
      simp [updV, va_rf]
    · by_cases h : j < i
      · simp [updV, e, h, Nat.lt_succ_of_lt h]
      · simp [updV, e, h, show ¬ j < i + 1 by omega]
section VGM
variable {p : Program} {l : Launch} {e : Env} {R : Room} {s : State} {m : MethodId} {args : Array Value} {below : List Frame} {meth : Method} {c : Code} {H : Heap} {locs : List Loc} {cells slots : Nat} {Q : State → Prop}
variable {cc : ByteArray} {pc : Nat} {ls : Array Slot} {rest : List Value} {D : va_G} {cl : List vw_C} {A : Nat → Prop} {a : Nat} {tys : List (ClassId × FieldType)} {ws : va_W} {H0 : Heap}
theorem va_mna {X : va_W} {L : List Nat} {f : Nat → va_E} {cc : ByteArray} (hexec : p.tables.exec = Jvm.exec) (hb : c.code = cc) {own : String} {index : Nat} {ty : FieldType} {cy : ClassId} (hown : s.vm.findClass own = some m.cls) (hclink : (Cond.classLink own index ("[" ++ (FieldType.array ty).toString)).before args s = true) (hover : va_AOA ty s) (harr : (Cond.arrayClass ty).before args s = true) (hcy : s.vm.findClass (FieldType.array ty).toString = some cy)
    (hK : va_K D cl tys s) (hP : va_P D cl (X ++ va_pl L f) H) (hD : va_D A (X ++ va_pl L f)) (hS : va_S A H0 H locs) (hA : ∀ q, H0.size ≤ q → A q) {n k : Int32} {N' K' : Nat} {z : vp_A} (hn : ¬ n < 0) (hk : ¬ k < 0) (hN : n.toNatClampNeg = N') (hM : k.toNatClampNeg = K')
    (hb1 : N' * 4 ≤ 536870912) (hb2 : K' * componentBytes ty ≤ 536870912) (hb3 : K' ≤ 536870912) (hdf : fits ty (defaultValue ty) = true) (hdd : (defaultValue ty).isDefault = true) (hcells : cells + (1 + N') ≤ R.cells) (hslots : slots + (N' + N' * K') ≤ R.slots) (hz : ∀ c : ClassId, Jvm.Free.Multi.innerC c K' (defaultValue ty) = vp_cell c z) (hdg : decode cc pc = .ok (.multianewarray index 2, 4))
    (kk : ∀ (q : Nat) (r : Nat → Nat) (cA : ClassId) (H1 : Heap), (∀ i j : Nat, i < N' → j < N' → r i = r j → i = j) → (∀ i : Nat, i < N' → r i ∉ L) → va_K D cl (tys ++ [(cA, .array ty)]) s →
      va_P D cl ((X ++ [(q, .inl (cA, N', .inr (.inr (.inr (.inr (fun i => if i < N' then some (r i) else none))))))]) ++ va_pl (L ++ (List.range N').map r) (vr_up f ((List.range N').map r) (.inl (cy, z)))) H1 → va_D A ((X ++ [(q, .inl (cA, N', .inr (.inr (.inr (.inr (fun i => if i < N' then some (r i) else none))))))]) ++ va_pl (L ++ (List.range N').map r) (vr_up f ((List.range N').map r) (.inl (cy, z)))) → va_S A H0 H1 locs →
      W p l e R s m args below meth c H1 locs (cells + 1 + N') (slots + N' + N' * K') Q (F0 m (pc + 4) ls (.ref q :: rest))) : W p l e R s m args below meth c H locs cells slots Q (F0 m pc ls (.int k :: .int n :: rest)) := by
  subst hN
  subst hM
  intro T hT Xs
  obtain ⟨vm₁, cA, comp, -, fA, fC, hO, -, X', step⟩ := Xs.multianewarray2F hexec hown hclink (va_AOA.use hover) harr (g := F0 m pc ls (.int k :: .int n :: rest)) rfl (by rw [hb]; exact hdg) rfl hn hk hb1 hb2 hb3 hdf hdd hcells hslots
  have ec : some cy = some comp := hcy.symm.trans fC
  cases ec
  generalize hF : Jvm.Free.Multi.fill (T.setVm vm₁) cA cy n.toNatClampNeg k.toNatClampNeg (defaultValue ty) n.toNatClampNeg = F at X' step
  have hTh : (T.setVm vm₁).heap = H := hT
  obtain ⟨f1, f2, -, -⟩ := Jvm.Free.Multi.fill_facts (T.setVm vm₁) cA cy n.toNatClampNeg k.toNatClampNeg (defaultValue ty) n.toNatClampNeg
  rw [hF, hTh] at f1 f2
  have hold : ∀ x : Nat, x < H.size → F.heap[x]? = H[x]? := fun x hx => by
    have := Jvm.Free.Multi.fill_old (T.setVm vm₁) cA cy n.toNatClampNeg k.toNatClampNeg (defaultValue ty) (a := x) (by rw [hTh]; exact hx) n.toNatClampNeg
    rw [hF, hTh] at this
    exact this
  have hrow : ∀ j : Nat, j < n.toNatClampNeg → F.heap[H.size + 1 + j]? = some (vp_cell cy z) := fun j hj => by
    have := Jvm.Free.Multi.fill_inner (T.setVm vm₁) cA cy n.toNatClampNeg k.toNatClampNeg (defaultValue ty) n.toNatClampNeg j hj
    rw [hF, hTh, hz] at this
    exact this
  have hout : Jvm.Free.Multi.outerC cA n.toNatClampNeg H.size n.toNatClampNeg = vp_cell cA (n.toNatClampNeg, .inr (.inr (.inr (.inr (fun i => if i < n.toNatClampNeg then some (H.size + 1 + i) else none))))) := by
    rw [vp_cell_q]
    exact vr_outer cA n.toNatClampNeg H.size n.toNatClampNeg
  rw [hout] at f2
  have hlt : ∀ a, a ∈ L → a < H.size := fun a ha => by
    obtain ⟨k9, hk9⟩ := va_pl_get (X := X) (f := f) ha
    exact (hP k9 _ hk9).lt
  have hnl : ∀ i : Nat, i < n.toNatClampNeg → H.size + 1 + i ∉ L := fun i _ h => by
    have := hlt _ h
    omega
  have hnm : ∀ a, a ∈ (List.range n.toNatClampNeg).map (fun i => H.size + 1 + i) → a ∉ L := fun a ha h => by
    obtain ⟨i, -, rfl⟩ := List.mem_map.mp ha
    have := hlt _ h
    omega
  have hP0 : va_P D cl (X ++ va_pl L f) F.heap := hP.kept (fun k9 x hx => hold x.1 ((hP k9 x hx).lt))
  have hP1 : va_P D cl ((X ++ va_pl L f) ++ [(H.size, .inl (cA, n.toNatClampNeg, .inr (.inr (.inr (.inr (fun i => if i < n.toNatClampNeg then some (H.size + 1 + i) else none))))))]) F.heap := hP0.app (fun k9 x hx => by
    have h0 : k9 < 1 := (List.getElem?_eq_some_iff.mp hx).1
    rw [show k9 = 0 by omega] at hx
    cases hx
    exact f2)
  have hP2 : va_P D cl (((X ++ va_pl L f) ++ [(H.size, .inl (cA, n.toNatClampNeg, .inr (.inr (.inr (.inr (fun i => if i < n.toNatClampNeg then some (H.size + 1 + i) else none))))))]) ++ ((List.range n.toNatClampNeg).map (fun i => H.size + 1 + i)).map (fun a => (a, .inl (cy, z)))) F.heap := hP1.app (fun k9 x hx => by
    obtain ⟨a, ha, rfl⟩ := List.mem_map.mp (List.mem_of_getElem? hx)
    obtain ⟨i, hi, rfl⟩ := List.mem_map.mp ha
    exact hrow i (List.mem_range.mp hi))
  have hD2 : va_D A (((X ++ va_pl L f) ++ [(H.size, .inl (cA, n.toNatClampNeg, .inr (.inr (.inr (.inr (fun i => if i < n.toNatClampNeg then some (H.size + 1 + i) else none))))))]) ++ ((List.range n.toNatClampNeg).map (fun i => H.size + 1 + i)).map (fun a => (a, .inl (cy, z)))) := by
    have hD1 := hD.push (e := .inl (cA, n.toNatClampNeg, .inr (.inr (.inr (.inr (fun i => if i < n.toNatClampNeg then some (H.size + 1 + i) else none)))))) hP rfl (hA _ hS.1)
    generalize hW1 : (X ++ va_pl L f) ++ [(H.size, .inl (cA, n.toNatClampNeg, .inr (.inr (.inr (.inr (fun i => if i < n.toNatClampNeg then some (H.size + 1 + i) else none))))))] = W1 at hD1 hP1 ⊢
    have hle : ∀ (k9 : Nat) (x : Nat × va_E), W1[k9]? = some x → x.1 ≤ H.size := fun k9 x hx => by
      rw [← hW1] at hx
      by_cases hl : k9 < (X ++ va_pl L f).length
      · rw [List.getElem?_append_left hl] at hx
        exact Nat.le_of_lt ((hP k9 x hx).lt)
      · rw [List.getElem?_append_right (by omega)] at hx
        have h0 : k9 - (X ++ va_pl L f).length < 1 := (List.getElem?_eq_some_iff.mp hx).1
        rw [show k9 - (X ++ va_pl L f).length = 0 by omega] at hx
        cases hx
        exact Nat.le_refl _
    have hr : ∀ (k9 : Nat) (x : Nat × va_E), (((List.range n.toNatClampNeg).map (fun i => H.size + 1 + i)).map (fun a => ((a, .inl (cy, z)) : Nat × va_E)))[k9]? = some x → x.1 = H.size + 1 + k9 := fun k9 x hx => by
      rw [List.getElem?_map, List.getElem?_map] at hx
      by_cases h9 : k9 < n.toNatClampNeg
      · rw [List.getElem?_range h9] at hx
        cases hx
        rfl
      · have hn0 : (List.range n.toNatClampNeg)[k9]? = none := List.getElem?_eq_none (by rw [List.length_range]; omega)
        rw [hn0] at hx
        cases hx
    refine ⟨fun i j x y hi hj hxy => ?_, fun k9 x hx => ?_⟩
    · by_cases h1 : i < W1.length <;> by_cases h2 : j < W1.length
      · rw [List.getElem?_append_left h1] at hi
        rw [List.getElem?_append_left h2] at hj
        exact hD1.1 i j x y hi hj hxy
      · rw [List.getElem?_append_left h1] at hi
        rw [List.getElem?_append_right (by omega)] at hj
        have := hle _ _ hi
        have := hr _ _ hj
        omega
      · rw [List.getElem?_append_right (by omega)] at hi
        rw [List.getElem?_append_left h2] at hj
        have := hle _ _ hj
        have := hr _ _ hi
        omega
      · rw [List.getElem?_append_right (by omega)] at hi hj
        have := hr _ _ hi
        have := hr _ _ hj
        omega
    · by_cases h1 : k9 < W1.length
      · rw [List.getElem?_append_left h1] at hx
        exact hD1.2 k9 x hx
      · rw [List.getElem?_append_right (by omega)] at hx
        have := hr _ _ hx
        exact hA _ (by have := hS.1; omega)
  have hAr : ArrOfT s cA (.array ty) := fun N9 z9 => by
    obtain ⟨-, k9, hk9, cm9, hkk9⟩ := (hO 0 0 0).1
    exact ⟨(fun q hq => by cases hq), k9, hk9, cm9, hkk9⟩
  have hK2 : va_K D cl (tys ++ [(cA, .array ty)]) s := ⟨hK.1, fun k9 x hx => by
    by_cases hl : k9 < tys.length
    · rw [List.getElem?_append_left hl] at hx
      exact hK.2 k9 x hx
    · rw [List.getElem?_append_right (by omega)] at hx
      have h0 : k9 - tys.length < 1 := (List.getElem?_eq_some_iff.mp hx).1
      rw [show k9 - tys.length = 0 by omega] at hx
      cases hx
      exact ⟨hAr, fA⟩⟩
  obtain ⟨t, a1, b1⟩ := kk H.size (fun i => H.size + 1 + i) cA F.heap (fun i j _ _ h => by have h9 : H.size + 1 + i = H.size + 1 + j := h; omega) hnl hK2 (by rw [← vr_rows hnm]; exact vr_lay hP2) (by rw [← vr_rows hnm]; exact vr_layD hD2) ⟨by rw [f1]; have := hS.1; omega, fun x h1 h2 => (hold x (Nat.lt_of_lt_of_le h1 hS.1)).trans (hS.2.1 x h1 h2), hS.2.2⟩ F rfl X'
  refine ⟨t, step t ?_, b1⟩
  have e : T.heap.size = H.size := by rw [hT]
  rw [e]
  exact a1
end VGM
/-! ===== END ===== -/

def RX0 : String := "LowLand$Ditches"
def TX0 : u_T := fun k => match k with
  | 0 => ("LowLand$Ditches", "area", "[I", true)
  | 1 => ("LowLand$Ditches", "bed", "[I", true)
  | 2 => ("LowLand$Ditches", "low", "[I", true)
  | 3 => ("LowLand$Ditches", "high", "[I", true)
  | 4 => ("LowLand$Ditches", "water", "[I", true)
  | 5 => ("LowLand$Ditches", "rained", "[I", true)
  | 6 => ("LowLand$Ditches", "drained", "[I", true)
  | _ => ("LowLand$Ditches", "size", "I", false)
def tyX0 : Nat → FieldType := fun k => match k with
  | 0 => .array .int
  | 1 => .array .int
  | 2 => .array .int
  | 3 => .array .int
  | 4 => .array .int
  | 5 => .array .int
  | 6 => .array .int
  | _ => .int
abbrev wsX00 : List Cond := u_ws RX0 TX0 8
theorem nmX0 : ∀ a, a < 8 → ∀ b, b < 8 → a ≠ b → (TX0 a).2.1 ≠ (TX0 b).2.1 := by decide +kernel
theorem tyX0_ok : ∀ k, k < 8 → parseFieldDescriptor (TX0 k).2.2.1 = some (tyX0 k) := by decide +kernel
abbrev cX0_init : ByteArray := prog_2_method_1_code
def yX0_init : MethodName := ⟨RX0, "<init>", "()V"⟩
abbrev cX0_add : ByteArray := prog_2_method_2_code
def yX0_add : MethodName := ⟨RX0, "add", "(III)I"⟩
abbrev cX0_has : ByteArray := prog_2_method_3_code
def yX0_has : MethodName := ⟨RX0, "has", "(I)Z"⟩
abbrev cX0_level : ByteArray := prog_2_method_4_code
def yX0_level : MethodName := ⟨RX0, "level", "(I[I)I"⟩
abbrev cX0_breach : ByteArray := prog_2_method_5_code
def yX0_breach : MethodName := ⟨RX0, "breach", "(I[I)I"⟩
abbrev cX0_allBreach : ByteArray := prog_2_method_6_code
def yX0_allBreach : MethodName := ⟨RX0, "allBreach", "([I)J"⟩
abbrev cX0_alarms : ByteArray := prog_2_method_7_code
def yX0_alarms : MethodName := ⟨RX0, "alarms", "()I"⟩
abbrev cX0_allWater : ByteArray := prog_2_method_8_code
def yX0_allWater : MethodName := ⟨RX0, "allWater", "()I"⟩
def RX1 : String := "LowLand$Flow"
def TX1 : u_T := fun k => match k with
  | 0 => ("LowLand$Flow", "weirs", "[I", true)
  | 1 => ("LowLand$Flow", "pumps", "[I", true)
  | _ => ("LowLand$Flow", "sluices", "[I", true)
def tyX1 : Nat → FieldType := fun k => match k with
  | 0 => .array .int
  | 1 => .array .int
  | _ => .array .int
abbrev wsX10 : List Cond := u_ws RX1 TX1 3
theorem nmX1 : ∀ a, a < 3 → ∀ b, b < 3 → a ≠ b → (TX1 a).2.1 ≠ (TX1 b).2.1 := by decide +kernel
theorem tyX1_ok : ∀ k, k < 3 → parseFieldDescriptor (TX1 k).2.2.1 = some (tyX1 k) := by decide +kernel
abbrev cX1_init : ByteArray := prog_3_method_1_code
def yX1_init : MethodName := ⟨RX1, "<init>", "()V"⟩
def RX2 : String := "LowLand$Land"
def TX2 : u_T := fun k => match k with
  | 0 => ("LowLand$Land", "ditches", "LLowLand$Ditches;", true)
  | 1 => ("LowLand$Land", "weirs", "LLowLand$Weirs;", true)
  | 2 => ("LowLand$Land", "pumps", "LLowLand$Pumps;", true)
  | 3 => ("LowLand$Land", "sluices", "LLowLand$Sluices;", true)
  | 4 => ("LowLand$Land", "latest", "LLowLand$Flow;", true)
  | 5 => ("LowLand$Land", "tide", "[I", true)
  | 6 => ("LowLand$Land", "price", "[I", true)
  | 7 => ("LowLand$Land", "hour", "I", false)
  | _ => ("LowLand$Land", "spent", "I", false)
def tyX2 : Nat → FieldType := fun k => match k with
  | 0 => .object "LowLand$Ditches"
  | 1 => .object "LowLand$Weirs"
  | 2 => .object "LowLand$Pumps"
  | 3 => .object "LowLand$Sluices"
  | 4 => .object "LowLand$Flow"
  | 5 => .array .int
  | 6 => .array .int
  | 7 => .int
  | _ => .int
abbrev wsX20 : List Cond := u_ws RX2 TX2 9
theorem nmX2 : ∀ a, a < 9 → ∀ b, b < 9 → a ≠ b → (TX2 a).2.1 ≠ (TX2 b).2.1 := by decide +kernel
theorem tyX2_ok : ∀ k, k < 9 → parseFieldDescriptor (TX2 k).2.2.1 = some (tyX2 k) := by decide +kernel
abbrev cX2_init : ByteArray := prog_4_method_1_code
def yX2_init : MethodName := ⟨RX2, "<init>", "()V"⟩
abbrev cX2_advance : ByteArray := prog_4_method_2_code
def yX2_advance : MethodName := ⟨RX2, "advance", "(I)I"⟩
abbrev cX2_drain : ByteArray := prog_4_method_3_code
def yX2_drain : MethodName := ⟨RX2, "drain", "()V"⟩
abbrev cX2_cost : ByteArray := prog_4_method_4_code
def yX2_cost : MethodName := ⟨RX2, "cost", "(II)I"⟩
abbrev cX2_move : ByteArray := prog_4_method_5_code
def yX2_move : MethodName := ⟨RX2, "move", "([IIIILLowLand$Flow;)V"⟩
abbrev cX2_passWeir : ByteArray := prog_4_method_6_code
def yX2_passWeir : MethodName := ⟨RX2, "passWeir", "(I[I)I"⟩
abbrev cX2_passPump : ByteArray := prog_4_method_7_code
def yX2_passPump : MethodName := ⟨RX2, "passPump", "(I[I)I"⟩
abbrev cX2_passSluice : ByteArray := prog_4_method_8_code
def yX2_passSluice : MethodName := ⟨RX2, "passSluice", "(I[II)I"⟩
def RX3 : String := "LowLand$Planner"
def TX3 : u_T := fun k => match k with
  | 0 => ("LowLand$Planner", "land", "LLowLand$Land;", true)
  | 1 => ("LowLand$Planner", "worlds", "LLowLand$Worlds;", true)
  | 2 => ("LowLand$Planner", "waters", "[[I", true)
  | 3 => ("LowLand$Planner", "flow", "LLowLand$Flow;", true)
  | 4 => ("LowLand$Planner", "hours", "I", false)
  | 5 => ("LowLand$Planner", "number", "I", false)
  | 6 => ("LowLand$Planner", "cost", "J", false)
  | _ => ("LowLand$Planner", "breach", "J", false)
def tyX3 : Nat → FieldType := fun k => match k with
  | 0 => .object "LowLand$Land"
  | 1 => .object "LowLand$Worlds"
  | 2 => .array (.array .int)
  | 3 => .object "LowLand$Flow"
  | 4 => .int
  | 5 => .int
  | 6 => .long
  | _ => .long
abbrev wsX30 : List Cond := u_ws RX3 TX3 8
theorem nmX3 : ∀ a, a < 8 → ∀ b, b < 8 → a ≠ b → (TX3 a).2.1 ≠ (TX3 b).2.1 := by decide +kernel
theorem tyX3_ok : ∀ k, k < 8 → parseFieldDescriptor (TX3 k).2.2.1 = some (tyX3 k) := by decide +kernel
abbrev cX3_init : ByteArray := prog_5_method_1_code
def yX3_init : MethodName := ⟨RX3, "<init>", "(LLowLand$Land;LLowLand$Worlds;)V"⟩
abbrev cX3_seek : ByteArray := prog_5_method_2_code
def yX3_seek : MethodName := ⟨RX3, "seek", "(I)V"⟩
abbrev cX3_grow : ByteArray := prog_5_method_3_code
def yX3_grow : MethodName := ⟨RX3, "grow", "(LLowLand$Planner;IIJJ)V"⟩
abbrev cX3_isBetter : ByteArray := prog_5_method_4_code
def yX3_isBetter : MethodName := ⟨RX3, "isBetter", "(IJJ)Z"⟩
abbrev cX3_tells : ByteArray := prog_5_method_5_code
def yX3_tells : MethodName := ⟨RX3, "tells", "(III)Z"⟩
abbrev cX3_bitsOf : ByteArray := prog_5_method_6_code
def yX3_bitsOf : MethodName := ⟨RX3, "bitsOf", "(II)I"⟩
abbrev cX3_isPlan : ByteArray := prog_5_method_7_code
def yX3_isPlan : MethodName := ⟨RX3, "isPlan", "(II)Z"⟩
abbrev cX3_isWell : ByteArray := prog_5_method_8_code
def yX3_isWell : MethodName := ⟨RX3, "isWell", "(II)Z"⟩
abbrev cX3_fits : ByteArray := prog_5_method_9_code
def yX3_fits : MethodName := ⟨RX3, "fits", "(II)Z"⟩
abbrev cX3_mayEnd : ByteArray := prog_5_method_10_code
def yX3_mayEnd : MethodName := ⟨RX3, "mayEnd", "(III)Z"⟩
abbrev cX3_costOf : ByteArray := prog_5_method_11_code
def yX3_costOf : MethodName := ⟨RX3, "costOf", "(II)J"⟩
abbrev cX3_breachOf : ByteArray := prog_5_method_12_code
def yX3_breachOf : MethodName := ⟨RX3, "breachOf", "(II)J"⟩
abbrev cX3_begin : ByteArray := prog_5_method_13_code
def yX3_begin : MethodName := ⟨RX3, "begin", "()V"⟩
abbrev cX3_tread : ByteArray := prog_5_method_14_code
def yX3_tread : MethodName := ⟨RX3, "tread", "(II)J"⟩
def RX4 : String := "LowLand$Pumps"
def TX4 : u_T := fun k => match k with
  | 0 => ("LowLand$Pumps", "from", "[I", true)
  | 1 => ("LowLand$Pumps", "to", "[I", true)
  | 2 => ("LowLand$Pumps", "rate", "[I", true)
  | 3 => ("LowLand$Pumps", "least", "[I", true)
  | 4 => ("LowLand$Pumps", "pauses", "[I", true)
  | 5 => ("LowLand$Pumps", "cameOn", "[I", true)
  | 6 => ("LowLand$Pumps", "on", "I", false)
  | _ => ("LowLand$Pumps", "size", "I", false)
def tyX4 : Nat → FieldType := fun k => match k with
  | 0 => .array .int
  | 1 => .array .int
  | 2 => .array .int
  | 3 => .array .int
  | 4 => .array .int
  | 5 => .array .int
  | 6 => .int
  | _ => .int
abbrev wsX40 : List Cond := u_ws RX4 TX4 8
theorem nmX4 : ∀ a, a < 8 → ∀ b, b < 8 → a ≠ b → (TX4 a).2.1 ≠ (TX4 b).2.1 := by decide +kernel
theorem tyX4_ok : ∀ k, k < 8 → parseFieldDescriptor (TX4 k).2.2.1 = some (tyX4 k) := by decide +kernel
abbrev cX4_init : ByteArray := prog_6_method_1_code
def yX4_init : MethodName := ⟨RX4, "<init>", "()V"⟩
abbrev cX4_add : ByteArray := prog_6_method_2_code
def yX4_add : MethodName := ⟨RX4, "add", "(IIIII)I"⟩
abbrev cX4_has : ByteArray := prog_6_method_3_code
def yX4_has : MethodName := ⟨RX4, "has", "(I)Z"⟩
abbrev cX4_isOn : ByteArray := prog_6_method_4_code
def yX4_isOn : MethodName := ⟨RX4, "isOn", "(I)Z"⟩
abbrev cX4_pausesAt : ByteArray := prog_6_method_5_code
def yX4_pausesAt : MethodName := ⟨RX4, "pausesAt", "(II)Z"⟩
abbrev cX4_mustStayOff : ByteArray := prog_6_method_6_code
def yX4_mustStayOff : MethodName := ⟨RX4, "mustStayOff", "(II)Z"⟩
abbrev cX4_mustRunOn : ByteArray := prog_6_method_7_code
def yX4_mustRunOn : MethodName := ⟨RX4, "mustRunOn", "(II)Z"⟩
abbrev cX4_put : ByteArray := prog_6_method_8_code
def yX4_put : MethodName := ⟨RX4, "put", "(IZI)V"⟩
abbrev cX4_awake : ByteArray := prog_6_method_9_code
def yX4_awake : MethodName := ⟨RX4, "awake", "(II)I"⟩
abbrev cX4_inPlans : ByteArray := prog_6_method_10_code
def yX4_inPlans : MethodName := ⟨RX4, "inPlans", "()I"⟩
def RX5 : String := "LowLand$Sheets"
def TX5 : u_T := fun k => match k with
  | 0 => ("LowLand$Sheets", "cells", "[[I", true)
  | 1 => ("LowLand$Sheets", "lanes", "[I", true)
  | _ => ("LowLand$Sheets", "sizes", "[I", true)
def tyX5 : Nat → FieldType := fun k => match k with
  | 0 => .array (.array .int)
  | 1 => .array .int
  | _ => .array .int
abbrev wsX50 : List Cond := u_ws RX5 TX5 3
theorem nmX5 : ∀ a, a < 3 → ∀ b, b < 3 → a ≠ b → (TX5 a).2.1 ≠ (TX5 b).2.1 := by decide +kernel
theorem tyX5_ok : ∀ k, k < 3 → parseFieldDescriptor (TX5 k).2.2.1 = some (tyX5 k) := by decide +kernel
abbrev cX5_init : ByteArray := prog_7_method_1_code
def yX5_init : MethodName := ⟨RX5, "<init>", "()V"⟩
abbrev cX5_clear : ByteArray := prog_7_method_2_code
def yX5_clear : MethodName := ⟨RX5, "clear", "(III)V"⟩
abbrev cX5_isNothing : ByteArray := prog_7_method_3_code
def yX5_isNothing : MethodName := ⟨RX5, "isNothing", "(I)Z"⟩
abbrev cX5_hasCell : ByteArray := prog_7_method_4_code
def yX5_hasCell : MethodName := ⟨RX5, "hasCell", "(II)Z"⟩
abbrev cX5_put : ByteArray := prog_7_method_5_code
def yX5_put : MethodName := ⟨RX5, "put", "(III)V"⟩
abbrev cX5_faultAs : ByteArray := prog_7_method_6_code
def yX5_faultAs : MethodName := ⟨RX5, "faultAs", "(II)I"⟩
def RX6 : String := "LowLand$Sluices"
def TX6 : u_T := fun k => match k with
  | 0 => ("LowLand$Sluices", "from", "[I", true)
  | 1 => ("LowLand$Sluices", "width", "[I", true)
  | 2 => ("LowLand$Sluices", "stands", "[Z", true)
  | _ => ("LowLand$Sluices", "size", "I", false)
def tyX6 : Nat → FieldType := fun k => match k with
  | 0 => .array .int
  | 1 => .array .int
  | 2 => .array .boolean
  | _ => .int
abbrev wsX60 : List Cond := u_ws RX6 TX6 4
theorem nmX6 : ∀ a, a < 4 → ∀ b, b < 4 → a ≠ b → (TX6 a).2.1 ≠ (TX6 b).2.1 := by decide +kernel
theorem tyX6_ok : ∀ k, k < 4 → parseFieldDescriptor (TX6 k).2.2.1 = some (tyX6 k) := by decide +kernel
abbrev cX6_init : ByteArray := prog_8_method_1_code
def yX6_init : MethodName := ⟨RX6, "<init>", "()V"⟩
abbrev cX6_add : ByteArray := prog_8_method_2_code
def yX6_add : MethodName := ⟨RX6, "add", "(II)I"⟩
abbrev cX6_has : ByteArray := prog_8_method_3_code
def yX6_has : MethodName := ⟨RX6, "has", "(I)Z"⟩
def RX7 : String := "LowLand$Weirs"
def TX7 : u_T := fun k => match k with
  | 0 => ("LowLand$Weirs", "from", "[I", true)
  | 1 => ("LowLand$Weirs", "to", "[I", true)
  | 2 => ("LowLand$Weirs", "crest", "[I", true)
  | 3 => ("LowLand$Weirs", "width", "[I", true)
  | _ => ("LowLand$Weirs", "size", "I", false)
def tyX7 : Nat → FieldType := fun k => match k with
  | 0 => .array .int
  | 1 => .array .int
  | 2 => .array .int
  | 3 => .array .int
  | _ => .int
abbrev wsX70 : List Cond := u_ws RX7 TX7 5
theorem nmX7 : ∀ a, a < 5 → ∀ b, b < 5 → a ≠ b → (TX7 a).2.1 ≠ (TX7 b).2.1 := by decide +kernel
theorem tyX7_ok : ∀ k, k < 5 → parseFieldDescriptor (TX7 k).2.2.1 = some (tyX7 k) := by decide +kernel
abbrev cX7_init : ByteArray := prog_9_method_1_code
def yX7_init : MethodName := ⟨RX7, "<init>", "()V"⟩
abbrev cX7_add : ByteArray := prog_9_method_2_code
def yX7_add : MethodName := ⟨RX7, "add", "(IIII)I"⟩
abbrev cX7_has : ByteArray := prog_9_method_3_code
def yX7_has : MethodName := ⟨RX7, "has", "(I)Z"⟩
def RX8 : String := "LowLand$Worlds"
def TX8 : u_T := fun k => match k with
  | 0 => ("LowLand$Worlds", "rain", "[[I", true)
  | _ => ("LowLand$Worlds", "size", "I", false)
def tyX8 : Nat → FieldType := fun k => match k with
  | 0 => .array (.array .int)
  | _ => .int
abbrev wsX80 : List Cond := u_ws RX8 TX8 2
theorem nmX8 : ∀ a, a < 2 → ∀ b, b < 2 → a ≠ b → (TX8 a).2.1 ≠ (TX8 b).2.1 := by decide +kernel
theorem tyX8_ok : ∀ k, k < 2 → parseFieldDescriptor (TX8 k).2.2.1 = some (tyX8 k) := by decide +kernel
abbrev cX8_init : ByteArray := prog_10_method_1_code
def yX8_init : MethodName := ⟨RX8, "<init>", "()V"⟩
abbrev cX8_add : ByteArray := prog_10_method_2_code
def yX8_add : MethodName := ⟨RX8, "add", "()I"⟩
abbrev cX8_has : ByteArray := prog_10_method_3_code
def yX8_has : MethodName := ⟨RX8, "has", "(I)Z"⟩
abbrev cX8_tried : ByteArray := prog_10_method_4_code
def yX8_tried : MethodName := ⟨RX8, "tried", "()I"⟩
def RX9 : String := "LowLand"
def TX9 : u_T := fun k => match k with
  | 0 => ("LowLand", "land", "LLowLand$Land;", true)
  | 1 => ("LowLand", "worlds", "LLowLand$Worlds;", true)
  | 2 => ("LowLand", "planner", "LLowLand$Planner;", true)
  | _ => ("LowLand", "sheets", "LLowLand$Sheets;", true)
def tyX9 : Nat → FieldType := fun k => match k with
  | 0 => .object "LowLand$Land"
  | 1 => .object "LowLand$Worlds"
  | 2 => .object "LowLand$Planner"
  | _ => .object "LowLand$Sheets"
abbrev wsX90 : List Cond := u_ws RX9 TX9 4
theorem nmX9 : ∀ a, a < 4 → ∀ b, b < 4 → a ≠ b → (TX9 a).2.1 ≠ (TX9 b).2.1 := by decide +kernel
theorem tyX9_ok : ∀ k, k < 4 → parseFieldDescriptor (TX9 k).2.2.1 = some (tyX9 k) := by decide +kernel
abbrev cX9_init : ByteArray := prog_1_method_1_code
def yX9_init : MethodName := ⟨RX9, "<init>", "()V"⟩
abbrev cX9_ditch : ByteArray := prog_1_method_2_code
def yX9_ditch : MethodName := ⟨RX9, "ditch", "(III)I"⟩
abbrev cX9_band : ByteArray := prog_1_method_3_code
def yX9_band : MethodName := ⟨RX9, "band", "(III)I"⟩
abbrev cX9_told : ByteArray := prog_1_method_4_code
def yX9_told : MethodName := ⟨RX9, "told", "(II)I"⟩
abbrev cX9_weir : ByteArray := prog_1_method_5_code
def yX9_weir : MethodName := ⟨RX9, "weir", "(IIII)I"⟩
abbrev cX9_pump : ByteArray := prog_1_method_6_code
def yX9_pump : MethodName := ⟨RX9, "pump", "(IIIII)I"⟩
abbrev cX9_sluice : ByteArray := prog_1_method_7_code
def yX9_sluice : MethodName := ⟨RX9, "sluice", "(II)I"⟩
abbrev cX9_turn : ByteArray := prog_1_method_8_code
def yX9_turn : MethodName := ⟨RX9, "turn", "(IZ)I"⟩
abbrev cX9_open : ByteArray := prog_1_method_9_code
def yX9_open : MethodName := ⟨RX9, "open", "(IZ)I"⟩
abbrev cX9_tide : ByteArray := prog_1_method_10_code
def yX9_tide : MethodName := ⟨RX9, "tide", "(II)I"⟩
abbrev cX9_price : ByteArray := prog_1_method_11_code
def yX9_price : MethodName := ⟨RX9, "price", "(II)I"⟩
abbrev cX9_step : ByteArray := prog_1_method_12_code
def yX9_step : MethodName := ⟨RX9, "step", "(I)I"⟩
abbrev cX9_passed : ByteArray := prog_1_method_13_code
def yX9_passed : MethodName := ⟨RX9, "passed", "(II)I"⟩
abbrev cX9_world : ByteArray := prog_1_method_14_code
def yX9_world : MethodName := ⟨RX9, "world", "()I"⟩
abbrev cX9_foretell : ByteArray := prog_1_method_15_code
def yX9_foretell : MethodName := ⟨RX9, "foretell", "(III)I"⟩
abbrev cX9_plan : ByteArray := prog_1_method_16_code
def yX9_plan : MethodName := ⟨RX9, "plan", "(I)I"⟩
abbrev cX9_planned : ByteArray := prog_1_method_17_code
def yX9_planned : MethodName := ⟨RX9, "planned", "(II)J"⟩
abbrev cX9_judge : ByteArray := prog_1_method_18_code
def yX9_judge : MethodName := ⟨RX9, "judge", "(III)J"⟩
abbrev cX9_follow : ByteArray := prog_1_method_19_code
def yX9_follow : MethodName := ⟨RX9, "follow", "(I)I"⟩
abbrev cX9_sheet : ByteArray := prog_1_method_20_code
def yX9_sheet : MethodName := ⟨RX9, "sheet", "(III)I"⟩
abbrev cX9_lay : ByteArray := prog_1_method_21_code
def yX9_lay : MethodName := ⟨RX9, "lay", "(III)I"⟩
abbrev cX9_rain : ByteArray := prog_1_method_22_code
def yX9_rain : MethodName := ⟨RX9, "rain", "(IIII)I"⟩
abbrev cX9_tides : ByteArray := prog_1_method_23_code
def yX9_tides : MethodName := ⟨RX9, "tides", "(III)I"⟩
abbrev cX9_count : ByteArray := prog_1_method_24_code
def yX9_count : MethodName := ⟨RX9, "count", "(I)I"⟩
abbrev cX9_within : ByteArray := prog_1_method_25_code
def yX9_within : MethodName := ⟨RX9, "within", "(III)Z"⟩
abbrev cX9_isHeight : ByteArray := prog_1_method_26_code
def yX9_isHeight : MethodName := ⟨RX9, "isHeight", "(I)Z"⟩
abbrev cX9_isRain : ByteArray := prog_1_method_27_code
def yX9_isRain : MethodName := ⟨RX9, "isRain", "(I)Z"⟩
abbrev cX9_isHourOfDay : ByteArray := prog_1_method_28_code
def yX9_isHourOfDay : MethodName := ⟨RX9, "isHourOfDay", "(I)Z"⟩
abbrev cX9_hourOfDay : ByteArray := prog_1_method_29_code
def yX9_hourOfDay : MethodName := ⟨RX9, "hourOfDay", "(I)I"⟩
abbrev cX9_isPlanned : ByteArray := prog_1_method_30_code
def yX9_isPlanned : MethodName := ⟨RX9, "isPlanned", "(I)Z"⟩
abbrev cX9_isSheet : ByteArray := prog_1_method_31_code
def yX9_isSheet : MethodName := ⟨RX9, "isSheet", "(I)Z"⟩
abbrev cX9_isLane : ByteArray := prog_1_method_32_code
def yX9_isLane : MethodName := ⟨RX9, "isLane", "(I)Z"⟩
def RX10 : String := "LowLandModel"
def TX10 : u_T := fun k => match k with
  | 0 => ("LowLandModel", "ditches", "I", false)
  | 1 => ("LowLandModel", "areas", "[I", true)
  | 2 => ("LowLandModel", "beds", "[I", true)
  | 3 => ("LowLandModel", "waters", "[I", true)
  | 4 => ("LowLandModel", "lows", "[I", true)
  | 5 => ("LowLandModel", "highs", "[I", true)
  | 6 => ("LowLandModel", "rained", "[I", true)
  | 7 => ("LowLandModel", "wentOut", "[I", true)
  | 8 => ("LowLandModel", "weirs", "I", false)
  | 9 => ("LowLandModel", "wFrom", "[I", true)
  | 10 => ("LowLandModel", "wTo", "[I", true)
  | 11 => ("LowLandModel", "crests", "[I", true)
  | 12 => ("LowLandModel", "widths", "[I", true)
  | 13 => ("LowLandModel", "pumps", "I", false)
  | 14 => ("LowLandModel", "pFrom", "[I", true)
  | 15 => ("LowLandModel", "pTo", "[I", true)
  | 16 => ("LowLandModel", "rates", "[I", true)
  | 17 => ("LowLandModel", "leasts", "[I", true)
  | 18 => ("LowLandModel", "pauses", "[I", true)
  | 19 => ("LowLandModel", "isOn", "[Z", true)
  | 20 => ("LowLandModel", "since", "[I", true)
  | 21 => ("LowLandModel", "sluices", "I", false)
  | 22 => ("LowLandModel", "sFrom", "[I", true)
  | 23 => ("LowLandModel", "sWidths", "[I", true)
  | 24 => ("LowLandModel", "isOpen", "[Z", true)
  | 25 => ("LowLandModel", "tides", "[I", true)
  | 26 => ("LowLandModel", "prices", "[I", true)
  | 27 => ("LowLandModel", "hour", "I", false)
  | 28 => ("LowLandModel", "cost", "I", false)
  | 29 => ("LowLandModel", "weirPassed", "[I", true)
  | 30 => ("LowLandModel", "pumpPassed", "[I", true)
  | 31 => ("LowLandModel", "sluicePassed", "[I", true)
  | 32 => ("LowLandModel", "worlds", "I", false)
  | 33 => ("LowLandModel", "rains", "[I", true)
  | 34 => ("LowLandModel", "keptWater", "[I", true)
  | 35 => ("LowLandModel", "keptRain", "[I", true)
  | 36 => ("LowLandModel", "keptOut", "[I", true)
  | 37 => ("LowLandModel", "keptPassed", "[I", true)
  | 38 => ("LowLandModel", "best", "I", false)
  | 39 => ("LowLandModel", "leastBreach", "J", false)
  | 40 => ("LowLandModel", "leastCost", "J", false)
  | 41 => ("LowLandModel", "lanes", "[I", true)
  | 42 => ("LowLandModel", "sizes", "[I", true)
  | _ => ("LowLandModel", "cells", "[I", true)
def tyX10 : Nat → FieldType := fun k => match k with
  | 0 => .int
  | 1 => .array .int
  | 2 => .array .int
  | 3 => .array .int
  | 4 => .array .int
  | 5 => .array .int
  | 6 => .array .int
  | 7 => .array .int
  | 8 => .int
  | 9 => .array .int
  | 10 => .array .int
  | 11 => .array .int
  | 12 => .array .int
  | 13 => .int
  | 14 => .array .int
  | 15 => .array .int
  | 16 => .array .int
  | 17 => .array .int
  | 18 => .array .int
  | 19 => .array .boolean
  | 20 => .array .int
  | 21 => .int
  | 22 => .array .int
  | 23 => .array .int
  | 24 => .array .boolean
  | 25 => .array .int
  | 26 => .array .int
  | 27 => .int
  | 28 => .int
  | 29 => .array .int
  | 30 => .array .int
  | 31 => .array .int
  | 32 => .int
  | 33 => .array .int
  | 34 => .array .int
  | 35 => .array .int
  | 36 => .array .int
  | 37 => .array .int
  | 38 => .int
  | 39 => .long
  | 40 => .long
  | 41 => .array .int
  | 42 => .array .int
  | _ => .array .int
abbrev wsX100 : List Cond := u_ws RX10 TX10 44
theorem nmX10 : ∀ a, a < 44 → ∀ b, b < 44 → a ≠ b → (TX10 a).2.1 ≠ (TX10 b).2.1 := by decide +kernel
theorem tyX10_ok : ∀ k, k < 44 → parseFieldDescriptor (TX10 k).2.2.1 = some (tyX10 k) := by decide +kernel
abbrev cX10_init : ByteArray := prog_12_method_1_code
def yX10_init : MethodName := ⟨RX10, "<init>", "()V"⟩
abbrev cX10_in : ByteArray := prog_12_method_3_code
def yX10_in : MethodName := ⟨RX10, "in", "(JJJ)Z"⟩
abbrev cX10_isDitch : ByteArray := prog_12_method_4_code
def yX10_isDitch : MethodName := ⟨RX10, "isDitch", "(I)Z"⟩
abbrev cX10_ditch : ByteArray := prog_12_method_5_code
def yX10_ditch : MethodName := ⟨RX10, "ditch", "(III)I"⟩
abbrev cX10_band : ByteArray := prog_12_method_6_code
def yX10_band : MethodName := ⟨RX10, "band", "(III)I"⟩
abbrev cX10_level : ByteArray := prog_12_method_7_code
def yX10_level : MethodName := ⟨RX10, "level", "(I)I"⟩
abbrev cX10_breach : ByteArray := prog_12_method_8_code
def yX10_breach : MethodName := ⟨RX10, "breach", "(I)I"⟩
abbrev cX10_told : ByteArray := prog_12_method_9_code
def yX10_told : MethodName := ⟨RX10, "told", "(II)I"⟩
abbrev cX10_weir : ByteArray := prog_12_method_10_code
def yX10_weir : MethodName := ⟨RX10, "weir", "(IIII)I"⟩
abbrev cX10_pump : ByteArray := prog_12_method_11_code
def yX10_pump : MethodName := ⟨RX10, "pump", "(IIIII)I"⟩
abbrev cX10_sluice : ByteArray := prog_12_method_12_code
def yX10_sluice : MethodName := ⟨RX10, "sluice", "(II)I"⟩
abbrev cX10_isPaused : ByteArray := prog_12_method_13_code
def yX10_isPaused : MethodName := ⟨RX10, "isPaused", "(II)Z"⟩
abbrev cX10_turns : ByteArray := prog_12_method_14_code
def yX10_turns : MethodName := ⟨RX10, "turns", "(IZ)V"⟩
abbrev cX10_turn : ByteArray := prog_12_method_15_code
def yX10_turn : MethodName := ⟨RX10, "turn", "(IZ)I"⟩
abbrev cX10_open : ByteArray := prog_12_method_16_code
def yX10_open : MethodName := ⟨RX10, "open", "(IZ)I"⟩
abbrev cX10_tide : ByteArray := prog_12_method_17_code
def yX10_tide : MethodName := ⟨RX10, "tide", "(II)I"⟩
abbrev cX10_price : ByteArray := prog_12_method_18_code
def yX10_price : MethodName := ⟨RX10, "price", "(II)I"⟩
abbrev cX10_less : ByteArray := prog_12_method_19_code
def yX10_less : MethodName := ⟨RX10, "less", "(II)I"⟩
abbrev cX10_flows : ByteArray := prog_12_method_20_code
def yX10_flows : MethodName := ⟨RX10, "flows", "(III)V"⟩
abbrev cX10_alarms : ByteArray := prog_12_method_21_code
def yX10_alarms : MethodName := ⟨RX10, "alarms", "()I"⟩
abbrev cX10_steps : ByteArray := prog_12_method_22_code
def yX10_steps : MethodName := ⟨RX10, "steps", "(I)I"⟩
abbrev cX10_step : ByteArray := prog_12_method_23_code
def yX10_step : MethodName := ⟨RX10, "step", "(I)I"⟩
abbrev cX10_passed : ByteArray := prog_12_method_24_code
def yX10_passed : MethodName := ⟨RX10, "passed", "(II)I"⟩
abbrev cX10_world : ByteArray := prog_12_method_25_code
def yX10_world : MethodName := ⟨RX10, "world", "()I"⟩
abbrev cX10_foretell : ByteArray := prog_12_method_26_code
def yX10_foretell : MethodName := ⟨RX10, "foretell", "(III)I"⟩
abbrev cX10_isIn : ByteArray := prog_12_method_27_code
def yX10_isIn : MethodName := ⟨RX10, "isIn", "(III)Z"⟩
abbrev cX10_isWell : ByteArray := prog_12_method_28_code
def yX10_isWell : MethodName := ⟨RX10, "isWell", "(II)Z"⟩
abbrev cX10_costOf : ByteArray := prog_12_method_29_code
def yX10_costOf : MethodName := ⟨RX10, "costOf", "(II)J"⟩
abbrev cX10_keeps : ByteArray := prog_12_method_30_code
def yX10_keeps : MethodName := ⟨RX10, "keeps", "()V"⟩
abbrev cX10_gives : ByteArray := prog_12_method_31_code
def yX10_gives : MethodName := ⟨RX10, "gives", "()V"⟩
abbrev cX10_keepsPassed : ByteArray := prog_12_method_32_code
def yX10_keepsPassed : MethodName := ⟨RX10, "keepsPassed", "()V"⟩
abbrev cX10_givesPassed : ByteArray := prog_12_method_33_code
def yX10_givesPassed : MethodName := ⟨RX10, "givesPassed", "()V"⟩
abbrev cX10_breachOf : ByteArray := prog_12_method_34_code
def yX10_breachOf : MethodName := ⟨RX10, "breachOf", "(II)J"⟩
abbrev cX10_isPlan : ByteArray := prog_12_method_35_code
def yX10_isPlan : MethodName := ⟨RX10, "isPlan", "(II)Z"⟩
abbrev cX10_findPlan : ByteArray := prog_12_method_36_code
def yX10_findPlan : MethodName := ⟨RX10, "findPlan", "(I)V"⟩
abbrev cX10_plan : ByteArray := prog_12_method_37_code
def yX10_plan : MethodName := ⟨RX10, "plan", "(I)I"⟩
abbrev cX10_planned : ByteArray := prog_12_method_38_code
def yX10_planned : MethodName := ⟨RX10, "planned", "(II)J"⟩
abbrev cX10_judge : ByteArray := prog_12_method_39_code
def yX10_judge : MethodName := ⟨RX10, "judge", "(III)J"⟩
abbrev cX10_follow : ByteArray := prog_12_method_40_code
def yX10_follow : MethodName := ⟨RX10, "follow", "(I)I"⟩
abbrev cX10_isSheet : ByteArray := prog_12_method_41_code
def yX10_isSheet : MethodName := ⟨RX10, "isSheet", "(II)Z"⟩
abbrev cX10_sheet : ByteArray := prog_12_method_42_code
def yX10_sheet : MethodName := ⟨RX10, "sheet", "(III)I"⟩
abbrev cX10_lay : ByteArray := prog_12_method_43_code
def yX10_lay : MethodName := ⟨RX10, "lay", "(III)I"⟩
abbrev cX10_bars : ByteArray := prog_12_method_44_code
def yX10_bars : MethodName := ⟨RX10, "bars", "(IIIII)I"⟩
abbrev cX10_rain : ByteArray := prog_12_method_45_code
def yX10_rain : MethodName := ⟨RX10, "rain", "(IIII)I"⟩
abbrev cX10_tides : ByteArray := prog_12_method_46_code
def yX10_tides : MethodName := ⟨RX10, "tides", "(III)I"⟩
abbrev cX10_count : ByteArray := prog_12_method_47_code
def yX10_count : MethodName := ⟨RX10, "count", "(I)I"⟩
def RJ6 : String := "java/lang/Integer"
def TJ6 : u_T := fun k => match k with
  | _ => ("", "", "", false)
def tyJ6 : Nat → FieldType := fun k => match k with
  | _ => .int
abbrev wsJ60 : List Cond := u_ws RJ6 TJ6 0
theorem nmJ6 : ∀ a, a < 0 → ∀ b, b < 0 → a ≠ b → (TJ6 a).2.1 ≠ (TJ6 b).2.1 := by decide +kernel
theorem tyJ6_ok : ∀ k, k < 0 → parseFieldDescriptor (TJ6 k).2.2.1 = some (tyJ6 k) := by decide +kernel
abbrev cJ6_bitCount_0f7a4 : ByteArray := prog_13_method_49_code
def yJ6_bitCount_0f7a4 : MethodName := ⟨RJ6, "bitCount", "(I)I"⟩
def RJ9 : String := "java/lang/Math"
def TJ9 : u_T := fun k => match k with
  | _ => ("", "", "", false)
def tyJ9 : Nat → FieldType := fun k => match k with
  | _ => .int
abbrev wsJ90 : List Cond := u_ws RJ9 TJ9 0
theorem nmJ9 : ∀ a, a < 0 → ∀ b, b < 0 → a ≠ b → (TJ9 a).2.1 ≠ (TJ9 b).2.1 := by decide +kernel
theorem tyJ9_ok : ∀ k, k < 0 → parseFieldDescriptor (TJ9 k).2.2.1 = some (tyJ9 k) := by decide +kernel
abbrev cJ9_floorMod_7cf53 : ByteArray := prog_14_method_50_code
def yJ9_floorMod_7cf53 : MethodName := ⟨RJ9, "floorMod", "(II)I"⟩
abbrev cJ9_max_7cf53 : ByteArray := prog_14_method_65_code
def yJ9_max_7cf53 : MethodName := ⟨RJ9, "max", "(II)I"⟩
abbrev cJ9_min_7cf53 : ByteArray := prog_14_method_69_code
def yJ9_min_7cf53 : MethodName := ⟨RJ9, "min", "(II)I"⟩
abbrev cJ9_min_f86c9 : ByteArray := prog_14_method_70_code
def yJ9_min_f86c9 : MethodName := ⟨RJ9, "min", "(JJ)J"⟩
def RJ10 : String := "java/lang/System"
def TJ10 : u_T := fun k => match k with
  | _ => ("", "", "", false)
def tyJ10 : Nat → FieldType := fun k => match k with
  | _ => .int
abbrev wsJ100 : List Cond := u_ws RJ10 TJ10 0
theorem nmJ10 : ∀ a, a < 0 → ∀ b, b < 0 → a ≠ b → (TJ10 a).2.1 ≠ (TJ10 b).2.1 := by decide +kernel
theorem tyJ10_ok : ∀ k, k < 0 → parseFieldDescriptor (TJ10 k).2.2.1 = some (tyJ10 k) := by decide +kernel
def RJ7 : String := "java/util/Arrays"
def TJ7 : u_T := fun k => match k with
  | _ => ("", "", "", false)
def tyJ7 : Nat → FieldType := fun k => match k with
  | _ => .int
abbrev wsJ70 : List Cond := u_ws RJ7 TJ7 0
theorem nmJ7 : ∀ a, a < 0 → ∀ b, b < 0 → a ≠ b → (TJ7 a).2.1 ≠ (TJ7 b).2.1 := by decide +kernel
theorem tyJ7_ok : ∀ k, k < 0 → parseFieldDescriptor (TJ7 k).2.2.1 = some (tyJ7 k) := by decide +kernel
abbrev cJ7_fill_53178 : ByteArray := prog_16_method_103_code
def yJ7_fill_53178 : MethodName := ⟨RJ7, "fill", "([II)V"⟩
def RL : String := "LowLandLaw"
abbrev cL_law : ByteArray := code
def yL_law : MethodName := ⟨RL, "law", "([I)Z"⟩
abbrev vwCl : List vw_C := [(RX0, TX0, 8), (RX1, TX1, 3), (RX2, TX2, 9), (RX3, TX3, 8), (RX4, TX4, 8), (RX5, TX5, 3), (RX6, TX6, 4), (RX7, TX7, 5), (RX8, TX8, 2), (RX9, TX9, 4), (RX10, TX10, 44)]
