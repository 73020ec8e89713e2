section
-- ===== PART A: goes FIRST, ahead of the names: the tables' words, and 'selects' of the private methods out of them =====
/-- a private method of a class that the tables say can be made, by its rows of tables_1 -/
def lw_okq (q : MethodName × Nat) : Prop := (q.1.cls ≠ "java/lang/invoke/MethodHandle" ∧ q.1.cls ≠ "java/lang/invoke/VarHandle") ∧ Cond.instantiable q.1.cls q.2 ∈ tables_1 ∧ Cond.privateMethod q.1 ∈ tables_1 ∧ Cond.instanceMethod q.1 ∈ tables_1
theorem lw_p0 : lw_okq (⟨"LowLand$Ditches", "add", "(III)I"⟩, 8) := ⟨⟨by decide +kernel, by decide +kernel⟩, List.mem_of_getElem? (i := 31) (by decide +kernel), List.mem_of_getElem? (i := 333) (by decide +kernel), List.mem_of_getElem? (i := 334) (by decide +kernel)⟩
theorem lw_p1 : lw_okq (⟨"LowLand$Ditches", "has", "(I)Z"⟩, 8) := ⟨⟨by decide +kernel, by decide +kernel⟩, List.mem_of_getElem? (i := 31) (by decide +kernel), List.mem_of_getElem? (i := 341) (by decide +kernel), List.mem_of_getElem? (i := 342) (by decide +kernel)⟩
theorem lw_p2 : lw_okq (⟨"LowLand$Ditches", "level", "(I[I)I"⟩, 8) := ⟨⟨by decide +kernel, by decide +kernel⟩, List.mem_of_getElem? (i := 31) (by decide +kernel), List.mem_of_getElem? (i := 350) (by decide +kernel), List.mem_of_getElem? (i := 351) (by decide +kernel)⟩
theorem lw_p3 : lw_okq (⟨"LowLand$Ditches", "breach", "(I[I)I"⟩, 8) := ⟨⟨by decide +kernel, by decide +kernel⟩, List.mem_of_getElem? (i := 31) (by decide +kernel), List.mem_of_getElem? (i := 354) (by decide +kernel), List.mem_of_getElem? (i := 355) (by decide +kernel)⟩
theorem lw_p4 : lw_okq (⟨"LowLand$Weirs", "add", "(IIII)I"⟩, 5) := ⟨⟨by decide +kernel, by decide +kernel⟩, List.mem_of_getElem? (i := 76) (by decide +kernel), List.mem_of_getElem? (i := 363) (by decide +kernel), List.mem_of_getElem? (i := 364) (by decide +kernel)⟩
theorem lw_p5 : lw_okq (⟨"LowLand$Pumps", "add", "(IIIII)I"⟩, 8) := ⟨⟨by decide +kernel, by decide +kernel⟩, List.mem_of_getElem? (i := 104) (by decide +kernel), List.mem_of_getElem? (i := 372) (by decide +kernel), List.mem_of_getElem? (i := 373) (by decide +kernel)⟩
theorem lw_p6 : lw_okq (⟨"LowLand$Sluices", "add", "(II)I"⟩, 4) := ⟨⟨by decide +kernel, by decide +kernel⟩, List.mem_of_getElem? (i := 144) (by decide +kernel), List.mem_of_getElem? (i := 380) (by decide +kernel), List.mem_of_getElem? (i := 381) (by decide +kernel)⟩
theorem lw_p7 : lw_okq (⟨"LowLand$Pumps", "has", "(I)Z"⟩, 8) := ⟨⟨by decide +kernel, by decide +kernel⟩, List.mem_of_getElem? (i := 104) (by decide +kernel), List.mem_of_getElem? (i := 388) (by decide +kernel), List.mem_of_getElem? (i := 389) (by decide +kernel)⟩
theorem lw_p8 : lw_okq (⟨"LowLand$Pumps", "mustStayOff", "(II)Z"⟩, 8) := ⟨⟨by decide +kernel, by decide +kernel⟩, List.mem_of_getElem? (i := 104) (by decide +kernel), List.mem_of_getElem? (i := 392) (by decide +kernel), List.mem_of_getElem? (i := 393) (by decide +kernel)⟩
theorem lw_p9 : lw_okq (⟨"LowLand$Pumps", "isOn", "(I)Z"⟩, 8) := ⟨⟨by decide +kernel, by decide +kernel⟩, List.mem_of_getElem? (i := 104) (by decide +kernel), List.mem_of_getElem? (i := 396) (by decide +kernel), List.mem_of_getElem? (i := 397) (by decide +kernel)⟩
theorem lw_p10 : lw_okq (⟨"LowLand$Pumps", "pausesAt", "(II)Z"⟩, 8) := ⟨⟨by decide +kernel, by decide +kernel⟩, List.mem_of_getElem? (i := 104) (by decide +kernel), List.mem_of_getElem? (i := 400) (by decide +kernel), List.mem_of_getElem? (i := 401) (by decide +kernel)⟩
theorem lw_p11 : lw_okq (⟨"LowLand$Pumps", "mustRunOn", "(II)Z"⟩, 8) := ⟨⟨by decide +kernel, by decide +kernel⟩, List.mem_of_getElem? (i := 104) (by decide +kernel), List.mem_of_getElem? (i := 410) (by decide +kernel), List.mem_of_getElem? (i := 411) (by decide +kernel)⟩
theorem lw_p12 : lw_okq (⟨"LowLand$Pumps", "put", "(IZI)V"⟩, 8) := ⟨⟨by decide +kernel, by decide +kernel⟩, List.mem_of_getElem? (i := 104) (by decide +kernel), List.mem_of_getElem? (i := 415) (by decide +kernel), List.mem_of_getElem? (i := 416) (by decide +kernel)⟩
theorem lw_p13 : lw_okq (⟨"LowLand$Sluices", "has", "(I)Z"⟩, 4) := ⟨⟨by decide +kernel, by decide +kernel⟩, List.mem_of_getElem? (i := 144) (by decide +kernel), List.mem_of_getElem? (i := 423) (by decide +kernel), List.mem_of_getElem? (i := 424) (by decide +kernel)⟩
theorem lw_p14 : lw_okq (⟨"LowLand$Land", "advance", "(I)I"⟩, 9) := ⟨⟨by decide +kernel, by decide +kernel⟩, List.mem_of_getElem? (i := 25) (by decide +kernel), List.mem_of_getElem? (i := 445) (by decide +kernel), List.mem_of_getElem? (i := 446) (by decide +kernel)⟩
theorem lw_p15 : lw_okq (⟨"LowLand$Pumps", "awake", "(II)I"⟩, 8) := ⟨⟨by decide +kernel, by decide +kernel⟩, List.mem_of_getElem? (i := 104) (by decide +kernel), List.mem_of_getElem? (i := 449) (by decide +kernel), List.mem_of_getElem? (i := 450) (by decide +kernel)⟩
def lw_privs_1 : List (MethodName × Nat) := [(⟨"LowLand$Ditches", "add", "(III)I"⟩, 8), (⟨"LowLand$Ditches", "has", "(I)Z"⟩, 8), (⟨"LowLand$Ditches", "level", "(I[I)I"⟩, 8), (⟨"LowLand$Ditches", "breach", "(I[I)I"⟩, 8), (⟨"LowLand$Weirs", "add", "(IIII)I"⟩, 5), (⟨"LowLand$Pumps", "add", "(IIIII)I"⟩, 8), (⟨"LowLand$Sluices", "add", "(II)I"⟩, 4), (⟨"LowLand$Pumps", "has", "(I)Z"⟩, 8), (⟨"LowLand$Pumps", "mustStayOff", "(II)Z"⟩, 8), (⟨"LowLand$Pumps", "isOn", "(I)Z"⟩, 8), (⟨"LowLand$Pumps", "pausesAt", "(II)Z"⟩, 8), (⟨"LowLand$Pumps", "mustRunOn", "(II)Z"⟩, 8), (⟨"LowLand$Pumps", "put", "(IZI)V"⟩, 8), (⟨"LowLand$Sluices", "has", "(I)Z"⟩, 4), (⟨"LowLand$Land", "advance", "(I)I"⟩, 9), (⟨"LowLand$Pumps", "awake", "(II)I"⟩, 8)]
theorem lw_r1 : ∀ q ∈ lw_privs_1, lw_okq q := List.forall_mem_cons.mpr ⟨lw_p0, List.forall_mem_cons.mpr ⟨lw_p1, List.forall_mem_cons.mpr ⟨lw_p2, List.forall_mem_cons.mpr ⟨lw_p3, List.forall_mem_cons.mpr ⟨lw_p4, List.forall_mem_cons.mpr ⟨lw_p5, List.forall_mem_cons.mpr ⟨lw_p6, List.forall_mem_cons.mpr ⟨lw_p7, List.forall_mem_cons.mpr ⟨lw_p8, List.forall_mem_cons.mpr ⟨lw_p9, List.forall_mem_cons.mpr ⟨lw_p10, List.forall_mem_cons.mpr ⟨lw_p11, List.forall_mem_cons.mpr ⟨lw_p12, List.forall_mem_cons.mpr ⟨lw_p13, List.forall_mem_cons.mpr ⟨lw_p14, List.forall_mem_cons.mpr ⟨lw_p15, fun _ h => absurd h List.not_mem_nil⟩⟩⟩⟩⟩⟩⟩⟩⟩⟩⟩⟩⟩⟩⟩⟩
theorem lw_p16 : lw_okq (⟨"LowLand$Land", "move", "([IIIILLowLand$Flow;)V"⟩, 9) := ⟨⟨by decide +kernel, by decide +kernel⟩, List.mem_of_getElem? (i := 25) (by decide +kernel), List.mem_of_getElem? (i := 453) (by decide +kernel), List.mem_of_getElem? (i := 454) (by decide +kernel)⟩
theorem lw_p17 : lw_okq (⟨"LowLand$Land", "passWeir", "(I[I)I"⟩, 9) := ⟨⟨by decide +kernel, by decide +kernel⟩, List.mem_of_getElem? (i := 25) (by decide +kernel), List.mem_of_getElem? (i := 457) (by decide +kernel), List.mem_of_getElem? (i := 458) (by decide +kernel)⟩
theorem lw_p18 : lw_okq (⟨"LowLand$Land", "passPump", "(I[I)I"⟩, 9) := ⟨⟨by decide +kernel, by decide +kernel⟩, List.mem_of_getElem? (i := 25) (by decide +kernel), List.mem_of_getElem? (i := 468) (by decide +kernel), List.mem_of_getElem? (i := 469) (by decide +kernel)⟩
theorem lw_p19 : lw_okq (⟨"LowLand$Land", "passSluice", "(I[II)I"⟩, 9) := ⟨⟨by decide +kernel, by decide +kernel⟩, List.mem_of_getElem? (i := 25) (by decide +kernel), List.mem_of_getElem? (i := 476) (by decide +kernel), List.mem_of_getElem? (i := 477) (by decide +kernel)⟩
theorem lw_p20 : lw_okq (⟨"LowLand$Land", "drain", "()V"⟩, 9) := ⟨⟨by decide +kernel, by decide +kernel⟩, List.mem_of_getElem? (i := 25) (by decide +kernel), List.mem_of_getElem? (i := 480) (by decide +kernel), List.mem_of_getElem? (i := 481) (by decide +kernel)⟩
theorem lw_p21 : lw_okq (⟨"LowLand$Land", "cost", "(II)I"⟩, 9) := ⟨⟨by decide +kernel, by decide +kernel⟩, List.mem_of_getElem? (i := 25) (by decide +kernel), List.mem_of_getElem? (i := 484) (by decide +kernel), List.mem_of_getElem? (i := 485) (by decide +kernel)⟩
theorem lw_p22 : lw_okq (⟨"LowLand$Ditches", "alarms", "()I"⟩, 8) := ⟨⟨by decide +kernel, by decide +kernel⟩, List.mem_of_getElem? (i := 31) (by decide +kernel), List.mem_of_getElem? (i := 494) (by decide +kernel), List.mem_of_getElem? (i := 495) (by decide +kernel)⟩
theorem lw_p23 : lw_okq (⟨"LowLand$Weirs", "has", "(I)Z"⟩, 5) := ⟨⟨by decide +kernel, by decide +kernel⟩, List.mem_of_getElem? (i := 76) (by decide +kernel), List.mem_of_getElem? (i := 503) (by decide +kernel), List.mem_of_getElem? (i := 504) (by decide +kernel)⟩
theorem lw_p24 : lw_okq (⟨"LowLand$Worlds", "add", "()I"⟩, 2) := ⟨⟨by decide +kernel, by decide +kernel⟩, List.mem_of_getElem? (i := 235) (by decide +kernel), List.mem_of_getElem? (i := 511) (by decide +kernel), List.mem_of_getElem? (i := 512) (by decide +kernel)⟩
theorem lw_p25 : lw_okq (⟨"LowLand$Worlds", "has", "(I)Z"⟩, 2) := ⟨⟨by decide +kernel, by decide +kernel⟩, List.mem_of_getElem? (i := 235) (by decide +kernel), List.mem_of_getElem? (i := 519) (by decide +kernel), List.mem_of_getElem? (i := 520) (by decide +kernel)⟩
theorem lw_p26 : lw_okq (⟨"LowLand$Planner", "seek", "(I)V"⟩, 8) := ⟨⟨by decide +kernel, by decide +kernel⟩, List.mem_of_getElem? (i := 253) (by decide +kernel), List.mem_of_getElem? (i := 530) (by decide +kernel), List.mem_of_getElem? (i := 531) (by decide +kernel)⟩
theorem lw_p27 : lw_okq (⟨"LowLand$Planner", "begin", "()V"⟩, 8) := ⟨⟨by decide +kernel, by decide +kernel⟩, List.mem_of_getElem? (i := 253) (by decide +kernel), List.mem_of_getElem? (i := 535) (by decide +kernel), List.mem_of_getElem? (i := 536) (by decide +kernel)⟩
theorem lw_p28 : lw_okq (⟨"LowLand$Worlds", "tried", "()I"⟩, 2) := ⟨⟨by decide +kernel, by decide +kernel⟩, List.mem_of_getElem? (i := 235) (by decide +kernel), List.mem_of_getElem? (i := 539) (by decide +kernel), List.mem_of_getElem? (i := 540) (by decide +kernel)⟩
theorem lw_p29 : lw_okq (⟨"LowLand$Pumps", "inPlans", "()I"⟩, 8) := ⟨⟨by decide +kernel, by decide +kernel⟩, List.mem_of_getElem? (i := 104) (by decide +kernel), List.mem_of_getElem? (i := 550) (by decide +kernel), List.mem_of_getElem? (i := 551) (by decide +kernel)⟩
theorem lw_p30 : lw_okq (⟨"LowLand$Planner", "fits", "(II)Z"⟩, 8) := ⟨⟨by decide +kernel, by decide +kernel⟩, List.mem_of_getElem? (i := 253) (by decide +kernel), List.mem_of_getElem? (i := 556) (by decide +kernel), List.mem_of_getElem? (i := 557) (by decide +kernel)⟩
theorem lw_p31 : lw_okq (⟨"LowLand$Planner", "tells", "(III)Z"⟩, 8) := ⟨⟨by decide +kernel, by decide +kernel⟩, List.mem_of_getElem? (i := 253) (by decide +kernel), List.mem_of_getElem? (i := 560) (by decide +kernel), List.mem_of_getElem? (i := 561) (by decide +kernel)⟩
def lw_privs_2 : List (MethodName × Nat) := [(⟨"LowLand$Land", "move", "([IIIILLowLand$Flow;)V"⟩, 9), (⟨"LowLand$Land", "passWeir", "(I[I)I"⟩, 9), (⟨"LowLand$Land", "passPump", "(I[I)I"⟩, 9), (⟨"LowLand$Land", "passSluice", "(I[II)I"⟩, 9), (⟨"LowLand$Land", "drain", "()V"⟩, 9), (⟨"LowLand$Land", "cost", "(II)I"⟩, 9), (⟨"LowLand$Ditches", "alarms", "()I"⟩, 8), (⟨"LowLand$Weirs", "has", "(I)Z"⟩, 5), (⟨"LowLand$Worlds", "add", "()I"⟩, 2), (⟨"LowLand$Worlds", "has", "(I)Z"⟩, 2), (⟨"LowLand$Planner", "seek", "(I)V"⟩, 8), (⟨"LowLand$Planner", "begin", "()V"⟩, 8), (⟨"LowLand$Worlds", "tried", "()I"⟩, 2), (⟨"LowLand$Pumps", "inPlans", "()I"⟩, 8), (⟨"LowLand$Planner", "fits", "(II)Z"⟩, 8), (⟨"LowLand$Planner", "tells", "(III)Z"⟩, 8)]
theorem lw_r2 : ∀ q ∈ lw_privs_2, lw_okq q := List.forall_mem_cons.mpr ⟨lw_p16, List.forall_mem_cons.mpr ⟨lw_p17, List.forall_mem_cons.mpr ⟨lw_p18, List.forall_mem_cons.mpr ⟨lw_p19, List.forall_mem_cons.mpr ⟨lw_p20, List.forall_mem_cons.mpr ⟨lw_p21, List.forall_mem_cons.mpr ⟨lw_p22, List.forall_mem_cons.mpr ⟨lw_p23, List.forall_mem_cons.mpr ⟨lw_p24, List.forall_mem_cons.mpr ⟨lw_p25, List.forall_mem_cons.mpr ⟨lw_p26, List.forall_mem_cons.mpr ⟨lw_p27, List.forall_mem_cons.mpr ⟨lw_p28, List.forall_mem_cons.mpr ⟨lw_p29, List.forall_mem_cons.mpr ⟨lw_p30, List.forall_mem_cons.mpr ⟨lw_p31, fun _ h => absurd h List.not_mem_nil⟩⟩⟩⟩⟩⟩⟩⟩⟩⟩⟩⟩⟩⟩⟩⟩
theorem lw_p32 : lw_okq (⟨"LowLand$Planner", "mayEnd", "(III)Z"⟩, 8) := ⟨⟨by decide +kernel, by decide +kernel⟩, List.mem_of_getElem? (i := 253) (by decide +kernel), List.mem_of_getElem? (i := 565) (by decide +kernel), List.mem_of_getElem? (i := 566) (by decide +kernel)⟩
theorem lw_p33 : lw_okq (⟨"LowLand$Planner", "isBetter", "(IJJ)Z"⟩, 8) := ⟨⟨by decide +kernel, by decide +kernel⟩, List.mem_of_getElem? (i := 253) (by decide +kernel), List.mem_of_getElem? (i := 570) (by decide +kernel), List.mem_of_getElem? (i := 571) (by decide +kernel)⟩
theorem lw_p34 : lw_okq (⟨"LowLand$Planner", "tread", "(II)J"⟩, 8) := ⟨⟨by decide +kernel, by decide +kernel⟩, List.mem_of_getElem? (i := 253) (by decide +kernel), List.mem_of_getElem? (i := 574) (by decide +kernel), List.mem_of_getElem? (i := 575) (by decide +kernel)⟩
theorem lw_p35 : lw_okq (⟨"LowLand$Ditches", "allBreach", "([I)J"⟩, 8) := ⟨⟨by decide +kernel, by decide +kernel⟩, List.mem_of_getElem? (i := 31) (by decide +kernel), List.mem_of_getElem? (i := 580) (by decide +kernel), List.mem_of_getElem? (i := 581) (by decide +kernel)⟩
theorem lw_p36 : lw_okq (⟨"LowLand$Planner", "isPlan", "(II)Z"⟩, 8) := ⟨⟨by decide +kernel, by decide +kernel⟩, List.mem_of_getElem? (i := 253) (by decide +kernel), List.mem_of_getElem? (i := 593) (by decide +kernel), List.mem_of_getElem? (i := 594) (by decide +kernel)⟩
theorem lw_p37 : lw_okq (⟨"LowLand$Planner", "bitsOf", "(II)I"⟩, 8) := ⟨⟨by decide +kernel, by decide +kernel⟩, List.mem_of_getElem? (i := 253) (by decide +kernel), List.mem_of_getElem? (i := 597) (by decide +kernel), List.mem_of_getElem? (i := 598) (by decide +kernel)⟩
theorem lw_p38 : lw_okq (⟨"LowLand$Planner", "isWell", "(II)Z"⟩, 8) := ⟨⟨by decide +kernel, by decide +kernel⟩, List.mem_of_getElem? (i := 253) (by decide +kernel), List.mem_of_getElem? (i := 601) (by decide +kernel), List.mem_of_getElem? (i := 602) (by decide +kernel)⟩
theorem lw_p39 : lw_okq (⟨"LowLand$Planner", "costOf", "(II)J"⟩, 8) := ⟨⟨by decide +kernel, by decide +kernel⟩, List.mem_of_getElem? (i := 253) (by decide +kernel), List.mem_of_getElem? (i := 605) (by decide +kernel), List.mem_of_getElem? (i := 606) (by decide +kernel)⟩
theorem lw_p40 : lw_okq (⟨"LowLand$Planner", "breachOf", "(II)J"⟩, 8) := ⟨⟨by decide +kernel, by decide +kernel⟩, List.mem_of_getElem? (i := 253) (by decide +kernel), List.mem_of_getElem? (i := 609) (by decide +kernel), List.mem_of_getElem? (i := 610) (by decide +kernel)⟩
theorem lw_p41 : lw_okq (⟨"LowLand$Sheets", "clear", "(III)V"⟩, 3) := ⟨⟨by decide +kernel, by decide +kernel⟩, List.mem_of_getElem? (i := 290) (by decide +kernel), List.mem_of_getElem? (i := 629) (by decide +kernel), List.mem_of_getElem? (i := 630) (by decide +kernel)⟩
theorem lw_p42 : lw_okq (⟨"LowLand$Sheets", "isNothing", "(I)Z"⟩, 3) := ⟨⟨by decide +kernel, by decide +kernel⟩, List.mem_of_getElem? (i := 290) (by decide +kernel), List.mem_of_getElem? (i := 637) (by decide +kernel), List.mem_of_getElem? (i := 638) (by decide +kernel)⟩
theorem lw_p43 : lw_okq (⟨"LowLand$Sheets", "hasCell", "(II)Z"⟩, 3) := ⟨⟨by decide +kernel, by decide +kernel⟩, List.mem_of_getElem? (i := 290) (by decide +kernel), List.mem_of_getElem? (i := 641) (by decide +kernel), List.mem_of_getElem? (i := 642) (by decide +kernel)⟩
theorem lw_p44 : lw_okq (⟨"LowLand$Sheets", "put", "(III)V"⟩, 3) := ⟨⟨by decide +kernel, by decide +kernel⟩, List.mem_of_getElem? (i := 290) (by decide +kernel), List.mem_of_getElem? (i := 645) (by decide +kernel), List.mem_of_getElem? (i := 646) (by decide +kernel)⟩
theorem lw_p45 : lw_okq (⟨"LowLand$Sheets", "faultAs", "(II)I"⟩, 3) := ⟨⟨by decide +kernel, by decide +kernel⟩, List.mem_of_getElem? (i := 290) (by decide +kernel), List.mem_of_getElem? (i := 653) (by decide +kernel), List.mem_of_getElem? (i := 654) (by decide +kernel)⟩
theorem lw_p46 : lw_okq (⟨"LowLand$Ditches", "allWater", "()I"⟩, 8) := ⟨⟨by decide +kernel, by decide +kernel⟩, List.mem_of_getElem? (i := 31) (by decide +kernel), List.mem_of_getElem? (i := 669) (by decide +kernel), List.mem_of_getElem? (i := 670) (by decide +kernel)⟩
theorem lw_p47 : lw_okq (⟨"LowLandModel", "isDitch", "(I)Z"⟩, 44) := ⟨⟨by decide +kernel, by decide +kernel⟩, List.mem_of_getElem? (i := 673) (by decide +kernel), List.mem_of_getElem? (i := 827) (by decide +kernel), List.mem_of_getElem? (i := 828) (by decide +kernel)⟩
def lw_privs_3 : List (MethodName × Nat) := [(⟨"LowLand$Planner", "mayEnd", "(III)Z"⟩, 8), (⟨"LowLand$Planner", "isBetter", "(IJJ)Z"⟩, 8), (⟨"LowLand$Planner", "tread", "(II)J"⟩, 8), (⟨"LowLand$Ditches", "allBreach", "([I)J"⟩, 8), (⟨"LowLand$Planner", "isPlan", "(II)Z"⟩, 8), (⟨"LowLand$Planner", "bitsOf", "(II)I"⟩, 8), (⟨"LowLand$Planner", "isWell", "(II)Z"⟩, 8), (⟨"LowLand$Planner", "costOf", "(II)J"⟩, 8), (⟨"LowLand$Planner", "breachOf", "(II)J"⟩, 8), (⟨"LowLand$Sheets", "clear", "(III)V"⟩, 3), (⟨"LowLand$Sheets", "isNothing", "(I)Z"⟩, 3), (⟨"LowLand$Sheets", "hasCell", "(II)Z"⟩, 3), (⟨"LowLand$Sheets", "put", "(III)V"⟩, 3), (⟨"LowLand$Sheets", "faultAs", "(II)I"⟩, 3), (⟨"LowLand$Ditches", "allWater", "()I"⟩, 8), (⟨"LowLandModel", "isDitch", "(I)Z"⟩, 44)]
theorem lw_r3 : ∀ q ∈ lw_privs_3, lw_okq q := List.forall_mem_cons.mpr ⟨lw_p32, List.forall_mem_cons.mpr ⟨lw_p33, List.forall_mem_cons.mpr ⟨lw_p34, List.forall_mem_cons.mpr ⟨lw_p35, List.forall_mem_cons.mpr ⟨lw_p36, List.forall_mem_cons.mpr ⟨lw_p37, List.forall_mem_cons.mpr ⟨lw_p38, List.forall_mem_cons.mpr ⟨lw_p39, List.forall_mem_cons.mpr ⟨lw_p40, List.forall_mem_cons.mpr ⟨lw_p41, List.forall_mem_cons.mpr ⟨lw_p42, List.forall_mem_cons.mpr ⟨lw_p43, List.forall_mem_cons.mpr ⟨lw_p44, List.forall_mem_cons.mpr ⟨lw_p45, List.forall_mem_cons.mpr ⟨lw_p46, List.forall_mem_cons.mpr ⟨lw_p47, fun _ h => absurd h List.not_mem_nil⟩⟩⟩⟩⟩⟩⟩⟩⟩⟩⟩⟩⟩⟩⟩⟩
theorem lw_p48 : lw_okq (⟨"LowLandModel", "level", "(I)I"⟩, 44) := ⟨⟨by decide +kernel, by decide +kernel⟩, List.mem_of_getElem? (i := 673) (by decide +kernel), List.mem_of_getElem? (i := 839) (by decide +kernel), List.mem_of_getElem? (i := 840) (by decide +kernel)⟩
theorem lw_p49 : lw_okq (⟨"LowLandModel", "breach", "(I)I"⟩, 44) := ⟨⟨by decide +kernel, by decide +kernel⟩, List.mem_of_getElem? (i := 673) (by decide +kernel), List.mem_of_getElem? (i := 843) (by decide +kernel), List.mem_of_getElem? (i := 844) (by decide +kernel)⟩
theorem lw_p50 : lw_okq (⟨"LowLandModel", "isPaused", "(II)Z"⟩, 44) := ⟨⟨by decide +kernel, by decide +kernel⟩, List.mem_of_getElem? (i := 673) (by decide +kernel), List.mem_of_getElem? (i := 865) (by decide +kernel), List.mem_of_getElem? (i := 866) (by decide +kernel)⟩
theorem lw_p51 : lw_okq (⟨"LowLandModel", "turns", "(IZ)V"⟩, 44) := ⟨⟨by decide +kernel, by decide +kernel⟩, List.mem_of_getElem? (i := 673) (by decide +kernel), List.mem_of_getElem? (i := 869) (by decide +kernel), List.mem_of_getElem? (i := 870) (by decide +kernel)⟩
theorem lw_p52 : lw_okq (⟨"LowLandModel", "steps", "(I)I"⟩, 44) := ⟨⟨by decide +kernel, by decide +kernel⟩, List.mem_of_getElem? (i := 673) (by decide +kernel), List.mem_of_getElem? (i := 891) (by decide +kernel), List.mem_of_getElem? (i := 892) (by decide +kernel)⟩
theorem lw_p53 : lw_okq (⟨"LowLandModel", "flows", "(III)V"⟩, 44) := ⟨⟨by decide +kernel, by decide +kernel⟩, List.mem_of_getElem? (i := 673) (by decide +kernel), List.mem_of_getElem? (i := 895) (by decide +kernel), List.mem_of_getElem? (i := 896) (by decide +kernel)⟩
theorem lw_p54 : lw_okq (⟨"LowLandModel", "alarms", "()I"⟩, 44) := ⟨⟨by decide +kernel, by decide +kernel⟩, List.mem_of_getElem? (i := 673) (by decide +kernel), List.mem_of_getElem? (i := 902) (by decide +kernel), List.mem_of_getElem? (i := 903) (by decide +kernel)⟩
theorem lw_p55 : lw_okq (⟨"LowLandModel", "findPlan", "(I)V"⟩, 44) := ⟨⟨by decide +kernel, by decide +kernel⟩, List.mem_of_getElem? (i := 673) (by decide +kernel), List.mem_of_getElem? (i := 923) (by decide +kernel), List.mem_of_getElem? (i := 924) (by decide +kernel)⟩
theorem lw_p56 : lw_okq (⟨"LowLandModel", "isPlan", "(II)Z"⟩, 44) := ⟨⟨by decide +kernel, by decide +kernel⟩, List.mem_of_getElem? (i := 673) (by decide +kernel), List.mem_of_getElem? (i := 927) (by decide +kernel), List.mem_of_getElem? (i := 928) (by decide +kernel)⟩
theorem lw_p57 : lw_okq (⟨"LowLandModel", "isIn", "(III)Z"⟩, 44) := ⟨⟨by decide +kernel, by decide +kernel⟩, List.mem_of_getElem? (i := 673) (by decide +kernel), List.mem_of_getElem? (i := 931) (by decide +kernel), List.mem_of_getElem? (i := 932) (by decide +kernel)⟩
theorem lw_p58 : lw_okq (⟨"LowLandModel", "isWell", "(II)Z"⟩, 44) := ⟨⟨by decide +kernel, by decide +kernel⟩, List.mem_of_getElem? (i := 673) (by decide +kernel), List.mem_of_getElem? (i := 935) (by decide +kernel), List.mem_of_getElem? (i := 936) (by decide +kernel)⟩
theorem lw_p59 : lw_okq (⟨"LowLandModel", "breachOf", "(II)J"⟩, 44) := ⟨⟨by decide +kernel, by decide +kernel⟩, List.mem_of_getElem? (i := 673) (by decide +kernel), List.mem_of_getElem? (i := 939) (by decide +kernel), List.mem_of_getElem? (i := 940) (by decide +kernel)⟩
theorem lw_p60 : lw_okq (⟨"LowLandModel", "keeps", "()V"⟩, 44) := ⟨⟨by decide +kernel, by decide +kernel⟩, List.mem_of_getElem? (i := 673) (by decide +kernel), List.mem_of_getElem? (i := 943) (by decide +kernel), List.mem_of_getElem? (i := 944) (by decide +kernel)⟩
theorem lw_p61 : lw_okq (⟨"LowLandModel", "keepsPassed", "()V"⟩, 44) := ⟨⟨by decide +kernel, by decide +kernel⟩, List.mem_of_getElem? (i := 673) (by decide +kernel), List.mem_of_getElem? (i := 947) (by decide +kernel), List.mem_of_getElem? (i := 948) (by decide +kernel)⟩
theorem lw_p62 : lw_okq (⟨"LowLandModel", "gives", "()V"⟩, 44) := ⟨⟨by decide +kernel, by decide +kernel⟩, List.mem_of_getElem? (i := 673) (by decide +kernel), List.mem_of_getElem? (i := 951) (by decide +kernel), List.mem_of_getElem? (i := 952) (by decide +kernel)⟩
theorem lw_p63 : lw_okq (⟨"LowLandModel", "givesPassed", "()V"⟩, 44) := ⟨⟨by decide +kernel, by decide +kernel⟩, List.mem_of_getElem? (i := 673) (by decide +kernel), List.mem_of_getElem? (i := 955) (by decide +kernel), List.mem_of_getElem? (i := 956) (by decide +kernel)⟩
def lw_privs_4 : List (MethodName × Nat) := [(⟨"LowLandModel", "level", "(I)I"⟩, 44), (⟨"LowLandModel", "breach", "(I)I"⟩, 44), (⟨"LowLandModel", "isPaused", "(II)Z"⟩, 44), (⟨"LowLandModel", "turns", "(IZ)V"⟩, 44), (⟨"LowLandModel", "steps", "(I)I"⟩, 44), (⟨"LowLandModel", "flows", "(III)V"⟩, 44), (⟨"LowLandModel", "alarms", "()I"⟩, 44), (⟨"LowLandModel", "findPlan", "(I)V"⟩, 44), (⟨"LowLandModel", "isPlan", "(II)Z"⟩, 44), (⟨"LowLandModel", "isIn", "(III)Z"⟩, 44), (⟨"LowLandModel", "isWell", "(II)Z"⟩, 44), (⟨"LowLandModel", "breachOf", "(II)J"⟩, 44), (⟨"LowLandModel", "keeps", "()V"⟩, 44), (⟨"LowLandModel", "keepsPassed", "()V"⟩, 44), (⟨"LowLandModel", "gives", "()V"⟩, 44), (⟨"LowLandModel", "givesPassed", "()V"⟩, 44)]
theorem lw_r4 : ∀ q ∈ lw_privs_4, lw_okq q := List.forall_mem_cons.mpr ⟨lw_p48, List.forall_mem_cons.mpr ⟨lw_p49, List.forall_mem_cons.mpr ⟨lw_p50, List.forall_mem_cons.mpr ⟨lw_p51, List.forall_mem_cons.mpr ⟨lw_p52, List.forall_mem_cons.mpr ⟨lw_p53, List.forall_mem_cons.mpr ⟨lw_p54, List.forall_mem_cons.mpr ⟨lw_p55, List.forall_mem_cons.mpr ⟨lw_p56, List.forall_mem_cons.mpr ⟨lw_p57, List.forall_mem_cons.mpr ⟨lw_p58, List.forall_mem_cons.mpr ⟨lw_p59, List.forall_mem_cons.mpr ⟨lw_p60, List.forall_mem_cons.mpr ⟨lw_p61, List.forall_mem_cons.mpr ⟨lw_p62, List.forall_mem_cons.mpr ⟨lw_p63, fun _ h => absurd h List.not_mem_nil⟩⟩⟩⟩⟩⟩⟩⟩⟩⟩⟩⟩⟩⟩⟩⟩
theorem lw_p64 : lw_okq (⟨"LowLandModel", "costOf", "(II)J"⟩, 44) := ⟨⟨by decide +kernel, by decide +kernel⟩, List.mem_of_getElem? (i := 673) (by decide +kernel), List.mem_of_getElem? (i := 959) (by decide +kernel), List.mem_of_getElem? (i := 960) (by decide +kernel)⟩
theorem lw_p65 : lw_okq (⟨"LowLandModel", "bars", "(IIIII)I"⟩, 44) := ⟨⟨by decide +kernel, by decide +kernel⟩, List.mem_of_getElem? (i := 673) (by decide +kernel), List.mem_of_getElem? (i := 994) (by decide +kernel), List.mem_of_getElem? (i := 995) (by decide +kernel)⟩
def lw_privs_5 : List (MethodName × Nat) := [(⟨"LowLandModel", "costOf", "(II)J"⟩, 44), (⟨"LowLandModel", "bars", "(IIIII)I"⟩, 44)]
theorem lw_r5 : ∀ q ∈ lw_privs_5, lw_okq q := List.forall_mem_cons.mpr ⟨lw_p64, List.forall_mem_cons.mpr ⟨lw_p65, fun _ h => absurd h List.not_mem_nil⟩⟩
def lw_privs : List (MethodName × Nat) := lw_privs_1 ++ (lw_privs_2 ++ (lw_privs_3 ++ (lw_privs_4 ++ (lw_privs_5))))
def lw_tbl : List Cond := k2_sels lw_privs ++ tables_1
theorem lw_privs_ok : ∀ q ∈ lw_privs, lw_okq q := by
  show ∀ q ∈ lw_privs_1 ++ (lw_privs_2 ++ (lw_privs_3 ++ (lw_privs_4 ++ (lw_privs_5)))), lw_okq q
  exact List.forall_mem_append.mpr ⟨lw_r1, List.forall_mem_append.mpr ⟨lw_r2, List.forall_mem_append.mpr ⟨lw_r3, List.forall_mem_append.mpr ⟨lw_r4, lw_r5⟩⟩⟩⟩
def va_AOA (t : FieldType) (U : State) : Prop := (Cond.arrayOver (.array t)).before #[] U = true
theorem va_AOA.of {t : FieldType} {A : Array Value} {U : State} (h : (Cond.arrayOver (.array t)).before A U = true) : va_AOA t U := h
theorem va_AOA.use {t : FieldType} {A : Array Value} {U : State} (h : va_AOA t U) : (Cond.arrayOver (.array t)).before A U = true := h
/-! ===== BEGIN words of one list among another's, by their places ===== -/
theorem goodIn_r {big : List Cond} (ws : List Cond) (ps : List Nat) (hp : ws = ps.filterMap (fun i => big[i]?)) (h : ws.all goodWord = true) : GoodIn big ws := by
  intro w hw
  have h1 := List.all_eq_true.mp h w hw
  rw [hp] at hw
  obtain ⟨i, -, hi⟩ := List.mem_filterMap.mp hw
  have hm : w ∈ big := by first | exact List.mem_of_getElem? hi | exact List.getElem?_mem hi
  exact ⟨hm, good_of_word h1⟩
theorem goodIn_app {big a b : List Cond} (ha : GoodIn big a) (hb : GoodIn big b) : GoodIn big (a ++ b) := fun w h => (List.mem_append.mp h).elim (ha w) (hb w)
theorem goodIn_ca {big a b : List Cond} {c : Cond} (ha : GoodIn big (c :: a)) (hb : GoodIn big b) : GoodIn big (c :: (a ++ b)) := fun w h => (List.mem_cons.mp h).elim (fun e => ha w (List.mem_cons.mpr (Or.inl e))) (fun h => (List.mem_append.mp h).elim (fun h => ha w (List.mem_cons.mpr (Or.inr h))) (hb w))
theorem goodIn_sub {big ws : List Cond} (hm : ∀ w ∈ ws, w ∈ big) (h : ws.all goodWord = true) : GoodIn big ws := fun w hw => ⟨hm w hw, good_of_word (List.all_eq_true.mp h w hw)⟩
/-! ===== END ===== -/

/-! ===== BEGIN new T[n][m]: the outer array a place, the inner ones among the pooled ===== -/
/-- f, but v at every address of l -/
def vr_up {α : Type} (f : Nat → α) (l : List Nat) (v : α) : Nat → α := fun a => if a ∈ l then v else f a
theorem vr_up_in {α : Type} {f : Nat → α} {l : List Nat} {v : α} {a : Nat} (h : a ∈ l) : vr_up f l v a = v := if_pos h
theorem vr_up_ne {α : Type} {f : Nat → α} {l : List Nat} {v : α} {a : Nat} (h : a ∉ l) : vr_up f l v a = f a := if_neg h
theorem vr_rows {L l : List Nat} {f : Nat → va_E} {e : va_E} (h : ∀ a, a ∈ l → a ∉ L) : va_pl L f ++ l.map (fun a => (a, e)) = va_pl (L ++ l) (vr_up f l e) := by
  unfold va_pl
  rw [List.map_append]
  congr 1
  · apply List.map_congr_left
    intro a ha
    rw [vr_up_ne (fun q => h a q ha)]
  · apply List.map_congr_left
    intro a ha
    rw [vr_up_in ha]
theorem vr_lay {X rows : va_W} {x : Nat × va_E} {pl : va_W} {D : va_G} {cl : List vw_C} {H : Heap} (hP : va_P D cl (((X ++ pl) ++ [x]) ++ rows) H) : va_P D cl ((X ++ [x]) ++ (pl ++ rows)) H := by
  rw [List.append_assoc (X ++ pl)] at hP
  have h := va_P.swap hP
  rw [← List.append_assoc X] at h
  have h2 := va_P.swap h
  rw [List.append_assoc (X ++ [x])] at h2
  exact h2
theorem vr_layD {X rows : va_W} {x : Nat × va_E} {pl : va_W} {A : Nat → Prop} (hD : va_D A (((X ++ pl) ++ [x]) ++ rows)) : va_D A ((X ++ [x]) ++ (pl ++ rows)) := by
  rw [List.append_assoc (X ++ pl)] at hD
  have h := va_D.swap hD
  rw [← List.append_assoc X] at h
  have h2 := va_D.swap h
  rw [List.append_assoc (X ++ [x])] at h2
  exact h2
theorem vr_outer (c : ClassId) (N h0 : Nat) : ∀ i : Nat, Jvm.Free.Multi.outerC c N h0 i = arrV c N (fun j => va_rf (if j < i then some (h0 + 1 + j) else none))
  | 0 => by
    show ({ cls := c, slots := Array.replicate N .null, vm := .none } : Cell) = _
    rw [arrV_new]
    refine congrArg (arrV c N) (funext fun j => ?_)
    simp [va_rf]
  | i + 1 => by
    show (Jvm.Free.Multi.outerC c N h0 i).setSlot i (.ref (h0 + 1 + i)) = _
    rw [vr_outer c N h0 i, arrV_store]
    refine congrArg (arrV c N) (funext fun j => ?_)
    by_cases e : j = i
    · subst e
      simp [updV, va_rf]
    · by_cases h : j < i
      · simp [updV, e, h, Nat.lt_succ_of_lt h]
      · simp [updV, e, h, show ¬ j < i + 1 by omega]
section VGM
variable {p : Program} {l : Launch} {e : Env} {R : Room} {s : State} {m : MethodId} {args : Array Value} {below : List Frame} {meth : Method} {c : Code} {H : Heap} {locs : List Loc} {cells slots : Nat} {Q : State → Prop}
variable {cc : ByteArray} {pc : Nat} {ls : Array Slot} {rest : List Value} {D : va_G} {cl : List vw_C} {A : Nat → Prop} {a : Nat} {tys : List (ClassId × FieldType)} {ws : va_W} {H0 : Heap}
theorem va_mna {X : va_W} {L : List Nat} {f : Nat → va_E} {cc : ByteArray} (hexec : p.tables.exec = Jvm.exec) (hb : c.code = cc) {own : String} {index : Nat} {ty : FieldType} {cy : ClassId} (hown : s.vm.findClass own = some m.cls) (hclink : (Cond.classLink own index ("[" ++ (FieldType.array ty).toString)).before args s = true) (hover : va_AOA ty s) (harr : (Cond.arrayClass ty).before args s = true) (hcy : s.vm.findClass (FieldType.array ty).toString = some cy)
    (hK : va_K D cl tys s) (hP : va_P D cl (X ++ va_pl L f) H) (hD : va_D A (X ++ va_pl L f)) (hS : va_S A H0 H locs) (hA : ∀ q, H0.size ≤ q → A q) {n k : Int32} {N' K' : Nat} {z : vp_A} (hn : ¬ n < 0) (hk : ¬ k < 0) (hN : n.toNatClampNeg = N') (hM : k.toNatClampNeg = K')
    (hb1 : N' * 4 ≤ 536870912) (hb2 : K' * componentBytes ty ≤ 536870912) (hb3 : K' ≤ 536870912) (hdf : fits ty (defaultValue ty) = true) (hdd : (defaultValue ty).isDefault = true) (hcells : cells + (1 + N') ≤ R.cells) (hslots : slots + (N' + N' * K') ≤ R.slots) (hz : ∀ c : ClassId, Jvm.Free.Multi.innerC c K' (defaultValue ty) = vp_cell c z) (hdg : decode cc pc = .ok (.multianewarray index 2, 4))
    (kk : ∀ (q : Nat) (r : Nat → Nat) (cA : ClassId) (H1 : Heap), (∀ i j : Nat, i < N' → j < N' → r i = r j → i = j) → (∀ i : Nat, i < N' → r i ∉ L) → va_K D cl (tys ++ [(cA, .array ty)]) s →
      va_P D cl ((X ++ [(q, .inl (cA, N', .inr (.inr (.inr (.inr (fun i => if i < N' then some (r i) else none))))))]) ++ va_pl (L ++ (List.range N').map r) (vr_up f ((List.range N').map r) (.inl (cy, z)))) H1 → va_D A ((X ++ [(q, .inl (cA, N', .inr (.inr (.inr (.inr (fun i => if i < N' then some (r i) else none))))))]) ++ va_pl (L ++ (List.range N').map r) (vr_up f ((List.range N').map r) (.inl (cy, z)))) → va_S A H0 H1 locs →
      W p l e R s m args below meth c H1 locs (cells + 1 + N') (slots + N' + N' * K') Q (F0 m (pc + 4) ls (.ref q :: rest))) : W p l e R s m args below meth c H locs cells slots Q (F0 m pc ls (.int k :: .int n :: rest)) := by
  subst hN
  subst hM
  intro T hT Xs
  obtain ⟨vm₁, cA, comp, -, fA, fC, hO, -, X', step⟩ := Xs.multianewarray2F hexec hown hclink (va_AOA.use hover) harr (g := F0 m pc ls (.int k :: .int n :: rest)) rfl (by rw [hb]; exact hdg) rfl hn hk hb1 hb2 hb3 hdf hdd hcells hslots
  have ec : some cy = some comp := hcy.symm.trans fC
  cases ec
  generalize hF : Jvm.Free.Multi.fill (T.setVm vm₁) cA cy n.toNatClampNeg k.toNatClampNeg (defaultValue ty) n.toNatClampNeg = F at X' step
  have hTh : (T.setVm vm₁).heap = H := hT
  obtain ⟨f1, f2, -, -⟩ := Jvm.Free.Multi.fill_facts (T.setVm vm₁) cA cy n.toNatClampNeg k.toNatClampNeg (defaultValue ty) n.toNatClampNeg
  rw [hF, hTh] at f1 f2
  have hold : ∀ x : Nat, x < H.size → F.heap[x]? = H[x]? := fun x hx => by
    have := Jvm.Free.Multi.fill_old (T.setVm vm₁) cA cy n.toNatClampNeg k.toNatClampNeg (defaultValue ty) (a := x) (by rw [hTh]; exact hx) n.toNatClampNeg
    rw [hF, hTh] at this
    exact this
  have hrow : ∀ j : Nat, j < n.toNatClampNeg → F.heap[H.size + 1 + j]? = some (vp_cell cy z) := fun j hj => by
    have := Jvm.Free.Multi.fill_inner (T.setVm vm₁) cA cy n.toNatClampNeg k.toNatClampNeg (defaultValue ty) n.toNatClampNeg j hj
    rw [hF, hTh, hz] at this
    exact this
  have hout : Jvm.Free.Multi.outerC cA n.toNatClampNeg H.size n.toNatClampNeg = vp_cell cA (n.toNatClampNeg, .inr (.inr (.inr (.inr (fun i => if i < n.toNatClampNeg then some (H.size + 1 + i) else none))))) := by
    rw [vp_cell_q]
    exact vr_outer cA n.toNatClampNeg H.size n.toNatClampNeg
  rw [hout] at f2
  have hlt : ∀ a, a ∈ L → a < H.size := fun a ha => by
    obtain ⟨k9, hk9⟩ := va_pl_get (X := X) (f := f) ha
    exact (hP k9 _ hk9).lt
  have hnl : ∀ i : Nat, i < n.toNatClampNeg → H.size + 1 + i ∉ L := fun i _ h => by
    have := hlt _ h
    omega
  have hnm : ∀ a, a ∈ (List.range n.toNatClampNeg).map (fun i => H.size + 1 + i) → a ∉ L := fun a ha h => by
    obtain ⟨i, -, rfl⟩ := List.mem_map.mp ha
    have := hlt _ h
    omega
  have hP0 : va_P D cl (X ++ va_pl L f) F.heap := hP.kept (fun k9 x hx => hold x.1 ((hP k9 x hx).lt))
  have hP1 : va_P D cl ((X ++ va_pl L f) ++ [(H.size, .inl (cA, n.toNatClampNeg, .inr (.inr (.inr (.inr (fun i => if i < n.toNatClampNeg then some (H.size + 1 + i) else none))))))]) F.heap := hP0.app (fun k9 x hx => by
    have h0 : k9 < 1 := (List.getElem?_eq_some_iff.mp hx).1
    rw [show k9 = 0 by omega] at hx
    cases hx
    exact f2)
  have hP2 : va_P D cl (((X ++ va_pl L f) ++ [(H.size, .inl (cA, n.toNatClampNeg, .inr (.inr (.inr (.inr (fun i => if i < n.toNatClampNeg then some (H.size + 1 + i) else none))))))]) ++ ((List.range n.toNatClampNeg).map (fun i => H.size + 1 + i)).map (fun a => (a, .inl (cy, z)))) F.heap := hP1.app (fun k9 x hx => by
    obtain ⟨a, ha, rfl⟩ := List.mem_map.mp (List.mem_of_getElem? hx)
    obtain ⟨i, hi, rfl⟩ := List.mem_map.mp ha
    exact hrow i (List.mem_range.mp hi))
  have hD2 : va_D A (((X ++ va_pl L f) ++ [(H.size, .inl (cA, n.toNatClampNeg, .inr (.inr (.inr (.inr (fun i => if i < n.toNatClampNeg then some (H.size + 1 + i) else none))))))]) ++ ((List.range n.toNatClampNeg).map (fun i => H.size + 1 + i)).map (fun a => (a, .inl (cy, z)))) := by
    have hD1 := hD.push (e := .inl (cA, n.toNatClampNeg, .inr (.inr (.inr (.inr (fun i => if i < n.toNatClampNeg then some (H.size + 1 + i) else none)))))) hP rfl (hA _ hS.1)
    generalize hW1 : (X ++ va_pl L f) ++ [(H.size, .inl (cA, n.toNatClampNeg, .inr (.inr (.inr (.inr (fun i => if i < n.toNatClampNeg then some (H.size + 1 + i) else none))))))] = W1 at hD1 hP1 ⊢
    have hle : ∀ (k9 : Nat) (x : Nat × va_E), W1[k9]? = some x → x.1 ≤ H.size := fun k9 x hx => by
      rw [← hW1] at hx
      by_cases hl : k9 < (X ++ va_pl L f).length
      · rw [List.getElem?_append_left hl] at hx
        exact Nat.le_of_lt ((hP k9 x hx).lt)
      · rw [List.getElem?_append_right (by omega)] at hx
        have h0 : k9 - (X ++ va_pl L f).length < 1 := (List.getElem?_eq_some_iff.mp hx).1
        rw [show k9 - (X ++ va_pl L f).length = 0 by omega] at hx
        cases hx
        exact Nat.le_refl _
    have hr : ∀ (k9 : Nat) (x : Nat × va_E), (((List.range n.toNatClampNeg).map (fun i => H.size + 1 + i)).map (fun a => ((a, .inl (cy, z)) : Nat × va_E)))[k9]? = some x → x.1 = H.size + 1 + k9 := fun k9 x hx => by
      rw [List.getElem?_map, List.getElem?_map] at hx
      by_cases h9 : k9 < n.toNatClampNeg
      · rw [List.getElem?_range h9] at hx
        cases hx
        rfl
      · have hn0 : (List.range n.toNatClampNeg)[k9]? = none := List.getElem?_eq_none (by rw [List.length_range]; omega)
        rw [hn0] at hx
        cases hx
    refine ⟨fun i j x y hi hj hxy => ?_, fun k9 x hx => ?_⟩
    · by_cases h1 : i < W1.length <;> by_cases h2 : j < W1.length
      · rw [List.getElem?_append_left h1] at hi
        rw [List.getElem?_append_left h2] at hj
        exact hD1.1 i j x y hi hj hxy
      · rw [List.getElem?_append_left h1] at hi
        rw [List.getElem?_append_right (by omega)] at hj
        have := hle _ _ hi
        have := hr _ _ hj
        omega
      · rw [List.getElem?_append_right (by omega)] at hi
        rw [List.getElem?_append_left h2] at hj
        have := hle _ _ hj
        have := hr _ _ hi
        omega
      · rw [List.getElem?_append_right (by omega)] at hi hj
        have := hr _ _ hi
        have := hr _ _ hj
        omega
    · by_cases h1 : k9 < W1.length
      · rw [List.getElem?_append_left h1] at hx
        exact hD1.2 k9 x hx
      · rw [List.getElem?_append_right (by omega)] at hx
        have := hr _ _ hx
        exact hA _ (by have := hS.1; omega)
  have hAr : ArrOfT s cA (.array ty) := fun N9 z9 => by
    obtain ⟨-, k9, hk9, cm9, hkk9⟩ := (hO 0 0 0).1
    exact ⟨(fun q hq => by cases hq), k9, hk9, cm9, hkk9⟩
  have hK2 : va_K D cl (tys ++ [(cA, .array ty)]) s := ⟨hK.1, fun k9 x hx => by
    by_cases hl : k9 < tys.length
    · rw [List.getElem?_append_left hl] at hx
      exact hK.2 k9 x hx
    · rw [List.getElem?_append_right (by omega)] at hx
      have h0 : k9 - tys.length < 1 := (List.getElem?_eq_some_iff.mp hx).1
      rw [show k9 - tys.length = 0 by omega] at hx
      cases hx
      exact ⟨hAr, fA⟩⟩
  obtain ⟨t, a1, b1⟩ := kk H.size (fun i => H.size + 1 + i) cA F.heap (fun i j _ _ h => by have h9 : H.size + 1 + i = H.size + 1 + j := h; omega) hnl hK2 (by rw [← vr_rows hnm]; exact vr_lay hP2) (by rw [← vr_rows hnm]; exact vr_layD hD2) ⟨by rw [f1]; have := hS.1; omega, fun x h1 h2 => (hold x (Nat.lt_of_lt_of_le h1 hS.1)).trans (hS.2.1 x h1 h2), hS.2.2⟩ F rfl X'
  refine ⟨t, step t ?_, b1⟩
  have e : T.heap.size = H.size := by rw [hT]
  rw [e]
  exact a1
end VGM
/-! ===== END ===== -/

def RX0 : String := "LowLand$Ditches"
def TX0 : u_T := fun k => match k with
  | 0 => ("LowLand$Ditches", "area", "[I", true)
  | 1 => ("LowLand$Ditches", "bed", "[I", true)
  | 2 => ("LowLand$Ditches", "low", "[I", true)
  | 3 => ("LowLand$Ditches", "high", "[I", true)
  | 4 => ("LowLand$Ditches", "water", "[I", true)
  | 5 => ("LowLand$Ditches", "rained", "[I", true)
  | 6 => ("LowLand$Ditches", "drained", "[I", true)
  | _ => ("LowLand$Ditches", "size", "I", false)
def tyX0 : Nat → FieldType := fun k => match k with
  | 0 => .array .int
  | 1 => .array .int
  | 2 => .array .int
  | 3 => .array .int
  | 4 => .array .int
  | 5 => .array .int
  | 6 => .array .int
  | _ => .int
abbrev wsX00 : List Cond := u_ws RX0 TX0 8
theorem nmX0 : ∀ a, a < 8 → ∀ b, b < 8 → a ≠ b → (TX0 a).2.1 ≠ (TX0 b).2.1 := by decide +kernel
theorem tyX0_ok : ∀ k, k < 8 → parseFieldDescriptor (TX0 k).2.2.1 = some (tyX0 k) := by decide +kernel
abbrev cX0_init : ByteArray := prog_2_method_1_code
def yX0_init : MethodName := ⟨RX0, "<init>", "()V"⟩
abbrev cX0_add : ByteArray := prog_2_method_2_code
def yX0_add : MethodName := ⟨RX0, "add", "(III)I"⟩
abbrev cX0_has : ByteArray := prog_2_method_3_code
def yX0_has : MethodName := ⟨RX0, "has", "(I)Z"⟩
abbrev cX0_level : ByteArray := prog_2_method_4_code
def yX0_level : MethodName := ⟨RX0, "level", "(I[I)I"⟩
abbrev cX0_breach : ByteArray := prog_2_method_5_code
def yX0_breach : MethodName := ⟨RX0, "breach", "(I[I)I"⟩
abbrev cX0_allBreach : ByteArray := prog_2_method_6_code
def yX0_allBreach : MethodName := ⟨RX0, "allBreach", "([I)J"⟩
abbrev cX0_alarms : ByteArray := prog_2_method_7_code
def yX0_alarms : MethodName := ⟨RX0, "alarms", "()I"⟩
abbrev cX0_allWater : ByteArray := prog_2_method_8_code
def yX0_allWater : MethodName := ⟨RX0, "allWater", "()I"⟩
def RX1 : String := "LowLand$Flow"
def TX1 : u_T := fun k => match k with
  | 0 => ("LowLand$Flow", "weirs", "[I", true)
  | 1 => ("LowLand$Flow", "pumps", "[I", true)
  | _ => ("LowLand$Flow", "sluices", "[I", true)
def tyX1 : Nat → FieldType := fun k => match k with
  | 0 => .array .int
  | 1 => .array .int
  | _ => .array .int
abbrev wsX10 : List Cond := u_ws RX1 TX1 3
theorem nmX1 : ∀ a, a < 3 → ∀ b, b < 3 → a ≠ b → (TX1 a).2.1 ≠ (TX1 b).2.1 := by decide +kernel
theorem tyX1_ok : ∀ k, k < 3 → parseFieldDescriptor (TX1 k).2.2.1 = some (tyX1 k) := by decide +kernel
abbrev cX1_init : ByteArray := prog_3_method_1_code
def yX1_init : MethodName := ⟨RX1, "<init>", "()V"⟩
def RX2 : String := "LowLand$Land"
def TX2 : u_T := fun k => match k with
  | 0 => ("LowLand$Land", "ditches", "LLowLand$Ditches;", true)
  | 1 => ("LowLand$Land", "weirs", "LLowLand$Weirs;", true)
  | 2 => ("LowLand$Land", "pumps", "LLowLand$Pumps;", true)
  | 3 => ("LowLand$Land", "sluices", "LLowLand$Sluices;", true)
  | 4 => ("LowLand$Land", "latest", "LLowLand$Flow;", true)
  | 5 => ("LowLand$Land", "tide", "[I", true)
  | 6 => ("LowLand$Land", "price", "[I", true)
  | 7 => ("LowLand$Land", "hour", "I", false)
  | _ => ("LowLand$Land", "spent", "I", false)
def tyX2 : Nat → FieldType := fun k => match k with
  | 0 => .object "LowLand$Ditches"
  | 1 => .object "LowLand$Weirs"
  | 2 => .object "LowLand$Pumps"
  | 3 => .object "LowLand$Sluices"
  | 4 => .object "LowLand$Flow"
  | 5 => .array .int
  | 6 => .array .int
  | 7 => .int
  | _ => .int
abbrev wsX20 : List Cond := u_ws RX2 TX2 9
theorem nmX2 : ∀ a, a < 9 → ∀ b, b < 9 → a ≠ b → (TX2 a).2.1 ≠ (TX2 b).2.1 := by decide +kernel
theorem tyX2_ok : ∀ k, k < 9 → parseFieldDescriptor (TX2 k).2.2.1 = some (tyX2 k) := by decide +kernel
abbrev cX2_init : ByteArray := prog_4_method_1_code
def yX2_init : MethodName := ⟨RX2, "<init>", "()V"⟩
abbrev cX2_advance : ByteArray := prog_4_method_2_code
def yX2_advance : MethodName := ⟨RX2, "advance", "(I)I"⟩
abbrev cX2_drain : ByteArray := prog_4_method_3_code
def yX2_drain : MethodName := ⟨RX2, "drain", "()V"⟩
abbrev cX2_cost : ByteArray := prog_4_method_4_code
def yX2_cost : MethodName := ⟨RX2, "cost", "(II)I"⟩
abbrev cX2_move : ByteArray := prog_4_method_5_code
def yX2_move : MethodName := ⟨RX2, "move", "([IIIILLowLand$Flow;)V"⟩
abbrev cX2_passWeir : ByteArray := prog_4_method_6_code
def yX2_passWeir : MethodName := ⟨RX2, "passWeir", "(I[I)I"⟩
abbrev cX2_passPump : ByteArray := prog_4_method_7_code
def yX2_passPump : MethodName := ⟨RX2, "passPump", "(I[I)I"⟩
abbrev cX2_passSluice : ByteArray := prog_4_method_8_code
def yX2_passSluice : MethodName := ⟨RX2, "passSluice", "(I[II)I"⟩
def RX3 : String := "LowLand$Planner"
def TX3 : u_T := fun k => match k with
  | 0 => ("LowLand$Planner", "land", "LLowLand$Land;", true)
  | 1 => ("LowLand$Planner", "worlds", "LLowLand$Worlds;", true)
  | 2 => ("LowLand$Planner", "waters", "[[I", true)
  | 3 => ("LowLand$Planner", "flow", "LLowLand$Flow;", true)
  | 4 => ("LowLand$Planner", "hours", "I", false)
  | 5 => ("LowLand$Planner", "number", "I", false)
  | 6 => ("LowLand$Planner", "cost", "J", false)
  | _ => ("LowLand$Planner", "breach", "J", false)
def tyX3 : Nat → FieldType := fun k => match k with
  | 0 => .object "LowLand$Land"
  | 1 => .object "LowLand$Worlds"
  | 2 => .array (.array .int)
  | 3 => .object "LowLand$Flow"
  | 4 => .int
  | 5 => .int
  | 6 => .long
  | _ => .long
abbrev wsX30 : List Cond := u_ws RX3 TX3 8
theorem nmX3 : ∀ a, a < 8 → ∀ b, b < 8 → a ≠ b → (TX3 a).2.1 ≠ (TX3 b).2.1 := by decide +kernel
theorem tyX3_ok : ∀ k, k < 8 → parseFieldDescriptor (TX3 k).2.2.1 = some (tyX3 k) := by decide +kernel
abbrev cX3_init : ByteArray := prog_5_method_1_code
def yX3_init : MethodName := ⟨RX3, "<init>", "(LLowLand$Land;LLowLand$Worlds;)V"⟩
abbrev cX3_seek : ByteArray := prog_5_method_2_code
def yX3_seek : MethodName := ⟨RX3, "seek", "(I)V"⟩
abbrev cX3_grow : ByteArray := prog_5_method_3_code
def yX3_grow : MethodName := ⟨RX3, "grow", "(LLowLand$Planner;IIJJ)V"⟩
abbrev cX3_isBetter : ByteArray := prog_5_method_4_code
def yX3_isBetter : MethodName := ⟨RX3, "isBetter", "(IJJ)Z"⟩
abbrev cX3_tells : ByteArray := prog_5_method_5_code
def yX3_tells : MethodName := ⟨RX3, "tells", "(III)Z"⟩
abbrev cX3_bitsOf : ByteArray := prog_5_method_6_code
def yX3_bitsOf : MethodName := ⟨RX3, "bitsOf", "(II)I"⟩
abbrev cX3_isPlan : ByteArray := prog_5_method_7_code
def yX3_isPlan : MethodName := ⟨RX3, "isPlan", "(II)Z"⟩
abbrev cX3_isWell : ByteArray := prog_5_method_8_code
def yX3_isWell : MethodName := ⟨RX3, "isWell", "(II)Z"⟩
abbrev cX3_fits : ByteArray := prog_5_method_9_code
def yX3_fits : MethodName := ⟨RX3, "fits", "(II)Z"⟩
abbrev cX3_mayEnd : ByteArray := prog_5_method_10_code
def yX3_mayEnd : MethodName := ⟨RX3, "mayEnd", "(III)Z"⟩
abbrev cX3_costOf : ByteArray := prog_5_method_11_code
def yX3_costOf : MethodName := ⟨RX3, "costOf", "(II)J"⟩
abbrev cX3_breachOf : ByteArray := prog_5_method_12_code
def yX3_breachOf : MethodName := ⟨RX3, "breachOf", "(II)J"⟩
abbrev cX3_begin : ByteArray := prog_5_method_13_code
def yX3_begin : MethodName := ⟨RX3, "begin", "()V"⟩
abbrev cX3_tread : ByteArray := prog_5_method_14_code
def yX3_tread : MethodName := ⟨RX3, "tread", "(II)J"⟩
def RX4 : String := "LowLand$Pumps"
def TX4 : u_T := fun k => match k with
  | 0 => ("LowLand$Pumps", "from", "[I", true)
  | 1 => ("LowLand$Pumps", "to", "[I", true)
  | 2 => ("LowLand$Pumps", "rate", "[I", true)
  | 3 => ("LowLand$Pumps", "least", "[I", true)
  | 4 => ("LowLand$Pumps", "pauses", "[I", true)
  | 5 => ("LowLand$Pumps", "cameOn", "[I", true)
  | 6 => ("LowLand$Pumps", "on", "I", false)
  | _ => ("LowLand$Pumps", "size", "I", false)
def tyX4 : Nat → FieldType := fun k => match k with
  | 0 => .array .int
  | 1 => .array .int
  | 2 => .array .int
  | 3 => .array .int
  | 4 => .array .int
  | 5 => .array .int
  | 6 => .int
  | _ => .int
abbrev wsX40 : List Cond := u_ws RX4 TX4 8
theorem nmX4 : ∀ a, a < 8 → ∀ b, b < 8 → a ≠ b → (TX4 a).2.1 ≠ (TX4 b).2.1 := by decide +kernel
theorem tyX4_ok : ∀ k, k < 8 → parseFieldDescriptor (TX4 k).2.2.1 = some (tyX4 k) := by decide +kernel
abbrev cX4_init : ByteArray := prog_6_method_1_code
def yX4_init : MethodName := ⟨RX4, "<init>", "()V"⟩
abbrev cX4_add : ByteArray := prog_6_method_2_code
def yX4_add : MethodName := ⟨RX4, "add", "(IIIII)I"⟩
abbrev cX4_has : ByteArray := prog_6_method_3_code
def yX4_has : MethodName := ⟨RX4, "has", "(I)Z"⟩
abbrev cX4_isOn : ByteArray := prog_6_method_4_code
def yX4_isOn : MethodName := ⟨RX4, "isOn", "(I)Z"⟩
abbrev cX4_pausesAt : ByteArray := prog_6_method_5_code
def yX4_pausesAt : MethodName := ⟨RX4, "pausesAt", "(II)Z"⟩
abbrev cX4_mustStayOff : ByteArray := prog_6_method_6_code
def yX4_mustStayOff : MethodName := ⟨RX4, "mustStayOff", "(II)Z"⟩
abbrev cX4_mustRunOn : ByteArray := prog_6_method_7_code
def yX4_mustRunOn : MethodName := ⟨RX4, "mustRunOn", "(II)Z"⟩
abbrev cX4_put : ByteArray := prog_6_method_8_code
def yX4_put : MethodName := ⟨RX4, "put", "(IZI)V"⟩
abbrev cX4_awake : ByteArray := prog_6_method_9_code
def yX4_awake : MethodName := ⟨RX4, "awake", "(II)I"⟩
abbrev cX4_inPlans : ByteArray := prog_6_method_10_code
def yX4_inPlans : MethodName := ⟨RX4, "inPlans", "()I"⟩
def RX5 : String := "LowLand$Sheets"
def TX5 : u_T := fun k => match k with
  | 0 => ("LowLand$Sheets", "cells", "[[I", true)
  | 1 => ("LowLand$Sheets", "lanes", "[I", true)
  | _ => ("LowLand$Sheets", "sizes", "[I", true)
def tyX5 : Nat → FieldType := fun k => match k with
  | 0 => .array (.array .int)
  | 1 => .array .int
  | _ => .array .int
abbrev wsX50 : List Cond := u_ws RX5 TX5 3
theorem nmX5 : ∀ a, a < 3 → ∀ b, b < 3 → a ≠ b → (TX5 a).2.1 ≠ (TX5 b).2.1 := by decide +kernel
theorem tyX5_ok : ∀ k, k < 3 → parseFieldDescriptor (TX5 k).2.2.1 = some (tyX5 k) := by decide +kernel
abbrev cX5_init : ByteArray := prog_7_method_1_code
def yX5_init : MethodName := ⟨RX5, "<init>", "()V"⟩
abbrev cX5_clear : ByteArray := prog_7_method_2_code
def yX5_clear : MethodName := ⟨RX5, "clear", "(III)V"⟩
abbrev cX5_isNothing : ByteArray := prog_7_method_3_code
def yX5_isNothing : MethodName := ⟨RX5, "isNothing", "(I)Z"⟩
abbrev cX5_hasCell : ByteArray := prog_7_method_4_code
def yX5_hasCell : MethodName := ⟨RX5, "hasCell", "(II)Z"⟩
abbrev cX5_put : ByteArray := prog_7_method_5_code
def yX5_put : MethodName := ⟨RX5, "put", "(III)V"⟩
abbrev cX5_faultAs : ByteArray := prog_7_method_6_code
def yX5_faultAs : MethodName := ⟨RX5, "faultAs", "(II)I"⟩
def RX6 : String := "LowLand$Sluices"
def TX6 : u_T := fun k => match k with
  | 0 => ("LowLand$Sluices", "from", "[I", true)
  | 1 => ("LowLand$Sluices", "width", "[I", true)
  | 2 => ("LowLand$Sluices", "stands", "[Z", true)
  | _ => ("LowLand$Sluices", "size", "I", false)
def tyX6 : Nat → FieldType := fun k => match k with
  | 0 => .array .int
  | 1 => .array .int
  | 2 => .array .boolean
  | _ => .int
abbrev wsX60 : List Cond := u_ws RX6 TX6 4
theorem nmX6 : ∀ a, a < 4 → ∀ b, b < 4 → a ≠ b → (TX6 a).2.1 ≠ (TX6 b).2.1 := by decide +kernel
theorem tyX6_ok : ∀ k, k < 4 → parseFieldDescriptor (TX6 k).2.2.1 = some (tyX6 k) := by decide +kernel
abbrev cX6_init : ByteArray := prog_8_method_1_code
def yX6_init : MethodName := ⟨RX6, "<init>", "()V"⟩
abbrev cX6_add : ByteArray := prog_8_method_2_code
def yX6_add : MethodName := ⟨RX6, "add", "(II)I"⟩
abbrev cX6_has : ByteArray := prog_8_method_3_code
def yX6_has : MethodName := ⟨RX6, "has", "(I)Z"⟩
def RX7 : String := "LowLand$Weirs"
def TX7 : u_T := fun k => match k with
  | 0 => ("LowLand$Weirs", "from", "[I", true)
  | 1 => ("LowLand$Weirs", "to", "[I", true)
  | 2 => ("LowLand$Weirs", "crest", "[I", true)
  | 3 => ("LowLand$Weirs", "width", "[I", true)
  | _ => ("LowLand$Weirs", "size", "I", false)
def tyX7 : Nat → FieldType := fun k => match k with
  | 0 => .array .int
  | 1 => .array .int
  | 2 => .array .int
  | 3 => .array .int
  | _ => .int
abbrev wsX70 : List Cond := u_ws RX7 TX7 5
theorem nmX7 : ∀ a, a < 5 → ∀ b, b < 5 → a ≠ b → (TX7 a).2.1 ≠ (TX7 b).2.1 := by decide +kernel
theorem tyX7_ok : ∀ k, k < 5 → parseFieldDescriptor (TX7 k).2.2.1 = some (tyX7 k) := by decide +kernel
abbrev cX7_init : ByteArray := prog_9_method_1_code
def yX7_init : MethodName := ⟨RX7, "<init>", "()V"⟩
abbrev cX7_add : ByteArray := prog_9_method_2_code
def yX7_add : MethodName := ⟨RX7, "add", "(IIII)I"⟩
abbrev cX7_has : ByteArray := prog_9_method_3_code
def yX7_has : MethodName := ⟨RX7, "has", "(I)Z"⟩
def RX8 : String := "LowLand$Worlds"
def TX8 : u_T := fun k => match k with
  | 0 => ("LowLand$Worlds", "rain", "[[I", true)
  | _ => ("LowLand$Worlds", "size", "I", false)
def tyX8 : Nat → FieldType := fun k => match k with
  | 0 => .array (.array .int)
  | _ => .int
abbrev wsX80 : List Cond := u_ws RX8 TX8 2
theorem nmX8 : ∀ a, a < 2 → ∀ b, b < 2 → a ≠ b → (TX8 a).2.1 ≠ (TX8 b).2.1 := by decide +kernel
theorem tyX8_ok : ∀ k, k < 2 → parseFieldDescriptor (TX8 k).2.2.1 = some (tyX8 k) := by decide +kernel
abbrev cX8_init : ByteArray := prog_10_method_1_code
def yX8_init : MethodName := ⟨RX8, "<init>", "()V"⟩
abbrev cX8_add : ByteArray := prog_10_method_2_code
def yX8_add : MethodName := ⟨RX8, "add", "()I"⟩
abbrev cX8_has : ByteArray := prog_10_method_3_code
def yX8_has : MethodName := ⟨RX8, "has", "(I)Z"⟩
abbrev cX8_tried : ByteArray := prog_10_method_4_code
def yX8_tried : MethodName := ⟨RX8, "tried", "()I"⟩
def RX9 : String := "LowLand"
def TX9 : u_T := fun k => match k with
  | 0 => ("LowLand", "land", "LLowLand$Land;", true)
  | 1 => ("LowLand", "worlds", "LLowLand$Worlds;", true)
  | 2 => ("LowLand", "planner", "LLowLand$Planner;", true)
  | _ => ("LowLand", "sheets", "LLowLand$Sheets;", true)
def tyX9 : Nat → FieldType := fun k => match k with
  | 0 => .object "LowLand$Land"
  | 1 => .object "LowLand$Worlds"
  | 2 => .object "LowLand$Planner"
  | _ => .object "LowLand$Sheets"
abbrev wsX90 : List Cond := u_ws RX9 TX9 4
theorem nmX9 : ∀ a, a < 4 → ∀ b, b < 4 → a ≠ b → (TX9 a).2.1 ≠ (TX9 b).2.1 := by decide +kernel
theorem tyX9_ok : ∀ k, k < 4 → parseFieldDescriptor (TX9 k).2.2.1 = some (tyX9 k) := by decide +kernel
abbrev cX9_init : ByteArray := prog_1_method_1_code
def yX9_init : MethodName := ⟨RX9, "<init>", "()V"⟩
abbrev cX9_ditch : ByteArray := prog_1_method_2_code
def yX9_ditch : MethodName := ⟨RX9, "ditch", "(III)I"⟩
abbrev cX9_band : ByteArray := prog_1_method_3_code
def yX9_band : MethodName := ⟨RX9, "band", "(III)I"⟩
abbrev cX9_told : ByteArray := prog_1_method_4_code
def yX9_told : MethodName := ⟨RX9, "told", "(II)I"⟩
abbrev cX9_weir : ByteArray := prog_1_method_5_code
def yX9_weir : MethodName := ⟨RX9, "weir", "(IIII)I"⟩
abbrev cX9_pump : ByteArray := prog_1_method_6_code
def yX9_pump : MethodName := ⟨RX9, "pump", "(IIIII)I"⟩
abbrev cX9_sluice : ByteArray := prog_1_method_7_code
def yX9_sluice : MethodName := ⟨RX9, "sluice", "(II)I"⟩
abbrev cX9_turn : ByteArray := prog_1_method_8_code
def yX9_turn : MethodName := ⟨RX9, "turn", "(IZ)I"⟩
abbrev cX9_open : ByteArray := prog_1_method_9_code
def yX9_open : MethodName := ⟨RX9, "open", "(IZ)I"⟩
abbrev cX9_tide : ByteArray := prog_1_method_10_code
def yX9_tide : MethodName := ⟨RX9, "tide", "(II)I"⟩
abbrev cX9_price : ByteArray := prog_1_method_11_code
def yX9_price : MethodName := ⟨RX9, "price", "(II)I"⟩
abbrev cX9_step : ByteArray := prog_1_method_12_code
def yX9_step : MethodName := ⟨RX9, "step", "(I)I"⟩
abbrev cX9_passed : ByteArray := prog_1_method_13_code
def yX9_passed : MethodName := ⟨RX9, "passed", "(II)I"⟩
abbrev cX9_world : ByteArray := prog_1_method_14_code
def yX9_world : MethodName := ⟨RX9, "world", "()I"⟩
abbrev cX9_foretell : ByteArray := prog_1_method_15_code
def yX9_foretell : MethodName := ⟨RX9, "foretell", "(III)I"⟩
abbrev cX9_plan : ByteArray := prog_1_method_16_code
def yX9_plan : MethodName := ⟨RX9, "plan", "(I)I"⟩
abbrev cX9_planned : ByteArray := prog_1_method_17_code
def yX9_planned : MethodName := ⟨RX9, "planned", "(II)J"⟩
abbrev cX9_judge : ByteArray := prog_1_method_18_code
def yX9_judge : MethodName := ⟨RX9, "judge", "(III)J"⟩
abbrev cX9_follow : ByteArray := prog_1_method_19_code
def yX9_follow : MethodName := ⟨RX9, "follow", "(I)I"⟩
abbrev cX9_sheet : ByteArray := prog_1_method_20_code
def yX9_sheet : MethodName := ⟨RX9, "sheet", "(III)I"⟩
abbrev cX9_lay : ByteArray := prog_1_method_21_code
def yX9_lay : MethodName := ⟨RX9, "lay", "(III)I"⟩
abbrev cX9_rain : ByteArray := prog_1_method_22_code
def yX9_rain : MethodName := ⟨RX9, "rain", "(IIII)I"⟩
abbrev cX9_tides : ByteArray := prog_1_method_23_code
def yX9_tides : MethodName := ⟨RX9, "tides", "(III)I"⟩
abbrev cX9_count : ByteArray := prog_1_method_24_code
def yX9_count : MethodName := ⟨RX9, "count", "(I)I"⟩
abbrev cX9_within : ByteArray := prog_1_method_25_code
def yX9_within : MethodName := ⟨RX9, "within", "(III)Z"⟩
abbrev cX9_isHeight : ByteArray := prog_1_method_26_code
def yX9_isHeight : MethodName := ⟨RX9, "isHeight", "(I)Z"⟩
abbrev cX9_isRain : ByteArray := prog_1_method_27_code
def yX9_isRain : MethodName := ⟨RX9, "isRain", "(I)Z"⟩
abbrev cX9_isHourOfDay : ByteArray := prog_1_method_28_code
def yX9_isHourOfDay : MethodName := ⟨RX9, "isHourOfDay", "(I)Z"⟩
abbrev cX9_hourOfDay : ByteArray := prog_1_method_29_code
def yX9_hourOfDay : MethodName := ⟨RX9, "hourOfDay", "(I)I"⟩
abbrev cX9_isPlanned : ByteArray := prog_1_method_30_code
def yX9_isPlanned : MethodName := ⟨RX9, "isPlanned", "(I)Z"⟩
abbrev cX9_isSheet : ByteArray := prog_1_method_31_code
def yX9_isSheet : MethodName := ⟨RX9, "isSheet", "(I)Z"⟩
abbrev cX9_isLane : ByteArray := prog_1_method_32_code
def yX9_isLane : MethodName := ⟨RX9, "isLane", "(I)Z"⟩
def RX10 : String := "LowLandModel"
def TX10 : u_T := fun k => match k with
  | 0 => ("LowLandModel", "ditches", "I", false)
  | 1 => ("LowLandModel", "areas", "[I", true)
  | 2 => ("LowLandModel", "beds", "[I", true)
  | 3 => ("LowLandModel", "waters", "[I", true)
  | 4 => ("LowLandModel", "lows", "[I", true)
  | 5 => ("LowLandModel", "highs", "[I", true)
  | 6 => ("LowLandModel", "rained", "[I", true)
  | 7 => ("LowLandModel", "wentOut", "[I", true)
  | 8 => ("LowLandModel", "weirs", "I", false)
  | 9 => ("LowLandModel", "wFrom", "[I", true)
  | 10 => ("LowLandModel", "wTo", "[I", true)
  | 11 => ("LowLandModel", "crests", "[I", true)
  | 12 => ("LowLandModel", "widths", "[I", true)
  | 13 => ("LowLandModel", "pumps", "I", false)
  | 14 => ("LowLandModel", "pFrom", "[I", true)
  | 15 => ("LowLandModel", "pTo", "[I", true)
  | 16 => ("LowLandModel", "rates", "[I", true)
  | 17 => ("LowLandModel", "leasts", "[I", true)
  | 18 => ("LowLandModel", "pauses", "[I", true)
  | 19 => ("LowLandModel", "isOn", "[Z", true)
  | 20 => ("LowLandModel", "since", "[I", true)
  | 21 => ("LowLandModel", "sluices", "I", false)
  | 22 => ("LowLandModel", "sFrom", "[I", true)
  | 23 => ("LowLandModel", "sWidths", "[I", true)
  | 24 => ("LowLandModel", "isOpen", "[Z", true)
  | 25 => ("LowLandModel", "tides", "[I", true)
  | 26 => ("LowLandModel", "prices", "[I", true)
  | 27 => ("LowLandModel", "hour", "I", false)
  | 28 => ("LowLandModel", "cost", "I", false)
  | 29 => ("LowLandModel", "weirPassed", "[I", true)
  | 30 => ("LowLandModel", "pumpPassed", "[I", true)
  | 31 => ("LowLandModel", "sluicePassed", "[I", true)
  | 32 => ("LowLandModel", "worlds", "I", false)
  | 33 => ("LowLandModel", "rains", "[I", true)
  | 34 => ("LowLandModel", "keptWater", "[I", true)
  | 35 => ("LowLandModel", "keptRain", "[I", true)
  | 36 => ("LowLandModel", "keptOut", "[I", true)
  | 37 => ("LowLandModel", "keptPassed", "[I", true)
  | 38 => ("LowLandModel", "best", "I", false)
  | 39 => ("LowLandModel", "leastBreach", "J", false)
  | 40 => ("LowLandModel", "leastCost", "J", false)
  | 41 => ("LowLandModel", "lanes", "[I", true)
  | 42 => ("LowLandModel", "sizes", "[I", true)
  | _ => ("LowLandModel", "cells", "[I", true)
def tyX10 : Nat → FieldType := fun k => match k with
  | 0 => .int
  | 1 => .array .int
  | 2 => .array .int
  | 3 => .array .int
  | 4 => .array .int
  | 5 => .array .int
  | 6 => .array .int
  | 7 => .array .int
  | 8 => .int
  | 9 => .array .int
  | 10 => .array .int
  | 11 => .array .int
  | 12 => .array .int
  | 13 => .int
  | 14 => .array .int
  | 15 => .array .int
  | 16 => .array .int
  | 17 => .array .int
  | 18 => .array .int
  | 19 => .array .boolean
  | 20 => .array .int
  | 21 => .int
  | 22 => .array .int
  | 23 => .array .int
  | 24 => .array .boolean
  | 25 => .array .int
  | 26 => .array .int
  | 27 => .int
  | 28 => .int
  | 29 => .array .int
  | 30 => .array .int
  | 31 => .array .int
  | 32 => .int
  | 33 => .array .int
  | 34 => .array .int
  | 35 => .array .int
  | 36 => .array .int
  | 37 => .array .int
  | 38 => .int
  | 39 => .long
  | 40 => .long
  | 41 => .array .int
  | 42 => .array .int
  | _ => .array .int
abbrev wsX100 : List Cond := u_ws RX10 TX10 44
theorem nmX10 : ∀ a, a < 44 → ∀ b, b < 44 → a ≠ b → (TX10 a).2.1 ≠ (TX10 b).2.1 := by decide +kernel
theorem tyX10_ok : ∀ k, k < 44 → parseFieldDescriptor (TX10 k).2.2.1 = some (tyX10 k) := by decide +kernel
abbrev cX10_init : ByteArray := prog_12_method_1_code
def yX10_init : MethodName := ⟨RX10, "<init>", "()V"⟩
abbrev cX10_in : ByteArray := prog_12_method_3_code
def yX10_in : MethodName := ⟨RX10, "in", "(JJJ)Z"⟩
abbrev cX10_isDitch : ByteArray := prog_12_method_4_code
def yX10_isDitch : MethodName := ⟨RX10, "isDitch", "(I)Z"⟩
abbrev cX10_ditch : ByteArray := prog_12_method_5_code
def yX10_ditch : MethodName := ⟨RX10, "ditch", "(III)I"⟩
abbrev cX10_band : ByteArray := prog_12_method_6_code
def yX10_band : MethodName := ⟨RX10, "band", "(III)I"⟩
abbrev cX10_level : ByteArray := prog_12_method_7_code
def yX10_level : MethodName := ⟨RX10, "level", "(I)I"⟩
abbrev cX10_breach : ByteArray := prog_12_method_8_code
def yX10_breach : MethodName := ⟨RX10, "breach", "(I)I"⟩
abbrev cX10_told : ByteArray := prog_12_method_9_code
def yX10_told : MethodName := ⟨RX10, "told", "(II)I"⟩
abbrev cX10_weir : ByteArray := prog_12_method_10_code
def yX10_weir : MethodName := ⟨RX10, "weir", "(IIII)I"⟩
abbrev cX10_pump : ByteArray := prog_12_method_11_code
def yX10_pump : MethodName := ⟨RX10, "pump", "(IIIII)I"⟩
abbrev cX10_sluice : ByteArray := prog_12_method_12_code
def yX10_sluice : MethodName := ⟨RX10, "sluice", "(II)I"⟩
abbrev cX10_isPaused : ByteArray := prog_12_method_13_code
def yX10_isPaused : MethodName := ⟨RX10, "isPaused", "(II)Z"⟩
abbrev cX10_turns : ByteArray := prog_12_method_14_code
def yX10_turns : MethodName := ⟨RX10, "turns", "(IZ)V"⟩
abbrev cX10_turn : ByteArray := prog_12_method_15_code
def yX10_turn : MethodName := ⟨RX10, "turn", "(IZ)I"⟩
abbrev cX10_open : ByteArray := prog_12_method_16_code
def yX10_open : MethodName := ⟨RX10, "open", "(IZ)I"⟩
abbrev cX10_tide : ByteArray := prog_12_method_17_code
def yX10_tide : MethodName := ⟨RX10, "tide", "(II)I"⟩
abbrev cX10_price : ByteArray := prog_12_method_18_code
def yX10_price : MethodName := ⟨RX10, "price", "(II)I"⟩
abbrev cX10_less : ByteArray := prog_12_method_19_code
def yX10_less : MethodName := ⟨RX10, "less", "(II)I"⟩
abbrev cX10_flows : ByteArray := prog_12_method_20_code
def yX10_flows : MethodName := ⟨RX10, "flows", "(III)V"⟩
abbrev cX10_alarms : ByteArray := prog_12_method_21_code
def yX10_alarms : MethodName := ⟨RX10, "alarms", "()I"⟩
abbrev cX10_steps : ByteArray := prog_12_method_22_code
def yX10_steps : MethodName := ⟨RX10, "steps", "(I)I"⟩
abbrev cX10_step : ByteArray := prog_12_method_23_code
def yX10_step : MethodName := ⟨RX10, "step", "(I)I"⟩
abbrev cX10_passed : ByteArray := prog_12_method_24_code
def yX10_passed : MethodName := ⟨RX10, "passed", "(II)I"⟩
abbrev cX10_world : ByteArray := prog_12_method_25_code
def yX10_world : MethodName := ⟨RX10, "world", "()I"⟩
abbrev cX10_foretell : ByteArray := prog_12_method_26_code
def yX10_foretell : MethodName := ⟨RX10, "foretell", "(III)I"⟩
abbrev cX10_isIn : ByteArray := prog_12_method_27_code
def yX10_isIn : MethodName := ⟨RX10, "isIn", "(III)Z"⟩
abbrev cX10_isWell : ByteArray := prog_12_method_28_code
def yX10_isWell : MethodName := ⟨RX10, "isWell", "(II)Z"⟩
abbrev cX10_costOf : ByteArray := prog_12_method_29_code
def yX10_costOf : MethodName := ⟨RX10, "costOf", "(II)J"⟩
abbrev cX10_keeps : ByteArray := prog_12_method_30_code
def yX10_keeps : MethodName := ⟨RX10, "keeps", "()V"⟩
abbrev cX10_gives : ByteArray := prog_12_method_31_code
def yX10_gives : MethodName := ⟨RX10, "gives", "()V"⟩
abbrev cX10_keepsPassed : ByteArray := prog_12_method_32_code
def yX10_keepsPassed : MethodName := ⟨RX10, "keepsPassed", "()V"⟩
abbrev cX10_givesPassed : ByteArray := prog_12_method_33_code
def yX10_givesPassed : MethodName := ⟨RX10, "givesPassed", "()V"⟩
abbrev cX10_breachOf : ByteArray := prog_12_method_34_code
def yX10_breachOf : MethodName := ⟨RX10, "breachOf", "(II)J"⟩
abbrev cX10_isPlan : ByteArray := prog_12_method_35_code
def yX10_isPlan : MethodName := ⟨RX10, "isPlan", "(II)Z"⟩
abbrev cX10_findPlan : ByteArray := prog_12_method_36_code
def yX10_findPlan : MethodName := ⟨RX10, "findPlan", "(I)V"⟩
abbrev cX10_plan : ByteArray := prog_12_method_37_code
def yX10_plan : MethodName := ⟨RX10, "plan", "(I)I"⟩
abbrev cX10_planned : ByteArray := prog_12_method_38_code
def yX10_planned : MethodName := ⟨RX10, "planned", "(II)J"⟩
abbrev cX10_judge : ByteArray := prog_12_method_39_code
def yX10_judge : MethodName := ⟨RX10, "judge", "(III)J"⟩
abbrev cX10_follow : ByteArray := prog_12_method_40_code
def yX10_follow : MethodName := ⟨RX10, "follow", "(I)I"⟩
abbrev cX10_isSheet : ByteArray := prog_12_method_41_code
def yX10_isSheet : MethodName := ⟨RX10, "isSheet", "(II)Z"⟩
abbrev cX10_sheet : ByteArray := prog_12_method_42_code
def yX10_sheet : MethodName := ⟨RX10, "sheet", "(III)I"⟩
abbrev cX10_lay : ByteArray := prog_12_method_43_code
def yX10_lay : MethodName := ⟨RX10, "lay", "(III)I"⟩
abbrev cX10_bars : ByteArray := prog_12_method_44_code
def yX10_bars : MethodName := ⟨RX10, "bars", "(IIIII)I"⟩
abbrev cX10_rain : ByteArray := prog_12_method_45_code
def yX10_rain : MethodName := ⟨RX10, "rain", "(IIII)I"⟩
abbrev cX10_tides : ByteArray := prog_12_method_46_code
def yX10_tides : MethodName := ⟨RX10, "tides", "(III)I"⟩
abbrev cX10_count : ByteArray := prog_12_method_47_code
def yX10_count : MethodName := ⟨RX10, "count", "(I)I"⟩
def RJ6 : String := "java/lang/Integer"
def TJ6 : u_T := fun k => match k with
  | _ => ("", "", "", false)
def tyJ6 : Nat → FieldType := fun k => match k with
  | _ => .int
abbrev wsJ60 : List Cond := u_ws RJ6 TJ6 0
theorem nmJ6 : ∀ a, a < 0 → ∀ b, b < 0 → a ≠ b → (TJ6 a).2.1 ≠ (TJ6 b).2.1 := by decide +kernel
theorem tyJ6_ok : ∀ k, k < 0 → parseFieldDescriptor (TJ6 k).2.2.1 = some (tyJ6 k) := by decide +kernel
abbrev cJ6_bitCount_0f7a4 : ByteArray := prog_13_method_49_code
def yJ6_bitCount_0f7a4 : MethodName := ⟨RJ6, "bitCount", "(I)I"⟩
def RJ9 : String := "java/lang/Math"
def TJ9 : u_T := fun k => match k with
  | _ => ("", "", "", false)
def tyJ9 : Nat → FieldType := fun k => match k with
  | _ => .int
abbrev wsJ90 : List Cond := u_ws RJ9 TJ9 0
theorem nmJ9 : ∀ a, a < 0 → ∀ b, b < 0 → a ≠ b → (TJ9 a).2.1 ≠ (TJ9 b).2.1 := by decide +kernel
theorem tyJ9_ok : ∀ k, k < 0 → parseFieldDescriptor (TJ9 k).2.2.1 = some (tyJ9 k) := by decide +kernel
abbrev cJ9_floorMod_7cf53 : ByteArray := prog_14_method_50_code
def yJ9_floorMod_7cf53 : MethodName := ⟨RJ9, "floorMod", "(II)I"⟩
abbrev cJ9_max_7cf53 : ByteArray := prog_14_method_65_code
def yJ9_max_7cf53 : MethodName := ⟨RJ9, "max", "(II)I"⟩
abbrev cJ9_min_7cf53 : ByteArray := prog_14_method_69_code
def yJ9_min_7cf53 : MethodName := ⟨RJ9, "min", "(II)I"⟩
abbrev cJ9_min_f86c9 : ByteArray := prog_14_method_70_code
def yJ9_min_f86c9 : MethodName := ⟨RJ9, "min", "(JJ)J"⟩
def RJ10 : String := "java/lang/System"
def TJ10 : u_T := fun k => match k with
  | _ => ("", "", "", false)
def tyJ10 : Nat → FieldType := fun k => match k with
  | _ => .int
abbrev wsJ100 : List Cond := u_ws RJ10 TJ10 0
theorem nmJ10 : ∀ a, a < 0 → ∀ b, b < 0 → a ≠ b → (TJ10 a).2.1 ≠ (TJ10 b).2.1 := by decide +kernel
theorem tyJ10_ok : ∀ k, k < 0 → parseFieldDescriptor (TJ10 k).2.2.1 = some (tyJ10 k) := by decide +kernel
def RJ7 : String := "java/util/Arrays"
def TJ7 : u_T := fun k => match k with
  | _ => ("", "", "", false)
def tyJ7 : Nat → FieldType := fun k => match k with
  | _ => .int
abbrev wsJ70 : List Cond := u_ws RJ7 TJ7 0
theorem nmJ7 : ∀ a, a < 0 → ∀ b, b < 0 → a ≠ b → (TJ7 a).2.1 ≠ (TJ7 b).2.1 := by decide +kernel
theorem tyJ7_ok : ∀ k, k < 0 → parseFieldDescriptor (TJ7 k).2.2.1 = some (tyJ7 k) := by decide +kernel
abbrev cJ7_fill_53178 : ByteArray := prog_16_method_103_code
def yJ7_fill_53178 : MethodName := ⟨RJ7, "fill", "([II)V"⟩
def RL : String := "LowLandLaw"
abbrev cL_law : ByteArray := code
def yL_law : MethodName := ⟨RL, "law", "([I)Z"⟩
abbrev vwCl : List vw_C := [(RX0, TX0, 8), (RX1, TX1, 3), (RX2, TX2, 9), (RX3, TX3, 8), (RX4, TX4, 8), (RX5, TX5, 3), (RX6, TX6, 4), (RX7, TX7, 5), (RX8, TX8, 2), (RX9, TX9, 4), (RX10, TX10, 44)]
end
section
theorem dX0_init_0 : decode cX0_init 0 = .ok (.aload_n 0, 1) := by decide +kernel
theorem dX0_init_1 : decode cX0_init 1 = .ok (.invokespecial 3, 3) := by decide +kernel
theorem dX0_init_4 : decode cX0_init 4 = .ok (.aload_n 0, 1) := by decide +kernel
theorem dX0_init_5 : decode cX0_init 5 = .ok (.bipush 6, 2) := by decide +kernel
theorem dX0_init_7 : decode cX0_init 7 = .ok (.newarray .int, 2) := by decide +kernel
theorem dX0_init_9 : decode cX0_init 9 = .ok (.putfield 9, 3) := by decide +kernel
theorem dX0_init_12 : decode cX0_init 12 = .ok (.aload_n 0, 1) := by decide +kernel
theorem dX0_init_13 : decode cX0_init 13 = .ok (.bipush 6, 2) := by decide +kernel
theorem dX0_init_15 : decode cX0_init 15 = .ok (.newarray .int, 2) := by decide +kernel
theorem dX0_init_17 : decode cX0_init 17 = .ok (.putfield 15, 3) := by decide +kernel
theorem dX0_init_20 : decode cX0_init 20 = .ok (.aload_n 0, 1) := by decide +kernel
theorem dX0_init_21 : decode cX0_init 21 = .ok (.bipush 6, 2) := by decide +kernel
theorem dX0_init_23 : decode cX0_init 23 = .ok (.newarray .int, 2) := by decide +kernel
theorem dX0_init_25 : decode cX0_init 25 = .ok (.putfield 18, 3) := by decide +kernel
theorem dX0_init_28 : decode cX0_init 28 = .ok (.aload_n 0, 1) := by decide +kernel
theorem dX0_init_29 : decode cX0_init 29 = .ok (.bipush 6, 2) := by decide +kernel
theorem dX0_init_31 : decode cX0_init 31 = .ok (.newarray .int, 2) := by decide +kernel
theorem dX0_init_33 : decode cX0_init 33 = .ok (.putfield 21, 3) := by decide +kernel
theorem dX0_init_36 : decode cX0_init 36 = .ok (.aload_n 0, 1) := by decide +kernel
theorem dX0_init_37 : decode cX0_init 37 = .ok (.bipush 6, 2) := by decide +kernel
theorem dX0_init_39 : decode cX0_init 39 = .ok (.newarray .int, 2) := by decide +kernel
theorem dX0_init_41 : decode cX0_init 41 = .ok (.putfield 24, 3) := by decide +kernel
theorem dX0_init_44 : decode cX0_init 44 = .ok (.aload_n 0, 1) := by decide +kernel
theorem dX0_init_45 : decode cX0_init 45 = .ok (.bipush 6, 2) := by decide +kernel
theorem dX0_init_47 : decode cX0_init 47 = .ok (.newarray .int, 2) := by decide +kernel
theorem dX0_init_49 : decode cX0_init 49 = .ok (.putfield 27, 3) := by decide +kernel
theorem dX0_init_52 : decode cX0_init 52 = .ok (.aload_n 0, 1) := by decide +kernel
theorem dX0_init_53 : decode cX0_init 53 = .ok (.bipush 6, 2) := by decide +kernel
theorem dX0_init_55 : decode cX0_init 55 = .ok (.newarray .int, 2) := by decide +kernel
theorem dX0_init_57 : decode cX0_init 57 = .ok (.putfield 30, 3) := by decide +kernel
theorem dX0_init_60 : decode cX0_init 60 = .ok (.return_, 1) := by decide +kernel
theorem dX0_add_0 : decode cX0_add 0 = .ok (.aload_n 0, 1) := by decide +kernel
theorem dX0_add_1 : decode cX0_add 1 = .ok (.getfield 33, 3) := by decide +kernel
theorem dX0_add_4 : decode cX0_add 4 = .ok (.bipush 6, 2) := by decide +kernel
theorem dX0_add_6 : decode cX0_add 6 = .ok (.if_icmp .lt 6, 3) := by decide +kernel
theorem dX0_add_9 : decode cX0_add 9 = .ok (.bipush (-3), 2) := by decide +kernel
theorem dX0_add_11 : decode cX0_add 11 = .ok (.ireturn, 1) := by decide +kernel
theorem dX0_add_12 : decode cX0_add 12 = .ok (.aload_n 0, 1) := by decide +kernel
theorem dX0_add_13 : decode cX0_add 13 = .ok (.getfield 9, 3) := by decide +kernel
theorem dX0_add_16 : decode cX0_add 16 = .ok (.aload_n 0, 1) := by decide +kernel
theorem dX0_add_17 : decode cX0_add 17 = .ok (.getfield 33, 3) := by decide +kernel
theorem dX0_add_20 : decode cX0_add 20 = .ok (.iload_n 1, 1) := by decide +kernel
theorem dX0_add_21 : decode cX0_add 21 = .ok (.iastore, 1) := by decide +kernel
theorem dX0_add_22 : decode cX0_add 22 = .ok (.aload_n 0, 1) := by decide +kernel
theorem dX0_add_23 : decode cX0_add 23 = .ok (.getfield 15, 3) := by decide +kernel
theorem dX0_add_26 : decode cX0_add 26 = .ok (.aload_n 0, 1) := by decide +kernel
theorem dX0_add_27 : decode cX0_add 27 = .ok (.getfield 33, 3) := by decide +kernel
theorem dX0_add_30 : decode cX0_add 30 = .ok (.iload_n 2, 1) := by decide +kernel
theorem dX0_add_31 : decode cX0_add 31 = .ok (.iastore, 1) := by decide +kernel
theorem dX0_add_32 : decode cX0_add 32 = .ok (.aload_n 0, 1) := by decide +kernel
theorem dX0_add_33 : decode cX0_add 33 = .ok (.getfield 18, 3) := by decide +kernel
theorem dX0_add_36 : decode cX0_add 36 = .ok (.aload_n 0, 1) := by decide +kernel
theorem dX0_add_37 : decode cX0_add 37 = .ok (.getfield 33, 3) := by decide +kernel
theorem dX0_add_40 : decode cX0_add 40 = .ok (.sipush (-1000), 3) := by decide +kernel
theorem dX0_add_43 : decode cX0_add 43 = .ok (.iastore, 1) := by decide +kernel
theorem dX0_add_44 : decode cX0_add 44 = .ok (.aload_n 0, 1) := by decide +kernel
theorem dX0_add_45 : decode cX0_add 45 = .ok (.getfield 21, 3) := by decide +kernel
theorem dX0_add_48 : decode cX0_add 48 = .ok (.aload_n 0, 1) := by decide +kernel
theorem dX0_add_49 : decode cX0_add 49 = .ok (.getfield 33, 3) := by decide +kernel
theorem dX0_add_52 : decode cX0_add 52 = .ok (.sipush 1000, 3) := by decide +kernel
theorem dX0_add_55 : decode cX0_add 55 = .ok (.iastore, 1) := by decide +kernel
theorem dX0_add_56 : decode cX0_add 56 = .ok (.aload_n 0, 1) := by decide +kernel
theorem dX0_add_57 : decode cX0_add 57 = .ok (.getfield 24, 3) := by decide +kernel
theorem dX0_add_60 : decode cX0_add 60 = .ok (.aload_n 0, 1) := by decide +kernel
theorem dX0_add_61 : decode cX0_add 61 = .ok (.getfield 33, 3) := by decide +kernel
theorem dX0_add_64 : decode cX0_add 64 = .ok (.iload_n 3, 1) := by decide +kernel
theorem dX0_add_65 : decode cX0_add 65 = .ok (.iastore, 1) := by decide +kernel
theorem dX0_add_66 : decode cX0_add 66 = .ok (.aload_n 0, 1) := by decide +kernel
theorem dX0_add_67 : decode cX0_add 67 = .ok (.dup, 1) := by decide +kernel
theorem dX0_add_68 : decode cX0_add 68 = .ok (.getfield 33, 3) := by decide +kernel
theorem dX0_add_71 : decode cX0_add 71 = .ok (.dup_x1, 1) := by decide +kernel
theorem dX0_add_72 : decode cX0_add 72 = .ok (.iconst 1, 1) := by decide +kernel
theorem dX0_add_73 : decode cX0_add 73 = .ok (.iadd, 1) := by decide +kernel
theorem dX0_add_74 : decode cX0_add 74 = .ok (.putfield 33, 3) := by decide +kernel
theorem dX0_add_77 : decode cX0_add 77 = .ok (.ireturn, 1) := by decide +kernel
theorem dX0_has_0 : decode cX0_has 0 = .ok (.iload_n 1, 1) := by decide +kernel
theorem dX0_has_1 : decode cX0_has 1 = .ok (.ifCond .lt 15, 3) := by decide +kernel
theorem dX0_has_4 : decode cX0_has 4 = .ok (.iload_n 1, 1) := by decide +kernel
theorem dX0_has_5 : decode cX0_has 5 = .ok (.aload_n 0, 1) := by decide +kernel
theorem dX0_has_6 : decode cX0_has 6 = .ok (.getfield 33, 3) := by decide +kernel
theorem dX0_has_9 : decode cX0_has 9 = .ok (.if_icmp .ge 7, 3) := by decide +kernel
theorem dX0_has_12 : decode cX0_has 12 = .ok (.iconst 1, 1) := by decide +kernel
theorem dX0_has_13 : decode cX0_has 13 = .ok (.goto 4, 3) := by decide +kernel
theorem dX0_has_16 : decode cX0_has 16 = .ok (.iconst 0, 1) := by decide +kernel
theorem dX0_has_17 : decode cX0_has 17 = .ok (.ireturn, 1) := by decide +kernel
theorem dX0_level_0 : decode cX0_level 0 = .ok (.aload_n 0, 1) := by decide +kernel
theorem dX0_level_1 : decode cX0_level 1 = .ok (.getfield 9, 3) := by decide +kernel
theorem dX0_level_4 : decode cX0_level 4 = .ok (.iload_n 1, 1) := by decide +kernel
theorem dX0_level_5 : decode cX0_level 5 = .ok (.iaload, 1) := by decide +kernel
theorem dX0_level_6 : decode cX0_level 6 = .ok (.iconst 1, 1) := by decide +kernel
theorem dX0_level_7 : decode cX0_level 7 = .ok (.if_icmp .ge 12, 3) := by decide +kernel
theorem dX0_level_10 : decode cX0_level 10 = .ok (.aload_n 0, 1) := by decide +kernel
theorem dX0_level_11 : decode cX0_level 11 = .ok (.getfield 15, 3) := by decide +kernel
theorem dX0_level_14 : decode cX0_level 14 = .ok (.iload_n 1, 1) := by decide +kernel
theorem dX0_level_15 : decode cX0_level 15 = .ok (.iaload, 1) := by decide +kernel
theorem dX0_level_16 : decode cX0_level 16 = .ok (.goto 20, 3) := by decide +kernel
theorem dX0_level_19 : decode cX0_level 19 = .ok (.aload_n 0, 1) := by decide +kernel
theorem dX0_level_20 : decode cX0_level 20 = .ok (.getfield 15, 3) := by decide +kernel
theorem dX0_level_23 : decode cX0_level 23 = .ok (.iload_n 1, 1) := by decide +kernel
theorem dX0_level_24 : decode cX0_level 24 = .ok (.iaload, 1) := by decide +kernel
theorem dX0_level_25 : decode cX0_level 25 = .ok (.aload_n 2, 1) := by decide +kernel
theorem dX0_level_26 : decode cX0_level 26 = .ok (.iload_n 1, 1) := by decide +kernel
theorem dX0_level_27 : decode cX0_level 27 = .ok (.iaload, 1) := by decide +kernel
theorem dX0_level_28 : decode cX0_level 28 = .ok (.aload_n 0, 1) := by decide +kernel
theorem dX0_level_29 : decode cX0_level 29 = .ok (.getfield 9, 3) := by decide +kernel
theorem dX0_level_32 : decode cX0_level 32 = .ok (.iload_n 1, 1) := by decide +kernel
theorem dX0_level_33 : decode cX0_level 33 = .ok (.iaload, 1) := by decide +kernel
theorem dX0_level_34 : decode cX0_level 34 = .ok (.idiv, 1) := by decide +kernel
theorem dX0_level_35 : decode cX0_level 35 = .ok (.iadd, 1) := by decide +kernel
theorem dX0_level_36 : decode cX0_level 36 = .ok (.ireturn, 1) := by decide +kernel
theorem dX0_breach_0 : decode cX0_breach 0 = .ok (.aload_n 0, 1) := by decide +kernel
theorem dX0_breach_1 : decode cX0_breach 1 = .ok (.iload_n 1, 1) := by decide +kernel
theorem dX0_breach_2 : decode cX0_breach 2 = .ok (.aload_n 2, 1) := by decide +kernel
theorem dX0_breach_3 : decode cX0_breach 3 = .ok (.invokevirtual 37, 3) := by decide +kernel
theorem dX0_breach_6 : decode cX0_breach 6 = .ok (.istore_n 3, 1) := by decide +kernel
theorem dX0_breach_7 : decode cX0_breach 7 = .ok (.iload_n 3, 1) := by decide +kernel
theorem dX0_breach_8 : decode cX0_breach 8 = .ok (.aload_n 0, 1) := by decide +kernel
theorem dX0_breach_9 : decode cX0_breach 9 = .ok (.getfield 18, 3) := by decide +kernel
theorem dX0_breach_12 : decode cX0_breach 12 = .ok (.iload_n 1, 1) := by decide +kernel
theorem dX0_breach_13 : decode cX0_breach 13 = .ok (.iaload, 1) := by decide +kernel
theorem dX0_breach_14 : decode cX0_breach 14 = .ok (.if_icmp .ge 14, 3) := by decide +kernel
theorem dX0_breach_17 : decode cX0_breach 17 = .ok (.aload_n 0, 1) := by decide +kernel
theorem dX0_breach_18 : decode cX0_breach 18 = .ok (.getfield 18, 3) := by decide +kernel
theorem dX0_breach_21 : decode cX0_breach 21 = .ok (.iload_n 1, 1) := by decide +kernel
theorem dX0_breach_22 : decode cX0_breach 22 = .ok (.iaload, 1) := by decide +kernel
theorem dX0_breach_23 : decode cX0_breach 23 = .ok (.iload_n 3, 1) := by decide +kernel
theorem dX0_breach_24 : decode cX0_breach 24 = .ok (.isub, 1) := by decide +kernel
theorem dX0_breach_25 : decode cX0_breach 25 = .ok (.goto 25, 3) := by decide +kernel
theorem dX0_breach_28 : decode cX0_breach 28 = .ok (.iload_n 3, 1) := by decide +kernel
theorem dX0_breach_29 : decode cX0_breach 29 = .ok (.aload_n 0, 1) := by decide +kernel
theorem dX0_breach_30 : decode cX0_breach 30 = .ok (.getfield 21, 3) := by decide +kernel
theorem dX0_breach_33 : decode cX0_breach 33 = .ok (.iload_n 1, 1) := by decide +kernel
theorem dX0_breach_34 : decode cX0_breach 34 = .ok (.iaload, 1) := by decide +kernel
theorem dX0_breach_35 : decode cX0_breach 35 = .ok (.if_icmp .le 14, 3) := by decide +kernel
theorem dX0_breach_38 : decode cX0_breach 38 = .ok (.iload_n 3, 1) := by decide +kernel
theorem dX0_breach_39 : decode cX0_breach 39 = .ok (.aload_n 0, 1) := by decide +kernel
theorem dX0_breach_40 : decode cX0_breach 40 = .ok (.getfield 21, 3) := by decide +kernel
theorem dX0_breach_43 : decode cX0_breach 43 = .ok (.iload_n 1, 1) := by decide +kernel
theorem dX0_breach_44 : decode cX0_breach 44 = .ok (.iaload, 1) := by decide +kernel
theorem dX0_breach_45 : decode cX0_breach 45 = .ok (.isub, 1) := by decide +kernel
theorem dX0_breach_46 : decode cX0_breach 46 = .ok (.goto 4, 3) := by decide +kernel
theorem dX0_breach_49 : decode cX0_breach 49 = .ok (.iconst 0, 1) := by decide +kernel
theorem dX0_breach_50 : decode cX0_breach 50 = .ok (.ireturn, 1) := by decide +kernel
theorem dX0_allBreach_0 : decode cX0_allBreach 0 = .ok (.lconst 0, 1) := by decide +kernel
theorem dX0_allBreach_1 : decode cX0_allBreach 1 = .ok (.lstore_n 2, 1) := by decide +kernel
theorem dX0_allBreach_2 : decode cX0_allBreach 2 = .ok (.iconst 0, 1) := by decide +kernel
theorem dX0_allBreach_3 : decode cX0_allBreach 3 = .ok (.istore 4, 2) := by decide +kernel
theorem dX0_allBreach_5 : decode cX0_allBreach 5 = .ok (.iload 4, 2) := by decide +kernel
theorem dX0_allBreach_7 : decode cX0_allBreach 7 = .ok (.aload_n 0, 1) := by decide +kernel
theorem dX0_allBreach_8 : decode cX0_allBreach 8 = .ok (.getfield 33, 3) := by decide +kernel
theorem dX0_allBreach_11 : decode cX0_allBreach 11 = .ok (.if_icmp .ge 20, 3) := by decide +kernel
theorem dX0_allBreach_14 : decode cX0_allBreach 14 = .ok (.lload_n 2, 1) := by decide +kernel
theorem dX0_allBreach_15 : decode cX0_allBreach 15 = .ok (.aload_n 0, 1) := by decide +kernel
theorem dX0_allBreach_16 : decode cX0_allBreach 16 = .ok (.iload 4, 2) := by decide +kernel
theorem dX0_allBreach_18 : decode cX0_allBreach 18 = .ok (.aload_n 1, 1) := by decide +kernel
theorem dX0_allBreach_19 : decode cX0_allBreach 19 = .ok (.invokevirtual 41, 3) := by decide +kernel
theorem dX0_allBreach_22 : decode cX0_allBreach 22 = .ok (.i2l, 1) := by decide +kernel
theorem dX0_allBreach_23 : decode cX0_allBreach 23 = .ok (.ladd, 1) := by decide +kernel
theorem dX0_allBreach_24 : decode cX0_allBreach 24 = .ok (.lstore_n 2, 1) := by decide +kernel
theorem dX0_allBreach_25 : decode cX0_allBreach 25 = .ok (.iinc 4 1, 3) := by decide +kernel
theorem dX0_allBreach_28 : decode cX0_allBreach 28 = .ok (.goto (-23), 3) := by decide +kernel
theorem dX0_allBreach_31 : decode cX0_allBreach 31 = .ok (.lload_n 2, 1) := by decide +kernel
theorem dX0_allBreach_32 : decode cX0_allBreach 32 = .ok (.lreturn, 1) := by decide +kernel
theorem dX0_alarms_0 : decode cX0_alarms 0 = .ok (.iconst 0, 1) := by decide +kernel
theorem dX0_alarms_1 : decode cX0_alarms 1 = .ok (.istore_n 1, 1) := by decide +kernel
theorem dX0_alarms_2 : decode cX0_alarms 2 = .ok (.iconst 0, 1) := by decide +kernel
theorem dX0_alarms_3 : decode cX0_alarms 3 = .ok (.istore_n 2, 1) := by decide +kernel
theorem dX0_alarms_4 : decode cX0_alarms 4 = .ok (.iload_n 2, 1) := by decide +kernel
theorem dX0_alarms_5 : decode cX0_alarms 5 = .ok (.aload_n 0, 1) := by decide +kernel
theorem dX0_alarms_6 : decode cX0_alarms 6 = .ok (.getfield 33, 3) := by decide +kernel
theorem dX0_alarms_9 : decode cX0_alarms 9 = .ok (.if_icmp .ge 29, 3) := by decide +kernel
theorem dX0_alarms_12 : decode cX0_alarms 12 = .ok (.iload_n 1, 1) := by decide +kernel
theorem dX0_alarms_13 : decode cX0_alarms 13 = .ok (.aload_n 0, 1) := by decide +kernel
theorem dX0_alarms_14 : decode cX0_alarms 14 = .ok (.iload_n 2, 1) := by decide +kernel
theorem dX0_alarms_15 : decode cX0_alarms 15 = .ok (.aload_n 0, 1) := by decide +kernel
theorem dX0_alarms_16 : decode cX0_alarms 16 = .ok (.getfield 24, 3) := by decide +kernel
theorem dX0_alarms_19 : decode cX0_alarms 19 = .ok (.invokevirtual 41, 3) := by decide +kernel
theorem dX0_alarms_22 : decode cX0_alarms 22 = .ok (.ifCond .le 7, 3) := by decide +kernel
theorem dX0_alarms_25 : decode cX0_alarms 25 = .ok (.iconst 1, 1) := by decide +kernel
theorem dX0_alarms_26 : decode cX0_alarms 26 = .ok (.goto 4, 3) := by decide +kernel
theorem dX0_alarms_29 : decode cX0_alarms 29 = .ok (.iconst 0, 1) := by decide +kernel
theorem dX0_alarms_30 : decode cX0_alarms 30 = .ok (.iadd, 1) := by decide +kernel
theorem dX0_alarms_31 : decode cX0_alarms 31 = .ok (.istore_n 1, 1) := by decide +kernel
theorem dX0_alarms_32 : decode cX0_alarms 32 = .ok (.iinc 2 1, 3) := by decide +kernel
theorem dX0_alarms_35 : decode cX0_alarms 35 = .ok (.goto (-31), 3) := by decide +kernel
theorem dX0_alarms_38 : decode cX0_alarms 38 = .ok (.iload_n 1, 1) := by decide +kernel
theorem dX0_alarms_39 : decode cX0_alarms 39 = .ok (.ireturn, 1) := by decide +kernel
theorem dX0_allWater_0 : decode cX0_allWater 0 = .ok (.iconst 0, 1) := by decide +kernel
theorem dX0_allWater_1 : decode cX0_allWater 1 = .ok (.istore_n 1, 1) := by decide +kernel
theorem dX0_allWater_2 : decode cX0_allWater 2 = .ok (.iconst 0, 1) := by decide +kernel
theorem dX0_allWater_3 : decode cX0_allWater 3 = .ok (.istore_n 2, 1) := by decide +kernel
theorem dX0_allWater_4 : decode cX0_allWater 4 = .ok (.iload_n 2, 1) := by decide +kernel
theorem dX0_allWater_5 : decode cX0_allWater 5 = .ok (.aload_n 0, 1) := by decide +kernel
theorem dX0_allWater_6 : decode cX0_allWater 6 = .ok (.getfield 33, 3) := by decide +kernel
theorem dX0_allWater_9 : decode cX0_allWater 9 = .ok (.if_icmp .ge 18, 3) := by decide +kernel
theorem dX0_allWater_12 : decode cX0_allWater 12 = .ok (.iload_n 1, 1) := by decide +kernel
theorem dX0_allWater_13 : decode cX0_allWater 13 = .ok (.aload_n 0, 1) := by decide +kernel
theorem dX0_allWater_14 : decode cX0_allWater 14 = .ok (.getfield 24, 3) := by decide +kernel
theorem dX0_allWater_17 : decode cX0_allWater 17 = .ok (.iload_n 2, 1) := by decide +kernel
theorem dX0_allWater_18 : decode cX0_allWater 18 = .ok (.iaload, 1) := by decide +kernel
theorem dX0_allWater_19 : decode cX0_allWater 19 = .ok (.iadd, 1) := by decide +kernel
theorem dX0_allWater_20 : decode cX0_allWater 20 = .ok (.istore_n 1, 1) := by decide +kernel
theorem dX0_allWater_21 : decode cX0_allWater 21 = .ok (.iinc 2 1, 3) := by decide +kernel
theorem dX0_allWater_24 : decode cX0_allWater 24 = .ok (.goto (-20), 3) := by decide +kernel
theorem dX0_allWater_27 : decode cX0_allWater 27 = .ok (.iload_n 1, 1) := by decide +kernel
theorem dX0_allWater_28 : decode cX0_allWater 28 = .ok (.ireturn, 1) := by decide +kernel
theorem dX1_init_0 : decode cX1_init 0 = .ok (.aload_n 0, 1) := by decide +kernel
theorem dX1_init_1 : decode cX1_init 1 = .ok (.invokespecial 3, 3) := by decide +kernel
theorem dX1_init_4 : decode cX1_init 4 = .ok (.aload_n 0, 1) := by decide +kernel
theorem dX1_init_5 : decode cX1_init 5 = .ok (.bipush 8, 2) := by decide +kernel
theorem dX1_init_7 : decode cX1_init 7 = .ok (.newarray .int, 2) := by decide +kernel
theorem dX1_init_9 : decode cX1_init 9 = .ok (.putfield 9, 3) := by decide +kernel
theorem dX1_init_12 : decode cX1_init 12 = .ok (.aload_n 0, 1) := by decide +kernel
theorem dX1_init_13 : decode cX1_init 13 = .ok (.iconst 4, 1) := by decide +kernel
theorem dX1_init_14 : decode cX1_init 14 = .ok (.newarray .int, 2) := by decide +kernel
theorem dX1_init_16 : decode cX1_init 16 = .ok (.putfield 15, 3) := by decide +kernel
theorem dX1_init_19 : decode cX1_init 19 = .ok (.aload_n 0, 1) := by decide +kernel
theorem dX1_init_20 : decode cX1_init 20 = .ok (.iconst 4, 1) := by decide +kernel
theorem dX1_init_21 : decode cX1_init 21 = .ok (.newarray .int, 2) := by decide +kernel
theorem dX1_init_23 : decode cX1_init 23 = .ok (.putfield 18, 3) := by decide +kernel
theorem dX1_init_26 : decode cX1_init 26 = .ok (.return_, 1) := by decide +kernel
theorem dX2_init_0 : decode cX2_init 0 = .ok (.aload_n 0, 1) := by decide +kernel
theorem dX2_init_1 : decode cX2_init 1 = .ok (.invokespecial 3, 3) := by decide +kernel
theorem dX2_init_4 : decode cX2_init 4 = .ok (.aload_n 0, 1) := by decide +kernel
theorem dX2_init_5 : decode cX2_init 5 = .ok (.new 9, 3) := by decide +kernel
theorem dX2_init_8 : decode cX2_init 8 = .ok (.dup, 1) := by decide +kernel
theorem dX2_init_9 : decode cX2_init 9 = .ok (.invokespecial 11, 3) := by decide +kernel
theorem dX2_init_12 : decode cX2_init 12 = .ok (.putfield 12, 3) := by decide +kernel
theorem dX2_init_15 : decode cX2_init 15 = .ok (.aload_n 0, 1) := by decide +kernel
theorem dX2_init_16 : decode cX2_init 16 = .ok (.new 18, 3) := by decide +kernel
theorem dX2_init_19 : decode cX2_init 19 = .ok (.dup, 1) := by decide +kernel
theorem dX2_init_20 : decode cX2_init 20 = .ok (.invokespecial 20, 3) := by decide +kernel
theorem dX2_init_23 : decode cX2_init 23 = .ok (.putfield 21, 3) := by decide +kernel
theorem dX2_init_26 : decode cX2_init 26 = .ok (.aload_n 0, 1) := by decide +kernel
theorem dX2_init_27 : decode cX2_init 27 = .ok (.new 25, 3) := by decide +kernel
theorem dX2_init_30 : decode cX2_init 30 = .ok (.dup, 1) := by decide +kernel
theorem dX2_init_31 : decode cX2_init 31 = .ok (.invokespecial 27, 3) := by decide +kernel
theorem dX2_init_34 : decode cX2_init 34 = .ok (.putfield 28, 3) := by decide +kernel
theorem dX2_init_37 : decode cX2_init 37 = .ok (.aload_n 0, 1) := by decide +kernel
theorem dX2_init_38 : decode cX2_init 38 = .ok (.new 32, 3) := by decide +kernel
theorem dX2_init_41 : decode cX2_init 41 = .ok (.dup, 1) := by decide +kernel
theorem dX2_init_42 : decode cX2_init 42 = .ok (.invokespecial 34, 3) := by decide +kernel
theorem dX2_init_45 : decode cX2_init 45 = .ok (.putfield 35, 3) := by decide +kernel
theorem dX2_init_48 : decode cX2_init 48 = .ok (.aload_n 0, 1) := by decide +kernel
theorem dX2_init_49 : decode cX2_init 49 = .ok (.new 39, 3) := by decide +kernel
theorem dX2_init_52 : decode cX2_init 52 = .ok (.dup, 1) := by decide +kernel
theorem dX2_init_53 : decode cX2_init 53 = .ok (.invokespecial 41, 3) := by decide +kernel
theorem dX2_init_56 : decode cX2_init 56 = .ok (.putfield 42, 3) := by decide +kernel
theorem dX2_init_59 : decode cX2_init 59 = .ok (.aload_n 0, 1) := by decide +kernel
theorem dX2_init_60 : decode cX2_init 60 = .ok (.bipush 24, 2) := by decide +kernel
theorem dX2_init_62 : decode cX2_init 62 = .ok (.newarray .int, 2) := by decide +kernel
theorem dX2_init_64 : decode cX2_init 64 = .ok (.putfield 46, 3) := by decide +kernel
theorem dX2_init_67 : decode cX2_init 67 = .ok (.aload_n 0, 1) := by decide +kernel
theorem dX2_init_68 : decode cX2_init 68 = .ok (.bipush 24, 2) := by decide +kernel
theorem dX2_init_70 : decode cX2_init 70 = .ok (.newarray .int, 2) := by decide +kernel
theorem dX2_init_72 : decode cX2_init 72 = .ok (.putfield 50, 3) := by decide +kernel
theorem dX2_init_75 : decode cX2_init 75 = .ok (.aload_n 0, 1) := by decide +kernel
theorem dX2_init_76 : decode cX2_init 76 = .ok (.getfield 50, 3) := by decide +kernel
theorem dX2_init_79 : decode cX2_init 79 = .ok (.iconst 1, 1) := by decide +kernel
theorem dX2_init_80 : decode cX2_init 80 = .ok (.invokestatic 53, 3) := by decide +kernel
theorem dX2_init_83 : decode cX2_init 83 = .ok (.return_, 1) := by decide +kernel
theorem dX2_advance_0 : decode cX2_advance 0 = .ok (.aload_n 0, 1) := by decide +kernel
theorem dX2_advance_1 : decode cX2_advance 1 = .ok (.getfield 28, 3) := by decide +kernel
theorem dX2_advance_4 : decode cX2_advance 4 = .ok (.aload_n 0, 1) := by decide +kernel
theorem dX2_advance_5 : decode cX2_advance 5 = .ok (.getfield 28, 3) := by decide +kernel
theorem dX2_advance_8 : decode cX2_advance 8 = .ok (.aload_n 0, 1) := by decide +kernel
theorem dX2_advance_9 : decode cX2_advance 9 = .ok (.getfield 28, 3) := by decide +kernel
theorem dX2_advance_12 : decode cX2_advance 12 = .ok (.getfield 59, 3) := by decide +kernel
theorem dX2_advance_15 : decode cX2_advance 15 = .ok (.aload_n 0, 1) := by decide +kernel
theorem dX2_advance_16 : decode cX2_advance 16 = .ok (.getfield 63, 3) := by decide +kernel
theorem dX2_advance_19 : decode cX2_advance 19 = .ok (.invokevirtual 66, 3) := by decide +kernel
theorem dX2_advance_22 : decode cX2_advance 22 = .ok (.putfield 59, 3) := by decide +kernel
theorem dX2_advance_25 : decode cX2_advance 25 = .ok (.aload_n 0, 1) := by decide +kernel
theorem dX2_advance_26 : decode cX2_advance 26 = .ok (.aload_n 0, 1) := by decide +kernel
theorem dX2_advance_27 : decode cX2_advance 27 = .ok (.getfield 12, 3) := by decide +kernel
theorem dX2_advance_30 : decode cX2_advance 30 = .ok (.getfield 70, 3) := by decide +kernel
theorem dX2_advance_33 : decode cX2_advance 33 = .ok (.iload_n 1, 1) := by decide +kernel
theorem dX2_advance_34 : decode cX2_advance 34 = .ok (.aload_n 0, 1) := by decide +kernel
theorem dX2_advance_35 : decode cX2_advance 35 = .ok (.getfield 63, 3) := by decide +kernel
theorem dX2_advance_38 : decode cX2_advance 38 = .ok (.aload_n 0, 1) := by decide +kernel
theorem dX2_advance_39 : decode cX2_advance 39 = .ok (.getfield 28, 3) := by decide +kernel
theorem dX2_advance_42 : decode cX2_advance 42 = .ok (.getfield 59, 3) := by decide +kernel
theorem dX2_advance_45 : decode cX2_advance 45 = .ok (.aload_n 0, 1) := by decide +kernel
theorem dX2_advance_46 : decode cX2_advance 46 = .ok (.getfield 42, 3) := by decide +kernel
theorem dX2_advance_49 : decode cX2_advance 49 = .ok (.invokevirtual 73, 3) := by decide +kernel
theorem dX2_advance_52 : decode cX2_advance 52 = .ok (.iconst 0, 1) := by decide +kernel
theorem dX2_advance_53 : decode cX2_advance 53 = .ok (.istore_n 2, 1) := by decide +kernel
theorem dX2_advance_54 : decode cX2_advance 54 = .ok (.iload_n 2, 1) := by decide +kernel
theorem dX2_advance_55 : decode cX2_advance 55 = .ok (.aload_n 0, 1) := by decide +kernel
theorem dX2_advance_56 : decode cX2_advance 56 = .ok (.getfield 12, 3) := by decide +kernel
theorem dX2_advance_59 : decode cX2_advance 59 = .ok (.getfield 77, 3) := by decide +kernel
theorem dX2_advance_62 : decode cX2_advance 62 = .ok (.if_icmp .ge 32, 3) := by decide +kernel
theorem dX2_advance_65 : decode cX2_advance 65 = .ok (.aload_n 0, 1) := by decide +kernel
theorem dX2_advance_66 : decode cX2_advance 66 = .ok (.getfield 12, 3) := by decide +kernel
theorem dX2_advance_69 : decode cX2_advance 69 = .ok (.getfield 80, 3) := by decide +kernel
theorem dX2_advance_72 : decode cX2_advance 72 = .ok (.iload_n 2, 1) := by decide +kernel
theorem dX2_advance_73 : decode cX2_advance 73 = .ok (.dup2, 1) := by decide +kernel
theorem dX2_advance_74 : decode cX2_advance 74 = .ok (.iaload, 1) := by decide +kernel
theorem dX2_advance_75 : decode cX2_advance 75 = .ok (.iload_n 1, 1) := by decide +kernel
theorem dX2_advance_76 : decode cX2_advance 76 = .ok (.aload_n 0, 1) := by decide +kernel
theorem dX2_advance_77 : decode cX2_advance 77 = .ok (.getfield 12, 3) := by decide +kernel
theorem dX2_advance_80 : decode cX2_advance 80 = .ok (.getfield 83, 3) := by decide +kernel
theorem dX2_advance_83 : decode cX2_advance 83 = .ok (.iload_n 2, 1) := by decide +kernel
theorem dX2_advance_84 : decode cX2_advance 84 = .ok (.iaload, 1) := by decide +kernel
theorem dX2_advance_85 : decode cX2_advance 85 = .ok (.imul, 1) := by decide +kernel
theorem dX2_advance_86 : decode cX2_advance 86 = .ok (.iadd, 1) := by decide +kernel
theorem dX2_advance_87 : decode cX2_advance 87 = .ok (.iastore, 1) := by decide +kernel
theorem dX2_advance_88 : decode cX2_advance 88 = .ok (.iinc 2 1, 3) := by decide +kernel
theorem dX2_advance_91 : decode cX2_advance 91 = .ok (.goto (-37), 3) := by decide +kernel
theorem dX2_advance_94 : decode cX2_advance 94 = .ok (.aload_n 0, 1) := by decide +kernel
theorem dX2_advance_95 : decode cX2_advance 95 = .ok (.invokevirtual 86, 3) := by decide +kernel
theorem dX2_advance_98 : decode cX2_advance 98 = .ok (.aload_n 0, 1) := by decide +kernel
theorem dX2_advance_99 : decode cX2_advance 99 = .ok (.dup, 1) := by decide +kernel
theorem dX2_advance_100 : decode cX2_advance 100 = .ok (.getfield 89, 3) := by decide +kernel
theorem dX2_advance_103 : decode cX2_advance 103 = .ok (.aload_n 0, 1) := by decide +kernel
theorem dX2_advance_104 : decode cX2_advance 104 = .ok (.aload_n 0, 1) := by decide +kernel
theorem dX2_advance_105 : decode cX2_advance 105 = .ok (.getfield 28, 3) := by decide +kernel
theorem dX2_advance_108 : decode cX2_advance 108 = .ok (.getfield 59, 3) := by decide +kernel
theorem dX2_advance_111 : decode cX2_advance 111 = .ok (.aload_n 0, 1) := by decide +kernel
theorem dX2_advance_112 : decode cX2_advance 112 = .ok (.getfield 63, 3) := by decide +kernel
theorem dX2_advance_115 : decode cX2_advance 115 = .ok (.invokevirtual 92, 3) := by decide +kernel
theorem dX2_advance_118 : decode cX2_advance 118 = .ok (.iadd, 1) := by decide +kernel
theorem dX2_advance_119 : decode cX2_advance 119 = .ok (.putfield 89, 3) := by decide +kernel
theorem dX2_advance_122 : decode cX2_advance 122 = .ok (.aload_n 0, 1) := by decide +kernel
theorem dX2_advance_123 : decode cX2_advance 123 = .ok (.dup, 1) := by decide +kernel
theorem dX2_advance_124 : decode cX2_advance 124 = .ok (.getfield 63, 3) := by decide +kernel
theorem dX2_advance_127 : decode cX2_advance 127 = .ok (.iconst 1, 1) := by decide +kernel
theorem dX2_advance_128 : decode cX2_advance 128 = .ok (.iadd, 1) := by decide +kernel
theorem dX2_advance_129 : decode cX2_advance 129 = .ok (.putfield 63, 3) := by decide +kernel
theorem dX2_advance_132 : decode cX2_advance 132 = .ok (.aload_n 0, 1) := by decide +kernel
theorem dX2_advance_133 : decode cX2_advance 133 = .ok (.getfield 12, 3) := by decide +kernel
theorem dX2_advance_136 : decode cX2_advance 136 = .ok (.invokevirtual 95, 3) := by decide +kernel
theorem dX2_advance_139 : decode cX2_advance 139 = .ok (.ireturn, 1) := by decide +kernel
theorem dX2_drain_0 : decode cX2_drain 0 = .ok (.iconst 0, 1) := by decide +kernel
theorem dX2_drain_1 : decode cX2_drain 1 = .ok (.istore_n 1, 1) := by decide +kernel
theorem dX2_drain_2 : decode cX2_drain 2 = .ok (.iload_n 1, 1) := by decide +kernel
theorem dX2_drain_3 : decode cX2_drain 3 = .ok (.aload_n 0, 1) := by decide +kernel
theorem dX2_drain_4 : decode cX2_drain 4 = .ok (.getfield 28, 3) := by decide +kernel
theorem dX2_drain_7 : decode cX2_drain 7 = .ok (.getfield 99, 3) := by decide +kernel
theorem dX2_drain_10 : decode cX2_drain 10 = .ok (.if_icmp .ge 52, 3) := by decide +kernel
theorem dX2_drain_13 : decode cX2_drain 13 = .ok (.aload_n 0, 1) := by decide +kernel
theorem dX2_drain_14 : decode cX2_drain 14 = .ok (.getfield 28, 3) := by decide +kernel
theorem dX2_drain_17 : decode cX2_drain 17 = .ok (.getfield 100, 3) := by decide +kernel
theorem dX2_drain_20 : decode cX2_drain 20 = .ok (.iload_n 1, 1) := by decide +kernel
theorem dX2_drain_21 : decode cX2_drain 21 = .ok (.iaload, 1) := by decide +kernel
theorem dX2_drain_22 : decode cX2_drain 22 = .ok (.bipush (-4), 2) := by decide +kernel
theorem dX2_drain_24 : decode cX2_drain 24 = .ok (.if_icmp .ne 32, 3) := by decide +kernel
theorem dX2_drain_27 : decode cX2_drain 27 = .ok (.aload_n 0, 1) := by decide +kernel
theorem dX2_drain_28 : decode cX2_drain 28 = .ok (.getfield 12, 3) := by decide +kernel
theorem dX2_drain_31 : decode cX2_drain 31 = .ok (.getfield 103, 3) := by decide +kernel
theorem dX2_drain_34 : decode cX2_drain 34 = .ok (.aload_n 0, 1) := by decide +kernel
theorem dX2_drain_35 : decode cX2_drain 35 = .ok (.getfield 28, 3) := by decide +kernel
theorem dX2_drain_38 : decode cX2_drain 38 = .ok (.getfield 106, 3) := by decide +kernel
theorem dX2_drain_41 : decode cX2_drain 41 = .ok (.iload_n 1, 1) := by decide +kernel
theorem dX2_drain_42 : decode cX2_drain 42 = .ok (.iaload, 1) := by decide +kernel
theorem dX2_drain_43 : decode cX2_drain 43 = .ok (.dup2, 1) := by decide +kernel
theorem dX2_drain_44 : decode cX2_drain 44 = .ok (.iaload, 1) := by decide +kernel
theorem dX2_drain_45 : decode cX2_drain 45 = .ok (.aload_n 0, 1) := by decide +kernel
theorem dX2_drain_46 : decode cX2_drain 46 = .ok (.getfield 42, 3) := by decide +kernel
theorem dX2_drain_49 : decode cX2_drain 49 = .ok (.getfield 109, 3) := by decide +kernel
theorem dX2_drain_52 : decode cX2_drain 52 = .ok (.iload_n 1, 1) := by decide +kernel
theorem dX2_drain_53 : decode cX2_drain 53 = .ok (.iaload, 1) := by decide +kernel
theorem dX2_drain_54 : decode cX2_drain 54 = .ok (.iadd, 1) := by decide +kernel
theorem dX2_drain_55 : decode cX2_drain 55 = .ok (.iastore, 1) := by decide +kernel
theorem dX2_drain_56 : decode cX2_drain 56 = .ok (.iinc 1 1, 3) := by decide +kernel
theorem dX2_drain_59 : decode cX2_drain 59 = .ok (.goto (-57), 3) := by decide +kernel
theorem dX2_drain_62 : decode cX2_drain 62 = .ok (.iconst 0, 1) := by decide +kernel
theorem dX2_drain_63 : decode cX2_drain 63 = .ok (.istore_n 1, 1) := by decide +kernel
theorem dX2_drain_64 : decode cX2_drain 64 = .ok (.iload_n 1, 1) := by decide +kernel
theorem dX2_drain_65 : decode cX2_drain 65 = .ok (.aload_n 0, 1) := by decide +kernel
theorem dX2_drain_66 : decode cX2_drain 66 = .ok (.getfield 35, 3) := by decide +kernel
theorem dX2_drain_69 : decode cX2_drain 69 = .ok (.getfield 111, 3) := by decide +kernel
theorem dX2_drain_72 : decode cX2_drain 72 = .ok (.if_icmp .ge 38, 3) := by decide +kernel
theorem dX2_drain_75 : decode cX2_drain 75 = .ok (.aload_n 0, 1) := by decide +kernel
theorem dX2_drain_76 : decode cX2_drain 76 = .ok (.getfield 12, 3) := by decide +kernel
theorem dX2_drain_79 : decode cX2_drain 79 = .ok (.getfield 103, 3) := by decide +kernel
theorem dX2_drain_82 : decode cX2_drain 82 = .ok (.aload_n 0, 1) := by decide +kernel
theorem dX2_drain_83 : decode cX2_drain 83 = .ok (.getfield 35, 3) := by decide +kernel
theorem dX2_drain_86 : decode cX2_drain 86 = .ok (.getfield 112, 3) := by decide +kernel
theorem dX2_drain_89 : decode cX2_drain 89 = .ok (.iload_n 1, 1) := by decide +kernel
theorem dX2_drain_90 : decode cX2_drain 90 = .ok (.iaload, 1) := by decide +kernel
theorem dX2_drain_91 : decode cX2_drain 91 = .ok (.dup2, 1) := by decide +kernel
theorem dX2_drain_92 : decode cX2_drain 92 = .ok (.iaload, 1) := by decide +kernel
theorem dX2_drain_93 : decode cX2_drain 93 = .ok (.aload_n 0, 1) := by decide +kernel
theorem dX2_drain_94 : decode cX2_drain 94 = .ok (.getfield 42, 3) := by decide +kernel
theorem dX2_drain_97 : decode cX2_drain 97 = .ok (.getfield 113, 3) := by decide +kernel
theorem dX2_drain_100 : decode cX2_drain 100 = .ok (.iload_n 1, 1) := by decide +kernel
theorem dX2_drain_101 : decode cX2_drain 101 = .ok (.iaload, 1) := by decide +kernel
theorem dX2_drain_102 : decode cX2_drain 102 = .ok (.iadd, 1) := by decide +kernel
theorem dX2_drain_103 : decode cX2_drain 103 = .ok (.iastore, 1) := by decide +kernel
theorem dX2_drain_104 : decode cX2_drain 104 = .ok (.iinc 1 1, 3) := by decide +kernel
theorem dX2_drain_107 : decode cX2_drain 107 = .ok (.goto (-43), 3) := by decide +kernel
theorem dX2_drain_110 : decode cX2_drain 110 = .ok (.return_, 1) := by decide +kernel
theorem dX2_cost_0 : decode cX2_cost 0 = .ok (.aload_n 0, 1) := by decide +kernel
theorem dX2_cost_1 : decode cX2_cost 1 = .ok (.getfield 50, 3) := by decide +kernel
theorem dX2_cost_4 : decode cX2_cost 4 = .ok (.iload_n 2, 1) := by decide +kernel
theorem dX2_cost_5 : decode cX2_cost 5 = .ok (.invokestatic 115, 3) := by decide +kernel
theorem dX2_cost_8 : decode cX2_cost 8 = .ok (.iaload, 1) := by decide +kernel
theorem dX2_cost_9 : decode cX2_cost 9 = .ok (.iload_n 1, 1) := by decide +kernel
theorem dX2_cost_10 : decode cX2_cost 10 = .ok (.invokestatic 119, 3) := by decide +kernel
theorem dX2_cost_13 : decode cX2_cost 13 = .ok (.imul, 1) := by decide +kernel
theorem dX2_cost_14 : decode cX2_cost 14 = .ok (.ireturn, 1) := by decide +kernel
theorem dX2_move_0 : decode cX2_move 0 = .ok (.iconst 0, 1) := by decide +kernel
theorem dX2_move_1 : decode cX2_move 1 = .ok (.istore 6, 2) := by decide +kernel
theorem dX2_move_3 : decode cX2_move 3 = .ok (.iload 6, 2) := by decide +kernel
theorem dX2_move_5 : decode cX2_move 5 = .ok (.aload_n 0, 1) := by decide +kernel
theorem dX2_move_6 : decode cX2_move 6 = .ok (.getfield 12, 3) := by decide +kernel
theorem dX2_move_9 : decode cX2_move 9 = .ok (.getfield 77, 3) := by decide +kernel
theorem dX2_move_12 : decode cX2_move 12 = .ok (.if_icmp .ge 28, 3) := by decide +kernel
theorem dX2_move_15 : decode cX2_move 15 = .ok (.aload_n 1, 1) := by decide +kernel
theorem dX2_move_16 : decode cX2_move 16 = .ok (.iload 6, 2) := by decide +kernel
theorem dX2_move_18 : decode cX2_move 18 = .ok (.dup2, 1) := by decide +kernel
theorem dX2_move_19 : decode cX2_move 19 = .ok (.iaload, 1) := by decide +kernel
theorem dX2_move_20 : decode cX2_move 20 = .ok (.iload_n 2, 1) := by decide +kernel
theorem dX2_move_21 : decode cX2_move 21 = .ok (.aload_n 0, 1) := by decide +kernel
theorem dX2_move_22 : decode cX2_move 22 = .ok (.getfield 12, 3) := by decide +kernel
theorem dX2_move_25 : decode cX2_move 25 = .ok (.getfield 83, 3) := by decide +kernel
theorem dX2_move_28 : decode cX2_move 28 = .ok (.iload 6, 2) := by decide +kernel
theorem dX2_move_30 : decode cX2_move 30 = .ok (.iaload, 1) := by decide +kernel
theorem dX2_move_31 : decode cX2_move 31 = .ok (.imul, 1) := by decide +kernel
theorem dX2_move_32 : decode cX2_move 32 = .ok (.iadd, 1) := by decide +kernel
theorem dX2_move_33 : decode cX2_move 33 = .ok (.iastore, 1) := by decide +kernel
theorem dX2_move_34 : decode cX2_move 34 = .ok (.iinc 6 1, 3) := by decide +kernel
theorem dX2_move_37 : decode cX2_move 37 = .ok (.goto (-34), 3) := by decide +kernel
theorem dX2_move_40 : decode cX2_move 40 = .ok (.iconst 0, 1) := by decide +kernel
theorem dX2_move_41 : decode cX2_move 41 = .ok (.istore 6, 2) := by decide +kernel
theorem dX2_move_43 : decode cX2_move 43 = .ok (.iload 6, 2) := by decide +kernel
theorem dX2_move_45 : decode cX2_move 45 = .ok (.aload_n 0, 1) := by decide +kernel
theorem dX2_move_46 : decode cX2_move 46 = .ok (.getfield 21, 3) := by decide +kernel
theorem dX2_move_49 : decode cX2_move 49 = .ok (.getfield 124, 3) := by decide +kernel
theorem dX2_move_52 : decode cX2_move 52 = .ok (.if_icmp .ge 24, 3) := by decide +kernel
theorem dX2_move_55 : decode cX2_move 55 = .ok (.aload 5, 2) := by decide +kernel
theorem dX2_move_57 : decode cX2_move 57 = .ok (.getfield 125, 3) := by decide +kernel
theorem dX2_move_60 : decode cX2_move 60 = .ok (.iload 6, 2) := by decide +kernel
theorem dX2_move_62 : decode cX2_move 62 = .ok (.aload_n 0, 1) := by decide +kernel
theorem dX2_move_63 : decode cX2_move 63 = .ok (.iload 6, 2) := by decide +kernel
theorem dX2_move_65 : decode cX2_move 65 = .ok (.aload_n 1, 1) := by decide +kernel
theorem dX2_move_66 : decode cX2_move 66 = .ok (.invokevirtual 127, 3) := by decide +kernel
theorem dX2_move_69 : decode cX2_move 69 = .ok (.iastore, 1) := by decide +kernel
theorem dX2_move_70 : decode cX2_move 70 = .ok (.iinc 6 1, 3) := by decide +kernel
theorem dX2_move_73 : decode cX2_move 73 = .ok (.goto (-30), 3) := by decide +kernel
theorem dX2_move_76 : decode cX2_move 76 = .ok (.iconst 0, 1) := by decide +kernel
theorem dX2_move_77 : decode cX2_move 77 = .ok (.istore 6, 2) := by decide +kernel
theorem dX2_move_79 : decode cX2_move 79 = .ok (.iload 6, 2) := by decide +kernel
theorem dX2_move_81 : decode cX2_move 81 = .ok (.aload_n 0, 1) := by decide +kernel
theorem dX2_move_82 : decode cX2_move 82 = .ok (.getfield 28, 3) := by decide +kernel
theorem dX2_move_85 : decode cX2_move 85 = .ok (.getfield 99, 3) := by decide +kernel
theorem dX2_move_88 : decode cX2_move 88 = .ok (.if_icmp .ge 38, 3) := by decide +kernel
theorem dX2_move_91 : decode cX2_move 91 = .ok (.aload 5, 2) := by decide +kernel
theorem dX2_move_93 : decode cX2_move 93 = .ok (.getfield 109, 3) := by decide +kernel
theorem dX2_move_96 : decode cX2_move 96 = .ok (.iload 6, 2) := by decide +kernel
theorem dX2_move_98 : decode cX2_move 98 = .ok (.iload 4, 2) := by decide +kernel
theorem dX2_move_100 : decode cX2_move 100 = .ok (.iload 6, 2) := by decide +kernel
theorem dX2_move_102 : decode cX2_move 102 = .ok (.ishr, 1) := by decide +kernel
theorem dX2_move_103 : decode cX2_move 103 = .ok (.iconst 1, 1) := by decide +kernel
theorem dX2_move_104 : decode cX2_move 104 = .ok (.iand, 1) := by decide +kernel
theorem dX2_move_105 : decode cX2_move 105 = .ok (.ifCond .eq 13, 3) := by decide +kernel
theorem dX2_move_108 : decode cX2_move 108 = .ok (.aload_n 0, 1) := by decide +kernel
theorem dX2_move_109 : decode cX2_move 109 = .ok (.iload 6, 2) := by decide +kernel
theorem dX2_move_111 : decode cX2_move 111 = .ok (.aload_n 1, 1) := by decide +kernel
theorem dX2_move_112 : decode cX2_move 112 = .ok (.invokevirtual 131, 3) := by decide +kernel
theorem dX2_move_115 : decode cX2_move 115 = .ok (.goto 4, 3) := by decide +kernel
theorem dX2_move_118 : decode cX2_move 118 = .ok (.iconst 0, 1) := by decide +kernel
theorem dX2_move_119 : decode cX2_move 119 = .ok (.iastore, 1) := by decide +kernel
theorem dX2_move_120 : decode cX2_move 120 = .ok (.iinc 6 1, 3) := by decide +kernel
theorem dX2_move_123 : decode cX2_move 123 = .ok (.goto (-44), 3) := by decide +kernel
theorem dX2_move_126 : decode cX2_move 126 = .ok (.iconst 0, 1) := by decide +kernel
theorem dX2_move_127 : decode cX2_move 127 = .ok (.istore 6, 2) := by decide +kernel
theorem dX2_move_129 : decode cX2_move 129 = .ok (.iload 6, 2) := by decide +kernel
theorem dX2_move_131 : decode cX2_move 131 = .ok (.aload_n 0, 1) := by decide +kernel
theorem dX2_move_132 : decode cX2_move 132 = .ok (.getfield 35, 3) := by decide +kernel
theorem dX2_move_135 : decode cX2_move 135 = .ok (.getfield 111, 3) := by decide +kernel
theorem dX2_move_138 : decode cX2_move 138 = .ok (.if_icmp .ge 50, 3) := by decide +kernel
theorem dX2_move_141 : decode cX2_move 141 = .ok (.aload 5, 2) := by decide +kernel
theorem dX2_move_143 : decode cX2_move 143 = .ok (.getfield 113, 3) := by decide +kernel
theorem dX2_move_146 : decode cX2_move 146 = .ok (.iload 6, 2) := by decide +kernel
theorem dX2_move_148 : decode cX2_move 148 = .ok (.aload_n 0, 1) := by decide +kernel
theorem dX2_move_149 : decode cX2_move 149 = .ok (.getfield 35, 3) := by decide +kernel
theorem dX2_move_152 : decode cX2_move 152 = .ok (.getfield 134, 3) := by decide +kernel
theorem dX2_move_155 : decode cX2_move 155 = .ok (.iload 6, 2) := by decide +kernel
theorem dX2_move_157 : decode cX2_move 157 = .ok (.baload, 1) := by decide +kernel
theorem dX2_move_158 : decode cX2_move 158 = .ok (.ifCond .eq 22, 3) := by decide +kernel
theorem dX2_move_161 : decode cX2_move 161 = .ok (.aload_n 0, 1) := by decide +kernel
theorem dX2_move_162 : decode cX2_move 162 = .ok (.iload 6, 2) := by decide +kernel
theorem dX2_move_164 : decode cX2_move 164 = .ok (.aload_n 1, 1) := by decide +kernel
theorem dX2_move_165 : decode cX2_move 165 = .ok (.aload_n 0, 1) := by decide +kernel
theorem dX2_move_166 : decode cX2_move 166 = .ok (.getfield 46, 3) := by decide +kernel
theorem dX2_move_169 : decode cX2_move 169 = .ok (.iload_n 3, 1) := by decide +kernel
theorem dX2_move_170 : decode cX2_move 170 = .ok (.invokestatic 115, 3) := by decide +kernel
theorem dX2_move_173 : decode cX2_move 173 = .ok (.iaload, 1) := by decide +kernel
theorem dX2_move_174 : decode cX2_move 174 = .ok (.invokevirtual 138, 3) := by decide +kernel
theorem dX2_move_177 : decode cX2_move 177 = .ok (.goto 4, 3) := by decide +kernel
theorem dX2_move_180 : decode cX2_move 180 = .ok (.iconst 0, 1) := by decide +kernel
theorem dX2_move_181 : decode cX2_move 181 = .ok (.iastore, 1) := by decide +kernel
theorem dX2_move_182 : decode cX2_move 182 = .ok (.iinc 6 1, 3) := by decide +kernel
theorem dX2_move_185 : decode cX2_move 185 = .ok (.goto (-56), 3) := by decide +kernel
theorem dX2_move_188 : decode cX2_move 188 = .ok (.return_, 1) := by decide +kernel
theorem dX2_passWeir_0 : decode cX2_passWeir 0 = .ok (.aload_n 0, 1) := by decide +kernel
theorem dX2_passWeir_1 : decode cX2_passWeir 1 = .ok (.getfield 21, 3) := by decide +kernel
theorem dX2_passWeir_4 : decode cX2_passWeir 4 = .ok (.getfield 142, 3) := by decide +kernel
theorem dX2_passWeir_7 : decode cX2_passWeir 7 = .ok (.iload_n 1, 1) := by decide +kernel
theorem dX2_passWeir_8 : decode cX2_passWeir 8 = .ok (.iaload, 1) := by decide +kernel
theorem dX2_passWeir_9 : decode cX2_passWeir 9 = .ok (.istore_n 3, 1) := by decide +kernel
theorem dX2_passWeir_10 : decode cX2_passWeir 10 = .ok (.aload_n 0, 1) := by decide +kernel
theorem dX2_passWeir_11 : decode cX2_passWeir 11 = .ok (.getfield 21, 3) := by decide +kernel
theorem dX2_passWeir_14 : decode cX2_passWeir 14 = .ok (.getfield 143, 3) := by decide +kernel
theorem dX2_passWeir_17 : decode cX2_passWeir 17 = .ok (.iload_n 1, 1) := by decide +kernel
theorem dX2_passWeir_18 : decode cX2_passWeir 18 = .ok (.iaload, 1) := by decide +kernel
theorem dX2_passWeir_19 : decode cX2_passWeir 19 = .ok (.istore 4, 2) := by decide +kernel
theorem dX2_passWeir_21 : decode cX2_passWeir 21 = .ok (.aload_n 0, 1) := by decide +kernel
theorem dX2_passWeir_22 : decode cX2_passWeir 22 = .ok (.getfield 12, 3) := by decide +kernel
theorem dX2_passWeir_25 : decode cX2_passWeir 25 = .ok (.iload_n 3, 1) := by decide +kernel
theorem dX2_passWeir_26 : decode cX2_passWeir 26 = .ok (.aload_n 2, 1) := by decide +kernel
theorem dX2_passWeir_27 : decode cX2_passWeir 27 = .ok (.invokevirtual 144, 3) := by decide +kernel
theorem dX2_passWeir_30 : decode cX2_passWeir 30 = .ok (.aload_n 0, 1) := by decide +kernel
theorem dX2_passWeir_31 : decode cX2_passWeir 31 = .ok (.getfield 21, 3) := by decide +kernel
theorem dX2_passWeir_34 : decode cX2_passWeir 34 = .ok (.getfield 147, 3) := by decide +kernel
theorem dX2_passWeir_37 : decode cX2_passWeir 37 = .ok (.iload_n 1, 1) := by decide +kernel
theorem dX2_passWeir_38 : decode cX2_passWeir 38 = .ok (.iaload, 1) := by decide +kernel
theorem dX2_passWeir_39 : decode cX2_passWeir 39 = .ok (.aload_n 0, 1) := by decide +kernel
theorem dX2_passWeir_40 : decode cX2_passWeir 40 = .ok (.getfield 12, 3) := by decide +kernel
theorem dX2_passWeir_43 : decode cX2_passWeir 43 = .ok (.iload 4, 2) := by decide +kernel
theorem dX2_passWeir_45 : decode cX2_passWeir 45 = .ok (.aload_n 2, 1) := by decide +kernel
theorem dX2_passWeir_46 : decode cX2_passWeir 46 = .ok (.invokevirtual 144, 3) := by decide +kernel
theorem dX2_passWeir_49 : decode cX2_passWeir 49 = .ok (.invokestatic 150, 3) := by decide +kernel
theorem dX2_passWeir_52 : decode cX2_passWeir 52 = .ok (.isub, 1) := by decide +kernel
theorem dX2_passWeir_53 : decode cX2_passWeir 53 = .ok (.i2l, 1) := by decide +kernel
theorem dX2_passWeir_54 : decode cX2_passWeir 54 = .ok (.lstore 5, 2) := by decide +kernel
theorem dX2_passWeir_56 : decode cX2_passWeir 56 = .ok (.aload_n 0, 1) := by decide +kernel
theorem dX2_passWeir_57 : decode cX2_passWeir 57 = .ok (.getfield 12, 3) := by decide +kernel
theorem dX2_passWeir_60 : decode cX2_passWeir 60 = .ok (.getfield 83, 3) := by decide +kernel
theorem dX2_passWeir_63 : decode cX2_passWeir 63 = .ok (.iload_n 3, 1) := by decide +kernel
theorem dX2_passWeir_64 : decode cX2_passWeir 64 = .ok (.iaload, 1) := by decide +kernel
theorem dX2_passWeir_65 : decode cX2_passWeir 65 = .ok (.aload_n 0, 1) := by decide +kernel
theorem dX2_passWeir_66 : decode cX2_passWeir 66 = .ok (.getfield 12, 3) := by decide +kernel
theorem dX2_passWeir_69 : decode cX2_passWeir 69 = .ok (.getfield 83, 3) := by decide +kernel
theorem dX2_passWeir_72 : decode cX2_passWeir 72 = .ok (.iload 4, 2) := by decide +kernel
theorem dX2_passWeir_74 : decode cX2_passWeir 74 = .ok (.iaload, 1) := by decide +kernel
theorem dX2_passWeir_75 : decode cX2_passWeir 75 = .ok (.iadd, 1) := by decide +kernel
theorem dX2_passWeir_76 : decode cX2_passWeir 76 = .ok (.i2l, 1) := by decide +kernel
theorem dX2_passWeir_77 : decode cX2_passWeir 77 = .ok (.lstore 7, 2) := by decide +kernel
theorem dX2_passWeir_79 : decode cX2_passWeir 79 = .ok (.lload 5, 2) := by decide +kernel
theorem dX2_passWeir_81 : decode cX2_passWeir 81 = .ok (.lconst 0, 1) := by decide +kernel
theorem dX2_passWeir_82 : decode cX2_passWeir 82 = .ok (.lcmp, 1) := by decide +kernel
theorem dX2_passWeir_83 : decode cX2_passWeir 83 = .ok (.ifCond .le 10, 3) := by decide +kernel
theorem dX2_passWeir_86 : decode cX2_passWeir 86 = .ok (.lload 7, 2) := by decide +kernel
theorem dX2_passWeir_88 : decode cX2_passWeir 88 = .ok (.lconst 1, 1) := by decide +kernel
theorem dX2_passWeir_89 : decode cX2_passWeir 89 = .ok (.lcmp, 1) := by decide +kernel
theorem dX2_passWeir_90 : decode cX2_passWeir 90 = .ok (.ifCond .ge 5, 3) := by decide +kernel
theorem dX2_passWeir_93 : decode cX2_passWeir 93 = .ok (.iconst 0, 1) := by decide +kernel
theorem dX2_passWeir_94 : decode cX2_passWeir 94 = .ok (.ireturn, 1) := by decide +kernel
theorem dX2_passWeir_95 : decode cX2_passWeir 95 = .ok (.aload_n 0, 1) := by decide +kernel
theorem dX2_passWeir_96 : decode cX2_passWeir 96 = .ok (.getfield 12, 3) := by decide +kernel
theorem dX2_passWeir_99 : decode cX2_passWeir 99 = .ok (.getfield 83, 3) := by decide +kernel
theorem dX2_passWeir_102 : decode cX2_passWeir 102 = .ok (.iload_n 3, 1) := by decide +kernel
theorem dX2_passWeir_103 : decode cX2_passWeir 103 = .ok (.iaload, 1) := by decide +kernel
theorem dX2_passWeir_104 : decode cX2_passWeir 104 = .ok (.aload_n 0, 1) := by decide +kernel
theorem dX2_passWeir_105 : decode cX2_passWeir 105 = .ok (.getfield 12, 3) := by decide +kernel
theorem dX2_passWeir_108 : decode cX2_passWeir 108 = .ok (.getfield 83, 3) := by decide +kernel
theorem dX2_passWeir_111 : decode cX2_passWeir 111 = .ok (.iload 4, 2) := by decide +kernel
theorem dX2_passWeir_113 : decode cX2_passWeir 113 = .ok (.iaload, 1) := by decide +kernel
theorem dX2_passWeir_114 : decode cX2_passWeir 114 = .ok (.imul, 1) := by decide +kernel
theorem dX2_passWeir_115 : decode cX2_passWeir 115 = .ok (.i2l, 1) := by decide +kernel
theorem dX2_passWeir_116 : decode cX2_passWeir 116 = .ok (.lload 5, 2) := by decide +kernel
theorem dX2_passWeir_118 : decode cX2_passWeir 118 = .ok (.lmul, 1) := by decide +kernel
theorem dX2_passWeir_119 : decode cX2_passWeir 119 = .ok (.lload 7, 2) := by decide +kernel
theorem dX2_passWeir_121 : decode cX2_passWeir 121 = .ok (.ldiv, 1) := by decide +kernel
theorem dX2_passWeir_122 : decode cX2_passWeir 122 = .ok (.lstore 9, 2) := by decide +kernel
theorem dX2_passWeir_124 : decode cX2_passWeir 124 = .ok (.aload_n 2, 1) := by decide +kernel
theorem dX2_passWeir_125 : decode cX2_passWeir 125 = .ok (.iload_n 3, 1) := by decide +kernel
theorem dX2_passWeir_126 : decode cX2_passWeir 126 = .ok (.iaload, 1) := by decide +kernel
theorem dX2_passWeir_127 : decode cX2_passWeir 127 = .ok (.i2l, 1) := by decide +kernel
theorem dX2_passWeir_128 : decode cX2_passWeir 128 = .ok (.aload_n 0, 1) := by decide +kernel
theorem dX2_passWeir_129 : decode cX2_passWeir 129 = .ok (.getfield 21, 3) := by decide +kernel
theorem dX2_passWeir_132 : decode cX2_passWeir 132 = .ok (.getfield 155, 3) := by decide +kernel
theorem dX2_passWeir_135 : decode cX2_passWeir 135 = .ok (.iload_n 1, 1) := by decide +kernel
theorem dX2_passWeir_136 : decode cX2_passWeir 136 = .ok (.iaload, 1) := by decide +kernel
theorem dX2_passWeir_137 : decode cX2_passWeir 137 = .ok (.i2l, 1) := by decide +kernel
theorem dX2_passWeir_138 : decode cX2_passWeir 138 = .ok (.lload 5, 2) := by decide +kernel
theorem dX2_passWeir_140 : decode cX2_passWeir 140 = .ok (.lmul, 1) := by decide +kernel
theorem dX2_passWeir_141 : decode cX2_passWeir 141 = .ok (.lload 9, 2) := by decide +kernel
theorem dX2_passWeir_143 : decode cX2_passWeir 143 = .ok (.invokestatic 158, 3) := by decide +kernel
theorem dX2_passWeir_146 : decode cX2_passWeir 146 = .ok (.invokestatic 158, 3) := by decide +kernel
theorem dX2_passWeir_149 : decode cX2_passWeir 149 = .ok (.l2i, 1) := by decide +kernel
theorem dX2_passWeir_150 : decode cX2_passWeir 150 = .ok (.istore 11, 2) := by decide +kernel
theorem dX2_passWeir_152 : decode cX2_passWeir 152 = .ok (.aload_n 2, 1) := by decide +kernel
theorem dX2_passWeir_153 : decode cX2_passWeir 153 = .ok (.iload_n 3, 1) := by decide +kernel
theorem dX2_passWeir_154 : decode cX2_passWeir 154 = .ok (.dup2, 1) := by decide +kernel
theorem dX2_passWeir_155 : decode cX2_passWeir 155 = .ok (.iaload, 1) := by decide +kernel
theorem dX2_passWeir_156 : decode cX2_passWeir 156 = .ok (.iload 11, 2) := by decide +kernel
theorem dX2_passWeir_158 : decode cX2_passWeir 158 = .ok (.isub, 1) := by decide +kernel
theorem dX2_passWeir_159 : decode cX2_passWeir 159 = .ok (.iastore, 1) := by decide +kernel
theorem dX2_passWeir_160 : decode cX2_passWeir 160 = .ok (.aload_n 2, 1) := by decide +kernel
theorem dX2_passWeir_161 : decode cX2_passWeir 161 = .ok (.iload 4, 2) := by decide +kernel
theorem dX2_passWeir_163 : decode cX2_passWeir 163 = .ok (.dup2, 1) := by decide +kernel
theorem dX2_passWeir_164 : decode cX2_passWeir 164 = .ok (.iaload, 1) := by decide +kernel
theorem dX2_passWeir_165 : decode cX2_passWeir 165 = .ok (.iload 11, 2) := by decide +kernel
theorem dX2_passWeir_167 : decode cX2_passWeir 167 = .ok (.iadd, 1) := by decide +kernel
theorem dX2_passWeir_168 : decode cX2_passWeir 168 = .ok (.iastore, 1) := by decide +kernel
theorem dX2_passWeir_169 : decode cX2_passWeir 169 = .ok (.iload 11, 2) := by decide +kernel
theorem dX2_passWeir_171 : decode cX2_passWeir 171 = .ok (.ireturn, 1) := by decide +kernel
theorem dX2_passPump_0 : decode cX2_passPump 0 = .ok (.aload_n 0, 1) := by decide +kernel
theorem dX2_passPump_1 : decode cX2_passPump 1 = .ok (.getfield 28, 3) := by decide +kernel
theorem dX2_passPump_4 : decode cX2_passPump 4 = .ok (.getfield 106, 3) := by decide +kernel
theorem dX2_passPump_7 : decode cX2_passPump 7 = .ok (.iload_n 1, 1) := by decide +kernel
theorem dX2_passPump_8 : decode cX2_passPump 8 = .ok (.iaload, 1) := by decide +kernel
theorem dX2_passPump_9 : decode cX2_passPump 9 = .ok (.istore_n 3, 1) := by decide +kernel
theorem dX2_passPump_10 : decode cX2_passPump 10 = .ok (.aload_n 0, 1) := by decide +kernel
theorem dX2_passPump_11 : decode cX2_passPump 11 = .ok (.getfield 28, 3) := by decide +kernel
theorem dX2_passPump_14 : decode cX2_passPump 14 = .ok (.getfield 100, 3) := by decide +kernel
theorem dX2_passPump_17 : decode cX2_passPump 17 = .ok (.iload_n 1, 1) := by decide +kernel
theorem dX2_passPump_18 : decode cX2_passPump 18 = .ok (.iaload, 1) := by decide +kernel
theorem dX2_passPump_19 : decode cX2_passPump 19 = .ok (.istore 4, 2) := by decide +kernel
theorem dX2_passPump_21 : decode cX2_passPump 21 = .ok (.aload_n 0, 1) := by decide +kernel
theorem dX2_passPump_22 : decode cX2_passPump 22 = .ok (.getfield 28, 3) := by decide +kernel
theorem dX2_passPump_25 : decode cX2_passPump 25 = .ok (.getfield 162, 3) := by decide +kernel
theorem dX2_passPump_28 : decode cX2_passPump 28 = .ok (.iload_n 1, 1) := by decide +kernel
theorem dX2_passPump_29 : decode cX2_passPump 29 = .ok (.iaload, 1) := by decide +kernel
theorem dX2_passPump_30 : decode cX2_passPump 30 = .ok (.aload_n 2, 1) := by decide +kernel
theorem dX2_passPump_31 : decode cX2_passPump 31 = .ok (.iload_n 3, 1) := by decide +kernel
theorem dX2_passPump_32 : decode cX2_passPump 32 = .ok (.iaload, 1) := by decide +kernel
theorem dX2_passPump_33 : decode cX2_passPump 33 = .ok (.invokestatic 165, 3) := by decide +kernel
theorem dX2_passPump_36 : decode cX2_passPump 36 = .ok (.istore 5, 2) := by decide +kernel
theorem dX2_passPump_38 : decode cX2_passPump 38 = .ok (.aload_n 2, 1) := by decide +kernel
theorem dX2_passPump_39 : decode cX2_passPump 39 = .ok (.iload_n 3, 1) := by decide +kernel
theorem dX2_passPump_40 : decode cX2_passPump 40 = .ok (.dup2, 1) := by decide +kernel
theorem dX2_passPump_41 : decode cX2_passPump 41 = .ok (.iaload, 1) := by decide +kernel
theorem dX2_passPump_42 : decode cX2_passPump 42 = .ok (.iload 5, 2) := by decide +kernel
theorem dX2_passPump_44 : decode cX2_passPump 44 = .ok (.isub, 1) := by decide +kernel
theorem dX2_passPump_45 : decode cX2_passPump 45 = .ok (.iastore, 1) := by decide +kernel
theorem dX2_passPump_46 : decode cX2_passPump 46 = .ok (.iload 4, 2) := by decide +kernel
theorem dX2_passPump_48 : decode cX2_passPump 48 = .ok (.bipush (-4), 2) := by decide +kernel
theorem dX2_passPump_50 : decode cX2_passPump 50 = .ok (.if_icmp .eq 12, 3) := by decide +kernel
theorem dX2_passPump_53 : decode cX2_passPump 53 = .ok (.aload_n 2, 1) := by decide +kernel
theorem dX2_passPump_54 : decode cX2_passPump 54 = .ok (.iload 4, 2) := by decide +kernel
theorem dX2_passPump_56 : decode cX2_passPump 56 = .ok (.dup2, 1) := by decide +kernel
theorem dX2_passPump_57 : decode cX2_passPump 57 = .ok (.iaload, 1) := by decide +kernel
theorem dX2_passPump_58 : decode cX2_passPump 58 = .ok (.iload 5, 2) := by decide +kernel
theorem dX2_passPump_60 : decode cX2_passPump 60 = .ok (.iadd, 1) := by decide +kernel
theorem dX2_passPump_61 : decode cX2_passPump 61 = .ok (.iastore, 1) := by decide +kernel
theorem dX2_passPump_62 : decode cX2_passPump 62 = .ok (.iload 5, 2) := by decide +kernel
theorem dX2_passPump_64 : decode cX2_passPump 64 = .ok (.ireturn, 1) := by decide +kernel
theorem dX2_passSluice_0 : decode cX2_passSluice 0 = .ok (.aload_n 0, 1) := by decide +kernel
theorem dX2_passSluice_1 : decode cX2_passSluice 1 = .ok (.getfield 35, 3) := by decide +kernel
theorem dX2_passSluice_4 : decode cX2_passSluice 4 = .ok (.getfield 112, 3) := by decide +kernel
theorem dX2_passSluice_7 : decode cX2_passSluice 7 = .ok (.iload_n 1, 1) := by decide +kernel
theorem dX2_passSluice_8 : decode cX2_passSluice 8 = .ok (.iaload, 1) := by decide +kernel
theorem dX2_passSluice_9 : decode cX2_passSluice 9 = .ok (.istore 4, 2) := by decide +kernel
theorem dX2_passSluice_11 : decode cX2_passSluice 11 = .ok (.aload_n 0, 1) := by decide +kernel
theorem dX2_passSluice_12 : decode cX2_passSluice 12 = .ok (.getfield 12, 3) := by decide +kernel
theorem dX2_passSluice_15 : decode cX2_passSluice 15 = .ok (.iload 4, 2) := by decide +kernel
theorem dX2_passSluice_17 : decode cX2_passSluice 17 = .ok (.aload_n 2, 1) := by decide +kernel
theorem dX2_passSluice_18 : decode cX2_passSluice 18 = .ok (.invokevirtual 144, 3) := by decide +kernel
theorem dX2_passSluice_21 : decode cX2_passSluice 21 = .ok (.iload_n 3, 1) := by decide +kernel
theorem dX2_passSluice_22 : decode cX2_passSluice 22 = .ok (.isub, 1) := by decide +kernel
theorem dX2_passSluice_23 : decode cX2_passSluice 23 = .ok (.i2l, 1) := by decide +kernel
theorem dX2_passSluice_24 : decode cX2_passSluice 24 = .ok (.lstore 5, 2) := by decide +kernel
theorem dX2_passSluice_26 : decode cX2_passSluice 26 = .ok (.lload 5, 2) := by decide +kernel
theorem dX2_passSluice_28 : decode cX2_passSluice 28 = .ok (.lconst 0, 1) := by decide +kernel
theorem dX2_passSluice_29 : decode cX2_passSluice 29 = .ok (.lcmp, 1) := by decide +kernel
theorem dX2_passSluice_30 : decode cX2_passSluice 30 = .ok (.ifCond .gt 5, 3) := by decide +kernel
theorem dX2_passSluice_33 : decode cX2_passSluice 33 = .ok (.iconst 0, 1) := by decide +kernel
theorem dX2_passSluice_34 : decode cX2_passSluice 34 = .ok (.ireturn, 1) := by decide +kernel
theorem dX2_passSluice_35 : decode cX2_passSluice 35 = .ok (.aload_n 0, 1) := by decide +kernel
theorem dX2_passSluice_36 : decode cX2_passSluice 36 = .ok (.getfield 35, 3) := by decide +kernel
theorem dX2_passSluice_39 : decode cX2_passSluice 39 = .ok (.getfield 167, 3) := by decide +kernel
theorem dX2_passSluice_42 : decode cX2_passSluice 42 = .ok (.iload_n 1, 1) := by decide +kernel
theorem dX2_passSluice_43 : decode cX2_passSluice 43 = .ok (.iaload, 1) := by decide +kernel
theorem dX2_passSluice_44 : decode cX2_passSluice 44 = .ok (.i2l, 1) := by decide +kernel
theorem dX2_passSluice_45 : decode cX2_passSluice 45 = .ok (.lload 5, 2) := by decide +kernel
theorem dX2_passSluice_47 : decode cX2_passSluice 47 = .ok (.lmul, 1) := by decide +kernel
theorem dX2_passSluice_48 : decode cX2_passSluice 48 = .ok (.aload_n 2, 1) := by decide +kernel
theorem dX2_passSluice_49 : decode cX2_passSluice 49 = .ok (.iload 4, 2) := by decide +kernel
theorem dX2_passSluice_51 : decode cX2_passSluice 51 = .ok (.iaload, 1) := by decide +kernel
theorem dX2_passSluice_52 : decode cX2_passSluice 52 = .ok (.i2l, 1) := by decide +kernel
theorem dX2_passSluice_53 : decode cX2_passSluice 53 = .ok (.invokestatic 158, 3) := by decide +kernel
theorem dX2_passSluice_56 : decode cX2_passSluice 56 = .ok (.l2i, 1) := by decide +kernel
theorem dX2_passSluice_57 : decode cX2_passSluice 57 = .ok (.istore 7, 2) := by decide +kernel
theorem dX2_passSluice_59 : decode cX2_passSluice 59 = .ok (.aload_n 2, 1) := by decide +kernel
theorem dX2_passSluice_60 : decode cX2_passSluice 60 = .ok (.iload 4, 2) := by decide +kernel
theorem dX2_passSluice_62 : decode cX2_passSluice 62 = .ok (.dup2, 1) := by decide +kernel
theorem dX2_passSluice_63 : decode cX2_passSluice 63 = .ok (.iaload, 1) := by decide +kernel
theorem dX2_passSluice_64 : decode cX2_passSluice 64 = .ok (.iload 7, 2) := by decide +kernel
theorem dX2_passSluice_66 : decode cX2_passSluice 66 = .ok (.isub, 1) := by decide +kernel
theorem dX2_passSluice_67 : decode cX2_passSluice 67 = .ok (.iastore, 1) := by decide +kernel
theorem dX2_passSluice_68 : decode cX2_passSluice 68 = .ok (.iload 7, 2) := by decide +kernel
theorem dX2_passSluice_70 : decode cX2_passSluice 70 = .ok (.ireturn, 1) := by decide +kernel
theorem dX3_init_0 : decode cX3_init 0 = .ok (.aload_n 0, 1) := by decide +kernel
theorem dX3_init_1 : decode cX3_init 1 = .ok (.invokespecial 3, 3) := by decide +kernel
theorem dX3_init_4 : decode cX3_init 4 = .ok (.aload_n 0, 1) := by decide +kernel
theorem dX3_init_5 : decode cX3_init 5 = .ok (.bipush 21, 2) := by decide +kernel
theorem dX3_init_7 : decode cX3_init 7 = .ok (.bipush 6, 2) := by decide +kernel
theorem dX3_init_9 : decode cX3_init 9 = .ok (.multianewarray 9 2, 4) := by decide +kernel
theorem dX3_init_13 : decode cX3_init 13 = .ok (.putfield 11, 3) := by decide +kernel
theorem dX3_init_16 : decode cX3_init 16 = .ok (.aload_n 0, 1) := by decide +kernel
theorem dX3_init_17 : decode cX3_init 17 = .ok (.new 16, 3) := by decide +kernel
theorem dX3_init_20 : decode cX3_init 20 = .ok (.dup, 1) := by decide +kernel
theorem dX3_init_21 : decode cX3_init 21 = .ok (.invokespecial 18, 3) := by decide +kernel
theorem dX3_init_24 : decode cX3_init 24 = .ok (.putfield 19, 3) := by decide +kernel
theorem dX3_init_27 : decode cX3_init 27 = .ok (.aload_n 0, 1) := by decide +kernel
theorem dX3_init_28 : decode cX3_init 28 = .ok (.aload_n 1, 1) := by decide +kernel
theorem dX3_init_29 : decode cX3_init 29 = .ok (.putfield 23, 3) := by decide +kernel
theorem dX3_init_32 : decode cX3_init 32 = .ok (.aload_n 0, 1) := by decide +kernel
theorem dX3_init_33 : decode cX3_init 33 = .ok (.aload_n 2, 1) := by decide +kernel
theorem dX3_init_34 : decode cX3_init 34 = .ok (.putfield 27, 3) := by decide +kernel
theorem dX3_init_37 : decode cX3_init 37 = .ok (.return_, 1) := by decide +kernel
theorem dX3_seek_0 : decode cX3_seek 0 = .ok (.aload_n 0, 1) := by decide +kernel
theorem dX3_seek_1 : decode cX3_seek 1 = .ok (.iload_n 1, 1) := by decide +kernel
theorem dX3_seek_2 : decode cX3_seek 2 = .ok (.putfield 31, 3) := by decide +kernel
theorem dX3_seek_5 : decode cX3_seek 5 = .ok (.aload_n 0, 1) := by decide +kernel
theorem dX3_seek_6 : decode cX3_seek 6 = .ok (.iconst 0, 1) := by decide +kernel
theorem dX3_seek_7 : decode cX3_seek 7 = .ok (.putfield 35, 3) := by decide +kernel
theorem dX3_seek_10 : decode cX3_seek 10 = .ok (.aload_n 0, 1) := by decide +kernel
theorem dX3_seek_11 : decode cX3_seek 11 = .ok (.lconst 0, 1) := by decide +kernel
theorem dX3_seek_12 : decode cX3_seek 12 = .ok (.putfield 38, 3) := by decide +kernel
theorem dX3_seek_15 : decode cX3_seek 15 = .ok (.aload_n 0, 1) := by decide +kernel
theorem dX3_seek_16 : decode cX3_seek 16 = .ok (.ldc2_w 42, 3) := by decide +kernel
theorem dX3_seek_19 : decode cX3_seek 19 = .ok (.putfield 44, 3) := by decide +kernel
theorem dX3_seek_22 : decode cX3_seek 22 = .ok (.aload_n 0, 1) := by decide +kernel
theorem dX3_seek_23 : decode cX3_seek 23 = .ok (.invokevirtual 47, 3) := by decide +kernel
theorem dX3_seek_26 : decode cX3_seek 26 = .ok (.aload_n 0, 1) := by decide +kernel
theorem dX3_seek_27 : decode cX3_seek 27 = .ok (.iconst 0, 1) := by decide +kernel
theorem dX3_seek_28 : decode cX3_seek 28 = .ok (.iconst 0, 1) := by decide +kernel
theorem dX3_seek_29 : decode cX3_seek 29 = .ok (.lconst 0, 1) := by decide +kernel
theorem dX3_seek_30 : decode cX3_seek 30 = .ok (.lconst 0, 1) := by decide +kernel
theorem dX3_seek_31 : decode cX3_seek 31 = .ok (.invokestatic 50, 3) := by decide +kernel
theorem dX3_seek_34 : decode cX3_seek 34 = .ok (.return_, 1) := by decide +kernel
theorem dX3_grow_0 : decode cX3_grow 0 = .ok (.iload_n 1, 1) := by decide +kernel
theorem dX3_grow_1 : decode cX3_grow 1 = .ok (.aload_n 0, 1) := by decide +kernel
theorem dX3_grow_2 : decode cX3_grow 2 = .ok (.getfield 31, 3) := by decide +kernel
theorem dX3_grow_5 : decode cX3_grow 5 = .ok (.if_icmp .ge 9, 3) := by decide +kernel
theorem dX3_grow_8 : decode cX3_grow 8 = .ok (.iload_n 1, 1) := by decide +kernel
theorem dX3_grow_9 : decode cX3_grow 9 = .ok (.bipush 6, 2) := by decide +kernel
theorem dX3_grow_11 : decode cX3_grow 11 = .ok (.if_icmp .lt 20, 3) := by decide +kernel
theorem dX3_grow_14 : decode cX3_grow 14 = .ok (.aload_n 0, 1) := by decide +kernel
theorem dX3_grow_15 : decode cX3_grow 15 = .ok (.iload_n 2, 1) := by decide +kernel
theorem dX3_grow_16 : decode cX3_grow 16 = .ok (.putfield 35, 3) := by decide +kernel
theorem dX3_grow_19 : decode cX3_grow 19 = .ok (.aload_n 0, 1) := by decide +kernel
theorem dX3_grow_20 : decode cX3_grow 20 = .ok (.lload_n 3, 1) := by decide +kernel
theorem dX3_grow_21 : decode cX3_grow 21 = .ok (.putfield 38, 3) := by decide +kernel
theorem dX3_grow_24 : decode cX3_grow 24 = .ok (.aload_n 0, 1) := by decide +kernel
theorem dX3_grow_25 : decode cX3_grow 25 = .ok (.lload 5, 2) := by decide +kernel
theorem dX3_grow_27 : decode cX3_grow 27 = .ok (.putfield 44, 3) := by decide +kernel
theorem dX3_grow_30 : decode cX3_grow 30 = .ok (.return_, 1) := by decide +kernel
theorem dX3_grow_31 : decode cX3_grow 31 = .ok (.iconst 1, 1) := by decide +kernel
theorem dX3_grow_32 : decode cX3_grow 32 = .ok (.aload_n 0, 1) := by decide +kernel
theorem dX3_grow_33 : decode cX3_grow 33 = .ok (.getfield 23, 3) := by decide +kernel
theorem dX3_grow_36 : decode cX3_grow 36 = .ok (.getfield 54, 3) := by decide +kernel
theorem dX3_grow_39 : decode cX3_grow 39 = .ok (.invokevirtual 60, 3) := by decide +kernel
theorem dX3_grow_42 : decode cX3_grow 42 = .ok (.ishl, 1) := by decide +kernel
theorem dX3_grow_43 : decode cX3_grow 43 = .ok (.istore 7, 2) := by decide +kernel
theorem dX3_grow_45 : decode cX3_grow 45 = .ok (.iconst 0, 1) := by decide +kernel
theorem dX3_grow_46 : decode cX3_grow 46 = .ok (.istore 8, 2) := by decide +kernel
theorem dX3_grow_48 : decode cX3_grow 48 = .ok (.iload 8, 2) := by decide +kernel
theorem dX3_grow_50 : decode cX3_grow 50 = .ok (.iload 7, 2) := by decide +kernel
theorem dX3_grow_52 : decode cX3_grow 52 = .ok (.if_icmp .ge 106, 3) := by decide +kernel
theorem dX3_grow_55 : decode cX3_grow 55 = .ok (.iload_n 2, 1) := by decide +kernel
theorem dX3_grow_56 : decode cX3_grow 56 = .ok (.iload 8, 2) := by decide +kernel
theorem dX3_grow_58 : decode cX3_grow 58 = .ok (.iconst 2, 1) := by decide +kernel
theorem dX3_grow_59 : decode cX3_grow 59 = .ok (.iload_n 1, 1) := by decide +kernel
theorem dX3_grow_60 : decode cX3_grow 60 = .ok (.imul, 1) := by decide +kernel
theorem dX3_grow_61 : decode cX3_grow 61 = .ok (.ishl, 1) := by decide +kernel
theorem dX3_grow_62 : decode cX3_grow 62 = .ok (.ior, 1) := by decide +kernel
theorem dX3_grow_63 : decode cX3_grow 63 = .ok (.istore 9, 2) := by decide +kernel
theorem dX3_grow_65 : decode cX3_grow 65 = .ok (.lload_n 3, 1) := by decide +kernel
theorem dX3_grow_66 : decode cX3_grow 66 = .ok (.aload_n 0, 1) := by decide +kernel
theorem dX3_grow_67 : decode cX3_grow 67 = .ok (.getfield 23, 3) := by decide +kernel
theorem dX3_grow_70 : decode cX3_grow 70 = .ok (.iload 8, 2) := by decide +kernel
theorem dX3_grow_72 : decode cX3_grow 72 = .ok (.aload_n 0, 1) := by decide +kernel
theorem dX3_grow_73 : decode cX3_grow 73 = .ok (.getfield 23, 3) := by decide +kernel
theorem dX3_grow_76 : decode cX3_grow 76 = .ok (.getfield 66, 3) := by decide +kernel
theorem dX3_grow_79 : decode cX3_grow 79 = .ok (.iload_n 1, 1) := by decide +kernel
theorem dX3_grow_80 : decode cX3_grow 80 = .ok (.iadd, 1) := by decide +kernel
theorem dX3_grow_81 : decode cX3_grow 81 = .ok (.invokevirtual 69, 3) := by decide +kernel
theorem dX3_grow_84 : decode cX3_grow 84 = .ok (.i2l, 1) := by decide +kernel
theorem dX3_grow_85 : decode cX3_grow 85 = .ok (.ladd, 1) := by decide +kernel
theorem dX3_grow_86 : decode cX3_grow 86 = .ok (.lstore 10, 2) := by decide +kernel
theorem dX3_grow_88 : decode cX3_grow 88 = .ok (.aload_n 0, 1) := by decide +kernel
theorem dX3_grow_89 : decode cX3_grow 89 = .ok (.iload_n 1, 1) := by decide +kernel
theorem dX3_grow_90 : decode cX3_grow 90 = .ok (.iload 9, 2) := by decide +kernel
theorem dX3_grow_92 : decode cX3_grow 92 = .ok (.invokevirtual 72, 3) := by decide +kernel
theorem dX3_grow_95 : decode cX3_grow 95 = .ok (.ifCond .eq 57, 3) := by decide +kernel
theorem dX3_grow_98 : decode cX3_grow 98 = .ok (.aload_n 0, 1) := by decide +kernel
theorem dX3_grow_99 : decode cX3_grow 99 = .ok (.iload 9, 2) := by decide +kernel
theorem dX3_grow_101 : decode cX3_grow 101 = .ok (.lload 10, 2) := by decide +kernel
theorem dX3_grow_103 : decode cX3_grow 103 = .ok (.lload 5, 2) := by decide +kernel
theorem dX3_grow_105 : decode cX3_grow 105 = .ok (.invokevirtual 76, 3) := by decide +kernel
theorem dX3_grow_108 : decode cX3_grow 108 = .ok (.ifCond .ne 6, 3) := by decide +kernel
theorem dX3_grow_111 : decode cX3_grow 111 = .ok (.goto 41, 3) := by decide +kernel
theorem dX3_grow_114 : decode cX3_grow 114 = .ok (.lload 5, 2) := by decide +kernel
theorem dX3_grow_116 : decode cX3_grow 116 = .ok (.aload_n 0, 1) := by decide +kernel
theorem dX3_grow_117 : decode cX3_grow 117 = .ok (.iload_n 1, 1) := by decide +kernel
theorem dX3_grow_118 : decode cX3_grow 118 = .ok (.iload 8, 2) := by decide +kernel
theorem dX3_grow_120 : decode cX3_grow 120 = .ok (.invokevirtual 80, 3) := by decide +kernel
theorem dX3_grow_123 : decode cX3_grow 123 = .ok (.ladd, 1) := by decide +kernel
theorem dX3_grow_124 : decode cX3_grow 124 = .ok (.lstore 12, 2) := by decide +kernel
theorem dX3_grow_126 : decode cX3_grow 126 = .ok (.aload_n 0, 1) := by decide +kernel
theorem dX3_grow_127 : decode cX3_grow 127 = .ok (.iload 9, 2) := by decide +kernel
theorem dX3_grow_129 : decode cX3_grow 129 = .ok (.lload 10, 2) := by decide +kernel
theorem dX3_grow_131 : decode cX3_grow 131 = .ok (.lload 12, 2) := by decide +kernel
theorem dX3_grow_133 : decode cX3_grow 133 = .ok (.invokevirtual 76, 3) := by decide +kernel
theorem dX3_grow_136 : decode cX3_grow 136 = .ok (.ifCond .eq 16, 3) := by decide +kernel
theorem dX3_grow_139 : decode cX3_grow 139 = .ok (.aload_n 0, 1) := by decide +kernel
theorem dX3_grow_140 : decode cX3_grow 140 = .ok (.iload_n 1, 1) := by decide +kernel
theorem dX3_grow_141 : decode cX3_grow 141 = .ok (.iconst 1, 1) := by decide +kernel
theorem dX3_grow_142 : decode cX3_grow 142 = .ok (.iadd, 1) := by decide +kernel
theorem dX3_grow_143 : decode cX3_grow 143 = .ok (.iload 9, 2) := by decide +kernel
theorem dX3_grow_145 : decode cX3_grow 145 = .ok (.lload 10, 2) := by decide +kernel
theorem dX3_grow_147 : decode cX3_grow 147 = .ok (.lload 12, 2) := by decide +kernel
theorem dX3_grow_149 : decode cX3_grow 149 = .ok (.invokestatic 50, 3) := by decide +kernel
theorem dX3_grow_152 : decode cX3_grow 152 = .ok (.iinc 8 1, 3) := by decide +kernel
theorem dX3_grow_155 : decode cX3_grow 155 = .ok (.goto (-107), 3) := by decide +kernel
theorem dX3_grow_158 : decode cX3_grow 158 = .ok (.return_, 1) := by decide +kernel
theorem dX3_isBetter_0 : decode cX3_isBetter 0 = .ok (.lload 4, 2) := by decide +kernel
theorem dX3_isBetter_2 : decode cX3_isBetter 2 = .ok (.aload_n 0, 1) := by decide +kernel
theorem dX3_isBetter_3 : decode cX3_isBetter 3 = .ok (.getfield 44, 3) := by decide +kernel
theorem dX3_isBetter_6 : decode cX3_isBetter 6 = .ok (.lcmp, 1) := by decide +kernel
theorem dX3_isBetter_7 : decode cX3_isBetter 7 = .ok (.ifCond .eq 19, 3) := by decide +kernel
theorem dX3_isBetter_10 : decode cX3_isBetter 10 = .ok (.lload 4, 2) := by decide +kernel
theorem dX3_isBetter_12 : decode cX3_isBetter 12 = .ok (.aload_n 0, 1) := by decide +kernel
theorem dX3_isBetter_13 : decode cX3_isBetter 13 = .ok (.getfield 44, 3) := by decide +kernel
theorem dX3_isBetter_16 : decode cX3_isBetter 16 = .ok (.lcmp, 1) := by decide +kernel
theorem dX3_isBetter_17 : decode cX3_isBetter 17 = .ok (.ifCond .ge 7, 3) := by decide +kernel
theorem dX3_isBetter_20 : decode cX3_isBetter 20 = .ok (.iconst 1, 1) := by decide +kernel
theorem dX3_isBetter_21 : decode cX3_isBetter 21 = .ok (.goto 4, 3) := by decide +kernel
theorem dX3_isBetter_24 : decode cX3_isBetter 24 = .ok (.iconst 0, 1) := by decide +kernel
theorem dX3_isBetter_25 : decode cX3_isBetter 25 = .ok (.ireturn, 1) := by decide +kernel
theorem dX3_isBetter_26 : decode cX3_isBetter 26 = .ok (.lload_n 2, 1) := by decide +kernel
theorem dX3_isBetter_27 : decode cX3_isBetter 27 = .ok (.aload_n 0, 1) := by decide +kernel
theorem dX3_isBetter_28 : decode cX3_isBetter 28 = .ok (.getfield 38, 3) := by decide +kernel
theorem dX3_isBetter_31 : decode cX3_isBetter 31 = .ok (.lcmp, 1) := by decide +kernel
theorem dX3_isBetter_32 : decode cX3_isBetter 32 = .ok (.ifCond .eq 20, 3) := by decide +kernel
theorem dX3_isBetter_35 : decode cX3_isBetter 35 = .ok (.lload_n 2, 1) := by decide +kernel
theorem dX3_isBetter_36 : decode cX3_isBetter 36 = .ok (.aload_n 0, 1) := by decide +kernel
theorem dX3_isBetter_37 : decode cX3_isBetter 37 = .ok (.getfield 38, 3) := by decide +kernel
theorem dX3_isBetter_40 : decode cX3_isBetter 40 = .ok (.lcmp, 1) := by decide +kernel
theorem dX3_isBetter_41 : decode cX3_isBetter 41 = .ok (.ifCond .ge 7, 3) := by decide +kernel
theorem dX3_isBetter_44 : decode cX3_isBetter 44 = .ok (.iconst 1, 1) := by decide +kernel
theorem dX3_isBetter_45 : decode cX3_isBetter 45 = .ok (.goto 20, 3) := by decide +kernel
theorem dX3_isBetter_48 : decode cX3_isBetter 48 = .ok (.iconst 0, 1) := by decide +kernel
theorem dX3_isBetter_49 : decode cX3_isBetter 49 = .ok (.goto 16, 3) := by decide +kernel
theorem dX3_isBetter_52 : decode cX3_isBetter 52 = .ok (.iload_n 1, 1) := by decide +kernel
theorem dX3_isBetter_53 : decode cX3_isBetter 53 = .ok (.aload_n 0, 1) := by decide +kernel
theorem dX3_isBetter_54 : decode cX3_isBetter 54 = .ok (.getfield 35, 3) := by decide +kernel
theorem dX3_isBetter_57 : decode cX3_isBetter 57 = .ok (.if_icmp .ge 7, 3) := by decide +kernel
theorem dX3_isBetter_60 : decode cX3_isBetter 60 = .ok (.iconst 1, 1) := by decide +kernel
theorem dX3_isBetter_61 : decode cX3_isBetter 61 = .ok (.goto 4, 3) := by decide +kernel
theorem dX3_isBetter_64 : decode cX3_isBetter 64 = .ok (.iconst 0, 1) := by decide +kernel
theorem dX3_isBetter_65 : decode cX3_isBetter 65 = .ok (.ireturn, 1) := by decide +kernel
theorem dX3_tells_0 : decode cX3_tells 0 = .ok (.iload_n 1, 1) := by decide +kernel
theorem dX3_tells_1 : decode cX3_tells 1 = .ok (.iconst 2, 1) := by decide +kernel
theorem dX3_tells_2 : decode cX3_tells 2 = .ok (.iload_n 2, 1) := by decide +kernel
theorem dX3_tells_3 : decode cX3_tells 3 = .ok (.imul, 1) := by decide +kernel
theorem dX3_tells_4 : decode cX3_tells 4 = .ok (.iload_n 3, 1) := by decide +kernel
theorem dX3_tells_5 : decode cX3_tells 5 = .ok (.iadd, 1) := by decide +kernel
theorem dX3_tells_6 : decode cX3_tells 6 = .ok (.ishr, 1) := by decide +kernel
theorem dX3_tells_7 : decode cX3_tells 7 = .ok (.iconst 1, 1) := by decide +kernel
theorem dX3_tells_8 : decode cX3_tells 8 = .ok (.iand, 1) := by decide +kernel
theorem dX3_tells_9 : decode cX3_tells 9 = .ok (.ifCond .eq 7, 3) := by decide +kernel
theorem dX3_tells_12 : decode cX3_tells 12 = .ok (.iconst 1, 1) := by decide +kernel
theorem dX3_tells_13 : decode cX3_tells 13 = .ok (.goto 4, 3) := by decide +kernel
theorem dX3_tells_16 : decode cX3_tells 16 = .ok (.iconst 0, 1) := by decide +kernel
theorem dX3_tells_17 : decode cX3_tells 17 = .ok (.ireturn, 1) := by decide +kernel
theorem dX3_bitsOf_0 : decode cX3_bitsOf 0 = .ok (.iload_n 1, 1) := by decide +kernel
theorem dX3_bitsOf_1 : decode cX3_bitsOf 1 = .ok (.iconst 2, 1) := by decide +kernel
theorem dX3_bitsOf_2 : decode cX3_bitsOf 2 = .ok (.iload_n 2, 1) := by decide +kernel
theorem dX3_bitsOf_3 : decode cX3_bitsOf 3 = .ok (.imul, 1) := by decide +kernel
theorem dX3_bitsOf_4 : decode cX3_bitsOf 4 = .ok (.ishr, 1) := by decide +kernel
theorem dX3_bitsOf_5 : decode cX3_bitsOf 5 = .ok (.iconst 3, 1) := by decide +kernel
theorem dX3_bitsOf_6 : decode cX3_bitsOf 6 = .ok (.iand, 1) := by decide +kernel
theorem dX3_bitsOf_7 : decode cX3_bitsOf 7 = .ok (.ireturn, 1) := by decide +kernel
theorem dX3_isPlan_0 : decode cX3_isPlan 0 = .ok (.iload_n 2, 1) := by decide +kernel
theorem dX3_isPlan_1 : decode cX3_isPlan 1 = .ok (.ifCond .lt 12, 3) := by decide +kernel
theorem dX3_isPlan_4 : decode cX3_isPlan 4 = .ok (.iload_n 2, 1) := by decide +kernel
theorem dX3_isPlan_5 : decode cX3_isPlan 5 = .ok (.iconst 1, 1) := by decide +kernel
theorem dX3_isPlan_6 : decode cX3_isPlan 6 = .ok (.iconst 2, 1) := by decide +kernel
theorem dX3_isPlan_7 : decode cX3_isPlan 7 = .ok (.iload_n 1, 1) := by decide +kernel
theorem dX3_isPlan_8 : decode cX3_isPlan 8 = .ok (.imul, 1) := by decide +kernel
theorem dX3_isPlan_9 : decode cX3_isPlan 9 = .ok (.ishl, 1) := by decide +kernel
theorem dX3_isPlan_10 : decode cX3_isPlan 10 = .ok (.if_icmp .lt 5, 3) := by decide +kernel
theorem dX3_isPlan_13 : decode cX3_isPlan 13 = .ok (.iconst 0, 1) := by decide +kernel
theorem dX3_isPlan_14 : decode cX3_isPlan 14 = .ok (.ireturn, 1) := by decide +kernel
theorem dX3_isPlan_15 : decode cX3_isPlan 15 = .ok (.iconst 0, 1) := by decide +kernel
theorem dX3_isPlan_16 : decode cX3_isPlan 16 = .ok (.istore_n 3, 1) := by decide +kernel
theorem dX3_isPlan_17 : decode cX3_isPlan 17 = .ok (.iload_n 3, 1) := by decide +kernel
theorem dX3_isPlan_18 : decode cX3_isPlan 18 = .ok (.iload_n 1, 1) := by decide +kernel
theorem dX3_isPlan_19 : decode cX3_isPlan 19 = .ok (.if_icmp .ge 32, 3) := by decide +kernel
theorem dX3_isPlan_22 : decode cX3_isPlan 22 = .ok (.aload_n 0, 1) := by decide +kernel
theorem dX3_isPlan_23 : decode cX3_isPlan 23 = .ok (.iload_n 2, 1) := by decide +kernel
theorem dX3_isPlan_24 : decode cX3_isPlan 24 = .ok (.iload_n 3, 1) := by decide +kernel
theorem dX3_isPlan_25 : decode cX3_isPlan 25 = .ok (.invokevirtual 84, 3) := by decide +kernel
theorem dX3_isPlan_28 : decode cX3_isPlan 28 = .ok (.iconst 1, 1) := by decide +kernel
theorem dX3_isPlan_29 : decode cX3_isPlan 29 = .ok (.aload_n 0, 1) := by decide +kernel
theorem dX3_isPlan_30 : decode cX3_isPlan 30 = .ok (.getfield 23, 3) := by decide +kernel
theorem dX3_isPlan_33 : decode cX3_isPlan 33 = .ok (.getfield 54, 3) := by decide +kernel
theorem dX3_isPlan_36 : decode cX3_isPlan 36 = .ok (.invokevirtual 60, 3) := by decide +kernel
theorem dX3_isPlan_39 : decode cX3_isPlan 39 = .ok (.ishl, 1) := by decide +kernel
theorem dX3_isPlan_40 : decode cX3_isPlan 40 = .ok (.if_icmp .lt 5, 3) := by decide +kernel
theorem dX3_isPlan_43 : decode cX3_isPlan 43 = .ok (.iconst 0, 1) := by decide +kernel
theorem dX3_isPlan_44 : decode cX3_isPlan 44 = .ok (.ireturn, 1) := by decide +kernel
theorem dX3_isPlan_45 : decode cX3_isPlan 45 = .ok (.iinc 3 1, 3) := by decide +kernel
theorem dX3_isPlan_48 : decode cX3_isPlan 48 = .ok (.goto (-31), 3) := by decide +kernel
theorem dX3_isPlan_51 : decode cX3_isPlan 51 = .ok (.iconst 1, 1) := by decide +kernel
theorem dX3_isPlan_52 : decode cX3_isPlan 52 = .ok (.ireturn, 1) := by decide +kernel
theorem dX3_isWell_0 : decode cX3_isWell 0 = .ok (.iconst 0, 1) := by decide +kernel
theorem dX3_isWell_1 : decode cX3_isWell 1 = .ok (.istore_n 3, 1) := by decide +kernel
theorem dX3_isWell_2 : decode cX3_isWell 2 = .ok (.iload_n 3, 1) := by decide +kernel
theorem dX3_isWell_3 : decode cX3_isWell 3 = .ok (.iload_n 1, 1) := by decide +kernel
theorem dX3_isWell_4 : decode cX3_isWell 4 = .ok (.if_icmp .ge 20, 3) := by decide +kernel
theorem dX3_isWell_7 : decode cX3_isWell 7 = .ok (.aload_n 0, 1) := by decide +kernel
theorem dX3_isWell_8 : decode cX3_isWell 8 = .ok (.iload_n 3, 1) := by decide +kernel
theorem dX3_isWell_9 : decode cX3_isWell 9 = .ok (.iload_n 2, 1) := by decide +kernel
theorem dX3_isWell_10 : decode cX3_isWell 10 = .ok (.invokevirtual 72, 3) := by decide +kernel
theorem dX3_isWell_13 : decode cX3_isWell 13 = .ok (.ifCond .ne 5, 3) := by decide +kernel
theorem dX3_isWell_16 : decode cX3_isWell 16 = .ok (.iconst 0, 1) := by decide +kernel
theorem dX3_isWell_17 : decode cX3_isWell 17 = .ok (.ireturn, 1) := by decide +kernel
theorem dX3_isWell_18 : decode cX3_isWell 18 = .ok (.iinc 3 1, 3) := by decide +kernel
theorem dX3_isWell_21 : decode cX3_isWell 21 = .ok (.goto (-19), 3) := by decide +kernel
theorem dX3_isWell_24 : decode cX3_isWell 24 = .ok (.iconst 1, 1) := by decide +kernel
theorem dX3_isWell_25 : decode cX3_isWell 25 = .ok (.ireturn, 1) := by decide +kernel
theorem dX3_fits_0 : decode cX3_fits 0 = .ok (.iconst 0, 1) := by decide +kernel
theorem dX3_fits_1 : decode cX3_fits 1 = .ok (.istore_n 3, 1) := by decide +kernel
theorem dX3_fits_2 : decode cX3_fits 2 = .ok (.iload_n 3, 1) := by decide +kernel
theorem dX3_fits_3 : decode cX3_fits 3 = .ok (.aload_n 0, 1) := by decide +kernel
theorem dX3_fits_4 : decode cX3_fits 4 = .ok (.getfield 23, 3) := by decide +kernel
theorem dX3_fits_7 : decode cX3_fits 7 = .ok (.getfield 54, 3) := by decide +kernel
theorem dX3_fits_10 : decode cX3_fits 10 = .ok (.invokevirtual 60, 3) := by decide +kernel
theorem dX3_fits_13 : decode cX3_fits 13 = .ok (.if_icmp .ge 61, 3) := by decide +kernel
theorem dX3_fits_16 : decode cX3_fits 16 = .ok (.aload_n 0, 1) := by decide +kernel
theorem dX3_fits_17 : decode cX3_fits 17 = .ok (.iload_n 2, 1) := by decide +kernel
theorem dX3_fits_18 : decode cX3_fits 18 = .ok (.iload_n 1, 1) := by decide +kernel
theorem dX3_fits_19 : decode cX3_fits 19 = .ok (.iload_n 3, 1) := by decide +kernel
theorem dX3_fits_20 : decode cX3_fits 20 = .ok (.invokevirtual 87, 3) := by decide +kernel
theorem dX3_fits_23 : decode cX3_fits 23 = .ok (.istore 4, 2) := by decide +kernel
theorem dX3_fits_25 : decode cX3_fits 25 = .ok (.iload 4, 2) := by decide +kernel
theorem dX3_fits_27 : decode cX3_fits 27 = .ok (.ifCond .eq 29, 3) := by decide +kernel
theorem dX3_fits_30 : decode cX3_fits 30 = .ok (.aload_n 0, 1) := by decide +kernel
theorem dX3_fits_31 : decode cX3_fits 31 = .ok (.getfield 23, 3) := by decide +kernel
theorem dX3_fits_34 : decode cX3_fits 34 = .ok (.getfield 54, 3) := by decide +kernel
theorem dX3_fits_37 : decode cX3_fits 37 = .ok (.iload_n 3, 1) := by decide +kernel
theorem dX3_fits_38 : decode cX3_fits 38 = .ok (.aload_n 0, 1) := by decide +kernel
theorem dX3_fits_39 : decode cX3_fits 39 = .ok (.getfield 23, 3) := by decide +kernel
theorem dX3_fits_42 : decode cX3_fits 42 = .ok (.getfield 66, 3) := by decide +kernel
theorem dX3_fits_45 : decode cX3_fits 45 = .ok (.iload_n 1, 1) := by decide +kernel
theorem dX3_fits_46 : decode cX3_fits 46 = .ok (.iadd, 1) := by decide +kernel
theorem dX3_fits_47 : decode cX3_fits 47 = .ok (.invokevirtual 91, 3) := by decide +kernel
theorem dX3_fits_50 : decode cX3_fits 50 = .ok (.ifCond .eq 18, 3) := by decide +kernel
theorem dX3_fits_53 : decode cX3_fits 53 = .ok (.goto 13, 3) := by decide +kernel
theorem dX3_fits_56 : decode cX3_fits 56 = .ok (.aload_n 0, 1) := by decide +kernel
theorem dX3_fits_57 : decode cX3_fits 57 = .ok (.iload_n 1, 1) := by decide +kernel
theorem dX3_fits_58 : decode cX3_fits 58 = .ok (.iload_n 2, 1) := by decide +kernel
theorem dX3_fits_59 : decode cX3_fits 59 = .ok (.iload_n 3, 1) := by decide +kernel
theorem dX3_fits_60 : decode cX3_fits 60 = .ok (.invokevirtual 94, 3) := by decide +kernel
theorem dX3_fits_63 : decode cX3_fits 63 = .ok (.ifCond .ne 5, 3) := by decide +kernel
theorem dX3_fits_66 : decode cX3_fits 66 = .ok (.iconst 0, 1) := by decide +kernel
theorem dX3_fits_67 : decode cX3_fits 67 = .ok (.ireturn, 1) := by decide +kernel
theorem dX3_fits_68 : decode cX3_fits 68 = .ok (.iinc 3 1, 3) := by decide +kernel
theorem dX3_fits_71 : decode cX3_fits 71 = .ok (.goto (-69), 3) := by decide +kernel
theorem dX3_fits_74 : decode cX3_fits 74 = .ok (.iconst 1, 1) := by decide +kernel
theorem dX3_fits_75 : decode cX3_fits 75 = .ok (.ireturn, 1) := by decide +kernel
theorem dX3_mayEnd_0 : decode cX3_mayEnd 0 = .ok (.iconst 0, 1) := by decide +kernel
theorem dX3_mayEnd_1 : decode cX3_mayEnd 1 = .ok (.istore 4, 2) := by decide +kernel
theorem dX3_mayEnd_3 : decode cX3_mayEnd 3 = .ok (.iload 4, 2) := by decide +kernel
theorem dX3_mayEnd_5 : decode cX3_mayEnd 5 = .ok (.iload_n 1, 1) := by decide +kernel
theorem dX3_mayEnd_6 : decode cX3_mayEnd 6 = .ok (.if_icmp .ge 24, 3) := by decide +kernel
theorem dX3_mayEnd_9 : decode cX3_mayEnd 9 = .ok (.aload_n 0, 1) := by decide +kernel
theorem dX3_mayEnd_10 : decode cX3_mayEnd 10 = .ok (.iload_n 2, 1) := by decide +kernel
theorem dX3_mayEnd_11 : decode cX3_mayEnd 11 = .ok (.iload_n 1, 1) := by decide +kernel
theorem dX3_mayEnd_12 : decode cX3_mayEnd 12 = .ok (.iconst 1, 1) := by decide +kernel
theorem dX3_mayEnd_13 : decode cX3_mayEnd 13 = .ok (.isub, 1) := by decide +kernel
theorem dX3_mayEnd_14 : decode cX3_mayEnd 14 = .ok (.iload 4, 2) := by decide +kernel
theorem dX3_mayEnd_16 : decode cX3_mayEnd 16 = .ok (.isub, 1) := by decide +kernel
theorem dX3_mayEnd_17 : decode cX3_mayEnd 17 = .ok (.iload_n 3, 1) := by decide +kernel
theorem dX3_mayEnd_18 : decode cX3_mayEnd 18 = .ok (.invokevirtual 87, 3) := by decide +kernel
theorem dX3_mayEnd_21 : decode cX3_mayEnd 21 = .ok (.ifCond .eq 9, 3) := by decide +kernel
theorem dX3_mayEnd_24 : decode cX3_mayEnd 24 = .ok (.iinc 4 1, 3) := by decide +kernel
theorem dX3_mayEnd_27 : decode cX3_mayEnd 27 = .ok (.goto (-24), 3) := by decide +kernel
theorem dX3_mayEnd_30 : decode cX3_mayEnd 30 = .ok (.iload 4, 2) := by decide +kernel
theorem dX3_mayEnd_32 : decode cX3_mayEnd 32 = .ok (.ifCond .eq 40, 3) := by decide +kernel
theorem dX3_mayEnd_35 : decode cX3_mayEnd 35 = .ok (.iload 4, 2) := by decide +kernel
theorem dX3_mayEnd_37 : decode cX3_mayEnd 37 = .ok (.aload_n 0, 1) := by decide +kernel
theorem dX3_mayEnd_38 : decode cX3_mayEnd 38 = .ok (.getfield 23, 3) := by decide +kernel
theorem dX3_mayEnd_41 : decode cX3_mayEnd 41 = .ok (.getfield 54, 3) := by decide +kernel
theorem dX3_mayEnd_44 : decode cX3_mayEnd 44 = .ok (.getfield 97, 3) := by decide +kernel
theorem dX3_mayEnd_47 : decode cX3_mayEnd 47 = .ok (.iload_n 3, 1) := by decide +kernel
theorem dX3_mayEnd_48 : decode cX3_mayEnd 48 = .ok (.iaload, 1) := by decide +kernel
theorem dX3_mayEnd_49 : decode cX3_mayEnd 49 = .ok (.if_icmp .ge 23, 3) := by decide +kernel
theorem dX3_mayEnd_52 : decode cX3_mayEnd 52 = .ok (.iload 4, 2) := by decide +kernel
theorem dX3_mayEnd_54 : decode cX3_mayEnd 54 = .ok (.iload_n 1, 1) := by decide +kernel
theorem dX3_mayEnd_55 : decode cX3_mayEnd 55 = .ok (.if_icmp .ne 21, 3) := by decide +kernel
theorem dX3_mayEnd_58 : decode cX3_mayEnd 58 = .ok (.aload_n 0, 1) := by decide +kernel
theorem dX3_mayEnd_59 : decode cX3_mayEnd 59 = .ok (.getfield 23, 3) := by decide +kernel
theorem dX3_mayEnd_62 : decode cX3_mayEnd 62 = .ok (.getfield 54, 3) := by decide +kernel
theorem dX3_mayEnd_65 : decode cX3_mayEnd 65 = .ok (.iload_n 3, 1) := by decide +kernel
theorem dX3_mayEnd_66 : decode cX3_mayEnd 66 = .ok (.invokevirtual 101, 3) := by decide +kernel
theorem dX3_mayEnd_69 : decode cX3_mayEnd 69 = .ok (.ifCond .eq 7, 3) := by decide +kernel
theorem dX3_mayEnd_72 : decode cX3_mayEnd 72 = .ok (.iconst 1, 1) := by decide +kernel
theorem dX3_mayEnd_73 : decode cX3_mayEnd 73 = .ok (.goto 4, 3) := by decide +kernel
theorem dX3_mayEnd_76 : decode cX3_mayEnd 76 = .ok (.iconst 0, 1) := by decide +kernel
theorem dX3_mayEnd_77 : decode cX3_mayEnd 77 = .ok (.ireturn, 1) := by decide +kernel
theorem dX3_costOf_0 : decode cX3_costOf 0 = .ok (.lconst 0, 1) := by decide +kernel
theorem dX3_costOf_1 : decode cX3_costOf 1 = .ok (.lstore_n 3, 1) := by decide +kernel
theorem dX3_costOf_2 : decode cX3_costOf 2 = .ok (.iconst 0, 1) := by decide +kernel
theorem dX3_costOf_3 : decode cX3_costOf 3 = .ok (.istore 5, 2) := by decide +kernel
theorem dX3_costOf_5 : decode cX3_costOf 5 = .ok (.iload 5, 2) := by decide +kernel
theorem dX3_costOf_7 : decode cX3_costOf 7 = .ok (.iload_n 1, 1) := by decide +kernel
theorem dX3_costOf_8 : decode cX3_costOf 8 = .ok (.if_icmp .ge 37, 3) := by decide +kernel
theorem dX3_costOf_11 : decode cX3_costOf 11 = .ok (.lload_n 3, 1) := by decide +kernel
theorem dX3_costOf_12 : decode cX3_costOf 12 = .ok (.aload_n 0, 1) := by decide +kernel
theorem dX3_costOf_13 : decode cX3_costOf 13 = .ok (.getfield 23, 3) := by decide +kernel
theorem dX3_costOf_16 : decode cX3_costOf 16 = .ok (.aload_n 0, 1) := by decide +kernel
theorem dX3_costOf_17 : decode cX3_costOf 17 = .ok (.iload_n 2, 1) := by decide +kernel
theorem dX3_costOf_18 : decode cX3_costOf 18 = .ok (.iload 5, 2) := by decide +kernel
theorem dX3_costOf_20 : decode cX3_costOf 20 = .ok (.invokevirtual 84, 3) := by decide +kernel
theorem dX3_costOf_23 : decode cX3_costOf 23 = .ok (.aload_n 0, 1) := by decide +kernel
theorem dX3_costOf_24 : decode cX3_costOf 24 = .ok (.getfield 23, 3) := by decide +kernel
theorem dX3_costOf_27 : decode cX3_costOf 27 = .ok (.getfield 66, 3) := by decide +kernel
theorem dX3_costOf_30 : decode cX3_costOf 30 = .ok (.iload 5, 2) := by decide +kernel
theorem dX3_costOf_32 : decode cX3_costOf 32 = .ok (.iadd, 1) := by decide +kernel
theorem dX3_costOf_33 : decode cX3_costOf 33 = .ok (.invokevirtual 69, 3) := by decide +kernel
theorem dX3_costOf_36 : decode cX3_costOf 36 = .ok (.i2l, 1) := by decide +kernel
theorem dX3_costOf_37 : decode cX3_costOf 37 = .ok (.ladd, 1) := by decide +kernel
theorem dX3_costOf_38 : decode cX3_costOf 38 = .ok (.lstore_n 3, 1) := by decide +kernel
theorem dX3_costOf_39 : decode cX3_costOf 39 = .ok (.iinc 5 1, 3) := by decide +kernel
theorem dX3_costOf_42 : decode cX3_costOf 42 = .ok (.goto (-37), 3) := by decide +kernel
theorem dX3_costOf_45 : decode cX3_costOf 45 = .ok (.lload_n 3, 1) := by decide +kernel
theorem dX3_costOf_46 : decode cX3_costOf 46 = .ok (.lreturn, 1) := by decide +kernel
theorem dX3_breachOf_0 : decode cX3_breachOf 0 = .ok (.aload_n 0, 1) := by decide +kernel
theorem dX3_breachOf_1 : decode cX3_breachOf 1 = .ok (.invokevirtual 47, 3) := by decide +kernel
theorem dX3_breachOf_4 : decode cX3_breachOf 4 = .ok (.lconst 0, 1) := by decide +kernel
theorem dX3_breachOf_5 : decode cX3_breachOf 5 = .ok (.lstore_n 3, 1) := by decide +kernel
theorem dX3_breachOf_6 : decode cX3_breachOf 6 = .ok (.iconst 0, 1) := by decide +kernel
theorem dX3_breachOf_7 : decode cX3_breachOf 7 = .ok (.istore 5, 2) := by decide +kernel
theorem dX3_breachOf_9 : decode cX3_breachOf 9 = .ok (.iload 5, 2) := by decide +kernel
theorem dX3_breachOf_11 : decode cX3_breachOf 11 = .ok (.iload_n 1, 1) := by decide +kernel
theorem dX3_breachOf_12 : decode cX3_breachOf 12 = .ok (.if_icmp .ge 25, 3) := by decide +kernel
theorem dX3_breachOf_15 : decode cX3_breachOf 15 = .ok (.lload_n 3, 1) := by decide +kernel
theorem dX3_breachOf_16 : decode cX3_breachOf 16 = .ok (.aload_n 0, 1) := by decide +kernel
theorem dX3_breachOf_17 : decode cX3_breachOf 17 = .ok (.iload 5, 2) := by decide +kernel
theorem dX3_breachOf_19 : decode cX3_breachOf 19 = .ok (.aload_n 0, 1) := by decide +kernel
theorem dX3_breachOf_20 : decode cX3_breachOf 20 = .ok (.iload_n 2, 1) := by decide +kernel
theorem dX3_breachOf_21 : decode cX3_breachOf 21 = .ok (.iload 5, 2) := by decide +kernel
theorem dX3_breachOf_23 : decode cX3_breachOf 23 = .ok (.invokevirtual 84, 3) := by decide +kernel
theorem dX3_breachOf_26 : decode cX3_breachOf 26 = .ok (.invokevirtual 80, 3) := by decide +kernel
theorem dX3_breachOf_29 : decode cX3_breachOf 29 = .ok (.ladd, 1) := by decide +kernel
theorem dX3_breachOf_30 : decode cX3_breachOf 30 = .ok (.lstore_n 3, 1) := by decide +kernel
theorem dX3_breachOf_31 : decode cX3_breachOf 31 = .ok (.iinc 5 1, 3) := by decide +kernel
theorem dX3_breachOf_34 : decode cX3_breachOf 34 = .ok (.goto (-25), 3) := by decide +kernel
theorem dX3_breachOf_37 : decode cX3_breachOf 37 = .ok (.lload_n 3, 1) := by decide +kernel
theorem dX3_breachOf_38 : decode cX3_breachOf 38 = .ok (.lreturn, 1) := by decide +kernel
theorem dX3_begin_0 : decode cX3_begin 0 = .ok (.iconst 0, 1) := by decide +kernel
theorem dX3_begin_1 : decode cX3_begin 1 = .ok (.istore_n 1, 1) := by decide +kernel
theorem dX3_begin_2 : decode cX3_begin 2 = .ok (.iload_n 1, 1) := by decide +kernel
theorem dX3_begin_3 : decode cX3_begin 3 = .ok (.aload_n 0, 1) := by decide +kernel
theorem dX3_begin_4 : decode cX3_begin 4 = .ok (.getfield 27, 3) := by decide +kernel
theorem dX3_begin_7 : decode cX3_begin 7 = .ok (.invokevirtual 105, 3) := by decide +kernel
theorem dX3_begin_10 : decode cX3_begin 10 = .ok (.if_icmp .ge 40, 3) := by decide +kernel
theorem dX3_begin_13 : decode cX3_begin 13 = .ok (.aload_n 0, 1) := by decide +kernel
theorem dX3_begin_14 : decode cX3_begin 14 = .ok (.getfield 23, 3) := by decide +kernel
theorem dX3_begin_17 : decode cX3_begin 17 = .ok (.getfield 110, 3) := by decide +kernel
theorem dX3_begin_20 : decode cX3_begin 20 = .ok (.getfield 114, 3) := by decide +kernel
theorem dX3_begin_23 : decode cX3_begin 23 = .ok (.iconst 0, 1) := by decide +kernel
theorem dX3_begin_24 : decode cX3_begin 24 = .ok (.aload_n 0, 1) := by decide +kernel
theorem dX3_begin_25 : decode cX3_begin 25 = .ok (.getfield 11, 3) := by decide +kernel
theorem dX3_begin_28 : decode cX3_begin 28 = .ok (.iload_n 1, 1) := by decide +kernel
theorem dX3_begin_29 : decode cX3_begin 29 = .ok (.aaload, 1) := by decide +kernel
theorem dX3_begin_30 : decode cX3_begin 30 = .ok (.iconst 0, 1) := by decide +kernel
theorem dX3_begin_31 : decode cX3_begin 31 = .ok (.aload_n 0, 1) := by decide +kernel
theorem dX3_begin_32 : decode cX3_begin 32 = .ok (.getfield 23, 3) := by decide +kernel
theorem dX3_begin_35 : decode cX3_begin 35 = .ok (.getfield 110, 3) := by decide +kernel
theorem dX3_begin_38 : decode cX3_begin 38 = .ok (.getfield 119, 3) := by decide +kernel
theorem dX3_begin_41 : decode cX3_begin 41 = .ok (.invokestatic 122, 3) := by decide +kernel
theorem dX3_begin_44 : decode cX3_begin 44 = .ok (.iinc 1 1, 3) := by decide +kernel
theorem dX3_begin_47 : decode cX3_begin 47 = .ok (.goto (-45), 3) := by decide +kernel
theorem dX3_begin_50 : decode cX3_begin 50 = .ok (.return_, 1) := by decide +kernel
theorem dX3_tread_0 : decode cX3_tread 0 = .ok (.aload_n 0, 1) := by decide +kernel
theorem dX3_tread_1 : decode cX3_tread 1 = .ok (.getfield 23, 3) := by decide +kernel
theorem dX3_tread_4 : decode cX3_tread 4 = .ok (.getfield 66, 3) := by decide +kernel
theorem dX3_tread_7 : decode cX3_tread 7 = .ok (.iload_n 1, 1) := by decide +kernel
theorem dX3_tread_8 : decode cX3_tread 8 = .ok (.iadd, 1) := by decide +kernel
theorem dX3_tread_9 : decode cX3_tread 9 = .ok (.istore_n 3, 1) := by decide +kernel
theorem dX3_tread_10 : decode cX3_tread 10 = .ok (.aload_n 0, 1) := by decide +kernel
theorem dX3_tread_11 : decode cX3_tread 11 = .ok (.getfield 23, 3) := by decide +kernel
theorem dX3_tread_14 : decode cX3_tread 14 = .ok (.getfield 54, 3) := by decide +kernel
theorem dX3_tread_17 : decode cX3_tread 17 = .ok (.getfield 128, 3) := by decide +kernel
theorem dX3_tread_20 : decode cX3_tread 20 = .ok (.iconst 2, 1) := by decide +kernel
theorem dX3_tread_21 : decode cX3_tread 21 = .ok (.ishr, 1) := by decide +kernel
theorem dX3_tread_22 : decode cX3_tread 22 = .ok (.iconst 2, 1) := by decide +kernel
theorem dX3_tread_23 : decode cX3_tread 23 = .ok (.ishl, 1) := by decide +kernel
theorem dX3_tread_24 : decode cX3_tread 24 = .ok (.istore 4, 2) := by decide +kernel
theorem dX3_tread_26 : decode cX3_tread 26 = .ok (.iload_n 2, 1) := by decide +kernel
theorem dX3_tread_27 : decode cX3_tread 27 = .ok (.aload_n 0, 1) := by decide +kernel
theorem dX3_tread_28 : decode cX3_tread 28 = .ok (.getfield 23, 3) := by decide +kernel
theorem dX3_tread_31 : decode cX3_tread 31 = .ok (.getfield 54, 3) := by decide +kernel
theorem dX3_tread_34 : decode cX3_tread 34 = .ok (.iload 4, 2) := by decide +kernel
theorem dX3_tread_36 : decode cX3_tread 36 = .ok (.iload_n 3, 1) := by decide +kernel
theorem dX3_tread_37 : decode cX3_tread 37 = .ok (.invokevirtual 131, 3) := by decide +kernel
theorem dX3_tread_40 : decode cX3_tread 40 = .ok (.ior, 1) := by decide +kernel
theorem dX3_tread_41 : decode cX3_tread 41 = .ok (.istore 5, 2) := by decide +kernel
theorem dX3_tread_43 : decode cX3_tread 43 = .ok (.lconst 0, 1) := by decide +kernel
theorem dX3_tread_44 : decode cX3_tread 44 = .ok (.lstore 6, 2) := by decide +kernel
theorem dX3_tread_46 : decode cX3_tread 46 = .ok (.iconst 0, 1) := by decide +kernel
theorem dX3_tread_47 : decode cX3_tread 47 = .ok (.istore 8, 2) := by decide +kernel
theorem dX3_tread_49 : decode cX3_tread 49 = .ok (.iload 8, 2) := by decide +kernel
theorem dX3_tread_51 : decode cX3_tread 51 = .ok (.aload_n 0, 1) := by decide +kernel
theorem dX3_tread_52 : decode cX3_tread 52 = .ok (.getfield 27, 3) := by decide +kernel
theorem dX3_tread_55 : decode cX3_tread 55 = .ok (.invokevirtual 105, 3) := by decide +kernel
theorem dX3_tread_58 : decode cX3_tread 58 = .ok (.if_icmp .ge 97, 3) := by decide +kernel
theorem dX3_tread_61 : decode cX3_tread 61 = .ok (.aload_n 0, 1) := by decide +kernel
theorem dX3_tread_62 : decode cX3_tread 62 = .ok (.getfield 11, 3) := by decide +kernel
theorem dX3_tread_65 : decode cX3_tread 65 = .ok (.iload_n 1, 1) := by decide +kernel
theorem dX3_tread_66 : decode cX3_tread 66 = .ok (.iconst 1, 1) := by decide +kernel
theorem dX3_tread_67 : decode cX3_tread 67 = .ok (.iadd, 1) := by decide +kernel
theorem dX3_tread_68 : decode cX3_tread 68 = .ok (.iconst 3, 1) := by decide +kernel
theorem dX3_tread_69 : decode cX3_tread 69 = .ok (.imul, 1) := by decide +kernel
theorem dX3_tread_70 : decode cX3_tread 70 = .ok (.iload 8, 2) := by decide +kernel
theorem dX3_tread_72 : decode cX3_tread 72 = .ok (.iadd, 1) := by decide +kernel
theorem dX3_tread_73 : decode cX3_tread 73 = .ok (.aaload, 1) := by decide +kernel
theorem dX3_tread_74 : decode cX3_tread 74 = .ok (.astore 9, 2) := by decide +kernel
theorem dX3_tread_76 : decode cX3_tread 76 = .ok (.aload_n 0, 1) := by decide +kernel
theorem dX3_tread_77 : decode cX3_tread 77 = .ok (.getfield 11, 3) := by decide +kernel
theorem dX3_tread_80 : decode cX3_tread 80 = .ok (.iload_n 1, 1) := by decide +kernel
theorem dX3_tread_81 : decode cX3_tread 81 = .ok (.iconst 3, 1) := by decide +kernel
theorem dX3_tread_82 : decode cX3_tread 82 = .ok (.imul, 1) := by decide +kernel
theorem dX3_tread_83 : decode cX3_tread 83 = .ok (.iload 8, 2) := by decide +kernel
theorem dX3_tread_85 : decode cX3_tread 85 = .ok (.iadd, 1) := by decide +kernel
theorem dX3_tread_86 : decode cX3_tread 86 = .ok (.aaload, 1) := by decide +kernel
theorem dX3_tread_87 : decode cX3_tread 87 = .ok (.iconst 0, 1) := by decide +kernel
theorem dX3_tread_88 : decode cX3_tread 88 = .ok (.aload 9, 2) := by decide +kernel
theorem dX3_tread_90 : decode cX3_tread 90 = .ok (.iconst 0, 1) := by decide +kernel
theorem dX3_tread_91 : decode cX3_tread 91 = .ok (.aload_n 0, 1) := by decide +kernel
theorem dX3_tread_92 : decode cX3_tread 92 = .ok (.getfield 23, 3) := by decide +kernel
theorem dX3_tread_95 : decode cX3_tread 95 = .ok (.getfield 110, 3) := by decide +kernel
theorem dX3_tread_98 : decode cX3_tread 98 = .ok (.getfield 119, 3) := by decide +kernel
theorem dX3_tread_101 : decode cX3_tread 101 = .ok (.invokestatic 122, 3) := by decide +kernel
theorem dX3_tread_104 : decode cX3_tread 104 = .ok (.aload_n 0, 1) := by decide +kernel
theorem dX3_tread_105 : decode cX3_tread 105 = .ok (.getfield 23, 3) := by decide +kernel
theorem dX3_tread_108 : decode cX3_tread 108 = .ok (.aload 9, 2) := by decide +kernel
theorem dX3_tread_110 : decode cX3_tread 110 = .ok (.aload_n 0, 1) := by decide +kernel
theorem dX3_tread_111 : decode cX3_tread 111 = .ok (.getfield 27, 3) := by decide +kernel
theorem dX3_tread_114 : decode cX3_tread 114 = .ok (.getfield 134, 3) := by decide +kernel
theorem dX3_tread_117 : decode cX3_tread 117 = .ok (.iload 8, 2) := by decide +kernel
theorem dX3_tread_119 : decode cX3_tread 119 = .ok (.aaload, 1) := by decide +kernel
theorem dX3_tread_120 : decode cX3_tread 120 = .ok (.iload_n 1, 1) := by decide +kernel
theorem dX3_tread_121 : decode cX3_tread 121 = .ok (.iaload, 1) := by decide +kernel
theorem dX3_tread_122 : decode cX3_tread 122 = .ok (.iload_n 3, 1) := by decide +kernel
theorem dX3_tread_123 : decode cX3_tread 123 = .ok (.iload 5, 2) := by decide +kernel
theorem dX3_tread_125 : decode cX3_tread 125 = .ok (.aload_n 0, 1) := by decide +kernel
theorem dX3_tread_126 : decode cX3_tread 126 = .ok (.getfield 19, 3) := by decide +kernel
theorem dX3_tread_129 : decode cX3_tread 129 = .ok (.invokevirtual 137, 3) := by decide +kernel
theorem dX3_tread_132 : decode cX3_tread 132 = .ok (.lload 6, 2) := by decide +kernel
theorem dX3_tread_134 : decode cX3_tread 134 = .ok (.aload_n 0, 1) := by decide +kernel
theorem dX3_tread_135 : decode cX3_tread 135 = .ok (.getfield 23, 3) := by decide +kernel
theorem dX3_tread_138 : decode cX3_tread 138 = .ok (.getfield 110, 3) := by decide +kernel
theorem dX3_tread_141 : decode cX3_tread 141 = .ok (.aload 9, 2) := by decide +kernel
theorem dX3_tread_143 : decode cX3_tread 143 = .ok (.invokevirtual 141, 3) := by decide +kernel
theorem dX3_tread_146 : decode cX3_tread 146 = .ok (.ladd, 1) := by decide +kernel
theorem dX3_tread_147 : decode cX3_tread 147 = .ok (.lstore 6, 2) := by decide +kernel
theorem dX3_tread_149 : decode cX3_tread 149 = .ok (.iinc 8 1, 3) := by decide +kernel
theorem dX3_tread_152 : decode cX3_tread 152 = .ok (.goto (-103), 3) := by decide +kernel
theorem dX3_tread_155 : decode cX3_tread 155 = .ok (.lload 6, 2) := by decide +kernel
theorem dX3_tread_157 : decode cX3_tread 157 = .ok (.lreturn, 1) := by decide +kernel
theorem dX4_init_0 : decode cX4_init 0 = .ok (.aload_n 0, 1) := by decide +kernel
theorem dX4_init_1 : decode cX4_init 1 = .ok (.invokespecial 3, 3) := by decide +kernel
theorem dX4_init_4 : decode cX4_init 4 = .ok (.aload_n 0, 1) := by decide +kernel
theorem dX4_init_5 : decode cX4_init 5 = .ok (.iconst 4, 1) := by decide +kernel
theorem dX4_init_6 : decode cX4_init 6 = .ok (.newarray .int, 2) := by decide +kernel
theorem dX4_init_8 : decode cX4_init 8 = .ok (.putfield 9, 3) := by decide +kernel
theorem dX4_init_11 : decode cX4_init 11 = .ok (.aload_n 0, 1) := by decide +kernel
theorem dX4_init_12 : decode cX4_init 12 = .ok (.iconst 4, 1) := by decide +kernel
theorem dX4_init_13 : decode cX4_init 13 = .ok (.newarray .int, 2) := by decide +kernel
theorem dX4_init_15 : decode cX4_init 15 = .ok (.putfield 15, 3) := by decide +kernel
theorem dX4_init_18 : decode cX4_init 18 = .ok (.aload_n 0, 1) := by decide +kernel
theorem dX4_init_19 : decode cX4_init 19 = .ok (.iconst 4, 1) := by decide +kernel
theorem dX4_init_20 : decode cX4_init 20 = .ok (.newarray .int, 2) := by decide +kernel
theorem dX4_init_22 : decode cX4_init 22 = .ok (.putfield 18, 3) := by decide +kernel
theorem dX4_init_25 : decode cX4_init 25 = .ok (.aload_n 0, 1) := by decide +kernel
theorem dX4_init_26 : decode cX4_init 26 = .ok (.iconst 4, 1) := by decide +kernel
theorem dX4_init_27 : decode cX4_init 27 = .ok (.newarray .int, 2) := by decide +kernel
theorem dX4_init_29 : decode cX4_init 29 = .ok (.putfield 21, 3) := by decide +kernel
theorem dX4_init_32 : decode cX4_init 32 = .ok (.aload_n 0, 1) := by decide +kernel
theorem dX4_init_33 : decode cX4_init 33 = .ok (.iconst 4, 1) := by decide +kernel
theorem dX4_init_34 : decode cX4_init 34 = .ok (.newarray .int, 2) := by decide +kernel
theorem dX4_init_36 : decode cX4_init 36 = .ok (.putfield 24, 3) := by decide +kernel
theorem dX4_init_39 : decode cX4_init 39 = .ok (.aload_n 0, 1) := by decide +kernel
theorem dX4_init_40 : decode cX4_init 40 = .ok (.iconst 4, 1) := by decide +kernel
theorem dX4_init_41 : decode cX4_init 41 = .ok (.newarray .int, 2) := by decide +kernel
theorem dX4_init_43 : decode cX4_init 43 = .ok (.putfield 27, 3) := by decide +kernel
theorem dX4_init_46 : decode cX4_init 46 = .ok (.return_, 1) := by decide +kernel
theorem dX4_add_0 : decode cX4_add 0 = .ok (.aload_n 0, 1) := by decide +kernel
theorem dX4_add_1 : decode cX4_add 1 = .ok (.getfield 30, 3) := by decide +kernel
theorem dX4_add_4 : decode cX4_add 4 = .ok (.iconst 4, 1) := by decide +kernel
theorem dX4_add_5 : decode cX4_add 5 = .ok (.if_icmp .lt 6, 3) := by decide +kernel
theorem dX4_add_8 : decode cX4_add 8 = .ok (.bipush (-3), 2) := by decide +kernel
theorem dX4_add_10 : decode cX4_add 10 = .ok (.ireturn, 1) := by decide +kernel
theorem dX4_add_11 : decode cX4_add 11 = .ok (.aload_n 0, 1) := by decide +kernel
theorem dX4_add_12 : decode cX4_add 12 = .ok (.getfield 9, 3) := by decide +kernel
theorem dX4_add_15 : decode cX4_add 15 = .ok (.aload_n 0, 1) := by decide +kernel
theorem dX4_add_16 : decode cX4_add 16 = .ok (.getfield 30, 3) := by decide +kernel
theorem dX4_add_19 : decode cX4_add 19 = .ok (.iload_n 1, 1) := by decide +kernel
theorem dX4_add_20 : decode cX4_add 20 = .ok (.iastore, 1) := by decide +kernel
theorem dX4_add_21 : decode cX4_add 21 = .ok (.aload_n 0, 1) := by decide +kernel
theorem dX4_add_22 : decode cX4_add 22 = .ok (.getfield 15, 3) := by decide +kernel
theorem dX4_add_25 : decode cX4_add 25 = .ok (.aload_n 0, 1) := by decide +kernel
theorem dX4_add_26 : decode cX4_add 26 = .ok (.getfield 30, 3) := by decide +kernel
theorem dX4_add_29 : decode cX4_add 29 = .ok (.iload_n 2, 1) := by decide +kernel
theorem dX4_add_30 : decode cX4_add 30 = .ok (.iastore, 1) := by decide +kernel
theorem dX4_add_31 : decode cX4_add 31 = .ok (.aload_n 0, 1) := by decide +kernel
theorem dX4_add_32 : decode cX4_add 32 = .ok (.getfield 18, 3) := by decide +kernel
theorem dX4_add_35 : decode cX4_add 35 = .ok (.aload_n 0, 1) := by decide +kernel
theorem dX4_add_36 : decode cX4_add 36 = .ok (.getfield 30, 3) := by decide +kernel
theorem dX4_add_39 : decode cX4_add 39 = .ok (.iload_n 3, 1) := by decide +kernel
theorem dX4_add_40 : decode cX4_add 40 = .ok (.iastore, 1) := by decide +kernel
theorem dX4_add_41 : decode cX4_add 41 = .ok (.aload_n 0, 1) := by decide +kernel
theorem dX4_add_42 : decode cX4_add 42 = .ok (.getfield 21, 3) := by decide +kernel
theorem dX4_add_45 : decode cX4_add 45 = .ok (.aload_n 0, 1) := by decide +kernel
theorem dX4_add_46 : decode cX4_add 46 = .ok (.getfield 30, 3) := by decide +kernel
theorem dX4_add_49 : decode cX4_add 49 = .ok (.iload 4, 2) := by decide +kernel
theorem dX4_add_51 : decode cX4_add 51 = .ok (.iastore, 1) := by decide +kernel
theorem dX4_add_52 : decode cX4_add 52 = .ok (.aload_n 0, 1) := by decide +kernel
theorem dX4_add_53 : decode cX4_add 53 = .ok (.getfield 24, 3) := by decide +kernel
theorem dX4_add_56 : decode cX4_add 56 = .ok (.aload_n 0, 1) := by decide +kernel
theorem dX4_add_57 : decode cX4_add 57 = .ok (.getfield 30, 3) := by decide +kernel
theorem dX4_add_60 : decode cX4_add 60 = .ok (.iload 5, 2) := by decide +kernel
theorem dX4_add_62 : decode cX4_add 62 = .ok (.iastore, 1) := by decide +kernel
theorem dX4_add_63 : decode cX4_add 63 = .ok (.aload_n 0, 1) := by decide +kernel
theorem dX4_add_64 : decode cX4_add 64 = .ok (.dup, 1) := by decide +kernel
theorem dX4_add_65 : decode cX4_add 65 = .ok (.getfield 30, 3) := by decide +kernel
theorem dX4_add_68 : decode cX4_add 68 = .ok (.dup_x1, 1) := by decide +kernel
theorem dX4_add_69 : decode cX4_add 69 = .ok (.iconst 1, 1) := by decide +kernel
theorem dX4_add_70 : decode cX4_add 70 = .ok (.iadd, 1) := by decide +kernel
theorem dX4_add_71 : decode cX4_add 71 = .ok (.putfield 30, 3) := by decide +kernel
theorem dX4_add_74 : decode cX4_add 74 = .ok (.ireturn, 1) := by decide +kernel
theorem dX4_has_0 : decode cX4_has 0 = .ok (.iload_n 1, 1) := by decide +kernel
theorem dX4_has_1 : decode cX4_has 1 = .ok (.ifCond .lt 15, 3) := by decide +kernel
theorem dX4_has_4 : decode cX4_has 4 = .ok (.iload_n 1, 1) := by decide +kernel
theorem dX4_has_5 : decode cX4_has 5 = .ok (.aload_n 0, 1) := by decide +kernel
theorem dX4_has_6 : decode cX4_has 6 = .ok (.getfield 30, 3) := by decide +kernel
theorem dX4_has_9 : decode cX4_has 9 = .ok (.if_icmp .ge 7, 3) := by decide +kernel
theorem dX4_has_12 : decode cX4_has 12 = .ok (.iconst 1, 1) := by decide +kernel
theorem dX4_has_13 : decode cX4_has 13 = .ok (.goto 4, 3) := by decide +kernel
theorem dX4_has_16 : decode cX4_has 16 = .ok (.iconst 0, 1) := by decide +kernel
theorem dX4_has_17 : decode cX4_has 17 = .ok (.ireturn, 1) := by decide +kernel
theorem dX4_isOn_0 : decode cX4_isOn 0 = .ok (.aload_n 0, 1) := by decide +kernel
theorem dX4_isOn_1 : decode cX4_isOn 1 = .ok (.getfield 34, 3) := by decide +kernel
theorem dX4_isOn_4 : decode cX4_isOn 4 = .ok (.iload_n 1, 1) := by decide +kernel
theorem dX4_isOn_5 : decode cX4_isOn 5 = .ok (.ishr, 1) := by decide +kernel
theorem dX4_isOn_6 : decode cX4_isOn 6 = .ok (.iconst 1, 1) := by decide +kernel
theorem dX4_isOn_7 : decode cX4_isOn 7 = .ok (.iand, 1) := by decide +kernel
theorem dX4_isOn_8 : decode cX4_isOn 8 = .ok (.ifCond .eq 7, 3) := by decide +kernel
theorem dX4_isOn_11 : decode cX4_isOn 11 = .ok (.iconst 1, 1) := by decide +kernel
theorem dX4_isOn_12 : decode cX4_isOn 12 = .ok (.goto 4, 3) := by decide +kernel
theorem dX4_isOn_15 : decode cX4_isOn 15 = .ok (.iconst 0, 1) := by decide +kernel
theorem dX4_isOn_16 : decode cX4_isOn 16 = .ok (.ireturn, 1) := by decide +kernel
theorem dX4_pausesAt_0 : decode cX4_pausesAt 0 = .ok (.aload_n 0, 1) := by decide +kernel
theorem dX4_pausesAt_1 : decode cX4_pausesAt 1 = .ok (.getfield 24, 3) := by decide +kernel
theorem dX4_pausesAt_4 : decode cX4_pausesAt 4 = .ok (.iload_n 1, 1) := by decide +kernel
theorem dX4_pausesAt_5 : decode cX4_pausesAt 5 = .ok (.iaload, 1) := by decide +kernel
theorem dX4_pausesAt_6 : decode cX4_pausesAt 6 = .ok (.iload_n 2, 1) := by decide +kernel
theorem dX4_pausesAt_7 : decode cX4_pausesAt 7 = .ok (.invokestatic 37, 3) := by decide +kernel
theorem dX4_pausesAt_10 : decode cX4_pausesAt 10 = .ok (.ishr, 1) := by decide +kernel
theorem dX4_pausesAt_11 : decode cX4_pausesAt 11 = .ok (.iconst 1, 1) := by decide +kernel
theorem dX4_pausesAt_12 : decode cX4_pausesAt 12 = .ok (.iand, 1) := by decide +kernel
theorem dX4_pausesAt_13 : decode cX4_pausesAt 13 = .ok (.ifCond .eq 7, 3) := by decide +kernel
theorem dX4_pausesAt_16 : decode cX4_pausesAt 16 = .ok (.iconst 1, 1) := by decide +kernel
theorem dX4_pausesAt_17 : decode cX4_pausesAt 17 = .ok (.goto 4, 3) := by decide +kernel
theorem dX4_pausesAt_20 : decode cX4_pausesAt 20 = .ok (.iconst 0, 1) := by decide +kernel
theorem dX4_pausesAt_21 : decode cX4_pausesAt 21 = .ok (.ireturn, 1) := by decide +kernel
theorem dX4_mustStayOff_0 : decode cX4_mustStayOff 0 = .ok (.aload_n 0, 1) := by decide +kernel
theorem dX4_mustStayOff_1 : decode cX4_mustStayOff 1 = .ok (.iload_n 1, 1) := by decide +kernel
theorem dX4_mustStayOff_2 : decode cX4_mustStayOff 2 = .ok (.invokevirtual 41, 3) := by decide +kernel
theorem dX4_mustStayOff_5 : decode cX4_mustStayOff 5 = .ok (.ifCond .ne 16, 3) := by decide +kernel
theorem dX4_mustStayOff_8 : decode cX4_mustStayOff 8 = .ok (.aload_n 0, 1) := by decide +kernel
theorem dX4_mustStayOff_9 : decode cX4_mustStayOff 9 = .ok (.iload_n 1, 1) := by decide +kernel
theorem dX4_mustStayOff_10 : decode cX4_mustStayOff 10 = .ok (.iload_n 2, 1) := by decide +kernel
theorem dX4_mustStayOff_11 : decode cX4_mustStayOff 11 = .ok (.invokevirtual 45, 3) := by decide +kernel
theorem dX4_mustStayOff_14 : decode cX4_mustStayOff 14 = .ok (.ifCond .eq 7, 3) := by decide +kernel
theorem dX4_mustStayOff_17 : decode cX4_mustStayOff 17 = .ok (.iconst 1, 1) := by decide +kernel
theorem dX4_mustStayOff_18 : decode cX4_mustStayOff 18 = .ok (.goto 4, 3) := by decide +kernel
theorem dX4_mustStayOff_21 : decode cX4_mustStayOff 21 = .ok (.iconst 0, 1) := by decide +kernel
theorem dX4_mustStayOff_22 : decode cX4_mustStayOff 22 = .ok (.ireturn, 1) := by decide +kernel
theorem dX4_mustRunOn_0 : decode cX4_mustRunOn 0 = .ok (.aload_n 0, 1) := by decide +kernel
theorem dX4_mustRunOn_1 : decode cX4_mustRunOn 1 = .ok (.iload_n 1, 1) := by decide +kernel
theorem dX4_mustRunOn_2 : decode cX4_mustRunOn 2 = .ok (.invokevirtual 41, 3) := by decide +kernel
theorem dX4_mustRunOn_5 : decode cX4_mustRunOn 5 = .ok (.ifCond .eq 24, 3) := by decide +kernel
theorem dX4_mustRunOn_8 : decode cX4_mustRunOn 8 = .ok (.iload_n 2, 1) := by decide +kernel
theorem dX4_mustRunOn_9 : decode cX4_mustRunOn 9 = .ok (.aload_n 0, 1) := by decide +kernel
theorem dX4_mustRunOn_10 : decode cX4_mustRunOn 10 = .ok (.getfield 27, 3) := by decide +kernel
theorem dX4_mustRunOn_13 : decode cX4_mustRunOn 13 = .ok (.iload_n 1, 1) := by decide +kernel
theorem dX4_mustRunOn_14 : decode cX4_mustRunOn 14 = .ok (.iaload, 1) := by decide +kernel
theorem dX4_mustRunOn_15 : decode cX4_mustRunOn 15 = .ok (.isub, 1) := by decide +kernel
theorem dX4_mustRunOn_16 : decode cX4_mustRunOn 16 = .ok (.aload_n 0, 1) := by decide +kernel
theorem dX4_mustRunOn_17 : decode cX4_mustRunOn 17 = .ok (.getfield 21, 3) := by decide +kernel
theorem dX4_mustRunOn_20 : decode cX4_mustRunOn 20 = .ok (.iload_n 1, 1) := by decide +kernel
theorem dX4_mustRunOn_21 : decode cX4_mustRunOn 21 = .ok (.iaload, 1) := by decide +kernel
theorem dX4_mustRunOn_22 : decode cX4_mustRunOn 22 = .ok (.if_icmp .ge 7, 3) := by decide +kernel
theorem dX4_mustRunOn_25 : decode cX4_mustRunOn 25 = .ok (.iconst 1, 1) := by decide +kernel
theorem dX4_mustRunOn_26 : decode cX4_mustRunOn 26 = .ok (.goto 4, 3) := by decide +kernel
theorem dX4_mustRunOn_29 : decode cX4_mustRunOn 29 = .ok (.iconst 0, 1) := by decide +kernel
theorem dX4_mustRunOn_30 : decode cX4_mustRunOn 30 = .ok (.ireturn, 1) := by decide +kernel
theorem dX4_put_0 : decode cX4_put 0 = .ok (.iload_n 2, 1) := by decide +kernel
theorem dX4_put_1 : decode cX4_put 1 = .ok (.ifCond .eq 18, 3) := by decide +kernel
theorem dX4_put_4 : decode cX4_put 4 = .ok (.aload_n 0, 1) := by decide +kernel
theorem dX4_put_5 : decode cX4_put 5 = .ok (.iload_n 1, 1) := by decide +kernel
theorem dX4_put_6 : decode cX4_put 6 = .ok (.invokevirtual 41, 3) := by decide +kernel
theorem dX4_put_9 : decode cX4_put 9 = .ok (.ifCond .ne 10, 3) := by decide +kernel
theorem dX4_put_12 : decode cX4_put 12 = .ok (.aload_n 0, 1) := by decide +kernel
theorem dX4_put_13 : decode cX4_put 13 = .ok (.getfield 27, 3) := by decide +kernel
theorem dX4_put_16 : decode cX4_put 16 = .ok (.iload_n 1, 1) := by decide +kernel
theorem dX4_put_17 : decode cX4_put 17 = .ok (.iload_n 3, 1) := by decide +kernel
theorem dX4_put_18 : decode cX4_put 18 = .ok (.iastore, 1) := by decide +kernel
theorem dX4_put_19 : decode cX4_put 19 = .ok (.aload_n 0, 1) := by decide +kernel
theorem dX4_put_20 : decode cX4_put 20 = .ok (.iload_n 2, 1) := by decide +kernel
theorem dX4_put_21 : decode cX4_put 21 = .ok (.ifCond .eq 14, 3) := by decide +kernel
theorem dX4_put_24 : decode cX4_put 24 = .ok (.aload_n 0, 1) := by decide +kernel
theorem dX4_put_25 : decode cX4_put 25 = .ok (.getfield 34, 3) := by decide +kernel
theorem dX4_put_28 : decode cX4_put 28 = .ok (.iconst 1, 1) := by decide +kernel
theorem dX4_put_29 : decode cX4_put 29 = .ok (.iload_n 1, 1) := by decide +kernel
theorem dX4_put_30 : decode cX4_put 30 = .ok (.ishl, 1) := by decide +kernel
theorem dX4_put_31 : decode cX4_put 31 = .ok (.ior, 1) := by decide +kernel
theorem dX4_put_32 : decode cX4_put 32 = .ok (.goto 13, 3) := by decide +kernel
theorem dX4_put_35 : decode cX4_put 35 = .ok (.aload_n 0, 1) := by decide +kernel
theorem dX4_put_36 : decode cX4_put 36 = .ok (.getfield 34, 3) := by decide +kernel
theorem dX4_put_39 : decode cX4_put 39 = .ok (.iconst 1, 1) := by decide +kernel
theorem dX4_put_40 : decode cX4_put 40 = .ok (.iload_n 1, 1) := by decide +kernel
theorem dX4_put_41 : decode cX4_put 41 = .ok (.ishl, 1) := by decide +kernel
theorem dX4_put_42 : decode cX4_put 42 = .ok (.iconst (-1), 1) := by decide +kernel
theorem dX4_put_43 : decode cX4_put 43 = .ok (.ixor, 1) := by decide +kernel
theorem dX4_put_44 : decode cX4_put 44 = .ok (.iand, 1) := by decide +kernel
theorem dX4_put_45 : decode cX4_put 45 = .ok (.putfield 34, 3) := by decide +kernel
theorem dX4_put_48 : decode cX4_put 48 = .ok (.return_, 1) := by decide +kernel
theorem dX4_awake_0 : decode cX4_awake 0 = .ok (.iload_n 1, 1) := by decide +kernel
theorem dX4_awake_1 : decode cX4_awake 1 = .ok (.istore_n 3, 1) := by decide +kernel
theorem dX4_awake_2 : decode cX4_awake 2 = .ok (.iconst 0, 1) := by decide +kernel
theorem dX4_awake_3 : decode cX4_awake 3 = .ok (.istore 4, 2) := by decide +kernel
theorem dX4_awake_5 : decode cX4_awake 5 = .ok (.iload 4, 2) := by decide +kernel
theorem dX4_awake_7 : decode cX4_awake 7 = .ok (.aload_n 0, 1) := by decide +kernel
theorem dX4_awake_8 : decode cX4_awake 8 = .ok (.getfield 30, 3) := by decide +kernel
theorem dX4_awake_11 : decode cX4_awake 11 = .ok (.if_icmp .ge 28, 3) := by decide +kernel
theorem dX4_awake_14 : decode cX4_awake 14 = .ok (.aload_n 0, 1) := by decide +kernel
theorem dX4_awake_15 : decode cX4_awake 15 = .ok (.iload 4, 2) := by decide +kernel
theorem dX4_awake_17 : decode cX4_awake 17 = .ok (.iload_n 2, 1) := by decide +kernel
theorem dX4_awake_18 : decode cX4_awake 18 = .ok (.invokevirtual 45, 3) := by decide +kernel
theorem dX4_awake_21 : decode cX4_awake 21 = .ok (.ifCond .eq 12, 3) := by decide +kernel
theorem dX4_awake_24 : decode cX4_awake 24 = .ok (.iload_n 3, 1) := by decide +kernel
theorem dX4_awake_25 : decode cX4_awake 25 = .ok (.iconst 1, 1) := by decide +kernel
theorem dX4_awake_26 : decode cX4_awake 26 = .ok (.iload 4, 2) := by decide +kernel
theorem dX4_awake_28 : decode cX4_awake 28 = .ok (.ishl, 1) := by decide +kernel
theorem dX4_awake_29 : decode cX4_awake 29 = .ok (.iconst (-1), 1) := by decide +kernel
theorem dX4_awake_30 : decode cX4_awake 30 = .ok (.ixor, 1) := by decide +kernel
theorem dX4_awake_31 : decode cX4_awake 31 = .ok (.iand, 1) := by decide +kernel
theorem dX4_awake_32 : decode cX4_awake 32 = .ok (.istore_n 3, 1) := by decide +kernel
theorem dX4_awake_33 : decode cX4_awake 33 = .ok (.iinc 4 1, 3) := by decide +kernel
theorem dX4_awake_36 : decode cX4_awake 36 = .ok (.goto (-31), 3) := by decide +kernel
theorem dX4_awake_39 : decode cX4_awake 39 = .ok (.iload_n 3, 1) := by decide +kernel
theorem dX4_awake_40 : decode cX4_awake 40 = .ok (.ireturn, 1) := by decide +kernel
theorem dX4_inPlans_0 : decode cX4_inPlans 0 = .ok (.aload_n 0, 1) := by decide +kernel
theorem dX4_inPlans_1 : decode cX4_inPlans 1 = .ok (.getfield 30, 3) := by decide +kernel
theorem dX4_inPlans_4 : decode cX4_inPlans 4 = .ok (.iconst 2, 1) := by decide +kernel
theorem dX4_inPlans_5 : decode cX4_inPlans 5 = .ok (.invokestatic 49, 3) := by decide +kernel
theorem dX4_inPlans_8 : decode cX4_inPlans 8 = .ok (.ireturn, 1) := by decide +kernel
theorem dX5_init_0 : decode cX5_init 0 = .ok (.aload_n 0, 1) := by decide +kernel
theorem dX5_init_1 : decode cX5_init 1 = .ok (.invokespecial 3, 3) := by decide +kernel
theorem dX5_init_4 : decode cX5_init 4 = .ok (.aload_n 0, 1) := by decide +kernel
theorem dX5_init_5 : decode cX5_init 5 = .ok (.iconst 4, 1) := by decide +kernel
theorem dX5_init_6 : decode cX5_init 6 = .ok (.bipush 60, 2) := by decide +kernel
theorem dX5_init_8 : decode cX5_init 8 = .ok (.multianewarray 9 2, 4) := by decide +kernel
theorem dX5_init_12 : decode cX5_init 12 = .ok (.putfield 11, 3) := by decide +kernel
theorem dX5_init_15 : decode cX5_init 15 = .ok (.aload_n 0, 1) := by decide +kernel
theorem dX5_init_16 : decode cX5_init 16 = .ok (.iconst 4, 1) := by decide +kernel
theorem dX5_init_17 : decode cX5_init 17 = .ok (.newarray .int, 2) := by decide +kernel
theorem dX5_init_19 : decode cX5_init 19 = .ok (.putfield 16, 3) := by decide +kernel
theorem dX5_init_22 : decode cX5_init 22 = .ok (.aload_n 0, 1) := by decide +kernel
theorem dX5_init_23 : decode cX5_init 23 = .ok (.iconst 4, 1) := by decide +kernel
theorem dX5_init_24 : decode cX5_init 24 = .ok (.newarray .int, 2) := by decide +kernel
theorem dX5_init_26 : decode cX5_init 26 = .ok (.putfield 20, 3) := by decide +kernel
theorem dX5_init_29 : decode cX5_init 29 = .ok (.aload_n 0, 1) := by decide +kernel
theorem dX5_init_30 : decode cX5_init 30 = .ok (.getfield 20, 3) := by decide +kernel
theorem dX5_init_33 : decode cX5_init 33 = .ok (.iconst (-1), 1) := by decide +kernel
theorem dX5_init_34 : decode cX5_init 34 = .ok (.invokestatic 23, 3) := by decide +kernel
theorem dX5_init_37 : decode cX5_init 37 = .ok (.return_, 1) := by decide +kernel
theorem dX5_clear_0 : decode cX5_clear 0 = .ok (.aload_n 0, 1) := by decide +kernel
theorem dX5_clear_1 : decode cX5_clear 1 = .ok (.getfield 11, 3) := by decide +kernel
theorem dX5_clear_4 : decode cX5_clear 4 = .ok (.iload_n 1, 1) := by decide +kernel
theorem dX5_clear_5 : decode cX5_clear 5 = .ok (.aaload, 1) := by decide +kernel
theorem dX5_clear_6 : decode cX5_clear 6 = .ok (.iconst 0, 1) := by decide +kernel
theorem dX5_clear_7 : decode cX5_clear 7 = .ok (.invokestatic 23, 3) := by decide +kernel
theorem dX5_clear_10 : decode cX5_clear 10 = .ok (.aload_n 0, 1) := by decide +kernel
theorem dX5_clear_11 : decode cX5_clear 11 = .ok (.getfield 16, 3) := by decide +kernel
theorem dX5_clear_14 : decode cX5_clear 14 = .ok (.iload_n 1, 1) := by decide +kernel
theorem dX5_clear_15 : decode cX5_clear 15 = .ok (.iload_n 2, 1) := by decide +kernel
theorem dX5_clear_16 : decode cX5_clear 16 = .ok (.iastore, 1) := by decide +kernel
theorem dX5_clear_17 : decode cX5_clear 17 = .ok (.aload_n 0, 1) := by decide +kernel
theorem dX5_clear_18 : decode cX5_clear 18 = .ok (.getfield 20, 3) := by decide +kernel
theorem dX5_clear_21 : decode cX5_clear 21 = .ok (.iload_n 1, 1) := by decide +kernel
theorem dX5_clear_22 : decode cX5_clear 22 = .ok (.iload_n 3, 1) := by decide +kernel
theorem dX5_clear_23 : decode cX5_clear 23 = .ok (.iastore, 1) := by decide +kernel
theorem dX5_clear_24 : decode cX5_clear 24 = .ok (.return_, 1) := by decide +kernel
theorem dX5_isNothing_0 : decode cX5_isNothing 0 = .ok (.aload_n 0, 1) := by decide +kernel
theorem dX5_isNothing_1 : decode cX5_isNothing 1 = .ok (.getfield 20, 3) := by decide +kernel
theorem dX5_isNothing_4 : decode cX5_isNothing 4 = .ok (.iload_n 1, 1) := by decide +kernel
theorem dX5_isNothing_5 : decode cX5_isNothing 5 = .ok (.iaload, 1) := by decide +kernel
theorem dX5_isNothing_6 : decode cX5_isNothing 6 = .ok (.iconst (-1), 1) := by decide +kernel
theorem dX5_isNothing_7 : decode cX5_isNothing 7 = .ok (.if_icmp .ne 7, 3) := by decide +kernel
theorem dX5_isNothing_10 : decode cX5_isNothing 10 = .ok (.iconst 1, 1) := by decide +kernel
theorem dX5_isNothing_11 : decode cX5_isNothing 11 = .ok (.goto 4, 3) := by decide +kernel
theorem dX5_isNothing_14 : decode cX5_isNothing 14 = .ok (.iconst 0, 1) := by decide +kernel
theorem dX5_isNothing_15 : decode cX5_isNothing 15 = .ok (.ireturn, 1) := by decide +kernel
theorem dX5_hasCell_0 : decode cX5_hasCell 0 = .ok (.iload_n 2, 1) := by decide +kernel
theorem dX5_hasCell_1 : decode cX5_hasCell 1 = .ok (.ifCond .lt 17, 3) := by decide +kernel
theorem dX5_hasCell_4 : decode cX5_hasCell 4 = .ok (.iload_n 2, 1) := by decide +kernel
theorem dX5_hasCell_5 : decode cX5_hasCell 5 = .ok (.aload_n 0, 1) := by decide +kernel
theorem dX5_hasCell_6 : decode cX5_hasCell 6 = .ok (.getfield 20, 3) := by decide +kernel
theorem dX5_hasCell_9 : decode cX5_hasCell 9 = .ok (.iload_n 1, 1) := by decide +kernel
theorem dX5_hasCell_10 : decode cX5_hasCell 10 = .ok (.iaload, 1) := by decide +kernel
theorem dX5_hasCell_11 : decode cX5_hasCell 11 = .ok (.if_icmp .ge 7, 3) := by decide +kernel
theorem dX5_hasCell_14 : decode cX5_hasCell 14 = .ok (.iconst 1, 1) := by decide +kernel
theorem dX5_hasCell_15 : decode cX5_hasCell 15 = .ok (.goto 4, 3) := by decide +kernel
theorem dX5_hasCell_18 : decode cX5_hasCell 18 = .ok (.iconst 0, 1) := by decide +kernel
theorem dX5_hasCell_19 : decode cX5_hasCell 19 = .ok (.ireturn, 1) := by decide +kernel
theorem dX5_put_0 : decode cX5_put 0 = .ok (.aload_n 0, 1) := by decide +kernel
theorem dX5_put_1 : decode cX5_put 1 = .ok (.getfield 11, 3) := by decide +kernel
theorem dX5_put_4 : decode cX5_put 4 = .ok (.iload_n 1, 1) := by decide +kernel
theorem dX5_put_5 : decode cX5_put 5 = .ok (.aaload, 1) := by decide +kernel
theorem dX5_put_6 : decode cX5_put 6 = .ok (.iload_n 2, 1) := by decide +kernel
theorem dX5_put_7 : decode cX5_put 7 = .ok (.aload_n 0, 1) := by decide +kernel
theorem dX5_put_8 : decode cX5_put 8 = .ok (.getfield 16, 3) := by decide +kernel
theorem dX5_put_11 : decode cX5_put 11 = .ok (.iload_n 1, 1) := by decide +kernel
theorem dX5_put_12 : decode cX5_put 12 = .ok (.iaload, 1) := by decide +kernel
theorem dX5_put_13 : decode cX5_put 13 = .ok (.ifCond .ne 8, 3) := by decide +kernel
theorem dX5_put_16 : decode cX5_put 16 = .ok (.iload_n 3, 1) := by decide +kernel
theorem dX5_put_17 : decode cX5_put 17 = .ok (.i2b, 1) := by decide +kernel
theorem dX5_put_18 : decode cX5_put 18 = .ok (.goto 19, 3) := by decide +kernel
theorem dX5_put_21 : decode cX5_put 21 = .ok (.aload_n 0, 1) := by decide +kernel
theorem dX5_put_22 : decode cX5_put 22 = .ok (.getfield 16, 3) := by decide +kernel
theorem dX5_put_25 : decode cX5_put 25 = .ok (.iload_n 1, 1) := by decide +kernel
theorem dX5_put_26 : decode cX5_put 26 = .ok (.iaload, 1) := by decide +kernel
theorem dX5_put_27 : decode cX5_put 27 = .ok (.iconst 1, 1) := by decide +kernel
theorem dX5_put_28 : decode cX5_put 28 = .ok (.if_icmp .ne 8, 3) := by decide +kernel
theorem dX5_put_31 : decode cX5_put 31 = .ok (.iload_n 3, 1) := by decide +kernel
theorem dX5_put_32 : decode cX5_put 32 = .ok (.i2s, 1) := by decide +kernel
theorem dX5_put_33 : decode cX5_put 33 = .ok (.goto 4, 3) := by decide +kernel
theorem dX5_put_36 : decode cX5_put 36 = .ok (.iload_n 3, 1) := by decide +kernel
theorem dX5_put_37 : decode cX5_put 37 = .ok (.iastore, 1) := by decide +kernel
theorem dX5_put_38 : decode cX5_put 38 = .ok (.return_, 1) := by decide +kernel
theorem dX5_faultAs_0 : decode cX5_faultAs 0 = .ok (.aload_n 0, 1) := by decide +kernel
theorem dX5_faultAs_1 : decode cX5_faultAs 1 = .ok (.iload_n 1, 1) := by decide +kernel
theorem dX5_faultAs_2 : decode cX5_faultAs 2 = .ok (.invokevirtual 29, 3) := by decide +kernel
theorem dX5_faultAs_5 : decode cX5_faultAs 5 = .ok (.ifCond .eq 7, 3) := by decide +kernel
theorem dX5_faultAs_8 : decode cX5_faultAs 8 = .ok (.iconst 1, 1) := by decide +kernel
theorem dX5_faultAs_9 : decode cX5_faultAs 9 = .ok (.goto 18, 3) := by decide +kernel
theorem dX5_faultAs_12 : decode cX5_faultAs 12 = .ok (.aload_n 0, 1) := by decide +kernel
theorem dX5_faultAs_13 : decode cX5_faultAs 13 = .ok (.getfield 16, 3) := by decide +kernel
theorem dX5_faultAs_16 : decode cX5_faultAs 16 = .ok (.iload_n 1, 1) := by decide +kernel
theorem dX5_faultAs_17 : decode cX5_faultAs 17 = .ok (.iaload, 1) := by decide +kernel
theorem dX5_faultAs_18 : decode cX5_faultAs 18 = .ok (.iload_n 2, 1) := by decide +kernel
theorem dX5_faultAs_19 : decode cX5_faultAs 19 = .ok (.if_icmp .eq 7, 3) := by decide +kernel
theorem dX5_faultAs_22 : decode cX5_faultAs 22 = .ok (.iconst 3, 1) := by decide +kernel
theorem dX5_faultAs_23 : decode cX5_faultAs 23 = .ok (.goto 4, 3) := by decide +kernel
theorem dX5_faultAs_26 : decode cX5_faultAs 26 = .ok (.iconst 0, 1) := by decide +kernel
theorem dX5_faultAs_27 : decode cX5_faultAs 27 = .ok (.ireturn, 1) := by decide +kernel
theorem dX6_init_0 : decode cX6_init 0 = .ok (.aload_n 0, 1) := by decide +kernel
theorem dX6_init_1 : decode cX6_init 1 = .ok (.invokespecial 3, 3) := by decide +kernel
theorem dX6_init_4 : decode cX6_init 4 = .ok (.aload_n 0, 1) := by decide +kernel
theorem dX6_init_5 : decode cX6_init 5 = .ok (.iconst 4, 1) := by decide +kernel
theorem dX6_init_6 : decode cX6_init 6 = .ok (.newarray .int, 2) := by decide +kernel
theorem dX6_init_8 : decode cX6_init 8 = .ok (.putfield 9, 3) := by decide +kernel
theorem dX6_init_11 : decode cX6_init 11 = .ok (.aload_n 0, 1) := by decide +kernel
theorem dX6_init_12 : decode cX6_init 12 = .ok (.iconst 4, 1) := by decide +kernel
theorem dX6_init_13 : decode cX6_init 13 = .ok (.newarray .int, 2) := by decide +kernel
theorem dX6_init_15 : decode cX6_init 15 = .ok (.putfield 15, 3) := by decide +kernel
theorem dX6_init_18 : decode cX6_init 18 = .ok (.aload_n 0, 1) := by decide +kernel
theorem dX6_init_19 : decode cX6_init 19 = .ok (.iconst 4, 1) := by decide +kernel
theorem dX6_init_20 : decode cX6_init 20 = .ok (.newarray .boolean, 2) := by decide +kernel
theorem dX6_init_22 : decode cX6_init 22 = .ok (.putfield 18, 3) := by decide +kernel
theorem dX6_init_25 : decode cX6_init 25 = .ok (.return_, 1) := by decide +kernel
theorem dX6_add_0 : decode cX6_add 0 = .ok (.aload_n 0, 1) := by decide +kernel
theorem dX6_add_1 : decode cX6_add 1 = .ok (.getfield 22, 3) := by decide +kernel
theorem dX6_add_4 : decode cX6_add 4 = .ok (.iconst 4, 1) := by decide +kernel
theorem dX6_add_5 : decode cX6_add 5 = .ok (.if_icmp .lt 6, 3) := by decide +kernel
theorem dX6_add_8 : decode cX6_add 8 = .ok (.bipush (-3), 2) := by decide +kernel
theorem dX6_add_10 : decode cX6_add 10 = .ok (.ireturn, 1) := by decide +kernel
theorem dX6_add_11 : decode cX6_add 11 = .ok (.aload_n 0, 1) := by decide +kernel
theorem dX6_add_12 : decode cX6_add 12 = .ok (.getfield 9, 3) := by decide +kernel
theorem dX6_add_15 : decode cX6_add 15 = .ok (.aload_n 0, 1) := by decide +kernel
theorem dX6_add_16 : decode cX6_add 16 = .ok (.getfield 22, 3) := by decide +kernel
theorem dX6_add_19 : decode cX6_add 19 = .ok (.iload_n 1, 1) := by decide +kernel
theorem dX6_add_20 : decode cX6_add 20 = .ok (.iastore, 1) := by decide +kernel
theorem dX6_add_21 : decode cX6_add 21 = .ok (.aload_n 0, 1) := by decide +kernel
theorem dX6_add_22 : decode cX6_add 22 = .ok (.getfield 15, 3) := by decide +kernel
theorem dX6_add_25 : decode cX6_add 25 = .ok (.aload_n 0, 1) := by decide +kernel
theorem dX6_add_26 : decode cX6_add 26 = .ok (.getfield 22, 3) := by decide +kernel
theorem dX6_add_29 : decode cX6_add 29 = .ok (.iload_n 2, 1) := by decide +kernel
theorem dX6_add_30 : decode cX6_add 30 = .ok (.iastore, 1) := by decide +kernel
theorem dX6_add_31 : decode cX6_add 31 = .ok (.aload_n 0, 1) := by decide +kernel
theorem dX6_add_32 : decode cX6_add 32 = .ok (.dup, 1) := by decide +kernel
theorem dX6_add_33 : decode cX6_add 33 = .ok (.getfield 22, 3) := by decide +kernel
theorem dX6_add_36 : decode cX6_add 36 = .ok (.dup_x1, 1) := by decide +kernel
theorem dX6_add_37 : decode cX6_add 37 = .ok (.iconst 1, 1) := by decide +kernel
theorem dX6_add_38 : decode cX6_add 38 = .ok (.iadd, 1) := by decide +kernel
theorem dX6_add_39 : decode cX6_add 39 = .ok (.putfield 22, 3) := by decide +kernel
theorem dX6_add_42 : decode cX6_add 42 = .ok (.ireturn, 1) := by decide +kernel
theorem dX6_has_0 : decode cX6_has 0 = .ok (.iload_n 1, 1) := by decide +kernel
theorem dX6_has_1 : decode cX6_has 1 = .ok (.ifCond .lt 15, 3) := by decide +kernel
theorem dX6_has_4 : decode cX6_has 4 = .ok (.iload_n 1, 1) := by decide +kernel
theorem dX6_has_5 : decode cX6_has 5 = .ok (.aload_n 0, 1) := by decide +kernel
theorem dX6_has_6 : decode cX6_has 6 = .ok (.getfield 22, 3) := by decide +kernel
theorem dX6_has_9 : decode cX6_has 9 = .ok (.if_icmp .ge 7, 3) := by decide +kernel
theorem dX6_has_12 : decode cX6_has 12 = .ok (.iconst 1, 1) := by decide +kernel
theorem dX6_has_13 : decode cX6_has 13 = .ok (.goto 4, 3) := by decide +kernel
theorem dX6_has_16 : decode cX6_has 16 = .ok (.iconst 0, 1) := by decide +kernel
theorem dX6_has_17 : decode cX6_has 17 = .ok (.ireturn, 1) := by decide +kernel
theorem dX7_init_0 : decode cX7_init 0 = .ok (.aload_n 0, 1) := by decide +kernel
theorem dX7_init_1 : decode cX7_init 1 = .ok (.invokespecial 3, 3) := by decide +kernel
theorem dX7_init_4 : decode cX7_init 4 = .ok (.aload_n 0, 1) := by decide +kernel
theorem dX7_init_5 : decode cX7_init 5 = .ok (.bipush 8, 2) := by decide +kernel
theorem dX7_init_7 : decode cX7_init 7 = .ok (.newarray .int, 2) := by decide +kernel
theorem dX7_init_9 : decode cX7_init 9 = .ok (.putfield 9, 3) := by decide +kernel
theorem dX7_init_12 : decode cX7_init 12 = .ok (.aload_n 0, 1) := by decide +kernel
theorem dX7_init_13 : decode cX7_init 13 = .ok (.bipush 8, 2) := by decide +kernel
theorem dX7_init_15 : decode cX7_init 15 = .ok (.newarray .int, 2) := by decide +kernel
theorem dX7_init_17 : decode cX7_init 17 = .ok (.putfield 15, 3) := by decide +kernel
theorem dX7_init_20 : decode cX7_init 20 = .ok (.aload_n 0, 1) := by decide +kernel
theorem dX7_init_21 : decode cX7_init 21 = .ok (.bipush 8, 2) := by decide +kernel
theorem dX7_init_23 : decode cX7_init 23 = .ok (.newarray .int, 2) := by decide +kernel
theorem dX7_init_25 : decode cX7_init 25 = .ok (.putfield 18, 3) := by decide +kernel
theorem dX7_init_28 : decode cX7_init 28 = .ok (.aload_n 0, 1) := by decide +kernel
theorem dX7_init_29 : decode cX7_init 29 = .ok (.bipush 8, 2) := by decide +kernel
theorem dX7_init_31 : decode cX7_init 31 = .ok (.newarray .int, 2) := by decide +kernel
theorem dX7_init_33 : decode cX7_init 33 = .ok (.putfield 21, 3) := by decide +kernel
theorem dX7_init_36 : decode cX7_init 36 = .ok (.return_, 1) := by decide +kernel
theorem dX7_add_0 : decode cX7_add 0 = .ok (.aload_n 0, 1) := by decide +kernel
theorem dX7_add_1 : decode cX7_add 1 = .ok (.getfield 24, 3) := by decide +kernel
theorem dX7_add_4 : decode cX7_add 4 = .ok (.bipush 8, 2) := by decide +kernel
theorem dX7_add_6 : decode cX7_add 6 = .ok (.if_icmp .lt 6, 3) := by decide +kernel
theorem dX7_add_9 : decode cX7_add 9 = .ok (.bipush (-3), 2) := by decide +kernel
theorem dX7_add_11 : decode cX7_add 11 = .ok (.ireturn, 1) := by decide +kernel
theorem dX7_add_12 : decode cX7_add 12 = .ok (.aload_n 0, 1) := by decide +kernel
theorem dX7_add_13 : decode cX7_add 13 = .ok (.getfield 9, 3) := by decide +kernel
theorem dX7_add_16 : decode cX7_add 16 = .ok (.aload_n 0, 1) := by decide +kernel
theorem dX7_add_17 : decode cX7_add 17 = .ok (.getfield 24, 3) := by decide +kernel
theorem dX7_add_20 : decode cX7_add 20 = .ok (.iload_n 1, 1) := by decide +kernel
theorem dX7_add_21 : decode cX7_add 21 = .ok (.iastore, 1) := by decide +kernel
theorem dX7_add_22 : decode cX7_add 22 = .ok (.aload_n 0, 1) := by decide +kernel
theorem dX7_add_23 : decode cX7_add 23 = .ok (.getfield 15, 3) := by decide +kernel
theorem dX7_add_26 : decode cX7_add 26 = .ok (.aload_n 0, 1) := by decide +kernel
theorem dX7_add_27 : decode cX7_add 27 = .ok (.getfield 24, 3) := by decide +kernel
theorem dX7_add_30 : decode cX7_add 30 = .ok (.iload_n 2, 1) := by decide +kernel
theorem dX7_add_31 : decode cX7_add 31 = .ok (.iastore, 1) := by decide +kernel
theorem dX7_add_32 : decode cX7_add 32 = .ok (.aload_n 0, 1) := by decide +kernel
theorem dX7_add_33 : decode cX7_add 33 = .ok (.getfield 18, 3) := by decide +kernel
theorem dX7_add_36 : decode cX7_add 36 = .ok (.aload_n 0, 1) := by decide +kernel
theorem dX7_add_37 : decode cX7_add 37 = .ok (.getfield 24, 3) := by decide +kernel
theorem dX7_add_40 : decode cX7_add 40 = .ok (.iload_n 3, 1) := by decide +kernel
theorem dX7_add_41 : decode cX7_add 41 = .ok (.iastore, 1) := by decide +kernel
theorem dX7_add_42 : decode cX7_add 42 = .ok (.aload_n 0, 1) := by decide +kernel
theorem dX7_add_43 : decode cX7_add 43 = .ok (.getfield 21, 3) := by decide +kernel
theorem dX7_add_46 : decode cX7_add 46 = .ok (.aload_n 0, 1) := by decide +kernel
theorem dX7_add_47 : decode cX7_add 47 = .ok (.getfield 24, 3) := by decide +kernel
theorem dX7_add_50 : decode cX7_add 50 = .ok (.iload 4, 2) := by decide +kernel
theorem dX7_add_52 : decode cX7_add 52 = .ok (.iastore, 1) := by decide +kernel
theorem dX7_add_53 : decode cX7_add 53 = .ok (.aload_n 0, 1) := by decide +kernel
theorem dX7_add_54 : decode cX7_add 54 = .ok (.dup, 1) := by decide +kernel
theorem dX7_add_55 : decode cX7_add 55 = .ok (.getfield 24, 3) := by decide +kernel
theorem dX7_add_58 : decode cX7_add 58 = .ok (.dup_x1, 1) := by decide +kernel
theorem dX7_add_59 : decode cX7_add 59 = .ok (.iconst 1, 1) := by decide +kernel
theorem dX7_add_60 : decode cX7_add 60 = .ok (.iadd, 1) := by decide +kernel
theorem dX7_add_61 : decode cX7_add 61 = .ok (.putfield 24, 3) := by decide +kernel
theorem dX7_add_64 : decode cX7_add 64 = .ok (.ireturn, 1) := by decide +kernel
theorem dX7_has_0 : decode cX7_has 0 = .ok (.iload_n 1, 1) := by decide +kernel
theorem dX7_has_1 : decode cX7_has 1 = .ok (.ifCond .lt 15, 3) := by decide +kernel
theorem dX7_has_4 : decode cX7_has 4 = .ok (.iload_n 1, 1) := by decide +kernel
theorem dX7_has_5 : decode cX7_has 5 = .ok (.aload_n 0, 1) := by decide +kernel
theorem dX7_has_6 : decode cX7_has 6 = .ok (.getfield 24, 3) := by decide +kernel
theorem dX7_has_9 : decode cX7_has 9 = .ok (.if_icmp .ge 7, 3) := by decide +kernel
theorem dX7_has_12 : decode cX7_has 12 = .ok (.iconst 1, 1) := by decide +kernel
theorem dX7_has_13 : decode cX7_has 13 = .ok (.goto 4, 3) := by decide +kernel
theorem dX7_has_16 : decode cX7_has 16 = .ok (.iconst 0, 1) := by decide +kernel
theorem dX7_has_17 : decode cX7_has 17 = .ok (.ireturn, 1) := by decide +kernel
theorem dX8_init_0 : decode cX8_init 0 = .ok (.aload_n 0, 1) := by decide +kernel
theorem dX8_init_1 : decode cX8_init 1 = .ok (.invokespecial 3, 3) := by decide +kernel
theorem dX8_init_4 : decode cX8_init 4 = .ok (.aload_n 0, 1) := by decide +kernel
theorem dX8_init_5 : decode cX8_init 5 = .ok (.iconst 3, 1) := by decide +kernel
theorem dX8_init_6 : decode cX8_init 6 = .ok (.bipush 6, 2) := by decide +kernel
theorem dX8_init_8 : decode cX8_init 8 = .ok (.multianewarray 9 2, 4) := by decide +kernel
theorem dX8_init_12 : decode cX8_init 12 = .ok (.putfield 11, 3) := by decide +kernel
theorem dX8_init_15 : decode cX8_init 15 = .ok (.return_, 1) := by decide +kernel
theorem dX8_add_0 : decode cX8_add 0 = .ok (.aload_n 0, 1) := by decide +kernel
theorem dX8_add_1 : decode cX8_add 1 = .ok (.getfield 16, 3) := by decide +kernel
theorem dX8_add_4 : decode cX8_add 4 = .ok (.iconst 3, 1) := by decide +kernel
theorem dX8_add_5 : decode cX8_add 5 = .ok (.if_icmp .lt 8, 3) := by decide +kernel
theorem dX8_add_8 : decode cX8_add 8 = .ok (.bipush (-3), 2) := by decide +kernel
theorem dX8_add_10 : decode cX8_add 10 = .ok (.goto 14, 3) := by decide +kernel
theorem dX8_add_13 : decode cX8_add 13 = .ok (.aload_n 0, 1) := by decide +kernel
theorem dX8_add_14 : decode cX8_add 14 = .ok (.dup, 1) := by decide +kernel
theorem dX8_add_15 : decode cX8_add 15 = .ok (.getfield 16, 3) := by decide +kernel
theorem dX8_add_18 : decode cX8_add 18 = .ok (.dup_x1, 1) := by decide +kernel
theorem dX8_add_19 : decode cX8_add 19 = .ok (.iconst 1, 1) := by decide +kernel
theorem dX8_add_20 : decode cX8_add 20 = .ok (.iadd, 1) := by decide +kernel
theorem dX8_add_21 : decode cX8_add 21 = .ok (.putfield 16, 3) := by decide +kernel
theorem dX8_add_24 : decode cX8_add 24 = .ok (.ireturn, 1) := by decide +kernel
theorem dX8_has_0 : decode cX8_has 0 = .ok (.iload_n 1, 1) := by decide +kernel
theorem dX8_has_1 : decode cX8_has 1 = .ok (.ifCond .lt 15, 3) := by decide +kernel
theorem dX8_has_4 : decode cX8_has 4 = .ok (.iload_n 1, 1) := by decide +kernel
theorem dX8_has_5 : decode cX8_has 5 = .ok (.aload_n 0, 1) := by decide +kernel
theorem dX8_has_6 : decode cX8_has 6 = .ok (.getfield 16, 3) := by decide +kernel
theorem dX8_has_9 : decode cX8_has 9 = .ok (.if_icmp .ge 7, 3) := by decide +kernel
theorem dX8_has_12 : decode cX8_has 12 = .ok (.iconst 1, 1) := by decide +kernel
theorem dX8_has_13 : decode cX8_has 13 = .ok (.goto 4, 3) := by decide +kernel
theorem dX8_has_16 : decode cX8_has 16 = .ok (.iconst 0, 1) := by decide +kernel
theorem dX8_has_17 : decode cX8_has 17 = .ok (.ireturn, 1) := by decide +kernel
theorem dX8_tried_0 : decode cX8_tried 0 = .ok (.aload_n 0, 1) := by decide +kernel
theorem dX8_tried_1 : decode cX8_tried 1 = .ok (.getfield 16, 3) := by decide +kernel
theorem dX8_tried_4 : decode cX8_tried 4 = .ok (.iconst 1, 1) := by decide +kernel
theorem dX8_tried_5 : decode cX8_tried 5 = .ok (.invokestatic 20, 3) := by decide +kernel
theorem dX8_tried_8 : decode cX8_tried 8 = .ok (.ireturn, 1) := by decide +kernel
theorem dX9_init_0 : decode cX9_init 0 = .ok (.aload_n 0, 1) := by decide +kernel
theorem dX9_init_1 : decode cX9_init 1 = .ok (.invokespecial 3, 3) := by decide +kernel
theorem dX9_init_4 : decode cX9_init 4 = .ok (.aload_n 0, 1) := by decide +kernel
theorem dX9_init_5 : decode cX9_init 5 = .ok (.new 9, 3) := by decide +kernel
theorem dX9_init_8 : decode cX9_init 8 = .ok (.dup, 1) := by decide +kernel
theorem dX9_init_9 : decode cX9_init 9 = .ok (.invokespecial 11, 3) := by decide +kernel
theorem dX9_init_12 : decode cX9_init 12 = .ok (.putfield 12, 3) := by decide +kernel
theorem dX9_init_15 : decode cX9_init 15 = .ok (.aload_n 0, 1) := by decide +kernel
theorem dX9_init_16 : decode cX9_init 16 = .ok (.new 16, 3) := by decide +kernel
theorem dX9_init_19 : decode cX9_init 19 = .ok (.dup, 1) := by decide +kernel
theorem dX9_init_20 : decode cX9_init 20 = .ok (.invokespecial 18, 3) := by decide +kernel
theorem dX9_init_23 : decode cX9_init 23 = .ok (.putfield 19, 3) := by decide +kernel
theorem dX9_init_26 : decode cX9_init 26 = .ok (.aload_n 0, 1) := by decide +kernel
theorem dX9_init_27 : decode cX9_init 27 = .ok (.new 23, 3) := by decide +kernel
theorem dX9_init_30 : decode cX9_init 30 = .ok (.dup, 1) := by decide +kernel
theorem dX9_init_31 : decode cX9_init 31 = .ok (.aload_n 0, 1) := by decide +kernel
theorem dX9_init_32 : decode cX9_init 32 = .ok (.getfield 12, 3) := by decide +kernel
theorem dX9_init_35 : decode cX9_init 35 = .ok (.aload_n 0, 1) := by decide +kernel
theorem dX9_init_36 : decode cX9_init 36 = .ok (.getfield 19, 3) := by decide +kernel
theorem dX9_init_39 : decode cX9_init 39 = .ok (.invokespecial 25, 3) := by decide +kernel
theorem dX9_init_42 : decode cX9_init 42 = .ok (.putfield 28, 3) := by decide +kernel
theorem dX9_init_45 : decode cX9_init 45 = .ok (.aload_n 0, 1) := by decide +kernel
theorem dX9_init_46 : decode cX9_init 46 = .ok (.new 32, 3) := by decide +kernel
theorem dX9_init_49 : decode cX9_init 49 = .ok (.dup, 1) := by decide +kernel
theorem dX9_init_50 : decode cX9_init 50 = .ok (.invokespecial 34, 3) := by decide +kernel
theorem dX9_init_53 : decode cX9_init 53 = .ok (.putfield 35, 3) := by decide +kernel
theorem dX9_init_56 : decode cX9_init 56 = .ok (.return_, 1) := by decide +kernel
theorem dX9_ditch_0 : decode cX9_ditch 0 = .ok (.iload_n 1, 1) := by decide +kernel
theorem dX9_ditch_1 : decode cX9_ditch 1 = .ok (.iconst 1, 1) := by decide +kernel
theorem dX9_ditch_2 : decode cX9_ditch 2 = .ok (.bipush 50, 2) := by decide +kernel
theorem dX9_ditch_4 : decode cX9_ditch 4 = .ok (.invokestatic 39, 3) := by decide +kernel
theorem dX9_ditch_7 : decode cX9_ditch 7 = .ok (.ifCond .eq 20, 3) := by decide +kernel
theorem dX9_ditch_10 : decode cX9_ditch 10 = .ok (.iload_n 2, 1) := by decide +kernel
theorem dX9_ditch_11 : decode cX9_ditch 11 = .ok (.invokestatic 43, 3) := by decide +kernel
theorem dX9_ditch_14 : decode cX9_ditch 14 = .ok (.ifCond .eq 13, 3) := by decide +kernel
theorem dX9_ditch_17 : decode cX9_ditch 17 = .ok (.iload_n 3, 1) := by decide +kernel
theorem dX9_ditch_18 : decode cX9_ditch 18 = .ok (.iconst 0, 1) := by decide +kernel
theorem dX9_ditch_19 : decode cX9_ditch 19 = .ok (.ldc 47, 2) := by decide +kernel
theorem dX9_ditch_21 : decode cX9_ditch 21 = .ok (.invokestatic 39, 3) := by decide +kernel
theorem dX9_ditch_24 : decode cX9_ditch 24 = .ok (.ifCond .ne 5, 3) := by decide +kernel
theorem dX9_ditch_27 : decode cX9_ditch 27 = .ok (.iconst (-1), 1) := by decide +kernel
theorem dX9_ditch_28 : decode cX9_ditch 28 = .ok (.ireturn, 1) := by decide +kernel
theorem dX9_ditch_29 : decode cX9_ditch 29 = .ok (.aload_n 0, 1) := by decide +kernel
theorem dX9_ditch_30 : decode cX9_ditch 30 = .ok (.getfield 12, 3) := by decide +kernel
theorem dX9_ditch_33 : decode cX9_ditch 33 = .ok (.getfield 48, 3) := by decide +kernel
theorem dX9_ditch_36 : decode cX9_ditch 36 = .ok (.iload_n 1, 1) := by decide +kernel
theorem dX9_ditch_37 : decode cX9_ditch 37 = .ok (.iload_n 2, 1) := by decide +kernel
theorem dX9_ditch_38 : decode cX9_ditch 38 = .ok (.iload_n 3, 1) := by decide +kernel
theorem dX9_ditch_39 : decode cX9_ditch 39 = .ok (.invokevirtual 52, 3) := by decide +kernel
theorem dX9_ditch_42 : decode cX9_ditch 42 = .ok (.ireturn, 1) := by decide +kernel
theorem dX9_band_0 : decode cX9_band 0 = .ok (.aload_n 0, 1) := by decide +kernel
theorem dX9_band_1 : decode cX9_band 1 = .ok (.getfield 12, 3) := by decide +kernel
theorem dX9_band_4 : decode cX9_band 4 = .ok (.getfield 48, 3) := by decide +kernel
theorem dX9_band_7 : decode cX9_band 7 = .ok (.iload_n 1, 1) := by decide +kernel
theorem dX9_band_8 : decode cX9_band 8 = .ok (.invokevirtual 58, 3) := by decide +kernel
theorem dX9_band_11 : decode cX9_band 11 = .ok (.ifCond .eq 27, 3) := by decide +kernel
theorem dX9_band_14 : decode cX9_band 14 = .ok (.iload_n 2, 1) := by decide +kernel
theorem dX9_band_15 : decode cX9_band 15 = .ok (.sipush (-1000), 3) := by decide +kernel
theorem dX9_band_18 : decode cX9_band 18 = .ok (.sipush 1000, 3) := by decide +kernel
theorem dX9_band_21 : decode cX9_band 21 = .ok (.invokestatic 39, 3) := by decide +kernel
theorem dX9_band_24 : decode cX9_band 24 = .ok (.ifCond .eq 14, 3) := by decide +kernel
theorem dX9_band_27 : decode cX9_band 27 = .ok (.iload_n 3, 1) := by decide +kernel
theorem dX9_band_28 : decode cX9_band 28 = .ok (.iload_n 2, 1) := by decide +kernel
theorem dX9_band_29 : decode cX9_band 29 = .ok (.sipush 1000, 3) := by decide +kernel
theorem dX9_band_32 : decode cX9_band 32 = .ok (.invokestatic 39, 3) := by decide +kernel
theorem dX9_band_35 : decode cX9_band 35 = .ok (.ifCond .ne 5, 3) := by decide +kernel
theorem dX9_band_38 : decode cX9_band 38 = .ok (.iconst (-1), 1) := by decide +kernel
theorem dX9_band_39 : decode cX9_band 39 = .ok (.ireturn, 1) := by decide +kernel
theorem dX9_band_40 : decode cX9_band 40 = .ok (.aload_n 0, 1) := by decide +kernel
theorem dX9_band_41 : decode cX9_band 41 = .ok (.getfield 12, 3) := by decide +kernel
theorem dX9_band_44 : decode cX9_band 44 = .ok (.getfield 48, 3) := by decide +kernel
theorem dX9_band_47 : decode cX9_band 47 = .ok (.getfield 61, 3) := by decide +kernel
theorem dX9_band_50 : decode cX9_band 50 = .ok (.iload_n 1, 1) := by decide +kernel
theorem dX9_band_51 : decode cX9_band 51 = .ok (.iload_n 2, 1) := by decide +kernel
theorem dX9_band_52 : decode cX9_band 52 = .ok (.iastore, 1) := by decide +kernel
theorem dX9_band_53 : decode cX9_band 53 = .ok (.aload_n 0, 1) := by decide +kernel
theorem dX9_band_54 : decode cX9_band 54 = .ok (.getfield 12, 3) := by decide +kernel
theorem dX9_band_57 : decode cX9_band 57 = .ok (.getfield 48, 3) := by decide +kernel
theorem dX9_band_60 : decode cX9_band 60 = .ok (.getfield 65, 3) := by decide +kernel
theorem dX9_band_63 : decode cX9_band 63 = .ok (.iload_n 1, 1) := by decide +kernel
theorem dX9_band_64 : decode cX9_band 64 = .ok (.iload_n 3, 1) := by decide +kernel
theorem dX9_band_65 : decode cX9_band 65 = .ok (.iastore, 1) := by decide +kernel
theorem dX9_band_66 : decode cX9_band 66 = .ok (.iconst 1, 1) := by decide +kernel
theorem dX9_band_67 : decode cX9_band 67 = .ok (.ireturn, 1) := by decide +kernel
theorem dX9_told_0 : decode cX9_told 0 = .ok (.aload_n 0, 1) := by decide +kernel
theorem dX9_told_1 : decode cX9_told 1 = .ok (.getfield 12, 3) := by decide +kernel
theorem dX9_told_4 : decode cX9_told 4 = .ok (.getfield 48, 3) := by decide +kernel
theorem dX9_told_7 : decode cX9_told 7 = .ok (.astore_n 3, 1) := by decide +kernel
theorem dX9_told_8 : decode cX9_told 8 = .ok (.aload_n 3, 1) := by decide +kernel
theorem dX9_told_9 : decode cX9_told 9 = .ok (.iload_n 1, 1) := by decide +kernel
theorem dX9_told_10 : decode cX9_told 10 = .ok (.invokevirtual 58, 3) := by decide +kernel
theorem dX9_told_13 : decode cX9_told 13 = .ok (.ifCond .ne 6, 3) := by decide +kernel
theorem dX9_told_16 : decode cX9_told 16 = .ok (.ldc 68, 2) := by decide +kernel
theorem dX9_told_18 : decode cX9_told 18 = .ok (.ireturn, 1) := by decide +kernel
theorem dX9_told_19 : decode cX9_told 19 = .ok (.iload_n 2, 1) := by decide +kernel
theorem dX9_told_20 : decode cX9_told 20 = .ok (.tableswitch 77 0 4 #[36, 43, 53, 63, 70], 36) := by decide +kernel
theorem dX9_told_56 : decode cX9_told 56 = .ok (.aload_n 3, 1) := by decide +kernel
theorem dX9_told_57 : decode cX9_told 57 = .ok (.getfield 69, 3) := by decide +kernel
theorem dX9_told_60 : decode cX9_told 60 = .ok (.iload_n 1, 1) := by decide +kernel
theorem dX9_told_61 : decode cX9_told 61 = .ok (.iaload, 1) := by decide +kernel
theorem dX9_told_62 : decode cX9_told 62 = .ok (.ireturn, 1) := by decide +kernel
theorem dX9_told_63 : decode cX9_told 63 = .ok (.aload_n 3, 1) := by decide +kernel
theorem dX9_told_64 : decode cX9_told 64 = .ok (.iload_n 1, 1) := by decide +kernel
theorem dX9_told_65 : decode cX9_told 65 = .ok (.aload_n 3, 1) := by decide +kernel
theorem dX9_told_66 : decode cX9_told 66 = .ok (.getfield 69, 3) := by decide +kernel
theorem dX9_told_69 : decode cX9_told 69 = .ok (.invokevirtual 72, 3) := by decide +kernel
theorem dX9_told_72 : decode cX9_told 72 = .ok (.ireturn, 1) := by decide +kernel
theorem dX9_told_73 : decode cX9_told 73 = .ok (.aload_n 3, 1) := by decide +kernel
theorem dX9_told_74 : decode cX9_told 74 = .ok (.iload_n 1, 1) := by decide +kernel
theorem dX9_told_75 : decode cX9_told 75 = .ok (.aload_n 3, 1) := by decide +kernel
theorem dX9_told_76 : decode cX9_told 76 = .ok (.getfield 69, 3) := by decide +kernel
theorem dX9_told_79 : decode cX9_told 79 = .ok (.invokevirtual 76, 3) := by decide +kernel
theorem dX9_told_82 : decode cX9_told 82 = .ok (.ireturn, 1) := by decide +kernel
theorem dX9_told_83 : decode cX9_told 83 = .ok (.aload_n 3, 1) := by decide +kernel
theorem dX9_told_84 : decode cX9_told 84 = .ok (.getfield 79, 3) := by decide +kernel
theorem dX9_told_87 : decode cX9_told 87 = .ok (.iload_n 1, 1) := by decide +kernel
theorem dX9_told_88 : decode cX9_told 88 = .ok (.iaload, 1) := by decide +kernel
theorem dX9_told_89 : decode cX9_told 89 = .ok (.ireturn, 1) := by decide +kernel
theorem dX9_told_90 : decode cX9_told 90 = .ok (.aload_n 3, 1) := by decide +kernel
theorem dX9_told_91 : decode cX9_told 91 = .ok (.getfield 82, 3) := by decide +kernel
theorem dX9_told_94 : decode cX9_told 94 = .ok (.iload_n 1, 1) := by decide +kernel
theorem dX9_told_95 : decode cX9_told 95 = .ok (.iaload, 1) := by decide +kernel
theorem dX9_told_96 : decode cX9_told 96 = .ok (.ireturn, 1) := by decide +kernel
theorem dX9_told_97 : decode cX9_told 97 = .ok (.ldc 68, 2) := by decide +kernel
theorem dX9_told_99 : decode cX9_told 99 = .ok (.ireturn, 1) := by decide +kernel
theorem dX9_weir_0 : decode cX9_weir 0 = .ok (.aload_n 0, 1) := by decide +kernel
theorem dX9_weir_1 : decode cX9_weir 1 = .ok (.getfield 12, 3) := by decide +kernel
theorem dX9_weir_4 : decode cX9_weir 4 = .ok (.getfield 48, 3) := by decide +kernel
theorem dX9_weir_7 : decode cX9_weir 7 = .ok (.iload_n 1, 1) := by decide +kernel
theorem dX9_weir_8 : decode cX9_weir 8 = .ok (.invokevirtual 58, 3) := by decide +kernel
theorem dX9_weir_11 : decode cX9_weir 11 = .ok (.ifCond .eq 22, 3) := by decide +kernel
theorem dX9_weir_14 : decode cX9_weir 14 = .ok (.aload_n 0, 1) := by decide +kernel
theorem dX9_weir_15 : decode cX9_weir 15 = .ok (.getfield 12, 3) := by decide +kernel
theorem dX9_weir_18 : decode cX9_weir 18 = .ok (.getfield 48, 3) := by decide +kernel
theorem dX9_weir_21 : decode cX9_weir 21 = .ok (.iload_n 2, 1) := by decide +kernel
theorem dX9_weir_22 : decode cX9_weir 22 = .ok (.invokevirtual 58, 3) := by decide +kernel
theorem dX9_weir_25 : decode cX9_weir 25 = .ok (.ifCond .eq 8, 3) := by decide +kernel
theorem dX9_weir_28 : decode cX9_weir 28 = .ok (.iload_n 1, 1) := by decide +kernel
theorem dX9_weir_29 : decode cX9_weir 29 = .ok (.iload_n 2, 1) := by decide +kernel
theorem dX9_weir_30 : decode cX9_weir 30 = .ok (.if_icmp .ne 5, 3) := by decide +kernel
theorem dX9_weir_33 : decode cX9_weir 33 = .ok (.iconst (-1), 1) := by decide +kernel
theorem dX9_weir_34 : decode cX9_weir 34 = .ok (.ireturn, 1) := by decide +kernel
theorem dX9_weir_35 : decode cX9_weir 35 = .ok (.iload_n 3, 1) := by decide +kernel
theorem dX9_weir_36 : decode cX9_weir 36 = .ok (.invokestatic 43, 3) := by decide +kernel
theorem dX9_weir_39 : decode cX9_weir 39 = .ok (.ifCond .eq 14, 3) := by decide +kernel
theorem dX9_weir_42 : decode cX9_weir 42 = .ok (.iload 4, 2) := by decide +kernel
theorem dX9_weir_44 : decode cX9_weir 44 = .ok (.iconst 1, 1) := by decide +kernel
theorem dX9_weir_45 : decode cX9_weir 45 = .ok (.bipush 50, 2) := by decide +kernel
theorem dX9_weir_47 : decode cX9_weir 47 = .ok (.invokestatic 39, 3) := by decide +kernel
theorem dX9_weir_50 : decode cX9_weir 50 = .ok (.ifCond .ne 5, 3) := by decide +kernel
theorem dX9_weir_53 : decode cX9_weir 53 = .ok (.iconst (-1), 1) := by decide +kernel
theorem dX9_weir_54 : decode cX9_weir 54 = .ok (.ireturn, 1) := by decide +kernel
theorem dX9_weir_55 : decode cX9_weir 55 = .ok (.aload_n 0, 1) := by decide +kernel
theorem dX9_weir_56 : decode cX9_weir 56 = .ok (.getfield 12, 3) := by decide +kernel
theorem dX9_weir_59 : decode cX9_weir 59 = .ok (.getfield 85, 3) := by decide +kernel
theorem dX9_weir_62 : decode cX9_weir 62 = .ok (.iload_n 1, 1) := by decide +kernel
theorem dX9_weir_63 : decode cX9_weir 63 = .ok (.iload_n 2, 1) := by decide +kernel
theorem dX9_weir_64 : decode cX9_weir 64 = .ok (.iload_n 3, 1) := by decide +kernel
theorem dX9_weir_65 : decode cX9_weir 65 = .ok (.iload 4, 2) := by decide +kernel
theorem dX9_weir_67 : decode cX9_weir 67 = .ok (.invokevirtual 89, 3) := by decide +kernel
theorem dX9_weir_70 : decode cX9_weir 70 = .ok (.ireturn, 1) := by decide +kernel
theorem dX9_pump_0 : decode cX9_pump 0 = .ok (.aload_n 0, 1) := by decide +kernel
theorem dX9_pump_1 : decode cX9_pump 1 = .ok (.getfield 12, 3) := by decide +kernel
theorem dX9_pump_4 : decode cX9_pump 4 = .ok (.getfield 48, 3) := by decide +kernel
theorem dX9_pump_7 : decode cX9_pump 7 = .ok (.iload_n 1, 1) := by decide +kernel
theorem dX9_pump_8 : decode cX9_pump 8 = .ok (.invokevirtual 58, 3) := by decide +kernel
theorem dX9_pump_11 : decode cX9_pump 11 = .ok (.ifCond .eq 28, 3) := by decide +kernel
theorem dX9_pump_14 : decode cX9_pump 14 = .ok (.iload_n 2, 1) := by decide +kernel
theorem dX9_pump_15 : decode cX9_pump 15 = .ok (.bipush (-4), 2) := by decide +kernel
theorem dX9_pump_17 : decode cX9_pump 17 = .ok (.if_icmp .eq 17, 3) := by decide +kernel
theorem dX9_pump_20 : decode cX9_pump 20 = .ok (.aload_n 0, 1) := by decide +kernel
theorem dX9_pump_21 : decode cX9_pump 21 = .ok (.getfield 12, 3) := by decide +kernel
theorem dX9_pump_24 : decode cX9_pump 24 = .ok (.getfield 48, 3) := by decide +kernel
theorem dX9_pump_27 : decode cX9_pump 27 = .ok (.iload_n 2, 1) := by decide +kernel
theorem dX9_pump_28 : decode cX9_pump 28 = .ok (.invokevirtual 58, 3) := by decide +kernel
theorem dX9_pump_31 : decode cX9_pump 31 = .ok (.ifCond .eq 8, 3) := by decide +kernel
theorem dX9_pump_34 : decode cX9_pump 34 = .ok (.iload_n 1, 1) := by decide +kernel
theorem dX9_pump_35 : decode cX9_pump 35 = .ok (.iload_n 2, 1) := by decide +kernel
theorem dX9_pump_36 : decode cX9_pump 36 = .ok (.if_icmp .ne 5, 3) := by decide +kernel
theorem dX9_pump_39 : decode cX9_pump 39 = .ok (.iconst (-1), 1) := by decide +kernel
theorem dX9_pump_40 : decode cX9_pump 40 = .ok (.ireturn, 1) := by decide +kernel
theorem dX9_pump_41 : decode cX9_pump 41 = .ok (.iload_n 3, 1) := by decide +kernel
theorem dX9_pump_42 : decode cX9_pump 42 = .ok (.iconst 1, 1) := by decide +kernel
theorem dX9_pump_43 : decode cX9_pump 43 = .ok (.sipush 1000, 3) := by decide +kernel
theorem dX9_pump_46 : decode cX9_pump 46 = .ok (.invokestatic 39, 3) := by decide +kernel
theorem dX9_pump_49 : decode cX9_pump 49 = .ok (.ifCond .eq 25, 3) := by decide +kernel
theorem dX9_pump_52 : decode cX9_pump 52 = .ok (.iload 4, 2) := by decide +kernel
theorem dX9_pump_54 : decode cX9_pump 54 = .ok (.iconst 1, 1) := by decide +kernel
theorem dX9_pump_55 : decode cX9_pump 55 = .ok (.bipush 6, 2) := by decide +kernel
theorem dX9_pump_57 : decode cX9_pump 57 = .ok (.invokestatic 39, 3) := by decide +kernel
theorem dX9_pump_60 : decode cX9_pump 60 = .ok (.ifCond .eq 14, 3) := by decide +kernel
theorem dX9_pump_63 : decode cX9_pump 63 = .ok (.iload 5, 2) := by decide +kernel
theorem dX9_pump_65 : decode cX9_pump 65 = .ok (.iconst 0, 1) := by decide +kernel
theorem dX9_pump_66 : decode cX9_pump 66 = .ok (.ldc 94, 2) := by decide +kernel
theorem dX9_pump_68 : decode cX9_pump 68 = .ok (.invokestatic 39, 3) := by decide +kernel
theorem dX9_pump_71 : decode cX9_pump 71 = .ok (.ifCond .ne 5, 3) := by decide +kernel
theorem dX9_pump_74 : decode cX9_pump 74 = .ok (.iconst (-1), 1) := by decide +kernel
theorem dX9_pump_75 : decode cX9_pump 75 = .ok (.ireturn, 1) := by decide +kernel
theorem dX9_pump_76 : decode cX9_pump 76 = .ok (.aload_n 0, 1) := by decide +kernel
theorem dX9_pump_77 : decode cX9_pump 77 = .ok (.getfield 12, 3) := by decide +kernel
theorem dX9_pump_80 : decode cX9_pump 80 = .ok (.getfield 95, 3) := by decide +kernel
theorem dX9_pump_83 : decode cX9_pump 83 = .ok (.iload_n 1, 1) := by decide +kernel
theorem dX9_pump_84 : decode cX9_pump 84 = .ok (.iload_n 2, 1) := by decide +kernel
theorem dX9_pump_85 : decode cX9_pump 85 = .ok (.iload_n 3, 1) := by decide +kernel
theorem dX9_pump_86 : decode cX9_pump 86 = .ok (.iload 4, 2) := by decide +kernel
theorem dX9_pump_88 : decode cX9_pump 88 = .ok (.iload 5, 2) := by decide +kernel
theorem dX9_pump_90 : decode cX9_pump 90 = .ok (.invokevirtual 99, 3) := by decide +kernel
theorem dX9_pump_93 : decode cX9_pump 93 = .ok (.ireturn, 1) := by decide +kernel
theorem dX9_sluice_0 : decode cX9_sluice 0 = .ok (.aload_n 0, 1) := by decide +kernel
theorem dX9_sluice_1 : decode cX9_sluice 1 = .ok (.getfield 12, 3) := by decide +kernel
theorem dX9_sluice_4 : decode cX9_sluice 4 = .ok (.getfield 48, 3) := by decide +kernel
theorem dX9_sluice_7 : decode cX9_sluice 7 = .ok (.iload_n 1, 1) := by decide +kernel
theorem dX9_sluice_8 : decode cX9_sluice 8 = .ok (.invokevirtual 58, 3) := by decide +kernel
theorem dX9_sluice_11 : decode cX9_sluice 11 = .ok (.ifCond .eq 13, 3) := by decide +kernel
theorem dX9_sluice_14 : decode cX9_sluice 14 = .ok (.iload_n 2, 1) := by decide +kernel
theorem dX9_sluice_15 : decode cX9_sluice 15 = .ok (.iconst 1, 1) := by decide +kernel
theorem dX9_sluice_16 : decode cX9_sluice 16 = .ok (.bipush 50, 2) := by decide +kernel
theorem dX9_sluice_18 : decode cX9_sluice 18 = .ok (.invokestatic 39, 3) := by decide +kernel
theorem dX9_sluice_21 : decode cX9_sluice 21 = .ok (.ifCond .ne 5, 3) := by decide +kernel
theorem dX9_sluice_24 : decode cX9_sluice 24 = .ok (.iconst (-1), 1) := by decide +kernel
theorem dX9_sluice_25 : decode cX9_sluice 25 = .ok (.ireturn, 1) := by decide +kernel
theorem dX9_sluice_26 : decode cX9_sluice 26 = .ok (.aload_n 0, 1) := by decide +kernel
theorem dX9_sluice_27 : decode cX9_sluice 27 = .ok (.getfield 12, 3) := by decide +kernel
theorem dX9_sluice_30 : decode cX9_sluice 30 = .ok (.getfield 104, 3) := by decide +kernel
theorem dX9_sluice_33 : decode cX9_sluice 33 = .ok (.iload_n 1, 1) := by decide +kernel
theorem dX9_sluice_34 : decode cX9_sluice 34 = .ok (.iload_n 2, 1) := by decide +kernel
theorem dX9_sluice_35 : decode cX9_sluice 35 = .ok (.invokevirtual 108, 3) := by decide +kernel
theorem dX9_sluice_38 : decode cX9_sluice 38 = .ok (.ireturn, 1) := by decide +kernel
theorem dX9_turn_0 : decode cX9_turn 0 = .ok (.aload_n 0, 1) := by decide +kernel
theorem dX9_turn_1 : decode cX9_turn 1 = .ok (.getfield 12, 3) := by decide +kernel
theorem dX9_turn_4 : decode cX9_turn 4 = .ok (.getfield 95, 3) := by decide +kernel
theorem dX9_turn_7 : decode cX9_turn 7 = .ok (.astore_n 3, 1) := by decide +kernel
theorem dX9_turn_8 : decode cX9_turn 8 = .ok (.aload_n 3, 1) := by decide +kernel
theorem dX9_turn_9 : decode cX9_turn 9 = .ok (.iload_n 1, 1) := by decide +kernel
theorem dX9_turn_10 : decode cX9_turn 10 = .ok (.invokevirtual 113, 3) := by decide +kernel
theorem dX9_turn_13 : decode cX9_turn 13 = .ok (.ifCond .ne 5, 3) := by decide +kernel
theorem dX9_turn_16 : decode cX9_turn 16 = .ok (.iconst (-1), 1) := by decide +kernel
theorem dX9_turn_17 : decode cX9_turn 17 = .ok (.ireturn, 1) := by decide +kernel
theorem dX9_turn_18 : decode cX9_turn 18 = .ok (.iload_n 2, 1) := by decide +kernel
theorem dX9_turn_19 : decode cX9_turn 19 = .ok (.ifCond .eq 21, 3) := by decide +kernel
theorem dX9_turn_22 : decode cX9_turn 22 = .ok (.aload_n 3, 1) := by decide +kernel
theorem dX9_turn_23 : decode cX9_turn 23 = .ok (.iload_n 1, 1) := by decide +kernel
theorem dX9_turn_24 : decode cX9_turn 24 = .ok (.aload_n 0, 1) := by decide +kernel
theorem dX9_turn_25 : decode cX9_turn 25 = .ok (.getfield 12, 3) := by decide +kernel
theorem dX9_turn_28 : decode cX9_turn 28 = .ok (.getfield 114, 3) := by decide +kernel
theorem dX9_turn_31 : decode cX9_turn 31 = .ok (.invokevirtual 118, 3) := by decide +kernel
theorem dX9_turn_34 : decode cX9_turn 34 = .ok (.ifCond .eq 24, 3) := by decide +kernel
theorem dX9_turn_37 : decode cX9_turn 37 = .ok (.goto 18, 3) := by decide +kernel
theorem dX9_turn_40 : decode cX9_turn 40 = .ok (.aload_n 3, 1) := by decide +kernel
theorem dX9_turn_41 : decode cX9_turn 41 = .ok (.iload_n 1, 1) := by decide +kernel
theorem dX9_turn_42 : decode cX9_turn 42 = .ok (.aload_n 0, 1) := by decide +kernel
theorem dX9_turn_43 : decode cX9_turn 43 = .ok (.getfield 12, 3) := by decide +kernel
theorem dX9_turn_46 : decode cX9_turn 46 = .ok (.getfield 114, 3) := by decide +kernel
theorem dX9_turn_49 : decode cX9_turn 49 = .ok (.invokevirtual 122, 3) := by decide +kernel
theorem dX9_turn_52 : decode cX9_turn 52 = .ok (.ifCond .eq 6, 3) := by decide +kernel
theorem dX9_turn_55 : decode cX9_turn 55 = .ok (.bipush (-2), 2) := by decide +kernel
theorem dX9_turn_57 : decode cX9_turn 57 = .ok (.ireturn, 1) := by decide +kernel
theorem dX9_turn_58 : decode cX9_turn 58 = .ok (.aload_n 3, 1) := by decide +kernel
theorem dX9_turn_59 : decode cX9_turn 59 = .ok (.iload_n 1, 1) := by decide +kernel
theorem dX9_turn_60 : decode cX9_turn 60 = .ok (.invokevirtual 125, 3) := by decide +kernel
theorem dX9_turn_63 : decode cX9_turn 63 = .ok (.ifCond .eq 7, 3) := by decide +kernel
theorem dX9_turn_66 : decode cX9_turn 66 = .ok (.iconst 1, 1) := by decide +kernel
theorem dX9_turn_67 : decode cX9_turn 67 = .ok (.goto 4, 3) := by decide +kernel
theorem dX9_turn_70 : decode cX9_turn 70 = .ok (.iconst 0, 1) := by decide +kernel
theorem dX9_turn_71 : decode cX9_turn 71 = .ok (.istore 4, 2) := by decide +kernel
theorem dX9_turn_73 : decode cX9_turn 73 = .ok (.aload_n 3, 1) := by decide +kernel
theorem dX9_turn_74 : decode cX9_turn 74 = .ok (.iload_n 1, 1) := by decide +kernel
theorem dX9_turn_75 : decode cX9_turn 75 = .ok (.iload_n 2, 1) := by decide +kernel
theorem dX9_turn_76 : decode cX9_turn 76 = .ok (.aload_n 0, 1) := by decide +kernel
theorem dX9_turn_77 : decode cX9_turn 77 = .ok (.getfield 12, 3) := by decide +kernel
theorem dX9_turn_80 : decode cX9_turn 80 = .ok (.getfield 114, 3) := by decide +kernel
theorem dX9_turn_83 : decode cX9_turn 83 = .ok (.invokevirtual 128, 3) := by decide +kernel
theorem dX9_turn_86 : decode cX9_turn 86 = .ok (.iload 4, 2) := by decide +kernel
theorem dX9_turn_88 : decode cX9_turn 88 = .ok (.ireturn, 1) := by decide +kernel
theorem dX9_open_0 : decode cX9_open 0 = .ok (.aload_n 0, 1) := by decide +kernel
theorem dX9_open_1 : decode cX9_open 1 = .ok (.getfield 12, 3) := by decide +kernel
theorem dX9_open_4 : decode cX9_open 4 = .ok (.getfield 104, 3) := by decide +kernel
theorem dX9_open_7 : decode cX9_open 7 = .ok (.astore_n 3, 1) := by decide +kernel
theorem dX9_open_8 : decode cX9_open 8 = .ok (.aload_n 3, 1) := by decide +kernel
theorem dX9_open_9 : decode cX9_open 9 = .ok (.iload_n 1, 1) := by decide +kernel
theorem dX9_open_10 : decode cX9_open 10 = .ok (.invokevirtual 132, 3) := by decide +kernel
theorem dX9_open_13 : decode cX9_open 13 = .ok (.ifCond .ne 5, 3) := by decide +kernel
theorem dX9_open_16 : decode cX9_open 16 = .ok (.iconst (-1), 1) := by decide +kernel
theorem dX9_open_17 : decode cX9_open 17 = .ok (.ireturn, 1) := by decide +kernel
theorem dX9_open_18 : decode cX9_open 18 = .ok (.aload_n 3, 1) := by decide +kernel
theorem dX9_open_19 : decode cX9_open 19 = .ok (.getfield 133, 3) := by decide +kernel
theorem dX9_open_22 : decode cX9_open 22 = .ok (.iload_n 1, 1) := by decide +kernel
theorem dX9_open_23 : decode cX9_open 23 = .ok (.baload, 1) := by decide +kernel
theorem dX9_open_24 : decode cX9_open 24 = .ok (.ifCond .eq 7, 3) := by decide +kernel
theorem dX9_open_27 : decode cX9_open 27 = .ok (.iconst 1, 1) := by decide +kernel
theorem dX9_open_28 : decode cX9_open 28 = .ok (.goto 4, 3) := by decide +kernel
theorem dX9_open_31 : decode cX9_open 31 = .ok (.iconst 0, 1) := by decide +kernel
theorem dX9_open_32 : decode cX9_open 32 = .ok (.istore 4, 2) := by decide +kernel
theorem dX9_open_34 : decode cX9_open 34 = .ok (.aload_n 3, 1) := by decide +kernel
theorem dX9_open_35 : decode cX9_open 35 = .ok (.getfield 133, 3) := by decide +kernel
theorem dX9_open_38 : decode cX9_open 38 = .ok (.iload_n 1, 1) := by decide +kernel
theorem dX9_open_39 : decode cX9_open 39 = .ok (.iload_n 2, 1) := by decide +kernel
theorem dX9_open_40 : decode cX9_open 40 = .ok (.bastore, 1) := by decide +kernel
theorem dX9_open_41 : decode cX9_open 41 = .ok (.iload 4, 2) := by decide +kernel
theorem dX9_open_43 : decode cX9_open 43 = .ok (.ireturn, 1) := by decide +kernel
theorem dX9_tide_0 : decode cX9_tide 0 = .ok (.iload_n 1, 1) := by decide +kernel
theorem dX9_tide_1 : decode cX9_tide 1 = .ok (.invokestatic 137, 3) := by decide +kernel
theorem dX9_tide_4 : decode cX9_tide 4 = .ok (.ifCond .eq 10, 3) := by decide +kernel
theorem dX9_tide_7 : decode cX9_tide 7 = .ok (.iload_n 2, 1) := by decide +kernel
theorem dX9_tide_8 : decode cX9_tide 8 = .ok (.invokestatic 43, 3) := by decide +kernel
theorem dX9_tide_11 : decode cX9_tide 11 = .ok (.ifCond .ne 6, 3) := by decide +kernel
theorem dX9_tide_14 : decode cX9_tide 14 = .ok (.ldc 68, 2) := by decide +kernel
theorem dX9_tide_16 : decode cX9_tide 16 = .ok (.ireturn, 1) := by decide +kernel
theorem dX9_tide_17 : decode cX9_tide 17 = .ok (.aload_n 0, 1) := by decide +kernel
theorem dX9_tide_18 : decode cX9_tide 18 = .ok (.getfield 12, 3) := by decide +kernel
theorem dX9_tide_21 : decode cX9_tide 21 = .ok (.getfield 140, 3) := by decide +kernel
theorem dX9_tide_24 : decode cX9_tide 24 = .ok (.iload_n 1, 1) := by decide +kernel
theorem dX9_tide_25 : decode cX9_tide 25 = .ok (.iaload, 1) := by decide +kernel
theorem dX9_tide_26 : decode cX9_tide 26 = .ok (.istore_n 3, 1) := by decide +kernel
theorem dX9_tide_27 : decode cX9_tide 27 = .ok (.aload_n 0, 1) := by decide +kernel
theorem dX9_tide_28 : decode cX9_tide 28 = .ok (.getfield 12, 3) := by decide +kernel
theorem dX9_tide_31 : decode cX9_tide 31 = .ok (.getfield 140, 3) := by decide +kernel
theorem dX9_tide_34 : decode cX9_tide 34 = .ok (.iload_n 1, 1) := by decide +kernel
theorem dX9_tide_35 : decode cX9_tide 35 = .ok (.iload_n 2, 1) := by decide +kernel
theorem dX9_tide_36 : decode cX9_tide 36 = .ok (.iastore, 1) := by decide +kernel
theorem dX9_tide_37 : decode cX9_tide 37 = .ok (.iload_n 3, 1) := by decide +kernel
theorem dX9_tide_38 : decode cX9_tide 38 = .ok (.ireturn, 1) := by decide +kernel
theorem dX9_price_0 : decode cX9_price 0 = .ok (.iload_n 1, 1) := by decide +kernel
theorem dX9_price_1 : decode cX9_price 1 = .ok (.invokestatic 137, 3) := by decide +kernel
theorem dX9_price_4 : decode cX9_price 4 = .ok (.ifCond .eq 13, 3) := by decide +kernel
theorem dX9_price_7 : decode cX9_price 7 = .ok (.iload_n 2, 1) := by decide +kernel
theorem dX9_price_8 : decode cX9_price 8 = .ok (.iconst 0, 1) := by decide +kernel
theorem dX9_price_9 : decode cX9_price 9 = .ok (.bipush 100, 2) := by decide +kernel
theorem dX9_price_11 : decode cX9_price 11 = .ok (.invokestatic 39, 3) := by decide +kernel
theorem dX9_price_14 : decode cX9_price 14 = .ok (.ifCond .ne 5, 3) := by decide +kernel
theorem dX9_price_17 : decode cX9_price 17 = .ok (.iconst (-1), 1) := by decide +kernel
theorem dX9_price_18 : decode cX9_price 18 = .ok (.ireturn, 1) := by decide +kernel
theorem dX9_price_19 : decode cX9_price 19 = .ok (.aload_n 0, 1) := by decide +kernel
theorem dX9_price_20 : decode cX9_price 20 = .ok (.getfield 12, 3) := by decide +kernel
theorem dX9_price_23 : decode cX9_price 23 = .ok (.getfield 143, 3) := by decide +kernel
theorem dX9_price_26 : decode cX9_price 26 = .ok (.iload_n 1, 1) := by decide +kernel
theorem dX9_price_27 : decode cX9_price 27 = .ok (.iaload, 1) := by decide +kernel
theorem dX9_price_28 : decode cX9_price 28 = .ok (.istore_n 3, 1) := by decide +kernel
theorem dX9_price_29 : decode cX9_price 29 = .ok (.aload_n 0, 1) := by decide +kernel
theorem dX9_price_30 : decode cX9_price 30 = .ok (.getfield 12, 3) := by decide +kernel
theorem dX9_price_33 : decode cX9_price 33 = .ok (.getfield 143, 3) := by decide +kernel
theorem dX9_price_36 : decode cX9_price 36 = .ok (.iload_n 1, 1) := by decide +kernel
theorem dX9_price_37 : decode cX9_price 37 = .ok (.iload_n 2, 1) := by decide +kernel
theorem dX9_price_38 : decode cX9_price 38 = .ok (.iastore, 1) := by decide +kernel
theorem dX9_price_39 : decode cX9_price 39 = .ok (.iload_n 3, 1) := by decide +kernel
theorem dX9_price_40 : decode cX9_price 40 = .ok (.ireturn, 1) := by decide +kernel
theorem dX9_step_0 : decode cX9_step 0 = .ok (.iload_n 1, 1) := by decide +kernel
theorem dX9_step_1 : decode cX9_step 1 = .ok (.invokestatic 146, 3) := by decide +kernel
theorem dX9_step_4 : decode cX9_step 4 = .ok (.ifCond .ne 5, 3) := by decide +kernel
theorem dX9_step_7 : decode cX9_step 7 = .ok (.iconst (-1), 1) := by decide +kernel
theorem dX9_step_8 : decode cX9_step 8 = .ok (.ireturn, 1) := by decide +kernel
theorem dX9_step_9 : decode cX9_step 9 = .ok (.aload_n 0, 1) := by decide +kernel
theorem dX9_step_10 : decode cX9_step 10 = .ok (.getfield 12, 3) := by decide +kernel
theorem dX9_step_13 : decode cX9_step 13 = .ok (.iload_n 1, 1) := by decide +kernel
theorem dX9_step_14 : decode cX9_step 14 = .ok (.invokevirtual 149, 3) := by decide +kernel
theorem dX9_step_17 : decode cX9_step 17 = .ok (.ireturn, 1) := by decide +kernel
theorem dX9_passed_0 : decode cX9_passed 0 = .ok (.iload_n 1, 1) := by decide +kernel
theorem dX9_passed_1 : decode cX9_passed 1 = .ok (.tableswitch 120 0 2 #[27, 58, 89], 27) := by decide +kernel
theorem dX9_passed_28 : decode cX9_passed 28 = .ok (.aload_n 0, 1) := by decide +kernel
theorem dX9_passed_29 : decode cX9_passed 29 = .ok (.getfield 12, 3) := by decide +kernel
theorem dX9_passed_32 : decode cX9_passed 32 = .ok (.getfield 85, 3) := by decide +kernel
theorem dX9_passed_35 : decode cX9_passed 35 = .ok (.iload_n 2, 1) := by decide +kernel
theorem dX9_passed_36 : decode cX9_passed 36 = .ok (.invokevirtual 153, 3) := by decide +kernel
theorem dX9_passed_39 : decode cX9_passed 39 = .ok (.ifCond .eq 18, 3) := by decide +kernel
theorem dX9_passed_42 : decode cX9_passed 42 = .ok (.aload_n 0, 1) := by decide +kernel
theorem dX9_passed_43 : decode cX9_passed 43 = .ok (.getfield 12, 3) := by decide +kernel
theorem dX9_passed_46 : decode cX9_passed 46 = .ok (.getfield 154, 3) := by decide +kernel
theorem dX9_passed_49 : decode cX9_passed 49 = .ok (.getfield 158, 3) := by decide +kernel
theorem dX9_passed_52 : decode cX9_passed 52 = .ok (.iload_n 2, 1) := by decide +kernel
theorem dX9_passed_53 : decode cX9_passed 53 = .ok (.iaload, 1) := by decide +kernel
theorem dX9_passed_54 : decode cX9_passed 54 = .ok (.goto 4, 3) := by decide +kernel
theorem dX9_passed_57 : decode cX9_passed 57 = .ok (.iconst (-1), 1) := by decide +kernel
theorem dX9_passed_58 : decode cX9_passed 58 = .ok (.ireturn, 1) := by decide +kernel
theorem dX9_passed_59 : decode cX9_passed 59 = .ok (.aload_n 0, 1) := by decide +kernel
theorem dX9_passed_60 : decode cX9_passed 60 = .ok (.getfield 12, 3) := by decide +kernel
theorem dX9_passed_63 : decode cX9_passed 63 = .ok (.getfield 95, 3) := by decide +kernel
theorem dX9_passed_66 : decode cX9_passed 66 = .ok (.iload_n 2, 1) := by decide +kernel
theorem dX9_passed_67 : decode cX9_passed 67 = .ok (.invokevirtual 113, 3) := by decide +kernel
theorem dX9_passed_70 : decode cX9_passed 70 = .ok (.ifCond .eq 18, 3) := by decide +kernel
theorem dX9_passed_73 : decode cX9_passed 73 = .ok (.aload_n 0, 1) := by decide +kernel
theorem dX9_passed_74 : decode cX9_passed 74 = .ok (.getfield 12, 3) := by decide +kernel
theorem dX9_passed_77 : decode cX9_passed 77 = .ok (.getfield 154, 3) := by decide +kernel
theorem dX9_passed_80 : decode cX9_passed 80 = .ok (.getfield 162, 3) := by decide +kernel
theorem dX9_passed_83 : decode cX9_passed 83 = .ok (.iload_n 2, 1) := by decide +kernel
theorem dX9_passed_84 : decode cX9_passed 84 = .ok (.iaload, 1) := by decide +kernel
theorem dX9_passed_85 : decode cX9_passed 85 = .ok (.goto 4, 3) := by decide +kernel
theorem dX9_passed_88 : decode cX9_passed 88 = .ok (.iconst (-1), 1) := by decide +kernel
theorem dX9_passed_89 : decode cX9_passed 89 = .ok (.ireturn, 1) := by decide +kernel
theorem dX9_passed_90 : decode cX9_passed 90 = .ok (.aload_n 0, 1) := by decide +kernel
theorem dX9_passed_91 : decode cX9_passed 91 = .ok (.getfield 12, 3) := by decide +kernel
theorem dX9_passed_94 : decode cX9_passed 94 = .ok (.getfield 104, 3) := by decide +kernel
theorem dX9_passed_97 : decode cX9_passed 97 = .ok (.iload_n 2, 1) := by decide +kernel
theorem dX9_passed_98 : decode cX9_passed 98 = .ok (.invokevirtual 132, 3) := by decide +kernel
theorem dX9_passed_101 : decode cX9_passed 101 = .ok (.ifCond .eq 18, 3) := by decide +kernel
theorem dX9_passed_104 : decode cX9_passed 104 = .ok (.aload_n 0, 1) := by decide +kernel
theorem dX9_passed_105 : decode cX9_passed 105 = .ok (.getfield 12, 3) := by decide +kernel
theorem dX9_passed_108 : decode cX9_passed 108 = .ok (.getfield 154, 3) := by decide +kernel
theorem dX9_passed_111 : decode cX9_passed 111 = .ok (.getfield 164, 3) := by decide +kernel
theorem dX9_passed_114 : decode cX9_passed 114 = .ok (.iload_n 2, 1) := by decide +kernel
theorem dX9_passed_115 : decode cX9_passed 115 = .ok (.iaload, 1) := by decide +kernel
theorem dX9_passed_116 : decode cX9_passed 116 = .ok (.goto 4, 3) := by decide +kernel
theorem dX9_passed_119 : decode cX9_passed 119 = .ok (.iconst (-1), 1) := by decide +kernel
theorem dX9_passed_120 : decode cX9_passed 120 = .ok (.ireturn, 1) := by decide +kernel
theorem dX9_passed_121 : decode cX9_passed 121 = .ok (.iconst (-1), 1) := by decide +kernel
theorem dX9_passed_122 : decode cX9_passed 122 = .ok (.ireturn, 1) := by decide +kernel
theorem dX9_world_0 : decode cX9_world 0 = .ok (.aload_n 0, 1) := by decide +kernel
theorem dX9_world_1 : decode cX9_world 1 = .ok (.getfield 19, 3) := by decide +kernel
theorem dX9_world_4 : decode cX9_world 4 = .ok (.invokevirtual 166, 3) := by decide +kernel
theorem dX9_world_7 : decode cX9_world 7 = .ok (.ireturn, 1) := by decide +kernel
theorem dX9_foretell_0 : decode cX9_foretell 0 = .ok (.aload_n 0, 1) := by decide +kernel
theorem dX9_foretell_1 : decode cX9_foretell 1 = .ok (.getfield 19, 3) := by decide +kernel
theorem dX9_foretell_4 : decode cX9_foretell 4 = .ok (.iload_n 1, 1) := by decide +kernel
theorem dX9_foretell_5 : decode cX9_foretell 5 = .ok (.invokevirtual 169, 3) := by decide +kernel
theorem dX9_foretell_8 : decode cX9_foretell 8 = .ok (.ifCond .eq 19, 3) := by decide +kernel
theorem dX9_foretell_11 : decode cX9_foretell 11 = .ok (.iload_n 2, 1) := by decide +kernel
theorem dX9_foretell_12 : decode cX9_foretell 12 = .ok (.iconst 0, 1) := by decide +kernel
theorem dX9_foretell_13 : decode cX9_foretell 13 = .ok (.iconst 5, 1) := by decide +kernel
theorem dX9_foretell_14 : decode cX9_foretell 14 = .ok (.invokestatic 39, 3) := by decide +kernel
theorem dX9_foretell_17 : decode cX9_foretell 17 = .ok (.ifCond .eq 10, 3) := by decide +kernel
theorem dX9_foretell_20 : decode cX9_foretell 20 = .ok (.iload_n 3, 1) := by decide +kernel
theorem dX9_foretell_21 : decode cX9_foretell 21 = .ok (.invokestatic 146, 3) := by decide +kernel
theorem dX9_foretell_24 : decode cX9_foretell 24 = .ok (.ifCond .ne 5, 3) := by decide +kernel
theorem dX9_foretell_27 : decode cX9_foretell 27 = .ok (.iconst (-1), 1) := by decide +kernel
theorem dX9_foretell_28 : decode cX9_foretell 28 = .ok (.ireturn, 1) := by decide +kernel
theorem dX9_foretell_29 : decode cX9_foretell 29 = .ok (.aload_n 0, 1) := by decide +kernel
theorem dX9_foretell_30 : decode cX9_foretell 30 = .ok (.getfield 19, 3) := by decide +kernel
theorem dX9_foretell_33 : decode cX9_foretell 33 = .ok (.getfield 170, 3) := by decide +kernel
theorem dX9_foretell_36 : decode cX9_foretell 36 = .ok (.iload_n 1, 1) := by decide +kernel
theorem dX9_foretell_37 : decode cX9_foretell 37 = .ok (.aaload, 1) := by decide +kernel
theorem dX9_foretell_38 : decode cX9_foretell 38 = .ok (.iload_n 2, 1) := by decide +kernel
theorem dX9_foretell_39 : decode cX9_foretell 39 = .ok (.iload_n 3, 1) := by decide +kernel
theorem dX9_foretell_40 : decode cX9_foretell 40 = .ok (.iastore, 1) := by decide +kernel
theorem dX9_foretell_41 : decode cX9_foretell 41 = .ok (.iconst 1, 1) := by decide +kernel
theorem dX9_foretell_42 : decode cX9_foretell 42 = .ok (.ireturn, 1) := by decide +kernel
theorem dX9_plan_0 : decode cX9_plan 0 = .ok (.iload_n 1, 1) := by decide +kernel
theorem dX9_plan_1 : decode cX9_plan 1 = .ok (.invokestatic 174, 3) := by decide +kernel
theorem dX9_plan_4 : decode cX9_plan 4 = .ok (.ifCond .ne 5, 3) := by decide +kernel
theorem dX9_plan_7 : decode cX9_plan 7 = .ok (.iconst (-1), 1) := by decide +kernel
theorem dX9_plan_8 : decode cX9_plan 8 = .ok (.ireturn, 1) := by decide +kernel
theorem dX9_plan_9 : decode cX9_plan 9 = .ok (.aload_n 0, 1) := by decide +kernel
theorem dX9_plan_10 : decode cX9_plan 10 = .ok (.getfield 28, 3) := by decide +kernel
theorem dX9_plan_13 : decode cX9_plan 13 = .ok (.iload_n 1, 1) := by decide +kernel
theorem dX9_plan_14 : decode cX9_plan 14 = .ok (.invokevirtual 177, 3) := by decide +kernel
theorem dX9_plan_17 : decode cX9_plan 17 = .ok (.aload_n 0, 1) := by decide +kernel
theorem dX9_plan_18 : decode cX9_plan 18 = .ok (.getfield 28, 3) := by decide +kernel
theorem dX9_plan_21 : decode cX9_plan 21 = .ok (.getfield 181, 3) := by decide +kernel
theorem dX9_plan_24 : decode cX9_plan 24 = .ok (.ireturn, 1) := by decide +kernel
theorem dX9_planned_0 : decode cX9_planned 0 = .ok (.iload_n 1, 1) := by decide +kernel
theorem dX9_planned_1 : decode cX9_planned 1 = .ok (.invokestatic 174, 3) := by decide +kernel
theorem dX9_planned_4 : decode cX9_planned 4 = .ok (.ifCond .eq 12, 3) := by decide +kernel
theorem dX9_planned_7 : decode cX9_planned 7 = .ok (.iload_n 2, 1) := by decide +kernel
theorem dX9_planned_8 : decode cX9_planned 8 = .ok (.iconst 0, 1) := by decide +kernel
theorem dX9_planned_9 : decode cX9_planned 9 = .ok (.iconst 1, 1) := by decide +kernel
theorem dX9_planned_10 : decode cX9_planned 10 = .ok (.invokestatic 39, 3) := by decide +kernel
theorem dX9_planned_13 : decode cX9_planned 13 = .ok (.ifCond .ne 7, 3) := by decide +kernel
theorem dX9_planned_16 : decode cX9_planned 16 = .ok (.ldc2_w 184, 3) := by decide +kernel
theorem dX9_planned_19 : decode cX9_planned 19 = .ok (.lreturn, 1) := by decide +kernel
theorem dX9_planned_20 : decode cX9_planned 20 = .ok (.aload_n 0, 1) := by decide +kernel
theorem dX9_planned_21 : decode cX9_planned 21 = .ok (.getfield 28, 3) := by decide +kernel
theorem dX9_planned_24 : decode cX9_planned 24 = .ok (.iload_n 1, 1) := by decide +kernel
theorem dX9_planned_25 : decode cX9_planned 25 = .ok (.invokevirtual 177, 3) := by decide +kernel
theorem dX9_planned_28 : decode cX9_planned 28 = .ok (.iload_n 2, 1) := by decide +kernel
theorem dX9_planned_29 : decode cX9_planned 29 = .ok (.ifCond .ne 13, 3) := by decide +kernel
theorem dX9_planned_32 : decode cX9_planned 32 = .ok (.aload_n 0, 1) := by decide +kernel
theorem dX9_planned_33 : decode cX9_planned 33 = .ok (.getfield 28, 3) := by decide +kernel
theorem dX9_planned_36 : decode cX9_planned 36 = .ok (.getfield 186, 3) := by decide +kernel
theorem dX9_planned_39 : decode cX9_planned 39 = .ok (.goto 10, 3) := by decide +kernel
theorem dX9_planned_42 : decode cX9_planned 42 = .ok (.aload_n 0, 1) := by decide +kernel
theorem dX9_planned_43 : decode cX9_planned 43 = .ok (.getfield 28, 3) := by decide +kernel
theorem dX9_planned_46 : decode cX9_planned 46 = .ok (.getfield 190, 3) := by decide +kernel
theorem dX9_planned_49 : decode cX9_planned 49 = .ok (.lreturn, 1) := by decide +kernel
theorem dX9_judge_0 : decode cX9_judge 0 = .ok (.iload_n 1, 1) := by decide +kernel
theorem dX9_judge_1 : decode cX9_judge 1 = .ok (.invokestatic 174, 3) := by decide +kernel
theorem dX9_judge_4 : decode cX9_judge 4 = .ok (.ifCond .eq 15, 3) := by decide +kernel
theorem dX9_judge_7 : decode cX9_judge 7 = .ok (.aload_n 0, 1) := by decide +kernel
theorem dX9_judge_8 : decode cX9_judge 8 = .ok (.getfield 28, 3) := by decide +kernel
theorem dX9_judge_11 : decode cX9_judge 11 = .ok (.iload_n 1, 1) := by decide +kernel
theorem dX9_judge_12 : decode cX9_judge 12 = .ok (.iload_n 2, 1) := by decide +kernel
theorem dX9_judge_13 : decode cX9_judge 13 = .ok (.invokevirtual 192, 3) := by decide +kernel
theorem dX9_judge_16 : decode cX9_judge 16 = .ok (.ifCond .ne 7, 3) := by decide +kernel
theorem dX9_judge_19 : decode cX9_judge 19 = .ok (.ldc2_w 184, 3) := by decide +kernel
theorem dX9_judge_22 : decode cX9_judge 22 = .ok (.lreturn, 1) := by decide +kernel
theorem dX9_judge_23 : decode cX9_judge 23 = .ok (.iload_n 3, 1) := by decide +kernel
theorem dX9_judge_24 : decode cX9_judge 24 = .ok (.tableswitch 66 0 2 #[28, 46, 56], 28) := by decide +kernel
theorem dX9_judge_52 : decode cX9_judge 52 = .ok (.aload_n 0, 1) := by decide +kernel
theorem dX9_judge_53 : decode cX9_judge 53 = .ok (.getfield 28, 3) := by decide +kernel
theorem dX9_judge_56 : decode cX9_judge 56 = .ok (.iload_n 1, 1) := by decide +kernel
theorem dX9_judge_57 : decode cX9_judge 57 = .ok (.iload_n 2, 1) := by decide +kernel
theorem dX9_judge_58 : decode cX9_judge 58 = .ok (.invokevirtual 195, 3) := by decide +kernel
theorem dX9_judge_61 : decode cX9_judge 61 = .ok (.ifCond .eq 7, 3) := by decide +kernel
theorem dX9_judge_64 : decode cX9_judge 64 = .ok (.lconst 1, 1) := by decide +kernel
theorem dX9_judge_65 : decode cX9_judge 65 = .ok (.goto 4, 3) := by decide +kernel
theorem dX9_judge_68 : decode cX9_judge 68 = .ok (.lconst 0, 1) := by decide +kernel
theorem dX9_judge_69 : decode cX9_judge 69 = .ok (.lreturn, 1) := by decide +kernel
theorem dX9_judge_70 : decode cX9_judge 70 = .ok (.aload_n 0, 1) := by decide +kernel
theorem dX9_judge_71 : decode cX9_judge 71 = .ok (.getfield 28, 3) := by decide +kernel
theorem dX9_judge_74 : decode cX9_judge 74 = .ok (.iload_n 1, 1) := by decide +kernel
theorem dX9_judge_75 : decode cX9_judge 75 = .ok (.iload_n 2, 1) := by decide +kernel
theorem dX9_judge_76 : decode cX9_judge 76 = .ok (.invokevirtual 198, 3) := by decide +kernel
theorem dX9_judge_79 : decode cX9_judge 79 = .ok (.lreturn, 1) := by decide +kernel
theorem dX9_judge_80 : decode cX9_judge 80 = .ok (.aload_n 0, 1) := by decide +kernel
theorem dX9_judge_81 : decode cX9_judge 81 = .ok (.getfield 28, 3) := by decide +kernel
theorem dX9_judge_84 : decode cX9_judge 84 = .ok (.iload_n 1, 1) := by decide +kernel
theorem dX9_judge_85 : decode cX9_judge 85 = .ok (.iload_n 2, 1) := by decide +kernel
theorem dX9_judge_86 : decode cX9_judge 86 = .ok (.invokevirtual 202, 3) := by decide +kernel
theorem dX9_judge_89 : decode cX9_judge 89 = .ok (.lreturn, 1) := by decide +kernel
theorem dX9_judge_90 : decode cX9_judge 90 = .ok (.ldc2_w 184, 3) := by decide +kernel
theorem dX9_judge_93 : decode cX9_judge 93 = .ok (.lreturn, 1) := by decide +kernel
theorem dX9_follow_0 : decode cX9_follow 0 = .ok (.iload_n 1, 1) := by decide +kernel
theorem dX9_follow_1 : decode cX9_follow 1 = .ok (.invokestatic 174, 3) := by decide +kernel
theorem dX9_follow_4 : decode cX9_follow 4 = .ok (.ifCond .ne 5, 3) := by decide +kernel
theorem dX9_follow_7 : decode cX9_follow 7 = .ok (.iconst (-1), 1) := by decide +kernel
theorem dX9_follow_8 : decode cX9_follow 8 = .ok (.ireturn, 1) := by decide +kernel
theorem dX9_follow_9 : decode cX9_follow 9 = .ok (.aload_n 0, 1) := by decide +kernel
theorem dX9_follow_10 : decode cX9_follow 10 = .ok (.getfield 28, 3) := by decide +kernel
theorem dX9_follow_13 : decode cX9_follow 13 = .ok (.iload_n 1, 1) := by decide +kernel
theorem dX9_follow_14 : decode cX9_follow 14 = .ok (.invokevirtual 177, 3) := by decide +kernel
theorem dX9_follow_17 : decode cX9_follow 17 = .ok (.iconst 0, 1) := by decide +kernel
theorem dX9_follow_18 : decode cX9_follow 18 = .ok (.istore_n 2, 1) := by decide +kernel
theorem dX9_follow_19 : decode cX9_follow 19 = .ok (.iconst 0, 1) := by decide +kernel
theorem dX9_follow_20 : decode cX9_follow 20 = .ok (.istore_n 3, 1) := by decide +kernel
theorem dX9_follow_21 : decode cX9_follow 21 = .ok (.iload_n 3, 1) := by decide +kernel
theorem dX9_follow_22 : decode cX9_follow 22 = .ok (.aload_n 0, 1) := by decide +kernel
theorem dX9_follow_23 : decode cX9_follow 23 = .ok (.getfield 12, 3) := by decide +kernel
theorem dX9_follow_26 : decode cX9_follow 26 = .ok (.getfield 95, 3) := by decide +kernel
theorem dX9_follow_29 : decode cX9_follow 29 = .ok (.invokevirtual 205, 3) := by decide +kernel
theorem dX9_follow_32 : decode cX9_follow 32 = .ok (.if_icmp .ge 60, 3) := by decide +kernel
theorem dX9_follow_35 : decode cX9_follow 35 = .ok (.aload_n 0, 1) := by decide +kernel
theorem dX9_follow_36 : decode cX9_follow 36 = .ok (.getfield 28, 3) := by decide +kernel
theorem dX9_follow_39 : decode cX9_follow 39 = .ok (.aload_n 0, 1) := by decide +kernel
theorem dX9_follow_40 : decode cX9_follow 40 = .ok (.getfield 28, 3) := by decide +kernel
theorem dX9_follow_43 : decode cX9_follow 43 = .ok (.getfield 181, 3) := by decide +kernel
theorem dX9_follow_46 : decode cX9_follow 46 = .ok (.iconst 0, 1) := by decide +kernel
theorem dX9_follow_47 : decode cX9_follow 47 = .ok (.iload_n 3, 1) := by decide +kernel
theorem dX9_follow_48 : decode cX9_follow 48 = .ok (.invokevirtual 208, 3) := by decide +kernel
theorem dX9_follow_51 : decode cX9_follow 51 = .ok (.istore 4, 2) := by decide +kernel
theorem dX9_follow_53 : decode cX9_follow 53 = .ok (.aload_n 0, 1) := by decide +kernel
theorem dX9_follow_54 : decode cX9_follow 54 = .ok (.getfield 12, 3) := by decide +kernel
theorem dX9_follow_57 : decode cX9_follow 57 = .ok (.getfield 95, 3) := by decide +kernel
theorem dX9_follow_60 : decode cX9_follow 60 = .ok (.iload_n 3, 1) := by decide +kernel
theorem dX9_follow_61 : decode cX9_follow 61 = .ok (.iload 4, 2) := by decide +kernel
theorem dX9_follow_63 : decode cX9_follow 63 = .ok (.aload_n 0, 1) := by decide +kernel
theorem dX9_follow_64 : decode cX9_follow 64 = .ok (.getfield 12, 3) := by decide +kernel
theorem dX9_follow_67 : decode cX9_follow 67 = .ok (.getfield 114, 3) := by decide +kernel
theorem dX9_follow_70 : decode cX9_follow 70 = .ok (.invokevirtual 128, 3) := by decide +kernel
theorem dX9_follow_73 : decode cX9_follow 73 = .ok (.iload_n 2, 1) := by decide +kernel
theorem dX9_follow_74 : decode cX9_follow 74 = .ok (.iload 4, 2) := by decide +kernel
theorem dX9_follow_76 : decode cX9_follow 76 = .ok (.ifCond .eq 7, 3) := by decide +kernel
theorem dX9_follow_79 : decode cX9_follow 79 = .ok (.iconst 1, 1) := by decide +kernel
theorem dX9_follow_80 : decode cX9_follow 80 = .ok (.goto 4, 3) := by decide +kernel
theorem dX9_follow_83 : decode cX9_follow 83 = .ok (.iconst 0, 1) := by decide +kernel
theorem dX9_follow_84 : decode cX9_follow 84 = .ok (.iadd, 1) := by decide +kernel
theorem dX9_follow_85 : decode cX9_follow 85 = .ok (.istore_n 2, 1) := by decide +kernel
theorem dX9_follow_86 : decode cX9_follow 86 = .ok (.iinc 3 1, 3) := by decide +kernel
theorem dX9_follow_89 : decode cX9_follow 89 = .ok (.goto (-68), 3) := by decide +kernel
theorem dX9_follow_92 : decode cX9_follow 92 = .ok (.iload_n 2, 1) := by decide +kernel
theorem dX9_follow_93 : decode cX9_follow 93 = .ok (.ireturn, 1) := by decide +kernel
theorem dX9_sheet_0 : decode cX9_sheet 0 = .ok (.iload_n 1, 1) := by decide +kernel
theorem dX9_sheet_1 : decode cX9_sheet 1 = .ok (.invokestatic 211, 3) := by decide +kernel
theorem dX9_sheet_4 : decode cX9_sheet 4 = .ok (.ifCond .eq 16, 3) := by decide +kernel
theorem dX9_sheet_7 : decode cX9_sheet 7 = .ok (.iload_n 2, 1) := by decide +kernel
theorem dX9_sheet_8 : decode cX9_sheet 8 = .ok (.invokestatic 214, 3) := by decide +kernel
theorem dX9_sheet_11 : decode cX9_sheet 11 = .ok (.ifCond .eq 9, 3) := by decide +kernel
theorem dX9_sheet_14 : decode cX9_sheet 14 = .ok (.iload_n 3, 1) := by decide +kernel
theorem dX9_sheet_15 : decode cX9_sheet 15 = .ok (.bipush 60, 2) := by decide +kernel
theorem dX9_sheet_17 : decode cX9_sheet 17 = .ok (.if_icmp .le 5, 3) := by decide +kernel
theorem dX9_sheet_20 : decode cX9_sheet 20 = .ok (.iconst (-1), 1) := by decide +kernel
theorem dX9_sheet_21 : decode cX9_sheet 21 = .ok (.ireturn, 1) := by decide +kernel
theorem dX9_sheet_22 : decode cX9_sheet 22 = .ok (.iload_n 3, 1) := by decide +kernel
theorem dX9_sheet_23 : decode cX9_sheet 23 = .ok (.ifCond .ge 6, 3) := by decide +kernel
theorem dX9_sheet_26 : decode cX9_sheet 26 = .ok (.bipush (-14), 2) := by decide +kernel
theorem dX9_sheet_28 : decode cX9_sheet 28 = .ok (.ireturn, 1) := by decide +kernel
theorem dX9_sheet_29 : decode cX9_sheet 29 = .ok (.aload_n 0, 1) := by decide +kernel
theorem dX9_sheet_30 : decode cX9_sheet 30 = .ok (.getfield 35, 3) := by decide +kernel
theorem dX9_sheet_33 : decode cX9_sheet 33 = .ok (.iload_n 1, 1) := by decide +kernel
theorem dX9_sheet_34 : decode cX9_sheet 34 = .ok (.iload_n 2, 1) := by decide +kernel
theorem dX9_sheet_35 : decode cX9_sheet 35 = .ok (.iload_n 3, 1) := by decide +kernel
theorem dX9_sheet_36 : decode cX9_sheet 36 = .ok (.invokevirtual 217, 3) := by decide +kernel
theorem dX9_sheet_39 : decode cX9_sheet 39 = .ok (.iconst 1, 1) := by decide +kernel
theorem dX9_sheet_40 : decode cX9_sheet 40 = .ok (.ireturn, 1) := by decide +kernel
theorem dX9_lay_0 : decode cX9_lay 0 = .ok (.iload_n 1, 1) := by decide +kernel
theorem dX9_lay_1 : decode cX9_lay 1 = .ok (.invokestatic 211, 3) := by decide +kernel
theorem dX9_lay_4 : decode cX9_lay 4 = .ok (.ifCond .ne 5, 3) := by decide +kernel
theorem dX9_lay_7 : decode cX9_lay 7 = .ok (.iconst (-1), 1) := by decide +kernel
theorem dX9_lay_8 : decode cX9_lay 8 = .ok (.ireturn, 1) := by decide +kernel
theorem dX9_lay_9 : decode cX9_lay 9 = .ok (.aload_n 0, 1) := by decide +kernel
theorem dX9_lay_10 : decode cX9_lay 10 = .ok (.getfield 35, 3) := by decide +kernel
theorem dX9_lay_13 : decode cX9_lay 13 = .ok (.iload_n 1, 1) := by decide +kernel
theorem dX9_lay_14 : decode cX9_lay 14 = .ok (.invokevirtual 221, 3) := by decide +kernel
theorem dX9_lay_17 : decode cX9_lay 17 = .ok (.ifCond .eq 6, 3) := by decide +kernel
theorem dX9_lay_20 : decode cX9_lay 20 = .ok (.bipush (-11), 2) := by decide +kernel
theorem dX9_lay_22 : decode cX9_lay 22 = .ok (.ireturn, 1) := by decide +kernel
theorem dX9_lay_23 : decode cX9_lay 23 = .ok (.aload_n 0, 1) := by decide +kernel
theorem dX9_lay_24 : decode cX9_lay 24 = .ok (.getfield 35, 3) := by decide +kernel
theorem dX9_lay_27 : decode cX9_lay 27 = .ok (.iload_n 1, 1) := by decide +kernel
theorem dX9_lay_28 : decode cX9_lay 28 = .ok (.iload_n 2, 1) := by decide +kernel
theorem dX9_lay_29 : decode cX9_lay 29 = .ok (.invokevirtual 224, 3) := by decide +kernel
theorem dX9_lay_32 : decode cX9_lay 32 = .ok (.ifCond .ne 6, 3) := by decide +kernel
theorem dX9_lay_35 : decode cX9_lay 35 = .ok (.bipush (-12), 2) := by decide +kernel
theorem dX9_lay_37 : decode cX9_lay 37 = .ok (.ireturn, 1) := by decide +kernel
theorem dX9_lay_38 : decode cX9_lay 38 = .ok (.aload_n 0, 1) := by decide +kernel
theorem dX9_lay_39 : decode cX9_lay 39 = .ok (.getfield 35, 3) := by decide +kernel
theorem dX9_lay_42 : decode cX9_lay 42 = .ok (.iload_n 1, 1) := by decide +kernel
theorem dX9_lay_43 : decode cX9_lay 43 = .ok (.iload_n 2, 1) := by decide +kernel
theorem dX9_lay_44 : decode cX9_lay 44 = .ok (.iload_n 3, 1) := by decide +kernel
theorem dX9_lay_45 : decode cX9_lay 45 = .ok (.invokevirtual 227, 3) := by decide +kernel
theorem dX9_lay_48 : decode cX9_lay 48 = .ok (.iconst 1, 1) := by decide +kernel
theorem dX9_lay_49 : decode cX9_lay 49 = .ok (.ireturn, 1) := by decide +kernel
theorem dX9_rain_0 : decode cX9_rain 0 = .ok (.iload_n 1, 1) := by decide +kernel
theorem dX9_rain_1 : decode cX9_rain 1 = .ok (.invokestatic 211, 3) := by decide +kernel
theorem dX9_rain_4 : decode cX9_rain 4 = .ok (.ifCond .eq 21, 3) := by decide +kernel
theorem dX9_rain_7 : decode cX9_rain 7 = .ok (.iload_n 2, 1) := by decide +kernel
theorem dX9_rain_8 : decode cX9_rain 8 = .ok (.invokestatic 214, 3) := by decide +kernel
theorem dX9_rain_11 : decode cX9_rain 11 = .ok (.ifCond .eq 14, 3) := by decide +kernel
theorem dX9_rain_14 : decode cX9_rain 14 = .ok (.iload 4, 2) := by decide +kernel
theorem dX9_rain_16 : decode cX9_rain 16 = .ok (.iconst 0, 1) := by decide +kernel
theorem dX9_rain_17 : decode cX9_rain 17 = .ok (.bipush 24, 2) := by decide +kernel
theorem dX9_rain_19 : decode cX9_rain 19 = .ok (.invokestatic 39, 3) := by decide +kernel
theorem dX9_rain_22 : decode cX9_rain 22 = .ok (.ifCond .ne 5, 3) := by decide +kernel
theorem dX9_rain_25 : decode cX9_rain 25 = .ok (.iconst (-1), 1) := by decide +kernel
theorem dX9_rain_26 : decode cX9_rain 26 = .ok (.ireturn, 1) := by decide +kernel
theorem dX9_rain_27 : decode cX9_rain 27 = .ok (.aload_n 0, 1) := by decide +kernel
theorem dX9_rain_28 : decode cX9_rain 28 = .ok (.getfield 35, 3) := by decide +kernel
theorem dX9_rain_31 : decode cX9_rain 31 = .ok (.iload_n 1, 1) := by decide +kernel
theorem dX9_rain_32 : decode cX9_rain 32 = .ok (.iload_n 2, 1) := by decide +kernel
theorem dX9_rain_33 : decode cX9_rain 33 = .ok (.invokevirtual 229, 3) := by decide +kernel
theorem dX9_rain_36 : decode cX9_rain 36 = .ok (.istore 5, 2) := by decide +kernel
theorem dX9_rain_38 : decode cX9_rain 38 = .ok (.iload 5, 2) := by decide +kernel
theorem dX9_rain_40 : decode cX9_rain 40 = .ok (.ifCond .eq 9, 3) := by decide +kernel
theorem dX9_rain_43 : decode cX9_rain 43 = .ok (.bipush (-10), 2) := by decide +kernel
theorem dX9_rain_45 : decode cX9_rain 45 = .ok (.iload 5, 2) := by decide +kernel
theorem dX9_rain_47 : decode cX9_rain 47 = .ok (.isub, 1) := by decide +kernel
theorem dX9_rain_48 : decode cX9_rain 48 = .ok (.ireturn, 1) := by decide +kernel
theorem dX9_rain_49 : decode cX9_rain 49 = .ok (.iconst 0, 1) := by decide +kernel
theorem dX9_rain_50 : decode cX9_rain 50 = .ok (.istore 6, 2) := by decide +kernel
theorem dX9_rain_52 : decode cX9_rain 52 = .ok (.iconst 0, 1) := by decide +kernel
theorem dX9_rain_53 : decode cX9_rain 53 = .ok (.istore 7, 2) := by decide +kernel
theorem dX9_rain_55 : decode cX9_rain 55 = .ok (.iload 7, 2) := by decide +kernel
theorem dX9_rain_57 : decode cX9_rain 57 = .ok (.iload 4, 2) := by decide +kernel
theorem dX9_rain_59 : decode cX9_rain 59 = .ok (.if_icmp .ge 68, 3) := by decide +kernel
theorem dX9_rain_62 : decode cX9_rain 62 = .ok (.aload_n 0, 1) := by decide +kernel
theorem dX9_rain_63 : decode cX9_rain 63 = .ok (.getfield 35, 3) := by decide +kernel
theorem dX9_rain_66 : decode cX9_rain 66 = .ok (.iload_n 1, 1) := by decide +kernel
theorem dX9_rain_67 : decode cX9_rain 67 = .ok (.iload_n 3, 1) := by decide +kernel
theorem dX9_rain_68 : decode cX9_rain 68 = .ok (.iload 7, 2) := by decide +kernel
theorem dX9_rain_70 : decode cX9_rain 70 = .ok (.iadd, 1) := by decide +kernel
theorem dX9_rain_71 : decode cX9_rain 71 = .ok (.invokevirtual 224, 3) := by decide +kernel
theorem dX9_rain_74 : decode cX9_rain 74 = .ok (.ifCond .ne 6, 3) := by decide +kernel
theorem dX9_rain_77 : decode cX9_rain 77 = .ok (.bipush (-12), 2) := by decide +kernel
theorem dX9_rain_79 : decode cX9_rain 79 = .ok (.ireturn, 1) := by decide +kernel
theorem dX9_rain_80 : decode cX9_rain 80 = .ok (.aload_n 0, 1) := by decide +kernel
theorem dX9_rain_81 : decode cX9_rain 81 = .ok (.getfield 35, 3) := by decide +kernel
theorem dX9_rain_84 : decode cX9_rain 84 = .ok (.getfield 232, 3) := by decide +kernel
theorem dX9_rain_87 : decode cX9_rain 87 = .ok (.iload_n 1, 1) := by decide +kernel
theorem dX9_rain_88 : decode cX9_rain 88 = .ok (.aaload, 1) := by decide +kernel
theorem dX9_rain_89 : decode cX9_rain 89 = .ok (.iload_n 3, 1) := by decide +kernel
theorem dX9_rain_90 : decode cX9_rain 90 = .ok (.iload 7, 2) := by decide +kernel
theorem dX9_rain_92 : decode cX9_rain 92 = .ok (.iadd, 1) := by decide +kernel
theorem dX9_rain_93 : decode cX9_rain 93 = .ok (.iaload, 1) := by decide +kernel
theorem dX9_rain_94 : decode cX9_rain 94 = .ok (.istore 8, 2) := by decide +kernel
theorem dX9_rain_96 : decode cX9_rain 96 = .ok (.iload 8, 2) := by decide +kernel
theorem dX9_rain_98 : decode cX9_rain 98 = .ok (.invokestatic 146, 3) := by decide +kernel
theorem dX9_rain_101 : decode cX9_rain 101 = .ok (.ifCond .ne 9, 3) := by decide +kernel
theorem dX9_rain_104 : decode cX9_rain 104 = .ok (.bipush (-20), 2) := by decide +kernel
theorem dX9_rain_106 : decode cX9_rain 106 = .ok (.iload 7, 2) := by decide +kernel
theorem dX9_rain_108 : decode cX9_rain 108 = .ok (.isub, 1) := by decide +kernel
theorem dX9_rain_109 : decode cX9_rain 109 = .ok (.ireturn, 1) := by decide +kernel
theorem dX9_rain_110 : decode cX9_rain 110 = .ok (.aload_n 0, 1) := by decide +kernel
theorem dX9_rain_111 : decode cX9_rain 111 = .ok (.getfield 12, 3) := by decide +kernel
theorem dX9_rain_114 : decode cX9_rain 114 = .ok (.iload 8, 2) := by decide +kernel
theorem dX9_rain_116 : decode cX9_rain 116 = .ok (.invokevirtual 149, 3) := by decide +kernel
theorem dX9_rain_119 : decode cX9_rain 119 = .ok (.istore 6, 2) := by decide +kernel
theorem dX9_rain_121 : decode cX9_rain 121 = .ok (.iinc 7 1, 3) := by decide +kernel
theorem dX9_rain_124 : decode cX9_rain 124 = .ok (.goto (-69), 3) := by decide +kernel
theorem dX9_rain_127 : decode cX9_rain 127 = .ok (.iload 6, 2) := by decide +kernel
theorem dX9_rain_129 : decode cX9_rain 129 = .ok (.ireturn, 1) := by decide +kernel
theorem dX9_tides_0 : decode cX9_tides 0 = .ok (.iload_n 1, 1) := by decide +kernel
theorem dX9_tides_1 : decode cX9_tides 1 = .ok (.invokestatic 211, 3) := by decide +kernel
theorem dX9_tides_4 : decode cX9_tides 4 = .ok (.ifCond .eq 10, 3) := by decide +kernel
theorem dX9_tides_7 : decode cX9_tides 7 = .ok (.iload_n 2, 1) := by decide +kernel
theorem dX9_tides_8 : decode cX9_tides 8 = .ok (.invokestatic 214, 3) := by decide +kernel
theorem dX9_tides_11 : decode cX9_tides 11 = .ok (.ifCond .ne 5, 3) := by decide +kernel
theorem dX9_tides_14 : decode cX9_tides 14 = .ok (.iconst (-1), 1) := by decide +kernel
theorem dX9_tides_15 : decode cX9_tides 15 = .ok (.ireturn, 1) := by decide +kernel
theorem dX9_tides_16 : decode cX9_tides 16 = .ok (.aload_n 0, 1) := by decide +kernel
theorem dX9_tides_17 : decode cX9_tides 17 = .ok (.getfield 35, 3) := by decide +kernel
theorem dX9_tides_20 : decode cX9_tides 20 = .ok (.iload_n 1, 1) := by decide +kernel
theorem dX9_tides_21 : decode cX9_tides 21 = .ok (.iload_n 2, 1) := by decide +kernel
theorem dX9_tides_22 : decode cX9_tides 22 = .ok (.invokevirtual 229, 3) := by decide +kernel
theorem dX9_tides_25 : decode cX9_tides 25 = .ok (.istore 4, 2) := by decide +kernel
theorem dX9_tides_27 : decode cX9_tides 27 = .ok (.iload 4, 2) := by decide +kernel
theorem dX9_tides_29 : decode cX9_tides 29 = .ok (.ifCond .eq 9, 3) := by decide +kernel
theorem dX9_tides_32 : decode cX9_tides 32 = .ok (.bipush (-10), 2) := by decide +kernel
theorem dX9_tides_34 : decode cX9_tides 34 = .ok (.iload 4, 2) := by decide +kernel
theorem dX9_tides_36 : decode cX9_tides 36 = .ok (.isub, 1) := by decide +kernel
theorem dX9_tides_37 : decode cX9_tides 37 = .ok (.ireturn, 1) := by decide +kernel
theorem dX9_tides_38 : decode cX9_tides 38 = .ok (.iconst 0, 1) := by decide +kernel
theorem dX9_tides_39 : decode cX9_tides 39 = .ok (.istore 5, 2) := by decide +kernel
theorem dX9_tides_41 : decode cX9_tides 41 = .ok (.iload 5, 2) := by decide +kernel
theorem dX9_tides_43 : decode cX9_tides 43 = .ok (.bipush 24, 2) := by decide +kernel
theorem dX9_tides_45 : decode cX9_tides 45 = .ok (.if_icmp .ge 53, 3) := by decide +kernel
theorem dX9_tides_48 : decode cX9_tides 48 = .ok (.aload_n 0, 1) := by decide +kernel
theorem dX9_tides_49 : decode cX9_tides 49 = .ok (.getfield 35, 3) := by decide +kernel
theorem dX9_tides_52 : decode cX9_tides 52 = .ok (.iload_n 1, 1) := by decide +kernel
theorem dX9_tides_53 : decode cX9_tides 53 = .ok (.iload_n 3, 1) := by decide +kernel
theorem dX9_tides_54 : decode cX9_tides 54 = .ok (.iload 5, 2) := by decide +kernel
theorem dX9_tides_56 : decode cX9_tides 56 = .ok (.iadd, 1) := by decide +kernel
theorem dX9_tides_57 : decode cX9_tides 57 = .ok (.invokevirtual 224, 3) := by decide +kernel
theorem dX9_tides_60 : decode cX9_tides 60 = .ok (.ifCond .ne 6, 3) := by decide +kernel
theorem dX9_tides_63 : decode cX9_tides 63 = .ok (.bipush (-12), 2) := by decide +kernel
theorem dX9_tides_65 : decode cX9_tides 65 = .ok (.ireturn, 1) := by decide +kernel
theorem dX9_tides_66 : decode cX9_tides 66 = .ok (.aload_n 0, 1) := by decide +kernel
theorem dX9_tides_67 : decode cX9_tides 67 = .ok (.getfield 35, 3) := by decide +kernel
theorem dX9_tides_70 : decode cX9_tides 70 = .ok (.getfield 232, 3) := by decide +kernel
theorem dX9_tides_73 : decode cX9_tides 73 = .ok (.iload_n 1, 1) := by decide +kernel
theorem dX9_tides_74 : decode cX9_tides 74 = .ok (.aaload, 1) := by decide +kernel
theorem dX9_tides_75 : decode cX9_tides 75 = .ok (.iload_n 3, 1) := by decide +kernel
theorem dX9_tides_76 : decode cX9_tides 76 = .ok (.iload 5, 2) := by decide +kernel
theorem dX9_tides_78 : decode cX9_tides 78 = .ok (.iadd, 1) := by decide +kernel
theorem dX9_tides_79 : decode cX9_tides 79 = .ok (.iaload, 1) := by decide +kernel
theorem dX9_tides_80 : decode cX9_tides 80 = .ok (.invokestatic 43, 3) := by decide +kernel
theorem dX9_tides_83 : decode cX9_tides 83 = .ok (.ifCond .ne 9, 3) := by decide +kernel
theorem dX9_tides_86 : decode cX9_tides 86 = .ok (.bipush (-20), 2) := by decide +kernel
theorem dX9_tides_88 : decode cX9_tides 88 = .ok (.iload 5, 2) := by decide +kernel
theorem dX9_tides_90 : decode cX9_tides 90 = .ok (.isub, 1) := by decide +kernel
theorem dX9_tides_91 : decode cX9_tides 91 = .ok (.ireturn, 1) := by decide +kernel
theorem dX9_tides_92 : decode cX9_tides 92 = .ok (.iinc 5 1, 3) := by decide +kernel
theorem dX9_tides_95 : decode cX9_tides 95 = .ok (.goto (-54), 3) := by decide +kernel
theorem dX9_tides_98 : decode cX9_tides 98 = .ok (.aload_n 0, 1) := by decide +kernel
theorem dX9_tides_99 : decode cX9_tides 99 = .ok (.getfield 35, 3) := by decide +kernel
theorem dX9_tides_102 : decode cX9_tides 102 = .ok (.getfield 232, 3) := by decide +kernel
theorem dX9_tides_105 : decode cX9_tides 105 = .ok (.iload_n 1, 1) := by decide +kernel
theorem dX9_tides_106 : decode cX9_tides 106 = .ok (.aaload, 1) := by decide +kernel
theorem dX9_tides_107 : decode cX9_tides 107 = .ok (.iload_n 3, 1) := by decide +kernel
theorem dX9_tides_108 : decode cX9_tides 108 = .ok (.aload_n 0, 1) := by decide +kernel
theorem dX9_tides_109 : decode cX9_tides 109 = .ok (.getfield 12, 3) := by decide +kernel
theorem dX9_tides_112 : decode cX9_tides 112 = .ok (.getfield 140, 3) := by decide +kernel
theorem dX9_tides_115 : decode cX9_tides 115 = .ok (.iconst 0, 1) := by decide +kernel
theorem dX9_tides_116 : decode cX9_tides 116 = .ok (.bipush 24, 2) := by decide +kernel
theorem dX9_tides_118 : decode cX9_tides 118 = .ok (.invokestatic 235, 3) := by decide +kernel
theorem dX9_tides_121 : decode cX9_tides 121 = .ok (.iconst 1, 1) := by decide +kernel
theorem dX9_tides_122 : decode cX9_tides 122 = .ok (.ireturn, 1) := by decide +kernel
theorem dX9_count_0 : decode cX9_count 0 = .ok (.iload_n 1, 1) := by decide +kernel
theorem dX9_count_1 : decode cX9_count 1 = .ok (.tableswitch 159 0 9 #[55, 66, 77, 88, 99, 107, 115, 126, 134, 148], 55) := by decide +kernel
theorem dX9_count_56 : decode cX9_count 56 = .ok (.aload_n 0, 1) := by decide +kernel
theorem dX9_count_57 : decode cX9_count 57 = .ok (.getfield 12, 3) := by decide +kernel
theorem dX9_count_60 : decode cX9_count 60 = .ok (.getfield 48, 3) := by decide +kernel
theorem dX9_count_63 : decode cX9_count 63 = .ok (.getfield 241, 3) := by decide +kernel
theorem dX9_count_66 : decode cX9_count 66 = .ok (.ireturn, 1) := by decide +kernel
theorem dX9_count_67 : decode cX9_count 67 = .ok (.aload_n 0, 1) := by decide +kernel
theorem dX9_count_68 : decode cX9_count 68 = .ok (.getfield 12, 3) := by decide +kernel
theorem dX9_count_71 : decode cX9_count 71 = .ok (.getfield 85, 3) := by decide +kernel
theorem dX9_count_74 : decode cX9_count 74 = .ok (.getfield 244, 3) := by decide +kernel
theorem dX9_count_77 : decode cX9_count 77 = .ok (.ireturn, 1) := by decide +kernel
theorem dX9_count_78 : decode cX9_count 78 = .ok (.aload_n 0, 1) := by decide +kernel
theorem dX9_count_79 : decode cX9_count 79 = .ok (.getfield 12, 3) := by decide +kernel
theorem dX9_count_82 : decode cX9_count 82 = .ok (.getfield 95, 3) := by decide +kernel
theorem dX9_count_85 : decode cX9_count 85 = .ok (.getfield 245, 3) := by decide +kernel
theorem dX9_count_88 : decode cX9_count 88 = .ok (.ireturn, 1) := by decide +kernel
theorem dX9_count_89 : decode cX9_count 89 = .ok (.aload_n 0, 1) := by decide +kernel
theorem dX9_count_90 : decode cX9_count 90 = .ok (.getfield 12, 3) := by decide +kernel
theorem dX9_count_93 : decode cX9_count 93 = .ok (.getfield 104, 3) := by decide +kernel
theorem dX9_count_96 : decode cX9_count 96 = .ok (.getfield 246, 3) := by decide +kernel
theorem dX9_count_99 : decode cX9_count 99 = .ok (.ireturn, 1) := by decide +kernel
theorem dX9_count_100 : decode cX9_count 100 = .ok (.aload_n 0, 1) := by decide +kernel
theorem dX9_count_101 : decode cX9_count 101 = .ok (.getfield 19, 3) := by decide +kernel
theorem dX9_count_104 : decode cX9_count 104 = .ok (.getfield 247, 3) := by decide +kernel
theorem dX9_count_107 : decode cX9_count 107 = .ok (.ireturn, 1) := by decide +kernel
theorem dX9_count_108 : decode cX9_count 108 = .ok (.aload_n 0, 1) := by decide +kernel
theorem dX9_count_109 : decode cX9_count 109 = .ok (.getfield 12, 3) := by decide +kernel
theorem dX9_count_112 : decode cX9_count 112 = .ok (.getfield 114, 3) := by decide +kernel
theorem dX9_count_115 : decode cX9_count 115 = .ok (.ireturn, 1) := by decide +kernel
theorem dX9_count_116 : decode cX9_count 116 = .ok (.aload_n 0, 1) := by decide +kernel
theorem dX9_count_117 : decode cX9_count 117 = .ok (.getfield 12, 3) := by decide +kernel
theorem dX9_count_120 : decode cX9_count 120 = .ok (.getfield 48, 3) := by decide +kernel
theorem dX9_count_123 : decode cX9_count 123 = .ok (.invokevirtual 248, 3) := by decide +kernel
theorem dX9_count_126 : decode cX9_count 126 = .ok (.ireturn, 1) := by decide +kernel
theorem dX9_count_127 : decode cX9_count 127 = .ok (.aload_n 0, 1) := by decide +kernel
theorem dX9_count_128 : decode cX9_count 128 = .ok (.getfield 12, 3) := by decide +kernel
theorem dX9_count_131 : decode cX9_count 131 = .ok (.getfield 251, 3) := by decide +kernel
theorem dX9_count_134 : decode cX9_count 134 = .ok (.ireturn, 1) := by decide +kernel
theorem dX9_count_135 : decode cX9_count 135 = .ok (.aload_n 0, 1) := by decide +kernel
theorem dX9_count_136 : decode cX9_count 136 = .ok (.getfield 12, 3) := by decide +kernel
theorem dX9_count_139 : decode cX9_count 139 = .ok (.getfield 95, 3) := by decide +kernel
theorem dX9_count_142 : decode cX9_count 142 = .ok (.getfield 254, 3) := by decide +kernel
theorem dX9_count_145 : decode cX9_count 145 = .ok (.invokestatic 257, 3) := by decide +kernel
theorem dX9_count_148 : decode cX9_count 148 = .ok (.ireturn, 1) := by decide +kernel
theorem dX9_count_149 : decode cX9_count 149 = .ok (.aload_n 0, 1) := by decide +kernel
theorem dX9_count_150 : decode cX9_count 150 = .ok (.getfield 12, 3) := by decide +kernel
theorem dX9_count_153 : decode cX9_count 153 = .ok (.getfield 48, 3) := by decide +kernel
theorem dX9_count_156 : decode cX9_count 156 = .ok (.invokevirtual 262, 3) := by decide +kernel
theorem dX9_count_159 : decode cX9_count 159 = .ok (.ireturn, 1) := by decide +kernel
theorem dX9_count_160 : decode cX9_count 160 = .ok (.iconst (-1), 1) := by decide +kernel
theorem dX9_count_161 : decode cX9_count 161 = .ok (.ireturn, 1) := by decide +kernel
theorem dX9_within_0 : decode cX9_within 0 = .ok (.iload_n 0, 1) := by decide +kernel
theorem dX9_within_1 : decode cX9_within 1 = .ok (.iload_n 1, 1) := by decide +kernel
theorem dX9_within_2 : decode cX9_within 2 = .ok (.if_icmp .lt 12, 3) := by decide +kernel
theorem dX9_within_5 : decode cX9_within 5 = .ok (.iload_n 0, 1) := by decide +kernel
theorem dX9_within_6 : decode cX9_within 6 = .ok (.iload_n 2, 1) := by decide +kernel
theorem dX9_within_7 : decode cX9_within 7 = .ok (.if_icmp .gt 7, 3) := by decide +kernel
theorem dX9_within_10 : decode cX9_within 10 = .ok (.iconst 1, 1) := by decide +kernel
theorem dX9_within_11 : decode cX9_within 11 = .ok (.goto 4, 3) := by decide +kernel
theorem dX9_within_14 : decode cX9_within 14 = .ok (.iconst 0, 1) := by decide +kernel
theorem dX9_within_15 : decode cX9_within 15 = .ok (.ireturn, 1) := by decide +kernel
theorem dX9_isHeight_0 : decode cX9_isHeight 0 = .ok (.iload_n 0, 1) := by decide +kernel
theorem dX9_isHeight_1 : decode cX9_isHeight 1 = .ok (.sipush (-500), 3) := by decide +kernel
theorem dX9_isHeight_4 : decode cX9_isHeight 4 = .ok (.sipush 500, 3) := by decide +kernel
theorem dX9_isHeight_7 : decode cX9_isHeight 7 = .ok (.invokestatic 39, 3) := by decide +kernel
theorem dX9_isHeight_10 : decode cX9_isHeight 10 = .ok (.ireturn, 1) := by decide +kernel
theorem dX9_isRain_0 : decode cX9_isRain 0 = .ok (.iload_n 0, 1) := by decide +kernel
theorem dX9_isRain_1 : decode cX9_isRain 1 = .ok (.iconst 0, 1) := by decide +kernel
theorem dX9_isRain_2 : decode cX9_isRain 2 = .ok (.bipush 100, 2) := by decide +kernel
theorem dX9_isRain_4 : decode cX9_isRain 4 = .ok (.invokestatic 39, 3) := by decide +kernel
theorem dX9_isRain_7 : decode cX9_isRain 7 = .ok (.ireturn, 1) := by decide +kernel
theorem dX9_isHourOfDay_0 : decode cX9_isHourOfDay 0 = .ok (.iload_n 0, 1) := by decide +kernel
theorem dX9_isHourOfDay_1 : decode cX9_isHourOfDay 1 = .ok (.iconst 0, 1) := by decide +kernel
theorem dX9_isHourOfDay_2 : decode cX9_isHourOfDay 2 = .ok (.bipush 23, 2) := by decide +kernel
theorem dX9_isHourOfDay_4 : decode cX9_isHourOfDay 4 = .ok (.invokestatic 39, 3) := by decide +kernel
theorem dX9_isHourOfDay_7 : decode cX9_isHourOfDay 7 = .ok (.ireturn, 1) := by decide +kernel
theorem dX9_hourOfDay_0 : decode cX9_hourOfDay 0 = .ok (.iload_n 0, 1) := by decide +kernel
theorem dX9_hourOfDay_1 : decode cX9_hourOfDay 1 = .ok (.bipush 24, 2) := by decide +kernel
theorem dX9_hourOfDay_3 : decode cX9_hourOfDay 3 = .ok (.invokestatic 265, 3) := by decide +kernel
theorem dX9_hourOfDay_6 : decode cX9_hourOfDay 6 = .ok (.ireturn, 1) := by decide +kernel
theorem dX9_isPlanned_0 : decode cX9_isPlanned 0 = .ok (.iload_n 0, 1) := by decide +kernel
theorem dX9_isPlanned_1 : decode cX9_isPlanned 1 = .ok (.iconst 1, 1) := by decide +kernel
theorem dX9_isPlanned_2 : decode cX9_isPlanned 2 = .ok (.bipush 6, 2) := by decide +kernel
theorem dX9_isPlanned_4 : decode cX9_isPlanned 4 = .ok (.invokestatic 39, 3) := by decide +kernel
theorem dX9_isPlanned_7 : decode cX9_isPlanned 7 = .ok (.ireturn, 1) := by decide +kernel
theorem dX9_isSheet_0 : decode cX9_isSheet 0 = .ok (.iload_n 0, 1) := by decide +kernel
theorem dX9_isSheet_1 : decode cX9_isSheet 1 = .ok (.iconst 0, 1) := by decide +kernel
theorem dX9_isSheet_2 : decode cX9_isSheet 2 = .ok (.iconst 3, 1) := by decide +kernel
theorem dX9_isSheet_3 : decode cX9_isSheet 3 = .ok (.invokestatic 39, 3) := by decide +kernel
theorem dX9_isSheet_6 : decode cX9_isSheet 6 = .ok (.ireturn, 1) := by decide +kernel
theorem dX9_isLane_0 : decode cX9_isLane 0 = .ok (.iload_n 0, 1) := by decide +kernel
theorem dX9_isLane_1 : decode cX9_isLane 1 = .ok (.iconst 0, 1) := by decide +kernel
theorem dX9_isLane_2 : decode cX9_isLane 2 = .ok (.iconst 2, 1) := by decide +kernel
theorem dX9_isLane_3 : decode cX9_isLane 3 = .ok (.invokestatic 39, 3) := by decide +kernel
theorem dX9_isLane_6 : decode cX9_isLane 6 = .ok (.ireturn, 1) := by decide +kernel
theorem dX10_init_0 : decode cX10_init 0 = .ok (.aload_n 0, 1) := by decide +kernel
theorem dX10_init_1 : decode cX10_init 1 = .ok (.invokespecial 1, 3) := by decide +kernel
theorem dX10_init_4 : decode cX10_init 4 = .ok (.aload_n 0, 1) := by decide +kernel
theorem dX10_init_5 : decode cX10_init 5 = .ok (.bipush 6, 2) := by decide +kernel
theorem dX10_init_7 : decode cX10_init 7 = .ok (.newarray .int, 2) := by decide +kernel
theorem dX10_init_9 : decode cX10_init 9 = .ok (.putfield 7, 3) := by decide +kernel
theorem dX10_init_12 : decode cX10_init 12 = .ok (.aload_n 0, 1) := by decide +kernel
theorem dX10_init_13 : decode cX10_init 13 = .ok (.bipush 6, 2) := by decide +kernel
theorem dX10_init_15 : decode cX10_init 15 = .ok (.newarray .int, 2) := by decide +kernel
theorem dX10_init_17 : decode cX10_init 17 = .ok (.putfield 13, 3) := by decide +kernel
theorem dX10_init_20 : decode cX10_init 20 = .ok (.aload_n 0, 1) := by decide +kernel
theorem dX10_init_21 : decode cX10_init 21 = .ok (.bipush 6, 2) := by decide +kernel
theorem dX10_init_23 : decode cX10_init 23 = .ok (.newarray .int, 2) := by decide +kernel
theorem dX10_init_25 : decode cX10_init 25 = .ok (.putfield 16, 3) := by decide +kernel
theorem dX10_init_28 : decode cX10_init 28 = .ok (.aload_n 0, 1) := by decide +kernel
theorem dX10_init_29 : decode cX10_init 29 = .ok (.bipush 6, 2) := by decide +kernel
theorem dX10_init_31 : decode cX10_init 31 = .ok (.newarray .int, 2) := by decide +kernel
theorem dX10_init_33 : decode cX10_init 33 = .ok (.putfield 19, 3) := by decide +kernel
theorem dX10_init_36 : decode cX10_init 36 = .ok (.aload_n 0, 1) := by decide +kernel
theorem dX10_init_37 : decode cX10_init 37 = .ok (.bipush 6, 2) := by decide +kernel
theorem dX10_init_39 : decode cX10_init 39 = .ok (.newarray .int, 2) := by decide +kernel
theorem dX10_init_41 : decode cX10_init 41 = .ok (.putfield 22, 3) := by decide +kernel
theorem dX10_init_44 : decode cX10_init 44 = .ok (.aload_n 0, 1) := by decide +kernel
theorem dX10_init_45 : decode cX10_init 45 = .ok (.bipush 6, 2) := by decide +kernel
theorem dX10_init_47 : decode cX10_init 47 = .ok (.newarray .int, 2) := by decide +kernel
theorem dX10_init_49 : decode cX10_init 49 = .ok (.putfield 25, 3) := by decide +kernel
theorem dX10_init_52 : decode cX10_init 52 = .ok (.aload_n 0, 1) := by decide +kernel
theorem dX10_init_53 : decode cX10_init 53 = .ok (.bipush 6, 2) := by decide +kernel
theorem dX10_init_55 : decode cX10_init 55 = .ok (.newarray .int, 2) := by decide +kernel
theorem dX10_init_57 : decode cX10_init 57 = .ok (.putfield 28, 3) := by decide +kernel
theorem dX10_init_60 : decode cX10_init 60 = .ok (.aload_n 0, 1) := by decide +kernel
theorem dX10_init_61 : decode cX10_init 61 = .ok (.bipush 8, 2) := by decide +kernel
theorem dX10_init_63 : decode cX10_init 63 = .ok (.newarray .int, 2) := by decide +kernel
theorem dX10_init_65 : decode cX10_init 65 = .ok (.putfield 31, 3) := by decide +kernel
theorem dX10_init_68 : decode cX10_init 68 = .ok (.aload_n 0, 1) := by decide +kernel
theorem dX10_init_69 : decode cX10_init 69 = .ok (.bipush 8, 2) := by decide +kernel
theorem dX10_init_71 : decode cX10_init 71 = .ok (.newarray .int, 2) := by decide +kernel
theorem dX10_init_73 : decode cX10_init 73 = .ok (.putfield 34, 3) := by decide +kernel
theorem dX10_init_76 : decode cX10_init 76 = .ok (.aload_n 0, 1) := by decide +kernel
theorem dX10_init_77 : decode cX10_init 77 = .ok (.bipush 8, 2) := by decide +kernel
theorem dX10_init_79 : decode cX10_init 79 = .ok (.newarray .int, 2) := by decide +kernel
theorem dX10_init_81 : decode cX10_init 81 = .ok (.putfield 37, 3) := by decide +kernel
theorem dX10_init_84 : decode cX10_init 84 = .ok (.aload_n 0, 1) := by decide +kernel
theorem dX10_init_85 : decode cX10_init 85 = .ok (.bipush 8, 2) := by decide +kernel
theorem dX10_init_87 : decode cX10_init 87 = .ok (.newarray .int, 2) := by decide +kernel
theorem dX10_init_89 : decode cX10_init 89 = .ok (.putfield 40, 3) := by decide +kernel
theorem dX10_init_92 : decode cX10_init 92 = .ok (.aload_n 0, 1) := by decide +kernel
theorem dX10_init_93 : decode cX10_init 93 = .ok (.iconst 4, 1) := by decide +kernel
theorem dX10_init_94 : decode cX10_init 94 = .ok (.newarray .int, 2) := by decide +kernel
theorem dX10_init_96 : decode cX10_init 96 = .ok (.putfield 43, 3) := by decide +kernel
theorem dX10_init_99 : decode cX10_init 99 = .ok (.aload_n 0, 1) := by decide +kernel
theorem dX10_init_100 : decode cX10_init 100 = .ok (.iconst 4, 1) := by decide +kernel
theorem dX10_init_101 : decode cX10_init 101 = .ok (.newarray .int, 2) := by decide +kernel
theorem dX10_init_103 : decode cX10_init 103 = .ok (.putfield 46, 3) := by decide +kernel
theorem dX10_init_106 : decode cX10_init 106 = .ok (.aload_n 0, 1) := by decide +kernel
theorem dX10_init_107 : decode cX10_init 107 = .ok (.iconst 4, 1) := by decide +kernel
theorem dX10_init_108 : decode cX10_init 108 = .ok (.newarray .int, 2) := by decide +kernel
theorem dX10_init_110 : decode cX10_init 110 = .ok (.putfield 49, 3) := by decide +kernel
theorem dX10_init_113 : decode cX10_init 113 = .ok (.aload_n 0, 1) := by decide +kernel
theorem dX10_init_114 : decode cX10_init 114 = .ok (.iconst 4, 1) := by decide +kernel
theorem dX10_init_115 : decode cX10_init 115 = .ok (.newarray .int, 2) := by decide +kernel
theorem dX10_init_117 : decode cX10_init 117 = .ok (.putfield 52, 3) := by decide +kernel
theorem dX10_init_120 : decode cX10_init 120 = .ok (.aload_n 0, 1) := by decide +kernel
theorem dX10_init_121 : decode cX10_init 121 = .ok (.iconst 4, 1) := by decide +kernel
theorem dX10_init_122 : decode cX10_init 122 = .ok (.newarray .int, 2) := by decide +kernel
theorem dX10_init_124 : decode cX10_init 124 = .ok (.putfield 55, 3) := by decide +kernel
theorem dX10_init_127 : decode cX10_init 127 = .ok (.aload_n 0, 1) := by decide +kernel
theorem dX10_init_128 : decode cX10_init 128 = .ok (.iconst 4, 1) := by decide +kernel
theorem dX10_init_129 : decode cX10_init 129 = .ok (.newarray .boolean, 2) := by decide +kernel
theorem dX10_init_131 : decode cX10_init 131 = .ok (.putfield 58, 3) := by decide +kernel
theorem dX10_init_134 : decode cX10_init 134 = .ok (.aload_n 0, 1) := by decide +kernel
theorem dX10_init_135 : decode cX10_init 135 = .ok (.iconst 4, 1) := by decide +kernel
theorem dX10_init_136 : decode cX10_init 136 = .ok (.newarray .int, 2) := by decide +kernel
theorem dX10_init_138 : decode cX10_init 138 = .ok (.putfield 62, 3) := by decide +kernel
theorem dX10_init_141 : decode cX10_init 141 = .ok (.aload_n 0, 1) := by decide +kernel
theorem dX10_init_142 : decode cX10_init 142 = .ok (.iconst 4, 1) := by decide +kernel
theorem dX10_init_143 : decode cX10_init 143 = .ok (.newarray .int, 2) := by decide +kernel
theorem dX10_init_145 : decode cX10_init 145 = .ok (.putfield 65, 3) := by decide +kernel
theorem dX10_init_148 : decode cX10_init 148 = .ok (.aload_n 0, 1) := by decide +kernel
theorem dX10_init_149 : decode cX10_init 149 = .ok (.iconst 4, 1) := by decide +kernel
theorem dX10_init_150 : decode cX10_init 150 = .ok (.newarray .int, 2) := by decide +kernel
theorem dX10_init_152 : decode cX10_init 152 = .ok (.putfield 68, 3) := by decide +kernel
theorem dX10_init_155 : decode cX10_init 155 = .ok (.aload_n 0, 1) := by decide +kernel
theorem dX10_init_156 : decode cX10_init 156 = .ok (.iconst 4, 1) := by decide +kernel
theorem dX10_init_157 : decode cX10_init 157 = .ok (.newarray .boolean, 2) := by decide +kernel
theorem dX10_init_159 : decode cX10_init 159 = .ok (.putfield 71, 3) := by decide +kernel
theorem dX10_init_162 : decode cX10_init 162 = .ok (.aload_n 0, 1) := by decide +kernel
theorem dX10_init_163 : decode cX10_init 163 = .ok (.bipush 24, 2) := by decide +kernel
theorem dX10_init_165 : decode cX10_init 165 = .ok (.newarray .int, 2) := by decide +kernel
theorem dX10_init_167 : decode cX10_init 167 = .ok (.putfield 74, 3) := by decide +kernel
theorem dX10_init_170 : decode cX10_init 170 = .ok (.aload_n 0, 1) := by decide +kernel
theorem dX10_init_171 : decode cX10_init 171 = .ok (.bipush 24, 2) := by decide +kernel
theorem dX10_init_173 : decode cX10_init 173 = .ok (.newarray .int, 2) := by decide +kernel
theorem dX10_init_175 : decode cX10_init 175 = .ok (.putfield 77, 3) := by decide +kernel
theorem dX10_init_178 : decode cX10_init 178 = .ok (.aload_n 0, 1) := by decide +kernel
theorem dX10_init_179 : decode cX10_init 179 = .ok (.bipush 8, 2) := by decide +kernel
theorem dX10_init_181 : decode cX10_init 181 = .ok (.newarray .int, 2) := by decide +kernel
theorem dX10_init_183 : decode cX10_init 183 = .ok (.putfield 80, 3) := by decide +kernel
theorem dX10_init_186 : decode cX10_init 186 = .ok (.aload_n 0, 1) := by decide +kernel
theorem dX10_init_187 : decode cX10_init 187 = .ok (.iconst 4, 1) := by decide +kernel
theorem dX10_init_188 : decode cX10_init 188 = .ok (.newarray .int, 2) := by decide +kernel
theorem dX10_init_190 : decode cX10_init 190 = .ok (.putfield 83, 3) := by decide +kernel
theorem dX10_init_193 : decode cX10_init 193 = .ok (.aload_n 0, 1) := by decide +kernel
theorem dX10_init_194 : decode cX10_init 194 = .ok (.iconst 4, 1) := by decide +kernel
theorem dX10_init_195 : decode cX10_init 195 = .ok (.newarray .int, 2) := by decide +kernel
theorem dX10_init_197 : decode cX10_init 197 = .ok (.putfield 86, 3) := by decide +kernel
theorem dX10_init_200 : decode cX10_init 200 = .ok (.aload_n 0, 1) := by decide +kernel
theorem dX10_init_201 : decode cX10_init 201 = .ok (.bipush 18, 2) := by decide +kernel
theorem dX10_init_203 : decode cX10_init 203 = .ok (.newarray .int, 2) := by decide +kernel
theorem dX10_init_205 : decode cX10_init 205 = .ok (.putfield 89, 3) := by decide +kernel
theorem dX10_init_208 : decode cX10_init 208 = .ok (.aload_n 0, 1) := by decide +kernel
theorem dX10_init_209 : decode cX10_init 209 = .ok (.bipush 6, 2) := by decide +kernel
theorem dX10_init_211 : decode cX10_init 211 = .ok (.newarray .int, 2) := by decide +kernel
theorem dX10_init_213 : decode cX10_init 213 = .ok (.putfield 92, 3) := by decide +kernel
theorem dX10_init_216 : decode cX10_init 216 = .ok (.aload_n 0, 1) := by decide +kernel
theorem dX10_init_217 : decode cX10_init 217 = .ok (.bipush 6, 2) := by decide +kernel
theorem dX10_init_219 : decode cX10_init 219 = .ok (.newarray .int, 2) := by decide +kernel
theorem dX10_init_221 : decode cX10_init 221 = .ok (.putfield 95, 3) := by decide +kernel
theorem dX10_init_224 : decode cX10_init 224 = .ok (.aload_n 0, 1) := by decide +kernel
theorem dX10_init_225 : decode cX10_init 225 = .ok (.bipush 6, 2) := by decide +kernel
theorem dX10_init_227 : decode cX10_init 227 = .ok (.newarray .int, 2) := by decide +kernel
theorem dX10_init_229 : decode cX10_init 229 = .ok (.putfield 98, 3) := by decide +kernel
theorem dX10_init_232 : decode cX10_init 232 = .ok (.aload_n 0, 1) := by decide +kernel
theorem dX10_init_233 : decode cX10_init 233 = .ok (.bipush 16, 2) := by decide +kernel
theorem dX10_init_235 : decode cX10_init 235 = .ok (.newarray .int, 2) := by decide +kernel
theorem dX10_init_237 : decode cX10_init 237 = .ok (.putfield 101, 3) := by decide +kernel
theorem dX10_init_240 : decode cX10_init 240 = .ok (.aload_n 0, 1) := by decide +kernel
theorem dX10_init_241 : decode cX10_init 241 = .ok (.iconst 4, 1) := by decide +kernel
theorem dX10_init_242 : decode cX10_init 242 = .ok (.newarray .int, 2) := by decide +kernel
theorem dX10_init_244 : decode cX10_init 244 = .ok (.putfield 104, 3) := by decide +kernel
theorem dX10_init_247 : decode cX10_init 247 = .ok (.aload_n 0, 1) := by decide +kernel
theorem dX10_init_248 : decode cX10_init 248 = .ok (.iconst 4, 1) := by decide +kernel
theorem dX10_init_249 : decode cX10_init 249 = .ok (.newarray .int, 2) := by decide +kernel
theorem dX10_init_251 : decode cX10_init 251 = .ok (.putfield 107, 3) := by decide +kernel
theorem dX10_init_254 : decode cX10_init 254 = .ok (.aload_n 0, 1) := by decide +kernel
theorem dX10_init_255 : decode cX10_init 255 = .ok (.sipush 240, 3) := by decide +kernel
theorem dX10_init_258 : decode cX10_init 258 = .ok (.newarray .int, 2) := by decide +kernel
theorem dX10_init_260 : decode cX10_init 260 = .ok (.putfield 110, 3) := by decide +kernel
theorem dX10_init_263 : decode cX10_init 263 = .ok (.iconst 0, 1) := by decide +kernel
theorem dX10_init_264 : decode cX10_init 264 = .ok (.istore_n 1, 1) := by decide +kernel
theorem dX10_init_265 : decode cX10_init 265 = .ok (.iload_n 1, 1) := by decide +kernel
theorem dX10_init_266 : decode cX10_init 266 = .ok (.iconst 4, 1) := by decide +kernel
theorem dX10_init_267 : decode cX10_init 267 = .ok (.if_icmp .ge 17, 3) := by decide +kernel
theorem dX10_init_270 : decode cX10_init 270 = .ok (.aload_n 0, 1) := by decide +kernel
theorem dX10_init_271 : decode cX10_init 271 = .ok (.getfield 104, 3) := by decide +kernel
theorem dX10_init_274 : decode cX10_init 274 = .ok (.iload_n 1, 1) := by decide +kernel
theorem dX10_init_275 : decode cX10_init 275 = .ok (.bipush (-4), 2) := by decide +kernel
theorem dX10_init_277 : decode cX10_init 277 = .ok (.iastore, 1) := by decide +kernel
theorem dX10_init_278 : decode cX10_init 278 = .ok (.iinc 1 1, 3) := by decide +kernel
theorem dX10_init_281 : decode cX10_init 281 = .ok (.goto (-16), 3) := by decide +kernel
theorem dX10_init_284 : decode cX10_init 284 = .ok (.iconst 0, 1) := by decide +kernel
theorem dX10_init_285 : decode cX10_init 285 = .ok (.istore_n 1, 1) := by decide +kernel
theorem dX10_init_286 : decode cX10_init 286 = .ok (.iload_n 1, 1) := by decide +kernel
theorem dX10_init_287 : decode cX10_init 287 = .ok (.bipush 24, 2) := by decide +kernel
theorem dX10_init_289 : decode cX10_init 289 = .ok (.if_icmp .ge 16, 3) := by decide +kernel
theorem dX10_init_292 : decode cX10_init 292 = .ok (.aload_n 0, 1) := by decide +kernel
theorem dX10_init_293 : decode cX10_init 293 = .ok (.getfield 77, 3) := by decide +kernel
theorem dX10_init_296 : decode cX10_init 296 = .ok (.iload_n 1, 1) := by decide +kernel
theorem dX10_init_297 : decode cX10_init 297 = .ok (.iconst 1, 1) := by decide +kernel
theorem dX10_init_298 : decode cX10_init 298 = .ok (.iastore, 1) := by decide +kernel
theorem dX10_init_299 : decode cX10_init 299 = .ok (.iinc 1 1, 3) := by decide +kernel
theorem dX10_init_302 : decode cX10_init 302 = .ok (.goto (-16), 3) := by decide +kernel
theorem dX10_init_305 : decode cX10_init 305 = .ok (.return_, 1) := by decide +kernel
theorem dX10_in_0 : decode cX10_in 0 = .ok (.lload_n 0, 1) := by decide +kernel
theorem dX10_in_1 : decode cX10_in 1 = .ok (.lload_n 2, 1) := by decide +kernel
theorem dX10_in_2 : decode cX10_in 2 = .ok (.lcmp, 1) := by decide +kernel
theorem dX10_in_3 : decode cX10_in 3 = .ok (.ifCond .lt 14, 3) := by decide +kernel
theorem dX10_in_6 : decode cX10_in 6 = .ok (.lload_n 0, 1) := by decide +kernel
theorem dX10_in_7 : decode cX10_in 7 = .ok (.lload 4, 2) := by decide +kernel
theorem dX10_in_9 : decode cX10_in 9 = .ok (.lcmp, 1) := by decide +kernel
theorem dX10_in_10 : decode cX10_in 10 = .ok (.ifCond .gt 7, 3) := by decide +kernel
theorem dX10_in_13 : decode cX10_in 13 = .ok (.iconst 1, 1) := by decide +kernel
theorem dX10_in_14 : decode cX10_in 14 = .ok (.goto 4, 3) := by decide +kernel
theorem dX10_in_17 : decode cX10_in 17 = .ok (.iconst 0, 1) := by decide +kernel
theorem dX10_in_18 : decode cX10_in 18 = .ok (.ireturn, 1) := by decide +kernel
theorem dX10_isDitch_0 : decode cX10_isDitch 0 = .ok (.iload_n 1, 1) := by decide +kernel
theorem dX10_isDitch_1 : decode cX10_isDitch 1 = .ok (.i2l, 1) := by decide +kernel
theorem dX10_isDitch_2 : decode cX10_isDitch 2 = .ok (.lconst 0, 1) := by decide +kernel
theorem dX10_isDitch_3 : decode cX10_isDitch 3 = .ok (.aload_n 0, 1) := by decide +kernel
theorem dX10_isDitch_4 : decode cX10_isDitch 4 = .ok (.getfield 113, 3) := by decide +kernel
theorem dX10_isDitch_7 : decode cX10_isDitch 7 = .ok (.iconst 1, 1) := by decide +kernel
theorem dX10_isDitch_8 : decode cX10_isDitch 8 = .ok (.isub, 1) := by decide +kernel
theorem dX10_isDitch_9 : decode cX10_isDitch 9 = .ok (.i2l, 1) := by decide +kernel
theorem dX10_isDitch_10 : decode cX10_isDitch 10 = .ok (.invokestatic 117, 3) := by decide +kernel
theorem dX10_isDitch_13 : decode cX10_isDitch 13 = .ok (.ireturn, 1) := by decide +kernel
theorem dX10_ditch_0 : decode cX10_ditch 0 = .ok (.iload_n 1, 1) := by decide +kernel
theorem dX10_ditch_1 : decode cX10_ditch 1 = .ok (.i2l, 1) := by decide +kernel
theorem dX10_ditch_2 : decode cX10_ditch 2 = .ok (.lconst 1, 1) := by decide +kernel
theorem dX10_ditch_3 : decode cX10_ditch 3 = .ok (.ldc2_w 121, 3) := by decide +kernel
theorem dX10_ditch_6 : decode cX10_ditch 6 = .ok (.invokestatic 117, 3) := by decide +kernel
theorem dX10_ditch_9 : decode cX10_ditch 9 = .ok (.ifCond .eq 29, 3) := by decide +kernel
theorem dX10_ditch_12 : decode cX10_ditch 12 = .ok (.iload_n 2, 1) := by decide +kernel
theorem dX10_ditch_13 : decode cX10_ditch 13 = .ok (.i2l, 1) := by decide +kernel
theorem dX10_ditch_14 : decode cX10_ditch 14 = .ok (.ldc2_w 123, 3) := by decide +kernel
theorem dX10_ditch_17 : decode cX10_ditch 17 = .ok (.ldc2_w 125, 3) := by decide +kernel
theorem dX10_ditch_20 : decode cX10_ditch 20 = .ok (.invokestatic 117, 3) := by decide +kernel
theorem dX10_ditch_23 : decode cX10_ditch 23 = .ok (.ifCond .eq 15, 3) := by decide +kernel
theorem dX10_ditch_26 : decode cX10_ditch 26 = .ok (.iload_n 3, 1) := by decide +kernel
theorem dX10_ditch_27 : decode cX10_ditch 27 = .ok (.i2l, 1) := by decide +kernel
theorem dX10_ditch_28 : decode cX10_ditch 28 = .ok (.lconst 0, 1) := by decide +kernel
theorem dX10_ditch_29 : decode cX10_ditch 29 = .ok (.ldc2_w 127, 3) := by decide +kernel
theorem dX10_ditch_32 : decode cX10_ditch 32 = .ok (.invokestatic 117, 3) := by decide +kernel
theorem dX10_ditch_35 : decode cX10_ditch 35 = .ok (.ifCond .ne 5, 3) := by decide +kernel
theorem dX10_ditch_38 : decode cX10_ditch 38 = .ok (.iconst (-1), 1) := by decide +kernel
theorem dX10_ditch_39 : decode cX10_ditch 39 = .ok (.ireturn, 1) := by decide +kernel
theorem dX10_ditch_40 : decode cX10_ditch 40 = .ok (.aload_n 0, 1) := by decide +kernel
theorem dX10_ditch_41 : decode cX10_ditch 41 = .ok (.getfield 113, 3) := by decide +kernel
theorem dX10_ditch_44 : decode cX10_ditch 44 = .ok (.bipush 6, 2) := by decide +kernel
theorem dX10_ditch_46 : decode cX10_ditch 46 = .ok (.if_icmp .ne 6, 3) := by decide +kernel
theorem dX10_ditch_49 : decode cX10_ditch 49 = .ok (.bipush (-3), 2) := by decide +kernel
theorem dX10_ditch_51 : decode cX10_ditch 51 = .ok (.ireturn, 1) := by decide +kernel
theorem dX10_ditch_52 : decode cX10_ditch 52 = .ok (.aload_n 0, 1) := by decide +kernel
theorem dX10_ditch_53 : decode cX10_ditch 53 = .ok (.getfield 7, 3) := by decide +kernel
theorem dX10_ditch_56 : decode cX10_ditch 56 = .ok (.aload_n 0, 1) := by decide +kernel
theorem dX10_ditch_57 : decode cX10_ditch 57 = .ok (.getfield 113, 3) := by decide +kernel
theorem dX10_ditch_60 : decode cX10_ditch 60 = .ok (.iload_n 1, 1) := by decide +kernel
theorem dX10_ditch_61 : decode cX10_ditch 61 = .ok (.iastore, 1) := by decide +kernel
theorem dX10_ditch_62 : decode cX10_ditch 62 = .ok (.aload_n 0, 1) := by decide +kernel
theorem dX10_ditch_63 : decode cX10_ditch 63 = .ok (.getfield 13, 3) := by decide +kernel
theorem dX10_ditch_66 : decode cX10_ditch 66 = .ok (.aload_n 0, 1) := by decide +kernel
theorem dX10_ditch_67 : decode cX10_ditch 67 = .ok (.getfield 113, 3) := by decide +kernel
theorem dX10_ditch_70 : decode cX10_ditch 70 = .ok (.iload_n 2, 1) := by decide +kernel
theorem dX10_ditch_71 : decode cX10_ditch 71 = .ok (.iastore, 1) := by decide +kernel
theorem dX10_ditch_72 : decode cX10_ditch 72 = .ok (.aload_n 0, 1) := by decide +kernel
theorem dX10_ditch_73 : decode cX10_ditch 73 = .ok (.getfield 16, 3) := by decide +kernel
theorem dX10_ditch_76 : decode cX10_ditch 76 = .ok (.aload_n 0, 1) := by decide +kernel
theorem dX10_ditch_77 : decode cX10_ditch 77 = .ok (.getfield 113, 3) := by decide +kernel
theorem dX10_ditch_80 : decode cX10_ditch 80 = .ok (.iload_n 3, 1) := by decide +kernel
theorem dX10_ditch_81 : decode cX10_ditch 81 = .ok (.iastore, 1) := by decide +kernel
theorem dX10_ditch_82 : decode cX10_ditch 82 = .ok (.aload_n 0, 1) := by decide +kernel
theorem dX10_ditch_83 : decode cX10_ditch 83 = .ok (.getfield 19, 3) := by decide +kernel
theorem dX10_ditch_86 : decode cX10_ditch 86 = .ok (.aload_n 0, 1) := by decide +kernel
theorem dX10_ditch_87 : decode cX10_ditch 87 = .ok (.getfield 113, 3) := by decide +kernel
theorem dX10_ditch_90 : decode cX10_ditch 90 = .ok (.sipush (-1000), 3) := by decide +kernel
theorem dX10_ditch_93 : decode cX10_ditch 93 = .ok (.iastore, 1) := by decide +kernel
theorem dX10_ditch_94 : decode cX10_ditch 94 = .ok (.aload_n 0, 1) := by decide +kernel
theorem dX10_ditch_95 : decode cX10_ditch 95 = .ok (.getfield 22, 3) := by decide +kernel
theorem dX10_ditch_98 : decode cX10_ditch 98 = .ok (.aload_n 0, 1) := by decide +kernel
theorem dX10_ditch_99 : decode cX10_ditch 99 = .ok (.getfield 113, 3) := by decide +kernel
theorem dX10_ditch_102 : decode cX10_ditch 102 = .ok (.sipush 1000, 3) := by decide +kernel
theorem dX10_ditch_105 : decode cX10_ditch 105 = .ok (.iastore, 1) := by decide +kernel
theorem dX10_ditch_106 : decode cX10_ditch 106 = .ok (.aload_n 0, 1) := by decide +kernel
theorem dX10_ditch_107 : decode cX10_ditch 107 = .ok (.dup, 1) := by decide +kernel
theorem dX10_ditch_108 : decode cX10_ditch 108 = .ok (.getfield 113, 3) := by decide +kernel
theorem dX10_ditch_111 : decode cX10_ditch 111 = .ok (.iconst 1, 1) := by decide +kernel
theorem dX10_ditch_112 : decode cX10_ditch 112 = .ok (.iadd, 1) := by decide +kernel
theorem dX10_ditch_113 : decode cX10_ditch 113 = .ok (.putfield 113, 3) := by decide +kernel
theorem dX10_ditch_116 : decode cX10_ditch 116 = .ok (.aload_n 0, 1) := by decide +kernel
theorem dX10_ditch_117 : decode cX10_ditch 117 = .ok (.getfield 113, 3) := by decide +kernel
theorem dX10_ditch_120 : decode cX10_ditch 120 = .ok (.iconst 1, 1) := by decide +kernel
theorem dX10_ditch_121 : decode cX10_ditch 121 = .ok (.isub, 1) := by decide +kernel
theorem dX10_ditch_122 : decode cX10_ditch 122 = .ok (.ireturn, 1) := by decide +kernel
theorem dX10_band_0 : decode cX10_band 0 = .ok (.aload_n 0, 1) := by decide +kernel
theorem dX10_band_1 : decode cX10_band 1 = .ok (.iload_n 1, 1) := by decide +kernel
theorem dX10_band_2 : decode cX10_band 2 = .ok (.invokevirtual 129, 3) := by decide +kernel
theorem dX10_band_5 : decode cX10_band 5 = .ok (.ifCond .eq 30, 3) := by decide +kernel
theorem dX10_band_8 : decode cX10_band 8 = .ok (.iload_n 2, 1) := by decide +kernel
theorem dX10_band_9 : decode cX10_band 9 = .ok (.i2l, 1) := by decide +kernel
theorem dX10_band_10 : decode cX10_band 10 = .ok (.ldc2_w 133, 3) := by decide +kernel
theorem dX10_band_13 : decode cX10_band 13 = .ok (.ldc2_w 135, 3) := by decide +kernel
theorem dX10_band_16 : decode cX10_band 16 = .ok (.invokestatic 117, 3) := by decide +kernel
theorem dX10_band_19 : decode cX10_band 19 = .ok (.ifCond .eq 16, 3) := by decide +kernel
theorem dX10_band_22 : decode cX10_band 22 = .ok (.iload_n 3, 1) := by decide +kernel
theorem dX10_band_23 : decode cX10_band 23 = .ok (.i2l, 1) := by decide +kernel
theorem dX10_band_24 : decode cX10_band 24 = .ok (.iload_n 2, 1) := by decide +kernel
theorem dX10_band_25 : decode cX10_band 25 = .ok (.i2l, 1) := by decide +kernel
theorem dX10_band_26 : decode cX10_band 26 = .ok (.ldc2_w 135, 3) := by decide +kernel
theorem dX10_band_29 : decode cX10_band 29 = .ok (.invokestatic 117, 3) := by decide +kernel
theorem dX10_band_32 : decode cX10_band 32 = .ok (.ifCond .ne 5, 3) := by decide +kernel
theorem dX10_band_35 : decode cX10_band 35 = .ok (.iconst (-1), 1) := by decide +kernel
theorem dX10_band_36 : decode cX10_band 36 = .ok (.ireturn, 1) := by decide +kernel
theorem dX10_band_37 : decode cX10_band 37 = .ok (.aload_n 0, 1) := by decide +kernel
theorem dX10_band_38 : decode cX10_band 38 = .ok (.getfield 19, 3) := by decide +kernel
theorem dX10_band_41 : decode cX10_band 41 = .ok (.iload_n 1, 1) := by decide +kernel
theorem dX10_band_42 : decode cX10_band 42 = .ok (.iload_n 2, 1) := by decide +kernel
theorem dX10_band_43 : decode cX10_band 43 = .ok (.iastore, 1) := by decide +kernel
theorem dX10_band_44 : decode cX10_band 44 = .ok (.aload_n 0, 1) := by decide +kernel
theorem dX10_band_45 : decode cX10_band 45 = .ok (.getfield 22, 3) := by decide +kernel
theorem dX10_band_48 : decode cX10_band 48 = .ok (.iload_n 1, 1) := by decide +kernel
theorem dX10_band_49 : decode cX10_band 49 = .ok (.iload_n 3, 1) := by decide +kernel
theorem dX10_band_50 : decode cX10_band 50 = .ok (.iastore, 1) := by decide +kernel
theorem dX10_band_51 : decode cX10_band 51 = .ok (.iconst 1, 1) := by decide +kernel
theorem dX10_band_52 : decode cX10_band 52 = .ok (.ireturn, 1) := by decide +kernel
theorem dX10_level_0 : decode cX10_level 0 = .ok (.aload_n 0, 1) := by decide +kernel
theorem dX10_level_1 : decode cX10_level 1 = .ok (.getfield 13, 3) := by decide +kernel
theorem dX10_level_4 : decode cX10_level 4 = .ok (.iload_n 1, 1) := by decide +kernel
theorem dX10_level_5 : decode cX10_level 5 = .ok (.iaload, 1) := by decide +kernel
theorem dX10_level_6 : decode cX10_level 6 = .ok (.aload_n 0, 1) := by decide +kernel
theorem dX10_level_7 : decode cX10_level 7 = .ok (.getfield 16, 3) := by decide +kernel
theorem dX10_level_10 : decode cX10_level 10 = .ok (.iload_n 1, 1) := by decide +kernel
theorem dX10_level_11 : decode cX10_level 11 = .ok (.iaload, 1) := by decide +kernel
theorem dX10_level_12 : decode cX10_level 12 = .ok (.aload_n 0, 1) := by decide +kernel
theorem dX10_level_13 : decode cX10_level 13 = .ok (.getfield 7, 3) := by decide +kernel
theorem dX10_level_16 : decode cX10_level 16 = .ok (.iload_n 1, 1) := by decide +kernel
theorem dX10_level_17 : decode cX10_level 17 = .ok (.iaload, 1) := by decide +kernel
theorem dX10_level_18 : decode cX10_level 18 = .ok (.idiv, 1) := by decide +kernel
theorem dX10_level_19 : decode cX10_level 19 = .ok (.iadd, 1) := by decide +kernel
theorem dX10_level_20 : decode cX10_level 20 = .ok (.ireturn, 1) := by decide +kernel
theorem dX10_breach_0 : decode cX10_breach 0 = .ok (.aload_n 0, 1) := by decide +kernel
theorem dX10_breach_1 : decode cX10_breach 1 = .ok (.iload_n 1, 1) := by decide +kernel
theorem dX10_breach_2 : decode cX10_breach 2 = .ok (.invokevirtual 137, 3) := by decide +kernel
theorem dX10_breach_5 : decode cX10_breach 5 = .ok (.istore_n 2, 1) := by decide +kernel
theorem dX10_breach_6 : decode cX10_breach 6 = .ok (.iload_n 2, 1) := by decide +kernel
theorem dX10_breach_7 : decode cX10_breach 7 = .ok (.aload_n 0, 1) := by decide +kernel
theorem dX10_breach_8 : decode cX10_breach 8 = .ok (.getfield 19, 3) := by decide +kernel
theorem dX10_breach_11 : decode cX10_breach 11 = .ok (.iload_n 1, 1) := by decide +kernel
theorem dX10_breach_12 : decode cX10_breach 12 = .ok (.iaload, 1) := by decide +kernel
theorem dX10_breach_13 : decode cX10_breach 13 = .ok (.if_icmp .ge 14, 3) := by decide +kernel
theorem dX10_breach_16 : decode cX10_breach 16 = .ok (.aload_n 0, 1) := by decide +kernel
theorem dX10_breach_17 : decode cX10_breach 17 = .ok (.getfield 19, 3) := by decide +kernel
theorem dX10_breach_20 : decode cX10_breach 20 = .ok (.iload_n 1, 1) := by decide +kernel
theorem dX10_breach_21 : decode cX10_breach 21 = .ok (.iaload, 1) := by decide +kernel
theorem dX10_breach_22 : decode cX10_breach 22 = .ok (.iload_n 2, 1) := by decide +kernel
theorem dX10_breach_23 : decode cX10_breach 23 = .ok (.isub, 1) := by decide +kernel
theorem dX10_breach_24 : decode cX10_breach 24 = .ok (.goto 25, 3) := by decide +kernel
theorem dX10_breach_27 : decode cX10_breach 27 = .ok (.iload_n 2, 1) := by decide +kernel
theorem dX10_breach_28 : decode cX10_breach 28 = .ok (.aload_n 0, 1) := by decide +kernel
theorem dX10_breach_29 : decode cX10_breach 29 = .ok (.getfield 22, 3) := by decide +kernel
theorem dX10_breach_32 : decode cX10_breach 32 = .ok (.iload_n 1, 1) := by decide +kernel
theorem dX10_breach_33 : decode cX10_breach 33 = .ok (.iaload, 1) := by decide +kernel
theorem dX10_breach_34 : decode cX10_breach 34 = .ok (.if_icmp .le 14, 3) := by decide +kernel
theorem dX10_breach_37 : decode cX10_breach 37 = .ok (.iload_n 2, 1) := by decide +kernel
theorem dX10_breach_38 : decode cX10_breach 38 = .ok (.aload_n 0, 1) := by decide +kernel
theorem dX10_breach_39 : decode cX10_breach 39 = .ok (.getfield 22, 3) := by decide +kernel
theorem dX10_breach_42 : decode cX10_breach 42 = .ok (.iload_n 1, 1) := by decide +kernel
theorem dX10_breach_43 : decode cX10_breach 43 = .ok (.iaload, 1) := by decide +kernel
theorem dX10_breach_44 : decode cX10_breach 44 = .ok (.isub, 1) := by decide +kernel
theorem dX10_breach_45 : decode cX10_breach 45 = .ok (.goto 4, 3) := by decide +kernel
theorem dX10_breach_48 : decode cX10_breach 48 = .ok (.iconst 0, 1) := by decide +kernel
theorem dX10_breach_49 : decode cX10_breach 49 = .ok (.ireturn, 1) := by decide +kernel
theorem dX10_told_0 : decode cX10_told 0 = .ok (.aload_n 0, 1) := by decide +kernel
theorem dX10_told_1 : decode cX10_told 1 = .ok (.iload_n 1, 1) := by decide +kernel
theorem dX10_told_2 : decode cX10_told 2 = .ok (.invokevirtual 129, 3) := by decide +kernel
theorem dX10_told_5 : decode cX10_told 5 = .ok (.ifCond .eq 15, 3) := by decide +kernel
theorem dX10_told_8 : decode cX10_told 8 = .ok (.iload_n 2, 1) := by decide +kernel
theorem dX10_told_9 : decode cX10_told 9 = .ok (.i2l, 1) := by decide +kernel
theorem dX10_told_10 : decode cX10_told 10 = .ok (.lconst 0, 1) := by decide +kernel
theorem dX10_told_11 : decode cX10_told 11 = .ok (.ldc2_w 141, 3) := by decide +kernel
theorem dX10_told_14 : decode cX10_told 14 = .ok (.invokestatic 117, 3) := by decide +kernel
theorem dX10_told_17 : decode cX10_told 17 = .ok (.ifCond .ne 6, 3) := by decide +kernel
theorem dX10_told_20 : decode cX10_told 20 = .ok (.ldc 143, 2) := by decide +kernel
theorem dX10_told_22 : decode cX10_told 22 = .ok (.ireturn, 1) := by decide +kernel
theorem dX10_told_23 : decode cX10_told 23 = .ok (.iload_n 2, 1) := by decide +kernel
theorem dX10_told_24 : decode cX10_told 24 = .ok (.ifCond .ne 12, 3) := by decide +kernel
theorem dX10_told_27 : decode cX10_told 27 = .ok (.aload_n 0, 1) := by decide +kernel
theorem dX10_told_28 : decode cX10_told 28 = .ok (.getfield 16, 3) := by decide +kernel
theorem dX10_told_31 : decode cX10_told 31 = .ok (.iload_n 1, 1) := by decide +kernel
theorem dX10_told_32 : decode cX10_told 32 = .ok (.iaload, 1) := by decide +kernel
theorem dX10_told_33 : decode cX10_told 33 = .ok (.goto 49, 3) := by decide +kernel
theorem dX10_told_36 : decode cX10_told 36 = .ok (.iload_n 2, 1) := by decide +kernel
theorem dX10_told_37 : decode cX10_told 37 = .ok (.iconst 1, 1) := by decide +kernel
theorem dX10_told_38 : decode cX10_told 38 = .ok (.if_icmp .ne 11, 3) := by decide +kernel
theorem dX10_told_41 : decode cX10_told 41 = .ok (.aload_n 0, 1) := by decide +kernel
theorem dX10_told_42 : decode cX10_told 42 = .ok (.iload_n 1, 1) := by decide +kernel
theorem dX10_told_43 : decode cX10_told 43 = .ok (.invokevirtual 137, 3) := by decide +kernel
theorem dX10_told_46 : decode cX10_told 46 = .ok (.goto 36, 3) := by decide +kernel
theorem dX10_told_49 : decode cX10_told 49 = .ok (.iload_n 2, 1) := by decide +kernel
theorem dX10_told_50 : decode cX10_told 50 = .ok (.iconst 2, 1) := by decide +kernel
theorem dX10_told_51 : decode cX10_told 51 = .ok (.if_icmp .ne 11, 3) := by decide +kernel
theorem dX10_told_54 : decode cX10_told 54 = .ok (.aload_n 0, 1) := by decide +kernel
theorem dX10_told_55 : decode cX10_told 55 = .ok (.iload_n 1, 1) := by decide +kernel
theorem dX10_told_56 : decode cX10_told 56 = .ok (.invokevirtual 144, 3) := by decide +kernel
theorem dX10_told_59 : decode cX10_told 59 = .ok (.goto 23, 3) := by decide +kernel
theorem dX10_told_62 : decode cX10_told 62 = .ok (.iload_n 2, 1) := by decide +kernel
theorem dX10_told_63 : decode cX10_told 63 = .ok (.iconst 3, 1) := by decide +kernel
theorem dX10_told_64 : decode cX10_told 64 = .ok (.if_icmp .ne 12, 3) := by decide +kernel
theorem dX10_told_67 : decode cX10_told 67 = .ok (.aload_n 0, 1) := by decide +kernel
theorem dX10_told_68 : decode cX10_told 68 = .ok (.getfield 25, 3) := by decide +kernel
theorem dX10_told_71 : decode cX10_told 71 = .ok (.iload_n 1, 1) := by decide +kernel
theorem dX10_told_72 : decode cX10_told 72 = .ok (.iaload, 1) := by decide +kernel
theorem dX10_told_73 : decode cX10_told 73 = .ok (.goto 9, 3) := by decide +kernel
theorem dX10_told_76 : decode cX10_told 76 = .ok (.aload_n 0, 1) := by decide +kernel
theorem dX10_told_77 : decode cX10_told 77 = .ok (.getfield 28, 3) := by decide +kernel
theorem dX10_told_80 : decode cX10_told 80 = .ok (.iload_n 1, 1) := by decide +kernel
theorem dX10_told_81 : decode cX10_told 81 = .ok (.iaload, 1) := by decide +kernel
theorem dX10_told_82 : decode cX10_told 82 = .ok (.ireturn, 1) := by decide +kernel
theorem dX10_weir_0 : decode cX10_weir 0 = .ok (.aload_n 0, 1) := by decide +kernel
theorem dX10_weir_1 : decode cX10_weir 1 = .ok (.iload_n 1, 1) := by decide +kernel
theorem dX10_weir_2 : decode cX10_weir 2 = .ok (.invokevirtual 129, 3) := by decide +kernel
theorem dX10_weir_5 : decode cX10_weir 5 = .ok (.ifCond .eq 43, 3) := by decide +kernel
theorem dX10_weir_8 : decode cX10_weir 8 = .ok (.aload_n 0, 1) := by decide +kernel
theorem dX10_weir_9 : decode cX10_weir 9 = .ok (.iload_n 2, 1) := by decide +kernel
theorem dX10_weir_10 : decode cX10_weir 10 = .ok (.invokevirtual 129, 3) := by decide +kernel
theorem dX10_weir_13 : decode cX10_weir 13 = .ok (.ifCond .eq 35, 3) := by decide +kernel
theorem dX10_weir_16 : decode cX10_weir 16 = .ok (.iload_n 1, 1) := by decide +kernel
theorem dX10_weir_17 : decode cX10_weir 17 = .ok (.iload_n 2, 1) := by decide +kernel
theorem dX10_weir_18 : decode cX10_weir 18 = .ok (.if_icmp .eq 30, 3) := by decide +kernel
theorem dX10_weir_21 : decode cX10_weir 21 = .ok (.iload_n 3, 1) := by decide +kernel
theorem dX10_weir_22 : decode cX10_weir 22 = .ok (.i2l, 1) := by decide +kernel
theorem dX10_weir_23 : decode cX10_weir 23 = .ok (.ldc2_w 123, 3) := by decide +kernel
theorem dX10_weir_26 : decode cX10_weir 26 = .ok (.ldc2_w 125, 3) := by decide +kernel
theorem dX10_weir_29 : decode cX10_weir 29 = .ok (.invokestatic 117, 3) := by decide +kernel
theorem dX10_weir_32 : decode cX10_weir 32 = .ok (.ifCond .eq 16, 3) := by decide +kernel
theorem dX10_weir_35 : decode cX10_weir 35 = .ok (.iload 4, 2) := by decide +kernel
theorem dX10_weir_37 : decode cX10_weir 37 = .ok (.i2l, 1) := by decide +kernel
theorem dX10_weir_38 : decode cX10_weir 38 = .ok (.lconst 1, 1) := by decide +kernel
theorem dX10_weir_39 : decode cX10_weir 39 = .ok (.ldc2_w 121, 3) := by decide +kernel
theorem dX10_weir_42 : decode cX10_weir 42 = .ok (.invokestatic 117, 3) := by decide +kernel
theorem dX10_weir_45 : decode cX10_weir 45 = .ok (.ifCond .ne 5, 3) := by decide +kernel
theorem dX10_weir_48 : decode cX10_weir 48 = .ok (.iconst (-1), 1) := by decide +kernel
theorem dX10_weir_49 : decode cX10_weir 49 = .ok (.ireturn, 1) := by decide +kernel
theorem dX10_weir_50 : decode cX10_weir 50 = .ok (.aload_n 0, 1) := by decide +kernel
theorem dX10_weir_51 : decode cX10_weir 51 = .ok (.getfield 147, 3) := by decide +kernel
theorem dX10_weir_54 : decode cX10_weir 54 = .ok (.bipush 8, 2) := by decide +kernel
theorem dX10_weir_56 : decode cX10_weir 56 = .ok (.if_icmp .ne 6, 3) := by decide +kernel
theorem dX10_weir_59 : decode cX10_weir 59 = .ok (.bipush (-3), 2) := by decide +kernel
theorem dX10_weir_61 : decode cX10_weir 61 = .ok (.ireturn, 1) := by decide +kernel
theorem dX10_weir_62 : decode cX10_weir 62 = .ok (.aload_n 0, 1) := by decide +kernel
theorem dX10_weir_63 : decode cX10_weir 63 = .ok (.getfield 31, 3) := by decide +kernel
theorem dX10_weir_66 : decode cX10_weir 66 = .ok (.aload_n 0, 1) := by decide +kernel
theorem dX10_weir_67 : decode cX10_weir 67 = .ok (.getfield 147, 3) := by decide +kernel
theorem dX10_weir_70 : decode cX10_weir 70 = .ok (.iload_n 1, 1) := by decide +kernel
theorem dX10_weir_71 : decode cX10_weir 71 = .ok (.iastore, 1) := by decide +kernel
theorem dX10_weir_72 : decode cX10_weir 72 = .ok (.aload_n 0, 1) := by decide +kernel
theorem dX10_weir_73 : decode cX10_weir 73 = .ok (.getfield 34, 3) := by decide +kernel
theorem dX10_weir_76 : decode cX10_weir 76 = .ok (.aload_n 0, 1) := by decide +kernel
theorem dX10_weir_77 : decode cX10_weir 77 = .ok (.getfield 147, 3) := by decide +kernel
theorem dX10_weir_80 : decode cX10_weir 80 = .ok (.iload_n 2, 1) := by decide +kernel
theorem dX10_weir_81 : decode cX10_weir 81 = .ok (.iastore, 1) := by decide +kernel
theorem dX10_weir_82 : decode cX10_weir 82 = .ok (.aload_n 0, 1) := by decide +kernel
theorem dX10_weir_83 : decode cX10_weir 83 = .ok (.getfield 37, 3) := by decide +kernel
theorem dX10_weir_86 : decode cX10_weir 86 = .ok (.aload_n 0, 1) := by decide +kernel
theorem dX10_weir_87 : decode cX10_weir 87 = .ok (.getfield 147, 3) := by decide +kernel
theorem dX10_weir_90 : decode cX10_weir 90 = .ok (.iload_n 3, 1) := by decide +kernel
theorem dX10_weir_91 : decode cX10_weir 91 = .ok (.iastore, 1) := by decide +kernel
theorem dX10_weir_92 : decode cX10_weir 92 = .ok (.aload_n 0, 1) := by decide +kernel
theorem dX10_weir_93 : decode cX10_weir 93 = .ok (.getfield 40, 3) := by decide +kernel
theorem dX10_weir_96 : decode cX10_weir 96 = .ok (.aload_n 0, 1) := by decide +kernel
theorem dX10_weir_97 : decode cX10_weir 97 = .ok (.getfield 147, 3) := by decide +kernel
theorem dX10_weir_100 : decode cX10_weir 100 = .ok (.iload 4, 2) := by decide +kernel
theorem dX10_weir_102 : decode cX10_weir 102 = .ok (.iastore, 1) := by decide +kernel
theorem dX10_weir_103 : decode cX10_weir 103 = .ok (.aload_n 0, 1) := by decide +kernel
theorem dX10_weir_104 : decode cX10_weir 104 = .ok (.dup, 1) := by decide +kernel
theorem dX10_weir_105 : decode cX10_weir 105 = .ok (.getfield 147, 3) := by decide +kernel
theorem dX10_weir_108 : decode cX10_weir 108 = .ok (.iconst 1, 1) := by decide +kernel
theorem dX10_weir_109 : decode cX10_weir 109 = .ok (.iadd, 1) := by decide +kernel
theorem dX10_weir_110 : decode cX10_weir 110 = .ok (.putfield 147, 3) := by decide +kernel
theorem dX10_weir_113 : decode cX10_weir 113 = .ok (.aload_n 0, 1) := by decide +kernel
theorem dX10_weir_114 : decode cX10_weir 114 = .ok (.getfield 147, 3) := by decide +kernel
theorem dX10_weir_117 : decode cX10_weir 117 = .ok (.iconst 1, 1) := by decide +kernel
theorem dX10_weir_118 : decode cX10_weir 118 = .ok (.isub, 1) := by decide +kernel
theorem dX10_weir_119 : decode cX10_weir 119 = .ok (.ireturn, 1) := by decide +kernel
theorem dX10_pump_0 : decode cX10_pump 0 = .ok (.aload_n 0, 1) := by decide +kernel
theorem dX10_pump_1 : decode cX10_pump 1 = .ok (.iload_n 1, 1) := by decide +kernel
theorem dX10_pump_2 : decode cX10_pump 2 = .ok (.invokevirtual 129, 3) := by decide +kernel
theorem dX10_pump_5 : decode cX10_pump 5 = .ok (.ifCond .eq 60, 3) := by decide +kernel
theorem dX10_pump_8 : decode cX10_pump 8 = .ok (.iload_n 2, 1) := by decide +kernel
theorem dX10_pump_9 : decode cX10_pump 9 = .ok (.bipush (-4), 2) := by decide +kernel
theorem dX10_pump_11 : decode cX10_pump 11 = .ok (.if_icmp .eq 11, 3) := by decide +kernel
theorem dX10_pump_14 : decode cX10_pump 14 = .ok (.aload_n 0, 1) := by decide +kernel
theorem dX10_pump_15 : decode cX10_pump 15 = .ok (.iload_n 2, 1) := by decide +kernel
theorem dX10_pump_16 : decode cX10_pump 16 = .ok (.invokevirtual 129, 3) := by decide +kernel
theorem dX10_pump_19 : decode cX10_pump 19 = .ok (.ifCond .eq 46, 3) := by decide +kernel
theorem dX10_pump_22 : decode cX10_pump 22 = .ok (.iload_n 1, 1) := by decide +kernel
theorem dX10_pump_23 : decode cX10_pump 23 = .ok (.iload_n 2, 1) := by decide +kernel
theorem dX10_pump_24 : decode cX10_pump 24 = .ok (.if_icmp .eq 41, 3) := by decide +kernel
theorem dX10_pump_27 : decode cX10_pump 27 = .ok (.iload_n 3, 1) := by decide +kernel
theorem dX10_pump_28 : decode cX10_pump 28 = .ok (.i2l, 1) := by decide +kernel
theorem dX10_pump_29 : decode cX10_pump 29 = .ok (.lconst 1, 1) := by decide +kernel
theorem dX10_pump_30 : decode cX10_pump 30 = .ok (.ldc2_w 135, 3) := by decide +kernel
theorem dX10_pump_33 : decode cX10_pump 33 = .ok (.invokestatic 117, 3) := by decide +kernel
theorem dX10_pump_36 : decode cX10_pump 36 = .ok (.ifCond .eq 29, 3) := by decide +kernel
theorem dX10_pump_39 : decode cX10_pump 39 = .ok (.iload 4, 2) := by decide +kernel
theorem dX10_pump_41 : decode cX10_pump 41 = .ok (.i2l, 1) := by decide +kernel
theorem dX10_pump_42 : decode cX10_pump 42 = .ok (.lconst 1, 1) := by decide +kernel
theorem dX10_pump_43 : decode cX10_pump 43 = .ok (.ldc2_w 150, 3) := by decide +kernel
theorem dX10_pump_46 : decode cX10_pump 46 = .ok (.invokestatic 117, 3) := by decide +kernel
theorem dX10_pump_49 : decode cX10_pump 49 = .ok (.ifCond .eq 16, 3) := by decide +kernel
theorem dX10_pump_52 : decode cX10_pump 52 = .ok (.iload 5, 2) := by decide +kernel
theorem dX10_pump_54 : decode cX10_pump 54 = .ok (.i2l, 1) := by decide +kernel
theorem dX10_pump_55 : decode cX10_pump 55 = .ok (.lconst 0, 1) := by decide +kernel
theorem dX10_pump_56 : decode cX10_pump 56 = .ok (.ldc2_w 152, 3) := by decide +kernel
theorem dX10_pump_59 : decode cX10_pump 59 = .ok (.invokestatic 117, 3) := by decide +kernel
theorem dX10_pump_62 : decode cX10_pump 62 = .ok (.ifCond .ne 5, 3) := by decide +kernel
theorem dX10_pump_65 : decode cX10_pump 65 = .ok (.iconst (-1), 1) := by decide +kernel
theorem dX10_pump_66 : decode cX10_pump 66 = .ok (.ireturn, 1) := by decide +kernel
theorem dX10_pump_67 : decode cX10_pump 67 = .ok (.aload_n 0, 1) := by decide +kernel
theorem dX10_pump_68 : decode cX10_pump 68 = .ok (.getfield 154, 3) := by decide +kernel
theorem dX10_pump_71 : decode cX10_pump 71 = .ok (.iconst 4, 1) := by decide +kernel
theorem dX10_pump_72 : decode cX10_pump 72 = .ok (.if_icmp .ne 6, 3) := by decide +kernel
theorem dX10_pump_75 : decode cX10_pump 75 = .ok (.bipush (-3), 2) := by decide +kernel
theorem dX10_pump_77 : decode cX10_pump 77 = .ok (.ireturn, 1) := by decide +kernel
theorem dX10_pump_78 : decode cX10_pump 78 = .ok (.aload_n 0, 1) := by decide +kernel
theorem dX10_pump_79 : decode cX10_pump 79 = .ok (.getfield 43, 3) := by decide +kernel
theorem dX10_pump_82 : decode cX10_pump 82 = .ok (.aload_n 0, 1) := by decide +kernel
theorem dX10_pump_83 : decode cX10_pump 83 = .ok (.getfield 154, 3) := by decide +kernel
theorem dX10_pump_86 : decode cX10_pump 86 = .ok (.iload_n 1, 1) := by decide +kernel
theorem dX10_pump_87 : decode cX10_pump 87 = .ok (.iastore, 1) := by decide +kernel
theorem dX10_pump_88 : decode cX10_pump 88 = .ok (.aload_n 0, 1) := by decide +kernel
theorem dX10_pump_89 : decode cX10_pump 89 = .ok (.getfield 46, 3) := by decide +kernel
theorem dX10_pump_92 : decode cX10_pump 92 = .ok (.aload_n 0, 1) := by decide +kernel
theorem dX10_pump_93 : decode cX10_pump 93 = .ok (.getfield 154, 3) := by decide +kernel
theorem dX10_pump_96 : decode cX10_pump 96 = .ok (.iload_n 2, 1) := by decide +kernel
theorem dX10_pump_97 : decode cX10_pump 97 = .ok (.iastore, 1) := by decide +kernel
theorem dX10_pump_98 : decode cX10_pump 98 = .ok (.aload_n 0, 1) := by decide +kernel
theorem dX10_pump_99 : decode cX10_pump 99 = .ok (.getfield 49, 3) := by decide +kernel
theorem dX10_pump_102 : decode cX10_pump 102 = .ok (.aload_n 0, 1) := by decide +kernel
theorem dX10_pump_103 : decode cX10_pump 103 = .ok (.getfield 154, 3) := by decide +kernel
theorem dX10_pump_106 : decode cX10_pump 106 = .ok (.iload_n 3, 1) := by decide +kernel
theorem dX10_pump_107 : decode cX10_pump 107 = .ok (.iastore, 1) := by decide +kernel
theorem dX10_pump_108 : decode cX10_pump 108 = .ok (.aload_n 0, 1) := by decide +kernel
theorem dX10_pump_109 : decode cX10_pump 109 = .ok (.getfield 52, 3) := by decide +kernel
theorem dX10_pump_112 : decode cX10_pump 112 = .ok (.aload_n 0, 1) := by decide +kernel
theorem dX10_pump_113 : decode cX10_pump 113 = .ok (.getfield 154, 3) := by decide +kernel
theorem dX10_pump_116 : decode cX10_pump 116 = .ok (.iload 4, 2) := by decide +kernel
theorem dX10_pump_118 : decode cX10_pump 118 = .ok (.iastore, 1) := by decide +kernel
theorem dX10_pump_119 : decode cX10_pump 119 = .ok (.aload_n 0, 1) := by decide +kernel
theorem dX10_pump_120 : decode cX10_pump 120 = .ok (.getfield 55, 3) := by decide +kernel
theorem dX10_pump_123 : decode cX10_pump 123 = .ok (.aload_n 0, 1) := by decide +kernel
theorem dX10_pump_124 : decode cX10_pump 124 = .ok (.getfield 154, 3) := by decide +kernel
theorem dX10_pump_127 : decode cX10_pump 127 = .ok (.iload 5, 2) := by decide +kernel
theorem dX10_pump_129 : decode cX10_pump 129 = .ok (.iastore, 1) := by decide +kernel
theorem dX10_pump_130 : decode cX10_pump 130 = .ok (.aload_n 0, 1) := by decide +kernel
theorem dX10_pump_131 : decode cX10_pump 131 = .ok (.getfield 58, 3) := by decide +kernel
theorem dX10_pump_134 : decode cX10_pump 134 = .ok (.aload_n 0, 1) := by decide +kernel
theorem dX10_pump_135 : decode cX10_pump 135 = .ok (.getfield 154, 3) := by decide +kernel
theorem dX10_pump_138 : decode cX10_pump 138 = .ok (.iconst 0, 1) := by decide +kernel
theorem dX10_pump_139 : decode cX10_pump 139 = .ok (.bastore, 1) := by decide +kernel
theorem dX10_pump_140 : decode cX10_pump 140 = .ok (.aload_n 0, 1) := by decide +kernel
theorem dX10_pump_141 : decode cX10_pump 141 = .ok (.dup, 1) := by decide +kernel
theorem dX10_pump_142 : decode cX10_pump 142 = .ok (.getfield 154, 3) := by decide +kernel
theorem dX10_pump_145 : decode cX10_pump 145 = .ok (.iconst 1, 1) := by decide +kernel
theorem dX10_pump_146 : decode cX10_pump 146 = .ok (.iadd, 1) := by decide +kernel
theorem dX10_pump_147 : decode cX10_pump 147 = .ok (.putfield 154, 3) := by decide +kernel
theorem dX10_pump_150 : decode cX10_pump 150 = .ok (.aload_n 0, 1) := by decide +kernel
theorem dX10_pump_151 : decode cX10_pump 151 = .ok (.getfield 154, 3) := by decide +kernel
theorem dX10_pump_154 : decode cX10_pump 154 = .ok (.iconst 1, 1) := by decide +kernel
theorem dX10_pump_155 : decode cX10_pump 155 = .ok (.isub, 1) := by decide +kernel
theorem dX10_pump_156 : decode cX10_pump 156 = .ok (.ireturn, 1) := by decide +kernel
theorem dX10_sluice_0 : decode cX10_sluice 0 = .ok (.aload_n 0, 1) := by decide +kernel
theorem dX10_sluice_1 : decode cX10_sluice 1 = .ok (.iload_n 1, 1) := by decide +kernel
theorem dX10_sluice_2 : decode cX10_sluice 2 = .ok (.invokevirtual 129, 3) := by decide +kernel
theorem dX10_sluice_5 : decode cX10_sluice 5 = .ok (.ifCond .eq 15, 3) := by decide +kernel
theorem dX10_sluice_8 : decode cX10_sluice 8 = .ok (.iload_n 2, 1) := by decide +kernel
theorem dX10_sluice_9 : decode cX10_sluice 9 = .ok (.i2l, 1) := by decide +kernel
theorem dX10_sluice_10 : decode cX10_sluice 10 = .ok (.lconst 1, 1) := by decide +kernel
theorem dX10_sluice_11 : decode cX10_sluice 11 = .ok (.ldc2_w 121, 3) := by decide +kernel
theorem dX10_sluice_14 : decode cX10_sluice 14 = .ok (.invokestatic 117, 3) := by decide +kernel
theorem dX10_sluice_17 : decode cX10_sluice 17 = .ok (.ifCond .ne 5, 3) := by decide +kernel
theorem dX10_sluice_20 : decode cX10_sluice 20 = .ok (.iconst (-1), 1) := by decide +kernel
theorem dX10_sluice_21 : decode cX10_sluice 21 = .ok (.ireturn, 1) := by decide +kernel
theorem dX10_sluice_22 : decode cX10_sluice 22 = .ok (.aload_n 0, 1) := by decide +kernel
theorem dX10_sluice_23 : decode cX10_sluice 23 = .ok (.getfield 157, 3) := by decide +kernel
theorem dX10_sluice_26 : decode cX10_sluice 26 = .ok (.iconst 4, 1) := by decide +kernel
theorem dX10_sluice_27 : decode cX10_sluice 27 = .ok (.if_icmp .ne 6, 3) := by decide +kernel
theorem dX10_sluice_30 : decode cX10_sluice 30 = .ok (.bipush (-3), 2) := by decide +kernel
theorem dX10_sluice_32 : decode cX10_sluice 32 = .ok (.ireturn, 1) := by decide +kernel
theorem dX10_sluice_33 : decode cX10_sluice 33 = .ok (.aload_n 0, 1) := by decide +kernel
theorem dX10_sluice_34 : decode cX10_sluice 34 = .ok (.getfield 65, 3) := by decide +kernel
theorem dX10_sluice_37 : decode cX10_sluice 37 = .ok (.aload_n 0, 1) := by decide +kernel
theorem dX10_sluice_38 : decode cX10_sluice 38 = .ok (.getfield 157, 3) := by decide +kernel
theorem dX10_sluice_41 : decode cX10_sluice 41 = .ok (.iload_n 1, 1) := by decide +kernel
theorem dX10_sluice_42 : decode cX10_sluice 42 = .ok (.iastore, 1) := by decide +kernel
theorem dX10_sluice_43 : decode cX10_sluice 43 = .ok (.aload_n 0, 1) := by decide +kernel
theorem dX10_sluice_44 : decode cX10_sluice 44 = .ok (.getfield 68, 3) := by decide +kernel
theorem dX10_sluice_47 : decode cX10_sluice 47 = .ok (.aload_n 0, 1) := by decide +kernel
theorem dX10_sluice_48 : decode cX10_sluice 48 = .ok (.getfield 157, 3) := by decide +kernel
theorem dX10_sluice_51 : decode cX10_sluice 51 = .ok (.iload_n 2, 1) := by decide +kernel
theorem dX10_sluice_52 : decode cX10_sluice 52 = .ok (.iastore, 1) := by decide +kernel
theorem dX10_sluice_53 : decode cX10_sluice 53 = .ok (.aload_n 0, 1) := by decide +kernel
theorem dX10_sluice_54 : decode cX10_sluice 54 = .ok (.dup, 1) := by decide +kernel
theorem dX10_sluice_55 : decode cX10_sluice 55 = .ok (.getfield 157, 3) := by decide +kernel
theorem dX10_sluice_58 : decode cX10_sluice 58 = .ok (.iconst 1, 1) := by decide +kernel
theorem dX10_sluice_59 : decode cX10_sluice 59 = .ok (.iadd, 1) := by decide +kernel
theorem dX10_sluice_60 : decode cX10_sluice 60 = .ok (.putfield 157, 3) := by decide +kernel
theorem dX10_sluice_63 : decode cX10_sluice 63 = .ok (.aload_n 0, 1) := by decide +kernel
theorem dX10_sluice_64 : decode cX10_sluice 64 = .ok (.getfield 157, 3) := by decide +kernel
theorem dX10_sluice_67 : decode cX10_sluice 67 = .ok (.iconst 1, 1) := by decide +kernel
theorem dX10_sluice_68 : decode cX10_sluice 68 = .ok (.isub, 1) := by decide +kernel
theorem dX10_sluice_69 : decode cX10_sluice 69 = .ok (.ireturn, 1) := by decide +kernel
theorem dX10_isPaused_0 : decode cX10_isPaused 0 = .ok (.aload_n 0, 1) := by decide +kernel
theorem dX10_isPaused_1 : decode cX10_isPaused 1 = .ok (.getfield 55, 3) := by decide +kernel
theorem dX10_isPaused_4 : decode cX10_isPaused 4 = .ok (.iload_n 1, 1) := by decide +kernel
theorem dX10_isPaused_5 : decode cX10_isPaused 5 = .ok (.iaload, 1) := by decide +kernel
theorem dX10_isPaused_6 : decode cX10_isPaused 6 = .ok (.iload_n 2, 1) := by decide +kernel
theorem dX10_isPaused_7 : decode cX10_isPaused 7 = .ok (.bipush 24, 2) := by decide +kernel
theorem dX10_isPaused_9 : decode cX10_isPaused 9 = .ok (.irem, 1) := by decide +kernel
theorem dX10_isPaused_10 : decode cX10_isPaused 10 = .ok (.ishr, 1) := by decide +kernel
theorem dX10_isPaused_11 : decode cX10_isPaused 11 = .ok (.iconst 1, 1) := by decide +kernel
theorem dX10_isPaused_12 : decode cX10_isPaused 12 = .ok (.iand, 1) := by decide +kernel
theorem dX10_isPaused_13 : decode cX10_isPaused 13 = .ok (.iconst 1, 1) := by decide +kernel
theorem dX10_isPaused_14 : decode cX10_isPaused 14 = .ok (.if_icmp .ne 7, 3) := by decide +kernel
theorem dX10_isPaused_17 : decode cX10_isPaused 17 = .ok (.iconst 1, 1) := by decide +kernel
theorem dX10_isPaused_18 : decode cX10_isPaused 18 = .ok (.goto 4, 3) := by decide +kernel
theorem dX10_isPaused_21 : decode cX10_isPaused 21 = .ok (.iconst 0, 1) := by decide +kernel
theorem dX10_isPaused_22 : decode cX10_isPaused 22 = .ok (.ireturn, 1) := by decide +kernel
theorem dX10_turns_0 : decode cX10_turns 0 = .ok (.iload_n 2, 1) := by decide +kernel
theorem dX10_turns_1 : decode cX10_turns 1 = .ok (.ifCond .eq 22, 3) := by decide +kernel
theorem dX10_turns_4 : decode cX10_turns 4 = .ok (.aload_n 0, 1) := by decide +kernel
theorem dX10_turns_5 : decode cX10_turns 5 = .ok (.getfield 58, 3) := by decide +kernel
theorem dX10_turns_8 : decode cX10_turns 8 = .ok (.iload_n 1, 1) := by decide +kernel
theorem dX10_turns_9 : decode cX10_turns 9 = .ok (.baload, 1) := by decide +kernel
theorem dX10_turns_10 : decode cX10_turns 10 = .ok (.ifCond .ne 13, 3) := by decide +kernel
theorem dX10_turns_13 : decode cX10_turns 13 = .ok (.aload_n 0, 1) := by decide +kernel
theorem dX10_turns_14 : decode cX10_turns 14 = .ok (.getfield 62, 3) := by decide +kernel
theorem dX10_turns_17 : decode cX10_turns 17 = .ok (.iload_n 1, 1) := by decide +kernel
theorem dX10_turns_18 : decode cX10_turns 18 = .ok (.aload_n 0, 1) := by decide +kernel
theorem dX10_turns_19 : decode cX10_turns 19 = .ok (.getfield 160, 3) := by decide +kernel
theorem dX10_turns_22 : decode cX10_turns 22 = .ok (.iastore, 1) := by decide +kernel
theorem dX10_turns_23 : decode cX10_turns 23 = .ok (.aload_n 0, 1) := by decide +kernel
theorem dX10_turns_24 : decode cX10_turns 24 = .ok (.getfield 58, 3) := by decide +kernel
theorem dX10_turns_27 : decode cX10_turns 27 = .ok (.iload_n 1, 1) := by decide +kernel
theorem dX10_turns_28 : decode cX10_turns 28 = .ok (.iload_n 2, 1) := by decide +kernel
theorem dX10_turns_29 : decode cX10_turns 29 = .ok (.bastore, 1) := by decide +kernel
theorem dX10_turns_30 : decode cX10_turns 30 = .ok (.return_, 1) := by decide +kernel
theorem dX10_turn_0 : decode cX10_turn 0 = .ok (.iload_n 1, 1) := by decide +kernel
theorem dX10_turn_1 : decode cX10_turn 1 = .ok (.i2l, 1) := by decide +kernel
theorem dX10_turn_2 : decode cX10_turn 2 = .ok (.lconst 0, 1) := by decide +kernel
theorem dX10_turn_3 : decode cX10_turn 3 = .ok (.aload_n 0, 1) := by decide +kernel
theorem dX10_turn_4 : decode cX10_turn 4 = .ok (.getfield 154, 3) := by decide +kernel
theorem dX10_turn_7 : decode cX10_turn 7 = .ok (.iconst 1, 1) := by decide +kernel
theorem dX10_turn_8 : decode cX10_turn 8 = .ok (.isub, 1) := by decide +kernel
theorem dX10_turn_9 : decode cX10_turn 9 = .ok (.i2l, 1) := by decide +kernel
theorem dX10_turn_10 : decode cX10_turn 10 = .ok (.invokestatic 117, 3) := by decide +kernel
theorem dX10_turn_13 : decode cX10_turn 13 = .ok (.ifCond .ne 5, 3) := by decide +kernel
theorem dX10_turn_16 : decode cX10_turn 16 = .ok (.iconst (-1), 1) := by decide +kernel
theorem dX10_turn_17 : decode cX10_turn 17 = .ok (.ireturn, 1) := by decide +kernel
theorem dX10_turn_18 : decode cX10_turn 18 = .ok (.iload_n 2, 1) := by decide +kernel
theorem dX10_turn_19 : decode cX10_turn 19 = .ok (.ifCond .eq 27, 3) := by decide +kernel
theorem dX10_turn_22 : decode cX10_turn 22 = .ok (.aload_n 0, 1) := by decide +kernel
theorem dX10_turn_23 : decode cX10_turn 23 = .ok (.getfield 58, 3) := by decide +kernel
theorem dX10_turn_26 : decode cX10_turn 26 = .ok (.iload_n 1, 1) := by decide +kernel
theorem dX10_turn_27 : decode cX10_turn 27 = .ok (.baload, 1) := by decide +kernel
theorem dX10_turn_28 : decode cX10_turn 28 = .ok (.ifCond .ne 50, 3) := by decide +kernel
theorem dX10_turn_31 : decode cX10_turn 31 = .ok (.aload_n 0, 1) := by decide +kernel
theorem dX10_turn_32 : decode cX10_turn 32 = .ok (.iload_n 1, 1) := by decide +kernel
theorem dX10_turn_33 : decode cX10_turn 33 = .ok (.aload_n 0, 1) := by decide +kernel
theorem dX10_turn_34 : decode cX10_turn 34 = .ok (.getfield 160, 3) := by decide +kernel
theorem dX10_turn_37 : decode cX10_turn 37 = .ok (.invokevirtual 163, 3) := by decide +kernel
theorem dX10_turn_40 : decode cX10_turn 40 = .ok (.ifCond .eq 38, 3) := by decide +kernel
theorem dX10_turn_43 : decode cX10_turn 43 = .ok (.goto 32, 3) := by decide +kernel
theorem dX10_turn_46 : decode cX10_turn 46 = .ok (.aload_n 0, 1) := by decide +kernel
theorem dX10_turn_47 : decode cX10_turn 47 = .ok (.getfield 58, 3) := by decide +kernel
theorem dX10_turn_50 : decode cX10_turn 50 = .ok (.iload_n 1, 1) := by decide +kernel
theorem dX10_turn_51 : decode cX10_turn 51 = .ok (.baload, 1) := by decide +kernel
theorem dX10_turn_52 : decode cX10_turn 52 = .ok (.ifCond .eq 26, 3) := by decide +kernel
theorem dX10_turn_55 : decode cX10_turn 55 = .ok (.aload_n 0, 1) := by decide +kernel
theorem dX10_turn_56 : decode cX10_turn 56 = .ok (.getfield 160, 3) := by decide +kernel
theorem dX10_turn_59 : decode cX10_turn 59 = .ok (.aload_n 0, 1) := by decide +kernel
theorem dX10_turn_60 : decode cX10_turn 60 = .ok (.getfield 62, 3) := by decide +kernel
theorem dX10_turn_63 : decode cX10_turn 63 = .ok (.iload_n 1, 1) := by decide +kernel
theorem dX10_turn_64 : decode cX10_turn 64 = .ok (.iaload, 1) := by decide +kernel
theorem dX10_turn_65 : decode cX10_turn 65 = .ok (.isub, 1) := by decide +kernel
theorem dX10_turn_66 : decode cX10_turn 66 = .ok (.aload_n 0, 1) := by decide +kernel
theorem dX10_turn_67 : decode cX10_turn 67 = .ok (.getfield 52, 3) := by decide +kernel
theorem dX10_turn_70 : decode cX10_turn 70 = .ok (.iload_n 1, 1) := by decide +kernel
theorem dX10_turn_71 : decode cX10_turn 71 = .ok (.iaload, 1) := by decide +kernel
theorem dX10_turn_72 : decode cX10_turn 72 = .ok (.if_icmp .ge 6, 3) := by decide +kernel
theorem dX10_turn_75 : decode cX10_turn 75 = .ok (.bipush (-2), 2) := by decide +kernel
theorem dX10_turn_77 : decode cX10_turn 77 = .ok (.ireturn, 1) := by decide +kernel
theorem dX10_turn_78 : decode cX10_turn 78 = .ok (.aload_n 0, 1) := by decide +kernel
theorem dX10_turn_79 : decode cX10_turn 79 = .ok (.getfield 58, 3) := by decide +kernel
theorem dX10_turn_82 : decode cX10_turn 82 = .ok (.iload_n 1, 1) := by decide +kernel
theorem dX10_turn_83 : decode cX10_turn 83 = .ok (.baload, 1) := by decide +kernel
theorem dX10_turn_84 : decode cX10_turn 84 = .ok (.ifCond .eq 7, 3) := by decide +kernel
theorem dX10_turn_87 : decode cX10_turn 87 = .ok (.iconst 1, 1) := by decide +kernel
theorem dX10_turn_88 : decode cX10_turn 88 = .ok (.goto 4, 3) := by decide +kernel
theorem dX10_turn_91 : decode cX10_turn 91 = .ok (.iconst 0, 1) := by decide +kernel
theorem dX10_turn_92 : decode cX10_turn 92 = .ok (.istore_n 3, 1) := by decide +kernel
theorem dX10_turn_93 : decode cX10_turn 93 = .ok (.aload_n 0, 1) := by decide +kernel
theorem dX10_turn_94 : decode cX10_turn 94 = .ok (.iload_n 1, 1) := by decide +kernel
theorem dX10_turn_95 : decode cX10_turn 95 = .ok (.iload_n 2, 1) := by decide +kernel
theorem dX10_turn_96 : decode cX10_turn 96 = .ok (.invokevirtual 167, 3) := by decide +kernel
theorem dX10_turn_99 : decode cX10_turn 99 = .ok (.iload_n 3, 1) := by decide +kernel
theorem dX10_turn_100 : decode cX10_turn 100 = .ok (.ireturn, 1) := by decide +kernel
theorem dX10_open_0 : decode cX10_open 0 = .ok (.iload_n 1, 1) := by decide +kernel
theorem dX10_open_1 : decode cX10_open 1 = .ok (.i2l, 1) := by decide +kernel
theorem dX10_open_2 : decode cX10_open 2 = .ok (.lconst 0, 1) := by decide +kernel
theorem dX10_open_3 : decode cX10_open 3 = .ok (.aload_n 0, 1) := by decide +kernel
theorem dX10_open_4 : decode cX10_open 4 = .ok (.getfield 157, 3) := by decide +kernel
theorem dX10_open_7 : decode cX10_open 7 = .ok (.iconst 1, 1) := by decide +kernel
theorem dX10_open_8 : decode cX10_open 8 = .ok (.isub, 1) := by decide +kernel
theorem dX10_open_9 : decode cX10_open 9 = .ok (.i2l, 1) := by decide +kernel
theorem dX10_open_10 : decode cX10_open 10 = .ok (.invokestatic 117, 3) := by decide +kernel
theorem dX10_open_13 : decode cX10_open 13 = .ok (.ifCond .ne 5, 3) := by decide +kernel
theorem dX10_open_16 : decode cX10_open 16 = .ok (.iconst (-1), 1) := by decide +kernel
theorem dX10_open_17 : decode cX10_open 17 = .ok (.ireturn, 1) := by decide +kernel
theorem dX10_open_18 : decode cX10_open 18 = .ok (.aload_n 0, 1) := by decide +kernel
theorem dX10_open_19 : decode cX10_open 19 = .ok (.getfield 71, 3) := by decide +kernel
theorem dX10_open_22 : decode cX10_open 22 = .ok (.iload_n 1, 1) := by decide +kernel
theorem dX10_open_23 : decode cX10_open 23 = .ok (.baload, 1) := by decide +kernel
theorem dX10_open_24 : decode cX10_open 24 = .ok (.ifCond .eq 7, 3) := by decide +kernel
theorem dX10_open_27 : decode cX10_open 27 = .ok (.iconst 1, 1) := by decide +kernel
theorem dX10_open_28 : decode cX10_open 28 = .ok (.goto 4, 3) := by decide +kernel
theorem dX10_open_31 : decode cX10_open 31 = .ok (.iconst 0, 1) := by decide +kernel
theorem dX10_open_32 : decode cX10_open 32 = .ok (.istore_n 3, 1) := by decide +kernel
theorem dX10_open_33 : decode cX10_open 33 = .ok (.aload_n 0, 1) := by decide +kernel
theorem dX10_open_34 : decode cX10_open 34 = .ok (.getfield 71, 3) := by decide +kernel
theorem dX10_open_37 : decode cX10_open 37 = .ok (.iload_n 1, 1) := by decide +kernel
theorem dX10_open_38 : decode cX10_open 38 = .ok (.iload_n 2, 1) := by decide +kernel
theorem dX10_open_39 : decode cX10_open 39 = .ok (.bastore, 1) := by decide +kernel
theorem dX10_open_40 : decode cX10_open 40 = .ok (.iload_n 3, 1) := by decide +kernel
theorem dX10_open_41 : decode cX10_open 41 = .ok (.ireturn, 1) := by decide +kernel
theorem dX10_tide_0 : decode cX10_tide 0 = .ok (.iload_n 1, 1) := by decide +kernel
theorem dX10_tide_1 : decode cX10_tide 1 = .ok (.i2l, 1) := by decide +kernel
theorem dX10_tide_2 : decode cX10_tide 2 = .ok (.lconst 0, 1) := by decide +kernel
theorem dX10_tide_3 : decode cX10_tide 3 = .ok (.ldc2_w 171, 3) := by decide +kernel
theorem dX10_tide_6 : decode cX10_tide 6 = .ok (.invokestatic 117, 3) := by decide +kernel
theorem dX10_tide_9 : decode cX10_tide 9 = .ok (.ifCond .eq 17, 3) := by decide +kernel
theorem dX10_tide_12 : decode cX10_tide 12 = .ok (.iload_n 2, 1) := by decide +kernel
theorem dX10_tide_13 : decode cX10_tide 13 = .ok (.i2l, 1) := by decide +kernel
theorem dX10_tide_14 : decode cX10_tide 14 = .ok (.ldc2_w 123, 3) := by decide +kernel
theorem dX10_tide_17 : decode cX10_tide 17 = .ok (.ldc2_w 125, 3) := by decide +kernel
theorem dX10_tide_20 : decode cX10_tide 20 = .ok (.invokestatic 117, 3) := by decide +kernel
theorem dX10_tide_23 : decode cX10_tide 23 = .ok (.ifCond .ne 6, 3) := by decide +kernel
theorem dX10_tide_26 : decode cX10_tide 26 = .ok (.ldc 143, 2) := by decide +kernel
theorem dX10_tide_28 : decode cX10_tide 28 = .ok (.ireturn, 1) := by decide +kernel
theorem dX10_tide_29 : decode cX10_tide 29 = .ok (.aload_n 0, 1) := by decide +kernel
theorem dX10_tide_30 : decode cX10_tide 30 = .ok (.getfield 74, 3) := by decide +kernel
theorem dX10_tide_33 : decode cX10_tide 33 = .ok (.iload_n 1, 1) := by decide +kernel
theorem dX10_tide_34 : decode cX10_tide 34 = .ok (.iaload, 1) := by decide +kernel
theorem dX10_tide_35 : decode cX10_tide 35 = .ok (.istore_n 3, 1) := by decide +kernel
theorem dX10_tide_36 : decode cX10_tide 36 = .ok (.aload_n 0, 1) := by decide +kernel
theorem dX10_tide_37 : decode cX10_tide 37 = .ok (.getfield 74, 3) := by decide +kernel
theorem dX10_tide_40 : decode cX10_tide 40 = .ok (.iload_n 1, 1) := by decide +kernel
theorem dX10_tide_41 : decode cX10_tide 41 = .ok (.iload_n 2, 1) := by decide +kernel
theorem dX10_tide_42 : decode cX10_tide 42 = .ok (.iastore, 1) := by decide +kernel
theorem dX10_tide_43 : decode cX10_tide 43 = .ok (.iload_n 3, 1) := by decide +kernel
theorem dX10_tide_44 : decode cX10_tide 44 = .ok (.ireturn, 1) := by decide +kernel
theorem dX10_price_0 : decode cX10_price 0 = .ok (.iload_n 1, 1) := by decide +kernel
theorem dX10_price_1 : decode cX10_price 1 = .ok (.i2l, 1) := by decide +kernel
theorem dX10_price_2 : decode cX10_price 2 = .ok (.lconst 0, 1) := by decide +kernel
theorem dX10_price_3 : decode cX10_price 3 = .ok (.ldc2_w 171, 3) := by decide +kernel
theorem dX10_price_6 : decode cX10_price 6 = .ok (.invokestatic 117, 3) := by decide +kernel
theorem dX10_price_9 : decode cX10_price 9 = .ok (.ifCond .eq 15, 3) := by decide +kernel
theorem dX10_price_12 : decode cX10_price 12 = .ok (.iload_n 2, 1) := by decide +kernel
theorem dX10_price_13 : decode cX10_price 13 = .ok (.i2l, 1) := by decide +kernel
theorem dX10_price_14 : decode cX10_price 14 = .ok (.lconst 0, 1) := by decide +kernel
theorem dX10_price_15 : decode cX10_price 15 = .ok (.ldc2_w 173, 3) := by decide +kernel
theorem dX10_price_18 : decode cX10_price 18 = .ok (.invokestatic 117, 3) := by decide +kernel
theorem dX10_price_21 : decode cX10_price 21 = .ok (.ifCond .ne 5, 3) := by decide +kernel
theorem dX10_price_24 : decode cX10_price 24 = .ok (.iconst (-1), 1) := by decide +kernel
theorem dX10_price_25 : decode cX10_price 25 = .ok (.ireturn, 1) := by decide +kernel
theorem dX10_price_26 : decode cX10_price 26 = .ok (.aload_n 0, 1) := by decide +kernel
theorem dX10_price_27 : decode cX10_price 27 = .ok (.getfield 77, 3) := by decide +kernel
theorem dX10_price_30 : decode cX10_price 30 = .ok (.iload_n 1, 1) := by decide +kernel
theorem dX10_price_31 : decode cX10_price 31 = .ok (.iaload, 1) := by decide +kernel
theorem dX10_price_32 : decode cX10_price 32 = .ok (.istore_n 3, 1) := by decide +kernel
theorem dX10_price_33 : decode cX10_price 33 = .ok (.aload_n 0, 1) := by decide +kernel
theorem dX10_price_34 : decode cX10_price 34 = .ok (.getfield 77, 3) := by decide +kernel
theorem dX10_price_37 : decode cX10_price 37 = .ok (.iload_n 1, 1) := by decide +kernel
theorem dX10_price_38 : decode cX10_price 38 = .ok (.iload_n 2, 1) := by decide +kernel
theorem dX10_price_39 : decode cX10_price 39 = .ok (.iastore, 1) := by decide +kernel
theorem dX10_price_40 : decode cX10_price 40 = .ok (.iload_n 3, 1) := by decide +kernel
theorem dX10_price_41 : decode cX10_price 41 = .ok (.ireturn, 1) := by decide +kernel
theorem dX10_less_0 : decode cX10_less 0 = .ok (.iload_n 0, 1) := by decide +kernel
theorem dX10_less_1 : decode cX10_less 1 = .ok (.iload_n 1, 1) := by decide +kernel
theorem dX10_less_2 : decode cX10_less 2 = .ok (.if_icmp .ge 7, 3) := by decide +kernel
theorem dX10_less_5 : decode cX10_less 5 = .ok (.iload_n 0, 1) := by decide +kernel
theorem dX10_less_6 : decode cX10_less 6 = .ok (.goto 4, 3) := by decide +kernel
theorem dX10_less_9 : decode cX10_less 9 = .ok (.iload_n 1, 1) := by decide +kernel
theorem dX10_less_10 : decode cX10_less 10 = .ok (.ireturn, 1) := by decide +kernel
theorem dX10_flows_0 : decode cX10_flows 0 = .ok (.iconst 0, 1) := by decide +kernel
theorem dX10_flows_1 : decode cX10_flows 1 = .ok (.istore 4, 2) := by decide +kernel
theorem dX10_flows_3 : decode cX10_flows 3 = .ok (.iload 4, 2) := by decide +kernel
theorem dX10_flows_5 : decode cX10_flows 5 = .ok (.aload_n 0, 1) := by decide +kernel
theorem dX10_flows_6 : decode cX10_flows 6 = .ok (.getfield 113, 3) := by decide +kernel
theorem dX10_flows_9 : decode cX10_flows 9 = .ok (.if_icmp .ge 47, 3) := by decide +kernel
theorem dX10_flows_12 : decode cX10_flows 12 = .ok (.aload_n 0, 1) := by decide +kernel
theorem dX10_flows_13 : decode cX10_flows 13 = .ok (.getfield 16, 3) := by decide +kernel
theorem dX10_flows_16 : decode cX10_flows 16 = .ok (.iload 4, 2) := by decide +kernel
theorem dX10_flows_18 : decode cX10_flows 18 = .ok (.dup2, 1) := by decide +kernel
theorem dX10_flows_19 : decode cX10_flows 19 = .ok (.iaload, 1) := by decide +kernel
theorem dX10_flows_20 : decode cX10_flows 20 = .ok (.iload_n 1, 1) := by decide +kernel
theorem dX10_flows_21 : decode cX10_flows 21 = .ok (.aload_n 0, 1) := by decide +kernel
theorem dX10_flows_22 : decode cX10_flows 22 = .ok (.getfield 7, 3) := by decide +kernel
theorem dX10_flows_25 : decode cX10_flows 25 = .ok (.iload 4, 2) := by decide +kernel
theorem dX10_flows_27 : decode cX10_flows 27 = .ok (.iaload, 1) := by decide +kernel
theorem dX10_flows_28 : decode cX10_flows 28 = .ok (.imul, 1) := by decide +kernel
theorem dX10_flows_29 : decode cX10_flows 29 = .ok (.iadd, 1) := by decide +kernel
theorem dX10_flows_30 : decode cX10_flows 30 = .ok (.iastore, 1) := by decide +kernel
theorem dX10_flows_31 : decode cX10_flows 31 = .ok (.aload_n 0, 1) := by decide +kernel
theorem dX10_flows_32 : decode cX10_flows 32 = .ok (.getfield 25, 3) := by decide +kernel
theorem dX10_flows_35 : decode cX10_flows 35 = .ok (.iload 4, 2) := by decide +kernel
theorem dX10_flows_37 : decode cX10_flows 37 = .ok (.dup2, 1) := by decide +kernel
theorem dX10_flows_38 : decode cX10_flows 38 = .ok (.iaload, 1) := by decide +kernel
theorem dX10_flows_39 : decode cX10_flows 39 = .ok (.iload_n 1, 1) := by decide +kernel
theorem dX10_flows_40 : decode cX10_flows 40 = .ok (.aload_n 0, 1) := by decide +kernel
theorem dX10_flows_41 : decode cX10_flows 41 = .ok (.getfield 7, 3) := by decide +kernel
theorem dX10_flows_44 : decode cX10_flows 44 = .ok (.iload 4, 2) := by decide +kernel
theorem dX10_flows_46 : decode cX10_flows 46 = .ok (.iaload, 1) := by decide +kernel
theorem dX10_flows_47 : decode cX10_flows 47 = .ok (.imul, 1) := by decide +kernel
theorem dX10_flows_48 : decode cX10_flows 48 = .ok (.iadd, 1) := by decide +kernel
theorem dX10_flows_49 : decode cX10_flows 49 = .ok (.iastore, 1) := by decide +kernel
theorem dX10_flows_50 : decode cX10_flows 50 = .ok (.iinc 4 1, 3) := by decide +kernel
theorem dX10_flows_53 : decode cX10_flows 53 = .ok (.goto (-50), 3) := by decide +kernel
theorem dX10_flows_56 : decode cX10_flows 56 = .ok (.iconst 0, 1) := by decide +kernel
theorem dX10_flows_57 : decode cX10_flows 57 = .ok (.istore 4, 2) := by decide +kernel
theorem dX10_flows_59 : decode cX10_flows 59 = .ok (.iload 4, 2) := by decide +kernel
theorem dX10_flows_61 : decode cX10_flows 61 = .ok (.aload_n 0, 1) := by decide +kernel
theorem dX10_flows_62 : decode cX10_flows 62 = .ok (.getfield 147, 3) := by decide +kernel
theorem dX10_flows_65 : decode cX10_flows 65 = .ok (.if_icmp .ge 209, 3) := by decide +kernel
theorem dX10_flows_68 : decode cX10_flows 68 = .ok (.aload_n 0, 1) := by decide +kernel
theorem dX10_flows_69 : decode cX10_flows 69 = .ok (.getfield 31, 3) := by decide +kernel
theorem dX10_flows_72 : decode cX10_flows 72 = .ok (.iload 4, 2) := by decide +kernel
theorem dX10_flows_74 : decode cX10_flows 74 = .ok (.iaload, 1) := by decide +kernel
theorem dX10_flows_75 : decode cX10_flows 75 = .ok (.istore 5, 2) := by decide +kernel
theorem dX10_flows_77 : decode cX10_flows 77 = .ok (.aload_n 0, 1) := by decide +kernel
theorem dX10_flows_78 : decode cX10_flows 78 = .ok (.getfield 34, 3) := by decide +kernel
theorem dX10_flows_81 : decode cX10_flows 81 = .ok (.iload 4, 2) := by decide +kernel
theorem dX10_flows_83 : decode cX10_flows 83 = .ok (.iaload, 1) := by decide +kernel
theorem dX10_flows_84 : decode cX10_flows 84 = .ok (.istore 6, 2) := by decide +kernel
theorem dX10_flows_86 : decode cX10_flows 86 = .ok (.aload_n 0, 1) := by decide +kernel
theorem dX10_flows_87 : decode cX10_flows 87 = .ok (.iload 6, 2) := by decide +kernel
theorem dX10_flows_89 : decode cX10_flows 89 = .ok (.invokevirtual 137, 3) := by decide +kernel
theorem dX10_flows_92 : decode cX10_flows 92 = .ok (.istore 7, 2) := by decide +kernel
theorem dX10_flows_94 : decode cX10_flows 94 = .ok (.aload_n 0, 1) := by decide +kernel
theorem dX10_flows_95 : decode cX10_flows 95 = .ok (.iload 5, 2) := by decide +kernel
theorem dX10_flows_97 : decode cX10_flows 97 = .ok (.invokevirtual 137, 3) := by decide +kernel
theorem dX10_flows_100 : decode cX10_flows 100 = .ok (.aload_n 0, 1) := by decide +kernel
theorem dX10_flows_101 : decode cX10_flows 101 = .ok (.getfield 37, 3) := by decide +kernel
theorem dX10_flows_104 : decode cX10_flows 104 = .ok (.iload 4, 2) := by decide +kernel
theorem dX10_flows_106 : decode cX10_flows 106 = .ok (.iaload, 1) := by decide +kernel
theorem dX10_flows_107 : decode cX10_flows 107 = .ok (.iload 7, 2) := by decide +kernel
theorem dX10_flows_109 : decode cX10_flows 109 = .ok (.if_icmp .le 13, 3) := by decide +kernel
theorem dX10_flows_112 : decode cX10_flows 112 = .ok (.aload_n 0, 1) := by decide +kernel
theorem dX10_flows_113 : decode cX10_flows 113 = .ok (.getfield 37, 3) := by decide +kernel
theorem dX10_flows_116 : decode cX10_flows 116 = .ok (.iload 4, 2) := by decide +kernel
theorem dX10_flows_118 : decode cX10_flows 118 = .ok (.iaload, 1) := by decide +kernel
theorem dX10_flows_119 : decode cX10_flows 119 = .ok (.goto 5, 3) := by decide +kernel
theorem dX10_flows_122 : decode cX10_flows 122 = .ok (.iload 7, 2) := by decide +kernel
theorem dX10_flows_124 : decode cX10_flows 124 = .ok (.isub, 1) := by decide +kernel
theorem dX10_flows_125 : decode cX10_flows 125 = .ok (.istore 8, 2) := by decide +kernel
theorem dX10_flows_127 : decode cX10_flows 127 = .ok (.iconst 0, 1) := by decide +kernel
theorem dX10_flows_128 : decode cX10_flows 128 = .ok (.istore 9, 2) := by decide +kernel
theorem dX10_flows_130 : decode cX10_flows 130 = .ok (.iload 8, 2) := by decide +kernel
theorem dX10_flows_132 : decode cX10_flows 132 = .ok (.ifCond .le 103, 3) := by decide +kernel
theorem dX10_flows_135 : decode cX10_flows 135 = .ok (.aload_n 0, 1) := by decide +kernel
theorem dX10_flows_136 : decode cX10_flows 136 = .ok (.getfield 7, 3) := by decide +kernel
theorem dX10_flows_139 : decode cX10_flows 139 = .ok (.iload 5, 2) := by decide +kernel
theorem dX10_flows_141 : decode cX10_flows 141 = .ok (.iaload, 1) := by decide +kernel
theorem dX10_flows_142 : decode cX10_flows 142 = .ok (.i2l, 1) := by decide +kernel
theorem dX10_flows_143 : decode cX10_flows 143 = .ok (.aload_n 0, 1) := by decide +kernel
theorem dX10_flows_144 : decode cX10_flows 144 = .ok (.getfield 7, 3) := by decide +kernel
theorem dX10_flows_147 : decode cX10_flows 147 = .ok (.iload 6, 2) := by decide +kernel
theorem dX10_flows_149 : decode cX10_flows 149 = .ok (.iaload, 1) := by decide +kernel
theorem dX10_flows_150 : decode cX10_flows 150 = .ok (.i2l, 1) := by decide +kernel
theorem dX10_flows_151 : decode cX10_flows 151 = .ok (.lmul, 1) := by decide +kernel
theorem dX10_flows_152 : decode cX10_flows 152 = .ok (.iload 8, 2) := by decide +kernel
theorem dX10_flows_154 : decode cX10_flows 154 = .ok (.i2l, 1) := by decide +kernel
theorem dX10_flows_155 : decode cX10_flows 155 = .ok (.lmul, 1) := by decide +kernel
theorem dX10_flows_156 : decode cX10_flows 156 = .ok (.aload_n 0, 1) := by decide +kernel
theorem dX10_flows_157 : decode cX10_flows 157 = .ok (.getfield 7, 3) := by decide +kernel
theorem dX10_flows_160 : decode cX10_flows 160 = .ok (.iload 5, 2) := by decide +kernel
theorem dX10_flows_162 : decode cX10_flows 162 = .ok (.iaload, 1) := by decide +kernel
theorem dX10_flows_163 : decode cX10_flows 163 = .ok (.aload_n 0, 1) := by decide +kernel
theorem dX10_flows_164 : decode cX10_flows 164 = .ok (.getfield 7, 3) := by decide +kernel
theorem dX10_flows_167 : decode cX10_flows 167 = .ok (.iload 6, 2) := by decide +kernel
theorem dX10_flows_169 : decode cX10_flows 169 = .ok (.iaload, 1) := by decide +kernel
theorem dX10_flows_170 : decode cX10_flows 170 = .ok (.iadd, 1) := by decide +kernel
theorem dX10_flows_171 : decode cX10_flows 171 = .ok (.i2l, 1) := by decide +kernel
theorem dX10_flows_172 : decode cX10_flows 172 = .ok (.ldiv, 1) := by decide +kernel
theorem dX10_flows_173 : decode cX10_flows 173 = .ok (.lstore 10, 2) := by decide +kernel
theorem dX10_flows_175 : decode cX10_flows 175 = .ok (.aload_n 0, 1) := by decide +kernel
theorem dX10_flows_176 : decode cX10_flows 176 = .ok (.getfield 40, 3) := by decide +kernel
theorem dX10_flows_179 : decode cX10_flows 179 = .ok (.iload 4, 2) := by decide +kernel
theorem dX10_flows_181 : decode cX10_flows 181 = .ok (.iaload, 1) := by decide +kernel
theorem dX10_flows_182 : decode cX10_flows 182 = .ok (.i2l, 1) := by decide +kernel
theorem dX10_flows_183 : decode cX10_flows 183 = .ok (.iload 8, 2) := by decide +kernel
theorem dX10_flows_185 : decode cX10_flows 185 = .ok (.i2l, 1) := by decide +kernel
theorem dX10_flows_186 : decode cX10_flows 186 = .ok (.lmul, 1) := by decide +kernel
theorem dX10_flows_187 : decode cX10_flows 187 = .ok (.lstore 12, 2) := by decide +kernel
theorem dX10_flows_189 : decode cX10_flows 189 = .ok (.lload 12, 2) := by decide +kernel
theorem dX10_flows_191 : decode cX10_flows 191 = .ok (.lload 10, 2) := by decide +kernel
theorem dX10_flows_193 : decode cX10_flows 193 = .ok (.lcmp, 1) := by decide +kernel
theorem dX10_flows_194 : decode cX10_flows 194 = .ok (.ifCond .ge 8, 3) := by decide +kernel
theorem dX10_flows_197 : decode cX10_flows 197 = .ok (.lload 12, 2) := by decide +kernel
theorem dX10_flows_199 : decode cX10_flows 199 = .ok (.goto 5, 3) := by decide +kernel
theorem dX10_flows_202 : decode cX10_flows 202 = .ok (.lload 10, 2) := by decide +kernel
theorem dX10_flows_204 : decode cX10_flows 204 = .ok (.lstore 14, 2) := by decide +kernel
theorem dX10_flows_206 : decode cX10_flows 206 = .ok (.lload 14, 2) := by decide +kernel
theorem dX10_flows_208 : decode cX10_flows 208 = .ok (.aload_n 0, 1) := by decide +kernel
theorem dX10_flows_209 : decode cX10_flows 209 = .ok (.getfield 16, 3) := by decide +kernel
theorem dX10_flows_212 : decode cX10_flows 212 = .ok (.iload 5, 2) := by decide +kernel
theorem dX10_flows_214 : decode cX10_flows 214 = .ok (.iaload, 1) := by decide +kernel
theorem dX10_flows_215 : decode cX10_flows 215 = .ok (.i2l, 1) := by decide +kernel
theorem dX10_flows_216 : decode cX10_flows 216 = .ok (.lcmp, 1) := by decide +kernel
theorem dX10_flows_217 : decode cX10_flows 217 = .ok (.ifCond .ge 9, 3) := by decide +kernel
theorem dX10_flows_220 : decode cX10_flows 220 = .ok (.lload 14, 2) := by decide +kernel
theorem dX10_flows_222 : decode cX10_flows 222 = .ok (.l2i, 1) := by decide +kernel
theorem dX10_flows_223 : decode cX10_flows 223 = .ok (.goto 10, 3) := by decide +kernel
theorem dX10_flows_226 : decode cX10_flows 226 = .ok (.aload_n 0, 1) := by decide +kernel
theorem dX10_flows_227 : decode cX10_flows 227 = .ok (.getfield 16, 3) := by decide +kernel
theorem dX10_flows_230 : decode cX10_flows 230 = .ok (.iload 5, 2) := by decide +kernel
theorem dX10_flows_232 : decode cX10_flows 232 = .ok (.iaload, 1) := by decide +kernel
theorem dX10_flows_233 : decode cX10_flows 233 = .ok (.istore 9, 2) := by decide +kernel
theorem dX10_flows_235 : decode cX10_flows 235 = .ok (.aload_n 0, 1) := by decide +kernel
theorem dX10_flows_236 : decode cX10_flows 236 = .ok (.getfield 80, 3) := by decide +kernel
theorem dX10_flows_239 : decode cX10_flows 239 = .ok (.iload 4, 2) := by decide +kernel
theorem dX10_flows_241 : decode cX10_flows 241 = .ok (.iload 9, 2) := by decide +kernel
theorem dX10_flows_243 : decode cX10_flows 243 = .ok (.iastore, 1) := by decide +kernel
theorem dX10_flows_244 : decode cX10_flows 244 = .ok (.aload_n 0, 1) := by decide +kernel
theorem dX10_flows_245 : decode cX10_flows 245 = .ok (.getfield 16, 3) := by decide +kernel
theorem dX10_flows_248 : decode cX10_flows 248 = .ok (.iload 5, 2) := by decide +kernel
theorem dX10_flows_250 : decode cX10_flows 250 = .ok (.dup2, 1) := by decide +kernel
theorem dX10_flows_251 : decode cX10_flows 251 = .ok (.iaload, 1) := by decide +kernel
theorem dX10_flows_252 : decode cX10_flows 252 = .ok (.iload 9, 2) := by decide +kernel
theorem dX10_flows_254 : decode cX10_flows 254 = .ok (.isub, 1) := by decide +kernel
theorem dX10_flows_255 : decode cX10_flows 255 = .ok (.iastore, 1) := by decide +kernel
theorem dX10_flows_256 : decode cX10_flows 256 = .ok (.aload_n 0, 1) := by decide +kernel
theorem dX10_flows_257 : decode cX10_flows 257 = .ok (.getfield 16, 3) := by decide +kernel
theorem dX10_flows_260 : decode cX10_flows 260 = .ok (.iload 6, 2) := by decide +kernel
theorem dX10_flows_262 : decode cX10_flows 262 = .ok (.dup2, 1) := by decide +kernel
theorem dX10_flows_263 : decode cX10_flows 263 = .ok (.iaload, 1) := by decide +kernel
theorem dX10_flows_264 : decode cX10_flows 264 = .ok (.iload 9, 2) := by decide +kernel
theorem dX10_flows_266 : decode cX10_flows 266 = .ok (.iadd, 1) := by decide +kernel
theorem dX10_flows_267 : decode cX10_flows 267 = .ok (.iastore, 1) := by decide +kernel
theorem dX10_flows_268 : decode cX10_flows 268 = .ok (.iinc 4 1, 3) := by decide +kernel
theorem dX10_flows_271 : decode cX10_flows 271 = .ok (.goto (-212), 3) := by decide +kernel
theorem dX10_flows_274 : decode cX10_flows 274 = .ok (.iconst 0, 1) := by decide +kernel
theorem dX10_flows_275 : decode cX10_flows 275 = .ok (.istore 4, 2) := by decide +kernel
theorem dX10_flows_277 : decode cX10_flows 277 = .ok (.iload 4, 2) := by decide +kernel
theorem dX10_flows_279 : decode cX10_flows 279 = .ok (.aload_n 0, 1) := by decide +kernel
theorem dX10_flows_280 : decode cX10_flows 280 = .ok (.getfield 154, 3) := by decide +kernel
theorem dX10_flows_283 : decode cX10_flows 283 = .ok (.if_icmp .ge 122, 3) := by decide +kernel
theorem dX10_flows_286 : decode cX10_flows 286 = .ok (.iload_n 3, 1) := by decide +kernel
theorem dX10_flows_287 : decode cX10_flows 287 = .ok (.iload 4, 2) := by decide +kernel
theorem dX10_flows_289 : decode cX10_flows 289 = .ok (.ishr, 1) := by decide +kernel
theorem dX10_flows_290 : decode cX10_flows 290 = .ok (.iconst 1, 1) := by decide +kernel
theorem dX10_flows_291 : decode cX10_flows 291 = .ok (.iand, 1) := by decide +kernel
theorem dX10_flows_292 : decode cX10_flows 292 = .ok (.iconst 1, 1) := by decide +kernel
theorem dX10_flows_293 : decode cX10_flows 293 = .ok (.if_icmp .ne 28, 3) := by decide +kernel
theorem dX10_flows_296 : decode cX10_flows 296 = .ok (.aload_n 0, 1) := by decide +kernel
theorem dX10_flows_297 : decode cX10_flows 297 = .ok (.getfield 49, 3) := by decide +kernel
theorem dX10_flows_300 : decode cX10_flows 300 = .ok (.iload 4, 2) := by decide +kernel
theorem dX10_flows_302 : decode cX10_flows 302 = .ok (.iaload, 1) := by decide +kernel
theorem dX10_flows_303 : decode cX10_flows 303 = .ok (.aload_n 0, 1) := by decide +kernel
theorem dX10_flows_304 : decode cX10_flows 304 = .ok (.getfield 16, 3) := by decide +kernel
theorem dX10_flows_307 : decode cX10_flows 307 = .ok (.aload_n 0, 1) := by decide +kernel
theorem dX10_flows_308 : decode cX10_flows 308 = .ok (.getfield 43, 3) := by decide +kernel
theorem dX10_flows_311 : decode cX10_flows 311 = .ok (.iload 4, 2) := by decide +kernel
theorem dX10_flows_313 : decode cX10_flows 313 = .ok (.iaload, 1) := by decide +kernel
theorem dX10_flows_314 : decode cX10_flows 314 = .ok (.iaload, 1) := by decide +kernel
theorem dX10_flows_315 : decode cX10_flows 315 = .ok (.invokestatic 175, 3) := by decide +kernel
theorem dX10_flows_318 : decode cX10_flows 318 = .ok (.goto 4, 3) := by decide +kernel
theorem dX10_flows_321 : decode cX10_flows 321 = .ok (.iconst 0, 1) := by decide +kernel
theorem dX10_flows_322 : decode cX10_flows 322 = .ok (.istore 5, 2) := by decide +kernel
theorem dX10_flows_324 : decode cX10_flows 324 = .ok (.aload_n 0, 1) := by decide +kernel
theorem dX10_flows_325 : decode cX10_flows 325 = .ok (.getfield 83, 3) := by decide +kernel
theorem dX10_flows_328 : decode cX10_flows 328 = .ok (.iload 4, 2) := by decide +kernel
theorem dX10_flows_330 : decode cX10_flows 330 = .ok (.iload 5, 2) := by decide +kernel
theorem dX10_flows_332 : decode cX10_flows 332 = .ok (.iastore, 1) := by decide +kernel
theorem dX10_flows_333 : decode cX10_flows 333 = .ok (.aload_n 0, 1) := by decide +kernel
theorem dX10_flows_334 : decode cX10_flows 334 = .ok (.getfield 16, 3) := by decide +kernel
theorem dX10_flows_337 : decode cX10_flows 337 = .ok (.aload_n 0, 1) := by decide +kernel
theorem dX10_flows_338 : decode cX10_flows 338 = .ok (.getfield 43, 3) := by decide +kernel
theorem dX10_flows_341 : decode cX10_flows 341 = .ok (.iload 4, 2) := by decide +kernel
theorem dX10_flows_343 : decode cX10_flows 343 = .ok (.iaload, 1) := by decide +kernel
theorem dX10_flows_344 : decode cX10_flows 344 = .ok (.dup2, 1) := by decide +kernel
theorem dX10_flows_345 : decode cX10_flows 345 = .ok (.iaload, 1) := by decide +kernel
theorem dX10_flows_346 : decode cX10_flows 346 = .ok (.iload 5, 2) := by decide +kernel
theorem dX10_flows_348 : decode cX10_flows 348 = .ok (.isub, 1) := by decide +kernel
theorem dX10_flows_349 : decode cX10_flows 349 = .ok (.iastore, 1) := by decide +kernel
theorem dX10_flows_350 : decode cX10_flows 350 = .ok (.aload_n 0, 1) := by decide +kernel
theorem dX10_flows_351 : decode cX10_flows 351 = .ok (.getfield 46, 3) := by decide +kernel
theorem dX10_flows_354 : decode cX10_flows 354 = .ok (.iload 4, 2) := by decide +kernel
theorem dX10_flows_356 : decode cX10_flows 356 = .ok (.iaload, 1) := by decide +kernel
theorem dX10_flows_357 : decode cX10_flows 357 = .ok (.bipush (-4), 2) := by decide +kernel
theorem dX10_flows_359 : decode cX10_flows 359 = .ok (.if_icmp .ne 23, 3) := by decide +kernel
theorem dX10_flows_362 : decode cX10_flows 362 = .ok (.aload_n 0, 1) := by decide +kernel
theorem dX10_flows_363 : decode cX10_flows 363 = .ok (.getfield 28, 3) := by decide +kernel
theorem dX10_flows_366 : decode cX10_flows 366 = .ok (.aload_n 0, 1) := by decide +kernel
theorem dX10_flows_367 : decode cX10_flows 367 = .ok (.getfield 43, 3) := by decide +kernel
theorem dX10_flows_370 : decode cX10_flows 370 = .ok (.iload 4, 2) := by decide +kernel
theorem dX10_flows_372 : decode cX10_flows 372 = .ok (.iaload, 1) := by decide +kernel
theorem dX10_flows_373 : decode cX10_flows 373 = .ok (.dup2, 1) := by decide +kernel
theorem dX10_flows_374 : decode cX10_flows 374 = .ok (.iaload, 1) := by decide +kernel
theorem dX10_flows_375 : decode cX10_flows 375 = .ok (.iload 5, 2) := by decide +kernel
theorem dX10_flows_377 : decode cX10_flows 377 = .ok (.iadd, 1) := by decide +kernel
theorem dX10_flows_378 : decode cX10_flows 378 = .ok (.iastore, 1) := by decide +kernel
theorem dX10_flows_379 : decode cX10_flows 379 = .ok (.goto 20, 3) := by decide +kernel
theorem dX10_flows_382 : decode cX10_flows 382 = .ok (.aload_n 0, 1) := by decide +kernel
theorem dX10_flows_383 : decode cX10_flows 383 = .ok (.getfield 16, 3) := by decide +kernel
theorem dX10_flows_386 : decode cX10_flows 386 = .ok (.aload_n 0, 1) := by decide +kernel
theorem dX10_flows_387 : decode cX10_flows 387 = .ok (.getfield 46, 3) := by decide +kernel
theorem dX10_flows_390 : decode cX10_flows 390 = .ok (.iload 4, 2) := by decide +kernel
theorem dX10_flows_392 : decode cX10_flows 392 = .ok (.iaload, 1) := by decide +kernel
theorem dX10_flows_393 : decode cX10_flows 393 = .ok (.dup2, 1) := by decide +kernel
theorem dX10_flows_394 : decode cX10_flows 394 = .ok (.iaload, 1) := by decide +kernel
theorem dX10_flows_395 : decode cX10_flows 395 = .ok (.iload 5, 2) := by decide +kernel
theorem dX10_flows_397 : decode cX10_flows 397 = .ok (.iadd, 1) := by decide +kernel
theorem dX10_flows_398 : decode cX10_flows 398 = .ok (.iastore, 1) := by decide +kernel
theorem dX10_flows_399 : decode cX10_flows 399 = .ok (.iinc 4 1, 3) := by decide +kernel
theorem dX10_flows_402 : decode cX10_flows 402 = .ok (.goto (-125), 3) := by decide +kernel
theorem dX10_flows_405 : decode cX10_flows 405 = .ok (.iconst 0, 1) := by decide +kernel
theorem dX10_flows_406 : decode cX10_flows 406 = .ok (.istore 4, 2) := by decide +kernel
theorem dX10_flows_408 : decode cX10_flows 408 = .ok (.iload 4, 2) := by decide +kernel
theorem dX10_flows_410 : decode cX10_flows 410 = .ok (.aload_n 0, 1) := by decide +kernel
theorem dX10_flows_411 : decode cX10_flows 411 = .ok (.getfield 157, 3) := by decide +kernel
theorem dX10_flows_414 : decode cX10_flows 414 = .ok (.if_icmp .ge 144, 3) := by decide +kernel
theorem dX10_flows_417 : decode cX10_flows 417 = .ok (.aload_n 0, 1) := by decide +kernel
theorem dX10_flows_418 : decode cX10_flows 418 = .ok (.aload_n 0, 1) := by decide +kernel
theorem dX10_flows_419 : decode cX10_flows 419 = .ok (.getfield 65, 3) := by decide +kernel
theorem dX10_flows_422 : decode cX10_flows 422 = .ok (.iload 4, 2) := by decide +kernel
theorem dX10_flows_424 : decode cX10_flows 424 = .ok (.iaload, 1) := by decide +kernel
theorem dX10_flows_425 : decode cX10_flows 425 = .ok (.invokevirtual 137, 3) := by decide +kernel
theorem dX10_flows_428 : decode cX10_flows 428 = .ok (.aload_n 0, 1) := by decide +kernel
theorem dX10_flows_429 : decode cX10_flows 429 = .ok (.getfield 74, 3) := by decide +kernel
theorem dX10_flows_432 : decode cX10_flows 432 = .ok (.iload_n 2, 1) := by decide +kernel
theorem dX10_flows_433 : decode cX10_flows 433 = .ok (.iaload, 1) := by decide +kernel
theorem dX10_flows_434 : decode cX10_flows 434 = .ok (.isub, 1) := by decide +kernel
theorem dX10_flows_435 : decode cX10_flows 435 = .ok (.istore 5, 2) := by decide +kernel
theorem dX10_flows_437 : decode cX10_flows 437 = .ok (.aload_n 0, 1) := by decide +kernel
theorem dX10_flows_438 : decode cX10_flows 438 = .ok (.getfield 68, 3) := by decide +kernel
theorem dX10_flows_441 : decode cX10_flows 441 = .ok (.iload 4, 2) := by decide +kernel
theorem dX10_flows_443 : decode cX10_flows 443 = .ok (.iaload, 1) := by decide +kernel
theorem dX10_flows_444 : decode cX10_flows 444 = .ok (.i2l, 1) := by decide +kernel
theorem dX10_flows_445 : decode cX10_flows 445 = .ok (.iload 5, 2) := by decide +kernel
theorem dX10_flows_447 : decode cX10_flows 447 = .ok (.i2l, 1) := by decide +kernel
theorem dX10_flows_448 : decode cX10_flows 448 = .ok (.lmul, 1) := by decide +kernel
theorem dX10_flows_449 : decode cX10_flows 449 = .ok (.lstore 6, 2) := by decide +kernel
theorem dX10_flows_451 : decode cX10_flows 451 = .ok (.aload_n 0, 1) := by decide +kernel
theorem dX10_flows_452 : decode cX10_flows 452 = .ok (.getfield 71, 3) := by decide +kernel
theorem dX10_flows_455 : decode cX10_flows 455 = .ok (.iload 4, 2) := by decide +kernel
theorem dX10_flows_457 : decode cX10_flows 457 = .ok (.baload, 1) := by decide +kernel
theorem dX10_flows_458 : decode cX10_flows 458 = .ok (.ifCond .eq 8, 3) := by decide +kernel
theorem dX10_flows_461 : decode cX10_flows 461 = .ok (.iload 5, 2) := by decide +kernel
theorem dX10_flows_463 : decode cX10_flows 463 = .ok (.ifCond .gt 7, 3) := by decide +kernel
theorem dX10_flows_466 : decode cX10_flows 466 = .ok (.iconst 0, 1) := by decide +kernel
theorem dX10_flows_467 : decode cX10_flows 467 = .ok (.goto 40, 3) := by decide +kernel
theorem dX10_flows_470 : decode cX10_flows 470 = .ok (.lload 6, 2) := by decide +kernel
theorem dX10_flows_472 : decode cX10_flows 472 = .ok (.aload_n 0, 1) := by decide +kernel
theorem dX10_flows_473 : decode cX10_flows 473 = .ok (.getfield 16, 3) := by decide +kernel
theorem dX10_flows_476 : decode cX10_flows 476 = .ok (.aload_n 0, 1) := by decide +kernel
theorem dX10_flows_477 : decode cX10_flows 477 = .ok (.getfield 65, 3) := by decide +kernel
theorem dX10_flows_480 : decode cX10_flows 480 = .ok (.iload 4, 2) := by decide +kernel
theorem dX10_flows_482 : decode cX10_flows 482 = .ok (.iaload, 1) := by decide +kernel
theorem dX10_flows_483 : decode cX10_flows 483 = .ok (.iaload, 1) := by decide +kernel
theorem dX10_flows_484 : decode cX10_flows 484 = .ok (.i2l, 1) := by decide +kernel
theorem dX10_flows_485 : decode cX10_flows 485 = .ok (.lcmp, 1) := by decide +kernel
theorem dX10_flows_486 : decode cX10_flows 486 = .ok (.ifCond .ge 9, 3) := by decide +kernel
theorem dX10_flows_489 : decode cX10_flows 489 = .ok (.lload 6, 2) := by decide +kernel
theorem dX10_flows_491 : decode cX10_flows 491 = .ok (.l2i, 1) := by decide +kernel
theorem dX10_flows_492 : decode cX10_flows 492 = .ok (.goto 15, 3) := by decide +kernel
theorem dX10_flows_495 : decode cX10_flows 495 = .ok (.aload_n 0, 1) := by decide +kernel
theorem dX10_flows_496 : decode cX10_flows 496 = .ok (.getfield 16, 3) := by decide +kernel
theorem dX10_flows_499 : decode cX10_flows 499 = .ok (.aload_n 0, 1) := by decide +kernel
theorem dX10_flows_500 : decode cX10_flows 500 = .ok (.getfield 65, 3) := by decide +kernel
theorem dX10_flows_503 : decode cX10_flows 503 = .ok (.iload 4, 2) := by decide +kernel
theorem dX10_flows_505 : decode cX10_flows 505 = .ok (.iaload, 1) := by decide +kernel
theorem dX10_flows_506 : decode cX10_flows 506 = .ok (.iaload, 1) := by decide +kernel
theorem dX10_flows_507 : decode cX10_flows 507 = .ok (.istore 8, 2) := by decide +kernel
theorem dX10_flows_509 : decode cX10_flows 509 = .ok (.aload_n 0, 1) := by decide +kernel
theorem dX10_flows_510 : decode cX10_flows 510 = .ok (.getfield 86, 3) := by decide +kernel
theorem dX10_flows_513 : decode cX10_flows 513 = .ok (.iload 4, 2) := by decide +kernel
theorem dX10_flows_515 : decode cX10_flows 515 = .ok (.iload 8, 2) := by decide +kernel
theorem dX10_flows_517 : decode cX10_flows 517 = .ok (.iastore, 1) := by decide +kernel
theorem dX10_flows_518 : decode cX10_flows 518 = .ok (.aload_n 0, 1) := by decide +kernel
theorem dX10_flows_519 : decode cX10_flows 519 = .ok (.getfield 16, 3) := by decide +kernel
theorem dX10_flows_522 : decode cX10_flows 522 = .ok (.aload_n 0, 1) := by decide +kernel
theorem dX10_flows_523 : decode cX10_flows 523 = .ok (.getfield 65, 3) := by decide +kernel
theorem dX10_flows_526 : decode cX10_flows 526 = .ok (.iload 4, 2) := by decide +kernel
theorem dX10_flows_528 : decode cX10_flows 528 = .ok (.iaload, 1) := by decide +kernel
theorem dX10_flows_529 : decode cX10_flows 529 = .ok (.dup2, 1) := by decide +kernel
theorem dX10_flows_530 : decode cX10_flows 530 = .ok (.iaload, 1) := by decide +kernel
theorem dX10_flows_531 : decode cX10_flows 531 = .ok (.iload 8, 2) := by decide +kernel
theorem dX10_flows_533 : decode cX10_flows 533 = .ok (.isub, 1) := by decide +kernel
theorem dX10_flows_534 : decode cX10_flows 534 = .ok (.iastore, 1) := by decide +kernel
theorem dX10_flows_535 : decode cX10_flows 535 = .ok (.aload_n 0, 1) := by decide +kernel
theorem dX10_flows_536 : decode cX10_flows 536 = .ok (.getfield 28, 3) := by decide +kernel
theorem dX10_flows_539 : decode cX10_flows 539 = .ok (.aload_n 0, 1) := by decide +kernel
theorem dX10_flows_540 : decode cX10_flows 540 = .ok (.getfield 65, 3) := by decide +kernel
theorem dX10_flows_543 : decode cX10_flows 543 = .ok (.iload 4, 2) := by decide +kernel
theorem dX10_flows_545 : decode cX10_flows 545 = .ok (.iaload, 1) := by decide +kernel
theorem dX10_flows_546 : decode cX10_flows 546 = .ok (.dup2, 1) := by decide +kernel
theorem dX10_flows_547 : decode cX10_flows 547 = .ok (.iaload, 1) := by decide +kernel
theorem dX10_flows_548 : decode cX10_flows 548 = .ok (.iload 8, 2) := by decide +kernel
theorem dX10_flows_550 : decode cX10_flows 550 = .ok (.iadd, 1) := by decide +kernel
theorem dX10_flows_551 : decode cX10_flows 551 = .ok (.iastore, 1) := by decide +kernel
theorem dX10_flows_552 : decode cX10_flows 552 = .ok (.iinc 4 1, 3) := by decide +kernel
theorem dX10_flows_555 : decode cX10_flows 555 = .ok (.goto (-147), 3) := by decide +kernel
theorem dX10_flows_558 : decode cX10_flows 558 = .ok (.return_, 1) := by decide +kernel
theorem dX10_alarms_0 : decode cX10_alarms 0 = .ok (.iconst 0, 1) := by decide +kernel
theorem dX10_alarms_1 : decode cX10_alarms 1 = .ok (.istore_n 1, 1) := by decide +kernel
theorem dX10_alarms_2 : decode cX10_alarms 2 = .ok (.iconst 0, 1) := by decide +kernel
theorem dX10_alarms_3 : decode cX10_alarms 3 = .ok (.istore_n 2, 1) := by decide +kernel
theorem dX10_alarms_4 : decode cX10_alarms 4 = .ok (.iload_n 2, 1) := by decide +kernel
theorem dX10_alarms_5 : decode cX10_alarms 5 = .ok (.aload_n 0, 1) := by decide +kernel
theorem dX10_alarms_6 : decode cX10_alarms 6 = .ok (.getfield 113, 3) := by decide +kernel
theorem dX10_alarms_9 : decode cX10_alarms 9 = .ok (.if_icmp .ge 25, 3) := by decide +kernel
theorem dX10_alarms_12 : decode cX10_alarms 12 = .ok (.iload_n 1, 1) := by decide +kernel
theorem dX10_alarms_13 : decode cX10_alarms 13 = .ok (.aload_n 0, 1) := by decide +kernel
theorem dX10_alarms_14 : decode cX10_alarms 14 = .ok (.iload_n 2, 1) := by decide +kernel
theorem dX10_alarms_15 : decode cX10_alarms 15 = .ok (.invokevirtual 144, 3) := by decide +kernel
theorem dX10_alarms_18 : decode cX10_alarms 18 = .ok (.ifCond .le 7, 3) := by decide +kernel
theorem dX10_alarms_21 : decode cX10_alarms 21 = .ok (.iconst 1, 1) := by decide +kernel
theorem dX10_alarms_22 : decode cX10_alarms 22 = .ok (.goto 4, 3) := by decide +kernel
theorem dX10_alarms_25 : decode cX10_alarms 25 = .ok (.iconst 0, 1) := by decide +kernel
theorem dX10_alarms_26 : decode cX10_alarms 26 = .ok (.iadd, 1) := by decide +kernel
theorem dX10_alarms_27 : decode cX10_alarms 27 = .ok (.istore_n 1, 1) := by decide +kernel
theorem dX10_alarms_28 : decode cX10_alarms 28 = .ok (.iinc 2 1, 3) := by decide +kernel
theorem dX10_alarms_31 : decode cX10_alarms 31 = .ok (.goto (-27), 3) := by decide +kernel
theorem dX10_alarms_34 : decode cX10_alarms 34 = .ok (.iload_n 1, 1) := by decide +kernel
theorem dX10_alarms_35 : decode cX10_alarms 35 = .ok (.ireturn, 1) := by decide +kernel
theorem dX10_steps_0 : decode cX10_steps 0 = .ok (.iconst 0, 1) := by decide +kernel
theorem dX10_steps_1 : decode cX10_steps 1 = .ok (.istore_n 2, 1) := by decide +kernel
theorem dX10_steps_2 : decode cX10_steps 2 = .ok (.iconst 0, 1) := by decide +kernel
theorem dX10_steps_3 : decode cX10_steps 3 = .ok (.istore_n 3, 1) := by decide +kernel
theorem dX10_steps_4 : decode cX10_steps 4 = .ok (.iload_n 3, 1) := by decide +kernel
theorem dX10_steps_5 : decode cX10_steps 5 = .ok (.aload_n 0, 1) := by decide +kernel
theorem dX10_steps_6 : decode cX10_steps 6 = .ok (.getfield 154, 3) := by decide +kernel
theorem dX10_steps_9 : decode cX10_steps 9 = .ok (.if_icmp .ge 94, 3) := by decide +kernel
theorem dX10_steps_12 : decode cX10_steps 12 = .ok (.aload_n 0, 1) := by decide +kernel
theorem dX10_steps_13 : decode cX10_steps 13 = .ok (.getfield 58, 3) := by decide +kernel
theorem dX10_steps_16 : decode cX10_steps 16 = .ok (.iload_n 3, 1) := by decide +kernel
theorem dX10_steps_17 : decode cX10_steps 17 = .ok (.aload_n 0, 1) := by decide +kernel
theorem dX10_steps_18 : decode cX10_steps 18 = .ok (.getfield 58, 3) := by decide +kernel
theorem dX10_steps_21 : decode cX10_steps 21 = .ok (.iload_n 3, 1) := by decide +kernel
theorem dX10_steps_22 : decode cX10_steps 22 = .ok (.baload, 1) := by decide +kernel
theorem dX10_steps_23 : decode cX10_steps 23 = .ok (.ifCond .eq 19, 3) := by decide +kernel
theorem dX10_steps_26 : decode cX10_steps 26 = .ok (.aload_n 0, 1) := by decide +kernel
theorem dX10_steps_27 : decode cX10_steps 27 = .ok (.iload_n 3, 1) := by decide +kernel
theorem dX10_steps_28 : decode cX10_steps 28 = .ok (.aload_n 0, 1) := by decide +kernel
theorem dX10_steps_29 : decode cX10_steps 29 = .ok (.getfield 160, 3) := by decide +kernel
theorem dX10_steps_32 : decode cX10_steps 32 = .ok (.invokevirtual 163, 3) := by decide +kernel
theorem dX10_steps_35 : decode cX10_steps 35 = .ok (.ifCond .ne 7, 3) := by decide +kernel
theorem dX10_steps_38 : decode cX10_steps 38 = .ok (.iconst 1, 1) := by decide +kernel
theorem dX10_steps_39 : decode cX10_steps 39 = .ok (.goto 4, 3) := by decide +kernel
theorem dX10_steps_42 : decode cX10_steps 42 = .ok (.iconst 0, 1) := by decide +kernel
theorem dX10_steps_43 : decode cX10_steps 43 = .ok (.bastore, 1) := by decide +kernel
theorem dX10_steps_44 : decode cX10_steps 44 = .ok (.iload_n 2, 1) := by decide +kernel
theorem dX10_steps_45 : decode cX10_steps 45 = .ok (.aload_n 0, 1) := by decide +kernel
theorem dX10_steps_46 : decode cX10_steps 46 = .ok (.getfield 58, 3) := by decide +kernel
theorem dX10_steps_49 : decode cX10_steps 49 = .ok (.iload_n 3, 1) := by decide +kernel
theorem dX10_steps_50 : decode cX10_steps 50 = .ok (.baload, 1) := by decide +kernel
theorem dX10_steps_51 : decode cX10_steps 51 = .ok (.ifCond .eq 9, 3) := by decide +kernel
theorem dX10_steps_54 : decode cX10_steps 54 = .ok (.iconst 1, 1) := by decide +kernel
theorem dX10_steps_55 : decode cX10_steps 55 = .ok (.iload_n 3, 1) := by decide +kernel
theorem dX10_steps_56 : decode cX10_steps 56 = .ok (.ishl, 1) := by decide +kernel
theorem dX10_steps_57 : decode cX10_steps 57 = .ok (.goto 4, 3) := by decide +kernel
theorem dX10_steps_60 : decode cX10_steps 60 = .ok (.iconst 0, 1) := by decide +kernel
theorem dX10_steps_61 : decode cX10_steps 61 = .ok (.ior, 1) := by decide +kernel
theorem dX10_steps_62 : decode cX10_steps 62 = .ok (.istore_n 2, 1) := by decide +kernel
theorem dX10_steps_63 : decode cX10_steps 63 = .ok (.aload_n 0, 1) := by decide +kernel
theorem dX10_steps_64 : decode cX10_steps 64 = .ok (.dup, 1) := by decide +kernel
theorem dX10_steps_65 : decode cX10_steps 65 = .ok (.getfield 179, 3) := by decide +kernel
theorem dX10_steps_68 : decode cX10_steps 68 = .ok (.aload_n 0, 1) := by decide +kernel
theorem dX10_steps_69 : decode cX10_steps 69 = .ok (.getfield 58, 3) := by decide +kernel
theorem dX10_steps_72 : decode cX10_steps 72 = .ok (.iload_n 3, 1) := by decide +kernel
theorem dX10_steps_73 : decode cX10_steps 73 = .ok (.baload, 1) := by decide +kernel
theorem dX10_steps_74 : decode cX10_steps 74 = .ok (.ifCond .eq 18, 3) := by decide +kernel
theorem dX10_steps_77 : decode cX10_steps 77 = .ok (.aload_n 0, 1) := by decide +kernel
theorem dX10_steps_78 : decode cX10_steps 78 = .ok (.getfield 77, 3) := by decide +kernel
theorem dX10_steps_81 : decode cX10_steps 81 = .ok (.aload_n 0, 1) := by decide +kernel
theorem dX10_steps_82 : decode cX10_steps 82 = .ok (.getfield 160, 3) := by decide +kernel
theorem dX10_steps_85 : decode cX10_steps 85 = .ok (.bipush 24, 2) := by decide +kernel
theorem dX10_steps_87 : decode cX10_steps 87 = .ok (.irem, 1) := by decide +kernel
theorem dX10_steps_88 : decode cX10_steps 88 = .ok (.iaload, 1) := by decide +kernel
theorem dX10_steps_89 : decode cX10_steps 89 = .ok (.goto 4, 3) := by decide +kernel
theorem dX10_steps_92 : decode cX10_steps 92 = .ok (.iconst 0, 1) := by decide +kernel
theorem dX10_steps_93 : decode cX10_steps 93 = .ok (.iadd, 1) := by decide +kernel
theorem dX10_steps_94 : decode cX10_steps 94 = .ok (.putfield 179, 3) := by decide +kernel
theorem dX10_steps_97 : decode cX10_steps 97 = .ok (.iinc 3 1, 3) := by decide +kernel
theorem dX10_steps_100 : decode cX10_steps 100 = .ok (.goto (-96), 3) := by decide +kernel
theorem dX10_steps_103 : decode cX10_steps 103 = .ok (.aload_n 0, 1) := by decide +kernel
theorem dX10_steps_104 : decode cX10_steps 104 = .ok (.iload_n 1, 1) := by decide +kernel
theorem dX10_steps_105 : decode cX10_steps 105 = .ok (.aload_n 0, 1) := by decide +kernel
theorem dX10_steps_106 : decode cX10_steps 106 = .ok (.getfield 160, 3) := by decide +kernel
theorem dX10_steps_109 : decode cX10_steps 109 = .ok (.bipush 24, 2) := by decide +kernel
theorem dX10_steps_111 : decode cX10_steps 111 = .ok (.irem, 1) := by decide +kernel
theorem dX10_steps_112 : decode cX10_steps 112 = .ok (.iload_n 2, 1) := by decide +kernel
theorem dX10_steps_113 : decode cX10_steps 113 = .ok (.invokevirtual 182, 3) := by decide +kernel
theorem dX10_steps_116 : decode cX10_steps 116 = .ok (.aload_n 0, 1) := by decide +kernel
theorem dX10_steps_117 : decode cX10_steps 117 = .ok (.dup, 1) := by decide +kernel
theorem dX10_steps_118 : decode cX10_steps 118 = .ok (.getfield 160, 3) := by decide +kernel
theorem dX10_steps_121 : decode cX10_steps 121 = .ok (.iconst 1, 1) := by decide +kernel
theorem dX10_steps_122 : decode cX10_steps 122 = .ok (.iadd, 1) := by decide +kernel
theorem dX10_steps_123 : decode cX10_steps 123 = .ok (.putfield 160, 3) := by decide +kernel
theorem dX10_steps_126 : decode cX10_steps 126 = .ok (.aload_n 0, 1) := by decide +kernel
theorem dX10_steps_127 : decode cX10_steps 127 = .ok (.invokevirtual 186, 3) := by decide +kernel
theorem dX10_steps_130 : decode cX10_steps 130 = .ok (.ireturn, 1) := by decide +kernel
theorem dX10_step_0 : decode cX10_step 0 = .ok (.iload_n 1, 1) := by decide +kernel
theorem dX10_step_1 : decode cX10_step 1 = .ok (.i2l, 1) := by decide +kernel
theorem dX10_step_2 : decode cX10_step 2 = .ok (.lconst 0, 1) := by decide +kernel
theorem dX10_step_3 : decode cX10_step 3 = .ok (.ldc2_w 173, 3) := by decide +kernel
theorem dX10_step_6 : decode cX10_step 6 = .ok (.invokestatic 117, 3) := by decide +kernel
theorem dX10_step_9 : decode cX10_step 9 = .ok (.ifCond .eq 11, 3) := by decide +kernel
theorem dX10_step_12 : decode cX10_step 12 = .ok (.aload_n 0, 1) := by decide +kernel
theorem dX10_step_13 : decode cX10_step 13 = .ok (.iload_n 1, 1) := by decide +kernel
theorem dX10_step_14 : decode cX10_step 14 = .ok (.invokevirtual 190, 3) := by decide +kernel
theorem dX10_step_17 : decode cX10_step 17 = .ok (.goto 4, 3) := by decide +kernel
theorem dX10_step_20 : decode cX10_step 20 = .ok (.iconst (-1), 1) := by decide +kernel
theorem dX10_step_21 : decode cX10_step 21 = .ok (.ireturn, 1) := by decide +kernel
theorem dX10_passed_0 : decode cX10_passed 0 = .ok (.iload_n 1, 1) := by decide +kernel
theorem dX10_passed_1 : decode cX10_passed 1 = .ok (.ifCond .ne 26, 3) := by decide +kernel
theorem dX10_passed_4 : decode cX10_passed 4 = .ok (.iload_n 2, 1) := by decide +kernel
theorem dX10_passed_5 : decode cX10_passed 5 = .ok (.i2l, 1) := by decide +kernel
theorem dX10_passed_6 : decode cX10_passed 6 = .ok (.lconst 0, 1) := by decide +kernel
theorem dX10_passed_7 : decode cX10_passed 7 = .ok (.aload_n 0, 1) := by decide +kernel
theorem dX10_passed_8 : decode cX10_passed 8 = .ok (.getfield 147, 3) := by decide +kernel
theorem dX10_passed_11 : decode cX10_passed 11 = .ok (.iconst 1, 1) := by decide +kernel
theorem dX10_passed_12 : decode cX10_passed 12 = .ok (.isub, 1) := by decide +kernel
theorem dX10_passed_13 : decode cX10_passed 13 = .ok (.i2l, 1) := by decide +kernel
theorem dX10_passed_14 : decode cX10_passed 14 = .ok (.invokestatic 117, 3) := by decide +kernel
theorem dX10_passed_17 : decode cX10_passed 17 = .ok (.ifCond .eq 10, 3) := by decide +kernel
theorem dX10_passed_20 : decode cX10_passed 20 = .ok (.aload_n 0, 1) := by decide +kernel
theorem dX10_passed_21 : decode cX10_passed 21 = .ok (.getfield 80, 3) := by decide +kernel
theorem dX10_passed_24 : decode cX10_passed 24 = .ok (.iload_n 2, 1) := by decide +kernel
theorem dX10_passed_25 : decode cX10_passed 25 = .ok (.iaload, 1) := by decide +kernel
theorem dX10_passed_26 : decode cX10_passed 26 = .ok (.ireturn, 1) := by decide +kernel
theorem dX10_passed_27 : decode cX10_passed 27 = .ok (.iload_n 1, 1) := by decide +kernel
theorem dX10_passed_28 : decode cX10_passed 28 = .ok (.iconst 1, 1) := by decide +kernel
theorem dX10_passed_29 : decode cX10_passed 29 = .ok (.if_icmp .ne 26, 3) := by decide +kernel
theorem dX10_passed_32 : decode cX10_passed 32 = .ok (.iload_n 2, 1) := by decide +kernel
theorem dX10_passed_33 : decode cX10_passed 33 = .ok (.i2l, 1) := by decide +kernel
theorem dX10_passed_34 : decode cX10_passed 34 = .ok (.lconst 0, 1) := by decide +kernel
theorem dX10_passed_35 : decode cX10_passed 35 = .ok (.aload_n 0, 1) := by decide +kernel
theorem dX10_passed_36 : decode cX10_passed 36 = .ok (.getfield 154, 3) := by decide +kernel
theorem dX10_passed_39 : decode cX10_passed 39 = .ok (.iconst 1, 1) := by decide +kernel
theorem dX10_passed_40 : decode cX10_passed 40 = .ok (.isub, 1) := by decide +kernel
theorem dX10_passed_41 : decode cX10_passed 41 = .ok (.i2l, 1) := by decide +kernel
theorem dX10_passed_42 : decode cX10_passed 42 = .ok (.invokestatic 117, 3) := by decide +kernel
theorem dX10_passed_45 : decode cX10_passed 45 = .ok (.ifCond .eq 10, 3) := by decide +kernel
theorem dX10_passed_48 : decode cX10_passed 48 = .ok (.aload_n 0, 1) := by decide +kernel
theorem dX10_passed_49 : decode cX10_passed 49 = .ok (.getfield 83, 3) := by decide +kernel
theorem dX10_passed_52 : decode cX10_passed 52 = .ok (.iload_n 2, 1) := by decide +kernel
theorem dX10_passed_53 : decode cX10_passed 53 = .ok (.iaload, 1) := by decide +kernel
theorem dX10_passed_54 : decode cX10_passed 54 = .ok (.ireturn, 1) := by decide +kernel
theorem dX10_passed_55 : decode cX10_passed 55 = .ok (.iload_n 1, 1) := by decide +kernel
theorem dX10_passed_56 : decode cX10_passed 56 = .ok (.iconst 2, 1) := by decide +kernel
theorem dX10_passed_57 : decode cX10_passed 57 = .ok (.if_icmp .ne 28, 3) := by decide +kernel
theorem dX10_passed_60 : decode cX10_passed 60 = .ok (.iload_n 2, 1) := by decide +kernel
theorem dX10_passed_61 : decode cX10_passed 61 = .ok (.i2l, 1) := by decide +kernel
theorem dX10_passed_62 : decode cX10_passed 62 = .ok (.lconst 0, 1) := by decide +kernel
theorem dX10_passed_63 : decode cX10_passed 63 = .ok (.aload_n 0, 1) := by decide +kernel
theorem dX10_passed_64 : decode cX10_passed 64 = .ok (.getfield 157, 3) := by decide +kernel
theorem dX10_passed_67 : decode cX10_passed 67 = .ok (.iconst 1, 1) := by decide +kernel
theorem dX10_passed_68 : decode cX10_passed 68 = .ok (.isub, 1) := by decide +kernel
theorem dX10_passed_69 : decode cX10_passed 69 = .ok (.i2l, 1) := by decide +kernel
theorem dX10_passed_70 : decode cX10_passed 70 = .ok (.invokestatic 117, 3) := by decide +kernel
theorem dX10_passed_73 : decode cX10_passed 73 = .ok (.ifCond .eq 12, 3) := by decide +kernel
theorem dX10_passed_76 : decode cX10_passed 76 = .ok (.aload_n 0, 1) := by decide +kernel
theorem dX10_passed_77 : decode cX10_passed 77 = .ok (.getfield 86, 3) := by decide +kernel
theorem dX10_passed_80 : decode cX10_passed 80 = .ok (.iload_n 2, 1) := by decide +kernel
theorem dX10_passed_81 : decode cX10_passed 81 = .ok (.iaload, 1) := by decide +kernel
theorem dX10_passed_82 : decode cX10_passed 82 = .ok (.goto 4, 3) := by decide +kernel
theorem dX10_passed_85 : decode cX10_passed 85 = .ok (.iconst (-1), 1) := by decide +kernel
theorem dX10_passed_86 : decode cX10_passed 86 = .ok (.ireturn, 1) := by decide +kernel
theorem dX10_world_0 : decode cX10_world 0 = .ok (.aload_n 0, 1) := by decide +kernel
theorem dX10_world_1 : decode cX10_world 1 = .ok (.getfield 193, 3) := by decide +kernel
theorem dX10_world_4 : decode cX10_world 4 = .ok (.iconst 3, 1) := by decide +kernel
theorem dX10_world_5 : decode cX10_world 5 = .ok (.if_icmp .ne 6, 3) := by decide +kernel
theorem dX10_world_8 : decode cX10_world 8 = .ok (.bipush (-3), 2) := by decide +kernel
theorem dX10_world_10 : decode cX10_world 10 = .ok (.ireturn, 1) := by decide +kernel
theorem dX10_world_11 : decode cX10_world 11 = .ok (.iconst 0, 1) := by decide +kernel
theorem dX10_world_12 : decode cX10_world 12 = .ok (.istore_n 1, 1) := by decide +kernel
theorem dX10_world_13 : decode cX10_world 13 = .ok (.iload_n 1, 1) := by decide +kernel
theorem dX10_world_14 : decode cX10_world 14 = .ok (.bipush 6, 2) := by decide +kernel
theorem dX10_world_16 : decode cX10_world 16 = .ok (.if_icmp .ge 24, 3) := by decide +kernel
theorem dX10_world_19 : decode cX10_world 19 = .ok (.aload_n 0, 1) := by decide +kernel
theorem dX10_world_20 : decode cX10_world 20 = .ok (.getfield 89, 3) := by decide +kernel
theorem dX10_world_23 : decode cX10_world 23 = .ok (.bipush 6, 2) := by decide +kernel
theorem dX10_world_25 : decode cX10_world 25 = .ok (.aload_n 0, 1) := by decide +kernel
theorem dX10_world_26 : decode cX10_world 26 = .ok (.getfield 193, 3) := by decide +kernel
theorem dX10_world_29 : decode cX10_world 29 = .ok (.imul, 1) := by decide +kernel
theorem dX10_world_30 : decode cX10_world 30 = .ok (.iload_n 1, 1) := by decide +kernel
theorem dX10_world_31 : decode cX10_world 31 = .ok (.iadd, 1) := by decide +kernel
theorem dX10_world_32 : decode cX10_world 32 = .ok (.iconst 0, 1) := by decide +kernel
theorem dX10_world_33 : decode cX10_world 33 = .ok (.iastore, 1) := by decide +kernel
theorem dX10_world_34 : decode cX10_world 34 = .ok (.iinc 1 1, 3) := by decide +kernel
theorem dX10_world_37 : decode cX10_world 37 = .ok (.goto (-24), 3) := by decide +kernel
theorem dX10_world_40 : decode cX10_world 40 = .ok (.aload_n 0, 1) := by decide +kernel
theorem dX10_world_41 : decode cX10_world 41 = .ok (.dup, 1) := by decide +kernel
theorem dX10_world_42 : decode cX10_world 42 = .ok (.getfield 193, 3) := by decide +kernel
theorem dX10_world_45 : decode cX10_world 45 = .ok (.iconst 1, 1) := by decide +kernel
theorem dX10_world_46 : decode cX10_world 46 = .ok (.iadd, 1) := by decide +kernel
theorem dX10_world_47 : decode cX10_world 47 = .ok (.putfield 193, 3) := by decide +kernel
theorem dX10_world_50 : decode cX10_world 50 = .ok (.aload_n 0, 1) := by decide +kernel
theorem dX10_world_51 : decode cX10_world 51 = .ok (.getfield 193, 3) := by decide +kernel
theorem dX10_world_54 : decode cX10_world 54 = .ok (.iconst 1, 1) := by decide +kernel
theorem dX10_world_55 : decode cX10_world 55 = .ok (.isub, 1) := by decide +kernel
theorem dX10_world_56 : decode cX10_world 56 = .ok (.ireturn, 1) := by decide +kernel
theorem dX10_foretell_0 : decode cX10_foretell 0 = .ok (.iload_n 1, 1) := by decide +kernel
theorem dX10_foretell_1 : decode cX10_foretell 1 = .ok (.i2l, 1) := by decide +kernel
theorem dX10_foretell_2 : decode cX10_foretell 2 = .ok (.lconst 0, 1) := by decide +kernel
theorem dX10_foretell_3 : decode cX10_foretell 3 = .ok (.aload_n 0, 1) := by decide +kernel
theorem dX10_foretell_4 : decode cX10_foretell 4 = .ok (.getfield 193, 3) := by decide +kernel
theorem dX10_foretell_7 : decode cX10_foretell 7 = .ok (.iconst 1, 1) := by decide +kernel
theorem dX10_foretell_8 : decode cX10_foretell 8 = .ok (.isub, 1) := by decide +kernel
theorem dX10_foretell_9 : decode cX10_foretell 9 = .ok (.i2l, 1) := by decide +kernel
theorem dX10_foretell_10 : decode cX10_foretell 10 = .ok (.invokestatic 117, 3) := by decide +kernel
theorem dX10_foretell_13 : decode cX10_foretell 13 = .ok (.ifCond .eq 27, 3) := by decide +kernel
theorem dX10_foretell_16 : decode cX10_foretell 16 = .ok (.iload_n 2, 1) := by decide +kernel
theorem dX10_foretell_17 : decode cX10_foretell 17 = .ok (.i2l, 1) := by decide +kernel
theorem dX10_foretell_18 : decode cX10_foretell 18 = .ok (.lconst 0, 1) := by decide +kernel
theorem dX10_foretell_19 : decode cX10_foretell 19 = .ok (.ldc2_w 196, 3) := by decide +kernel
theorem dX10_foretell_22 : decode cX10_foretell 22 = .ok (.invokestatic 117, 3) := by decide +kernel
theorem dX10_foretell_25 : decode cX10_foretell 25 = .ok (.ifCond .eq 15, 3) := by decide +kernel
theorem dX10_foretell_28 : decode cX10_foretell 28 = .ok (.iload_n 3, 1) := by decide +kernel
theorem dX10_foretell_29 : decode cX10_foretell 29 = .ok (.i2l, 1) := by decide +kernel
theorem dX10_foretell_30 : decode cX10_foretell 30 = .ok (.lconst 0, 1) := by decide +kernel
theorem dX10_foretell_31 : decode cX10_foretell 31 = .ok (.ldc2_w 173, 3) := by decide +kernel
theorem dX10_foretell_34 : decode cX10_foretell 34 = .ok (.invokestatic 117, 3) := by decide +kernel
theorem dX10_foretell_37 : decode cX10_foretell 37 = .ok (.ifCond .ne 5, 3) := by decide +kernel
theorem dX10_foretell_40 : decode cX10_foretell 40 = .ok (.iconst (-1), 1) := by decide +kernel
theorem dX10_foretell_41 : decode cX10_foretell 41 = .ok (.ireturn, 1) := by decide +kernel
theorem dX10_foretell_42 : decode cX10_foretell 42 = .ok (.aload_n 0, 1) := by decide +kernel
theorem dX10_foretell_43 : decode cX10_foretell 43 = .ok (.getfield 89, 3) := by decide +kernel
theorem dX10_foretell_46 : decode cX10_foretell 46 = .ok (.bipush 6, 2) := by decide +kernel
theorem dX10_foretell_48 : decode cX10_foretell 48 = .ok (.iload_n 1, 1) := by decide +kernel
theorem dX10_foretell_49 : decode cX10_foretell 49 = .ok (.imul, 1) := by decide +kernel
theorem dX10_foretell_50 : decode cX10_foretell 50 = .ok (.iload_n 2, 1) := by decide +kernel
theorem dX10_foretell_51 : decode cX10_foretell 51 = .ok (.iadd, 1) := by decide +kernel
theorem dX10_foretell_52 : decode cX10_foretell 52 = .ok (.iload_n 3, 1) := by decide +kernel
theorem dX10_foretell_53 : decode cX10_foretell 53 = .ok (.iastore, 1) := by decide +kernel
theorem dX10_foretell_54 : decode cX10_foretell 54 = .ok (.iconst 1, 1) := by decide +kernel
theorem dX10_foretell_55 : decode cX10_foretell 55 = .ok (.ireturn, 1) := by decide +kernel
theorem dX10_isIn_0 : decode cX10_isIn 0 = .ok (.iload_n 1, 1) := by decide +kernel
theorem dX10_isIn_1 : decode cX10_isIn 1 = .ok (.iconst 2, 1) := by decide +kernel
theorem dX10_isIn_2 : decode cX10_isIn 2 = .ok (.iload_n 2, 1) := by decide +kernel
theorem dX10_isIn_3 : decode cX10_isIn 3 = .ok (.imul, 1) := by decide +kernel
theorem dX10_isIn_4 : decode cX10_isIn 4 = .ok (.iload_n 3, 1) := by decide +kernel
theorem dX10_isIn_5 : decode cX10_isIn 5 = .ok (.iadd, 1) := by decide +kernel
theorem dX10_isIn_6 : decode cX10_isIn 6 = .ok (.ishr, 1) := by decide +kernel
theorem dX10_isIn_7 : decode cX10_isIn 7 = .ok (.iconst 1, 1) := by decide +kernel
theorem dX10_isIn_8 : decode cX10_isIn 8 = .ok (.iand, 1) := by decide +kernel
theorem dX10_isIn_9 : decode cX10_isIn 9 = .ok (.iconst 1, 1) := by decide +kernel
theorem dX10_isIn_10 : decode cX10_isIn 10 = .ok (.if_icmp .ne 7, 3) := by decide +kernel
theorem dX10_isIn_13 : decode cX10_isIn 13 = .ok (.iconst 1, 1) := by decide +kernel
theorem dX10_isIn_14 : decode cX10_isIn 14 = .ok (.goto 4, 3) := by decide +kernel
theorem dX10_isIn_17 : decode cX10_isIn 17 = .ok (.iconst 0, 1) := by decide +kernel
theorem dX10_isIn_18 : decode cX10_isIn 18 = .ok (.ireturn, 1) := by decide +kernel
theorem dX10_isWell_0 : decode cX10_isWell 0 = .ok (.iconst 1, 1) := by decide +kernel
theorem dX10_isWell_1 : decode cX10_isWell 1 = .ok (.istore_n 3, 1) := by decide +kernel
theorem dX10_isWell_2 : decode cX10_isWell 2 = .ok (.iconst 0, 1) := by decide +kernel
theorem dX10_isWell_3 : decode cX10_isWell 3 = .ok (.istore 4, 2) := by decide +kernel
theorem dX10_isWell_5 : decode cX10_isWell 5 = .ok (.iload 4, 2) := by decide +kernel
theorem dX10_isWell_7 : decode cX10_isWell 7 = .ok (.iconst 2, 1) := by decide +kernel
theorem dX10_isWell_8 : decode cX10_isWell 8 = .ok (.if_icmp .ge 163, 3) := by decide +kernel
theorem dX10_isWell_11 : decode cX10_isWell 11 = .ok (.iload 4, 2) := by decide +kernel
theorem dX10_isWell_13 : decode cX10_isWell 13 = .ok (.aload_n 0, 1) := by decide +kernel
theorem dX10_isWell_14 : decode cX10_isWell 14 = .ok (.getfield 154, 3) := by decide +kernel
theorem dX10_isWell_17 : decode cX10_isWell 17 = .ok (.if_icmp .ge 154, 3) := by decide +kernel
theorem dX10_isWell_20 : decode cX10_isWell 20 = .ok (.aload_n 0, 1) := by decide +kernel
theorem dX10_isWell_21 : decode cX10_isWell 21 = .ok (.getfield 58, 3) := by decide +kernel
theorem dX10_isWell_24 : decode cX10_isWell 24 = .ok (.iload 4, 2) := by decide +kernel
theorem dX10_isWell_26 : decode cX10_isWell 26 = .ok (.baload, 1) := by decide +kernel
theorem dX10_isWell_27 : decode cX10_isWell 27 = .ok (.istore 5, 2) := by decide +kernel
theorem dX10_isWell_29 : decode cX10_isWell 29 = .ok (.bipush 6, 2) := by decide +kernel
theorem dX10_isWell_31 : decode cX10_isWell 31 = .ok (.istore 6, 2) := by decide +kernel
theorem dX10_isWell_33 : decode cX10_isWell 33 = .ok (.iconst 0, 1) := by decide +kernel
theorem dX10_isWell_34 : decode cX10_isWell 34 = .ok (.istore 7, 2) := by decide +kernel
theorem dX10_isWell_36 : decode cX10_isWell 36 = .ok (.iload 7, 2) := by decide +kernel
theorem dX10_isWell_38 : decode cX10_isWell 38 = .ok (.iload_n 1, 1) := by decide +kernel
theorem dX10_isWell_39 : decode cX10_isWell 39 = .ok (.if_icmp .ge 126, 3) := by decide +kernel
theorem dX10_isWell_42 : decode cX10_isWell 42 = .ok (.aload_n 0, 1) := by decide +kernel
theorem dX10_isWell_43 : decode cX10_isWell 43 = .ok (.iload_n 2, 1) := by decide +kernel
theorem dX10_isWell_44 : decode cX10_isWell 44 = .ok (.iload 7, 2) := by decide +kernel
theorem dX10_isWell_46 : decode cX10_isWell 46 = .ok (.iload 4, 2) := by decide +kernel
theorem dX10_isWell_48 : decode cX10_isWell 48 = .ok (.invokevirtual 198, 3) := by decide +kernel
theorem dX10_isWell_51 : decode cX10_isWell 51 = .ok (.istore 8, 2) := by decide +kernel
theorem dX10_isWell_53 : decode cX10_isWell 53 = .ok (.iload_n 3, 1) := by decide +kernel
theorem dX10_isWell_54 : decode cX10_isWell 54 = .ok (.ifCond .eq 28, 3) := by decide +kernel
theorem dX10_isWell_57 : decode cX10_isWell 57 = .ok (.iload 8, 2) := by decide +kernel
theorem dX10_isWell_59 : decode cX10_isWell 59 = .ok (.ifCond .eq 19, 3) := by decide +kernel
theorem dX10_isWell_62 : decode cX10_isWell 62 = .ok (.aload_n 0, 1) := by decide +kernel
theorem dX10_isWell_63 : decode cX10_isWell 63 = .ok (.iload 4, 2) := by decide +kernel
theorem dX10_isWell_65 : decode cX10_isWell 65 = .ok (.aload_n 0, 1) := by decide +kernel
theorem dX10_isWell_66 : decode cX10_isWell 66 = .ok (.getfield 160, 3) := by decide +kernel
theorem dX10_isWell_69 : decode cX10_isWell 69 = .ok (.iload 7, 2) := by decide +kernel
theorem dX10_isWell_71 : decode cX10_isWell 71 = .ok (.iadd, 1) := by decide +kernel
theorem dX10_isWell_72 : decode cX10_isWell 72 = .ok (.invokevirtual 163, 3) := by decide +kernel
theorem dX10_isWell_75 : decode cX10_isWell 75 = .ok (.ifCond .ne 7, 3) := by decide +kernel
theorem dX10_isWell_78 : decode cX10_isWell 78 = .ok (.iconst 1, 1) := by decide +kernel
theorem dX10_isWell_79 : decode cX10_isWell 79 = .ok (.goto 4, 3) := by decide +kernel
theorem dX10_isWell_82 : decode cX10_isWell 82 = .ok (.iconst 0, 1) := by decide +kernel
theorem dX10_isWell_83 : decode cX10_isWell 83 = .ok (.istore_n 3, 1) := by decide +kernel
theorem dX10_isWell_84 : decode cX10_isWell 84 = .ok (.iload 8, 2) := by decide +kernel
theorem dX10_isWell_86 : decode cX10_isWell 86 = .ok (.ifCond .eq 19, 3) := by decide +kernel
theorem dX10_isWell_89 : decode cX10_isWell 89 = .ok (.iload 5, 2) := by decide +kernel
theorem dX10_isWell_91 : decode cX10_isWell 91 = .ok (.ifCond .eq 10, 3) := by decide +kernel
theorem dX10_isWell_94 : decode cX10_isWell 94 = .ok (.iload 6, 2) := by decide +kernel
theorem dX10_isWell_96 : decode cX10_isWell 96 = .ok (.iconst 1, 1) := by decide +kernel
theorem dX10_isWell_97 : decode cX10_isWell 97 = .ok (.iadd, 1) := by decide +kernel
theorem dX10_isWell_98 : decode cX10_isWell 98 = .ok (.goto 9, 3) := by decide +kernel
theorem dX10_isWell_101 : decode cX10_isWell 101 = .ok (.iconst 1, 1) := by decide +kernel
theorem dX10_isWell_102 : decode cX10_isWell 102 = .ok (.goto 5, 3) := by decide +kernel
theorem dX10_isWell_105 : decode cX10_isWell 105 = .ok (.iload 6, 2) := by decide +kernel
theorem dX10_isWell_107 : decode cX10_isWell 107 = .ok (.istore 6, 2) := by decide +kernel
theorem dX10_isWell_109 : decode cX10_isWell 109 = .ok (.iload_n 3, 1) := by decide +kernel
theorem dX10_isWell_110 : decode cX10_isWell 110 = .ok (.ifCond .eq 29, 3) := by decide +kernel
theorem dX10_isWell_113 : decode cX10_isWell 113 = .ok (.iload 5, 2) := by decide +kernel
theorem dX10_isWell_115 : decode cX10_isWell 115 = .ok (.ifCond .eq 20, 3) := by decide +kernel
theorem dX10_isWell_118 : decode cX10_isWell 118 = .ok (.iload 8, 2) := by decide +kernel
theorem dX10_isWell_120 : decode cX10_isWell 120 = .ok (.ifCond .ne 15, 3) := by decide +kernel
theorem dX10_isWell_123 : decode cX10_isWell 123 = .ok (.iload 6, 2) := by decide +kernel
theorem dX10_isWell_125 : decode cX10_isWell 125 = .ok (.aload_n 0, 1) := by decide +kernel
theorem dX10_isWell_126 : decode cX10_isWell 126 = .ok (.getfield 52, 3) := by decide +kernel
theorem dX10_isWell_129 : decode cX10_isWell 129 = .ok (.iload 4, 2) := by decide +kernel
theorem dX10_isWell_131 : decode cX10_isWell 131 = .ok (.iaload, 1) := by decide +kernel
theorem dX10_isWell_132 : decode cX10_isWell 132 = .ok (.if_icmp .lt 7, 3) := by decide +kernel
theorem dX10_isWell_135 : decode cX10_isWell 135 = .ok (.iconst 1, 1) := by decide +kernel
theorem dX10_isWell_136 : decode cX10_isWell 136 = .ok (.goto 4, 3) := by decide +kernel
theorem dX10_isWell_139 : decode cX10_isWell 139 = .ok (.iconst 0, 1) := by decide +kernel
theorem dX10_isWell_140 : decode cX10_isWell 140 = .ok (.istore_n 3, 1) := by decide +kernel
theorem dX10_isWell_141 : decode cX10_isWell 141 = .ok (.iload 8, 2) := by decide +kernel
theorem dX10_isWell_143 : decode cX10_isWell 143 = .ok (.ifCond .eq 8, 3) := by decide +kernel
theorem dX10_isWell_146 : decode cX10_isWell 146 = .ok (.iload 6, 2) := by decide +kernel
theorem dX10_isWell_148 : decode cX10_isWell 148 = .ok (.goto 5, 3) := by decide +kernel
theorem dX10_isWell_151 : decode cX10_isWell 151 = .ok (.bipush 6, 2) := by decide +kernel
theorem dX10_isWell_153 : decode cX10_isWell 153 = .ok (.istore 6, 2) := by decide +kernel
theorem dX10_isWell_155 : decode cX10_isWell 155 = .ok (.iload 8, 2) := by decide +kernel
theorem dX10_isWell_157 : decode cX10_isWell 157 = .ok (.istore 5, 2) := by decide +kernel
theorem dX10_isWell_159 : decode cX10_isWell 159 = .ok (.iinc 7 1, 3) := by decide +kernel
theorem dX10_isWell_162 : decode cX10_isWell 162 = .ok (.goto (-126), 3) := by decide +kernel
theorem dX10_isWell_165 : decode cX10_isWell 165 = .ok (.iinc 4 1, 3) := by decide +kernel
theorem dX10_isWell_168 : decode cX10_isWell 168 = .ok (.goto (-163), 3) := by decide +kernel
theorem dX10_isWell_171 : decode cX10_isWell 171 = .ok (.iload_n 3, 1) := by decide +kernel
theorem dX10_isWell_172 : decode cX10_isWell 172 = .ok (.ireturn, 1) := by decide +kernel
theorem dX10_costOf_0 : decode cX10_costOf 0 = .ok (.lconst 0, 1) := by decide +kernel
theorem dX10_costOf_1 : decode cX10_costOf 1 = .ok (.lstore_n 3, 1) := by decide +kernel
theorem dX10_costOf_2 : decode cX10_costOf 2 = .ok (.iconst 0, 1) := by decide +kernel
theorem dX10_costOf_3 : decode cX10_costOf 3 = .ok (.istore 5, 2) := by decide +kernel
theorem dX10_costOf_5 : decode cX10_costOf 5 = .ok (.iload 5, 2) := by decide +kernel
theorem dX10_costOf_7 : decode cX10_costOf 7 = .ok (.iload_n 1, 1) := by decide +kernel
theorem dX10_costOf_8 : decode cX10_costOf 8 = .ok (.if_icmp .ge 68, 3) := by decide +kernel
theorem dX10_costOf_11 : decode cX10_costOf 11 = .ok (.iconst 0, 1) := by decide +kernel
theorem dX10_costOf_12 : decode cX10_costOf 12 = .ok (.istore 6, 2) := by decide +kernel
theorem dX10_costOf_14 : decode cX10_costOf 14 = .ok (.iload 6, 2) := by decide +kernel
theorem dX10_costOf_16 : decode cX10_costOf 16 = .ok (.iconst 2, 1) := by decide +kernel
theorem dX10_costOf_17 : decode cX10_costOf 17 = .ok (.if_icmp .ge 53, 3) := by decide +kernel
theorem dX10_costOf_20 : decode cX10_costOf 20 = .ok (.iload 6, 2) := by decide +kernel
theorem dX10_costOf_22 : decode cX10_costOf 22 = .ok (.aload_n 0, 1) := by decide +kernel
theorem dX10_costOf_23 : decode cX10_costOf 23 = .ok (.getfield 154, 3) := by decide +kernel
theorem dX10_costOf_26 : decode cX10_costOf 26 = .ok (.if_icmp .ge 44, 3) := by decide +kernel
theorem dX10_costOf_29 : decode cX10_costOf 29 = .ok (.lload_n 3, 1) := by decide +kernel
theorem dX10_costOf_30 : decode cX10_costOf 30 = .ok (.aload_n 0, 1) := by decide +kernel
theorem dX10_costOf_31 : decode cX10_costOf 31 = .ok (.iload_n 2, 1) := by decide +kernel
theorem dX10_costOf_32 : decode cX10_costOf 32 = .ok (.iload 5, 2) := by decide +kernel
theorem dX10_costOf_34 : decode cX10_costOf 34 = .ok (.iload 6, 2) := by decide +kernel
theorem dX10_costOf_36 : decode cX10_costOf 36 = .ok (.invokevirtual 198, 3) := by decide +kernel
theorem dX10_costOf_39 : decode cX10_costOf 39 = .ok (.ifCond .eq 22, 3) := by decide +kernel
theorem dX10_costOf_42 : decode cX10_costOf 42 = .ok (.aload_n 0, 1) := by decide +kernel
theorem dX10_costOf_43 : decode cX10_costOf 43 = .ok (.getfield 77, 3) := by decide +kernel
theorem dX10_costOf_46 : decode cX10_costOf 46 = .ok (.aload_n 0, 1) := by decide +kernel
theorem dX10_costOf_47 : decode cX10_costOf 47 = .ok (.getfield 160, 3) := by decide +kernel
theorem dX10_costOf_50 : decode cX10_costOf 50 = .ok (.iload 5, 2) := by decide +kernel
theorem dX10_costOf_52 : decode cX10_costOf 52 = .ok (.iadd, 1) := by decide +kernel
theorem dX10_costOf_53 : decode cX10_costOf 53 = .ok (.bipush 24, 2) := by decide +kernel
theorem dX10_costOf_55 : decode cX10_costOf 55 = .ok (.irem, 1) := by decide +kernel
theorem dX10_costOf_56 : decode cX10_costOf 56 = .ok (.iaload, 1) := by decide +kernel
theorem dX10_costOf_57 : decode cX10_costOf 57 = .ok (.i2l, 1) := by decide +kernel
theorem dX10_costOf_58 : decode cX10_costOf 58 = .ok (.goto 4, 3) := by decide +kernel
theorem dX10_costOf_61 : decode cX10_costOf 61 = .ok (.lconst 0, 1) := by decide +kernel
theorem dX10_costOf_62 : decode cX10_costOf 62 = .ok (.ladd, 1) := by decide +kernel
theorem dX10_costOf_63 : decode cX10_costOf 63 = .ok (.lstore_n 3, 1) := by decide +kernel
theorem dX10_costOf_64 : decode cX10_costOf 64 = .ok (.iinc 6 1, 3) := by decide +kernel
theorem dX10_costOf_67 : decode cX10_costOf 67 = .ok (.goto (-53), 3) := by decide +kernel
theorem dX10_costOf_70 : decode cX10_costOf 70 = .ok (.iinc 5 1, 3) := by decide +kernel
theorem dX10_costOf_73 : decode cX10_costOf 73 = .ok (.goto (-68), 3) := by decide +kernel
theorem dX10_costOf_76 : decode cX10_costOf 76 = .ok (.lload_n 3, 1) := by decide +kernel
theorem dX10_costOf_77 : decode cX10_costOf 77 = .ok (.lreturn, 1) := by decide +kernel
theorem dX10_keeps_0 : decode cX10_keeps 0 = .ok (.iconst 0, 1) := by decide +kernel
theorem dX10_keeps_1 : decode cX10_keeps 1 = .ok (.istore_n 1, 1) := by decide +kernel
theorem dX10_keeps_2 : decode cX10_keeps 2 = .ok (.iload_n 1, 1) := by decide +kernel
theorem dX10_keeps_3 : decode cX10_keeps 3 = .ok (.bipush 6, 2) := by decide +kernel
theorem dX10_keeps_5 : decode cX10_keeps 5 = .ok (.if_icmp .ge 45, 3) := by decide +kernel
theorem dX10_keeps_8 : decode cX10_keeps 8 = .ok (.aload_n 0, 1) := by decide +kernel
theorem dX10_keeps_9 : decode cX10_keeps 9 = .ok (.getfield 92, 3) := by decide +kernel
theorem dX10_keeps_12 : decode cX10_keeps 12 = .ok (.iload_n 1, 1) := by decide +kernel
theorem dX10_keeps_13 : decode cX10_keeps 13 = .ok (.aload_n 0, 1) := by decide +kernel
theorem dX10_keeps_14 : decode cX10_keeps 14 = .ok (.getfield 16, 3) := by decide +kernel
theorem dX10_keeps_17 : decode cX10_keeps 17 = .ok (.iload_n 1, 1) := by decide +kernel
theorem dX10_keeps_18 : decode cX10_keeps 18 = .ok (.iaload, 1) := by decide +kernel
theorem dX10_keeps_19 : decode cX10_keeps 19 = .ok (.iastore, 1) := by decide +kernel
theorem dX10_keeps_20 : decode cX10_keeps 20 = .ok (.aload_n 0, 1) := by decide +kernel
theorem dX10_keeps_21 : decode cX10_keeps 21 = .ok (.getfield 95, 3) := by decide +kernel
theorem dX10_keeps_24 : decode cX10_keeps 24 = .ok (.iload_n 1, 1) := by decide +kernel
theorem dX10_keeps_25 : decode cX10_keeps 25 = .ok (.aload_n 0, 1) := by decide +kernel
theorem dX10_keeps_26 : decode cX10_keeps 26 = .ok (.getfield 25, 3) := by decide +kernel
theorem dX10_keeps_29 : decode cX10_keeps 29 = .ok (.iload_n 1, 1) := by decide +kernel
theorem dX10_keeps_30 : decode cX10_keeps 30 = .ok (.iaload, 1) := by decide +kernel
theorem dX10_keeps_31 : decode cX10_keeps 31 = .ok (.iastore, 1) := by decide +kernel
theorem dX10_keeps_32 : decode cX10_keeps 32 = .ok (.aload_n 0, 1) := by decide +kernel
theorem dX10_keeps_33 : decode cX10_keeps 33 = .ok (.getfield 98, 3) := by decide +kernel
theorem dX10_keeps_36 : decode cX10_keeps 36 = .ok (.iload_n 1, 1) := by decide +kernel
theorem dX10_keeps_37 : decode cX10_keeps 37 = .ok (.aload_n 0, 1) := by decide +kernel
theorem dX10_keeps_38 : decode cX10_keeps 38 = .ok (.getfield 28, 3) := by decide +kernel
theorem dX10_keeps_41 : decode cX10_keeps 41 = .ok (.iload_n 1, 1) := by decide +kernel
theorem dX10_keeps_42 : decode cX10_keeps 42 = .ok (.iaload, 1) := by decide +kernel
theorem dX10_keeps_43 : decode cX10_keeps 43 = .ok (.iastore, 1) := by decide +kernel
theorem dX10_keeps_44 : decode cX10_keeps 44 = .ok (.iinc 1 1, 3) := by decide +kernel
theorem dX10_keeps_47 : decode cX10_keeps 47 = .ok (.goto (-45), 3) := by decide +kernel
theorem dX10_keeps_50 : decode cX10_keeps 50 = .ok (.return_, 1) := by decide +kernel
theorem dX10_gives_0 : decode cX10_gives 0 = .ok (.iconst 0, 1) := by decide +kernel
theorem dX10_gives_1 : decode cX10_gives 1 = .ok (.istore_n 1, 1) := by decide +kernel
theorem dX10_gives_2 : decode cX10_gives 2 = .ok (.iload_n 1, 1) := by decide +kernel
theorem dX10_gives_3 : decode cX10_gives 3 = .ok (.bipush 6, 2) := by decide +kernel
theorem dX10_gives_5 : decode cX10_gives 5 = .ok (.if_icmp .ge 45, 3) := by decide +kernel
theorem dX10_gives_8 : decode cX10_gives 8 = .ok (.aload_n 0, 1) := by decide +kernel
theorem dX10_gives_9 : decode cX10_gives 9 = .ok (.getfield 16, 3) := by decide +kernel
theorem dX10_gives_12 : decode cX10_gives 12 = .ok (.iload_n 1, 1) := by decide +kernel
theorem dX10_gives_13 : decode cX10_gives 13 = .ok (.aload_n 0, 1) := by decide +kernel
theorem dX10_gives_14 : decode cX10_gives 14 = .ok (.getfield 92, 3) := by decide +kernel
theorem dX10_gives_17 : decode cX10_gives 17 = .ok (.iload_n 1, 1) := by decide +kernel
theorem dX10_gives_18 : decode cX10_gives 18 = .ok (.iaload, 1) := by decide +kernel
theorem dX10_gives_19 : decode cX10_gives 19 = .ok (.iastore, 1) := by decide +kernel
theorem dX10_gives_20 : decode cX10_gives 20 = .ok (.aload_n 0, 1) := by decide +kernel
theorem dX10_gives_21 : decode cX10_gives 21 = .ok (.getfield 25, 3) := by decide +kernel
theorem dX10_gives_24 : decode cX10_gives 24 = .ok (.iload_n 1, 1) := by decide +kernel
theorem dX10_gives_25 : decode cX10_gives 25 = .ok (.aload_n 0, 1) := by decide +kernel
theorem dX10_gives_26 : decode cX10_gives 26 = .ok (.getfield 95, 3) := by decide +kernel
theorem dX10_gives_29 : decode cX10_gives 29 = .ok (.iload_n 1, 1) := by decide +kernel
theorem dX10_gives_30 : decode cX10_gives 30 = .ok (.iaload, 1) := by decide +kernel
theorem dX10_gives_31 : decode cX10_gives 31 = .ok (.iastore, 1) := by decide +kernel
theorem dX10_gives_32 : decode cX10_gives 32 = .ok (.aload_n 0, 1) := by decide +kernel
theorem dX10_gives_33 : decode cX10_gives 33 = .ok (.getfield 28, 3) := by decide +kernel
theorem dX10_gives_36 : decode cX10_gives 36 = .ok (.iload_n 1, 1) := by decide +kernel
theorem dX10_gives_37 : decode cX10_gives 37 = .ok (.aload_n 0, 1) := by decide +kernel
theorem dX10_gives_38 : decode cX10_gives 38 = .ok (.getfield 98, 3) := by decide +kernel
theorem dX10_gives_41 : decode cX10_gives 41 = .ok (.iload_n 1, 1) := by decide +kernel
theorem dX10_gives_42 : decode cX10_gives 42 = .ok (.iaload, 1) := by decide +kernel
theorem dX10_gives_43 : decode cX10_gives 43 = .ok (.iastore, 1) := by decide +kernel
theorem dX10_gives_44 : decode cX10_gives 44 = .ok (.iinc 1 1, 3) := by decide +kernel
theorem dX10_gives_47 : decode cX10_gives 47 = .ok (.goto (-45), 3) := by decide +kernel
theorem dX10_gives_50 : decode cX10_gives 50 = .ok (.return_, 1) := by decide +kernel
theorem dX10_keepsPassed_0 : decode cX10_keepsPassed 0 = .ok (.iconst 0, 1) := by decide +kernel
theorem dX10_keepsPassed_1 : decode cX10_keepsPassed 1 = .ok (.istore_n 1, 1) := by decide +kernel
theorem dX10_keepsPassed_2 : decode cX10_keepsPassed 2 = .ok (.iload_n 1, 1) := by decide +kernel
theorem dX10_keepsPassed_3 : decode cX10_keepsPassed 3 = .ok (.iconst 4, 1) := by decide +kernel
theorem dX10_keepsPassed_4 : decode cX10_keepsPassed 4 = .ok (.if_icmp .ge 67, 3) := by decide +kernel
theorem dX10_keepsPassed_7 : decode cX10_keepsPassed 7 = .ok (.aload_n 0, 1) := by decide +kernel
theorem dX10_keepsPassed_8 : decode cX10_keepsPassed 8 = .ok (.getfield 101, 3) := by decide +kernel
theorem dX10_keepsPassed_11 : decode cX10_keepsPassed 11 = .ok (.iload_n 1, 1) := by decide +kernel
theorem dX10_keepsPassed_12 : decode cX10_keepsPassed 12 = .ok (.aload_n 0, 1) := by decide +kernel
theorem dX10_keepsPassed_13 : decode cX10_keepsPassed 13 = .ok (.getfield 80, 3) := by decide +kernel
theorem dX10_keepsPassed_16 : decode cX10_keepsPassed 16 = .ok (.iload_n 1, 1) := by decide +kernel
theorem dX10_keepsPassed_17 : decode cX10_keepsPassed 17 = .ok (.iaload, 1) := by decide +kernel
theorem dX10_keepsPassed_18 : decode cX10_keepsPassed 18 = .ok (.iastore, 1) := by decide +kernel
theorem dX10_keepsPassed_19 : decode cX10_keepsPassed 19 = .ok (.aload_n 0, 1) := by decide +kernel
theorem dX10_keepsPassed_20 : decode cX10_keepsPassed 20 = .ok (.getfield 101, 3) := by decide +kernel
theorem dX10_keepsPassed_23 : decode cX10_keepsPassed 23 = .ok (.iconst 4, 1) := by decide +kernel
theorem dX10_keepsPassed_24 : decode cX10_keepsPassed 24 = .ok (.iload_n 1, 1) := by decide +kernel
theorem dX10_keepsPassed_25 : decode cX10_keepsPassed 25 = .ok (.iadd, 1) := by decide +kernel
theorem dX10_keepsPassed_26 : decode cX10_keepsPassed 26 = .ok (.aload_n 0, 1) := by decide +kernel
theorem dX10_keepsPassed_27 : decode cX10_keepsPassed 27 = .ok (.getfield 80, 3) := by decide +kernel
theorem dX10_keepsPassed_30 : decode cX10_keepsPassed 30 = .ok (.iconst 4, 1) := by decide +kernel
theorem dX10_keepsPassed_31 : decode cX10_keepsPassed 31 = .ok (.iload_n 1, 1) := by decide +kernel
theorem dX10_keepsPassed_32 : decode cX10_keepsPassed 32 = .ok (.iadd, 1) := by decide +kernel
theorem dX10_keepsPassed_33 : decode cX10_keepsPassed 33 = .ok (.iaload, 1) := by decide +kernel
theorem dX10_keepsPassed_34 : decode cX10_keepsPassed 34 = .ok (.iastore, 1) := by decide +kernel
theorem dX10_keepsPassed_35 : decode cX10_keepsPassed 35 = .ok (.aload_n 0, 1) := by decide +kernel
theorem dX10_keepsPassed_36 : decode cX10_keepsPassed 36 = .ok (.getfield 101, 3) := by decide +kernel
theorem dX10_keepsPassed_39 : decode cX10_keepsPassed 39 = .ok (.bipush 8, 2) := by decide +kernel
theorem dX10_keepsPassed_41 : decode cX10_keepsPassed 41 = .ok (.iload_n 1, 1) := by decide +kernel
theorem dX10_keepsPassed_42 : decode cX10_keepsPassed 42 = .ok (.iadd, 1) := by decide +kernel
theorem dX10_keepsPassed_43 : decode cX10_keepsPassed 43 = .ok (.aload_n 0, 1) := by decide +kernel
theorem dX10_keepsPassed_44 : decode cX10_keepsPassed 44 = .ok (.getfield 83, 3) := by decide +kernel
theorem dX10_keepsPassed_47 : decode cX10_keepsPassed 47 = .ok (.iload_n 1, 1) := by decide +kernel
theorem dX10_keepsPassed_48 : decode cX10_keepsPassed 48 = .ok (.iaload, 1) := by decide +kernel
theorem dX10_keepsPassed_49 : decode cX10_keepsPassed 49 = .ok (.iastore, 1) := by decide +kernel
theorem dX10_keepsPassed_50 : decode cX10_keepsPassed 50 = .ok (.aload_n 0, 1) := by decide +kernel
theorem dX10_keepsPassed_51 : decode cX10_keepsPassed 51 = .ok (.getfield 101, 3) := by decide +kernel
theorem dX10_keepsPassed_54 : decode cX10_keepsPassed 54 = .ok (.bipush 12, 2) := by decide +kernel
theorem dX10_keepsPassed_56 : decode cX10_keepsPassed 56 = .ok (.iload_n 1, 1) := by decide +kernel
theorem dX10_keepsPassed_57 : decode cX10_keepsPassed 57 = .ok (.iadd, 1) := by decide +kernel
theorem dX10_keepsPassed_58 : decode cX10_keepsPassed 58 = .ok (.aload_n 0, 1) := by decide +kernel
theorem dX10_keepsPassed_59 : decode cX10_keepsPassed 59 = .ok (.getfield 86, 3) := by decide +kernel
theorem dX10_keepsPassed_62 : decode cX10_keepsPassed 62 = .ok (.iload_n 1, 1) := by decide +kernel
theorem dX10_keepsPassed_63 : decode cX10_keepsPassed 63 = .ok (.iaload, 1) := by decide +kernel
theorem dX10_keepsPassed_64 : decode cX10_keepsPassed 64 = .ok (.iastore, 1) := by decide +kernel
theorem dX10_keepsPassed_65 : decode cX10_keepsPassed 65 = .ok (.iinc 1 1, 3) := by decide +kernel
theorem dX10_keepsPassed_68 : decode cX10_keepsPassed 68 = .ok (.goto (-66), 3) := by decide +kernel
theorem dX10_keepsPassed_71 : decode cX10_keepsPassed 71 = .ok (.return_, 1) := by decide +kernel
theorem dX10_givesPassed_0 : decode cX10_givesPassed 0 = .ok (.iconst 0, 1) := by decide +kernel
theorem dX10_givesPassed_1 : decode cX10_givesPassed 1 = .ok (.istore_n 1, 1) := by decide +kernel
theorem dX10_givesPassed_2 : decode cX10_givesPassed 2 = .ok (.iload_n 1, 1) := by decide +kernel
theorem dX10_givesPassed_3 : decode cX10_givesPassed 3 = .ok (.iconst 4, 1) := by decide +kernel
theorem dX10_givesPassed_4 : decode cX10_givesPassed 4 = .ok (.if_icmp .ge 67, 3) := by decide +kernel
theorem dX10_givesPassed_7 : decode cX10_givesPassed 7 = .ok (.aload_n 0, 1) := by decide +kernel
theorem dX10_givesPassed_8 : decode cX10_givesPassed 8 = .ok (.getfield 80, 3) := by decide +kernel
theorem dX10_givesPassed_11 : decode cX10_givesPassed 11 = .ok (.iload_n 1, 1) := by decide +kernel
theorem dX10_givesPassed_12 : decode cX10_givesPassed 12 = .ok (.aload_n 0, 1) := by decide +kernel
theorem dX10_givesPassed_13 : decode cX10_givesPassed 13 = .ok (.getfield 101, 3) := by decide +kernel
theorem dX10_givesPassed_16 : decode cX10_givesPassed 16 = .ok (.iload_n 1, 1) := by decide +kernel
theorem dX10_givesPassed_17 : decode cX10_givesPassed 17 = .ok (.iaload, 1) := by decide +kernel
theorem dX10_givesPassed_18 : decode cX10_givesPassed 18 = .ok (.iastore, 1) := by decide +kernel
theorem dX10_givesPassed_19 : decode cX10_givesPassed 19 = .ok (.aload_n 0, 1) := by decide +kernel
theorem dX10_givesPassed_20 : decode cX10_givesPassed 20 = .ok (.getfield 80, 3) := by decide +kernel
theorem dX10_givesPassed_23 : decode cX10_givesPassed 23 = .ok (.iconst 4, 1) := by decide +kernel
theorem dX10_givesPassed_24 : decode cX10_givesPassed 24 = .ok (.iload_n 1, 1) := by decide +kernel
theorem dX10_givesPassed_25 : decode cX10_givesPassed 25 = .ok (.iadd, 1) := by decide +kernel
theorem dX10_givesPassed_26 : decode cX10_givesPassed 26 = .ok (.aload_n 0, 1) := by decide +kernel
theorem dX10_givesPassed_27 : decode cX10_givesPassed 27 = .ok (.getfield 101, 3) := by decide +kernel
theorem dX10_givesPassed_30 : decode cX10_givesPassed 30 = .ok (.iconst 4, 1) := by decide +kernel
theorem dX10_givesPassed_31 : decode cX10_givesPassed 31 = .ok (.iload_n 1, 1) := by decide +kernel
theorem dX10_givesPassed_32 : decode cX10_givesPassed 32 = .ok (.iadd, 1) := by decide +kernel
theorem dX10_givesPassed_33 : decode cX10_givesPassed 33 = .ok (.iaload, 1) := by decide +kernel
theorem dX10_givesPassed_34 : decode cX10_givesPassed 34 = .ok (.iastore, 1) := by decide +kernel
theorem dX10_givesPassed_35 : decode cX10_givesPassed 35 = .ok (.aload_n 0, 1) := by decide +kernel
theorem dX10_givesPassed_36 : decode cX10_givesPassed 36 = .ok (.getfield 83, 3) := by decide +kernel
theorem dX10_givesPassed_39 : decode cX10_givesPassed 39 = .ok (.iload_n 1, 1) := by decide +kernel
theorem dX10_givesPassed_40 : decode cX10_givesPassed 40 = .ok (.aload_n 0, 1) := by decide +kernel
theorem dX10_givesPassed_41 : decode cX10_givesPassed 41 = .ok (.getfield 101, 3) := by decide +kernel
theorem dX10_givesPassed_44 : decode cX10_givesPassed 44 = .ok (.bipush 8, 2) := by decide +kernel
theorem dX10_givesPassed_46 : decode cX10_givesPassed 46 = .ok (.iload_n 1, 1) := by decide +kernel
theorem dX10_givesPassed_47 : decode cX10_givesPassed 47 = .ok (.iadd, 1) := by decide +kernel
theorem dX10_givesPassed_48 : decode cX10_givesPassed 48 = .ok (.iaload, 1) := by decide +kernel
theorem dX10_givesPassed_49 : decode cX10_givesPassed 49 = .ok (.iastore, 1) := by decide +kernel
theorem dX10_givesPassed_50 : decode cX10_givesPassed 50 = .ok (.aload_n 0, 1) := by decide +kernel
theorem dX10_givesPassed_51 : decode cX10_givesPassed 51 = .ok (.getfield 86, 3) := by decide +kernel
theorem dX10_givesPassed_54 : decode cX10_givesPassed 54 = .ok (.iload_n 1, 1) := by decide +kernel
theorem dX10_givesPassed_55 : decode cX10_givesPassed 55 = .ok (.aload_n 0, 1) := by decide +kernel
theorem dX10_givesPassed_56 : decode cX10_givesPassed 56 = .ok (.getfield 101, 3) := by decide +kernel
theorem dX10_givesPassed_59 : decode cX10_givesPassed 59 = .ok (.bipush 12, 2) := by decide +kernel
theorem dX10_givesPassed_61 : decode cX10_givesPassed 61 = .ok (.iload_n 1, 1) := by decide +kernel
theorem dX10_givesPassed_62 : decode cX10_givesPassed 62 = .ok (.iadd, 1) := by decide +kernel
theorem dX10_givesPassed_63 : decode cX10_givesPassed 63 = .ok (.iaload, 1) := by decide +kernel
theorem dX10_givesPassed_64 : decode cX10_givesPassed 64 = .ok (.iastore, 1) := by decide +kernel
theorem dX10_givesPassed_65 : decode cX10_givesPassed 65 = .ok (.iinc 1 1, 3) := by decide +kernel
theorem dX10_givesPassed_68 : decode cX10_givesPassed 68 = .ok (.goto (-66), 3) := by decide +kernel
theorem dX10_givesPassed_71 : decode cX10_givesPassed 71 = .ok (.return_, 1) := by decide +kernel
theorem dX10_breachOf_0 : decode cX10_breachOf 0 = .ok (.lconst 0, 1) := by decide +kernel
theorem dX10_breachOf_1 : decode cX10_breachOf 1 = .ok (.lstore_n 3, 1) := by decide +kernel
theorem dX10_breachOf_2 : decode cX10_breachOf 2 = .ok (.aload_n 0, 1) := by decide +kernel
theorem dX10_breachOf_3 : decode cX10_breachOf 3 = .ok (.invokevirtual 202, 3) := by decide +kernel
theorem dX10_breachOf_6 : decode cX10_breachOf 6 = .ok (.aload_n 0, 1) := by decide +kernel
theorem dX10_breachOf_7 : decode cX10_breachOf 7 = .ok (.invokevirtual 205, 3) := by decide +kernel
theorem dX10_breachOf_10 : decode cX10_breachOf 10 = .ok (.iconst 0, 1) := by decide +kernel
theorem dX10_breachOf_11 : decode cX10_breachOf 11 = .ok (.istore 5, 2) := by decide +kernel
theorem dX10_breachOf_13 : decode cX10_breachOf 13 = .ok (.iload 5, 2) := by decide +kernel
theorem dX10_breachOf_15 : decode cX10_breachOf 15 = .ok (.aload_n 0, 1) := by decide +kernel
theorem dX10_breachOf_16 : decode cX10_breachOf 16 = .ok (.getfield 193, 3) := by decide +kernel
theorem dX10_breachOf_19 : decode cX10_breachOf 19 = .ok (.if_icmp .lt 8, 3) := by decide +kernel
theorem dX10_breachOf_22 : decode cX10_breachOf 22 = .ok (.iload 5, 2) := by decide +kernel
theorem dX10_breachOf_24 : decode cX10_breachOf 24 = .ok (.ifCond .ne 188, 3) := by decide +kernel
theorem dX10_breachOf_27 : decode cX10_breachOf 27 = .ok (.iconst 0, 1) := by decide +kernel
theorem dX10_breachOf_28 : decode cX10_breachOf 28 = .ok (.istore 6, 2) := by decide +kernel
theorem dX10_breachOf_30 : decode cX10_breachOf 30 = .ok (.iload 6, 2) := by decide +kernel
theorem dX10_breachOf_32 : decode cX10_breachOf 32 = .ok (.iload_n 1, 1) := by decide +kernel
theorem dX10_breachOf_33 : decode cX10_breachOf 33 = .ok (.if_icmp .ge 169, 3) := by decide +kernel
theorem dX10_breachOf_36 : decode cX10_breachOf 36 = .ok (.iconst 0, 1) := by decide +kernel
theorem dX10_breachOf_37 : decode cX10_breachOf 37 = .ok (.istore 7, 2) := by decide +kernel
theorem dX10_breachOf_39 : decode cX10_breachOf 39 = .ok (.iconst 0, 1) := by decide +kernel
theorem dX10_breachOf_40 : decode cX10_breachOf 40 = .ok (.istore 8, 2) := by decide +kernel
theorem dX10_breachOf_42 : decode cX10_breachOf 42 = .ok (.iload 8, 2) := by decide +kernel
theorem dX10_breachOf_44 : decode cX10_breachOf 44 = .ok (.aload_n 0, 1) := by decide +kernel
theorem dX10_breachOf_45 : decode cX10_breachOf 45 = .ok (.getfield 154, 3) := by decide +kernel
theorem dX10_breachOf_48 : decode cX10_breachOf 48 = .ok (.if_icmp .ge 78, 3) := by decide +kernel
theorem dX10_breachOf_51 : decode cX10_breachOf 51 = .ok (.iload 8, 2) := by decide +kernel
theorem dX10_breachOf_53 : decode cX10_breachOf 53 = .ok (.iconst 2, 1) := by decide +kernel
theorem dX10_breachOf_54 : decode cX10_breachOf 54 = .ok (.if_icmp .ge 15, 3) := by decide +kernel
theorem dX10_breachOf_57 : decode cX10_breachOf 57 = .ok (.aload_n 0, 1) := by decide +kernel
theorem dX10_breachOf_58 : decode cX10_breachOf 58 = .ok (.iload_n 2, 1) := by decide +kernel
theorem dX10_breachOf_59 : decode cX10_breachOf 59 = .ok (.iload 6, 2) := by decide +kernel
theorem dX10_breachOf_61 : decode cX10_breachOf 61 = .ok (.iload 8, 2) := by decide +kernel
theorem dX10_breachOf_63 : decode cX10_breachOf 63 = .ok (.invokevirtual 198, 3) := by decide +kernel
theorem dX10_breachOf_66 : decode cX10_breachOf 66 = .ok (.goto 34, 3) := by decide +kernel
theorem dX10_breachOf_69 : decode cX10_breachOf 69 = .ok (.aload_n 0, 1) := by decide +kernel
theorem dX10_breachOf_70 : decode cX10_breachOf 70 = .ok (.getfield 58, 3) := by decide +kernel
theorem dX10_breachOf_73 : decode cX10_breachOf 73 = .ok (.iload 8, 2) := by decide +kernel
theorem dX10_breachOf_75 : decode cX10_breachOf 75 = .ok (.baload, 1) := by decide +kernel
theorem dX10_breachOf_76 : decode cX10_breachOf 76 = .ok (.ifCond .eq 23, 3) := by decide +kernel
theorem dX10_breachOf_79 : decode cX10_breachOf 79 = .ok (.aload_n 0, 1) := by decide +kernel
theorem dX10_breachOf_80 : decode cX10_breachOf 80 = .ok (.iload 8, 2) := by decide +kernel
theorem dX10_breachOf_82 : decode cX10_breachOf 82 = .ok (.aload_n 0, 1) := by decide +kernel
theorem dX10_breachOf_83 : decode cX10_breachOf 83 = .ok (.getfield 160, 3) := by decide +kernel
theorem dX10_breachOf_86 : decode cX10_breachOf 86 = .ok (.iload 6, 2) := by decide +kernel
theorem dX10_breachOf_88 : decode cX10_breachOf 88 = .ok (.iadd, 1) := by decide +kernel
theorem dX10_breachOf_89 : decode cX10_breachOf 89 = .ok (.invokevirtual 163, 3) := by decide +kernel
theorem dX10_breachOf_92 : decode cX10_breachOf 92 = .ok (.ifCond .ne 7, 3) := by decide +kernel
theorem dX10_breachOf_95 : decode cX10_breachOf 95 = .ok (.iconst 1, 1) := by decide +kernel
theorem dX10_breachOf_96 : decode cX10_breachOf 96 = .ok (.goto 4, 3) := by decide +kernel
theorem dX10_breachOf_99 : decode cX10_breachOf 99 = .ok (.iconst 0, 1) := by decide +kernel
theorem dX10_breachOf_100 : decode cX10_breachOf 100 = .ok (.istore 9, 2) := by decide +kernel
theorem dX10_breachOf_102 : decode cX10_breachOf 102 = .ok (.iload 7, 2) := by decide +kernel
theorem dX10_breachOf_104 : decode cX10_breachOf 104 = .ok (.iload 9, 2) := by decide +kernel
theorem dX10_breachOf_106 : decode cX10_breachOf 106 = .ok (.ifCond .eq 10, 3) := by decide +kernel
theorem dX10_breachOf_109 : decode cX10_breachOf 109 = .ok (.iconst 1, 1) := by decide +kernel
theorem dX10_breachOf_110 : decode cX10_breachOf 110 = .ok (.iload 8, 2) := by decide +kernel
theorem dX10_breachOf_112 : decode cX10_breachOf 112 = .ok (.ishl, 1) := by decide +kernel
theorem dX10_breachOf_113 : decode cX10_breachOf 113 = .ok (.goto 4, 3) := by decide +kernel
theorem dX10_breachOf_116 : decode cX10_breachOf 116 = .ok (.iconst 0, 1) := by decide +kernel
theorem dX10_breachOf_117 : decode cX10_breachOf 117 = .ok (.ior, 1) := by decide +kernel
theorem dX10_breachOf_118 : decode cX10_breachOf 118 = .ok (.istore 7, 2) := by decide +kernel
theorem dX10_breachOf_120 : decode cX10_breachOf 120 = .ok (.iinc 8 1, 3) := by decide +kernel
theorem dX10_breachOf_123 : decode cX10_breachOf 123 = .ok (.goto (-81), 3) := by decide +kernel
theorem dX10_breachOf_126 : decode cX10_breachOf 126 = .ok (.aload_n 0, 1) := by decide +kernel
theorem dX10_breachOf_127 : decode cX10_breachOf 127 = .ok (.iload 5, 2) := by decide +kernel
theorem dX10_breachOf_129 : decode cX10_breachOf 129 = .ok (.aload_n 0, 1) := by decide +kernel
theorem dX10_breachOf_130 : decode cX10_breachOf 130 = .ok (.getfield 193, 3) := by decide +kernel
theorem dX10_breachOf_133 : decode cX10_breachOf 133 = .ok (.if_icmp .ge 19, 3) := by decide +kernel
theorem dX10_breachOf_136 : decode cX10_breachOf 136 = .ok (.aload_n 0, 1) := by decide +kernel
theorem dX10_breachOf_137 : decode cX10_breachOf 137 = .ok (.getfield 89, 3) := by decide +kernel
theorem dX10_breachOf_140 : decode cX10_breachOf 140 = .ok (.bipush 6, 2) := by decide +kernel
theorem dX10_breachOf_142 : decode cX10_breachOf 142 = .ok (.iload 5, 2) := by decide +kernel
theorem dX10_breachOf_144 : decode cX10_breachOf 144 = .ok (.imul, 1) := by decide +kernel
theorem dX10_breachOf_145 : decode cX10_breachOf 145 = .ok (.iload 6, 2) := by decide +kernel
theorem dX10_breachOf_147 : decode cX10_breachOf 147 = .ok (.iadd, 1) := by decide +kernel
theorem dX10_breachOf_148 : decode cX10_breachOf 148 = .ok (.iaload, 1) := by decide +kernel
theorem dX10_breachOf_149 : decode cX10_breachOf 149 = .ok (.goto 4, 3) := by decide +kernel
theorem dX10_breachOf_152 : decode cX10_breachOf 152 = .ok (.iconst 0, 1) := by decide +kernel
theorem dX10_breachOf_153 : decode cX10_breachOf 153 = .ok (.aload_n 0, 1) := by decide +kernel
theorem dX10_breachOf_154 : decode cX10_breachOf 154 = .ok (.getfield 160, 3) := by decide +kernel
theorem dX10_breachOf_157 : decode cX10_breachOf 157 = .ok (.iload 6, 2) := by decide +kernel
theorem dX10_breachOf_159 : decode cX10_breachOf 159 = .ok (.iadd, 1) := by decide +kernel
theorem dX10_breachOf_160 : decode cX10_breachOf 160 = .ok (.bipush 24, 2) := by decide +kernel
theorem dX10_breachOf_162 : decode cX10_breachOf 162 = .ok (.irem, 1) := by decide +kernel
theorem dX10_breachOf_163 : decode cX10_breachOf 163 = .ok (.iload 7, 2) := by decide +kernel
theorem dX10_breachOf_165 : decode cX10_breachOf 165 = .ok (.invokevirtual 182, 3) := by decide +kernel
theorem dX10_breachOf_168 : decode cX10_breachOf 168 = .ok (.iconst 0, 1) := by decide +kernel
theorem dX10_breachOf_169 : decode cX10_breachOf 169 = .ok (.istore 8, 2) := by decide +kernel
theorem dX10_breachOf_171 : decode cX10_breachOf 171 = .ok (.iload 8, 2) := by decide +kernel
theorem dX10_breachOf_173 : decode cX10_breachOf 173 = .ok (.aload_n 0, 1) := by decide +kernel
theorem dX10_breachOf_174 : decode cX10_breachOf 174 = .ok (.getfield 113, 3) := by decide +kernel
theorem dX10_breachOf_177 : decode cX10_breachOf 177 = .ok (.if_icmp .ge 19, 3) := by decide +kernel
theorem dX10_breachOf_180 : decode cX10_breachOf 180 = .ok (.lload_n 3, 1) := by decide +kernel
theorem dX10_breachOf_181 : decode cX10_breachOf 181 = .ok (.aload_n 0, 1) := by decide +kernel
theorem dX10_breachOf_182 : decode cX10_breachOf 182 = .ok (.iload 8, 2) := by decide +kernel
theorem dX10_breachOf_184 : decode cX10_breachOf 184 = .ok (.invokevirtual 144, 3) := by decide +kernel
theorem dX10_breachOf_187 : decode cX10_breachOf 187 = .ok (.i2l, 1) := by decide +kernel
theorem dX10_breachOf_188 : decode cX10_breachOf 188 = .ok (.ladd, 1) := by decide +kernel
theorem dX10_breachOf_189 : decode cX10_breachOf 189 = .ok (.lstore_n 3, 1) := by decide +kernel
theorem dX10_breachOf_190 : decode cX10_breachOf 190 = .ok (.iinc 8 1, 3) := by decide +kernel
theorem dX10_breachOf_193 : decode cX10_breachOf 193 = .ok (.goto (-22), 3) := by decide +kernel
theorem dX10_breachOf_196 : decode cX10_breachOf 196 = .ok (.iinc 6 1, 3) := by decide +kernel
theorem dX10_breachOf_199 : decode cX10_breachOf 199 = .ok (.goto (-169), 3) := by decide +kernel
theorem dX10_breachOf_202 : decode cX10_breachOf 202 = .ok (.aload_n 0, 1) := by decide +kernel
theorem dX10_breachOf_203 : decode cX10_breachOf 203 = .ok (.invokevirtual 208, 3) := by decide +kernel
theorem dX10_breachOf_206 : decode cX10_breachOf 206 = .ok (.iinc 5 1, 3) := by decide +kernel
theorem dX10_breachOf_209 : decode cX10_breachOf 209 = .ok (.goto (-196), 3) := by decide +kernel
theorem dX10_breachOf_212 : decode cX10_breachOf 212 = .ok (.aload_n 0, 1) := by decide +kernel
theorem dX10_breachOf_213 : decode cX10_breachOf 213 = .ok (.invokevirtual 211, 3) := by decide +kernel
theorem dX10_breachOf_216 : decode cX10_breachOf 216 = .ok (.lload_n 3, 1) := by decide +kernel
theorem dX10_breachOf_217 : decode cX10_breachOf 217 = .ok (.lreturn, 1) := by decide +kernel
theorem dX10_isPlan_0 : decode cX10_isPlan 0 = .ok (.iload_n 1, 1) := by decide +kernel
theorem dX10_isPlan_1 : decode cX10_isPlan 1 = .ok (.i2l, 1) := by decide +kernel
theorem dX10_isPlan_2 : decode cX10_isPlan 2 = .ok (.lconst 1, 1) := by decide +kernel
theorem dX10_isPlan_3 : decode cX10_isPlan 3 = .ok (.ldc2_w 150, 3) := by decide +kernel
theorem dX10_isPlan_6 : decode cX10_isPlan 6 = .ok (.invokestatic 117, 3) := by decide +kernel
theorem dX10_isPlan_9 : decode cX10_isPlan 9 = .ok (.ifCond .eq 24, 3) := by decide +kernel
theorem dX10_isPlan_12 : decode cX10_isPlan 12 = .ok (.iload_n 2, 1) := by decide +kernel
theorem dX10_isPlan_13 : decode cX10_isPlan 13 = .ok (.i2l, 1) := by decide +kernel
theorem dX10_isPlan_14 : decode cX10_isPlan 14 = .ok (.lconst 0, 1) := by decide +kernel
theorem dX10_isPlan_15 : decode cX10_isPlan 15 = .ok (.iconst 1, 1) := by decide +kernel
theorem dX10_isPlan_16 : decode cX10_isPlan 16 = .ok (.iconst 2, 1) := by decide +kernel
theorem dX10_isPlan_17 : decode cX10_isPlan 17 = .ok (.iload_n 1, 1) := by decide +kernel
theorem dX10_isPlan_18 : decode cX10_isPlan 18 = .ok (.imul, 1) := by decide +kernel
theorem dX10_isPlan_19 : decode cX10_isPlan 19 = .ok (.ishl, 1) := by decide +kernel
theorem dX10_isPlan_20 : decode cX10_isPlan 20 = .ok (.iconst 1, 1) := by decide +kernel
theorem dX10_isPlan_21 : decode cX10_isPlan 21 = .ok (.isub, 1) := by decide +kernel
theorem dX10_isPlan_22 : decode cX10_isPlan 22 = .ok (.i2l, 1) := by decide +kernel
theorem dX10_isPlan_23 : decode cX10_isPlan 23 = .ok (.invokestatic 117, 3) := by decide +kernel
theorem dX10_isPlan_26 : decode cX10_isPlan 26 = .ok (.ifCond .eq 7, 3) := by decide +kernel
theorem dX10_isPlan_29 : decode cX10_isPlan 29 = .ok (.iconst 1, 1) := by decide +kernel
theorem dX10_isPlan_30 : decode cX10_isPlan 30 = .ok (.goto 4, 3) := by decide +kernel
theorem dX10_isPlan_33 : decode cX10_isPlan 33 = .ok (.iconst 0, 1) := by decide +kernel
theorem dX10_isPlan_34 : decode cX10_isPlan 34 = .ok (.istore_n 3, 1) := by decide +kernel
theorem dX10_isPlan_35 : decode cX10_isPlan 35 = .ok (.iconst 0, 1) := by decide +kernel
theorem dX10_isPlan_36 : decode cX10_isPlan 36 = .ok (.istore 4, 2) := by decide +kernel
theorem dX10_isPlan_38 : decode cX10_isPlan 38 = .ok (.iload 4, 2) := by decide +kernel
theorem dX10_isPlan_40 : decode cX10_isPlan 40 = .ok (.iload_n 1, 1) := by decide +kernel
theorem dX10_isPlan_41 : decode cX10_isPlan 41 = .ok (.if_icmp .ge 53, 3) := by decide +kernel
theorem dX10_isPlan_44 : decode cX10_isPlan 44 = .ok (.iload_n 3, 1) := by decide +kernel
theorem dX10_isPlan_45 : decode cX10_isPlan 45 = .ok (.ifCond .eq 49, 3) := by decide +kernel
theorem dX10_isPlan_48 : decode cX10_isPlan 48 = .ok (.aload_n 0, 1) := by decide +kernel
theorem dX10_isPlan_49 : decode cX10_isPlan 49 = .ok (.getfield 154, 3) := by decide +kernel
theorem dX10_isPlan_52 : decode cX10_isPlan 52 = .ok (.istore 5, 2) := by decide +kernel
theorem dX10_isPlan_54 : decode cX10_isPlan 54 = .ok (.iload 5, 2) := by decide +kernel
theorem dX10_isPlan_56 : decode cX10_isPlan 56 = .ok (.iconst 2, 1) := by decide +kernel
theorem dX10_isPlan_57 : decode cX10_isPlan 57 = .ok (.if_icmp .ge 31, 3) := by decide +kernel
theorem dX10_isPlan_60 : decode cX10_isPlan 60 = .ok (.iload_n 3, 1) := by decide +kernel
theorem dX10_isPlan_61 : decode cX10_isPlan 61 = .ok (.ifCond .eq 19, 3) := by decide +kernel
theorem dX10_isPlan_64 : decode cX10_isPlan 64 = .ok (.aload_n 0, 1) := by decide +kernel
theorem dX10_isPlan_65 : decode cX10_isPlan 65 = .ok (.iload_n 2, 1) := by decide +kernel
theorem dX10_isPlan_66 : decode cX10_isPlan 66 = .ok (.iload 4, 2) := by decide +kernel
theorem dX10_isPlan_68 : decode cX10_isPlan 68 = .ok (.iload 5, 2) := by decide +kernel
theorem dX10_isPlan_70 : decode cX10_isPlan 70 = .ok (.invokevirtual 198, 3) := by decide +kernel
theorem dX10_isPlan_73 : decode cX10_isPlan 73 = .ok (.ifCond .ne 7, 3) := by decide +kernel
theorem dX10_isPlan_76 : decode cX10_isPlan 76 = .ok (.iconst 1, 1) := by decide +kernel
theorem dX10_isPlan_77 : decode cX10_isPlan 77 = .ok (.goto 4, 3) := by decide +kernel
theorem dX10_isPlan_80 : decode cX10_isPlan 80 = .ok (.iconst 0, 1) := by decide +kernel
theorem dX10_isPlan_81 : decode cX10_isPlan 81 = .ok (.istore_n 3, 1) := by decide +kernel
theorem dX10_isPlan_82 : decode cX10_isPlan 82 = .ok (.iinc 5 1, 3) := by decide +kernel
theorem dX10_isPlan_85 : decode cX10_isPlan 85 = .ok (.goto (-31), 3) := by decide +kernel
theorem dX10_isPlan_88 : decode cX10_isPlan 88 = .ok (.iinc 4 1, 3) := by decide +kernel
theorem dX10_isPlan_91 : decode cX10_isPlan 91 = .ok (.goto (-53), 3) := by decide +kernel
theorem dX10_isPlan_94 : decode cX10_isPlan 94 = .ok (.iload_n 3, 1) := by decide +kernel
theorem dX10_isPlan_95 : decode cX10_isPlan 95 = .ok (.ireturn, 1) := by decide +kernel
theorem dX10_findPlan_0 : decode cX10_findPlan 0 = .ok (.aload_n 0, 1) := by decide +kernel
theorem dX10_findPlan_1 : decode cX10_findPlan 1 = .ok (.bipush (-4), 2) := by decide +kernel
theorem dX10_findPlan_3 : decode cX10_findPlan 3 = .ok (.putfield 214, 3) := by decide +kernel
theorem dX10_findPlan_6 : decode cX10_findPlan 6 = .ok (.iconst 0, 1) := by decide +kernel
theorem dX10_findPlan_7 : decode cX10_findPlan 7 = .ok (.istore_n 2, 1) := by decide +kernel
theorem dX10_findPlan_8 : decode cX10_findPlan 8 = .ok (.iload_n 2, 1) := by decide +kernel
theorem dX10_findPlan_9 : decode cX10_findPlan 9 = .ok (.iconst 1, 1) := by decide +kernel
theorem dX10_findPlan_10 : decode cX10_findPlan 10 = .ok (.iconst 2, 1) := by decide +kernel
theorem dX10_findPlan_11 : decode cX10_findPlan 11 = .ok (.iload_n 1, 1) := by decide +kernel
theorem dX10_findPlan_12 : decode cX10_findPlan 12 = .ok (.imul, 1) := by decide +kernel
theorem dX10_findPlan_13 : decode cX10_findPlan 13 = .ok (.ishl, 1) := by decide +kernel
theorem dX10_findPlan_14 : decode cX10_findPlan 14 = .ok (.if_icmp .ge 95, 3) := by decide +kernel
theorem dX10_findPlan_17 : decode cX10_findPlan 17 = .ok (.aload_n 0, 1) := by decide +kernel
theorem dX10_findPlan_18 : decode cX10_findPlan 18 = .ok (.iload_n 1, 1) := by decide +kernel
theorem dX10_findPlan_19 : decode cX10_findPlan 19 = .ok (.iload_n 2, 1) := by decide +kernel
theorem dX10_findPlan_20 : decode cX10_findPlan 20 = .ok (.invokevirtual 217, 3) := by decide +kernel
theorem dX10_findPlan_23 : decode cX10_findPlan 23 = .ok (.ifCond .eq 80, 3) := by decide +kernel
theorem dX10_findPlan_26 : decode cX10_findPlan 26 = .ok (.aload_n 0, 1) := by decide +kernel
theorem dX10_findPlan_27 : decode cX10_findPlan 27 = .ok (.iload_n 1, 1) := by decide +kernel
theorem dX10_findPlan_28 : decode cX10_findPlan 28 = .ok (.iload_n 2, 1) := by decide +kernel
theorem dX10_findPlan_29 : decode cX10_findPlan 29 = .ok (.invokevirtual 220, 3) := by decide +kernel
theorem dX10_findPlan_32 : decode cX10_findPlan 32 = .ok (.ifCond .eq 71, 3) := by decide +kernel
theorem dX10_findPlan_35 : decode cX10_findPlan 35 = .ok (.aload_n 0, 1) := by decide +kernel
theorem dX10_findPlan_36 : decode cX10_findPlan 36 = .ok (.iload_n 1, 1) := by decide +kernel
theorem dX10_findPlan_37 : decode cX10_findPlan 37 = .ok (.iload_n 2, 1) := by decide +kernel
theorem dX10_findPlan_38 : decode cX10_findPlan 38 = .ok (.invokevirtual 223, 3) := by decide +kernel
theorem dX10_findPlan_41 : decode cX10_findPlan 41 = .ok (.lstore_n 3, 1) := by decide +kernel
theorem dX10_findPlan_42 : decode cX10_findPlan 42 = .ok (.aload_n 0, 1) := by decide +kernel
theorem dX10_findPlan_43 : decode cX10_findPlan 43 = .ok (.iload_n 1, 1) := by decide +kernel
theorem dX10_findPlan_44 : decode cX10_findPlan 44 = .ok (.iload_n 2, 1) := by decide +kernel
theorem dX10_findPlan_45 : decode cX10_findPlan 45 = .ok (.invokevirtual 227, 3) := by decide +kernel
theorem dX10_findPlan_48 : decode cX10_findPlan 48 = .ok (.lstore 5, 2) := by decide +kernel
theorem dX10_findPlan_50 : decode cX10_findPlan 50 = .ok (.aload_n 0, 1) := by decide +kernel
theorem dX10_findPlan_51 : decode cX10_findPlan 51 = .ok (.getfield 214, 3) := by decide +kernel
theorem dX10_findPlan_54 : decode cX10_findPlan 54 = .ok (.bipush (-4), 2) := by decide +kernel
theorem dX10_findPlan_56 : decode cX10_findPlan 56 = .ok (.if_icmp .eq 31, 3) := by decide +kernel
theorem dX10_findPlan_59 : decode cX10_findPlan 59 = .ok (.lload_n 3, 1) := by decide +kernel
theorem dX10_findPlan_60 : decode cX10_findPlan 60 = .ok (.aload_n 0, 1) := by decide +kernel
theorem dX10_findPlan_61 : decode cX10_findPlan 61 = .ok (.getfield 230, 3) := by decide +kernel
theorem dX10_findPlan_64 : decode cX10_findPlan 64 = .ok (.lcmp, 1) := by decide +kernel
theorem dX10_findPlan_65 : decode cX10_findPlan 65 = .ok (.ifCond .lt 22, 3) := by decide +kernel
theorem dX10_findPlan_68 : decode cX10_findPlan 68 = .ok (.lload_n 3, 1) := by decide +kernel
theorem dX10_findPlan_69 : decode cX10_findPlan 69 = .ok (.aload_n 0, 1) := by decide +kernel
theorem dX10_findPlan_70 : decode cX10_findPlan 70 = .ok (.getfield 230, 3) := by decide +kernel
theorem dX10_findPlan_73 : decode cX10_findPlan 73 = .ok (.lcmp, 1) := by decide +kernel
theorem dX10_findPlan_74 : decode cX10_findPlan 74 = .ok (.ifCond .ne 29, 3) := by decide +kernel
theorem dX10_findPlan_77 : decode cX10_findPlan 77 = .ok (.lload 5, 2) := by decide +kernel
theorem dX10_findPlan_79 : decode cX10_findPlan 79 = .ok (.aload_n 0, 1) := by decide +kernel
theorem dX10_findPlan_80 : decode cX10_findPlan 80 = .ok (.getfield 234, 3) := by decide +kernel
theorem dX10_findPlan_83 : decode cX10_findPlan 83 = .ok (.lcmp, 1) := by decide +kernel
theorem dX10_findPlan_84 : decode cX10_findPlan 84 = .ok (.ifCond .ge 19, 3) := by decide +kernel
theorem dX10_findPlan_87 : decode cX10_findPlan 87 = .ok (.aload_n 0, 1) := by decide +kernel
theorem dX10_findPlan_88 : decode cX10_findPlan 88 = .ok (.iload_n 2, 1) := by decide +kernel
theorem dX10_findPlan_89 : decode cX10_findPlan 89 = .ok (.putfield 214, 3) := by decide +kernel
theorem dX10_findPlan_92 : decode cX10_findPlan 92 = .ok (.aload_n 0, 1) := by decide +kernel
theorem dX10_findPlan_93 : decode cX10_findPlan 93 = .ok (.lload_n 3, 1) := by decide +kernel
theorem dX10_findPlan_94 : decode cX10_findPlan 94 = .ok (.putfield 230, 3) := by decide +kernel
theorem dX10_findPlan_97 : decode cX10_findPlan 97 = .ok (.aload_n 0, 1) := by decide +kernel
theorem dX10_findPlan_98 : decode cX10_findPlan 98 = .ok (.lload 5, 2) := by decide +kernel
theorem dX10_findPlan_100 : decode cX10_findPlan 100 = .ok (.putfield 234, 3) := by decide +kernel
theorem dX10_findPlan_103 : decode cX10_findPlan 103 = .ok (.iinc 2 1, 3) := by decide +kernel
theorem dX10_findPlan_106 : decode cX10_findPlan 106 = .ok (.goto (-98), 3) := by decide +kernel
theorem dX10_findPlan_109 : decode cX10_findPlan 109 = .ok (.return_, 1) := by decide +kernel
theorem dX10_plan_0 : decode cX10_plan 0 = .ok (.iload_n 1, 1) := by decide +kernel
theorem dX10_plan_1 : decode cX10_plan 1 = .ok (.i2l, 1) := by decide +kernel
theorem dX10_plan_2 : decode cX10_plan 2 = .ok (.lconst 1, 1) := by decide +kernel
theorem dX10_plan_3 : decode cX10_plan 3 = .ok (.ldc2_w 150, 3) := by decide +kernel
theorem dX10_plan_6 : decode cX10_plan 6 = .ok (.invokestatic 117, 3) := by decide +kernel
theorem dX10_plan_9 : decode cX10_plan 9 = .ok (.ifCond .ne 5, 3) := by decide +kernel
theorem dX10_plan_12 : decode cX10_plan 12 = .ok (.iconst (-1), 1) := by decide +kernel
theorem dX10_plan_13 : decode cX10_plan 13 = .ok (.ireturn, 1) := by decide +kernel
theorem dX10_plan_14 : decode cX10_plan 14 = .ok (.aload_n 0, 1) := by decide +kernel
theorem dX10_plan_15 : decode cX10_plan 15 = .ok (.iload_n 1, 1) := by decide +kernel
theorem dX10_plan_16 : decode cX10_plan 16 = .ok (.invokevirtual 237, 3) := by decide +kernel
theorem dX10_plan_19 : decode cX10_plan 19 = .ok (.aload_n 0, 1) := by decide +kernel
theorem dX10_plan_20 : decode cX10_plan 20 = .ok (.getfield 214, 3) := by decide +kernel
theorem dX10_plan_23 : decode cX10_plan 23 = .ok (.ireturn, 1) := by decide +kernel
theorem dX10_planned_0 : decode cX10_planned 0 = .ok (.iload_n 1, 1) := by decide +kernel
theorem dX10_planned_1 : decode cX10_planned 1 = .ok (.i2l, 1) := by decide +kernel
theorem dX10_planned_2 : decode cX10_planned 2 = .ok (.lconst 1, 1) := by decide +kernel
theorem dX10_planned_3 : decode cX10_planned 3 = .ok (.ldc2_w 150, 3) := by decide +kernel
theorem dX10_planned_6 : decode cX10_planned 6 = .ok (.invokestatic 117, 3) := by decide +kernel
theorem dX10_planned_9 : decode cX10_planned 9 = .ok (.ifCond .eq 13, 3) := by decide +kernel
theorem dX10_planned_12 : decode cX10_planned 12 = .ok (.iload_n 2, 1) := by decide +kernel
theorem dX10_planned_13 : decode cX10_planned 13 = .ok (.i2l, 1) := by decide +kernel
theorem dX10_planned_14 : decode cX10_planned 14 = .ok (.lconst 0, 1) := by decide +kernel
theorem dX10_planned_15 : decode cX10_planned 15 = .ok (.lconst 1, 1) := by decide +kernel
theorem dX10_planned_16 : decode cX10_planned 16 = .ok (.invokestatic 117, 3) := by decide +kernel
theorem dX10_planned_19 : decode cX10_planned 19 = .ok (.ifCond .ne 7, 3) := by decide +kernel
theorem dX10_planned_22 : decode cX10_planned 22 = .ok (.ldc2_w 241, 3) := by decide +kernel
theorem dX10_planned_25 : decode cX10_planned 25 = .ok (.lreturn, 1) := by decide +kernel
theorem dX10_planned_26 : decode cX10_planned 26 = .ok (.aload_n 0, 1) := by decide +kernel
theorem dX10_planned_27 : decode cX10_planned 27 = .ok (.iload_n 1, 1) := by decide +kernel
theorem dX10_planned_28 : decode cX10_planned 28 = .ok (.invokevirtual 237, 3) := by decide +kernel
theorem dX10_planned_31 : decode cX10_planned 31 = .ok (.iload_n 2, 1) := by decide +kernel
theorem dX10_planned_32 : decode cX10_planned 32 = .ok (.ifCond .ne 10, 3) := by decide +kernel
theorem dX10_planned_35 : decode cX10_planned 35 = .ok (.aload_n 0, 1) := by decide +kernel
theorem dX10_planned_36 : decode cX10_planned 36 = .ok (.getfield 234, 3) := by decide +kernel
theorem dX10_planned_39 : decode cX10_planned 39 = .ok (.goto 7, 3) := by decide +kernel
theorem dX10_planned_42 : decode cX10_planned 42 = .ok (.aload_n 0, 1) := by decide +kernel
theorem dX10_planned_43 : decode cX10_planned 43 = .ok (.getfield 230, 3) := by decide +kernel
theorem dX10_planned_46 : decode cX10_planned 46 = .ok (.lreturn, 1) := by decide +kernel
theorem dX10_judge_0 : decode cX10_judge 0 = .ok (.aload_n 0, 1) := by decide +kernel
theorem dX10_judge_1 : decode cX10_judge 1 = .ok (.iload_n 1, 1) := by decide +kernel
theorem dX10_judge_2 : decode cX10_judge 2 = .ok (.iload_n 2, 1) := by decide +kernel
theorem dX10_judge_3 : decode cX10_judge 3 = .ok (.invokevirtual 217, 3) := by decide +kernel
theorem dX10_judge_6 : decode cX10_judge 6 = .ok (.ifCond .eq 15, 3) := by decide +kernel
theorem dX10_judge_9 : decode cX10_judge 9 = .ok (.iload_n 3, 1) := by decide +kernel
theorem dX10_judge_10 : decode cX10_judge 10 = .ok (.i2l, 1) := by decide +kernel
theorem dX10_judge_11 : decode cX10_judge 11 = .ok (.lconst 0, 1) := by decide +kernel
theorem dX10_judge_12 : decode cX10_judge 12 = .ok (.ldc2_w 243, 3) := by decide +kernel
theorem dX10_judge_15 : decode cX10_judge 15 = .ok (.invokestatic 117, 3) := by decide +kernel
theorem dX10_judge_18 : decode cX10_judge 18 = .ok (.ifCond .ne 7, 3) := by decide +kernel
theorem dX10_judge_21 : decode cX10_judge 21 = .ok (.ldc2_w 241, 3) := by decide +kernel
theorem dX10_judge_24 : decode cX10_judge 24 = .ok (.lreturn, 1) := by decide +kernel
theorem dX10_judge_25 : decode cX10_judge 25 = .ok (.iload_n 3, 1) := by decide +kernel
theorem dX10_judge_26 : decode cX10_judge 26 = .ok (.ifCond .ne 20, 3) := by decide +kernel
theorem dX10_judge_29 : decode cX10_judge 29 = .ok (.aload_n 0, 1) := by decide +kernel
theorem dX10_judge_30 : decode cX10_judge 30 = .ok (.iload_n 1, 1) := by decide +kernel
theorem dX10_judge_31 : decode cX10_judge 31 = .ok (.iload_n 2, 1) := by decide +kernel
theorem dX10_judge_32 : decode cX10_judge 32 = .ok (.invokevirtual 220, 3) := by decide +kernel
theorem dX10_judge_35 : decode cX10_judge 35 = .ok (.ifCond .eq 7, 3) := by decide +kernel
theorem dX10_judge_38 : decode cX10_judge 38 = .ok (.lconst 1, 1) := by decide +kernel
theorem dX10_judge_39 : decode cX10_judge 39 = .ok (.goto 27, 3) := by decide +kernel
theorem dX10_judge_42 : decode cX10_judge 42 = .ok (.lconst 0, 1) := by decide +kernel
theorem dX10_judge_43 : decode cX10_judge 43 = .ok (.goto 23, 3) := by decide +kernel
theorem dX10_judge_46 : decode cX10_judge 46 = .ok (.iload_n 3, 1) := by decide +kernel
theorem dX10_judge_47 : decode cX10_judge 47 = .ok (.iconst 1, 1) := by decide +kernel
theorem dX10_judge_48 : decode cX10_judge 48 = .ok (.if_icmp .ne 12, 3) := by decide +kernel
theorem dX10_judge_51 : decode cX10_judge 51 = .ok (.aload_n 0, 1) := by decide +kernel
theorem dX10_judge_52 : decode cX10_judge 52 = .ok (.iload_n 1, 1) := by decide +kernel
theorem dX10_judge_53 : decode cX10_judge 53 = .ok (.iload_n 2, 1) := by decide +kernel
theorem dX10_judge_54 : decode cX10_judge 54 = .ok (.invokevirtual 227, 3) := by decide +kernel
theorem dX10_judge_57 : decode cX10_judge 57 = .ok (.goto 9, 3) := by decide +kernel
theorem dX10_judge_60 : decode cX10_judge 60 = .ok (.aload_n 0, 1) := by decide +kernel
theorem dX10_judge_61 : decode cX10_judge 61 = .ok (.iload_n 1, 1) := by decide +kernel
theorem dX10_judge_62 : decode cX10_judge 62 = .ok (.iload_n 2, 1) := by decide +kernel
theorem dX10_judge_63 : decode cX10_judge 63 = .ok (.invokevirtual 223, 3) := by decide +kernel
theorem dX10_judge_66 : decode cX10_judge 66 = .ok (.lreturn, 1) := by decide +kernel
theorem dX10_follow_0 : decode cX10_follow 0 = .ok (.iload_n 1, 1) := by decide +kernel
theorem dX10_follow_1 : decode cX10_follow 1 = .ok (.i2l, 1) := by decide +kernel
theorem dX10_follow_2 : decode cX10_follow 2 = .ok (.lconst 1, 1) := by decide +kernel
theorem dX10_follow_3 : decode cX10_follow 3 = .ok (.ldc2_w 150, 3) := by decide +kernel
theorem dX10_follow_6 : decode cX10_follow 6 = .ok (.invokestatic 117, 3) := by decide +kernel
theorem dX10_follow_9 : decode cX10_follow 9 = .ok (.ifCond .ne 5, 3) := by decide +kernel
theorem dX10_follow_12 : decode cX10_follow 12 = .ok (.iconst (-1), 1) := by decide +kernel
theorem dX10_follow_13 : decode cX10_follow 13 = .ok (.ireturn, 1) := by decide +kernel
theorem dX10_follow_14 : decode cX10_follow 14 = .ok (.aload_n 0, 1) := by decide +kernel
theorem dX10_follow_15 : decode cX10_follow 15 = .ok (.iload_n 1, 1) := by decide +kernel
theorem dX10_follow_16 : decode cX10_follow 16 = .ok (.invokevirtual 237, 3) := by decide +kernel
theorem dX10_follow_19 : decode cX10_follow 19 = .ok (.iconst 0, 1) := by decide +kernel
theorem dX10_follow_20 : decode cX10_follow 20 = .ok (.istore_n 2, 1) := by decide +kernel
theorem dX10_follow_21 : decode cX10_follow 21 = .ok (.iconst 0, 1) := by decide +kernel
theorem dX10_follow_22 : decode cX10_follow 22 = .ok (.istore_n 3, 1) := by decide +kernel
theorem dX10_follow_23 : decode cX10_follow 23 = .ok (.iload_n 3, 1) := by decide +kernel
theorem dX10_follow_24 : decode cX10_follow 24 = .ok (.iconst 2, 1) := by decide +kernel
theorem dX10_follow_25 : decode cX10_follow 25 = .ok (.if_icmp .ge 49, 3) := by decide +kernel
theorem dX10_follow_28 : decode cX10_follow 28 = .ok (.iload_n 3, 1) := by decide +kernel
theorem dX10_follow_29 : decode cX10_follow 29 = .ok (.aload_n 0, 1) := by decide +kernel
theorem dX10_follow_30 : decode cX10_follow 30 = .ok (.getfield 154, 3) := by decide +kernel
theorem dX10_follow_33 : decode cX10_follow 33 = .ok (.if_icmp .ge 41, 3) := by decide +kernel
theorem dX10_follow_36 : decode cX10_follow 36 = .ok (.aload_n 0, 1) := by decide +kernel
theorem dX10_follow_37 : decode cX10_follow 37 = .ok (.iload_n 3, 1) := by decide +kernel
theorem dX10_follow_38 : decode cX10_follow 38 = .ok (.aload_n 0, 1) := by decide +kernel
theorem dX10_follow_39 : decode cX10_follow 39 = .ok (.aload_n 0, 1) := by decide +kernel
theorem dX10_follow_40 : decode cX10_follow 40 = .ok (.getfield 214, 3) := by decide +kernel
theorem dX10_follow_43 : decode cX10_follow 43 = .ok (.iconst 0, 1) := by decide +kernel
theorem dX10_follow_44 : decode cX10_follow 44 = .ok (.iload_n 3, 1) := by decide +kernel
theorem dX10_follow_45 : decode cX10_follow 45 = .ok (.invokevirtual 198, 3) := by decide +kernel
theorem dX10_follow_48 : decode cX10_follow 48 = .ok (.invokevirtual 167, 3) := by decide +kernel
theorem dX10_follow_51 : decode cX10_follow 51 = .ok (.iload_n 2, 1) := by decide +kernel
theorem dX10_follow_52 : decode cX10_follow 52 = .ok (.aload_n 0, 1) := by decide +kernel
theorem dX10_follow_53 : decode cX10_follow 53 = .ok (.getfield 58, 3) := by decide +kernel
theorem dX10_follow_56 : decode cX10_follow 56 = .ok (.iload_n 3, 1) := by decide +kernel
theorem dX10_follow_57 : decode cX10_follow 57 = .ok (.baload, 1) := by decide +kernel
theorem dX10_follow_58 : decode cX10_follow 58 = .ok (.ifCond .eq 7, 3) := by decide +kernel
theorem dX10_follow_61 : decode cX10_follow 61 = .ok (.iconst 1, 1) := by decide +kernel
theorem dX10_follow_62 : decode cX10_follow 62 = .ok (.goto 4, 3) := by decide +kernel
theorem dX10_follow_65 : decode cX10_follow 65 = .ok (.iconst 0, 1) := by decide +kernel
theorem dX10_follow_66 : decode cX10_follow 66 = .ok (.iadd, 1) := by decide +kernel
theorem dX10_follow_67 : decode cX10_follow 67 = .ok (.istore_n 2, 1) := by decide +kernel
theorem dX10_follow_68 : decode cX10_follow 68 = .ok (.iinc 3 1, 3) := by decide +kernel
theorem dX10_follow_71 : decode cX10_follow 71 = .ok (.goto (-48), 3) := by decide +kernel
theorem dX10_follow_74 : decode cX10_follow 74 = .ok (.iload_n 2, 1) := by decide +kernel
theorem dX10_follow_75 : decode cX10_follow 75 = .ok (.ireturn, 1) := by decide +kernel
theorem dX10_isSheet_0 : decode cX10_isSheet 0 = .ok (.iload_n 0, 1) := by decide +kernel
theorem dX10_isSheet_1 : decode cX10_isSheet 1 = .ok (.i2l, 1) := by decide +kernel
theorem dX10_isSheet_2 : decode cX10_isSheet 2 = .ok (.lconst 0, 1) := by decide +kernel
theorem dX10_isSheet_3 : decode cX10_isSheet 3 = .ok (.ldc2_w 245, 3) := by decide +kernel
theorem dX10_isSheet_6 : decode cX10_isSheet 6 = .ok (.invokestatic 117, 3) := by decide +kernel
theorem dX10_isSheet_9 : decode cX10_isSheet 9 = .ok (.ifCond .eq 19, 3) := by decide +kernel
theorem dX10_isSheet_12 : decode cX10_isSheet 12 = .ok (.iload_n 1, 1) := by decide +kernel
theorem dX10_isSheet_13 : decode cX10_isSheet 13 = .ok (.i2l, 1) := by decide +kernel
theorem dX10_isSheet_14 : decode cX10_isSheet 14 = .ok (.lconst 0, 1) := by decide +kernel
theorem dX10_isSheet_15 : decode cX10_isSheet 15 = .ok (.ldc2_w 243, 3) := by decide +kernel
theorem dX10_isSheet_18 : decode cX10_isSheet 18 = .ok (.invokestatic 117, 3) := by decide +kernel
theorem dX10_isSheet_21 : decode cX10_isSheet 21 = .ok (.ifCond .eq 7, 3) := by decide +kernel
theorem dX10_isSheet_24 : decode cX10_isSheet 24 = .ok (.iconst 1, 1) := by decide +kernel
theorem dX10_isSheet_25 : decode cX10_isSheet 25 = .ok (.goto 4, 3) := by decide +kernel
theorem dX10_isSheet_28 : decode cX10_isSheet 28 = .ok (.iconst 0, 1) := by decide +kernel
theorem dX10_isSheet_29 : decode cX10_isSheet 29 = .ok (.ireturn, 1) := by decide +kernel
theorem dX10_sheet_0 : decode cX10_sheet 0 = .ok (.iload_n 1, 1) := by decide +kernel
theorem dX10_sheet_1 : decode cX10_sheet 1 = .ok (.iload_n 2, 1) := by decide +kernel
theorem dX10_sheet_2 : decode cX10_sheet 2 = .ok (.invokestatic 247, 3) := by decide +kernel
theorem dX10_sheet_5 : decode cX10_sheet 5 = .ok (.ifCond .eq 9, 3) := by decide +kernel
theorem dX10_sheet_8 : decode cX10_sheet 8 = .ok (.iload_n 3, 1) := by decide +kernel
theorem dX10_sheet_9 : decode cX10_sheet 9 = .ok (.bipush 60, 2) := by decide +kernel
theorem dX10_sheet_11 : decode cX10_sheet 11 = .ok (.if_icmp .le 5, 3) := by decide +kernel
theorem dX10_sheet_14 : decode cX10_sheet 14 = .ok (.iconst (-1), 1) := by decide +kernel
theorem dX10_sheet_15 : decode cX10_sheet 15 = .ok (.ireturn, 1) := by decide +kernel
theorem dX10_sheet_16 : decode cX10_sheet 16 = .ok (.iload_n 3, 1) := by decide +kernel
theorem dX10_sheet_17 : decode cX10_sheet 17 = .ok (.ifCond .ge 6, 3) := by decide +kernel
theorem dX10_sheet_20 : decode cX10_sheet 20 = .ok (.bipush (-14), 2) := by decide +kernel
theorem dX10_sheet_22 : decode cX10_sheet 22 = .ok (.ireturn, 1) := by decide +kernel
theorem dX10_sheet_23 : decode cX10_sheet 23 = .ok (.aload_n 0, 1) := by decide +kernel
theorem dX10_sheet_24 : decode cX10_sheet 24 = .ok (.getfield 104, 3) := by decide +kernel
theorem dX10_sheet_27 : decode cX10_sheet 27 = .ok (.iload_n 1, 1) := by decide +kernel
theorem dX10_sheet_28 : decode cX10_sheet 28 = .ok (.iload_n 2, 1) := by decide +kernel
theorem dX10_sheet_29 : decode cX10_sheet 29 = .ok (.iastore, 1) := by decide +kernel
theorem dX10_sheet_30 : decode cX10_sheet 30 = .ok (.aload_n 0, 1) := by decide +kernel
theorem dX10_sheet_31 : decode cX10_sheet 31 = .ok (.getfield 107, 3) := by decide +kernel
theorem dX10_sheet_34 : decode cX10_sheet 34 = .ok (.iload_n 1, 1) := by decide +kernel
theorem dX10_sheet_35 : decode cX10_sheet 35 = .ok (.iload_n 3, 1) := by decide +kernel
theorem dX10_sheet_36 : decode cX10_sheet 36 = .ok (.iastore, 1) := by decide +kernel
theorem dX10_sheet_37 : decode cX10_sheet 37 = .ok (.iconst 0, 1) := by decide +kernel
theorem dX10_sheet_38 : decode cX10_sheet 38 = .ok (.istore 4, 2) := by decide +kernel
theorem dX10_sheet_40 : decode cX10_sheet 40 = .ok (.iload 4, 2) := by decide +kernel
theorem dX10_sheet_42 : decode cX10_sheet 42 = .ok (.bipush 60, 2) := by decide +kernel
theorem dX10_sheet_44 : decode cX10_sheet 44 = .ok (.if_icmp .ge 22, 3) := by decide +kernel
theorem dX10_sheet_47 : decode cX10_sheet 47 = .ok (.aload_n 0, 1) := by decide +kernel
theorem dX10_sheet_48 : decode cX10_sheet 48 = .ok (.getfield 110, 3) := by decide +kernel
theorem dX10_sheet_51 : decode cX10_sheet 51 = .ok (.bipush 60, 2) := by decide +kernel
theorem dX10_sheet_53 : decode cX10_sheet 53 = .ok (.iload_n 1, 1) := by decide +kernel
theorem dX10_sheet_54 : decode cX10_sheet 54 = .ok (.imul, 1) := by decide +kernel
theorem dX10_sheet_55 : decode cX10_sheet 55 = .ok (.iload 4, 2) := by decide +kernel
theorem dX10_sheet_57 : decode cX10_sheet 57 = .ok (.iadd, 1) := by decide +kernel
theorem dX10_sheet_58 : decode cX10_sheet 58 = .ok (.iconst 0, 1) := by decide +kernel
theorem dX10_sheet_59 : decode cX10_sheet 59 = .ok (.iastore, 1) := by decide +kernel
theorem dX10_sheet_60 : decode cX10_sheet 60 = .ok (.iinc 4 1, 3) := by decide +kernel
theorem dX10_sheet_63 : decode cX10_sheet 63 = .ok (.goto (-23), 3) := by decide +kernel
theorem dX10_sheet_66 : decode cX10_sheet 66 = .ok (.iconst 1, 1) := by decide +kernel
theorem dX10_sheet_67 : decode cX10_sheet 67 = .ok (.ireturn, 1) := by decide +kernel
theorem dX10_lay_0 : decode cX10_lay 0 = .ok (.iload_n 1, 1) := by decide +kernel
theorem dX10_lay_1 : decode cX10_lay 1 = .ok (.iconst 0, 1) := by decide +kernel
theorem dX10_lay_2 : decode cX10_lay 2 = .ok (.invokestatic 247, 3) := by decide +kernel
theorem dX10_lay_5 : decode cX10_lay 5 = .ok (.ifCond .ne 5, 3) := by decide +kernel
theorem dX10_lay_8 : decode cX10_lay 8 = .ok (.iconst (-1), 1) := by decide +kernel
theorem dX10_lay_9 : decode cX10_lay 9 = .ok (.ireturn, 1) := by decide +kernel
theorem dX10_lay_10 : decode cX10_lay 10 = .ok (.aload_n 0, 1) := by decide +kernel
theorem dX10_lay_11 : decode cX10_lay 11 = .ok (.getfield 104, 3) := by decide +kernel
theorem dX10_lay_14 : decode cX10_lay 14 = .ok (.iload_n 1, 1) := by decide +kernel
theorem dX10_lay_15 : decode cX10_lay 15 = .ok (.iaload, 1) := by decide +kernel
theorem dX10_lay_16 : decode cX10_lay 16 = .ok (.bipush (-4), 2) := by decide +kernel
theorem dX10_lay_18 : decode cX10_lay 18 = .ok (.if_icmp .ne 6, 3) := by decide +kernel
theorem dX10_lay_21 : decode cX10_lay 21 = .ok (.bipush (-11), 2) := by decide +kernel
theorem dX10_lay_23 : decode cX10_lay 23 = .ok (.ireturn, 1) := by decide +kernel
theorem dX10_lay_24 : decode cX10_lay 24 = .ok (.iload_n 2, 1) := by decide +kernel
theorem dX10_lay_25 : decode cX10_lay 25 = .ok (.i2l, 1) := by decide +kernel
theorem dX10_lay_26 : decode cX10_lay 26 = .ok (.lconst 0, 1) := by decide +kernel
theorem dX10_lay_27 : decode cX10_lay 27 = .ok (.aload_n 0, 1) := by decide +kernel
theorem dX10_lay_28 : decode cX10_lay 28 = .ok (.getfield 107, 3) := by decide +kernel
theorem dX10_lay_31 : decode cX10_lay 31 = .ok (.iload_n 1, 1) := by decide +kernel
theorem dX10_lay_32 : decode cX10_lay 32 = .ok (.iaload, 1) := by decide +kernel
theorem dX10_lay_33 : decode cX10_lay 33 = .ok (.iconst 1, 1) := by decide +kernel
theorem dX10_lay_34 : decode cX10_lay 34 = .ok (.isub, 1) := by decide +kernel
theorem dX10_lay_35 : decode cX10_lay 35 = .ok (.i2l, 1) := by decide +kernel
theorem dX10_lay_36 : decode cX10_lay 36 = .ok (.invokestatic 117, 3) := by decide +kernel
theorem dX10_lay_39 : decode cX10_lay 39 = .ok (.ifCond .ne 6, 3) := by decide +kernel
theorem dX10_lay_42 : decode cX10_lay 42 = .ok (.bipush (-12), 2) := by decide +kernel
theorem dX10_lay_44 : decode cX10_lay 44 = .ok (.ireturn, 1) := by decide +kernel
theorem dX10_lay_45 : decode cX10_lay 45 = .ok (.aload_n 0, 1) := by decide +kernel
theorem dX10_lay_46 : decode cX10_lay 46 = .ok (.getfield 110, 3) := by decide +kernel
theorem dX10_lay_49 : decode cX10_lay 49 = .ok (.bipush 60, 2) := by decide +kernel
theorem dX10_lay_51 : decode cX10_lay 51 = .ok (.iload_n 1, 1) := by decide +kernel
theorem dX10_lay_52 : decode cX10_lay 52 = .ok (.imul, 1) := by decide +kernel
theorem dX10_lay_53 : decode cX10_lay 53 = .ok (.iload_n 2, 1) := by decide +kernel
theorem dX10_lay_54 : decode cX10_lay 54 = .ok (.iadd, 1) := by decide +kernel
theorem dX10_lay_55 : decode cX10_lay 55 = .ok (.aload_n 0, 1) := by decide +kernel
theorem dX10_lay_56 : decode cX10_lay 56 = .ok (.getfield 104, 3) := by decide +kernel
theorem dX10_lay_59 : decode cX10_lay 59 = .ok (.iload_n 1, 1) := by decide +kernel
theorem dX10_lay_60 : decode cX10_lay 60 = .ok (.iaload, 1) := by decide +kernel
theorem dX10_lay_61 : decode cX10_lay 61 = .ok (.ifCond .ne 8, 3) := by decide +kernel
theorem dX10_lay_64 : decode cX10_lay 64 = .ok (.iload_n 3, 1) := by decide +kernel
theorem dX10_lay_65 : decode cX10_lay 65 = .ok (.i2b, 1) := by decide +kernel
theorem dX10_lay_66 : decode cX10_lay 66 = .ok (.goto 19, 3) := by decide +kernel
theorem dX10_lay_69 : decode cX10_lay 69 = .ok (.aload_n 0, 1) := by decide +kernel
theorem dX10_lay_70 : decode cX10_lay 70 = .ok (.getfield 104, 3) := by decide +kernel
theorem dX10_lay_73 : decode cX10_lay 73 = .ok (.iload_n 1, 1) := by decide +kernel
theorem dX10_lay_74 : decode cX10_lay 74 = .ok (.iaload, 1) := by decide +kernel
theorem dX10_lay_75 : decode cX10_lay 75 = .ok (.iconst 1, 1) := by decide +kernel
theorem dX10_lay_76 : decode cX10_lay 76 = .ok (.if_icmp .ne 8, 3) := by decide +kernel
theorem dX10_lay_79 : decode cX10_lay 79 = .ok (.iload_n 3, 1) := by decide +kernel
theorem dX10_lay_80 : decode cX10_lay 80 = .ok (.i2s, 1) := by decide +kernel
theorem dX10_lay_81 : decode cX10_lay 81 = .ok (.goto 4, 3) := by decide +kernel
theorem dX10_lay_84 : decode cX10_lay 84 = .ok (.iload_n 3, 1) := by decide +kernel
theorem dX10_lay_85 : decode cX10_lay 85 = .ok (.iastore, 1) := by decide +kernel
theorem dX10_lay_86 : decode cX10_lay 86 = .ok (.iconst 1, 1) := by decide +kernel
theorem dX10_lay_87 : decode cX10_lay 87 = .ok (.ireturn, 1) := by decide +kernel
theorem dX10_bars_0 : decode cX10_bars 0 = .ok (.iload_n 2, 1) := by decide +kernel
theorem dX10_bars_1 : decode cX10_bars 1 = .ok (.i2l, 1) := by decide +kernel
theorem dX10_bars_2 : decode cX10_bars 2 = .ok (.iload_n 3, 1) := by decide +kernel
theorem dX10_bars_3 : decode cX10_bars 3 = .ok (.i2l, 1) := by decide +kernel
theorem dX10_bars_4 : decode cX10_bars 4 = .ok (.ladd, 1) := by decide +kernel
theorem dX10_bars_5 : decode cX10_bars 5 = .ok (.lstore 6, 2) := by decide +kernel
theorem dX10_bars_7 : decode cX10_bars 7 = .ok (.lload 6, 2) := by decide +kernel
theorem dX10_bars_9 : decode cX10_bars 9 = .ok (.lconst 0, 1) := by decide +kernel
theorem dX10_bars_10 : decode cX10_bars 10 = .ok (.lcmp, 1) := by decide +kernel
theorem dX10_bars_11 : decode cX10_bars 11 = .ok (.ifCond .lt 16, 3) := by decide +kernel
theorem dX10_bars_14 : decode cX10_bars 14 = .ok (.lload 6, 2) := by decide +kernel
theorem dX10_bars_16 : decode cX10_bars 16 = .ok (.aload_n 0, 1) := by decide +kernel
theorem dX10_bars_17 : decode cX10_bars 17 = .ok (.getfield 107, 3) := by decide +kernel
theorem dX10_bars_20 : decode cX10_bars 20 = .ok (.iload_n 1, 1) := by decide +kernel
theorem dX10_bars_21 : decode cX10_bars 21 = .ok (.iaload, 1) := by decide +kernel
theorem dX10_bars_22 : decode cX10_bars 22 = .ok (.i2l, 1) := by decide +kernel
theorem dX10_bars_23 : decode cX10_bars 23 = .ok (.lcmp, 1) := by decide +kernel
theorem dX10_bars_24 : decode cX10_bars 24 = .ok (.ifCond .lt 6, 3) := by decide +kernel
theorem dX10_bars_27 : decode cX10_bars 27 = .ok (.bipush (-12), 2) := by decide +kernel
theorem dX10_bars_29 : decode cX10_bars 29 = .ok (.ireturn, 1) := by decide +kernel
theorem dX10_bars_30 : decode cX10_bars 30 = .ok (.aload_n 0, 1) := by decide +kernel
theorem dX10_bars_31 : decode cX10_bars 31 = .ok (.getfield 110, 3) := by decide +kernel
theorem dX10_bars_34 : decode cX10_bars 34 = .ok (.bipush 60, 2) := by decide +kernel
theorem dX10_bars_36 : decode cX10_bars 36 = .ok (.iload_n 1, 1) := by decide +kernel
theorem dX10_bars_37 : decode cX10_bars 37 = .ok (.imul, 1) := by decide +kernel
theorem dX10_bars_38 : decode cX10_bars 38 = .ok (.lload 6, 2) := by decide +kernel
theorem dX10_bars_40 : decode cX10_bars 40 = .ok (.l2i, 1) := by decide +kernel
theorem dX10_bars_41 : decode cX10_bars 41 = .ok (.iadd, 1) := by decide +kernel
theorem dX10_bars_42 : decode cX10_bars 42 = .ok (.iaload, 1) := by decide +kernel
theorem dX10_bars_43 : decode cX10_bars 43 = .ok (.i2l, 1) := by decide +kernel
theorem dX10_bars_44 : decode cX10_bars 44 = .ok (.iload 4, 2) := by decide +kernel
theorem dX10_bars_46 : decode cX10_bars 46 = .ok (.i2l, 1) := by decide +kernel
theorem dX10_bars_47 : decode cX10_bars 47 = .ok (.iload 5, 2) := by decide +kernel
theorem dX10_bars_49 : decode cX10_bars 49 = .ok (.i2l, 1) := by decide +kernel
theorem dX10_bars_50 : decode cX10_bars 50 = .ok (.invokestatic 117, 3) := by decide +kernel
theorem dX10_bars_53 : decode cX10_bars 53 = .ok (.ifCond .eq 7, 3) := by decide +kernel
theorem dX10_bars_56 : decode cX10_bars 56 = .ok (.iconst 0, 1) := by decide +kernel
theorem dX10_bars_57 : decode cX10_bars 57 = .ok (.goto 7, 3) := by decide +kernel
theorem dX10_bars_60 : decode cX10_bars 60 = .ok (.bipush (-20), 2) := by decide +kernel
theorem dX10_bars_62 : decode cX10_bars 62 = .ok (.iload_n 3, 1) := by decide +kernel
theorem dX10_bars_63 : decode cX10_bars 63 = .ok (.isub, 1) := by decide +kernel
theorem dX10_bars_64 : decode cX10_bars 64 = .ok (.ireturn, 1) := by decide +kernel
theorem dX10_rain_0 : decode cX10_rain 0 = .ok (.iload_n 1, 1) := by decide +kernel
theorem dX10_rain_1 : decode cX10_rain 1 = .ok (.iload_n 2, 1) := by decide +kernel
theorem dX10_rain_2 : decode cX10_rain 2 = .ok (.invokestatic 247, 3) := by decide +kernel
theorem dX10_rain_5 : decode cX10_rain 5 = .ok (.ifCond .eq 16, 3) := by decide +kernel
theorem dX10_rain_8 : decode cX10_rain 8 = .ok (.iload 4, 2) := by decide +kernel
theorem dX10_rain_10 : decode cX10_rain 10 = .ok (.i2l, 1) := by decide +kernel
theorem dX10_rain_11 : decode cX10_rain 11 = .ok (.lconst 0, 1) := by decide +kernel
theorem dX10_rain_12 : decode cX10_rain 12 = .ok (.ldc2_w 250, 3) := by decide +kernel
theorem dX10_rain_15 : decode cX10_rain 15 = .ok (.invokestatic 117, 3) := by decide +kernel
theorem dX10_rain_18 : decode cX10_rain 18 = .ok (.ifCond .ne 5, 3) := by decide +kernel
theorem dX10_rain_21 : decode cX10_rain 21 = .ok (.iconst (-1), 1) := by decide +kernel
theorem dX10_rain_22 : decode cX10_rain 22 = .ok (.ireturn, 1) := by decide +kernel
theorem dX10_rain_23 : decode cX10_rain 23 = .ok (.aload_n 0, 1) := by decide +kernel
theorem dX10_rain_24 : decode cX10_rain 24 = .ok (.getfield 104, 3) := by decide +kernel
theorem dX10_rain_27 : decode cX10_rain 27 = .ok (.iload_n 1, 1) := by decide +kernel
theorem dX10_rain_28 : decode cX10_rain 28 = .ok (.iaload, 1) := by decide +kernel
theorem dX10_rain_29 : decode cX10_rain 29 = .ok (.iload_n 2, 1) := by decide +kernel
theorem dX10_rain_30 : decode cX10_rain 30 = .ok (.if_icmp .eq 22, 3) := by decide +kernel
theorem dX10_rain_33 : decode cX10_rain 33 = .ok (.aload_n 0, 1) := by decide +kernel
theorem dX10_rain_34 : decode cX10_rain 34 = .ok (.getfield 104, 3) := by decide +kernel
theorem dX10_rain_37 : decode cX10_rain 37 = .ok (.iload_n 1, 1) := by decide +kernel
theorem dX10_rain_38 : decode cX10_rain 38 = .ok (.iaload, 1) := by decide +kernel
theorem dX10_rain_39 : decode cX10_rain 39 = .ok (.bipush (-4), 2) := by decide +kernel
theorem dX10_rain_41 : decode cX10_rain 41 = .ok (.if_icmp .ne 8, 3) := by decide +kernel
theorem dX10_rain_44 : decode cX10_rain 44 = .ok (.bipush (-11), 2) := by decide +kernel
theorem dX10_rain_46 : decode cX10_rain 46 = .ok (.goto 5, 3) := by decide +kernel
theorem dX10_rain_49 : decode cX10_rain 49 = .ok (.bipush (-13), 2) := by decide +kernel
theorem dX10_rain_51 : decode cX10_rain 51 = .ok (.ireturn, 1) := by decide +kernel
theorem dX10_rain_52 : decode cX10_rain 52 = .ok (.iconst 0, 1) := by decide +kernel
theorem dX10_rain_53 : decode cX10_rain 53 = .ok (.istore 5, 2) := by decide +kernel
theorem dX10_rain_55 : decode cX10_rain 55 = .ok (.iconst 0, 1) := by decide +kernel
theorem dX10_rain_56 : decode cX10_rain 56 = .ok (.istore 6, 2) := by decide +kernel
theorem dX10_rain_58 : decode cX10_rain 58 = .ok (.iload 6, 2) := by decide +kernel
theorem dX10_rain_60 : decode cX10_rain 60 = .ok (.iload 4, 2) := by decide +kernel
theorem dX10_rain_62 : decode cX10_rain 62 = .ok (.if_icmp .ge 50, 3) := by decide +kernel
theorem dX10_rain_65 : decode cX10_rain 65 = .ok (.aload_n 0, 1) := by decide +kernel
theorem dX10_rain_66 : decode cX10_rain 66 = .ok (.iload_n 1, 1) := by decide +kernel
theorem dX10_rain_67 : decode cX10_rain 67 = .ok (.iload_n 3, 1) := by decide +kernel
theorem dX10_rain_68 : decode cX10_rain 68 = .ok (.iload 6, 2) := by decide +kernel
theorem dX10_rain_70 : decode cX10_rain 70 = .ok (.iconst 0, 1) := by decide +kernel
theorem dX10_rain_71 : decode cX10_rain 71 = .ok (.bipush 100, 2) := by decide +kernel
theorem dX10_rain_73 : decode cX10_rain 73 = .ok (.invokevirtual 252, 3) := by decide +kernel
theorem dX10_rain_76 : decode cX10_rain 76 = .ok (.istore 7, 2) := by decide +kernel
theorem dX10_rain_78 : decode cX10_rain 78 = .ok (.iload 7, 2) := by decide +kernel
theorem dX10_rain_80 : decode cX10_rain 80 = .ok (.ifCond .ge 6, 3) := by decide +kernel
theorem dX10_rain_83 : decode cX10_rain 83 = .ok (.iload 7, 2) := by decide +kernel
theorem dX10_rain_85 : decode cX10_rain 85 = .ok (.ireturn, 1) := by decide +kernel
theorem dX10_rain_86 : decode cX10_rain 86 = .ok (.aload_n 0, 1) := by decide +kernel
theorem dX10_rain_87 : decode cX10_rain 87 = .ok (.aload_n 0, 1) := by decide +kernel
theorem dX10_rain_88 : decode cX10_rain 88 = .ok (.getfield 110, 3) := by decide +kernel
theorem dX10_rain_91 : decode cX10_rain 91 = .ok (.bipush 60, 2) := by decide +kernel
theorem dX10_rain_93 : decode cX10_rain 93 = .ok (.iload_n 1, 1) := by decide +kernel
theorem dX10_rain_94 : decode cX10_rain 94 = .ok (.imul, 1) := by decide +kernel
theorem dX10_rain_95 : decode cX10_rain 95 = .ok (.iload_n 3, 1) := by decide +kernel
theorem dX10_rain_96 : decode cX10_rain 96 = .ok (.iadd, 1) := by decide +kernel
theorem dX10_rain_97 : decode cX10_rain 97 = .ok (.iload 6, 2) := by decide +kernel
theorem dX10_rain_99 : decode cX10_rain 99 = .ok (.iadd, 1) := by decide +kernel
theorem dX10_rain_100 : decode cX10_rain 100 = .ok (.iaload, 1) := by decide +kernel
theorem dX10_rain_101 : decode cX10_rain 101 = .ok (.invokevirtual 190, 3) := by decide +kernel
theorem dX10_rain_104 : decode cX10_rain 104 = .ok (.istore 5, 2) := by decide +kernel
theorem dX10_rain_106 : decode cX10_rain 106 = .ok (.iinc 6 1, 3) := by decide +kernel
theorem dX10_rain_109 : decode cX10_rain 109 = .ok (.goto (-51), 3) := by decide +kernel
theorem dX10_rain_112 : decode cX10_rain 112 = .ok (.iload 5, 2) := by decide +kernel
theorem dX10_rain_114 : decode cX10_rain 114 = .ok (.ireturn, 1) := by decide +kernel
theorem dX10_tides_0 : decode cX10_tides 0 = .ok (.iload_n 1, 1) := by decide +kernel
theorem dX10_tides_1 : decode cX10_tides 1 = .ok (.iload_n 2, 1) := by decide +kernel
theorem dX10_tides_2 : decode cX10_tides 2 = .ok (.invokestatic 247, 3) := by decide +kernel
theorem dX10_tides_5 : decode cX10_tides 5 = .ok (.ifCond .ne 5, 3) := by decide +kernel
theorem dX10_tides_8 : decode cX10_tides 8 = .ok (.iconst (-1), 1) := by decide +kernel
theorem dX10_tides_9 : decode cX10_tides 9 = .ok (.ireturn, 1) := by decide +kernel
theorem dX10_tides_10 : decode cX10_tides 10 = .ok (.aload_n 0, 1) := by decide +kernel
theorem dX10_tides_11 : decode cX10_tides 11 = .ok (.getfield 104, 3) := by decide +kernel
theorem dX10_tides_14 : decode cX10_tides 14 = .ok (.iload_n 1, 1) := by decide +kernel
theorem dX10_tides_15 : decode cX10_tides 15 = .ok (.iaload, 1) := by decide +kernel
theorem dX10_tides_16 : decode cX10_tides 16 = .ok (.iload_n 2, 1) := by decide +kernel
theorem dX10_tides_17 : decode cX10_tides 17 = .ok (.if_icmp .eq 22, 3) := by decide +kernel
theorem dX10_tides_20 : decode cX10_tides 20 = .ok (.aload_n 0, 1) := by decide +kernel
theorem dX10_tides_21 : decode cX10_tides 21 = .ok (.getfield 104, 3) := by decide +kernel
theorem dX10_tides_24 : decode cX10_tides 24 = .ok (.iload_n 1, 1) := by decide +kernel
theorem dX10_tides_25 : decode cX10_tides 25 = .ok (.iaload, 1) := by decide +kernel
theorem dX10_tides_26 : decode cX10_tides 26 = .ok (.bipush (-4), 2) := by decide +kernel
theorem dX10_tides_28 : decode cX10_tides 28 = .ok (.if_icmp .ne 8, 3) := by decide +kernel
theorem dX10_tides_31 : decode cX10_tides 31 = .ok (.bipush (-11), 2) := by decide +kernel
theorem dX10_tides_33 : decode cX10_tides 33 = .ok (.goto 5, 3) := by decide +kernel
theorem dX10_tides_36 : decode cX10_tides 36 = .ok (.bipush (-13), 2) := by decide +kernel
theorem dX10_tides_38 : decode cX10_tides 38 = .ok (.ireturn, 1) := by decide +kernel
theorem dX10_tides_39 : decode cX10_tides 39 = .ok (.iconst 0, 1) := by decide +kernel
theorem dX10_tides_40 : decode cX10_tides 40 = .ok (.istore 4, 2) := by decide +kernel
theorem dX10_tides_42 : decode cX10_tides 42 = .ok (.iload 4, 2) := by decide +kernel
theorem dX10_tides_44 : decode cX10_tides 44 = .ok (.bipush 24, 2) := by decide +kernel
theorem dX10_tides_46 : decode cX10_tides 46 = .ok (.if_icmp .ge 33, 3) := by decide +kernel
theorem dX10_tides_49 : decode cX10_tides 49 = .ok (.aload_n 0, 1) := by decide +kernel
theorem dX10_tides_50 : decode cX10_tides 50 = .ok (.iload_n 1, 1) := by decide +kernel
theorem dX10_tides_51 : decode cX10_tides 51 = .ok (.iload_n 3, 1) := by decide +kernel
theorem dX10_tides_52 : decode cX10_tides 52 = .ok (.iload 4, 2) := by decide +kernel
theorem dX10_tides_54 : decode cX10_tides 54 = .ok (.sipush (-500), 3) := by decide +kernel
theorem dX10_tides_57 : decode cX10_tides 57 = .ok (.sipush 500, 3) := by decide +kernel
theorem dX10_tides_60 : decode cX10_tides 60 = .ok (.invokevirtual 252, 3) := by decide +kernel
theorem dX10_tides_63 : decode cX10_tides 63 = .ok (.istore 5, 2) := by decide +kernel
theorem dX10_tides_65 : decode cX10_tides 65 = .ok (.iload 5, 2) := by decide +kernel
theorem dX10_tides_67 : decode cX10_tides 67 = .ok (.ifCond .ge 6, 3) := by decide +kernel
theorem dX10_tides_70 : decode cX10_tides 70 = .ok (.iload 5, 2) := by decide +kernel
theorem dX10_tides_72 : decode cX10_tides 72 = .ok (.ireturn, 1) := by decide +kernel
theorem dX10_tides_73 : decode cX10_tides 73 = .ok (.iinc 4 1, 3) := by decide +kernel
theorem dX10_tides_76 : decode cX10_tides 76 = .ok (.goto (-34), 3) := by decide +kernel
theorem dX10_tides_79 : decode cX10_tides 79 = .ok (.iconst 0, 1) := by decide +kernel
theorem dX10_tides_80 : decode cX10_tides 80 = .ok (.istore 4, 2) := by decide +kernel
theorem dX10_tides_82 : decode cX10_tides 82 = .ok (.iload 4, 2) := by decide +kernel
theorem dX10_tides_84 : decode cX10_tides 84 = .ok (.bipush 24, 2) := by decide +kernel
theorem dX10_tides_86 : decode cX10_tides 86 = .ok (.if_icmp .ge 30, 3) := by decide +kernel
theorem dX10_tides_89 : decode cX10_tides 89 = .ok (.aload_n 0, 1) := by decide +kernel
theorem dX10_tides_90 : decode cX10_tides 90 = .ok (.getfield 74, 3) := by decide +kernel
theorem dX10_tides_93 : decode cX10_tides 93 = .ok (.iload 4, 2) := by decide +kernel
theorem dX10_tides_95 : decode cX10_tides 95 = .ok (.aload_n 0, 1) := by decide +kernel
theorem dX10_tides_96 : decode cX10_tides 96 = .ok (.getfield 110, 3) := by decide +kernel
theorem dX10_tides_99 : decode cX10_tides 99 = .ok (.bipush 60, 2) := by decide +kernel
theorem dX10_tides_101 : decode cX10_tides 101 = .ok (.iload_n 1, 1) := by decide +kernel
theorem dX10_tides_102 : decode cX10_tides 102 = .ok (.imul, 1) := by decide +kernel
theorem dX10_tides_103 : decode cX10_tides 103 = .ok (.iload_n 3, 1) := by decide +kernel
theorem dX10_tides_104 : decode cX10_tides 104 = .ok (.iadd, 1) := by decide +kernel
theorem dX10_tides_105 : decode cX10_tides 105 = .ok (.iload 4, 2) := by decide +kernel
theorem dX10_tides_107 : decode cX10_tides 107 = .ok (.iadd, 1) := by decide +kernel
theorem dX10_tides_108 : decode cX10_tides 108 = .ok (.iaload, 1) := by decide +kernel
theorem dX10_tides_109 : decode cX10_tides 109 = .ok (.iastore, 1) := by decide +kernel
theorem dX10_tides_110 : decode cX10_tides 110 = .ok (.iinc 4 1, 3) := by decide +kernel
theorem dX10_tides_113 : decode cX10_tides 113 = .ok (.goto (-31), 3) := by decide +kernel
theorem dX10_tides_116 : decode cX10_tides 116 = .ok (.iconst 1, 1) := by decide +kernel
theorem dX10_tides_117 : decode cX10_tides 117 = .ok (.ireturn, 1) := by decide +kernel
theorem dX10_count_0 : decode cX10_count 0 = .ok (.iconst 0, 1) := by decide +kernel
theorem dX10_count_1 : decode cX10_count 1 = .ok (.istore_n 2, 1) := by decide +kernel
theorem dX10_count_2 : decode cX10_count 2 = .ok (.iconst 0, 1) := by decide +kernel
theorem dX10_count_3 : decode cX10_count 3 = .ok (.istore_n 3, 1) := by decide +kernel
theorem dX10_count_4 : decode cX10_count 4 = .ok (.iconst 0, 1) := by decide +kernel
theorem dX10_count_5 : decode cX10_count 5 = .ok (.istore 4, 2) := by decide +kernel
theorem dX10_count_7 : decode cX10_count 7 = .ok (.iload 4, 2) := by decide +kernel
theorem dX10_count_9 : decode cX10_count 9 = .ok (.aload_n 0, 1) := by decide +kernel
theorem dX10_count_10 : decode cX10_count 10 = .ok (.getfield 154, 3) := by decide +kernel
theorem dX10_count_13 : decode cX10_count 13 = .ok (.if_icmp .ge 27, 3) := by decide +kernel
theorem dX10_count_16 : decode cX10_count 16 = .ok (.iload_n 2, 1) := by decide +kernel
theorem dX10_count_17 : decode cX10_count 17 = .ok (.aload_n 0, 1) := by decide +kernel
theorem dX10_count_18 : decode cX10_count 18 = .ok (.getfield 58, 3) := by decide +kernel
theorem dX10_count_21 : decode cX10_count 21 = .ok (.iload 4, 2) := by decide +kernel
theorem dX10_count_23 : decode cX10_count 23 = .ok (.baload, 1) := by decide +kernel
theorem dX10_count_24 : decode cX10_count 24 = .ok (.ifCond .eq 7, 3) := by decide +kernel
theorem dX10_count_27 : decode cX10_count 27 = .ok (.iconst 1, 1) := by decide +kernel
theorem dX10_count_28 : decode cX10_count 28 = .ok (.goto 4, 3) := by decide +kernel
theorem dX10_count_31 : decode cX10_count 31 = .ok (.iconst 0, 1) := by decide +kernel
theorem dX10_count_32 : decode cX10_count 32 = .ok (.iadd, 1) := by decide +kernel
theorem dX10_count_33 : decode cX10_count 33 = .ok (.istore_n 2, 1) := by decide +kernel
theorem dX10_count_34 : decode cX10_count 34 = .ok (.iinc 4 1, 3) := by decide +kernel
theorem dX10_count_37 : decode cX10_count 37 = .ok (.goto (-30), 3) := by decide +kernel
theorem dX10_count_40 : decode cX10_count 40 = .ok (.iconst 0, 1) := by decide +kernel
theorem dX10_count_41 : decode cX10_count 41 = .ok (.istore 4, 2) := by decide +kernel
theorem dX10_count_43 : decode cX10_count 43 = .ok (.iload 4, 2) := by decide +kernel
theorem dX10_count_45 : decode cX10_count 45 = .ok (.aload_n 0, 1) := by decide +kernel
theorem dX10_count_46 : decode cX10_count 46 = .ok (.getfield 113, 3) := by decide +kernel
theorem dX10_count_49 : decode cX10_count 49 = .ok (.if_icmp .ge 19, 3) := by decide +kernel
theorem dX10_count_52 : decode cX10_count 52 = .ok (.iload_n 3, 1) := by decide +kernel
theorem dX10_count_53 : decode cX10_count 53 = .ok (.aload_n 0, 1) := by decide +kernel
theorem dX10_count_54 : decode cX10_count 54 = .ok (.getfield 16, 3) := by decide +kernel
theorem dX10_count_57 : decode cX10_count 57 = .ok (.iload 4, 2) := by decide +kernel
theorem dX10_count_59 : decode cX10_count 59 = .ok (.iaload, 1) := by decide +kernel
theorem dX10_count_60 : decode cX10_count 60 = .ok (.iadd, 1) := by decide +kernel
theorem dX10_count_61 : decode cX10_count 61 = .ok (.istore_n 3, 1) := by decide +kernel
theorem dX10_count_62 : decode cX10_count 62 = .ok (.iinc 4 1, 3) := by decide +kernel
theorem dX10_count_65 : decode cX10_count 65 = .ok (.goto (-22), 3) := by decide +kernel
theorem dX10_count_68 : decode cX10_count 68 = .ok (.iload_n 1, 1) := by decide +kernel
theorem dX10_count_69 : decode cX10_count 69 = .ok (.tableswitch 99 0 9 #[55, 60, 65, 70, 75, 80, 85, 90, 95, 97], 55) := by decide +kernel
theorem dX10_count_124 : decode cX10_count 124 = .ok (.aload_n 0, 1) := by decide +kernel
theorem dX10_count_125 : decode cX10_count 125 = .ok (.getfield 113, 3) := by decide +kernel
theorem dX10_count_128 : decode cX10_count 128 = .ok (.ireturn, 1) := by decide +kernel
theorem dX10_count_129 : decode cX10_count 129 = .ok (.aload_n 0, 1) := by decide +kernel
theorem dX10_count_130 : decode cX10_count 130 = .ok (.getfield 147, 3) := by decide +kernel
theorem dX10_count_133 : decode cX10_count 133 = .ok (.ireturn, 1) := by decide +kernel
theorem dX10_count_134 : decode cX10_count 134 = .ok (.aload_n 0, 1) := by decide +kernel
theorem dX10_count_135 : decode cX10_count 135 = .ok (.getfield 154, 3) := by decide +kernel
theorem dX10_count_138 : decode cX10_count 138 = .ok (.ireturn, 1) := by decide +kernel
theorem dX10_count_139 : decode cX10_count 139 = .ok (.aload_n 0, 1) := by decide +kernel
theorem dX10_count_140 : decode cX10_count 140 = .ok (.getfield 157, 3) := by decide +kernel
theorem dX10_count_143 : decode cX10_count 143 = .ok (.ireturn, 1) := by decide +kernel
theorem dX10_count_144 : decode cX10_count 144 = .ok (.aload_n 0, 1) := by decide +kernel
theorem dX10_count_145 : decode cX10_count 145 = .ok (.getfield 193, 3) := by decide +kernel
theorem dX10_count_148 : decode cX10_count 148 = .ok (.ireturn, 1) := by decide +kernel
theorem dX10_count_149 : decode cX10_count 149 = .ok (.aload_n 0, 1) := by decide +kernel
theorem dX10_count_150 : decode cX10_count 150 = .ok (.getfield 160, 3) := by decide +kernel
theorem dX10_count_153 : decode cX10_count 153 = .ok (.ireturn, 1) := by decide +kernel
theorem dX10_count_154 : decode cX10_count 154 = .ok (.aload_n 0, 1) := by decide +kernel
theorem dX10_count_155 : decode cX10_count 155 = .ok (.invokevirtual 186, 3) := by decide +kernel
theorem dX10_count_158 : decode cX10_count 158 = .ok (.ireturn, 1) := by decide +kernel
theorem dX10_count_159 : decode cX10_count 159 = .ok (.aload_n 0, 1) := by decide +kernel
theorem dX10_count_160 : decode cX10_count 160 = .ok (.getfield 179, 3) := by decide +kernel
theorem dX10_count_163 : decode cX10_count 163 = .ok (.ireturn, 1) := by decide +kernel
theorem dX10_count_164 : decode cX10_count 164 = .ok (.iload_n 2, 1) := by decide +kernel
theorem dX10_count_165 : decode cX10_count 165 = .ok (.ireturn, 1) := by decide +kernel
theorem dX10_count_166 : decode cX10_count 166 = .ok (.iload_n 3, 1) := by decide +kernel
theorem dX10_count_167 : decode cX10_count 167 = .ok (.ireturn, 1) := by decide +kernel
theorem dX10_count_168 : decode cX10_count 168 = .ok (.iconst (-1), 1) := by decide +kernel
theorem dX10_count_169 : decode cX10_count 169 = .ok (.ireturn, 1) := by decide +kernel
theorem dJ6_bitCount_0f7a4_0 : decode cJ6_bitCount_0f7a4 0 = .ok (.iload_n 0, 1) := by decide +kernel
theorem dJ6_bitCount_0f7a4_1 : decode cJ6_bitCount_0f7a4 1 = .ok (.iload_n 0, 1) := by decide +kernel
theorem dJ6_bitCount_0f7a4_2 : decode cJ6_bitCount_0f7a4 2 = .ok (.iconst 1, 1) := by decide +kernel
theorem dJ6_bitCount_0f7a4_3 : decode cJ6_bitCount_0f7a4 3 = .ok (.iushr, 1) := by decide +kernel
theorem dJ6_bitCount_0f7a4_4 : decode cJ6_bitCount_0f7a4 4 = .ok (.ldc_w 265, 3) := by decide +kernel
theorem dJ6_bitCount_0f7a4_7 : decode cJ6_bitCount_0f7a4 7 = .ok (.iand, 1) := by decide +kernel
theorem dJ6_bitCount_0f7a4_8 : decode cJ6_bitCount_0f7a4 8 = .ok (.isub, 1) := by decide +kernel
theorem dJ6_bitCount_0f7a4_9 : decode cJ6_bitCount_0f7a4 9 = .ok (.istore_n 0, 1) := by decide +kernel
theorem dJ6_bitCount_0f7a4_10 : decode cJ6_bitCount_0f7a4 10 = .ok (.iload_n 0, 1) := by decide +kernel
theorem dJ6_bitCount_0f7a4_11 : decode cJ6_bitCount_0f7a4 11 = .ok (.ldc_w 266, 3) := by decide +kernel
theorem dJ6_bitCount_0f7a4_14 : decode cJ6_bitCount_0f7a4 14 = .ok (.iand, 1) := by decide +kernel
theorem dJ6_bitCount_0f7a4_15 : decode cJ6_bitCount_0f7a4 15 = .ok (.iload_n 0, 1) := by decide +kernel
theorem dJ6_bitCount_0f7a4_16 : decode cJ6_bitCount_0f7a4 16 = .ok (.iconst 2, 1) := by decide +kernel
theorem dJ6_bitCount_0f7a4_17 : decode cJ6_bitCount_0f7a4 17 = .ok (.iushr, 1) := by decide +kernel
theorem dJ6_bitCount_0f7a4_18 : decode cJ6_bitCount_0f7a4 18 = .ok (.ldc_w 266, 3) := by decide +kernel
theorem dJ6_bitCount_0f7a4_21 : decode cJ6_bitCount_0f7a4 21 = .ok (.iand, 1) := by decide +kernel
theorem dJ6_bitCount_0f7a4_22 : decode cJ6_bitCount_0f7a4 22 = .ok (.iadd, 1) := by decide +kernel
theorem dJ6_bitCount_0f7a4_23 : decode cJ6_bitCount_0f7a4 23 = .ok (.istore_n 0, 1) := by decide +kernel
theorem dJ6_bitCount_0f7a4_24 : decode cJ6_bitCount_0f7a4 24 = .ok (.iload_n 0, 1) := by decide +kernel
theorem dJ6_bitCount_0f7a4_25 : decode cJ6_bitCount_0f7a4 25 = .ok (.iload_n 0, 1) := by decide +kernel
theorem dJ6_bitCount_0f7a4_26 : decode cJ6_bitCount_0f7a4 26 = .ok (.iconst 4, 1) := by decide +kernel
theorem dJ6_bitCount_0f7a4_27 : decode cJ6_bitCount_0f7a4 27 = .ok (.iushr, 1) := by decide +kernel
theorem dJ6_bitCount_0f7a4_28 : decode cJ6_bitCount_0f7a4 28 = .ok (.iadd, 1) := by decide +kernel
theorem dJ6_bitCount_0f7a4_29 : decode cJ6_bitCount_0f7a4 29 = .ok (.ldc_w 267, 3) := by decide +kernel
theorem dJ6_bitCount_0f7a4_32 : decode cJ6_bitCount_0f7a4 32 = .ok (.iand, 1) := by decide +kernel
theorem dJ6_bitCount_0f7a4_33 : decode cJ6_bitCount_0f7a4 33 = .ok (.istore_n 0, 1) := by decide +kernel
theorem dJ6_bitCount_0f7a4_34 : decode cJ6_bitCount_0f7a4 34 = .ok (.iload_n 0, 1) := by decide +kernel
theorem dJ6_bitCount_0f7a4_35 : decode cJ6_bitCount_0f7a4 35 = .ok (.iload_n 0, 1) := by decide +kernel
theorem dJ6_bitCount_0f7a4_36 : decode cJ6_bitCount_0f7a4 36 = .ok (.bipush 8, 2) := by decide +kernel
theorem dJ6_bitCount_0f7a4_38 : decode cJ6_bitCount_0f7a4 38 = .ok (.iushr, 1) := by decide +kernel
theorem dJ6_bitCount_0f7a4_39 : decode cJ6_bitCount_0f7a4 39 = .ok (.iadd, 1) := by decide +kernel
theorem dJ6_bitCount_0f7a4_40 : decode cJ6_bitCount_0f7a4 40 = .ok (.istore_n 0, 1) := by decide +kernel
theorem dJ6_bitCount_0f7a4_41 : decode cJ6_bitCount_0f7a4 41 = .ok (.iload_n 0, 1) := by decide +kernel
theorem dJ6_bitCount_0f7a4_42 : decode cJ6_bitCount_0f7a4 42 = .ok (.iload_n 0, 1) := by decide +kernel
theorem dJ6_bitCount_0f7a4_43 : decode cJ6_bitCount_0f7a4 43 = .ok (.bipush 16, 2) := by decide +kernel
theorem dJ6_bitCount_0f7a4_45 : decode cJ6_bitCount_0f7a4 45 = .ok (.iushr, 1) := by decide +kernel
theorem dJ6_bitCount_0f7a4_46 : decode cJ6_bitCount_0f7a4 46 = .ok (.iadd, 1) := by decide +kernel
theorem dJ6_bitCount_0f7a4_47 : decode cJ6_bitCount_0f7a4 47 = .ok (.istore_n 0, 1) := by decide +kernel
theorem dJ6_bitCount_0f7a4_48 : decode cJ6_bitCount_0f7a4 48 = .ok (.iload_n 0, 1) := by decide +kernel
theorem dJ6_bitCount_0f7a4_49 : decode cJ6_bitCount_0f7a4 49 = .ok (.bipush 63, 2) := by decide +kernel
theorem dJ6_bitCount_0f7a4_51 : decode cJ6_bitCount_0f7a4 51 = .ok (.iand, 1) := by decide +kernel
theorem dJ6_bitCount_0f7a4_52 : decode cJ6_bitCount_0f7a4 52 = .ok (.ireturn, 1) := by decide +kernel
theorem dJ9_floorMod_7cf53_0 : decode cJ9_floorMod_7cf53 0 = .ok (.iload_n 0, 1) := by decide +kernel
theorem dJ9_floorMod_7cf53_1 : decode cJ9_floorMod_7cf53 1 = .ok (.iload_n 1, 1) := by decide +kernel
theorem dJ9_floorMod_7cf53_2 : decode cJ9_floorMod_7cf53 2 = .ok (.irem, 1) := by decide +kernel
theorem dJ9_floorMod_7cf53_3 : decode cJ9_floorMod_7cf53 3 = .ok (.istore_n 2, 1) := by decide +kernel
theorem dJ9_floorMod_7cf53_4 : decode cJ9_floorMod_7cf53 4 = .ok (.iload_n 0, 1) := by decide +kernel
theorem dJ9_floorMod_7cf53_5 : decode cJ9_floorMod_7cf53 5 = .ok (.iload_n 1, 1) := by decide +kernel
theorem dJ9_floorMod_7cf53_6 : decode cJ9_floorMod_7cf53 6 = .ok (.ixor, 1) := by decide +kernel
theorem dJ9_floorMod_7cf53_7 : decode cJ9_floorMod_7cf53 7 = .ok (.ifCond .ge 11, 3) := by decide +kernel
theorem dJ9_floorMod_7cf53_10 : decode cJ9_floorMod_7cf53 10 = .ok (.iload_n 2, 1) := by decide +kernel
theorem dJ9_floorMod_7cf53_11 : decode cJ9_floorMod_7cf53 11 = .ok (.ifCond .eq 7, 3) := by decide +kernel
theorem dJ9_floorMod_7cf53_14 : decode cJ9_floorMod_7cf53 14 = .ok (.iload_n 2, 1) := by decide +kernel
theorem dJ9_floorMod_7cf53_15 : decode cJ9_floorMod_7cf53 15 = .ok (.iload_n 1, 1) := by decide +kernel
theorem dJ9_floorMod_7cf53_16 : decode cJ9_floorMod_7cf53 16 = .ok (.iadd, 1) := by decide +kernel
theorem dJ9_floorMod_7cf53_17 : decode cJ9_floorMod_7cf53 17 = .ok (.ireturn, 1) := by decide +kernel
theorem dJ9_floorMod_7cf53_18 : decode cJ9_floorMod_7cf53 18 = .ok (.iload_n 2, 1) := by decide +kernel
theorem dJ9_floorMod_7cf53_19 : decode cJ9_floorMod_7cf53 19 = .ok (.ireturn, 1) := by decide +kernel
theorem dJ9_max_7cf53_0 : decode cJ9_max_7cf53 0 = .ok (.iload_n 0, 1) := by decide +kernel
theorem dJ9_max_7cf53_1 : decode cJ9_max_7cf53 1 = .ok (.iload_n 1, 1) := by decide +kernel
theorem dJ9_max_7cf53_2 : decode cJ9_max_7cf53 2 = .ok (.if_icmp .lt 7, 3) := by decide +kernel
theorem dJ9_max_7cf53_5 : decode cJ9_max_7cf53 5 = .ok (.iload_n 0, 1) := by decide +kernel
theorem dJ9_max_7cf53_6 : decode cJ9_max_7cf53 6 = .ok (.goto 4, 3) := by decide +kernel
theorem dJ9_max_7cf53_9 : decode cJ9_max_7cf53 9 = .ok (.iload_n 1, 1) := by decide +kernel
theorem dJ9_max_7cf53_10 : decode cJ9_max_7cf53 10 = .ok (.ireturn, 1) := by decide +kernel
theorem dJ9_min_7cf53_0 : decode cJ9_min_7cf53 0 = .ok (.iload_n 0, 1) := by decide +kernel
theorem dJ9_min_7cf53_1 : decode cJ9_min_7cf53 1 = .ok (.iload_n 1, 1) := by decide +kernel
theorem dJ9_min_7cf53_2 : decode cJ9_min_7cf53 2 = .ok (.if_icmp .gt 7, 3) := by decide +kernel
theorem dJ9_min_7cf53_5 : decode cJ9_min_7cf53 5 = .ok (.iload_n 0, 1) := by decide +kernel
theorem dJ9_min_7cf53_6 : decode cJ9_min_7cf53 6 = .ok (.goto 4, 3) := by decide +kernel
theorem dJ9_min_7cf53_9 : decode cJ9_min_7cf53 9 = .ok (.iload_n 1, 1) := by decide +kernel
theorem dJ9_min_7cf53_10 : decode cJ9_min_7cf53 10 = .ok (.ireturn, 1) := by decide +kernel
theorem dJ9_min_f86c9_0 : decode cJ9_min_f86c9 0 = .ok (.lload_n 0, 1) := by decide +kernel
theorem dJ9_min_f86c9_1 : decode cJ9_min_f86c9 1 = .ok (.lload_n 2, 1) := by decide +kernel
theorem dJ9_min_f86c9_2 : decode cJ9_min_f86c9 2 = .ok (.lcmp, 1) := by decide +kernel
theorem dJ9_min_f86c9_3 : decode cJ9_min_f86c9 3 = .ok (.ifCond .gt 7, 3) := by decide +kernel
theorem dJ9_min_f86c9_6 : decode cJ9_min_f86c9 6 = .ok (.lload_n 0, 1) := by decide +kernel
theorem dJ9_min_f86c9_7 : decode cJ9_min_f86c9 7 = .ok (.goto 4, 3) := by decide +kernel
theorem dJ9_min_f86c9_10 : decode cJ9_min_f86c9 10 = .ok (.lload_n 2, 1) := by decide +kernel
theorem dJ9_min_f86c9_11 : decode cJ9_min_f86c9 11 = .ok (.lreturn, 1) := by decide +kernel
theorem dJ7_fill_53178_0 : decode cJ7_fill_53178 0 = .ok (.iconst 0, 1) := by decide +kernel
theorem dJ7_fill_53178_1 : decode cJ7_fill_53178 1 = .ok (.istore_n 2, 1) := by decide +kernel
theorem dJ7_fill_53178_2 : decode cJ7_fill_53178 2 = .ok (.aload_n 0, 1) := by decide +kernel
theorem dJ7_fill_53178_3 : decode cJ7_fill_53178 3 = .ok (.arraylength, 1) := by decide +kernel
theorem dJ7_fill_53178_4 : decode cJ7_fill_53178 4 = .ok (.istore_n 3, 1) := by decide +kernel
theorem dJ7_fill_53178_5 : decode cJ7_fill_53178 5 = .ok (.iload_n 2, 1) := by decide +kernel
theorem dJ7_fill_53178_6 : decode cJ7_fill_53178 6 = .ok (.iload_n 3, 1) := by decide +kernel
theorem dJ7_fill_53178_7 : decode cJ7_fill_53178 7 = .ok (.if_icmp .ge 13, 3) := by decide +kernel
theorem dJ7_fill_53178_10 : decode cJ7_fill_53178 10 = .ok (.aload_n 0, 1) := by decide +kernel
theorem dJ7_fill_53178_11 : decode cJ7_fill_53178 11 = .ok (.iload_n 2, 1) := by decide +kernel
theorem dJ7_fill_53178_12 : decode cJ7_fill_53178 12 = .ok (.iload_n 1, 1) := by decide +kernel
theorem dJ7_fill_53178_13 : decode cJ7_fill_53178 13 = .ok (.iastore, 1) := by decide +kernel
theorem dJ7_fill_53178_14 : decode cJ7_fill_53178 14 = .ok (.iinc 2 1, 3) := by decide +kernel
theorem dJ7_fill_53178_17 : decode cJ7_fill_53178 17 = .ok (.goto (-12), 3) := by decide +kernel
theorem dJ7_fill_53178_20 : decode cJ7_fill_53178 20 = .ok (.return_, 1) := by decide +kernel
theorem dL_law_0 : decode cL_law 0 = .ok (.new 7, 3) := by decide +kernel
theorem dL_law_3 : decode cL_law 3 = .ok (.dup, 1) := by decide +kernel
theorem dL_law_4 : decode cL_law 4 = .ok (.invokespecial 9, 3) := by decide +kernel
theorem dL_law_7 : decode cL_law 7 = .ok (.astore_n 1, 1) := by decide +kernel
theorem dL_law_8 : decode cL_law 8 = .ok (.new 10, 3) := by decide +kernel
theorem dL_law_11 : decode cL_law 11 = .ok (.dup, 1) := by decide +kernel
theorem dL_law_12 : decode cL_law 12 = .ok (.invokespecial 12, 3) := by decide +kernel
theorem dL_law_15 : decode cL_law 15 = .ok (.astore_n 2, 1) := by decide +kernel
theorem dL_law_16 : decode cL_law 16 = .ok (.iconst 0, 1) := by decide +kernel
theorem dL_law_17 : decode cL_law 17 = .ok (.istore_n 3, 1) := by decide +kernel
theorem dL_law_18 : decode cL_law 18 = .ok (.iload_n 3, 1) := by decide +kernel
theorem dL_law_19 : decode cL_law 19 = .ok (.aload_n 0, 1) := by decide +kernel
theorem dL_law_20 : decode cL_law 20 = .ok (.arraylength, 1) := by decide +kernel
theorem dL_law_21 : decode cL_law 21 = .ok (.bipush 6, 2) := by decide +kernel
theorem dL_law_23 : decode cL_law 23 = .ok (.isub, 1) := by decide +kernel
theorem dL_law_24 : decode cL_law 24 = .ok (.if_icmp .gt 995, 3) := by decide +kernel
theorem dL_law_27 : decode cL_law 27 = .ok (.aload_n 0, 1) := by decide +kernel
theorem dL_law_28 : decode cL_law 28 = .ok (.iload_n 3, 1) := by decide +kernel
theorem dL_law_29 : decode cL_law 29 = .ok (.iaload, 1) := by decide +kernel
theorem dL_law_30 : decode cL_law 30 = .ok (.bipush 31, 2) := by decide +kernel
theorem dL_law_32 : decode cL_law 32 = .ok (.iand, 1) := by decide +kernel
theorem dL_law_33 : decode cL_law 33 = .ok (.tableswitch 980 0 22 #[107, 150, 193, 226, 279, 342, 375, 424, 473, 506, 539, 562, 595, 608, 651, 674, 708, 752, 775, 818, 861, 914, 957], 107) := by decide +kernel
theorem dL_law_140 : decode cL_law 140 = .ok (.aload_n 1, 1) := by decide +kernel
theorem dL_law_141 : decode cL_law 141 = .ok (.aload_n 0, 1) := by decide +kernel
theorem dL_law_142 : decode cL_law 142 = .ok (.iload_n 3, 1) := by decide +kernel
theorem dL_law_143 : decode cL_law 143 = .ok (.iconst 1, 1) := by decide +kernel
theorem dL_law_144 : decode cL_law 144 = .ok (.iadd, 1) := by decide +kernel
theorem dL_law_145 : decode cL_law 145 = .ok (.iaload, 1) := by decide +kernel
theorem dL_law_146 : decode cL_law 146 = .ok (.aload_n 0, 1) := by decide +kernel
theorem dL_law_147 : decode cL_law 147 = .ok (.iload_n 3, 1) := by decide +kernel
theorem dL_law_148 : decode cL_law 148 = .ok (.iconst 2, 1) := by decide +kernel
theorem dL_law_149 : decode cL_law 149 = .ok (.iadd, 1) := by decide +kernel
theorem dL_law_150 : decode cL_law 150 = .ok (.iaload, 1) := by decide +kernel
theorem dL_law_151 : decode cL_law 151 = .ok (.aload_n 0, 1) := by decide +kernel
theorem dL_law_152 : decode cL_law 152 = .ok (.iload_n 3, 1) := by decide +kernel
theorem dL_law_153 : decode cL_law 153 = .ok (.iconst 3, 1) := by decide +kernel
theorem dL_law_154 : decode cL_law 154 = .ok (.iadd, 1) := by decide +kernel
theorem dL_law_155 : decode cL_law 155 = .ok (.iaload, 1) := by decide +kernel
theorem dL_law_156 : decode cL_law 156 = .ok (.invokevirtual 13, 3) := by decide +kernel
theorem dL_law_159 : decode cL_law 159 = .ok (.aload_n 2, 1) := by decide +kernel
theorem dL_law_160 : decode cL_law 160 = .ok (.aload_n 0, 1) := by decide +kernel
theorem dL_law_161 : decode cL_law 161 = .ok (.iload_n 3, 1) := by decide +kernel
theorem dL_law_162 : decode cL_law 162 = .ok (.iconst 1, 1) := by decide +kernel
theorem dL_law_163 : decode cL_law 163 = .ok (.iadd, 1) := by decide +kernel
theorem dL_law_164 : decode cL_law 164 = .ok (.iaload, 1) := by decide +kernel
theorem dL_law_165 : decode cL_law 165 = .ok (.aload_n 0, 1) := by decide +kernel
theorem dL_law_166 : decode cL_law 166 = .ok (.iload_n 3, 1) := by decide +kernel
theorem dL_law_167 : decode cL_law 167 = .ok (.iconst 2, 1) := by decide +kernel
theorem dL_law_168 : decode cL_law 168 = .ok (.iadd, 1) := by decide +kernel
theorem dL_law_169 : decode cL_law 169 = .ok (.iaload, 1) := by decide +kernel
theorem dL_law_170 : decode cL_law 170 = .ok (.aload_n 0, 1) := by decide +kernel
theorem dL_law_171 : decode cL_law 171 = .ok (.iload_n 3, 1) := by decide +kernel
theorem dL_law_172 : decode cL_law 172 = .ok (.iconst 3, 1) := by decide +kernel
theorem dL_law_173 : decode cL_law 173 = .ok (.iadd, 1) := by decide +kernel
theorem dL_law_174 : decode cL_law 174 = .ok (.iaload, 1) := by decide +kernel
theorem dL_law_175 : decode cL_law 175 = .ok (.invokevirtual 17, 3) := by decide +kernel
theorem dL_law_178 : decode cL_law 178 = .ok (.if_icmp .eq 835, 3) := by decide +kernel
theorem dL_law_181 : decode cL_law 181 = .ok (.iconst 0, 1) := by decide +kernel
theorem dL_law_182 : decode cL_law 182 = .ok (.ireturn, 1) := by decide +kernel
theorem dL_law_183 : decode cL_law 183 = .ok (.aload_n 1, 1) := by decide +kernel
theorem dL_law_184 : decode cL_law 184 = .ok (.aload_n 0, 1) := by decide +kernel
theorem dL_law_185 : decode cL_law 185 = .ok (.iload_n 3, 1) := by decide +kernel
theorem dL_law_186 : decode cL_law 186 = .ok (.iconst 1, 1) := by decide +kernel
theorem dL_law_187 : decode cL_law 187 = .ok (.iadd, 1) := by decide +kernel
theorem dL_law_188 : decode cL_law 188 = .ok (.iaload, 1) := by decide +kernel
theorem dL_law_189 : decode cL_law 189 = .ok (.aload_n 0, 1) := by decide +kernel
theorem dL_law_190 : decode cL_law 190 = .ok (.iload_n 3, 1) := by decide +kernel
theorem dL_law_191 : decode cL_law 191 = .ok (.iconst 2, 1) := by decide +kernel
theorem dL_law_192 : decode cL_law 192 = .ok (.iadd, 1) := by decide +kernel
theorem dL_law_193 : decode cL_law 193 = .ok (.iaload, 1) := by decide +kernel
theorem dL_law_194 : decode cL_law 194 = .ok (.aload_n 0, 1) := by decide +kernel
theorem dL_law_195 : decode cL_law 195 = .ok (.iload_n 3, 1) := by decide +kernel
theorem dL_law_196 : decode cL_law 196 = .ok (.iconst 3, 1) := by decide +kernel
theorem dL_law_197 : decode cL_law 197 = .ok (.iadd, 1) := by decide +kernel
theorem dL_law_198 : decode cL_law 198 = .ok (.iaload, 1) := by decide +kernel
theorem dL_law_199 : decode cL_law 199 = .ok (.invokevirtual 18, 3) := by decide +kernel
theorem dL_law_202 : decode cL_law 202 = .ok (.aload_n 2, 1) := by decide +kernel
theorem dL_law_203 : decode cL_law 203 = .ok (.aload_n 0, 1) := by decide +kernel
theorem dL_law_204 : decode cL_law 204 = .ok (.iload_n 3, 1) := by decide +kernel
theorem dL_law_205 : decode cL_law 205 = .ok (.iconst 1, 1) := by decide +kernel
theorem dL_law_206 : decode cL_law 206 = .ok (.iadd, 1) := by decide +kernel
theorem dL_law_207 : decode cL_law 207 = .ok (.iaload, 1) := by decide +kernel
theorem dL_law_208 : decode cL_law 208 = .ok (.aload_n 0, 1) := by decide +kernel
theorem dL_law_209 : decode cL_law 209 = .ok (.iload_n 3, 1) := by decide +kernel
theorem dL_law_210 : decode cL_law 210 = .ok (.iconst 2, 1) := by decide +kernel
theorem dL_law_211 : decode cL_law 211 = .ok (.iadd, 1) := by decide +kernel
theorem dL_law_212 : decode cL_law 212 = .ok (.iaload, 1) := by decide +kernel
theorem dL_law_213 : decode cL_law 213 = .ok (.aload_n 0, 1) := by decide +kernel
theorem dL_law_214 : decode cL_law 214 = .ok (.iload_n 3, 1) := by decide +kernel
theorem dL_law_215 : decode cL_law 215 = .ok (.iconst 3, 1) := by decide +kernel
theorem dL_law_216 : decode cL_law 216 = .ok (.iadd, 1) := by decide +kernel
theorem dL_law_217 : decode cL_law 217 = .ok (.iaload, 1) := by decide +kernel
theorem dL_law_218 : decode cL_law 218 = .ok (.invokevirtual 21, 3) := by decide +kernel
theorem dL_law_221 : decode cL_law 221 = .ok (.if_icmp .eq 792, 3) := by decide +kernel
theorem dL_law_224 : decode cL_law 224 = .ok (.iconst 0, 1) := by decide +kernel
theorem dL_law_225 : decode cL_law 225 = .ok (.ireturn, 1) := by decide +kernel
theorem dL_law_226 : decode cL_law 226 = .ok (.aload_n 1, 1) := by decide +kernel
theorem dL_law_227 : decode cL_law 227 = .ok (.aload_n 0, 1) := by decide +kernel
theorem dL_law_228 : decode cL_law 228 = .ok (.iload_n 3, 1) := by decide +kernel
theorem dL_law_229 : decode cL_law 229 = .ok (.iconst 1, 1) := by decide +kernel
theorem dL_law_230 : decode cL_law 230 = .ok (.iadd, 1) := by decide +kernel
theorem dL_law_231 : decode cL_law 231 = .ok (.iaload, 1) := by decide +kernel
theorem dL_law_232 : decode cL_law 232 = .ok (.aload_n 0, 1) := by decide +kernel
theorem dL_law_233 : decode cL_law 233 = .ok (.iload_n 3, 1) := by decide +kernel
theorem dL_law_234 : decode cL_law 234 = .ok (.iconst 2, 1) := by decide +kernel
theorem dL_law_235 : decode cL_law 235 = .ok (.iadd, 1) := by decide +kernel
theorem dL_law_236 : decode cL_law 236 = .ok (.iaload, 1) := by decide +kernel
theorem dL_law_237 : decode cL_law 237 = .ok (.invokevirtual 22, 3) := by decide +kernel
theorem dL_law_240 : decode cL_law 240 = .ok (.aload_n 2, 1) := by decide +kernel
theorem dL_law_241 : decode cL_law 241 = .ok (.aload_n 0, 1) := by decide +kernel
theorem dL_law_242 : decode cL_law 242 = .ok (.iload_n 3, 1) := by decide +kernel
theorem dL_law_243 : decode cL_law 243 = .ok (.iconst 1, 1) := by decide +kernel
theorem dL_law_244 : decode cL_law 244 = .ok (.iadd, 1) := by decide +kernel
theorem dL_law_245 : decode cL_law 245 = .ok (.iaload, 1) := by decide +kernel
theorem dL_law_246 : decode cL_law 246 = .ok (.aload_n 0, 1) := by decide +kernel
theorem dL_law_247 : decode cL_law 247 = .ok (.iload_n 3, 1) := by decide +kernel
theorem dL_law_248 : decode cL_law 248 = .ok (.iconst 2, 1) := by decide +kernel
theorem dL_law_249 : decode cL_law 249 = .ok (.iadd, 1) := by decide +kernel
theorem dL_law_250 : decode cL_law 250 = .ok (.iaload, 1) := by decide +kernel
theorem dL_law_251 : decode cL_law 251 = .ok (.invokevirtual 26, 3) := by decide +kernel
theorem dL_law_254 : decode cL_law 254 = .ok (.if_icmp .eq 759, 3) := by decide +kernel
theorem dL_law_257 : decode cL_law 257 = .ok (.iconst 0, 1) := by decide +kernel
theorem dL_law_258 : decode cL_law 258 = .ok (.ireturn, 1) := by decide +kernel
theorem dL_law_259 : decode cL_law 259 = .ok (.aload_n 1, 1) := by decide +kernel
theorem dL_law_260 : decode cL_law 260 = .ok (.aload_n 0, 1) := by decide +kernel
theorem dL_law_261 : decode cL_law 261 = .ok (.iload_n 3, 1) := by decide +kernel
theorem dL_law_262 : decode cL_law 262 = .ok (.iconst 1, 1) := by decide +kernel
theorem dL_law_263 : decode cL_law 263 = .ok (.iadd, 1) := by decide +kernel
theorem dL_law_264 : decode cL_law 264 = .ok (.iaload, 1) := by decide +kernel
theorem dL_law_265 : decode cL_law 265 = .ok (.aload_n 0, 1) := by decide +kernel
theorem dL_law_266 : decode cL_law 266 = .ok (.iload_n 3, 1) := by decide +kernel
theorem dL_law_267 : decode cL_law 267 = .ok (.iconst 2, 1) := by decide +kernel
theorem dL_law_268 : decode cL_law 268 = .ok (.iadd, 1) := by decide +kernel
theorem dL_law_269 : decode cL_law 269 = .ok (.iaload, 1) := by decide +kernel
theorem dL_law_270 : decode cL_law 270 = .ok (.aload_n 0, 1) := by decide +kernel
theorem dL_law_271 : decode cL_law 271 = .ok (.iload_n 3, 1) := by decide +kernel
theorem dL_law_272 : decode cL_law 272 = .ok (.iconst 3, 1) := by decide +kernel
theorem dL_law_273 : decode cL_law 273 = .ok (.iadd, 1) := by decide +kernel
theorem dL_law_274 : decode cL_law 274 = .ok (.iaload, 1) := by decide +kernel
theorem dL_law_275 : decode cL_law 275 = .ok (.aload_n 0, 1) := by decide +kernel
theorem dL_law_276 : decode cL_law 276 = .ok (.iload_n 3, 1) := by decide +kernel
theorem dL_law_277 : decode cL_law 277 = .ok (.iconst 4, 1) := by decide +kernel
theorem dL_law_278 : decode cL_law 278 = .ok (.iadd, 1) := by decide +kernel
theorem dL_law_279 : decode cL_law 279 = .ok (.iaload, 1) := by decide +kernel
theorem dL_law_280 : decode cL_law 280 = .ok (.invokevirtual 27, 3) := by decide +kernel
theorem dL_law_283 : decode cL_law 283 = .ok (.aload_n 2, 1) := by decide +kernel
theorem dL_law_284 : decode cL_law 284 = .ok (.aload_n 0, 1) := by decide +kernel
theorem dL_law_285 : decode cL_law 285 = .ok (.iload_n 3, 1) := by decide +kernel
theorem dL_law_286 : decode cL_law 286 = .ok (.iconst 1, 1) := by decide +kernel
theorem dL_law_287 : decode cL_law 287 = .ok (.iadd, 1) := by decide +kernel
theorem dL_law_288 : decode cL_law 288 = .ok (.iaload, 1) := by decide +kernel
theorem dL_law_289 : decode cL_law 289 = .ok (.aload_n 0, 1) := by decide +kernel
theorem dL_law_290 : decode cL_law 290 = .ok (.iload_n 3, 1) := by decide +kernel
theorem dL_law_291 : decode cL_law 291 = .ok (.iconst 2, 1) := by decide +kernel
theorem dL_law_292 : decode cL_law 292 = .ok (.iadd, 1) := by decide +kernel
theorem dL_law_293 : decode cL_law 293 = .ok (.iaload, 1) := by decide +kernel
theorem dL_law_294 : decode cL_law 294 = .ok (.aload_n 0, 1) := by decide +kernel
theorem dL_law_295 : decode cL_law 295 = .ok (.iload_n 3, 1) := by decide +kernel
theorem dL_law_296 : decode cL_law 296 = .ok (.iconst 3, 1) := by decide +kernel
theorem dL_law_297 : decode cL_law 297 = .ok (.iadd, 1) := by decide +kernel
theorem dL_law_298 : decode cL_law 298 = .ok (.iaload, 1) := by decide +kernel
theorem dL_law_299 : decode cL_law 299 = .ok (.aload_n 0, 1) := by decide +kernel
theorem dL_law_300 : decode cL_law 300 = .ok (.iload_n 3, 1) := by decide +kernel
theorem dL_law_301 : decode cL_law 301 = .ok (.iconst 4, 1) := by decide +kernel
theorem dL_law_302 : decode cL_law 302 = .ok (.iadd, 1) := by decide +kernel
theorem dL_law_303 : decode cL_law 303 = .ok (.iaload, 1) := by decide +kernel
theorem dL_law_304 : decode cL_law 304 = .ok (.invokevirtual 31, 3) := by decide +kernel
theorem dL_law_307 : decode cL_law 307 = .ok (.if_icmp .eq 706, 3) := by decide +kernel
theorem dL_law_310 : decode cL_law 310 = .ok (.iconst 0, 1) := by decide +kernel
theorem dL_law_311 : decode cL_law 311 = .ok (.ireturn, 1) := by decide +kernel
theorem dL_law_312 : decode cL_law 312 = .ok (.aload_n 1, 1) := by decide +kernel
theorem dL_law_313 : decode cL_law 313 = .ok (.aload_n 0, 1) := by decide +kernel
theorem dL_law_314 : decode cL_law 314 = .ok (.iload_n 3, 1) := by decide +kernel
theorem dL_law_315 : decode cL_law 315 = .ok (.iconst 1, 1) := by decide +kernel
theorem dL_law_316 : decode cL_law 316 = .ok (.iadd, 1) := by decide +kernel
theorem dL_law_317 : decode cL_law 317 = .ok (.iaload, 1) := by decide +kernel
theorem dL_law_318 : decode cL_law 318 = .ok (.aload_n 0, 1) := by decide +kernel
theorem dL_law_319 : decode cL_law 319 = .ok (.iload_n 3, 1) := by decide +kernel
theorem dL_law_320 : decode cL_law 320 = .ok (.iconst 2, 1) := by decide +kernel
theorem dL_law_321 : decode cL_law 321 = .ok (.iadd, 1) := by decide +kernel
theorem dL_law_322 : decode cL_law 322 = .ok (.iaload, 1) := by decide +kernel
theorem dL_law_323 : decode cL_law 323 = .ok (.aload_n 0, 1) := by decide +kernel
theorem dL_law_324 : decode cL_law 324 = .ok (.iload_n 3, 1) := by decide +kernel
theorem dL_law_325 : decode cL_law 325 = .ok (.iconst 3, 1) := by decide +kernel
theorem dL_law_326 : decode cL_law 326 = .ok (.iadd, 1) := by decide +kernel
theorem dL_law_327 : decode cL_law 327 = .ok (.iaload, 1) := by decide +kernel
theorem dL_law_328 : decode cL_law 328 = .ok (.aload_n 0, 1) := by decide +kernel
theorem dL_law_329 : decode cL_law 329 = .ok (.iload_n 3, 1) := by decide +kernel
theorem dL_law_330 : decode cL_law 330 = .ok (.iconst 4, 1) := by decide +kernel
theorem dL_law_331 : decode cL_law 331 = .ok (.iadd, 1) := by decide +kernel
theorem dL_law_332 : decode cL_law 332 = .ok (.iaload, 1) := by decide +kernel
theorem dL_law_333 : decode cL_law 333 = .ok (.aload_n 0, 1) := by decide +kernel
theorem dL_law_334 : decode cL_law 334 = .ok (.iload_n 3, 1) := by decide +kernel
theorem dL_law_335 : decode cL_law 335 = .ok (.iconst 5, 1) := by decide +kernel
theorem dL_law_336 : decode cL_law 336 = .ok (.iadd, 1) := by decide +kernel
theorem dL_law_337 : decode cL_law 337 = .ok (.iaload, 1) := by decide +kernel
theorem dL_law_338 : decode cL_law 338 = .ok (.invokevirtual 32, 3) := by decide +kernel
theorem dL_law_341 : decode cL_law 341 = .ok (.aload_n 2, 1) := by decide +kernel
theorem dL_law_342 : decode cL_law 342 = .ok (.aload_n 0, 1) := by decide +kernel
theorem dL_law_343 : decode cL_law 343 = .ok (.iload_n 3, 1) := by decide +kernel
theorem dL_law_344 : decode cL_law 344 = .ok (.iconst 1, 1) := by decide +kernel
theorem dL_law_345 : decode cL_law 345 = .ok (.iadd, 1) := by decide +kernel
theorem dL_law_346 : decode cL_law 346 = .ok (.iaload, 1) := by decide +kernel
theorem dL_law_347 : decode cL_law 347 = .ok (.aload_n 0, 1) := by decide +kernel
theorem dL_law_348 : decode cL_law 348 = .ok (.iload_n 3, 1) := by decide +kernel
theorem dL_law_349 : decode cL_law 349 = .ok (.iconst 2, 1) := by decide +kernel
theorem dL_law_350 : decode cL_law 350 = .ok (.iadd, 1) := by decide +kernel
theorem dL_law_351 : decode cL_law 351 = .ok (.iaload, 1) := by decide +kernel
theorem dL_law_352 : decode cL_law 352 = .ok (.aload_n 0, 1) := by decide +kernel
theorem dL_law_353 : decode cL_law 353 = .ok (.iload_n 3, 1) := by decide +kernel
theorem dL_law_354 : decode cL_law 354 = .ok (.iconst 3, 1) := by decide +kernel
theorem dL_law_355 : decode cL_law 355 = .ok (.iadd, 1) := by decide +kernel
theorem dL_law_356 : decode cL_law 356 = .ok (.iaload, 1) := by decide +kernel
theorem dL_law_357 : decode cL_law 357 = .ok (.aload_n 0, 1) := by decide +kernel
theorem dL_law_358 : decode cL_law 358 = .ok (.iload_n 3, 1) := by decide +kernel
theorem dL_law_359 : decode cL_law 359 = .ok (.iconst 4, 1) := by decide +kernel
theorem dL_law_360 : decode cL_law 360 = .ok (.iadd, 1) := by decide +kernel
theorem dL_law_361 : decode cL_law 361 = .ok (.iaload, 1) := by decide +kernel
theorem dL_law_362 : decode cL_law 362 = .ok (.aload_n 0, 1) := by decide +kernel
theorem dL_law_363 : decode cL_law 363 = .ok (.iload_n 3, 1) := by decide +kernel
theorem dL_law_364 : decode cL_law 364 = .ok (.iconst 5, 1) := by decide +kernel
theorem dL_law_365 : decode cL_law 365 = .ok (.iadd, 1) := by decide +kernel
theorem dL_law_366 : decode cL_law 366 = .ok (.iaload, 1) := by decide +kernel
theorem dL_law_367 : decode cL_law 367 = .ok (.invokevirtual 36, 3) := by decide +kernel
theorem dL_law_370 : decode cL_law 370 = .ok (.if_icmp .eq 643, 3) := by decide +kernel
theorem dL_law_373 : decode cL_law 373 = .ok (.iconst 0, 1) := by decide +kernel
theorem dL_law_374 : decode cL_law 374 = .ok (.ireturn, 1) := by decide +kernel
theorem dL_law_375 : decode cL_law 375 = .ok (.aload_n 1, 1) := by decide +kernel
theorem dL_law_376 : decode cL_law 376 = .ok (.aload_n 0, 1) := by decide +kernel
theorem dL_law_377 : decode cL_law 377 = .ok (.iload_n 3, 1) := by decide +kernel
theorem dL_law_378 : decode cL_law 378 = .ok (.iconst 1, 1) := by decide +kernel
theorem dL_law_379 : decode cL_law 379 = .ok (.iadd, 1) := by decide +kernel
theorem dL_law_380 : decode cL_law 380 = .ok (.iaload, 1) := by decide +kernel
theorem dL_law_381 : decode cL_law 381 = .ok (.aload_n 0, 1) := by decide +kernel
theorem dL_law_382 : decode cL_law 382 = .ok (.iload_n 3, 1) := by decide +kernel
theorem dL_law_383 : decode cL_law 383 = .ok (.iconst 2, 1) := by decide +kernel
theorem dL_law_384 : decode cL_law 384 = .ok (.iadd, 1) := by decide +kernel
theorem dL_law_385 : decode cL_law 385 = .ok (.iaload, 1) := by decide +kernel
theorem dL_law_386 : decode cL_law 386 = .ok (.invokevirtual 37, 3) := by decide +kernel
theorem dL_law_389 : decode cL_law 389 = .ok (.aload_n 2, 1) := by decide +kernel
theorem dL_law_390 : decode cL_law 390 = .ok (.aload_n 0, 1) := by decide +kernel
theorem dL_law_391 : decode cL_law 391 = .ok (.iload_n 3, 1) := by decide +kernel
theorem dL_law_392 : decode cL_law 392 = .ok (.iconst 1, 1) := by decide +kernel
theorem dL_law_393 : decode cL_law 393 = .ok (.iadd, 1) := by decide +kernel
theorem dL_law_394 : decode cL_law 394 = .ok (.iaload, 1) := by decide +kernel
theorem dL_law_395 : decode cL_law 395 = .ok (.aload_n 0, 1) := by decide +kernel
theorem dL_law_396 : decode cL_law 396 = .ok (.iload_n 3, 1) := by decide +kernel
theorem dL_law_397 : decode cL_law 397 = .ok (.iconst 2, 1) := by decide +kernel
theorem dL_law_398 : decode cL_law 398 = .ok (.iadd, 1) := by decide +kernel
theorem dL_law_399 : decode cL_law 399 = .ok (.iaload, 1) := by decide +kernel
theorem dL_law_400 : decode cL_law 400 = .ok (.invokevirtual 40, 3) := by decide +kernel
theorem dL_law_403 : decode cL_law 403 = .ok (.if_icmp .eq 610, 3) := by decide +kernel
theorem dL_law_406 : decode cL_law 406 = .ok (.iconst 0, 1) := by decide +kernel
theorem dL_law_407 : decode cL_law 407 = .ok (.ireturn, 1) := by decide +kernel
theorem dL_law_408 : decode cL_law 408 = .ok (.aload_n 1, 1) := by decide +kernel
theorem dL_law_409 : decode cL_law 409 = .ok (.aload_n 0, 1) := by decide +kernel
theorem dL_law_410 : decode cL_law 410 = .ok (.iload_n 3, 1) := by decide +kernel
theorem dL_law_411 : decode cL_law 411 = .ok (.iconst 1, 1) := by decide +kernel
theorem dL_law_412 : decode cL_law 412 = .ok (.iadd, 1) := by decide +kernel
theorem dL_law_413 : decode cL_law 413 = .ok (.iaload, 1) := by decide +kernel
theorem dL_law_414 : decode cL_law 414 = .ok (.aload_n 0, 1) := by decide +kernel
theorem dL_law_415 : decode cL_law 415 = .ok (.iload_n 3, 1) := by decide +kernel
theorem dL_law_416 : decode cL_law 416 = .ok (.iconst 2, 1) := by decide +kernel
theorem dL_law_417 : decode cL_law 417 = .ok (.iadd, 1) := by decide +kernel
theorem dL_law_418 : decode cL_law 418 = .ok (.iaload, 1) := by decide +kernel
theorem dL_law_419 : decode cL_law 419 = .ok (.ifCond .eq 7, 3) := by decide +kernel
theorem dL_law_422 : decode cL_law 422 = .ok (.iconst 1, 1) := by decide +kernel
theorem dL_law_423 : decode cL_law 423 = .ok (.goto 4, 3) := by decide +kernel
theorem dL_law_426 : decode cL_law 426 = .ok (.iconst 0, 1) := by decide +kernel
theorem dL_law_427 : decode cL_law 427 = .ok (.invokevirtual 41, 3) := by decide +kernel
theorem dL_law_430 : decode cL_law 430 = .ok (.aload_n 2, 1) := by decide +kernel
theorem dL_law_431 : decode cL_law 431 = .ok (.aload_n 0, 1) := by decide +kernel
theorem dL_law_432 : decode cL_law 432 = .ok (.iload_n 3, 1) := by decide +kernel
theorem dL_law_433 : decode cL_law 433 = .ok (.iconst 1, 1) := by decide +kernel
theorem dL_law_434 : decode cL_law 434 = .ok (.iadd, 1) := by decide +kernel
theorem dL_law_435 : decode cL_law 435 = .ok (.iaload, 1) := by decide +kernel
theorem dL_law_436 : decode cL_law 436 = .ok (.aload_n 0, 1) := by decide +kernel
theorem dL_law_437 : decode cL_law 437 = .ok (.iload_n 3, 1) := by decide +kernel
theorem dL_law_438 : decode cL_law 438 = .ok (.iconst 2, 1) := by decide +kernel
theorem dL_law_439 : decode cL_law 439 = .ok (.iadd, 1) := by decide +kernel
theorem dL_law_440 : decode cL_law 440 = .ok (.iaload, 1) := by decide +kernel
theorem dL_law_441 : decode cL_law 441 = .ok (.ifCond .eq 7, 3) := by decide +kernel
theorem dL_law_444 : decode cL_law 444 = .ok (.iconst 1, 1) := by decide +kernel
theorem dL_law_445 : decode cL_law 445 = .ok (.goto 4, 3) := by decide +kernel
theorem dL_law_448 : decode cL_law 448 = .ok (.iconst 0, 1) := by decide +kernel
theorem dL_law_449 : decode cL_law 449 = .ok (.invokevirtual 45, 3) := by decide +kernel
theorem dL_law_452 : decode cL_law 452 = .ok (.if_icmp .eq 561, 3) := by decide +kernel
theorem dL_law_455 : decode cL_law 455 = .ok (.iconst 0, 1) := by decide +kernel
theorem dL_law_456 : decode cL_law 456 = .ok (.ireturn, 1) := by decide +kernel
theorem dL_law_457 : decode cL_law 457 = .ok (.aload_n 1, 1) := by decide +kernel
theorem dL_law_458 : decode cL_law 458 = .ok (.aload_n 0, 1) := by decide +kernel
theorem dL_law_459 : decode cL_law 459 = .ok (.iload_n 3, 1) := by decide +kernel
theorem dL_law_460 : decode cL_law 460 = .ok (.iconst 1, 1) := by decide +kernel
theorem dL_law_461 : decode cL_law 461 = .ok (.iadd, 1) := by decide +kernel
theorem dL_law_462 : decode cL_law 462 = .ok (.iaload, 1) := by decide +kernel
theorem dL_law_463 : decode cL_law 463 = .ok (.aload_n 0, 1) := by decide +kernel
theorem dL_law_464 : decode cL_law 464 = .ok (.iload_n 3, 1) := by decide +kernel
theorem dL_law_465 : decode cL_law 465 = .ok (.iconst 2, 1) := by decide +kernel
theorem dL_law_466 : decode cL_law 466 = .ok (.iadd, 1) := by decide +kernel
theorem dL_law_467 : decode cL_law 467 = .ok (.iaload, 1) := by decide +kernel
theorem dL_law_468 : decode cL_law 468 = .ok (.ifCond .eq 7, 3) := by decide +kernel
theorem dL_law_471 : decode cL_law 471 = .ok (.iconst 1, 1) := by decide +kernel
theorem dL_law_472 : decode cL_law 472 = .ok (.goto 4, 3) := by decide +kernel
theorem dL_law_475 : decode cL_law 475 = .ok (.iconst 0, 1) := by decide +kernel
theorem dL_law_476 : decode cL_law 476 = .ok (.invokevirtual 46, 3) := by decide +kernel
theorem dL_law_479 : decode cL_law 479 = .ok (.aload_n 2, 1) := by decide +kernel
theorem dL_law_480 : decode cL_law 480 = .ok (.aload_n 0, 1) := by decide +kernel
theorem dL_law_481 : decode cL_law 481 = .ok (.iload_n 3, 1) := by decide +kernel
theorem dL_law_482 : decode cL_law 482 = .ok (.iconst 1, 1) := by decide +kernel
theorem dL_law_483 : decode cL_law 483 = .ok (.iadd, 1) := by decide +kernel
theorem dL_law_484 : decode cL_law 484 = .ok (.iaload, 1) := by decide +kernel
theorem dL_law_485 : decode cL_law 485 = .ok (.aload_n 0, 1) := by decide +kernel
theorem dL_law_486 : decode cL_law 486 = .ok (.iload_n 3, 1) := by decide +kernel
theorem dL_law_487 : decode cL_law 487 = .ok (.iconst 2, 1) := by decide +kernel
theorem dL_law_488 : decode cL_law 488 = .ok (.iadd, 1) := by decide +kernel
theorem dL_law_489 : decode cL_law 489 = .ok (.iaload, 1) := by decide +kernel
theorem dL_law_490 : decode cL_law 490 = .ok (.ifCond .eq 7, 3) := by decide +kernel
theorem dL_law_493 : decode cL_law 493 = .ok (.iconst 1, 1) := by decide +kernel
theorem dL_law_494 : decode cL_law 494 = .ok (.goto 4, 3) := by decide +kernel
theorem dL_law_497 : decode cL_law 497 = .ok (.iconst 0, 1) := by decide +kernel
theorem dL_law_498 : decode cL_law 498 = .ok (.invokevirtual 49, 3) := by decide +kernel
theorem dL_law_501 : decode cL_law 501 = .ok (.if_icmp .eq 512, 3) := by decide +kernel
theorem dL_law_504 : decode cL_law 504 = .ok (.iconst 0, 1) := by decide +kernel
theorem dL_law_505 : decode cL_law 505 = .ok (.ireturn, 1) := by decide +kernel
theorem dL_law_506 : decode cL_law 506 = .ok (.aload_n 1, 1) := by decide +kernel
theorem dL_law_507 : decode cL_law 507 = .ok (.aload_n 0, 1) := by decide +kernel
theorem dL_law_508 : decode cL_law 508 = .ok (.iload_n 3, 1) := by decide +kernel
theorem dL_law_509 : decode cL_law 509 = .ok (.iconst 1, 1) := by decide +kernel
theorem dL_law_510 : decode cL_law 510 = .ok (.iadd, 1) := by decide +kernel
theorem dL_law_511 : decode cL_law 511 = .ok (.iaload, 1) := by decide +kernel
theorem dL_law_512 : decode cL_law 512 = .ok (.aload_n 0, 1) := by decide +kernel
theorem dL_law_513 : decode cL_law 513 = .ok (.iload_n 3, 1) := by decide +kernel
theorem dL_law_514 : decode cL_law 514 = .ok (.iconst 2, 1) := by decide +kernel
theorem dL_law_515 : decode cL_law 515 = .ok (.iadd, 1) := by decide +kernel
theorem dL_law_516 : decode cL_law 516 = .ok (.iaload, 1) := by decide +kernel
theorem dL_law_517 : decode cL_law 517 = .ok (.invokevirtual 50, 3) := by decide +kernel
theorem dL_law_520 : decode cL_law 520 = .ok (.aload_n 2, 1) := by decide +kernel
theorem dL_law_521 : decode cL_law 521 = .ok (.aload_n 0, 1) := by decide +kernel
theorem dL_law_522 : decode cL_law 522 = .ok (.iload_n 3, 1) := by decide +kernel
theorem dL_law_523 : decode cL_law 523 = .ok (.iconst 1, 1) := by decide +kernel
theorem dL_law_524 : decode cL_law 524 = .ok (.iadd, 1) := by decide +kernel
theorem dL_law_525 : decode cL_law 525 = .ok (.iaload, 1) := by decide +kernel
theorem dL_law_526 : decode cL_law 526 = .ok (.aload_n 0, 1) := by decide +kernel
theorem dL_law_527 : decode cL_law 527 = .ok (.iload_n 3, 1) := by decide +kernel
theorem dL_law_528 : decode cL_law 528 = .ok (.iconst 2, 1) := by decide +kernel
theorem dL_law_529 : decode cL_law 529 = .ok (.iadd, 1) := by decide +kernel
theorem dL_law_530 : decode cL_law 530 = .ok (.iaload, 1) := by decide +kernel
theorem dL_law_531 : decode cL_law 531 = .ok (.invokevirtual 53, 3) := by decide +kernel
theorem dL_law_534 : decode cL_law 534 = .ok (.if_icmp .eq 479, 3) := by decide +kernel
theorem dL_law_537 : decode cL_law 537 = .ok (.iconst 0, 1) := by decide +kernel
theorem dL_law_538 : decode cL_law 538 = .ok (.ireturn, 1) := by decide +kernel
theorem dL_law_539 : decode cL_law 539 = .ok (.aload_n 1, 1) := by decide +kernel
theorem dL_law_540 : decode cL_law 540 = .ok (.aload_n 0, 1) := by decide +kernel
theorem dL_law_541 : decode cL_law 541 = .ok (.iload_n 3, 1) := by decide +kernel
theorem dL_law_542 : decode cL_law 542 = .ok (.iconst 1, 1) := by decide +kernel
theorem dL_law_543 : decode cL_law 543 = .ok (.iadd, 1) := by decide +kernel
theorem dL_law_544 : decode cL_law 544 = .ok (.iaload, 1) := by decide +kernel
theorem dL_law_545 : decode cL_law 545 = .ok (.aload_n 0, 1) := by decide +kernel
theorem dL_law_546 : decode cL_law 546 = .ok (.iload_n 3, 1) := by decide +kernel
theorem dL_law_547 : decode cL_law 547 = .ok (.iconst 2, 1) := by decide +kernel
theorem dL_law_548 : decode cL_law 548 = .ok (.iadd, 1) := by decide +kernel
theorem dL_law_549 : decode cL_law 549 = .ok (.iaload, 1) := by decide +kernel
theorem dL_law_550 : decode cL_law 550 = .ok (.invokevirtual 54, 3) := by decide +kernel
theorem dL_law_553 : decode cL_law 553 = .ok (.aload_n 2, 1) := by decide +kernel
theorem dL_law_554 : decode cL_law 554 = .ok (.aload_n 0, 1) := by decide +kernel
theorem dL_law_555 : decode cL_law 555 = .ok (.iload_n 3, 1) := by decide +kernel
theorem dL_law_556 : decode cL_law 556 = .ok (.iconst 1, 1) := by decide +kernel
theorem dL_law_557 : decode cL_law 557 = .ok (.iadd, 1) := by decide +kernel
theorem dL_law_558 : decode cL_law 558 = .ok (.iaload, 1) := by decide +kernel
theorem dL_law_559 : decode cL_law 559 = .ok (.aload_n 0, 1) := by decide +kernel
theorem dL_law_560 : decode cL_law 560 = .ok (.iload_n 3, 1) := by decide +kernel
theorem dL_law_561 : decode cL_law 561 = .ok (.iconst 2, 1) := by decide +kernel
theorem dL_law_562 : decode cL_law 562 = .ok (.iadd, 1) := by decide +kernel
theorem dL_law_563 : decode cL_law 563 = .ok (.iaload, 1) := by decide +kernel
theorem dL_law_564 : decode cL_law 564 = .ok (.invokevirtual 57, 3) := by decide +kernel
theorem dL_law_567 : decode cL_law 567 = .ok (.if_icmp .eq 446, 3) := by decide +kernel
theorem dL_law_570 : decode cL_law 570 = .ok (.iconst 0, 1) := by decide +kernel
theorem dL_law_571 : decode cL_law 571 = .ok (.ireturn, 1) := by decide +kernel
theorem dL_law_572 : decode cL_law 572 = .ok (.aload_n 1, 1) := by decide +kernel
theorem dL_law_573 : decode cL_law 573 = .ok (.aload_n 0, 1) := by decide +kernel
theorem dL_law_574 : decode cL_law 574 = .ok (.iload_n 3, 1) := by decide +kernel
theorem dL_law_575 : decode cL_law 575 = .ok (.iconst 1, 1) := by decide +kernel
theorem dL_law_576 : decode cL_law 576 = .ok (.iadd, 1) := by decide +kernel
theorem dL_law_577 : decode cL_law 577 = .ok (.iaload, 1) := by decide +kernel
theorem dL_law_578 : decode cL_law 578 = .ok (.invokevirtual 58, 3) := by decide +kernel
theorem dL_law_581 : decode cL_law 581 = .ok (.aload_n 2, 1) := by decide +kernel
theorem dL_law_582 : decode cL_law 582 = .ok (.aload_n 0, 1) := by decide +kernel
theorem dL_law_583 : decode cL_law 583 = .ok (.iload_n 3, 1) := by decide +kernel
theorem dL_law_584 : decode cL_law 584 = .ok (.iconst 1, 1) := by decide +kernel
theorem dL_law_585 : decode cL_law 585 = .ok (.iadd, 1) := by decide +kernel
theorem dL_law_586 : decode cL_law 586 = .ok (.iaload, 1) := by decide +kernel
theorem dL_law_587 : decode cL_law 587 = .ok (.invokevirtual 62, 3) := by decide +kernel
theorem dL_law_590 : decode cL_law 590 = .ok (.if_icmp .eq 423, 3) := by decide +kernel
theorem dL_law_593 : decode cL_law 593 = .ok (.iconst 0, 1) := by decide +kernel
theorem dL_law_594 : decode cL_law 594 = .ok (.ireturn, 1) := by decide +kernel
theorem dL_law_595 : decode cL_law 595 = .ok (.aload_n 1, 1) := by decide +kernel
theorem dL_law_596 : decode cL_law 596 = .ok (.aload_n 0, 1) := by decide +kernel
theorem dL_law_597 : decode cL_law 597 = .ok (.iload_n 3, 1) := by decide +kernel
theorem dL_law_598 : decode cL_law 598 = .ok (.iconst 1, 1) := by decide +kernel
theorem dL_law_599 : decode cL_law 599 = .ok (.iadd, 1) := by decide +kernel
theorem dL_law_600 : decode cL_law 600 = .ok (.iaload, 1) := by decide +kernel
theorem dL_law_601 : decode cL_law 601 = .ok (.aload_n 0, 1) := by decide +kernel
theorem dL_law_602 : decode cL_law 602 = .ok (.iload_n 3, 1) := by decide +kernel
theorem dL_law_603 : decode cL_law 603 = .ok (.iconst 2, 1) := by decide +kernel
theorem dL_law_604 : decode cL_law 604 = .ok (.iadd, 1) := by decide +kernel
theorem dL_law_605 : decode cL_law 605 = .ok (.iaload, 1) := by decide +kernel
theorem dL_law_606 : decode cL_law 606 = .ok (.invokevirtual 63, 3) := by decide +kernel
theorem dL_law_609 : decode cL_law 609 = .ok (.aload_n 2, 1) := by decide +kernel
theorem dL_law_610 : decode cL_law 610 = .ok (.aload_n 0, 1) := by decide +kernel
theorem dL_law_611 : decode cL_law 611 = .ok (.iload_n 3, 1) := by decide +kernel
theorem dL_law_612 : decode cL_law 612 = .ok (.iconst 1, 1) := by decide +kernel
theorem dL_law_613 : decode cL_law 613 = .ok (.iadd, 1) := by decide +kernel
theorem dL_law_614 : decode cL_law 614 = .ok (.iaload, 1) := by decide +kernel
theorem dL_law_615 : decode cL_law 615 = .ok (.aload_n 0, 1) := by decide +kernel
theorem dL_law_616 : decode cL_law 616 = .ok (.iload_n 3, 1) := by decide +kernel
theorem dL_law_617 : decode cL_law 617 = .ok (.iconst 2, 1) := by decide +kernel
theorem dL_law_618 : decode cL_law 618 = .ok (.iadd, 1) := by decide +kernel
theorem dL_law_619 : decode cL_law 619 = .ok (.iaload, 1) := by decide +kernel
theorem dL_law_620 : decode cL_law 620 = .ok (.invokevirtual 66, 3) := by decide +kernel
theorem dL_law_623 : decode cL_law 623 = .ok (.if_icmp .eq 390, 3) := by decide +kernel
theorem dL_law_626 : decode cL_law 626 = .ok (.iconst 0, 1) := by decide +kernel
theorem dL_law_627 : decode cL_law 627 = .ok (.ireturn, 1) := by decide +kernel
theorem dL_law_628 : decode cL_law 628 = .ok (.aload_n 1, 1) := by decide +kernel
theorem dL_law_629 : decode cL_law 629 = .ok (.invokevirtual 67, 3) := by decide +kernel
theorem dL_law_632 : decode cL_law 632 = .ok (.aload_n 2, 1) := by decide +kernel
theorem dL_law_633 : decode cL_law 633 = .ok (.invokevirtual 71, 3) := by decide +kernel
theorem dL_law_636 : decode cL_law 636 = .ok (.if_icmp .eq 377, 3) := by decide +kernel
theorem dL_law_639 : decode cL_law 639 = .ok (.iconst 0, 1) := by decide +kernel
theorem dL_law_640 : decode cL_law 640 = .ok (.ireturn, 1) := by decide +kernel
theorem dL_law_641 : decode cL_law 641 = .ok (.aload_n 1, 1) := by decide +kernel
theorem dL_law_642 : decode cL_law 642 = .ok (.aload_n 0, 1) := by decide +kernel
theorem dL_law_643 : decode cL_law 643 = .ok (.iload_n 3, 1) := by decide +kernel
theorem dL_law_644 : decode cL_law 644 = .ok (.iconst 1, 1) := by decide +kernel
theorem dL_law_645 : decode cL_law 645 = .ok (.iadd, 1) := by decide +kernel
theorem dL_law_646 : decode cL_law 646 = .ok (.iaload, 1) := by decide +kernel
theorem dL_law_647 : decode cL_law 647 = .ok (.aload_n 0, 1) := by decide +kernel
theorem dL_law_648 : decode cL_law 648 = .ok (.iload_n 3, 1) := by decide +kernel
theorem dL_law_649 : decode cL_law 649 = .ok (.iconst 2, 1) := by decide +kernel
theorem dL_law_650 : decode cL_law 650 = .ok (.iadd, 1) := by decide +kernel
theorem dL_law_651 : decode cL_law 651 = .ok (.iaload, 1) := by decide +kernel
theorem dL_law_652 : decode cL_law 652 = .ok (.aload_n 0, 1) := by decide +kernel
theorem dL_law_653 : decode cL_law 653 = .ok (.iload_n 3, 1) := by decide +kernel
theorem dL_law_654 : decode cL_law 654 = .ok (.iconst 3, 1) := by decide +kernel
theorem dL_law_655 : decode cL_law 655 = .ok (.iadd, 1) := by decide +kernel
theorem dL_law_656 : decode cL_law 656 = .ok (.iaload, 1) := by decide +kernel
theorem dL_law_657 : decode cL_law 657 = .ok (.invokevirtual 72, 3) := by decide +kernel
theorem dL_law_660 : decode cL_law 660 = .ok (.aload_n 2, 1) := by decide +kernel
theorem dL_law_661 : decode cL_law 661 = .ok (.aload_n 0, 1) := by decide +kernel
theorem dL_law_662 : decode cL_law 662 = .ok (.iload_n 3, 1) := by decide +kernel
theorem dL_law_663 : decode cL_law 663 = .ok (.iconst 1, 1) := by decide +kernel
theorem dL_law_664 : decode cL_law 664 = .ok (.iadd, 1) := by decide +kernel
theorem dL_law_665 : decode cL_law 665 = .ok (.iaload, 1) := by decide +kernel
theorem dL_law_666 : decode cL_law 666 = .ok (.aload_n 0, 1) := by decide +kernel
theorem dL_law_667 : decode cL_law 667 = .ok (.iload_n 3, 1) := by decide +kernel
theorem dL_law_668 : decode cL_law 668 = .ok (.iconst 2, 1) := by decide +kernel
theorem dL_law_669 : decode cL_law 669 = .ok (.iadd, 1) := by decide +kernel
theorem dL_law_670 : decode cL_law 670 = .ok (.iaload, 1) := by decide +kernel
theorem dL_law_671 : decode cL_law 671 = .ok (.aload_n 0, 1) := by decide +kernel
theorem dL_law_672 : decode cL_law 672 = .ok (.iload_n 3, 1) := by decide +kernel
theorem dL_law_673 : decode cL_law 673 = .ok (.iconst 3, 1) := by decide +kernel
theorem dL_law_674 : decode cL_law 674 = .ok (.iadd, 1) := by decide +kernel
theorem dL_law_675 : decode cL_law 675 = .ok (.iaload, 1) := by decide +kernel
theorem dL_law_676 : decode cL_law 676 = .ok (.invokevirtual 75, 3) := by decide +kernel
theorem dL_law_679 : decode cL_law 679 = .ok (.if_icmp .eq 334, 3) := by decide +kernel
theorem dL_law_682 : decode cL_law 682 = .ok (.iconst 0, 1) := by decide +kernel
theorem dL_law_683 : decode cL_law 683 = .ok (.ireturn, 1) := by decide +kernel
theorem dL_law_684 : decode cL_law 684 = .ok (.aload_n 1, 1) := by decide +kernel
theorem dL_law_685 : decode cL_law 685 = .ok (.aload_n 0, 1) := by decide +kernel
theorem dL_law_686 : decode cL_law 686 = .ok (.iload_n 3, 1) := by decide +kernel
theorem dL_law_687 : decode cL_law 687 = .ok (.iconst 1, 1) := by decide +kernel
theorem dL_law_688 : decode cL_law 688 = .ok (.iadd, 1) := by decide +kernel
theorem dL_law_689 : decode cL_law 689 = .ok (.iaload, 1) := by decide +kernel
theorem dL_law_690 : decode cL_law 690 = .ok (.invokevirtual 76, 3) := by decide +kernel
theorem dL_law_693 : decode cL_law 693 = .ok (.aload_n 2, 1) := by decide +kernel
theorem dL_law_694 : decode cL_law 694 = .ok (.aload_n 0, 1) := by decide +kernel
theorem dL_law_695 : decode cL_law 695 = .ok (.iload_n 3, 1) := by decide +kernel
theorem dL_law_696 : decode cL_law 696 = .ok (.iconst 1, 1) := by decide +kernel
theorem dL_law_697 : decode cL_law 697 = .ok (.iadd, 1) := by decide +kernel
theorem dL_law_698 : decode cL_law 698 = .ok (.iaload, 1) := by decide +kernel
theorem dL_law_699 : decode cL_law 699 = .ok (.invokevirtual 79, 3) := by decide +kernel
theorem dL_law_702 : decode cL_law 702 = .ok (.if_icmp .eq 311, 3) := by decide +kernel
theorem dL_law_705 : decode cL_law 705 = .ok (.iconst 0, 1) := by decide +kernel
theorem dL_law_706 : decode cL_law 706 = .ok (.ireturn, 1) := by decide +kernel
theorem dL_law_707 : decode cL_law 707 = .ok (.aload_n 1, 1) := by decide +kernel
theorem dL_law_708 : decode cL_law 708 = .ok (.aload_n 0, 1) := by decide +kernel
theorem dL_law_709 : decode cL_law 709 = .ok (.iload_n 3, 1) := by decide +kernel
theorem dL_law_710 : decode cL_law 710 = .ok (.iconst 1, 1) := by decide +kernel
theorem dL_law_711 : decode cL_law 711 = .ok (.iadd, 1) := by decide +kernel
theorem dL_law_712 : decode cL_law 712 = .ok (.iaload, 1) := by decide +kernel
theorem dL_law_713 : decode cL_law 713 = .ok (.aload_n 0, 1) := by decide +kernel
theorem dL_law_714 : decode cL_law 714 = .ok (.iload_n 3, 1) := by decide +kernel
theorem dL_law_715 : decode cL_law 715 = .ok (.iconst 2, 1) := by decide +kernel
theorem dL_law_716 : decode cL_law 716 = .ok (.iadd, 1) := by decide +kernel
theorem dL_law_717 : decode cL_law 717 = .ok (.iaload, 1) := by decide +kernel
theorem dL_law_718 : decode cL_law 718 = .ok (.invokevirtual 80, 3) := by decide +kernel
theorem dL_law_721 : decode cL_law 721 = .ok (.aload_n 2, 1) := by decide +kernel
theorem dL_law_722 : decode cL_law 722 = .ok (.aload_n 0, 1) := by decide +kernel
theorem dL_law_723 : decode cL_law 723 = .ok (.iload_n 3, 1) := by decide +kernel
theorem dL_law_724 : decode cL_law 724 = .ok (.iconst 1, 1) := by decide +kernel
theorem dL_law_725 : decode cL_law 725 = .ok (.iadd, 1) := by decide +kernel
theorem dL_law_726 : decode cL_law 726 = .ok (.iaload, 1) := by decide +kernel
theorem dL_law_727 : decode cL_law 727 = .ok (.aload_n 0, 1) := by decide +kernel
theorem dL_law_728 : decode cL_law 728 = .ok (.iload_n 3, 1) := by decide +kernel
theorem dL_law_729 : decode cL_law 729 = .ok (.iconst 2, 1) := by decide +kernel
theorem dL_law_730 : decode cL_law 730 = .ok (.iadd, 1) := by decide +kernel
theorem dL_law_731 : decode cL_law 731 = .ok (.iaload, 1) := by decide +kernel
theorem dL_law_732 : decode cL_law 732 = .ok (.invokevirtual 84, 3) := by decide +kernel
theorem dL_law_735 : decode cL_law 735 = .ok (.lcmp, 1) := by decide +kernel
theorem dL_law_736 : decode cL_law 736 = .ok (.ifCond .eq 277, 3) := by decide +kernel
theorem dL_law_739 : decode cL_law 739 = .ok (.iconst 0, 1) := by decide +kernel
theorem dL_law_740 : decode cL_law 740 = .ok (.ireturn, 1) := by decide +kernel
theorem dL_law_741 : decode cL_law 741 = .ok (.aload_n 1, 1) := by decide +kernel
theorem dL_law_742 : decode cL_law 742 = .ok (.aload_n 0, 1) := by decide +kernel
theorem dL_law_743 : decode cL_law 743 = .ok (.iload_n 3, 1) := by decide +kernel
theorem dL_law_744 : decode cL_law 744 = .ok (.iconst 1, 1) := by decide +kernel
theorem dL_law_745 : decode cL_law 745 = .ok (.iadd, 1) := by decide +kernel
theorem dL_law_746 : decode cL_law 746 = .ok (.iaload, 1) := by decide +kernel
theorem dL_law_747 : decode cL_law 747 = .ok (.aload_n 0, 1) := by decide +kernel
theorem dL_law_748 : decode cL_law 748 = .ok (.iload_n 3, 1) := by decide +kernel
theorem dL_law_749 : decode cL_law 749 = .ok (.iconst 2, 1) := by decide +kernel
theorem dL_law_750 : decode cL_law 750 = .ok (.iadd, 1) := by decide +kernel
theorem dL_law_751 : decode cL_law 751 = .ok (.iaload, 1) := by decide +kernel
theorem dL_law_752 : decode cL_law 752 = .ok (.aload_n 0, 1) := by decide +kernel
theorem dL_law_753 : decode cL_law 753 = .ok (.iload_n 3, 1) := by decide +kernel
theorem dL_law_754 : decode cL_law 754 = .ok (.iconst 3, 1) := by decide +kernel
theorem dL_law_755 : decode cL_law 755 = .ok (.iadd, 1) := by decide +kernel
theorem dL_law_756 : decode cL_law 756 = .ok (.iaload, 1) := by decide +kernel
theorem dL_law_757 : decode cL_law 757 = .ok (.invokevirtual 85, 3) := by decide +kernel
theorem dL_law_760 : decode cL_law 760 = .ok (.aload_n 2, 1) := by decide +kernel
theorem dL_law_761 : decode cL_law 761 = .ok (.aload_n 0, 1) := by decide +kernel
theorem dL_law_762 : decode cL_law 762 = .ok (.iload_n 3, 1) := by decide +kernel
theorem dL_law_763 : decode cL_law 763 = .ok (.iconst 1, 1) := by decide +kernel
theorem dL_law_764 : decode cL_law 764 = .ok (.iadd, 1) := by decide +kernel
theorem dL_law_765 : decode cL_law 765 = .ok (.iaload, 1) := by decide +kernel
theorem dL_law_766 : decode cL_law 766 = .ok (.aload_n 0, 1) := by decide +kernel
theorem dL_law_767 : decode cL_law 767 = .ok (.iload_n 3, 1) := by decide +kernel
theorem dL_law_768 : decode cL_law 768 = .ok (.iconst 2, 1) := by decide +kernel
theorem dL_law_769 : decode cL_law 769 = .ok (.iadd, 1) := by decide +kernel
theorem dL_law_770 : decode cL_law 770 = .ok (.iaload, 1) := by decide +kernel
theorem dL_law_771 : decode cL_law 771 = .ok (.aload_n 0, 1) := by decide +kernel
theorem dL_law_772 : decode cL_law 772 = .ok (.iload_n 3, 1) := by decide +kernel
theorem dL_law_773 : decode cL_law 773 = .ok (.iconst 3, 1) := by decide +kernel
theorem dL_law_774 : decode cL_law 774 = .ok (.iadd, 1) := by decide +kernel
theorem dL_law_775 : decode cL_law 775 = .ok (.iaload, 1) := by decide +kernel
theorem dL_law_776 : decode cL_law 776 = .ok (.invokevirtual 89, 3) := by decide +kernel
theorem dL_law_779 : decode cL_law 779 = .ok (.lcmp, 1) := by decide +kernel
theorem dL_law_780 : decode cL_law 780 = .ok (.ifCond .eq 233, 3) := by decide +kernel
theorem dL_law_783 : decode cL_law 783 = .ok (.iconst 0, 1) := by decide +kernel
theorem dL_law_784 : decode cL_law 784 = .ok (.ireturn, 1) := by decide +kernel
theorem dL_law_785 : decode cL_law 785 = .ok (.aload_n 1, 1) := by decide +kernel
theorem dL_law_786 : decode cL_law 786 = .ok (.aload_n 0, 1) := by decide +kernel
theorem dL_law_787 : decode cL_law 787 = .ok (.iload_n 3, 1) := by decide +kernel
theorem dL_law_788 : decode cL_law 788 = .ok (.iconst 1, 1) := by decide +kernel
theorem dL_law_789 : decode cL_law 789 = .ok (.iadd, 1) := by decide +kernel
theorem dL_law_790 : decode cL_law 790 = .ok (.iaload, 1) := by decide +kernel
theorem dL_law_791 : decode cL_law 791 = .ok (.invokevirtual 90, 3) := by decide +kernel
theorem dL_law_794 : decode cL_law 794 = .ok (.aload_n 2, 1) := by decide +kernel
theorem dL_law_795 : decode cL_law 795 = .ok (.aload_n 0, 1) := by decide +kernel
theorem dL_law_796 : decode cL_law 796 = .ok (.iload_n 3, 1) := by decide +kernel
theorem dL_law_797 : decode cL_law 797 = .ok (.iconst 1, 1) := by decide +kernel
theorem dL_law_798 : decode cL_law 798 = .ok (.iadd, 1) := by decide +kernel
theorem dL_law_799 : decode cL_law 799 = .ok (.iaload, 1) := by decide +kernel
theorem dL_law_800 : decode cL_law 800 = .ok (.invokevirtual 93, 3) := by decide +kernel
theorem dL_law_803 : decode cL_law 803 = .ok (.if_icmp .eq 210, 3) := by decide +kernel
theorem dL_law_806 : decode cL_law 806 = .ok (.iconst 0, 1) := by decide +kernel
theorem dL_law_807 : decode cL_law 807 = .ok (.ireturn, 1) := by decide +kernel
theorem dL_law_808 : decode cL_law 808 = .ok (.aload_n 1, 1) := by decide +kernel
theorem dL_law_809 : decode cL_law 809 = .ok (.aload_n 0, 1) := by decide +kernel
theorem dL_law_810 : decode cL_law 810 = .ok (.iload_n 3, 1) := by decide +kernel
theorem dL_law_811 : decode cL_law 811 = .ok (.iconst 1, 1) := by decide +kernel
theorem dL_law_812 : decode cL_law 812 = .ok (.iadd, 1) := by decide +kernel
theorem dL_law_813 : decode cL_law 813 = .ok (.iaload, 1) := by decide +kernel
theorem dL_law_814 : decode cL_law 814 = .ok (.aload_n 0, 1) := by decide +kernel
theorem dL_law_815 : decode cL_law 815 = .ok (.iload_n 3, 1) := by decide +kernel
theorem dL_law_816 : decode cL_law 816 = .ok (.iconst 2, 1) := by decide +kernel
theorem dL_law_817 : decode cL_law 817 = .ok (.iadd, 1) := by decide +kernel
theorem dL_law_818 : decode cL_law 818 = .ok (.iaload, 1) := by decide +kernel
theorem dL_law_819 : decode cL_law 819 = .ok (.aload_n 0, 1) := by decide +kernel
theorem dL_law_820 : decode cL_law 820 = .ok (.iload_n 3, 1) := by decide +kernel
theorem dL_law_821 : decode cL_law 821 = .ok (.iconst 3, 1) := by decide +kernel
theorem dL_law_822 : decode cL_law 822 = .ok (.iadd, 1) := by decide +kernel
theorem dL_law_823 : decode cL_law 823 = .ok (.iaload, 1) := by decide +kernel
theorem dL_law_824 : decode cL_law 824 = .ok (.invokevirtual 94, 3) := by decide +kernel
theorem dL_law_827 : decode cL_law 827 = .ok (.aload_n 2, 1) := by decide +kernel
theorem dL_law_828 : decode cL_law 828 = .ok (.aload_n 0, 1) := by decide +kernel
theorem dL_law_829 : decode cL_law 829 = .ok (.iload_n 3, 1) := by decide +kernel
theorem dL_law_830 : decode cL_law 830 = .ok (.iconst 1, 1) := by decide +kernel
theorem dL_law_831 : decode cL_law 831 = .ok (.iadd, 1) := by decide +kernel
theorem dL_law_832 : decode cL_law 832 = .ok (.iaload, 1) := by decide +kernel
theorem dL_law_833 : decode cL_law 833 = .ok (.aload_n 0, 1) := by decide +kernel
theorem dL_law_834 : decode cL_law 834 = .ok (.iload_n 3, 1) := by decide +kernel
theorem dL_law_835 : decode cL_law 835 = .ok (.iconst 2, 1) := by decide +kernel
theorem dL_law_836 : decode cL_law 836 = .ok (.iadd, 1) := by decide +kernel
theorem dL_law_837 : decode cL_law 837 = .ok (.iaload, 1) := by decide +kernel
theorem dL_law_838 : decode cL_law 838 = .ok (.aload_n 0, 1) := by decide +kernel
theorem dL_law_839 : decode cL_law 839 = .ok (.iload_n 3, 1) := by decide +kernel
theorem dL_law_840 : decode cL_law 840 = .ok (.iconst 3, 1) := by decide +kernel
theorem dL_law_841 : decode cL_law 841 = .ok (.iadd, 1) := by decide +kernel
theorem dL_law_842 : decode cL_law 842 = .ok (.iaload, 1) := by decide +kernel
theorem dL_law_843 : decode cL_law 843 = .ok (.invokevirtual 97, 3) := by decide +kernel
theorem dL_law_846 : decode cL_law 846 = .ok (.if_icmp .eq 167, 3) := by decide +kernel
theorem dL_law_849 : decode cL_law 849 = .ok (.iconst 0, 1) := by decide +kernel
theorem dL_law_850 : decode cL_law 850 = .ok (.ireturn, 1) := by decide +kernel
theorem dL_law_851 : decode cL_law 851 = .ok (.aload_n 1, 1) := by decide +kernel
theorem dL_law_852 : decode cL_law 852 = .ok (.aload_n 0, 1) := by decide +kernel
theorem dL_law_853 : decode cL_law 853 = .ok (.iload_n 3, 1) := by decide +kernel
theorem dL_law_854 : decode cL_law 854 = .ok (.iconst 1, 1) := by decide +kernel
theorem dL_law_855 : decode cL_law 855 = .ok (.iadd, 1) := by decide +kernel
theorem dL_law_856 : decode cL_law 856 = .ok (.iaload, 1) := by decide +kernel
theorem dL_law_857 : decode cL_law 857 = .ok (.aload_n 0, 1) := by decide +kernel
theorem dL_law_858 : decode cL_law 858 = .ok (.iload_n 3, 1) := by decide +kernel
theorem dL_law_859 : decode cL_law 859 = .ok (.iconst 2, 1) := by decide +kernel
theorem dL_law_860 : decode cL_law 860 = .ok (.iadd, 1) := by decide +kernel
theorem dL_law_861 : decode cL_law 861 = .ok (.iaload, 1) := by decide +kernel
theorem dL_law_862 : decode cL_law 862 = .ok (.aload_n 0, 1) := by decide +kernel
theorem dL_law_863 : decode cL_law 863 = .ok (.iload_n 3, 1) := by decide +kernel
theorem dL_law_864 : decode cL_law 864 = .ok (.iconst 3, 1) := by decide +kernel
theorem dL_law_865 : decode cL_law 865 = .ok (.iadd, 1) := by decide +kernel
theorem dL_law_866 : decode cL_law 866 = .ok (.iaload, 1) := by decide +kernel
theorem dL_law_867 : decode cL_law 867 = .ok (.invokevirtual 98, 3) := by decide +kernel
theorem dL_law_870 : decode cL_law 870 = .ok (.aload_n 2, 1) := by decide +kernel
theorem dL_law_871 : decode cL_law 871 = .ok (.aload_n 0, 1) := by decide +kernel
theorem dL_law_872 : decode cL_law 872 = .ok (.iload_n 3, 1) := by decide +kernel
theorem dL_law_873 : decode cL_law 873 = .ok (.iconst 1, 1) := by decide +kernel
theorem dL_law_874 : decode cL_law 874 = .ok (.iadd, 1) := by decide +kernel
theorem dL_law_875 : decode cL_law 875 = .ok (.iaload, 1) := by decide +kernel
theorem dL_law_876 : decode cL_law 876 = .ok (.aload_n 0, 1) := by decide +kernel
theorem dL_law_877 : decode cL_law 877 = .ok (.iload_n 3, 1) := by decide +kernel
theorem dL_law_878 : decode cL_law 878 = .ok (.iconst 2, 1) := by decide +kernel
theorem dL_law_879 : decode cL_law 879 = .ok (.iadd, 1) := by decide +kernel
theorem dL_law_880 : decode cL_law 880 = .ok (.iaload, 1) := by decide +kernel
theorem dL_law_881 : decode cL_law 881 = .ok (.aload_n 0, 1) := by decide +kernel
theorem dL_law_882 : decode cL_law 882 = .ok (.iload_n 3, 1) := by decide +kernel
theorem dL_law_883 : decode cL_law 883 = .ok (.iconst 3, 1) := by decide +kernel
theorem dL_law_884 : decode cL_law 884 = .ok (.iadd, 1) := by decide +kernel
theorem dL_law_885 : decode cL_law 885 = .ok (.iaload, 1) := by decide +kernel
theorem dL_law_886 : decode cL_law 886 = .ok (.invokevirtual 101, 3) := by decide +kernel
theorem dL_law_889 : decode cL_law 889 = .ok (.if_icmp .eq 124, 3) := by decide +kernel
theorem dL_law_892 : decode cL_law 892 = .ok (.iconst 0, 1) := by decide +kernel
theorem dL_law_893 : decode cL_law 893 = .ok (.ireturn, 1) := by decide +kernel
theorem dL_law_894 : decode cL_law 894 = .ok (.aload_n 1, 1) := by decide +kernel
theorem dL_law_895 : decode cL_law 895 = .ok (.aload_n 0, 1) := by decide +kernel
theorem dL_law_896 : decode cL_law 896 = .ok (.iload_n 3, 1) := by decide +kernel
theorem dL_law_897 : decode cL_law 897 = .ok (.iconst 1, 1) := by decide +kernel
theorem dL_law_898 : decode cL_law 898 = .ok (.iadd, 1) := by decide +kernel
theorem dL_law_899 : decode cL_law 899 = .ok (.iaload, 1) := by decide +kernel
theorem dL_law_900 : decode cL_law 900 = .ok (.aload_n 0, 1) := by decide +kernel
theorem dL_law_901 : decode cL_law 901 = .ok (.iload_n 3, 1) := by decide +kernel
theorem dL_law_902 : decode cL_law 902 = .ok (.iconst 2, 1) := by decide +kernel
theorem dL_law_903 : decode cL_law 903 = .ok (.iadd, 1) := by decide +kernel
theorem dL_law_904 : decode cL_law 904 = .ok (.iaload, 1) := by decide +kernel
theorem dL_law_905 : decode cL_law 905 = .ok (.aload_n 0, 1) := by decide +kernel
theorem dL_law_906 : decode cL_law 906 = .ok (.iload_n 3, 1) := by decide +kernel
theorem dL_law_907 : decode cL_law 907 = .ok (.iconst 3, 1) := by decide +kernel
theorem dL_law_908 : decode cL_law 908 = .ok (.iadd, 1) := by decide +kernel
theorem dL_law_909 : decode cL_law 909 = .ok (.iaload, 1) := by decide +kernel
theorem dL_law_910 : decode cL_law 910 = .ok (.aload_n 0, 1) := by decide +kernel
theorem dL_law_911 : decode cL_law 911 = .ok (.iload_n 3, 1) := by decide +kernel
theorem dL_law_912 : decode cL_law 912 = .ok (.iconst 4, 1) := by decide +kernel
theorem dL_law_913 : decode cL_law 913 = .ok (.iadd, 1) := by decide +kernel
theorem dL_law_914 : decode cL_law 914 = .ok (.iaload, 1) := by decide +kernel
theorem dL_law_915 : decode cL_law 915 = .ok (.invokevirtual 102, 3) := by decide +kernel
theorem dL_law_918 : decode cL_law 918 = .ok (.aload_n 2, 1) := by decide +kernel
theorem dL_law_919 : decode cL_law 919 = .ok (.aload_n 0, 1) := by decide +kernel
theorem dL_law_920 : decode cL_law 920 = .ok (.iload_n 3, 1) := by decide +kernel
theorem dL_law_921 : decode cL_law 921 = .ok (.iconst 1, 1) := by decide +kernel
theorem dL_law_922 : decode cL_law 922 = .ok (.iadd, 1) := by decide +kernel
theorem dL_law_923 : decode cL_law 923 = .ok (.iaload, 1) := by decide +kernel
theorem dL_law_924 : decode cL_law 924 = .ok (.aload_n 0, 1) := by decide +kernel
theorem dL_law_925 : decode cL_law 925 = .ok (.iload_n 3, 1) := by decide +kernel
theorem dL_law_926 : decode cL_law 926 = .ok (.iconst 2, 1) := by decide +kernel
theorem dL_law_927 : decode cL_law 927 = .ok (.iadd, 1) := by decide +kernel
theorem dL_law_928 : decode cL_law 928 = .ok (.iaload, 1) := by decide +kernel
theorem dL_law_929 : decode cL_law 929 = .ok (.aload_n 0, 1) := by decide +kernel
theorem dL_law_930 : decode cL_law 930 = .ok (.iload_n 3, 1) := by decide +kernel
theorem dL_law_931 : decode cL_law 931 = .ok (.iconst 3, 1) := by decide +kernel
theorem dL_law_932 : decode cL_law 932 = .ok (.iadd, 1) := by decide +kernel
theorem dL_law_933 : decode cL_law 933 = .ok (.iaload, 1) := by decide +kernel
theorem dL_law_934 : decode cL_law 934 = .ok (.aload_n 0, 1) := by decide +kernel
theorem dL_law_935 : decode cL_law 935 = .ok (.iload_n 3, 1) := by decide +kernel
theorem dL_law_936 : decode cL_law 936 = .ok (.iconst 4, 1) := by decide +kernel
theorem dL_law_937 : decode cL_law 937 = .ok (.iadd, 1) := by decide +kernel
theorem dL_law_938 : decode cL_law 938 = .ok (.iaload, 1) := by decide +kernel
theorem dL_law_939 : decode cL_law 939 = .ok (.invokevirtual 105, 3) := by decide +kernel
theorem dL_law_942 : decode cL_law 942 = .ok (.if_icmp .eq 71, 3) := by decide +kernel
theorem dL_law_945 : decode cL_law 945 = .ok (.iconst 0, 1) := by decide +kernel
theorem dL_law_946 : decode cL_law 946 = .ok (.ireturn, 1) := by decide +kernel
theorem dL_law_947 : decode cL_law 947 = .ok (.aload_n 1, 1) := by decide +kernel
theorem dL_law_948 : decode cL_law 948 = .ok (.aload_n 0, 1) := by decide +kernel
theorem dL_law_949 : decode cL_law 949 = .ok (.iload_n 3, 1) := by decide +kernel
theorem dL_law_950 : decode cL_law 950 = .ok (.iconst 1, 1) := by decide +kernel
theorem dL_law_951 : decode cL_law 951 = .ok (.iadd, 1) := by decide +kernel
theorem dL_law_952 : decode cL_law 952 = .ok (.iaload, 1) := by decide +kernel
theorem dL_law_953 : decode cL_law 953 = .ok (.aload_n 0, 1) := by decide +kernel
theorem dL_law_954 : decode cL_law 954 = .ok (.iload_n 3, 1) := by decide +kernel
theorem dL_law_955 : decode cL_law 955 = .ok (.iconst 2, 1) := by decide +kernel
theorem dL_law_956 : decode cL_law 956 = .ok (.iadd, 1) := by decide +kernel
theorem dL_law_957 : decode cL_law 957 = .ok (.iaload, 1) := by decide +kernel
theorem dL_law_958 : decode cL_law 958 = .ok (.aload_n 0, 1) := by decide +kernel
theorem dL_law_959 : decode cL_law 959 = .ok (.iload_n 3, 1) := by decide +kernel
theorem dL_law_960 : decode cL_law 960 = .ok (.iconst 3, 1) := by decide +kernel
theorem dL_law_961 : decode cL_law 961 = .ok (.iadd, 1) := by decide +kernel
theorem dL_law_962 : decode cL_law 962 = .ok (.iaload, 1) := by decide +kernel
theorem dL_law_963 : decode cL_law 963 = .ok (.invokevirtual 106, 3) := by decide +kernel
theorem dL_law_966 : decode cL_law 966 = .ok (.aload_n 2, 1) := by decide +kernel
theorem dL_law_967 : decode cL_law 967 = .ok (.aload_n 0, 1) := by decide +kernel
theorem dL_law_968 : decode cL_law 968 = .ok (.iload_n 3, 1) := by decide +kernel
theorem dL_law_969 : decode cL_law 969 = .ok (.iconst 1, 1) := by decide +kernel
theorem dL_law_970 : decode cL_law 970 = .ok (.iadd, 1) := by decide +kernel
theorem dL_law_971 : decode cL_law 971 = .ok (.iaload, 1) := by decide +kernel
theorem dL_law_972 : decode cL_law 972 = .ok (.aload_n 0, 1) := by decide +kernel
theorem dL_law_973 : decode cL_law 973 = .ok (.iload_n 3, 1) := by decide +kernel
theorem dL_law_974 : decode cL_law 974 = .ok (.iconst 2, 1) := by decide +kernel
theorem dL_law_975 : decode cL_law 975 = .ok (.iadd, 1) := by decide +kernel
theorem dL_law_976 : decode cL_law 976 = .ok (.iaload, 1) := by decide +kernel
theorem dL_law_977 : decode cL_law 977 = .ok (.aload_n 0, 1) := by decide +kernel
theorem dL_law_978 : decode cL_law 978 = .ok (.iload_n 3, 1) := by decide +kernel
theorem dL_law_979 : decode cL_law 979 = .ok (.iconst 3, 1) := by decide +kernel
theorem dL_law_980 : decode cL_law 980 = .ok (.iadd, 1) := by decide +kernel
theorem dL_law_981 : decode cL_law 981 = .ok (.iaload, 1) := by decide +kernel
theorem dL_law_982 : decode cL_law 982 = .ok (.invokevirtual 109, 3) := by decide +kernel
theorem dL_law_985 : decode cL_law 985 = .ok (.if_icmp .eq 28, 3) := by decide +kernel
theorem dL_law_988 : decode cL_law 988 = .ok (.iconst 0, 1) := by decide +kernel
theorem dL_law_989 : decode cL_law 989 = .ok (.ireturn, 1) := by decide +kernel
theorem dL_law_990 : decode cL_law 990 = .ok (.aload_n 1, 1) := by decide +kernel
theorem dL_law_991 : decode cL_law 991 = .ok (.aload_n 0, 1) := by decide +kernel
theorem dL_law_992 : decode cL_law 992 = .ok (.iload_n 3, 1) := by decide +kernel
theorem dL_law_993 : decode cL_law 993 = .ok (.iconst 1, 1) := by decide +kernel
theorem dL_law_994 : decode cL_law 994 = .ok (.iadd, 1) := by decide +kernel
theorem dL_law_995 : decode cL_law 995 = .ok (.iaload, 1) := by decide +kernel
theorem dL_law_996 : decode cL_law 996 = .ok (.invokevirtual 110, 3) := by decide +kernel
theorem dL_law_999 : decode cL_law 999 = .ok (.aload_n 2, 1) := by decide +kernel
theorem dL_law_1000 : decode cL_law 1000 = .ok (.aload_n 0, 1) := by decide +kernel
theorem dL_law_1001 : decode cL_law 1001 = .ok (.iload_n 3, 1) := by decide +kernel
theorem dL_law_1002 : decode cL_law 1002 = .ok (.iconst 1, 1) := by decide +kernel
theorem dL_law_1003 : decode cL_law 1003 = .ok (.iadd, 1) := by decide +kernel
theorem dL_law_1004 : decode cL_law 1004 = .ok (.iaload, 1) := by decide +kernel
theorem dL_law_1005 : decode cL_law 1005 = .ok (.invokevirtual 113, 3) := by decide +kernel
theorem dL_law_1008 : decode cL_law 1008 = .ok (.if_icmp .eq 5, 3) := by decide +kernel
theorem dL_law_1011 : decode cL_law 1011 = .ok (.iconst 0, 1) := by decide +kernel
theorem dL_law_1012 : decode cL_law 1012 = .ok (.ireturn, 1) := by decide +kernel
theorem dL_law_1013 : decode cL_law 1013 = .ok (.iinc 3 6, 3) := by decide +kernel
theorem dL_law_1016 : decode cL_law 1016 = .ok (.goto (-998), 3) := by decide +kernel
theorem dL_law_1019 : decode cL_law 1019 = .ok (.iconst 1, 1) := by decide +kernel
theorem dL_law_1020 : decode cL_law 1020 = .ok (.ireturn, 1) := by decide +kernel
end
section
/-! the world: places in the order of making; what they hold: a memory of ints and longs -/
abbrev MM : Type := (Nat → Nat → Int32) × (Nat → Nat → Int64)
def ui (M : MM) (k j : Nat) (v : Int32) : MM := (fun a b => if a = k ∧ b = j then v else M.1 a b, M.2)
def ul (M : MM) (k j : Nat) (v : Int64) : MM := (M.1, fun a b => if a = k ∧ b = j then v else M.2 a b)
def uc (M : MM) (k : Nat) (f : Nat → Int32) : MM := (fun a b => if a = k then f b else M.1 a b, M.2)
abbrev Sh : Type := Nat × Nat × Nat × List Nat
def NPl : Nat := 107
def shL : List Sh := [(0, 9, 0, [3, 34, 39, 66]), (0, 2, 0, [4, 12, 17, 24, 28, 32, 33, 0, 0]), (0, 0, 0, [5, 6, 7, 8, 9, 10, 11, 0]), (1, 0, 6, []), (1, 0, 6, []), (1, 0, 6, []), (1, 0, 6, []), (1, 0, 6, []), (1, 0, 6, []), (1, 0, 6, []), (0, 7, 0, [13, 14, 15, 16, 0]), (1, 0, 8, []), (1, 0, 8, []), (1, 0, 8, []), (1, 0, 8, []), (0, 4, 0, [18, 19, 20, 21, 22, 23, 0, 0]), (1, 0, 4, []), (1, 0, 4, []), (1, 0, 4, []), (1, 0, 4, []), (1, 0, 4, []), (1, 0, 4, []), (0, 6, 0, [25, 26, 27, 0]), (1, 0, 4, []), (1, 0, 4, []), (2, 1, 4, []), (0, 1, 0, [29, 30, 31]), (1, 0, 8, []), (1, 0, 4, []), (1, 0, 4, []), (1, 0, 24, []), (1, 0, 24, []), (0, 8, 0, [35, 0]), (3, 2, 3, [34]), (1, 0, 6, []), (1, 0, 6, []), (1, 0, 6, []), (0, 3, 0, [3, 34, 40, 62, 0, 0, 1, 1]), (3, 2, 21, [39]), (1, 0, 6, []), (1, 0, 6, []), (1, 0, 6, []), (1, 0, 6, []), (1, 0, 6, []), (1, 0, 6, []), (1, 0, 6, []), (1, 0, 6, []), (1, 0, 6, []), (1, 0, 6, []), (1, 0, 6, []), (1, 0, 6, []), (1, 0, 6, []), (1, 0, 6, []), (1, 0, 6, []), (1, 0, 6, []), (1, 0, 6, []), (1, 0, 6, []), (1, 0, 6, []), (1, 0, 6, []), (1, 0, 6, []), (0, 1, 0, [63, 64, 65]), (1, 0, 8, []), (1, 0, 4, []), (1, 0, 4, []), (0, 5, 0, [67, 72, 73]), (3, 2, 4, [66]), (1, 0, 60, []), (1, 0, 60, []), (1, 0, 60, []), (1, 0, 60, []), (1, 0, 4, []), (1, 0, 4, []), (0, 10, 0, [0, 75, 76, 77, 78, 79, 80, 81, 0, 82, 83, 84, 85, 0, 86, 87, 88, 89, 90, 91, 92, 0, 93, 94, 95, 96, 97, 0, 0, 98, 99, 100, 0, 101, 102, 103, 104, 105, 0, 1, 1, 106, 107, 108]), (1, 0, 6, []), (1, 0, 6, []), (1, 0, 6, []), (1, 0, 6, []), (1, 0, 6, []), (1, 0, 6, []), (1, 0, 6, []), (1, 0, 8, []), (1, 0, 8, []), (1, 0, 8, []), (1, 0, 8, []), (1, 0, 4, []), (1, 0, 4, []), (1, 0, 4, []), (1, 0, 4, []), (1, 0, 4, []), (2, 1, 4, []), (1, 0, 4, []), (1, 0, 4, []), (1, 0, 4, []), (2, 1, 4, []), (1, 0, 24, []), (1, 0, 24, []), (1, 0, 8, []), (1, 0, 4, []), (1, 0, 4, []), (1, 0, 18, []), (1, 0, 6, []), (1, 0, 6, []), (1, 0, 6, []), (1, 0, 16, []), (1, 0, 4, []), (1, 0, 4, []), (1, 0, 240, [])]
def shp (k : Nat) : Sh := shL.getD k (9, 0, 0, [])
theorem shp_lt {k : Nat} {a : Sh} (h : shp k = a) (h9 : a.1 ≠ 9) : k < NPl := by
  rcases Nat.lt_or_ge k NPl with q | q
  · exact q
  · exfalso
    apply h9
    rw [← h]
    have : shL.length ≤ k := by
      have e : shL.length = NPl := by decide +kernel
      omega
    simp [shp, List.getD, List.getElem?_eq_none this]
def fval (ad : Nat → Nat) (M : MM) (k j c : Nat) : Value := if c = 0 then .int (M.1 k j) else if c = 1 then .long (M.2 k j) else .ref (ad (c - 2))
def fvals (ad : Nat → Nat) (M : MM) (k : Nat) : Nat → List Nat → List Value
  | _, [] => []
  | j, c :: cs => fval ad M k j c :: fvals ad M k (j + 1) cs
theorem fvals_len (ad : Nat → Nat) (M : MM) (k : Nat) : ∀ (cs : List Nat) (j : Nat), (fvals ad M k j cs).length = cs.length
  | [], _ => rfl
  | c :: cs, j => by simp [fvals, fvals_len ad M k cs (j + 1)]
theorem fvals_get (ad : Nat → Nat) (M : MM) (k : Nat) : ∀ (cs : List Nat) (j i c : Nat), cs[i]? = some c → (fvals ad M k j cs)[i]? = some (fval ad M k (j + i) c)
  | [], j, i, c, h => by simp at h
  | d :: cs, j, 0, c, h => by
    have e : d = c := by simpa using h
    subst e
    rfl
  | d :: cs, j, i + 1, c, h => by
    have h1 : cs[i]? = some c := by simpa using h
    have := fvals_get ad M k cs (j + 1) i c h1
    simpa [fvals, Nat.add_assoc, Nat.add_comm 1 i] using this
theorem fvals_congr (ad : Nat → Nat) {M M' : MM} {k : Nat} (h1 : M.1 k = M'.1 k) (h2 : M.2 k = M'.2 k) : ∀ (cs : List Nat) (j : Nat), fvals ad M k j cs = fvals ad M' k j cs
  | [], _ => rfl
  | c :: cs, j => by simp [fvals, fval, h1, h2, fvals_congr ad h1 h2 cs (j + 1)]
theorem fvals_set (ad : Nat → Nat) {M M' : MM} {k : Nat} (v : Value) : ∀ (cs : List Nat) (j i c : Nat), cs[i]? = some c → fval ad M' k (j + i) c = v → (∀ a : Nat, a ≠ j + i → M.1 k a = M'.1 k a) → (∀ a : Nat, a ≠ j + i → M.2 k a = M'.2 k a) → (fvals ad M k j cs).set i v = fvals ad M' k j cs
  | [], j, i, c, h, _, _, _ => by simp at h
  | d :: cs, j, 0, c, h, hv, h1, h2 => by
    have e : d = c := by simpa using h
    subst e
    have t : fvals ad M k (j + 1) cs = fvals ad M' k (j + 1) cs := by
      have aux : ∀ (cs : List Nat) (b : Nat), j < b → fvals ad M k b cs = fvals ad M' k b cs := by
        intro cs
        induction cs with
        | nil => intro b _; rfl
        | cons c cs ih =>
          intro b hb
          have e1 := h1 b (by omega)
          have e2 := h2 b (by omega)
          simp [fvals, fval, e1, e2, ih (b + 1) (by omega)]
      exact aux cs (j + 1) (by omega)
    simp only [Nat.add_zero] at hv
    simp [fvals, t, hv]
  | d :: cs, j, i + 1, c, h, hv, h1, h2 => by
    have h3 : cs[i]? = some c := by simpa using h
    have e : j + 1 + i = j + (i + 1) := by omega
    have t := fvals_set ad v cs (j + 1) i c h3 (by rw [e]; exact hv) (by rw [e]; exact h1) (by rw [e]; exact h2)
    have e1 := h1 j (by omega)
    have e2 := h2 j (by omega)
    simp [fvals, fval, e1, e2, t]
def ce (ad : Nat → Nat) (cA : Nat → ClassId) (M : MM) (k : Nat) : va_E := match shp k with
  | (0, ci, _, fk) => .inr (ci, fvals ad M k 0 fk)
  | (1, _, n, _) => .inl (cA 0, n, .inl (M.1 k))
  | (2, _, n, _) => .inl (cA 1, n, .inl (M.1 k))
  | (_, _, n, l) => .inl (cA 2, n, .inr (.inr (.inr (.inr (fun j => if j < n then some (ad (l.headD 0 + j)) else none)))))
theorem ce_congr (ad : Nat → Nat) (cA : Nat → ClassId) {M M' : MM} {k : Nat} (h1 : M.1 k = M'.1 k) (h2 : M.2 k = M'.2 k) : ce ad cA M k = ce ad cA M' k := by
  unfold ce
  rcases shp k with ⟨a, b, c, d⟩
  rcases a with _ | _ | _ | a
  · simp [fvals_congr ad h1 h2]
  · simp [h1]
  · simp [h1]
  · rfl
def wl (ad : Nat → Nat) (cA : Nat → ClassId) (M : MM) : va_W := (List.range NPl).map (fun k => (ad k, ce ad cA M k))
theorem wl_at (ad : Nat → Nat) (cA : Nat → ClassId) (M : MM) {k : Nat} (h : k < NPl) : (wl ad cA M)[k]? = some (ad k, ce ad cA M k) := by simp [wl, h]
theorem wl_set (ad : Nat → Nat) (cA : Nat → ClassId) {M M' : MM} {k : Nat} {e : va_E} (he : ce ad cA M' k = e) (h1 : ∀ a : Nat, a ≠ k → M.1 a = M'.1 a) (h2 : ∀ a : Nat, a ≠ k → M.2 a = M'.2 a) : (wl ad cA M).set k (ad k, e) = wl ad cA M' := by
  apply List.ext_getElem?
  intro i
  by_cases hi : i < NPl
  · rw [wl_at ad cA M' hi]
    by_cases e1 : k = i
    · subst e1
      rw [List.getElem?_set_self (by simpa [wl] using hi), he]
    · rw [List.getElem?_set_ne e1, wl_at ad cA M hi, ce_congr ad cA (h1 i (fun q => e1 q.symm)) (h2 i (fun q => e1 q.symm))]
  · rw [List.getElem?_eq_none (by simp [wl]; omega), List.getElem?_eq_none (by simp [wl]; omega)]
theorem wl_D {A : Nat → Prop} {ad : Nat → Nat} {cA : Nat → ClassId} {M : MM} (M' : MM) (h : va_D A (wl ad cA M)) : va_D A (wl ad cA M') := by
  have key : ∀ (i : Nat) (p : Nat × va_E), (wl ad cA M')[i]? = some p → ∃ p' : Nat × va_E, (wl ad cA M)[i]? = some p' ∧ p'.1 = p.1 := by
    intro i p hp
    by_cases hi : i < NPl
    · rw [wl_at ad cA M' hi] at hp
      cases hp
      exact ⟨_, wl_at ad cA M hi, rfl⟩
    · rw [List.getElem?_eq_none (by simp [wl]; omega)] at hp
      cases hp
  refine ⟨fun i j p q hp hq hpq => ?_, fun i p hp => ?_⟩
  · obtain ⟨p', a1, a2⟩ := key i p hp
    obtain ⟨q', b1, b2⟩ := key j q hq
    exact h.1 i j p' q' a1 b1 (by rw [a2, b2, hpq])
  · obtain ⟨p', a1, a2⟩ := key i p hp
    rw [← a2]
    exact h.2 i p' a1
def tyL (cA : Nat → ClassId) : List (ClassId × FieldType) := [(cA 0, .int), (cA 1, .boolean), (cA 2, .array .int)]
def inW (ad : Nat → Nat) : Nat → Prop := fun q => ∃ k : Nat, k < NPl ∧ q = ad k
theorem inW_D {ad : Nat → Nat} {cA : Nat → ClassId} {M : MM} {A : Nat → Prop} (h : va_D A (wl ad cA M)) : ∀ q : Nat, inW ad q → A q := by
  rintro q ⟨k, hk, rfl⟩
  exact h.2 k _ (wl_at ad cA M hk)
theorem D_inW {ad : Nat → Nat} {cA : Nat → ClassId} {M : MM} {A : Nat → Prop} (h : va_D A (wl ad cA M)) : va_D (inW ad) (wl ad cA M) := by
  refine ⟨h.1, fun k q hq => ?_⟩
  by_cases hi : k < NPl
  · rw [wl_at ad cA M hi] at hq
    cases hq
    exact ⟨k, hi, rfl⟩
  · rw [List.getElem?_eq_none (by simp [wl]; omega)] at hq
    cases hq
/-! the tables' words: those that stay, and those of nest mates -/
def TB : List Cond := lw_tbl.filter goodWord
def isNest : Cond → Bool
  | .fieldLinkNest .. => true
  | .methodLinkNest .. => true
  | _ => false
def NB : List Cond := lw_tbl.filter isNest
theorem tb_of {w : Cond} (i : Nat) (h : lw_tbl[i]? = some w) (hg : goodWord w = true) : w ∈ TB := List.mem_filter.mpr ⟨List.mem_of_getElem? h, hg⟩
theorem nb_of {w : Cond} (i : Nat) (h : lw_tbl[i]? = some w) (hg : isNest w = true) : w ∈ NB := List.mem_filter.mpr ⟨List.mem_of_getElem? h, hg⟩
theorem tb_good {w : Cond} (h : w ∈ TB) : goodWord w = true := (List.mem_filter.mp h).2
theorem goodIn_tb {ws : List Cond} (h : ∀ w ∈ ws, w ∈ TB) : GoodIn TB ws := fun w hw => ⟨h w hw, good_of_word (tb_good (h w hw))⟩
theorem nb_warm {s U : State} (hW : s.WarmedH U.vm) (h : ∀ w ∈ NB, va_Nw w s) : ∀ w ∈ NB, va_Nw w U := by
  intro w hw
  have hn := (List.mem_filter.mp hw).2
  have hs := h w hw
  cases w <;> first | (exact va_Nw.warmF hW hs) | (exact va_Nw.warmM hW hs) | (simp [isNest] at hn)
theorem nb_same {u U : State} (hvm : u.vm = U.vm) (h : ∀ w ∈ NB, va_Nw w u) : ∀ w ∈ NB, va_Nw w U := by
  intro w hw
  have hn := (List.mem_filter.mp hw).2
  have hs := h w hw
  cases w <;> first | (exact va_Nw.same rfl hvm hs) | (simp [isNest] at hn)
/-! contexts -/
abbrev WC : Type := Launch × (Nat → Nat) × va_G × (Nat → ClassId)
abbrev FC : Type := Program × Env × Room × State × MethodId × Array Value × List Frame × Method × Code × (State → Prop) × (Nat → Prop) × Nat × Nat
abbrev GC : Type := WC × FC
abbrev gad (G : GC) : Nat → Nat := G.1.2.1
abbrev gD (G : GC) : va_G := G.1.2.2.1
abbrev gcA (G : GC) : Nat → ClassId := G.1.2.2.2
abbrev gp (G : GC) : Program := G.2.1
abbrev ge (G : GC) : Env := G.2.2.1
abbrev gR (G : GC) : Room := G.2.2.2.1
abbrev gs (G : GC) : State := G.2.2.2.2.1
abbrev gm (G : GC) : MethodId := G.2.2.2.2.2.1
abbrev gargs (G : GC) : Array Value := G.2.2.2.2.2.2.1
abbrev gbelow (G : GC) : List Frame := G.2.2.2.2.2.2.2.1
abbrev gmeth (G : GC) : Method := G.2.2.2.2.2.2.2.2.1
abbrev gc (G : GC) : Code := G.2.2.2.2.2.2.2.2.2.1
abbrev gQ (G : GC) : State → Prop := G.2.2.2.2.2.2.2.2.2.2.1
abbrev gA (G : GC) : Nat → Prop := G.2.2.2.2.2.2.2.2.2.2.2.1
abbrev gcl (G : GC) : Nat := G.2.2.2.2.2.2.2.2.2.2.2.2.1
abbrev gsl (G : GC) : Nat := G.2.2.2.2.2.2.2.2.2.2.2.2.2
def cv (ad : Nat → Nat) : Value → Value
  | .ref k => .ref (ad k)
  | v => v
theorem cv_cat (ad : Nat → Nat) (v : Value) : (cv ad v).category = v.category := by cases v <;> rfl
def cvL (ad : Nat → Nat) (L : List (Nat × Value)) : List (Nat × Value) := L.map (fun q => (q.1, cv ad q.2))
theorem cvL_at {ad : Nat → Nat} {L : List (Nat × Value)} {j i : Nat} {v : Value} (h : L[j]? = some (i, v)) : (cvL ad L)[j]? = some (i, cv ad v) := by simp [cvL, h]
abbrev MI : Type := MethodName × ByteArray × Nat × Option FieldType
/-- the walk from a place of a method's code, over a memory -/
def Ev (G : GC) (pc : Nat) (L : List (Nat × Value)) (S : List Value) (M : MM) : Prop :=
  ∀ (H : Heap) (locs : List Loc) (ls : Array Slot), va_P (gD G) vwCl (wl (gad G) (gcA G) M) H → va_S (gA G) (gs G).heap H locs → lv_has ls (gc G).maxLocals (cvL (gad G) L) →
    W (gp G) G.1.1 (ge G) (gR G) (gs G) (gm G) (gargs G) (gbelow G) (gmeth G) (gc G) H locs (gcl G) (gsl G) (gQ G) (F0 (gm G) pc ls (S.map (cv (gad G))))
def M0 : MM := (fun _ _ => 0, fun _ _ => 0)
def Good (G : GC) (X : MI) (n : Nat) : Prop :=
  (gp G).tables.exec = Jvm.exec ∧ (gc G).code = X.2.1 ∧ (gc G).maxLocals = X.2.2.1 ∧ (gs G).vm.findClass X.1.cls = some (gm G).cls ∧ (∀ w ∈ TB, w.before (gargs G) (gs G) = true) ∧ (∀ w ∈ NB, va_Nw w (gs G)) ∧ (gmeth G).sig.returnType = X.2.2.2 ∧ (gmeth G).locks = false ∧
  va_K (gD G) vwCl (tyL (gcA G)) (gs G) ∧ va_D (gA G) (wl (gad G) (gcA G) M0) ∧ gcl G ≤ (gR G).cells ∧ gsl G ≤ (gR G).slots ∧ n ≤ (gR G).frames ∧ 100 * n ≤ (gR G).locals
theorem Good.x {G : GC} {X : MI} {n : Nat} (g : Good G X n) : (gp G).tables.exec = Jvm.exec := g.1
theorem Good.b {G : GC} {X : MI} {n : Nat} (g : Good G X n) : (gc G).code = X.2.1 := g.2.1
theorem Good.ml {G : GC} {X : MI} {n : Nat} (g : Good G X n) : (gc G).maxLocals = X.2.2.1 := g.2.2.1
theorem Good.own {G : GC} {X : MI} {n : Nat} (g : Good G X n) : (gs G).vm.findClass X.1.cls = some (gm G).cls := g.2.2.2.1
theorem Good.ts {G : GC} {X : MI} {n : Nat} (g : Good G X n) : ∀ w ∈ TB, w.before (gargs G) (gs G) = true := g.2.2.2.2.1
theorem Good.nb {G : GC} {X : MI} {n : Nat} (g : Good G X n) : ∀ w ∈ NB, va_Nw w (gs G) := g.2.2.2.2.2.1
theorem Good.r {G : GC} {X : MI} {n : Nat} (g : Good G X n) : (gmeth G).sig.returnType = X.2.2.2 := g.2.2.2.2.2.2.1
theorem Good.lk {G : GC} {X : MI} {n : Nat} (g : Good G X n) : (gmeth G).locks = false := g.2.2.2.2.2.2.2.1
theorem Good.K {G : GC} {X : MI} {n : Nat} (g : Good G X n) : va_K (gD G) vwCl (tyL (gcA G)) (gs G) := g.2.2.2.2.2.2.2.2.1
theorem Good.D {G : GC} {X : MI} {n : Nat} (g : Good G X n) (M : MM) : va_D (gA G) (wl (gad G) (gcA G) M) := wl_D M g.2.2.2.2.2.2.2.2.2.1
theorem Good.rc {G : GC} {X : MI} {n : Nat} (g : Good G X n) : gcl G ≤ (gR G).cells := g.2.2.2.2.2.2.2.2.2.2.1
theorem Good.rs {G : GC} {X : MI} {n : Nat} (g : Good G X n) : gsl G ≤ (gR G).slots := g.2.2.2.2.2.2.2.2.2.2.2.1
theorem Good.rf {G : GC} {X : MI} {n : Nat} (g : Good G X n) : n ≤ (gR G).frames := g.2.2.2.2.2.2.2.2.2.2.2.2.1
theorem Good.rl {G : GC} {X : MI} {n : Nat} (g : Good G X n) : 100 * n ≤ (gR G).locals := g.2.2.2.2.2.2.2.2.2.2.2.2.2
/-! contracts -/
def wsM (X : MI) : List Cond := .code X.1 X.2.1 X.2.2.1 X.2.2.2 :: TB
def rmM (n : Nat) : Room := { frames := n, cells := 0, slots := 0, locals := 100 * n }
def FP (w : WC) (M : MM) (U : State) : Prop := va_P w.2.2.1 vwCl (wl w.2.1 w.2.2.2 M) U.heap ∧ va_K w.2.2.1 vwCl (tyL w.2.2.2) U ∧ (∀ x ∈ NB, va_Nw x U) ∧ va_D (fun _ => True) (wl w.2.1 w.2.2.2 M)
def FQ (w : WC) (r : Option Value) (M' : MM) : Array Value → State → Outcome → State → Prop := fun _ st oc t => (oc = .returned (r.map (cv w.2.1)) ∧ va_P w.2.2.1 vwCl (wl w.2.1 w.2.2.2 M') t.heap) ∧ va_F (inW w.2.1) st t
/-- a method's contract: at these arguments and this memory it answers r and leaves the memory M' -/
def Fn (n : Nat) (X : MI) (as : List Value) (M : MM) (r : Option Value) (M' : MM) : Prop :=
  ∀ w : WC, Met w.1 X.1 (wsM X) (rmM n) (va_Pc (as.map (cv w.2.1)) (FP w M)) (FQ w r M') 0 0 (inW w.2.1)
def MOk (X : MI) : Prop := plainFor X.1 = true ∧ Cond.code X.1 X.2.1 X.2.2.1 X.2.2.2 ∈ TB ∧ Cond.initialized X.1.cls ∈ TB ∧ (X.1.cls ≠ "java/lang/invoke/MethodHandle" ∧ X.1.cls ≠ "java/lang/invoke/VarHandle") ∧ X.2.2.1 ≤ 80
def GoodR (G : GC) (r : Option Value) (M' : MM) : Prop := gQ G = MQ (gbelow G) (FQ G.1 r M') (gargs G) (gs G) (gcl G) (gsl G) (inW (gad G)) ∧ gA G = inW (gad G)
theorem lv_args_cv (ad : Nat → Nat) : ∀ (as : List Value) (i : Nat), lv_args i (as.map (cv ad)) = cvL ad (lv_args i as)
  | [], _ => rfl
  | v :: vs, i => by
    have h := lv_args_cv ad vs (if v.category = 2 then i + 2 else i + 1)
    simp only [List.map_cons, lv_args, cv_cat, cvL] at h ⊢
    rw [h]
theorem lg_sl_cv (ad : Nat → Nat) : ∀ (as : List Value), (lg_sl (as.map (cv ad))).length = (lg_sl as).length
  | [] => rfl
  | v :: vs => by
    have h := lg_sl_cv ad vs
    have h1 : ∀ v : Value, (lg_sl (v :: vs)).length = (lg_sl vs).length + v.category := fun v => by cases v <;> simp [lg_sl, Value.category] <;> rfl
    have h2 : (lg_sl ((cv ad v) :: vs.map (cv ad))).length = (lg_sl (vs.map (cv ad))).length + (cv ad v).category := by cases v <;> simp [lg_sl, cv, Value.category] <;> rfl
    show (lg_sl (cv ad v :: vs.map (cv ad))).length = _
    rw [h2, h1, h, cv_cat]
theorem Met.ofWF {l : Launch} {y : MethodName} {ws ws' : List Cond} {rm : Room} {Pc : Array Value → State → Prop} {Qc : Array Value → State → Outcome → State → Prop} {mc ms : Nat} {free : Addr → Prop} {cc : ByteArray} {maxL : Nat} {ret : Option FieldType}
    (hy : plainFor y = true) (hw : ws = Cond.code y cc maxL ret :: ws')
    (body : ∀ p e s m args below meth c s₁, BodyLoose p l y (headSpec ws rm) cc maxL ret e s m args below meth c s₁ → c.maxLocals = maxL → Pc args s →
      W p l e (headSpec ws rm).room s m args below meth c s.heap [] 0 0 (MQ below Qc args s mc ms free) (entryFrame m args maxL)) : Met l y ws rm Pc Qc mc ms free := by
  refine MetFree.of_bodySF (code := cc) (maxLocals := maxL) (ret := ret) hy ?_ ?_
  · intro args s m h hn
    obtain ⟨meth, c, h1, h2, h3, h4, h5, h6, -, -⟩ := Cond.code_spec hn (atoms_spec (ws := ws) h _ (by rw [hw]; exact List.mem_cons_self))
    exact ⟨meth, c, h1, h2, h3, h4, h5, h6⟩
  · intro p e s m args below meth c s₁ B hml hP _
    have hh0 : s₁.heap = s.heap := by rw [B.state]; rfl
    obtain ⟨t, a1, o, b1, b2, b3⟩ := body p e s m args below meth c s₁ B hml hP s₁ hh0 (Stand.of_body B)
    exact ⟨t, o, a1, b1, b2, ⟨b3.1, b3.2⟩⟩
end
section
section EV
variable {G : GC} {X : MI} {n : Nat} {pc : Nat} {L : List (Nat × Value)} {S : List Value} {M : MM}
theorem lv_atc {ad : Nat → Nat} {ls : Array Slot} {nL : Nat} {L : List (Nat × Value)} (h : lv_has ls nL (cvL ad L)) (j : Nat) {i : Nat} {v : Value} (hj : L[j]? = some (i, v)) : ls[i]? = some (.val (cv ad v)) := lv_at h j (cvL_at hj)
def stL (L : List (Nat × Value)) (i : Nat) (v : Value) : List (Nat × Value) := L.filter (fun q => decide (q.1 < i) && !(q.1 + 1 == i && q.2.category == 2)) ++ (i, v) :: L.filter (fun q => decide (i < q.1))
def stL2 (L : List (Nat × Value)) (i : Nat) (v : Value) : List (Nat × Value) := L.filter (fun q => decide (q.1 < i) && !(q.1 + 1 == i && q.2.category == 2)) ++ (i, v) :: L.filter (fun q => decide (i + 1 < q.1))
theorem st_has {ad : Nat → Nat} {ls : Array Slot} {nL i : Nat} {v : Value} {L : List (Nat × Value)} (h : lv_has ls nL ((i, cv ad v) :: (cvL ad L).filter (fun q => !(q.1 == i) && !(q.1 + 1 == i && q.2.category == 2)))) : lv_has ls nL (cvL ad (stL L i v)) := by
  refine ⟨h.1, h.2.1, fun q hq => h.2.2 q ?_⟩
  obtain ⟨q0, h0, rfl⟩ := List.mem_map.mp hq
  rcases List.mem_append.mp h0 with h1 | h1
  · obtain ⟨a, b⟩ := List.mem_filter.mp h1
    refine List.mem_cons_of_mem _ (List.mem_filter.mpr ⟨List.mem_map.mpr ⟨q0, a, rfl⟩, ?_⟩)
    simp only [Bool.and_eq_true, decide_eq_true_eq, cv_cat] at b ⊢
    refine ⟨?_, b.2⟩
    have := b.1
    simp; omega
  · rcases List.mem_cons.mp h1 with rfl | h2
    · exact List.mem_cons_self
    · obtain ⟨a, b⟩ := List.mem_filter.mp h2
      refine List.mem_cons_of_mem _ (List.mem_filter.mpr ⟨List.mem_map.mpr ⟨q0, a, rfl⟩, ?_⟩)
      simp only [decide_eq_true_eq] at b
      simp only [Bool.and_eq_true, cv_cat]
      refine ⟨by simp; omega, ?_⟩
      have : ¬ q0.1 + 1 = i := by omega
      simp [this]
theorem st_has2 {ad : Nat → Nat} {ls : Array Slot} {nL i : Nat} {v : Value} {L : List (Nat × Value)} (h : lv_has ls nL ((i, cv ad v) :: (cvL ad L).filter (fun q => !(q.1 == i) && (!(q.1 == i + 1) && !(q.1 + 1 == i && q.2.category == 2))))) : lv_has ls nL (cvL ad (stL2 L i v)) := by
  refine ⟨h.1, h.2.1, fun q hq => h.2.2 q ?_⟩
  obtain ⟨q0, h0, rfl⟩ := List.mem_map.mp hq
  rcases List.mem_append.mp h0 with h1 | h1
  · obtain ⟨a, b⟩ := List.mem_filter.mp h1
    refine List.mem_cons_of_mem _ (List.mem_filter.mpr ⟨List.mem_map.mpr ⟨q0, a, rfl⟩, ?_⟩)
    simp only [Bool.and_eq_true, decide_eq_true_eq, cv_cat] at b ⊢
    refine ⟨?_, ?_, b.2⟩
    · have := b.1
      simp; omega
    · have := b.1
      simp; omega
  · rcases List.mem_cons.mp h1 with rfl | h2
    · exact List.mem_cons_self
    · obtain ⟨a, b⟩ := List.mem_filter.mp h2
      refine List.mem_cons_of_mem _ (List.mem_filter.mpr ⟨List.mem_map.mpr ⟨q0, a, rfl⟩, ?_⟩)
      simp only [decide_eq_true_eq] at b
      simp only [Bool.and_eq_true, cv_cat]
      refine ⟨by simp; omega, by simp; omega, ?_⟩
      have : ¬ q0.1 + 1 = i := by omega
      simp [this]
/-- fewer locals -/
theorem e_sub (L' : List (Nat × Value)) (ks : List Nat) (hL : lv_pick L ks = L') (k : Ev G pc L' S M) : Ev G pc L S M := fun H locs ls hP hS hl => k H locs ls hP hS (by
  refine ⟨hl.1, hl.2.1, fun q hq => hl.2.2 q ?_⟩
  obtain ⟨q0, h0, rfl⟩ := List.mem_map.mp hq
  rw [← hL] at h0
  obtain ⟨i, -, hi⟩ := List.mem_filterMap.mp h0
  exact List.mem_map.mpr ⟨q0, List.mem_of_getElem? hi, rfl⟩)
theorem e_to {L' : List (Nat × Value)} {S' : List Value} {M' : MM} (hL : L = L') (hS : S = S') (hM : M = M') (k : Ev G pc L' S' M') : Ev G pc L S M := by
  subst hL; subst hS; subst hM; exact k

theorem e_iconst (g : Good G X n) {z : Int} (v : Int32) (d : decode X.2.1 pc = .ok (.iconst z, 1)) (hv : Int32.ofInt z = v) (k : Ev G (pc + 1) L (.int v :: S) M) : Ev G pc L (S) M := fun H locs ls hP hS hl => lv_iconst g.x g.b d hv (k H locs ls hP hS hl)
theorem e_bipush (g : Good G X n) {z : Int} (v : Int32) (d : decode X.2.1 pc = .ok (.bipush z, 2)) (hv : (Int8.ofInt z).toInt32 = v) (k : Ev G (pc + 2) L (.int v :: S) M) : Ev G pc L (S) M := fun H locs ls hP hS hl => lv_bipush g.x g.b d hv (k H locs ls hP hS hl)
theorem e_sipush (g : Good G X n) {z : Int} (v : Int32) (d : decode X.2.1 pc = .ok (.sipush z, 3)) (hv : (Int16.ofInt z).toInt32 = v) (k : Ev G (pc + 3) L (.int v :: S) M) : Ev G pc L (S) M := fun H locs ls hP hS hl => lv_sipush g.x g.b d hv (k H locs ls hP hS hl)
theorem e_lconst (g : Good G X n) {z : Fin 2} (v : Int64) (d : decode X.2.1 pc = .ok (.lconst z, 1)) (hv : Int64.ofNat (z : Nat) = v) (k : Ev G (pc + 1) L (.long v :: S) M) : Ev G pc L (S) M := fun H locs ls hP hS hl => lv_lconst g.x g.b d hv (k H locs ls hP hS hl)
theorem e_iload_n (g : Good G X n) {z : Fin 4} (j : Nat) {x : Int32} (d : decode X.2.1 pc = .ok (.iload_n z, 1)) (h : L[j]? = some ((z : Nat), .int x)) (k : Ev G (pc + 1) L (.int x :: S) M) : Ev G pc L S M := fun H locs ls hP hS hl => lv_iload_n g.x g.b d rfl (lv_atc hl j h) (k H locs ls hP hS hl)
theorem e_iload (g : Good G X n) {z : Nat} (j : Nat) {x : Int32} (d : decode X.2.1 pc = .ok (.iload z, 2)) (h : L[j]? = some (z, .int x)) (k : Ev G (pc + 2) L (.int x :: S) M) : Ev G pc L S M := fun H locs ls hP hS hl => lv_iload g.x g.b d (lv_atc hl j h) (k H locs ls hP hS hl)
theorem e_istore_n (g : Good G X n) {z : Fin 4} {x : Int32} (L' : List (Nat × Value)) (d : decode X.2.1 pc = .ok (.istore_n z, 1)) (hz : ((z : Nat) : Nat) < X.2.2.1) (hL : stL L (z : Nat) (.int x) = L') (k : Ev G (pc + 1) L' S M) : Ev G pc L (.int x :: S) M := fun H locs ls hP hS hl => lv_istore_n (lv' := _) g.x g.b d rfl hl (by rw [g.ml]; exact hz) rfl (fun ls1 h1 => k H locs ls1 hP hS (by rw [← hL]; exact st_has (v := .int x) h1))
theorem e_istore (g : Good G X n) {z : Nat} {x : Int32} (L' : List (Nat × Value)) (d : decode X.2.1 pc = .ok (.istore z, 2)) (hz : z < X.2.2.1) (hL : stL L z (.int x) = L') (k : Ev G (pc + 2) L' S M) : Ev G pc L (.int x :: S) M := fun H locs ls hP hS hl => lv_istore (lv' := _) g.x g.b d hl (by rw [g.ml]; exact hz) rfl (fun ls1 h1 => k H locs ls1 hP hS (by rw [← hL]; exact st_has (v := .int x) h1))
theorem e_lload_n (g : Good G X n) {z : Fin 4} (j : Nat) {x : Int64} (d : decode X.2.1 pc = .ok (.lload_n z, 1)) (h : L[j]? = some ((z : Nat), .long x)) (k : Ev G (pc + 1) L (.long x :: S) M) : Ev G pc L S M := fun H locs ls hP hS hl => lv_lload_n g.x g.b d rfl (lv_atc hl j h) (k H locs ls hP hS hl)
theorem e_lload (g : Good G X n) {z : Nat} (j : Nat) {x : Int64} (d : decode X.2.1 pc = .ok (.lload z, 2)) (h : L[j]? = some (z, .long x)) (k : Ev G (pc + 2) L (.long x :: S) M) : Ev G pc L S M := fun H locs ls hP hS hl => lv_lload g.x g.b d (lv_atc hl j h) (k H locs ls hP hS hl)
theorem e_lstore_n (g : Good G X n) {z : Fin 4} {x : Int64} (L' : List (Nat × Value)) (d : decode X.2.1 pc = .ok (.lstore_n z, 1)) (hz : ((z : Nat) + 1 : Nat) < X.2.2.1) (hL : stL2 L (z : Nat) (.long x) = L') (k : Ev G (pc + 1) L' S M) : Ev G pc L (.long x :: S) M := fun H locs ls hP hS hl => lv_lstore_n (lv' := _) g.x g.b d rfl hl (by rw [g.ml]; exact hz) rfl (fun ls1 h1 => k H locs ls1 hP hS (by rw [← hL]; exact st_has2 (v := .long x) h1))
theorem e_lstore (g : Good G X n) {z : Nat} {x : Int64} (L' : List (Nat × Value)) (d : decode X.2.1 pc = .ok (.lstore z, 2)) (hz : z + 1 < X.2.2.1) (hL : stL2 L z (.long x) = L') (k : Ev G (pc + 2) L' S M) : Ev G pc L (.long x :: S) M := fun H locs ls hP hS hl => lv_lstore (lv' := _) g.x g.b d hl (by rw [g.ml]; exact hz) rfl (fun ls1 h1 => k H locs ls1 hP hS (by rw [← hL]; exact st_has2 (v := .long x) h1))
theorem e_aload_n (g : Good G X n) {z : Fin 4} (j : Nat) {x : Nat} (d : decode X.2.1 pc = .ok (.aload_n z, 1)) (h : L[j]? = some ((z : Nat), .ref x)) (k : Ev G (pc + 1) L (.ref x :: S) M) : Ev G pc L S M := fun H locs ls hP hS hl => lv_aload_n g.x g.b d rfl (lv_atc hl j h) (k H locs ls hP hS hl)
theorem e_aload (g : Good G X n) {z : Nat} (j : Nat) {x : Nat} (d : decode X.2.1 pc = .ok (.aload z, 2)) (h : L[j]? = some (z, .ref x)) (k : Ev G (pc + 2) L (.ref x :: S) M) : Ev G pc L S M := fun H locs ls hP hS hl => lv_aload g.x g.b d (lv_atc hl j h) (k H locs ls hP hS hl)
theorem e_astore_n (g : Good G X n) {z : Fin 4} {x : Nat} (L' : List (Nat × Value)) (d : decode X.2.1 pc = .ok (.astore_n z, 1)) (hz : ((z : Nat) : Nat) < X.2.2.1) (hL : stL L (z : Nat) (.ref x) = L') (k : Ev G (pc + 1) L' S M) : Ev G pc L (.ref x :: S) M := fun H locs ls hP hS hl => lv_astore_n (lv' := _) g.x g.b d rfl hl (by rw [g.ml]; exact hz) rfl (fun ls1 h1 => k H locs ls1 hP hS (by rw [← hL]; exact st_has (v := .ref x) h1))
theorem e_astore (g : Good G X n) {z : Nat} {x : Nat} (L' : List (Nat × Value)) (d : decode X.2.1 pc = .ok (.astore z, 2)) (hz : z < X.2.2.1) (hL : stL L z (.ref x) = L') (k : Ev G (pc + 2) L' S M) : Ev G pc L (.ref x :: S) M := fun H locs ls hP hS hl => lv_astore (lv' := _) g.x g.b d hl (by rw [g.ml]; exact hz) rfl (fun ls1 h1 => k H locs ls1 hP hS (by rw [← hL]; exact st_has (v := .ref x) h1))
theorem e_iinc (g : Good G X n) {z : Nat} {dz : Int} (j : Nat) {x : Int32} (v : Int32) (L' : List (Nat × Value)) (d : decode X.2.1 pc = .ok (.iinc z dz, 3)) (h : L[j]? = some (z, .int x)) (hv : x + Int32.ofInt dz = v) (hz : z < X.2.2.1) (hL : stL L z (.int v) = L') (k : Ev G (pc + 3) L' S M) : Ev G pc L S M := fun H locs ls hP hS hl => lv_iinc (lv' := _) (k := j) g.x g.b d hl (cvL_at (v := .int x) h) hv (by rw [g.ml]; exact hz) rfl (fun ls1 h1 => k H locs ls1 hP hS (by rw [← hL]; exact st_has (v := .int v) h1))
theorem e_iadd (g : Good G X n) {x y : Int32} (d : decode X.2.1 pc = .ok (.iadd, 1)) (k : Ev G (pc + 1) L (.int (x + y) :: S) M) : Ev G pc L (.int y :: .int x :: S) M := fun H locs ls hP hS hl => lv_iadd g.x g.b d (k H locs ls hP hS hl)
theorem e_isub (g : Good G X n) {x y : Int32} (d : decode X.2.1 pc = .ok (.isub, 1)) (k : Ev G (pc + 1) L (.int (x - y) :: S) M) : Ev G pc L (.int y :: .int x :: S) M := fun H locs ls hP hS hl => lv_isub g.x g.b d (k H locs ls hP hS hl)
theorem e_imul (g : Good G X n) {x y : Int32} (d : decode X.2.1 pc = .ok (.imul, 1)) (k : Ev G (pc + 1) L (.int (x * y) :: S) M) : Ev G pc L (.int y :: .int x :: S) M := fun H locs ls hP hS hl => lv_imul g.x g.b d (k H locs ls hP hS hl)
theorem e_iand (g : Good G X n) {x y : Int32} (d : decode X.2.1 pc = .ok (.iand, 1)) (k : Ev G (pc + 1) L (.int (x &&& y) :: S) M) : Ev G pc L (.int y :: .int x :: S) M := fun H locs ls hP hS hl => lv_iand g.x g.b d (k H locs ls hP hS hl)
theorem e_ior (g : Good G X n) {x y : Int32} (d : decode X.2.1 pc = .ok (.ior, 1)) (k : Ev G (pc + 1) L (.int (x ||| y) :: S) M) : Ev G pc L (.int y :: .int x :: S) M := fun H locs ls hP hS hl => lv_ior g.x g.b d (k H locs ls hP hS hl)
theorem e_ixor (g : Good G X n) {x y : Int32} (d : decode X.2.1 pc = .ok (.ixor, 1)) (k : Ev G (pc + 1) L (.int (x ^^^ y) :: S) M) : Ev G pc L (.int y :: .int x :: S) M := fun H locs ls hP hS hl => lv_ixor g.x g.b d (k H locs ls hP hS hl)
theorem e_ishl (g : Good G X n) {x y : Int32} (d : decode X.2.1 pc = .ok (.ishl, 1)) (k : Ev G (pc + 1) L (.int (x <<< (y &&& 31)) :: S) M) : Ev G pc L (.int y :: .int x :: S) M := fun H locs ls hP hS hl => lv_ishl g.x g.b d (k H locs ls hP hS hl)
theorem e_ishr (g : Good G X n) {x y : Int32} (d : decode X.2.1 pc = .ok (.ishr, 1)) (k : Ev G (pc + 1) L (.int (x >>> (y &&& 31)) :: S) M) : Ev G pc L (.int y :: .int x :: S) M := fun H locs ls hP hS hl => lv_ishr g.x g.b d (k H locs ls hP hS hl)
theorem e_idiv (g : Good G X n) {x y : Int32} (d : decode X.2.1 pc = .ok (.idiv, 1)) (hne : ¬ y = 0) (k : Ev G (pc + 1) L (.int (x / y) :: S) M) : Ev G pc L (.int y :: .int x :: S) M := fun H locs ls hP hS hl => lv_idiv g.x g.b d hne (k H locs ls hP hS hl)
theorem e_irem (g : Good G X n) {x y : Int32} (d : decode X.2.1 pc = .ok (.irem, 1)) (hne : ¬ y = 0) (k : Ev G (pc + 1) L (.int (x - x / y * y) :: S) M) : Ev G pc L (.int y :: .int x :: S) M := fun H locs ls hP hS hl => lv_irem g.x g.b d hne (k H locs ls hP hS hl)
theorem e_iushr (g : Good G X n) {x y : Int32} (d : decode X.2.1 pc = .ok (.iushr, 1)) (k : Ev G (pc + 1) L (.int ((x.toUInt32 >>> (y.toUInt32 &&& Int32.toUInt32 31)).toInt32) :: S) M) : Ev G pc L (.int y :: .int x :: S) M := fun H locs ls hP hS hl => lv_iushr g.x g.b d rfl (k H locs ls hP hS hl)
theorem e_ladd (g : Good G X n) {x y : Int64} (d : decode X.2.1 pc = .ok (.ladd, 1)) (k : Ev G (pc + 1) L (.long (x + y) :: S) M) : Ev G pc L (.long y :: .long x :: S) M := fun H locs ls hP hS hl => lv_ladd g.x g.b d (k H locs ls hP hS hl)
theorem e_lsub (g : Good G X n) {x y : Int64} (d : decode X.2.1 pc = .ok (.lsub, 1)) (k : Ev G (pc + 1) L (.long (x - y) :: S) M) : Ev G pc L (.long y :: .long x :: S) M := fun H locs ls hP hS hl => lv_lsub g.x g.b d (k H locs ls hP hS hl)
theorem e_lmul (g : Good G X n) {x y : Int64} (d : decode X.2.1 pc = .ok (.lmul, 1)) (k : Ev G (pc + 1) L (.long (x * y) :: S) M) : Ev G pc L (.long y :: .long x :: S) M := fun H locs ls hP hS hl => lv_lmul g.x g.b d (k H locs ls hP hS hl)
theorem e_ldiv (g : Good G X n) {x y : Int64} (d : decode X.2.1 pc = .ok (.ldiv, 1)) (hne : ¬ y = 0) (k : Ev G (pc + 1) L (.long (x / y) :: S) M) : Ev G pc L (.long y :: .long x :: S) M := fun H locs ls hP hS hl => lv_ldiv g.x g.b d hne (k H locs ls hP hS hl)
theorem e_lcmp (g : Good G X n) {x y : Int64} (d : decode X.2.1 pc = .ok (.lcmp, 1)) (k : Ev G (pc + 1) L (.int (lg_cmp x y) :: S) M) : Ev G pc L (.long y :: .long x :: S) M := fun H locs ls hP hS hl => W.lcmp g.x g.b d (k H locs ls hP hS hl)
theorem e_i2l (g : Good G X n) {x : Int32} (d : decode X.2.1 pc = .ok (.i2l, 1)) (k : Ev G (pc + 1) L (.long x.toInt64 :: S) M) : Ev G pc L (.int x :: S) M := fun H locs ls hP hS hl => lv_i2l g.x g.b d rfl (k H locs ls hP hS hl)
theorem e_l2i (g : Good G X n) {x : Int64} (d : decode X.2.1 pc = .ok (.l2i, 1)) (k : Ev G (pc + 1) L (.int x.toInt32 :: S) M) : Ev G pc L (.long x :: S) M := fun H locs ls hP hS hl => lv_l2i g.x g.b d rfl (k H locs ls hP hS hl)
theorem e_i2b (g : Good G X n) {x : Int32} (d : decode X.2.1 pc = .ok (.i2b, 1)) (k : Ev G (pc + 1) L (.int x.toInt8.toInt32 :: S) M) : Ev G pc L (.int x :: S) M := fun H locs ls hP hS hl => lv_i2b g.x g.b d rfl (k H locs ls hP hS hl)
theorem e_i2s (g : Good G X n) {x : Int32} (d : decode X.2.1 pc = .ok (.i2s, 1)) (k : Ev G (pc + 1) L (.int x.toInt16.toInt32 :: S) M) : Ev G pc L (.int x :: S) M := fun H locs ls hP hS hl => lv_i2s g.x g.b d rfl (k H locs ls hP hS hl)
theorem e_dup (g : Good G X n) {a : Value} (d : decode X.2.1 pc = .ok (.dup, 1)) (ha : a.category = 1) (k : Ev G (pc + 1) L (a :: a :: S) M) : Ev G pc L (a :: S) M := fun H locs ls hP hS hl => lv_dup g.x g.b d (by rw [cv_cat]; exact ha) (k H locs ls hP hS hl)
theorem e_pop (g : Good G X n) {a : Value} (d : decode X.2.1 pc = .ok (.pop, 1)) (ha : a.category = 1) (k : Ev G (pc + 1) L (S) M) : Ev G pc L (a :: S) M := fun H locs ls hP hS hl => lv_pop g.x g.b d (by rw [cv_cat]; exact ha) (k H locs ls hP hS hl)
theorem e_dup_x1 (g : Good G X n) {a b : Value} (d : decode X.2.1 pc = .ok (.dup_x1, 1)) (ha : a.category = 1) (hb : b.category = 1) (k : Ev G (pc + 1) L (a :: b :: a :: S) M) : Ev G pc L (a :: b :: S) M := fun H locs ls hP hS hl => lv_dup_x1 g.x g.b d (by rw [cv_cat]; exact ha) (by rw [cv_cat]; exact hb) (k H locs ls hP hS hl)
theorem e_dup2 (g : Good G X n) {a b : Value} (d : decode X.2.1 pc = .ok (.dup2, 1)) (ha : a.category = 1) (hb : b.category = 1) (k : Ev G (pc + 1) L (a :: b :: a :: b :: S) M) : Ev G pc L (a :: b :: S) M := fun H locs ls hP hS hl => lv_dup2_11 g.x g.b d (by rw [cv_cat]; exact ha) (by rw [cv_cat]; exact hb) (k H locs ls hP hS hl)
theorem e_if_eq (g : Good G X n) {x : Int32} {z : Int} (tgt : Nat) (d : decode X.2.1 pc = .ok (.ifCond .eq z, 3)) (ht : (pc : Int) + z = (tgt : Int)) (kt : x = 0 → Ev G tgt L S M) (kf : ¬ x = 0 → Ev G (pc + 3) L S M) : Ev G pc L (.int x :: S) M := fun H locs ls hP hS hl => lv_if_eq g.x g.b d ht (fun c => kt c H locs ls hP hS hl) (fun c => kf c H locs ls hP hS hl)
theorem e_icmp_eq (g : Good G X n) {x y : Int32} {z : Int} (tgt : Nat) (d : decode X.2.1 pc = .ok (.if_icmp .eq z, 3)) (ht : (pc : Int) + z = (tgt : Int)) (kt : x = y → Ev G tgt L S M) (kf : ¬ x = y → Ev G (pc + 3) L S M) : Ev G pc L (.int y :: .int x :: S) M := fun H locs ls hP hS hl => lv_icmp_eq g.x g.b d ht (fun c => kt c H locs ls hP hS hl) (fun c => kf c H locs ls hP hS hl)
theorem e_if_ne (g : Good G X n) {x : Int32} {z : Int} (tgt : Nat) (d : decode X.2.1 pc = .ok (.ifCond .ne z, 3)) (ht : (pc : Int) + z = (tgt : Int)) (kt : ¬ x = 0 → Ev G tgt L S M) (kf : x = 0 → Ev G (pc + 3) L S M) : Ev G pc L (.int x :: S) M := fun H locs ls hP hS hl => lv_if_ne g.x g.b d ht (fun c => kt c H locs ls hP hS hl) (fun c => kf c H locs ls hP hS hl)
theorem e_icmp_ne (g : Good G X n) {x y : Int32} {z : Int} (tgt : Nat) (d : decode X.2.1 pc = .ok (.if_icmp .ne z, 3)) (ht : (pc : Int) + z = (tgt : Int)) (kt : ¬ x = y → Ev G tgt L S M) (kf : x = y → Ev G (pc + 3) L S M) : Ev G pc L (.int y :: .int x :: S) M := fun H locs ls hP hS hl => lv_icmp_ne g.x g.b d ht (fun c => kt c H locs ls hP hS hl) (fun c => kf c H locs ls hP hS hl)
theorem e_if_lt (g : Good G X n) {x : Int32} {z : Int} (tgt : Nat) (d : decode X.2.1 pc = .ok (.ifCond .lt z, 3)) (ht : (pc : Int) + z = (tgt : Int)) (kt : x < 0 → Ev G tgt L S M) (kf : ¬ x < 0 → Ev G (pc + 3) L S M) : Ev G pc L (.int x :: S) M := fun H locs ls hP hS hl => lv_if_lt g.x g.b d ht (fun c => kt c H locs ls hP hS hl) (fun c => kf c H locs ls hP hS hl)
theorem e_icmp_lt (g : Good G X n) {x y : Int32} {z : Int} (tgt : Nat) (d : decode X.2.1 pc = .ok (.if_icmp .lt z, 3)) (ht : (pc : Int) + z = (tgt : Int)) (kt : x < y → Ev G tgt L S M) (kf : ¬ x < y → Ev G (pc + 3) L S M) : Ev G pc L (.int y :: .int x :: S) M := fun H locs ls hP hS hl => lv_icmp_lt g.x g.b d ht (fun c => kt c H locs ls hP hS hl) (fun c => kf c H locs ls hP hS hl)
theorem e_if_ge (g : Good G X n) {x : Int32} {z : Int} (tgt : Nat) (d : decode X.2.1 pc = .ok (.ifCond .ge z, 3)) (ht : (pc : Int) + z = (tgt : Int)) (kt : 0 ≤ x → Ev G tgt L S M) (kf : ¬ 0 ≤ x → Ev G (pc + 3) L S M) : Ev G pc L (.int x :: S) M := fun H locs ls hP hS hl => lv_if_ge g.x g.b d ht (fun c => kt c H locs ls hP hS hl) (fun c => kf c H locs ls hP hS hl)
theorem e_icmp_ge (g : Good G X n) {x y : Int32} {z : Int} (tgt : Nat) (d : decode X.2.1 pc = .ok (.if_icmp .ge z, 3)) (ht : (pc : Int) + z = (tgt : Int)) (kt : y ≤ x → Ev G tgt L S M) (kf : ¬ y ≤ x → Ev G (pc + 3) L S M) : Ev G pc L (.int y :: .int x :: S) M := fun H locs ls hP hS hl => lv_icmp_ge g.x g.b d ht (fun c => kt c H locs ls hP hS hl) (fun c => kf c H locs ls hP hS hl)
theorem e_if_gt (g : Good G X n) {x : Int32} {z : Int} (tgt : Nat) (d : decode X.2.1 pc = .ok (.ifCond .gt z, 3)) (ht : (pc : Int) + z = (tgt : Int)) (kt : 0 < x → Ev G tgt L S M) (kf : ¬ 0 < x → Ev G (pc + 3) L S M) : Ev G pc L (.int x :: S) M := fun H locs ls hP hS hl => lv_if_gt g.x g.b d ht (fun c => kt c H locs ls hP hS hl) (fun c => kf c H locs ls hP hS hl)
theorem e_icmp_gt (g : Good G X n) {x y : Int32} {z : Int} (tgt : Nat) (d : decode X.2.1 pc = .ok (.if_icmp .gt z, 3)) (ht : (pc : Int) + z = (tgt : Int)) (kt : y < x → Ev G tgt L S M) (kf : ¬ y < x → Ev G (pc + 3) L S M) : Ev G pc L (.int y :: .int x :: S) M := fun H locs ls hP hS hl => lv_icmp_gt g.x g.b d ht (fun c => kt c H locs ls hP hS hl) (fun c => kf c H locs ls hP hS hl)
theorem e_if_le (g : Good G X n) {x : Int32} {z : Int} (tgt : Nat) (d : decode X.2.1 pc = .ok (.ifCond .le z, 3)) (ht : (pc : Int) + z = (tgt : Int)) (kt : x ≤ 0 → Ev G tgt L S M) (kf : ¬ x ≤ 0 → Ev G (pc + 3) L S M) : Ev G pc L (.int x :: S) M := fun H locs ls hP hS hl => lv_if_le g.x g.b d ht (fun c => kt c H locs ls hP hS hl) (fun c => kf c H locs ls hP hS hl)
theorem e_icmp_le (g : Good G X n) {x y : Int32} {z : Int} (tgt : Nat) (d : decode X.2.1 pc = .ok (.if_icmp .le z, 3)) (ht : (pc : Int) + z = (tgt : Int)) (kt : x ≤ y → Ev G tgt L S M) (kf : ¬ x ≤ y → Ev G (pc + 3) L S M) : Ev G pc L (.int y :: .int x :: S) M := fun H locs ls hP hS hl => lv_icmp_le g.x g.b d ht (fun c => kt c H locs ls hP hS hl) (fun c => kf c H locs ls hP hS hl)
theorem e_goto (g : Good G X n) {z : Int} (tgt : Nat) (d : decode X.2.1 pc = .ok (.goto z, 3)) (ht : (pc : Int) + z = (tgt : Int)) (k : Ev G tgt L S M) : Ev G pc L S M := fun H locs ls hP hS hl => lv_goto g.x g.b d ht (k H locs ls hP hS hl)
theorem e_tabOut (g : Good G X n) {df lo hi : Int} {offs : Array Int} {len : Nat} {x : Int32} (tgt : Nat) (d : decode X.2.1 pc = .ok (.tableswitch df lo hi offs, len)) (h : x.toInt < lo ∨ hi < x.toInt) (ht : (pc : Int) + df = (tgt : Int)) (k : Ev G tgt L S M) : Ev G pc L (.int x :: S) M := fun H locs ls hP hS hl => lv_tableOut g.x g.b d h ht (k H locs ls hP hS hl)
theorem e_tabIn (g : Good G X n) {df lo hi : Int} {offs : Array Int} {len : Nat} {x : Int32} {off : Int} (tgt : Nat) (d : decode X.2.1 pc = .ok (.tableswitch df lo hi offs, len)) (h1 : ¬ x.toInt < lo) (h2 : ¬ hi < x.toInt) (ho : offs[(x.toInt - lo).toNat]? = some off) (ht : (pc : Int) + off = (tgt : Int)) (k : Ev G tgt L S M) : Ev G pc L (.int x :: S) M := fun H locs ls hP hS hl => lv_tableIn g.x g.b d h1 h2 ho ht (k H locs ls hP hS hl)
theorem e_ldc (g : Good G X n) {i : Nat} (v : Int32) (w : Cond.constant X.1.cls i v ∈ TB) (d : decode X.2.1 pc = .ok (.ldc i, 2)) (k : Ev G (pc + 2) L (.int v :: S) M) : Ev G pc L S M := fun H locs ls hP hS hl => lv_ldc g.x g.b g.own (g.ts _ w) d (k H locs ls hP hS hl)
theorem e_ldcw (g : Good G X n) {i : Nat} (v : Int32) (w : Cond.constant X.1.cls i v ∈ TB) (d : decode X.2.1 pc = .ok (.ldc_w i, 3)) (k : Ev G (pc + 3) L (.int v :: S) M) : Ev G pc L S M := fun H locs ls hP hS hl => lv_ldcw g.x g.b g.own (g.ts _ w) d (k H locs ls hP hS hl)
theorem e_ldc2 (g : Good G X n) {i : Nat} (v : Int64) (w : Cond.constantLong X.1.cls i v ∈ TB) (d : decode X.2.1 pc = .ok (.ldc2_w i, 3)) (k : Ev G (pc + 3) L (.long v :: S) M) : Ev G pc L S M := fun H locs ls hP hS hl => lv_ldc2 g.x g.b g.own (g.ts _ w) d (k H locs ls hP hS hl)
/-! fields -/
def CF (ci : Nat) (q : vw_C) : Prop := vwCl[ci]? = some q ∧ (∀ w ∈ u_ws q.1 q.2.1 q.2.2, w ∈ TB) ∧ (∃ ty0 : Nat → FieldType, ∀ k, k < q.2.2 → parseFieldDescriptor (q.2.1 k).2.2.1 = some (ty0 k)) ∧ (∀ a, a < q.2.2 → ∀ b, b < q.2.2 → a ≠ b → (q.2.1 a).2.1 ≠ (q.2.1 b).2.1)
/-- entry i of class own is field j of class ci (declared there) -/
def FL (own : String) (i ci j : Nat) : Prop := ∃ q : vw_C, CF ci q ∧ j < q.2.2 ∧ (q.2.1 j).1 = q.1 ∧ (Cond.fieldLink own i q.1 (q.2.1 j).2.1 (q.2.1 j).2.2.1 ∈ TB ∨ ∃ host : String, Cond.fieldLinkNest own i q.1 (q.2.1 j).2.1 (q.2.1 j).2.2.1 host ∈ NB)
def FW (own : String) (i ci j : Nat) (ty : FieldType) : Prop := FL own i ci j ∧ ∀ q : vw_C, vwCl[ci]? = some q → (q.2.1 j).2.2.2 = false ∧ parseFieldDescriptor (q.2.1 j).2.2.1 = some ty
theorem ce_obj {ad : Nat → Nat} {cA : Nat → ClassId} {M : MM} {k ci c0 : Nat} {fk : List Nat} (h : shp k = (0, ci, c0, fk)) : ce ad cA M k = .inr (ci, fvals ad M k 0 fk) := by simp [ce, h]
theorem ce_int {ad : Nat → Nat} {cA : Nat → ClassId} {M : MM} {k t N : Nat} {l : List Nat} (h : shp k = (1, t, N, l)) : ce ad cA M k = .inl (cA 0, N, .inl (M.1 k)) := by simp [ce, h]
theorem ce_bool {ad : Nat → Nat} {cA : Nat → ClassId} {M : MM} {k t N : Nat} {l : List Nat} (h : shp k = (2, t, N, l)) : ce ad cA M k = .inl (cA 1, N, .inl (M.1 k)) := by simp [ce, h]
theorem ce_refs {ad : Nat → Nat} {cA : Nat → ClassId} {M : MM} {k t N b : Nat} (h : shp k = (3, t, N, [b])) : ce ad cA M k = .inl (cA 2, N, .inr (.inr (.inr (.inr (fun j => if j < N then some (ad (b + j)) else none))))) := by simp [ce, h]
theorem e_get (g : Good G X n) {i k ci j c0 c : Nat} {fk : List Nat} (fl : FL X.1.cls i ci j) (hs : shp k = (0, ci, c0, fk)) (hj : fk[j]? = some c) (d : decode X.2.1 pc = .ok (.getfield i, 3)) (v : Value) (hv : ∀ ad : Nat → Nat, fval ad M k j c = cv ad v) (kk : Ev G (pc + 3) L (v :: S) M) : Ev G pc L (.ref k :: S) M := by
  intro H locs ls hP hS hl
  obtain ⟨q, ⟨hq, hin, -, -⟩, hlt, hdc, hk⟩ := fl
  have he := wl_at (gad G) (gcA G) M (shp_lt hs (by simp))
  rw [ce_obj hs] at he
  have hf : (fvals (gad G) M k 0 fk)[j]? = some (cv (gad G) v) := by
    have := fvals_get (gad G) M k fk 0 j c hj
    rw [Nat.zero_add, hv] at this
    exact this
  rcases hk with hk | ⟨host, hk⟩
  · exact va_get g.x g.b g.ts hin g.own g.K hP k he hq j hlt (g.ts _ hk) (fun x hx => by rw [hdc] at hx; exact hx) hf d (kk H locs ls hP hS hl)
  · exact va_getN g.x g.b g.ts hin g.own g.K hP k he hq j hlt (va_Nw.use rfl (g.nb _ hk)) (fun x hx => by rw [hdc] at hx; exact hx) hf d (kk H locs ls hP hS hl)
theorem e_getI (g : Good G X n) {i k ci j c0 : Nat} {fk : List Nat} (fl : FL X.1.cls i ci j) (hs : shp k = (0, ci, c0, fk)) (hj : fk[j]? = some 0) (d : decode X.2.1 pc = .ok (.getfield i, 3)) (kk : Ev G (pc + 3) L (.int (M.1 k j) :: S) M) : Ev G pc L (.ref k :: S) M := e_get g fl hs hj d (.int (M.1 k j)) (fun _ => rfl) kk
theorem e_getL (g : Good G X n) {i k ci j c0 : Nat} {fk : List Nat} (fl : FL X.1.cls i ci j) (hs : shp k = (0, ci, c0, fk)) (hj : fk[j]? = some 1) (d : decode X.2.1 pc = .ok (.getfield i, 3)) (kk : Ev G (pc + 3) L (.long (M.2 k j) :: S) M) : Ev G pc L (.ref k :: S) M := e_get g fl hs hj d (.long (M.2 k j)) (fun _ => rfl) kk
theorem e_getR (g : Good G X n) {i k ci j c0 : Nat} {fk : List Nat} (p : Nat) (fl : FL X.1.cls i ci j) (hs : shp k = (0, ci, c0, fk)) (hj : fk[j]? = some (p + 2)) (d : decode X.2.1 pc = .ok (.getfield i, 3)) (kk : Ev G (pc + 3) L (.ref p :: S) M) : Ev G pc L (.ref k :: S) M := e_get g fl hs hj d (.ref p) (fun ad => by simp [fval, cv]) kk
theorem ui_off {M : MM} {k j : Nat} {v : Int32} {a : Nat} (h : a ≠ k) : M.1 a = (ui M k j v).1 a := by funext b; simp [ui, h]
theorem ul_off {M : MM} {k j : Nat} {v : Int64} {a : Nat} (h : a ≠ k) : M.2 a = (ul M k j v).2 a := by funext b; simp [ul, h]
theorem e_put (g : Good G X n) {i k ci j c0 c : Nat} {fk : List Nat} {ty : FieldType} {v : Value} {M' : MM} (fw : FW X.1.cls i ci j ty) (hs : shp k = (0, ci, c0, fk)) (hj : fk[j]? = some c) (hn : narrow ty v = v) (hfit : fits ty v = true) (hv : ∀ ad : Nat → Nat, fval ad M' k j c = v) (hcv : ∀ ad : Nat → Nat, cv ad v = v)
    (h1 : ∀ a : Nat, a ≠ k → M.1 a = M'.1 a) (h2 : ∀ a : Nat, a ≠ k → M.2 a = M'.2 a) (h3 : ∀ a : Nat, a ≠ j → M.1 k a = M'.1 k a) (h4 : ∀ a : Nat, a ≠ j → M.2 k a = M'.2 k a) (d : decode X.2.1 pc = .ok (.putfield i, 3)) (kk : Ev G (pc + 3) L S M') : Ev G pc L (v :: .ref k :: S) M := by
  intro H locs ls hP hS hl
  obtain ⟨⟨q, ⟨hq, hin, ⟨ty0, hty⟩, hnm⟩, hlt, hdc, hk⟩, hw⟩ := fw
  obtain ⟨hfin, hd⟩ := hw q hq
  have he := wl_at (gad G) (gcA G) M (shp_lt hs (by simp))
  rw [ce_obj hs] at he
  have hlen : j < (fvals (gad G) M k 0 fk).length := by
    rw [fvals_len]
    exact (List.getElem?_eq_some_iff.mp hj).1
  have hset : (wl (gad G) (gcA G) M).set k (gad G k, .inr (ci, (fvals (gad G) M k 0 fk).set j v)) = wl (gad G) (gcA G) M' := by
    refine wl_set (gad G) (gcA G) ?_ h1 h2
    rw [ce_obj hs, fvals_set (gad G) v fk 0 j c hj (by rw [Nat.zero_add]; exact hv _) (by rw [Nat.zero_add]; exact h3) (by rw [Nat.zero_add]; exact h4)]
  have goal : ∀ (H1 : Heap) (locs1 : List Loc), va_P (gD G) vwCl ((wl (gad G) (gcA G) M).set k (gad G k, .inr (ci, (fvals (gad G) M k 0 fk).set j v))) H1 → va_D (gA G) ((wl (gad G) (gcA G) M).set k (gad G k, .inr (ci, (fvals (gad G) M k 0 fk).set j v))) → va_S (gA G) (gs G).heap H1 locs1 → W (gp G) G.1.1 (ge G) (gR G) (gs G) (gm G) (gargs G) (gbelow G) (gmeth G) (gc G) H1 locs1 (gcl G) (gsl G) (gQ G) (F0 (gm G) (pc + 3) ls (S.map (cv (gad G)))) := by
    intro H1 locs1 hP1 _ hS1
    rw [hset] at hP1
    exact kk H1 locs1 ls hP1 hS1 hl
  have e0 : (v :: .ref k :: S).map (cv (gad G)) = v :: .ref (gad G k) :: S.map (cv (gad G)) := by
    show cv (gad G) v :: _ = _
    rw [hcv]
    rfl
  rw [e0]
  rcases hk with hk | ⟨host, hk⟩
  · exact va_put g.x g.b g.ts hin ty0 hty hnm g.own g.K hP (g.D M) hS k he hq j hlt (g.ts _ hk) (fun x hx => by rw [hdc] at hx; exact hx) hfin hd hn hfit hlen d goal
  · exact va_putN g.x g.b g.ts hin ty0 hty hnm g.own g.K hP (g.D M) hS k he hq j hlt (va_Nw.use rfl (g.nb _ hk)) (fun x hx => by rw [hdc] at hx; exact hx) hfin hd hn hfit hlen d goal
theorem e_putI (g : Good G X n) {i k ci j c0 : Nat} {fk : List Nat} {v : Int32} (fw : FW X.1.cls i ci j .int) (hs : shp k = (0, ci, c0, fk)) (hj : fk[j]? = some 0) (d : decode X.2.1 pc = .ok (.putfield i, 3)) (kk : Ev G (pc + 3) L S (ui M k j v)) : Ev G pc L (.int v :: .ref k :: S) M :=
  e_put (M' := ui M k j v) g fw hs hj rfl rfl (fun _ => by simp [fval, ui]) (fun _ => rfl) (fun _ h => ui_off h) (fun _ _ => rfl) (fun a h => by simp [ui, h]) (fun _ _ => rfl) d kk
theorem e_putL (g : Good G X n) {i k ci j c0 : Nat} {fk : List Nat} {v : Int64} (fw : FW X.1.cls i ci j .long) (hs : shp k = (0, ci, c0, fk)) (hj : fk[j]? = some 1) (d : decode X.2.1 pc = .ok (.putfield i, 3)) (kk : Ev G (pc + 3) L S (ul M k j v)) : Ev G pc L (.long v :: .ref k :: S) M :=
  e_put (M' := ul M k j v) g fw hs hj rfl rfl (fun _ => by simp [fval, ul]) (fun _ => rfl) (fun _ _ => rfl) (fun _ h => ul_off h) (fun _ _ => rfl) (fun a h => by simp [ul, h]) d kk
/-! arrays -/
theorem e_iald (g : Good G X n) {k t N : Nat} {l : List Nat} {i : Int32} (hs : shp k = (1, t, N, l)) (hi : vp_in i N) (d : decode X.2.1 pc = .ok (.iaload, 1)) (kk : Ev G (pc + 1) L (.int (M.1 k i.toNatClampNeg) :: S) M) : Ev G pc L (.int i :: .ref k :: S) M := by
  intro H locs ls hP hS hl
  have he := wl_at (gad G) (gcA G) M (shp_lt hs (by simp))
  rw [ce_int hs] at he
  exact va_iald g.x g.b g.K hP k 0 he rfl hi d (kk H locs ls hP hS hl)
theorem e_zald (g : Good G X n) {k t N : Nat} {l : List Nat} {i : Int32} (hs : shp k = (2, t, N, l)) (hi : vp_in i N) (d : decode X.2.1 pc = .ok (.baload, 1)) (kk : Ev G (pc + 1) L (.int (M.1 k i.toNatClampNeg) :: S) M) : Ev G pc L (.int i :: .ref k :: S) M := by
  intro H locs ls hP hS hl
  have he := wl_at (gad G) (gcA G) M (shp_lt hs (by simp))
  rw [ce_bool hs] at he
  exact va_zald g.x g.b g.K hP k 1 he rfl hi d (kk H locs ls hP hS hl)
theorem e_iast (g : Good G X n) {k t N : Nat} {l : List Nat} {i x : Int32} (hs : shp k = (1, t, N, l)) (hi : vp_in i N) (d : decode X.2.1 pc = .ok (.iastore, 1)) (kk : Ev G (pc + 1) L S (ui M k i.toNatClampNeg x)) : Ev G pc L (.int x :: .int i :: .ref k :: S) M := by
  intro H locs ls hP hS hl
  have he := wl_at (gad G) (gcA G) M (shp_lt hs (by simp))
  rw [ce_int hs] at he
  refine va_iast g.x g.b g.K hP (g.D M) hS k 0 he rfl hi d (fun H1 locs1 hP1 _ hS1 => kk H1 locs1 ls ?_ hS1 hl)
  rw [wl_set (M' := ui M k i.toNatClampNeg x) (gad G) (gcA G) ?_ (fun _ h => ui_off h) (fun _ _ => rfl)] at hP1
  · exact hP1
  · rw [ce_int hs]
    congr 4
    funext b
    simp [ui, upd]
theorem e_zast (g : Good G X n) {k t N : Nat} {l : List Nat} {i x : Int32} (hs : shp k = (2, t, N, l)) (hi : vp_in i N) (d : decode X.2.1 pc = .ok (.bastore, 1)) (kk : Ev G (pc + 1) L S (ui M k i.toNatClampNeg (vp_nar .boolean x))) : Ev G pc L (.int x :: .int i :: .ref k :: S) M := by
  intro H locs ls hP hS hl
  have he := wl_at (gad G) (gcA G) M (shp_lt hs (by simp))
  rw [ce_bool hs] at he
  refine va_zast g.x g.b g.K hP (g.D M) hS k 1 he rfl hi d (fun H1 locs1 hP1 _ hS1 => kk H1 locs1 ls ?_ hS1 hl)
  rw [wl_set (M' := ui M k i.toNatClampNeg (vp_nar .boolean x)) (gad G) (gcA G) ?_ (fun _ h => ui_off h) (fun _ _ => rfl)] at hP1
  · exact hP1
  · rw [ce_bool hs]
    congr 4
    funext b
    simp [ui, upd]
theorem e_aald (g : Good G X n) {k t N b : Nat} {i : Int32} (hs : shp k = (3, t, N, [b])) (hi : vp_in i N) (d : decode X.2.1 pc = .ok (.aaload, 1)) (kk : Ev G (pc + 1) L (.ref (b + i.toNatClampNeg) :: S) M) : Ev G pc L (.int i :: .ref k :: S) M := by
  intro H locs ls hP hS hl
  have he := wl_at (gad G) (gcA G) M (shp_lt hs (by simp))
  rw [ce_refs hs] at he
  have hc := hP k _ he
  have hlt : i.toNatClampNeg < N := Nat.not_le.mp fun q => hi (Or.inr q)
  have hc2 : H[gad G k]? = some (arrV (gcA G 2) N (fun j => va_rf (if j < N then some (gad G (b + j)) else none))) := hc
  refine W.aald (ty := .array .int) (v := .ref (gad G (b + i.toNatClampNeg))) g.x g.b hc2 ((g.K.2 2 _ rfl).1 N _) rfl (fun q => by cases q) (by show ¬ (i < 0 ∨ (arrV _ _ _).slots.size ≤ _); rw [arrV_size]; exact hi) ?_ rfl rfl d (kk H locs ls hP hS hl)
  show (arrV _ _ _).slots[_]? = _
  rw [arrV_read _ _ hlt, if_pos hlt]
  rfl
theorem e_ialen (g : Good G X n) {k t N : Nat} {l : List Nat} (hs : shp k = (1, t, N, l)) (d : decode X.2.1 pc = .ok (.arraylength, 1)) (kk : Ev G (pc + 1) L (.int (nI N) :: S) M) : Ev G pc L (.ref k :: S) M := by
  intro H locs ls hP hS hl
  have he := wl_at (gad G) (gcA G) M (shp_lt hs (by simp))
  rw [ce_int hs] at he
  exact va_alen g.x g.b g.K hP k 0 he (ty := .int) rfl rfl d (kk H locs ls hP hS hl)
end EV
end
section
section CA
variable {G : GC} {X Y : MI} {n n' : Nat} {pc : Nat} {L : List (Nat × Value)} {S : List Value} {M : MM} {r : Option Value} {M' : MM}
theorem fn_intro {as : List Value} (hX : MOk X) (hl : (lg_sl as).length ≤ X.2.2.1) (h : ∀ G : GC, Good G X n → GoodR G r M' → Ev G 0 (lv_args 0 as) [] M) : Fn n X as M r M' := by
  intro w
  refine Met.ofWF (cc := X.2.1) (maxL := X.2.2.1) (ret := X.2.2.2) hX.1 rfl ?_
  intro p e s m args below meth c s₁ B hml hv
  obtain ⟨rfl, hP, hK, hN, hD⟩ := hv
  have hts := atoms_spec (ws := wsM X) B.pre
  have g := h (w, p, e, rmM n, s, m, (as.map (cv w.2.1)).toArray, below, meth, c, MQ below (FQ w r M') (as.map (cv w.2.1)).toArray s 0 0 (inW w.2.1), inW w.2.1, 0, 0)
    ⟨B.exec, B.bytes, hml, findClass_of_methodNamed B.named, fun w hw => hts w (List.mem_cons_of_mem _ hw), hN, B.returns, B.notSynchronized, hK, wl_D M0 (D_inW hD), Nat.le_refl 0, Nat.le_refl 0, Nat.le_refl n, Nat.le_refl _⟩ ⟨rfl, rfl⟩
  have hle : (lg_sl (as.map (cv w.2.1))).length ≤ X.2.2.1 := by rw [lg_sl_cv]; exact hl
  have hl9 := lv_entry (as.map (cv w.2.1)) (n := X.2.2.1) hle
  rw [lv_args_cv] at hl9
  rw [lg_entry_eq]
  exact g s.heap [] _ hP va_S.rf (by rw [hml]; exact hl9)
theorem gr_locs (gr : GoodR G r M') {H : Heap} {locs : List Loc} (hS : va_S (gA G) (gs G).heap H locs) : ∀ q ∈ locs, inW (gad G) q.base := fun q hq => by
  have := hS.2.2 q hq
  rw [gr.2] at this
  exact this
theorem gr_F (gr : GoodR G r M') {H : Heap} {locs : List Loc} (hS : va_S (gA G) (gs G).heap H locs) {t : State} (ht : t.heap = H) : va_F (inW (gad G)) (gs G) t := by
  have := hS.F ht
  rw [gr.2] at this
  exact this
theorem e_iret {v : Int32} (g : Good G X n) (gr : GoodR G r M') (hX : X.2.2.2 = some .int) (d : decode X.2.1 pc = .ok (.ireturn, 1)) (h : r = some (.int v) ∧ M' = M) : Ev G pc L [.int v] M := by
  intro H locs ls hP hS hl
  obtain ⟨rfl, rfl⟩ := h
  rw [gr.1]
  exact W.iret (v := v) g.x g.b (by rw [g.r, hX]) (fun t ht hW => ⟨⟨rfl, by rw [ht]; exact hP⟩, gr_F gr hS ht⟩) (gr_locs gr hS) d g.lk
theorem e_zret {v : Int32} (g : Good G X n) (gr : GoodR G r M') (hX : X.2.2.2 = some .boolean) (hv : v = 0 ∨ v = 1) (d : decode X.2.1 pc = .ok (.ireturn, 1)) (h : r = some (.int v) ∧ M' = M) : Ev G pc L [.int v] M := by
  intro H locs ls hP hS hl
  obtain ⟨rfl, rfl⟩ := h
  rw [gr.1]
  exact W.zret (v := v) (ty := .boolean) g.x g.b (by rw [g.r, hX]) (by rcases hv with rfl | rfl <;> rfl) (fun t ht hW => ⟨⟨rfl, by rw [ht]; exact hP⟩, gr_F gr hS ht⟩) (gr_locs gr hS) d g.lk
theorem e_lret {v : Int64} (g : Good G X n) (gr : GoodR G r M') (hX : X.2.2.2 = some .long) (d : decode X.2.1 pc = .ok (.lreturn, 1)) (h : r = some (.long v) ∧ M' = M) : Ev G pc L [.long v] M := by
  intro H locs ls hP hS hl
  obtain ⟨rfl, rfl⟩ := h
  rw [gr.1]
  exact W.lret (v := v) g.x g.b (by rw [g.r, hX]) (fun t ht hW => ⟨⟨rfl, by rw [ht]; exact hP⟩, gr_F gr hS ht⟩) (gr_locs gr hS) d g.lk
theorem e_vret (g : Good G X n) (gr : GoodR G r M') (hX : X.2.2.2 = none) (d : decode X.2.1 pc = .ok (.return_, 1)) (h : r = none ∧ M' = M) : Ev G pc L [] M := by
  intro H locs ls hP hS hl
  obtain ⟨rfl, rfl⟩ := h
  rw [gr.1]
  exact W.vret g.x g.b (by rw [g.r, hX]) (fun t ht hW => ⟨⟨rfl, by rw [ht]; exact hP⟩, gr_F gr hS ht⟩) (gr_locs gr hS) d g.lk
theorem fp_blind {w : WC} {av : List Value} {M : MM} : FrameBlind (va_Pc av (FP w M)) := by
  intro a U g mk h
  obtain ⟨h0, hP, hK, hN, hD⟩ := h
  exact ⟨h0, hP, va_K.moved (u := U) (U := U.calling g mk a) (Vm.Alike.refl U.vm) hK, nb_same (u := U) (U := U.calling g mk a) rfl hN, hD⟩
theorem fp_pre (g : Good G X n) {H : Heap} (hP : va_P (gD G) vwCl (wl (gad G) (gcA G) M) H) {U : State} (hU : U.heap = H) (hW : (gs G).WarmedH U.vm) : FP G.1 M U :=
  ⟨by rw [hU]; exact hP, va_K.moved hW.alike g.K, nb_warm hW g.nb, (g.D M).weaken (fun _ _ _ _ => trivial)⟩
/-- behind a call: the memory that the callee left, its answer on the stack -/
theorem ev_run {st0 : List Value} {a : Array Value} (g : Good G X n) (hr : ∀ (H : Heap) (locs : List Loc) (ls : Array Slot), ls.size = (gc G).maxLocals → va_P (gD G) vwCl (wl (gad G) (gcA G) M) H → va_Run (gp G) G.1.1 (ge G) (gR G) (gs G) (gm G) (gargs G) (gbelow G) (gmeth G) (gc G) H locs (gcl G) (gsl G) 0 0 (F0 (gm G) pc ls (st0.map (cv (gad G)))) (S.map (cv (gad G))) (FQ G.1 r M' a) (inW (gad G)))
    (k : Ev G (pc + 3) L (r.toList ++ S) M') : Ev G pc L st0 M := by
  intro H locs ls hP hS hl T hT Xs
  have hF := inW_D (g.D M)
  obtain ⟨v, st₀, t, T', L9, h0, X', hL, e1, e2, ⟨⟨hv, hp⟩, hz, hk⟩, st⟩ := hr H locs ls hl.1 hP T hT Xs
  cases hv
  rw [h0] at hz hk
  obtain ⟨t2, a1, b1⟩ := k T'.heap (locs ++ L9) ls (by rw [e1]; exact hp) ⟨Nat.le_trans hS.1 (by rw [e1]; exact hz), fun q h1 h2 => by rw [e1, hk q (Nat.lt_of_lt_of_le h1 hS.1) (fun z => h2 (hF q z))]; exact hS.2.1 q h1 h2, fun q hq => by
      rcases List.mem_append.mp hq with h | h
      · exact hS.2.2 q h
      · exact hF _ (hL q h)⟩ hl T' rfl X'
  refine ⟨t2, st t2 ?_, b1⟩
  have e9 : (r.toList ++ S).map (cv (gad G)) = (r.map (cv (gad G))).toList ++ S.map (cv (gad G)) := by cases r <;> simp
  rw [e9] at a1
  exact a1
/-- entry i of class own is method Y, instance (C: its class) or static -/
def MLV (own : String) (i : Nat) (Y : MI) (a : Nat) : Prop := (Cond.methodLink own i Y.1 ∈ TB ∨ ∃ host : String, Cond.methodLinkNest own i Y.1 host ∈ NB) ∧ Cond.instanceMethod Y.1 ∈ TB ∧ Cond.selects Y.1.cls Y.1 Y.1 ∈ TB ∧ (parseMethodDescriptor Y.1.desc).map (fun d => d.parameters.length) = some a
def MLS (own : String) (i : Nat) (Y : MI) (a : Nat) : Prop := (Cond.methodLink own i Y.1 ∈ TB ∨ ∃ host : String, Cond.methodLinkNest own i Y.1 host ∈ NB) ∧ Cond.static Y.1 ∈ TB ∧ (parseMethodDescriptor Y.1.desc).map (fun d => d.parameters.length) = some a
theorem cat_sum (ad : Nat → Nat) (S : List Value) : ((S.map (cv ad)).map fun v => v.category).sum = (S.map fun v => v.category).sum := by
  rw [List.map_map]
  congr 1
  apply List.map_congr_left
  intro a _
  exact cv_cat ad a
theorem room_ok (g : Good G X n) (hY : MOk Y) (hn : n' + 1 ≤ n) : (rmM n').frames + 1 ≤ (gR G).frames ∧ 8 + (Y.2.2.1 + 11) + (rmM n').locals ≤ (gR G).locals := by
  have h1 := g.rf
  have h2 := g.rl
  have h3 := hY.2.2.2.2
  refine ⟨Nat.le_trans hn h1, ?_⟩
  show 8 + (Y.2.2.1 + 11) + 100 * n' ≤ _
  omega
theorem e_callV {ci c0 k : Nat} {fk : List Nat} {i : Nat} {As st0 : List Value} (g : Good G X n) (hY : MOk Y) (ml : MLV X.1.cls i Y As.length) (hs : shp k = (0, ci, c0, fk)) (hci : ∃ q : vw_C, vwCl[ci]? = some q ∧ q.1 = Y.1.cls) (hF : Fn n' Y (.ref k :: As) M r M') (hn : n' + 1 ≤ n) (hst : As.reverse ++ .ref k :: S = st0) (hW : (S.map fun v => v.category).sum ≤ 8) (d : decode X.2.1 pc = .ok (.invokevirtual i, 3))
    (kk : Ev G (pc + 3) L (r.toList ++ S) M') : Ev G pc L st0 M := by
  refine ev_run (S := S) (a := ((Value.ref k :: As).map (cv (gad G))).toArray) g (fun H locs ls hls hP => ?_) kk
  obtain ⟨q, hq, hqc⟩ := hci
  obtain ⟨hlk, hin, hse, har⟩ := ml
  have he := wl_at (gad G) (gcA G) M (shp_lt hs (by simp))
  rw [ce_obj hs] at he
  have hcell := hP k _ he
  obtain ⟨r9, h1, cell, q1, q2, q3, q4⟩ := hcell
  have hr9 : r9 = q := Option.some.inj (h1.symm.trans hq)
  subst hr9
  have hcls : (gs G).vm.findClass Y.1.cls = some cell.cls := by
    obtain ⟨-, hfc, -⟩ := g.K.1 ci _ hq
    rw [← hqc, hfc, q2]
  have hpre : PreV (gs G) H Y.1.cls (gad G k) (va_Pc ((Value.ref k :: As).map (cv (gad G))) (FP G.1 M)) (As.map (cv (gad G))) :=
    ⟨fp_blind, ⟨cell, q1, by rw [q3]; rfl, hcls⟩, fun U hU hW9 => ⟨rfl, fp_pre g hP hU hW9⟩⟩
  have hstk : (F0 (gm G) pc ls (st0.map (cv (gad G)))).stack = (As.map (cv (gad G))).reverse ++ .ref (gad G k) :: S.map (cv (gad G)) := by
    show st0.map (cv (gad G)) = _
    rw [← hst]
    simp [cv]
  have hwd : ∀ w ∈ wsM Y, w ∈ TB := fun w hw => (List.mem_cons.mp hw).elim (fun e => by rw [e]; exact hY.2.1) id
  have hroom : 2 * (F0 (gm G) pc ls (st0.map (cv (gad G)))).monitorRoom + ((S.map (cv (gad G))).map fun v => v.category).sum ≤ 8 := lv_room (by rw [cat_sum]; exact hW)
  rcases hlk with hlk | ⟨host, hlk⟩
  · refine va_runV ⟨g.x, g.b, g.ml, g.own, g.ts⟩ (hF G.1) (cwV (ws' := TB) As.length g.ts (goodIn_tb (fun w hw => ?_)) rfl rfl rfl ⟨rfl, hY.2.2.2.1.1, hY.2.2.2.1.2, har⟩ (room_ok g hY hn)) hpre rfl (by simp) (by rw [hls, g.ml]) hstk hroom d ⟨g.rc, g.rs⟩
    rcases List.mem_append.mp hw with h | h
    · simp only [List.mem_cons, List.not_mem_nil, or_false] at h
      rcases h with rfl | rfl | rfl | rfl
      · exact hlk
      · exact hin
      · exact hse
      · exact hY.2.2.1
    · exact hwd w h
  · exact va_runVN ⟨g.x, g.b, g.ml, g.own, g.ts⟩ (hF G.1) ⟨va_cnB (ws' := TB) As.length g.ts (goodIn_tb hwd) rfl rfl rfl (g.nb _ hlk) (g.ts _ hY.2.2.1) ⟨hY.2.2.2.1.1, hY.2.2.2.1.2, har⟩ (room_ok g hY hn), g.ts _ hin, g.ts _ hse⟩ hpre rfl (by simp) (by rw [hls, g.ml]) hstk hroom d ⟨g.rc, g.rs⟩
theorem e_callS {i : Nat} {As st0 : List Value} (g : Good G X n) (hY : MOk Y) (ml : MLS X.1.cls i Y As.length) (hF : Fn n' Y As M r M') (hn : n' + 1 ≤ n) (hst : As.reverse ++ S = st0) (hW : (S.map fun v => v.category).sum ≤ 8) (d : decode X.2.1 pc = .ok (.invokestatic i, 3))
    (kk : Ev G (pc + 3) L (r.toList ++ S) M') : Ev G pc L st0 M := by
  refine ev_run (S := S) (a := (As.map (cv (gad G))).toArray) g (fun H locs ls hls hP => ?_) kk
  obtain ⟨hlk, hin, har⟩ := ml
  have hpre : PreS (gs G) H (va_Pc (As.map (cv (gad G))) (FP G.1 M)) (As.map (cv (gad G))) :=
    ⟨fp_blind, fun U hU hW9 => ⟨rfl, fp_pre g hP hU hW9⟩⟩
  have hstk : (F0 (gm G) pc ls (st0.map (cv (gad G)))).stack = (As.map (cv (gad G))).reverse ++ S.map (cv (gad G)) := by
    show st0.map (cv (gad G)) = _
    rw [← hst]
    simp
  have hwd : ∀ w ∈ wsM Y, w ∈ TB := fun w hw => (List.mem_cons.mp hw).elim (fun e => by rw [e]; exact hY.2.1) id
  have hroom : 2 * (F0 (gm G) pc ls (st0.map (cv (gad G)))).monitorRoom + ((S.map (cv (gad G))).map fun v => v.category).sum ≤ 8 := lv_room (by rw [cat_sum]; exact hW)
  rcases hlk with hlk | ⟨host, hlk⟩
  · refine va_runS ⟨g.x, g.b, g.ml, g.own, g.ts⟩ (hF G.1) ⟨callB_of (ws' := TB) As.length g.ts (goodIn_tb hwd) rfl rfl rfl (g.ts _ hY.2.2.1) (g.ts _ hlk) ⟨hY.2.2.2.1.1, hY.2.2.2.1.2, har⟩ (room_ok g hY hn), g.ts _ hin⟩ hpre rfl (by simp) (by rw [hls, g.ml]) hstk hroom d ⟨g.rc, g.rs⟩
  · exact va_runSN ⟨g.x, g.b, g.ml, g.own, g.ts⟩ (hF G.1) ⟨va_cnB (ws' := TB) As.length g.ts (goodIn_tb hwd) rfl rfl rfl (g.nb _ hlk) (g.ts _ hY.2.2.1) ⟨hY.2.2.2.1.1, hY.2.2.2.1.2, har⟩ (room_ok g hY hn), g.ts _ hin, trivial⟩ hpre rfl (by simp) (by rw [hls, g.ml]) hstk hroom d ⟨g.rc, g.rs⟩
/-- System.arraycopy of ints between two places -/
theorem e_copy {i k0 k1 t0 t1 N0 N1 : Nat} {l0 l1 : List Nat} {sp dp z : Int32} (g : Good G X n) (hn : 1 ≤ n) (hlk : Cond.methodLink X.1.cls i arraycopyName ∈ TB) (hnat : Cond.native arraycopyName ∈ TB) (hstat : Cond.static arraycopyName ∈ TB) (hini : Cond.initialized "java/lang/System" ∈ TB) (h0 : shp k0 = (1, t0, N0, l0)) (h1 : shp k1 = (1, t1, N1, l1))
    (hsp : ¬ sp < 0) (hdp : ¬ dp < 0) (hz : ¬ z < 0) (hs : sp.toNatClampNeg + z.toNatClampNeg ≤ N0) (hd : dp.toNatClampNeg + z.toNatClampNeg ≤ N1) (hW : (S.map fun v => v.category).sum ≤ 8) (d : decode X.2.1 pc = .ok (.invokestatic i, 3))
    (kk : Ev G (pc + 3) L S (uc M k1 (va_cpy (M.1 k0) (M.1 k1) sp.toNatClampNeg dp.toNatClampNeg z.toNatClampNeg))) : Ev G pc L (.int z :: .int dp :: .ref k1 :: .int sp :: .ref k0 :: S) M := by
  intro H locs ls hP hS hl
  have he0 := wl_at (gad G) (gcA G) M (shp_lt h0 (by simp))
  have he1 := wl_at (gad G) (gcA G) M (shp_lt h1 (by simp))
  rw [ce_int h0] at he0
  rw [ce_int h1] at he1
  have hR1 := g.rf
  have hR2 := g.rl
  refine va_copyi g.x g.b (by rw [hl.1]) g.own (g.ts _ hlk) (g.ts _ hnat) (g.ts _ hstat) (g.ts _ hini) g.K hP (g.D M) hS k0 k1 0 0 he0 he1 rfl rfl rfl hsp hdp hz hs hd (fun _ _ => rfl) (Nat.le_trans hn hR1) ?_ d (fun H1 locs1 hP1 _ hS1 => kk H1 locs1 ls ?_ hS1 hl)
  · rw [cat_sum]
    have e9 : nativeFrameWords "java/lang/System" "arraycopy" 5 ≤ 40 := by decide +kernel
    omega
  · rw [wl_set (M := M) (k := k1) (M' := uc M k1 (va_cpy (M.1 k0) (M.1 k1) sp.toNatClampNeg dp.toNatClampNeg z.toNatClampNeg)) (gad G) (gcA G) ?_ (fun a h => by funext b; simp [uc, h]) (fun _ _ => rfl)] at hP1
    · exact hP1
    · rw [ce_int h1]
      congr 4
      funext b
      simp [uc]
end CA
end
section
set_option maxRecDepth 20000 in
theorem cf_0 : CF 0 (RX0, TX0, 8) := ⟨rfl, by decide +kernel, ⟨tyX0, tyX0_ok⟩, nmX0⟩
set_option maxRecDepth 20000 in
theorem cf_1 : CF 1 (RX1, TX1, 3) := ⟨rfl, by decide +kernel, ⟨tyX1, tyX1_ok⟩, nmX1⟩
set_option maxRecDepth 20000 in
theorem cf_2 : CF 2 (RX2, TX2, 9) := ⟨rfl, by decide +kernel, ⟨tyX2, tyX2_ok⟩, nmX2⟩
set_option maxRecDepth 20000 in
theorem cf_3 : CF 3 (RX3, TX3, 8) := ⟨rfl, by decide +kernel, ⟨tyX3, tyX3_ok⟩, nmX3⟩
set_option maxRecDepth 20000 in
theorem cf_4 : CF 4 (RX4, TX4, 8) := ⟨rfl, by decide +kernel, ⟨tyX4, tyX4_ok⟩, nmX4⟩
set_option maxRecDepth 20000 in
theorem cf_5 : CF 5 (RX5, TX5, 3) := ⟨rfl, by decide +kernel, ⟨tyX5, tyX5_ok⟩, nmX5⟩
set_option maxRecDepth 20000 in
theorem cf_6 : CF 6 (RX6, TX6, 4) := ⟨rfl, by decide +kernel, ⟨tyX6, tyX6_ok⟩, nmX6⟩
set_option maxRecDepth 20000 in
theorem cf_7 : CF 7 (RX7, TX7, 5) := ⟨rfl, by decide +kernel, ⟨tyX7, tyX7_ok⟩, nmX7⟩
set_option maxRecDepth 20000 in
theorem cf_8 : CF 8 (RX8, TX8, 2) := ⟨rfl, by decide +kernel, ⟨tyX8, tyX8_ok⟩, nmX8⟩
set_option maxRecDepth 20000 in
theorem cf_9 : CF 9 (RX9, TX9, 4) := ⟨rfl, by decide +kernel, ⟨tyX9, tyX9_ok⟩, nmX9⟩
set_option maxRecDepth 20000 in
theorem cf_10 : CF 10 (RX10, TX10, 44) := ⟨rfl, by decide +kernel, ⟨tyX10, tyX10_ok⟩, nmX10⟩
set_option maxRecDepth 20000 in
theorem fl_X9_12 : FL RX9 12 9 0 := ⟨_, cf_9, by decide, rfl, Or.inl (tb_of 374 (by decide +kernel) rfl)⟩
set_option maxRecDepth 20000 in
theorem fl_X9_19 : FL RX9 19 9 1 := ⟨_, cf_9, by decide, rfl, Or.inl (tb_of 375 (by decide +kernel) rfl)⟩
set_option maxRecDepth 20000 in
theorem fl_X9_28 : FL RX9 28 9 2 := ⟨_, cf_9, by decide, rfl, Or.inl (tb_of 376 (by decide +kernel) rfl)⟩
set_option maxRecDepth 20000 in
theorem fl_X9_35 : FL RX9 35 9 3 := ⟨_, cf_9, by decide, rfl, Or.inl (tb_of 377 (by decide +kernel) rfl)⟩
set_option maxRecDepth 20000 in
theorem fl_X9_48 : FL RX9 48 2 0 := ⟨_, cf_2, by decide, rfl, Or.inr ⟨"LowLand", nb_of 261 (by decide +kernel) rfl⟩⟩
set_option maxRecDepth 20000 in
theorem fl_X9_61 : FL RX9 61 0 2 := ⟨_, cf_0, by decide, rfl, Or.inr ⟨"LowLand", nb_of 106 (by decide +kernel) rfl⟩⟩
set_option maxRecDepth 20000 in
theorem fl_X9_65 : FL RX9 65 0 3 := ⟨_, cf_0, by decide, rfl, Or.inr ⟨"LowLand", nb_of 108 (by decide +kernel) rfl⟩⟩
set_option maxRecDepth 20000 in
theorem fl_X9_69 : FL RX9 69 0 4 := ⟨_, cf_0, by decide, rfl, Or.inr ⟨"LowLand", nb_of 111 (by decide +kernel) rfl⟩⟩
set_option maxRecDepth 20000 in
theorem fl_X9_79 : FL RX9 79 0 5 := ⟨_, cf_0, by decide, rfl, Or.inr ⟨"LowLand", nb_of 115 (by decide +kernel) rfl⟩⟩
set_option maxRecDepth 20000 in
theorem fl_X9_82 : FL RX9 82 0 6 := ⟨_, cf_0, by decide, rfl, Or.inr ⟨"LowLand", nb_of 118 (by decide +kernel) rfl⟩⟩
set_option maxRecDepth 20000 in
theorem fl_X9_85 : FL RX9 85 2 1 := ⟨_, cf_2, by decide, rfl, Or.inr ⟨"LowLand", nb_of 264 (by decide +kernel) rfl⟩⟩
set_option maxRecDepth 20000 in
theorem fl_X9_95 : FL RX9 95 2 2 := ⟨_, cf_2, by decide, rfl, Or.inr ⟨"LowLand", nb_of 267 (by decide +kernel) rfl⟩⟩
set_option maxRecDepth 20000 in
theorem fl_X9_104 : FL RX9 104 2 3 := ⟨_, cf_2, by decide, rfl, Or.inr ⟨"LowLand", nb_of 269 (by decide +kernel) rfl⟩⟩
set_option maxRecDepth 20000 in
theorem fl_X9_114 : FL RX9 114 2 7 := ⟨_, cf_2, by decide, rfl, Or.inr ⟨"LowLand", nb_of 278 (by decide +kernel) rfl⟩⟩
set_option maxRecDepth 20000 in
theorem fw_X9_114 : FW RX9 114 2 7 .int := ⟨fl_X9_114, fun q h => by cases (Option.some.inj h); exact ⟨rfl, by decide +kernel⟩⟩
set_option maxRecDepth 20000 in
theorem fl_X9_133 : FL RX9 133 6 2 := ⟨_, cf_6, by decide, rfl, Or.inr ⟨"LowLand", nb_of 221 (by decide +kernel) rfl⟩⟩
set_option maxRecDepth 20000 in
theorem fl_X9_140 : FL RX9 140 2 5 := ⟨_, cf_2, by decide, rfl, Or.inr ⟨"LowLand", nb_of 273 (by decide +kernel) rfl⟩⟩
set_option maxRecDepth 20000 in
theorem fl_X9_143 : FL RX9 143 2 6 := ⟨_, cf_2, by decide, rfl, Or.inr ⟨"LowLand", nb_of 275 (by decide +kernel) rfl⟩⟩
set_option maxRecDepth 20000 in
theorem fl_X9_154 : FL RX9 154 2 4 := ⟨_, cf_2, by decide, rfl, Or.inr ⟨"LowLand", nb_of 271 (by decide +kernel) rfl⟩⟩
set_option maxRecDepth 20000 in
theorem fl_X9_158 : FL RX9 158 1 0 := ⟨_, cf_1, by decide, rfl, Or.inr ⟨"LowLand", nb_of 243 (by decide +kernel) rfl⟩⟩
set_option maxRecDepth 20000 in
theorem fl_X9_162 : FL RX9 162 1 1 := ⟨_, cf_1, by decide, rfl, Or.inr ⟨"LowLand", nb_of 246 (by decide +kernel) rfl⟩⟩
set_option maxRecDepth 20000 in
theorem fl_X9_164 : FL RX9 164 1 2 := ⟨_, cf_1, by decide, rfl, Or.inr ⟨"LowLand", nb_of 249 (by decide +kernel) rfl⟩⟩
set_option maxRecDepth 20000 in
theorem fl_X9_170 : FL RX9 170 8 0 := ⟨_, cf_8, by decide, rfl, Or.inr ⟨"LowLand", nb_of 310 (by decide +kernel) rfl⟩⟩
set_option maxRecDepth 20000 in
theorem fl_X9_181 : FL RX9 181 3 5 := ⟨_, cf_3, by decide, rfl, Or.inr ⟨"LowLand", nb_of 333 (by decide +kernel) rfl⟩⟩
set_option maxRecDepth 20000 in
theorem fw_X9_181 : FW RX9 181 3 5 .int := ⟨fl_X9_181, fun q h => by cases (Option.some.inj h); exact ⟨rfl, by decide +kernel⟩⟩
set_option maxRecDepth 20000 in
theorem fl_X9_186 : FL RX9 186 3 6 := ⟨_, cf_3, by decide, rfl, Or.inr ⟨"LowLand", nb_of 335 (by decide +kernel) rfl⟩⟩
set_option maxRecDepth 20000 in
theorem fw_X9_186 : FW RX9 186 3 6 .long := ⟨fl_X9_186, fun q h => by cases (Option.some.inj h); exact ⟨rfl, by decide +kernel⟩⟩
set_option maxRecDepth 20000 in
theorem fl_X9_190 : FL RX9 190 3 7 := ⟨_, cf_3, by decide, rfl, Or.inr ⟨"LowLand", nb_of 337 (by decide +kernel) rfl⟩⟩
set_option maxRecDepth 20000 in
theorem fw_X9_190 : FW RX9 190 3 7 .long := ⟨fl_X9_190, fun q h => by cases (Option.some.inj h); exact ⟨rfl, by decide +kernel⟩⟩
set_option maxRecDepth 20000 in
theorem fl_X9_232 : FL RX9 232 5 0 := ⟨_, cf_5, by decide, rfl, Or.inr ⟨"LowLand", nb_of 364 (by decide +kernel) rfl⟩⟩
set_option maxRecDepth 20000 in
theorem fl_X9_241 : FL RX9 241 0 7 := ⟨_, cf_0, by decide, rfl, Or.inr ⟨"LowLand", nb_of 122 (by decide +kernel) rfl⟩⟩
set_option maxRecDepth 20000 in
theorem fw_X9_241 : FW RX9 241 0 7 .int := ⟨fl_X9_241, fun q h => by cases (Option.some.inj h); exact ⟨rfl, by decide +kernel⟩⟩
set_option maxRecDepth 20000 in
theorem fl_X9_244 : FL RX9 244 7 4 := ⟨_, cf_7, by decide, rfl, Or.inr ⟨"LowLand", nb_of 157 (by decide +kernel) rfl⟩⟩
set_option maxRecDepth 20000 in
theorem fw_X9_244 : FW RX9 244 7 4 .int := ⟨fl_X9_244, fun q h => by cases (Option.some.inj h); exact ⟨rfl, by decide +kernel⟩⟩
set_option maxRecDepth 20000 in
theorem fl_X9_245 : FL RX9 245 4 7 := ⟨_, cf_4, by decide, rfl, Or.inr ⟨"LowLand", nb_of 191 (by decide +kernel) rfl⟩⟩
set_option maxRecDepth 20000 in
theorem fw_X9_245 : FW RX9 245 4 7 .int := ⟨fl_X9_245, fun q h => by cases (Option.some.inj h); exact ⟨rfl, by decide +kernel⟩⟩
set_option maxRecDepth 20000 in
theorem fl_X9_246 : FL RX9 246 6 3 := ⟨_, cf_6, by decide, rfl, Or.inr ⟨"LowLand", nb_of 224 (by decide +kernel) rfl⟩⟩
set_option maxRecDepth 20000 in
theorem fw_X9_246 : FW RX9 246 6 3 .int := ⟨fl_X9_246, fun q h => by cases (Option.some.inj h); exact ⟨rfl, by decide +kernel⟩⟩
set_option maxRecDepth 20000 in
theorem fl_X9_247 : FL RX9 247 8 1 := ⟨_, cf_8, by decide, rfl, Or.inr ⟨"LowLand", nb_of 312 (by decide +kernel) rfl⟩⟩
set_option maxRecDepth 20000 in
theorem fw_X9_247 : FW RX9 247 8 1 .int := ⟨fl_X9_247, fun q h => by cases (Option.some.inj h); exact ⟨rfl, by decide +kernel⟩⟩
set_option maxRecDepth 20000 in
theorem fl_X9_251 : FL RX9 251 2 8 := ⟨_, cf_2, by decide, rfl, Or.inr ⟨"LowLand", nb_of 280 (by decide +kernel) rfl⟩⟩
set_option maxRecDepth 20000 in
theorem fw_X9_251 : FW RX9 251 2 8 .int := ⟨fl_X9_251, fun q h => by cases (Option.some.inj h); exact ⟨rfl, by decide +kernel⟩⟩
set_option maxRecDepth 20000 in
theorem fl_X9_254 : FL RX9 254 4 6 := ⟨_, cf_4, by decide, rfl, Or.inr ⟨"LowLand", nb_of 188 (by decide +kernel) rfl⟩⟩
set_option maxRecDepth 20000 in
theorem fw_X9_254 : FW RX9 254 4 6 .int := ⟨fl_X9_254, fun q h => by cases (Option.some.inj h); exact ⟨rfl, by decide +kernel⟩⟩
set_option maxRecDepth 20000 in
theorem fl_X0_9 : FL RX0 9 0 0 := ⟨_, cf_0, by decide, rfl, Or.inl (tb_of 102 (by decide +kernel) rfl)⟩
set_option maxRecDepth 20000 in
theorem fl_X0_15 : FL RX0 15 0 1 := ⟨_, cf_0, by decide, rfl, Or.inl (tb_of 104 (by decide +kernel) rfl)⟩
set_option maxRecDepth 20000 in
theorem fl_X0_18 : FL RX0 18 0 2 := ⟨_, cf_0, by decide, rfl, Or.inl (tb_of 105 (by decide +kernel) rfl)⟩
set_option maxRecDepth 20000 in
theorem fl_X0_21 : FL RX0 21 0 3 := ⟨_, cf_0, by decide, rfl, Or.inl (tb_of 107 (by decide +kernel) rfl)⟩
set_option maxRecDepth 20000 in
theorem fl_X0_24 : FL RX0 24 0 4 := ⟨_, cf_0, by decide, rfl, Or.inl (tb_of 109 (by decide +kernel) rfl)⟩
set_option maxRecDepth 20000 in
theorem fl_X0_27 : FL RX0 27 0 5 := ⟨_, cf_0, by decide, rfl, Or.inl (tb_of 113 (by decide +kernel) rfl)⟩
set_option maxRecDepth 20000 in
theorem fl_X0_30 : FL RX0 30 0 6 := ⟨_, cf_0, by decide, rfl, Or.inl (tb_of 116 (by decide +kernel) rfl)⟩
set_option maxRecDepth 20000 in
theorem fl_X0_33 : FL RX0 33 0 7 := ⟨_, cf_0, by decide, rfl, Or.inl (tb_of 119 (by decide +kernel) rfl)⟩
set_option maxRecDepth 20000 in
theorem fw_X0_33 : FW RX0 33 0 7 .int := ⟨fl_X0_33, fun q h => by cases (Option.some.inj h); exact ⟨rfl, by decide +kernel⟩⟩
set_option maxRecDepth 20000 in
theorem fl_X1_9 : FL RX1 9 1 0 := ⟨_, cf_1, by decide, rfl, Or.inl (tb_of 241 (by decide +kernel) rfl)⟩
set_option maxRecDepth 20000 in
theorem fl_X1_15 : FL RX1 15 1 1 := ⟨_, cf_1, by decide, rfl, Or.inl (tb_of 244 (by decide +kernel) rfl)⟩
set_option maxRecDepth 20000 in
theorem fl_X1_18 : FL RX1 18 1 2 := ⟨_, cf_1, by decide, rfl, Or.inl (tb_of 247 (by decide +kernel) rfl)⟩
set_option maxRecDepth 20000 in
theorem fl_X2_12 : FL RX2 12 2 0 := ⟨_, cf_2, by decide, rfl, Or.inl (tb_of 260 (by decide +kernel) rfl)⟩
set_option maxRecDepth 20000 in
theorem fl_X2_21 : FL RX2 21 2 1 := ⟨_, cf_2, by decide, rfl, Or.inl (tb_of 263 (by decide +kernel) rfl)⟩
set_option maxRecDepth 20000 in
theorem fl_X2_28 : FL RX2 28 2 2 := ⟨_, cf_2, by decide, rfl, Or.inl (tb_of 265 (by decide +kernel) rfl)⟩
set_option maxRecDepth 20000 in
theorem fl_X2_35 : FL RX2 35 2 3 := ⟨_, cf_2, by decide, rfl, Or.inl (tb_of 268 (by decide +kernel) rfl)⟩
set_option maxRecDepth 20000 in
theorem fl_X2_42 : FL RX2 42 2 4 := ⟨_, cf_2, by decide, rfl, Or.inl (tb_of 270 (by decide +kernel) rfl)⟩
set_option maxRecDepth 20000 in
theorem fl_X2_46 : FL RX2 46 2 5 := ⟨_, cf_2, by decide, rfl, Or.inl (tb_of 272 (by decide +kernel) rfl)⟩
set_option maxRecDepth 20000 in
theorem fl_X2_50 : FL RX2 50 2 6 := ⟨_, cf_2, by decide, rfl, Or.inl (tb_of 274 (by decide +kernel) rfl)⟩
set_option maxRecDepth 20000 in
theorem fl_X2_59 : FL RX2 59 4 6 := ⟨_, cf_4, by decide, rfl, Or.inr ⟨"LowLand", nb_of 185 (by decide +kernel) rfl⟩⟩
set_option maxRecDepth 20000 in
theorem fw_X2_59 : FW RX2 59 4 6 .int := ⟨fl_X2_59, fun q h => by cases (Option.some.inj h); exact ⟨rfl, by decide +kernel⟩⟩
set_option maxRecDepth 20000 in
theorem fl_X2_63 : FL RX2 63 2 7 := ⟨_, cf_2, by decide, rfl, Or.inl (tb_of 276 (by decide +kernel) rfl)⟩
set_option maxRecDepth 20000 in
theorem fw_X2_63 : FW RX2 63 2 7 .int := ⟨fl_X2_63, fun q h => by cases (Option.some.inj h); exact ⟨rfl, by decide +kernel⟩⟩
set_option maxRecDepth 20000 in
theorem fl_X2_70 : FL RX2 70 0 4 := ⟨_, cf_0, by decide, rfl, Or.inr ⟨"LowLand", nb_of 110 (by decide +kernel) rfl⟩⟩
set_option maxRecDepth 20000 in
theorem fl_X2_77 : FL RX2 77 0 7 := ⟨_, cf_0, by decide, rfl, Or.inr ⟨"LowLand", nb_of 120 (by decide +kernel) rfl⟩⟩
set_option maxRecDepth 20000 in
theorem fw_X2_77 : FW RX2 77 0 7 .int := ⟨fl_X2_77, fun q h => by cases (Option.some.inj h); exact ⟨rfl, by decide +kernel⟩⟩
set_option maxRecDepth 20000 in
theorem fl_X2_80 : FL RX2 80 0 5 := ⟨_, cf_0, by decide, rfl, Or.inr ⟨"LowLand", nb_of 114 (by decide +kernel) rfl⟩⟩
set_option maxRecDepth 20000 in
theorem fl_X2_83 : FL RX2 83 0 0 := ⟨_, cf_0, by decide, rfl, Or.inr ⟨"LowLand", nb_of 103 (by decide +kernel) rfl⟩⟩
set_option maxRecDepth 20000 in
theorem fl_X2_89 : FL RX2 89 2 8 := ⟨_, cf_2, by decide, rfl, Or.inl (tb_of 279 (by decide +kernel) rfl)⟩
set_option maxRecDepth 20000 in
theorem fw_X2_89 : FW RX2 89 2 8 .int := ⟨fl_X2_89, fun q h => by cases (Option.some.inj h); exact ⟨rfl, by decide +kernel⟩⟩
set_option maxRecDepth 20000 in
theorem fl_X2_99 : FL RX2 99 4 7 := ⟨_, cf_4, by decide, rfl, Or.inr ⟨"LowLand", nb_of 190 (by decide +kernel) rfl⟩⟩
set_option maxRecDepth 20000 in
theorem fw_X2_99 : FW RX2 99 4 7 .int := ⟨fl_X2_99, fun q h => by cases (Option.some.inj h); exact ⟨rfl, by decide +kernel⟩⟩
set_option maxRecDepth 20000 in
theorem fl_X2_100 : FL RX2 100 4 1 := ⟨_, cf_4, by decide, rfl, Or.inr ⟨"LowLand", nb_of 178 (by decide +kernel) rfl⟩⟩
set_option maxRecDepth 20000 in
theorem fl_X2_103 : FL RX2 103 0 6 := ⟨_, cf_0, by decide, rfl, Or.inr ⟨"LowLand", nb_of 117 (by decide +kernel) rfl⟩⟩
set_option maxRecDepth 20000 in
theorem fl_X2_106 : FL RX2 106 4 0 := ⟨_, cf_4, by decide, rfl, Or.inr ⟨"LowLand", nb_of 176 (by decide +kernel) rfl⟩⟩
set_option maxRecDepth 20000 in
theorem fl_X2_109 : FL RX2 109 1 1 := ⟨_, cf_1, by decide, rfl, Or.inr ⟨"LowLand", nb_of 245 (by decide +kernel) rfl⟩⟩
set_option maxRecDepth 20000 in
theorem fl_X2_111 : FL RX2 111 6 3 := ⟨_, cf_6, by decide, rfl, Or.inr ⟨"LowLand", nb_of 223 (by decide +kernel) rfl⟩⟩
set_option maxRecDepth 20000 in
theorem fw_X2_111 : FW RX2 111 6 3 .int := ⟨fl_X2_111, fun q h => by cases (Option.some.inj h); exact ⟨rfl, by decide +kernel⟩⟩
set_option maxRecDepth 20000 in
theorem fl_X2_112 : FL RX2 112 6 0 := ⟨_, cf_6, by decide, rfl, Or.inr ⟨"LowLand", nb_of 216 (by decide +kernel) rfl⟩⟩
set_option maxRecDepth 20000 in
theorem fl_X2_113 : FL RX2 113 1 2 := ⟨_, cf_1, by decide, rfl, Or.inr ⟨"LowLand", nb_of 248 (by decide +kernel) rfl⟩⟩
set_option maxRecDepth 20000 in
theorem fl_X2_124 : FL RX2 124 7 4 := ⟨_, cf_7, by decide, rfl, Or.inr ⟨"LowLand", nb_of 156 (by decide +kernel) rfl⟩⟩
set_option maxRecDepth 20000 in
theorem fw_X2_124 : FW RX2 124 7 4 .int := ⟨fl_X2_124, fun q h => by cases (Option.some.inj h); exact ⟨rfl, by decide +kernel⟩⟩
set_option maxRecDepth 20000 in
theorem fl_X2_125 : FL RX2 125 1 0 := ⟨_, cf_1, by decide, rfl, Or.inr ⟨"LowLand", nb_of 242 (by decide +kernel) rfl⟩⟩
set_option maxRecDepth 20000 in
theorem fl_X2_134 : FL RX2 134 6 2 := ⟨_, cf_6, by decide, rfl, Or.inr ⟨"LowLand", nb_of 220 (by decide +kernel) rfl⟩⟩
set_option maxRecDepth 20000 in
theorem fl_X2_142 : FL RX2 142 7 0 := ⟨_, cf_7, by decide, rfl, Or.inr ⟨"LowLand", nb_of 148 (by decide +kernel) rfl⟩⟩
set_option maxRecDepth 20000 in
theorem fl_X2_143 : FL RX2 143 7 1 := ⟨_, cf_7, by decide, rfl, Or.inr ⟨"LowLand", nb_of 150 (by decide +kernel) rfl⟩⟩
set_option maxRecDepth 20000 in
theorem fl_X2_147 : FL RX2 147 7 2 := ⟨_, cf_7, by decide, rfl, Or.inr ⟨"LowLand", nb_of 152 (by decide +kernel) rfl⟩⟩
set_option maxRecDepth 20000 in
theorem fl_X2_155 : FL RX2 155 7 3 := ⟨_, cf_7, by decide, rfl, Or.inr ⟨"LowLand", nb_of 154 (by decide +kernel) rfl⟩⟩
set_option maxRecDepth 20000 in
theorem fl_X2_162 : FL RX2 162 4 2 := ⟨_, cf_4, by decide, rfl, Or.inr ⟨"LowLand", nb_of 180 (by decide +kernel) rfl⟩⟩
set_option maxRecDepth 20000 in
theorem fl_X2_167 : FL RX2 167 6 1 := ⟨_, cf_6, by decide, rfl, Or.inr ⟨"LowLand", nb_of 218 (by decide +kernel) rfl⟩⟩
set_option maxRecDepth 20000 in
theorem fl_X3_11 : FL RX3 11 3 2 := ⟨_, cf_3, by decide, rfl, Or.inl (tb_of 329 (by decide +kernel) rfl)⟩
set_option maxRecDepth 20000 in
theorem fl_X3_19 : FL RX3 19 3 3 := ⟨_, cf_3, by decide, rfl, Or.inl (tb_of 330 (by decide +kernel) rfl)⟩
set_option maxRecDepth 20000 in
theorem fl_X3_23 : FL RX3 23 3 0 := ⟨_, cf_3, by decide, rfl, Or.inl (tb_of 327 (by decide +kernel) rfl)⟩
set_option maxRecDepth 20000 in
theorem fl_X3_27 : FL RX3 27 3 1 := ⟨_, cf_3, by decide, rfl, Or.inl (tb_of 328 (by decide +kernel) rfl)⟩
set_option maxRecDepth 20000 in
theorem fl_X3_31 : FL RX3 31 3 4 := ⟨_, cf_3, by decide, rfl, Or.inl (tb_of 331 (by decide +kernel) rfl)⟩
set_option maxRecDepth 20000 in
theorem fw_X3_31 : FW RX3 31 3 4 .int := ⟨fl_X3_31, fun q h => by cases (Option.some.inj h); exact ⟨rfl, by decide +kernel⟩⟩
set_option maxRecDepth 20000 in
theorem fl_X3_35 : FL RX3 35 3 5 := ⟨_, cf_3, by decide, rfl, Or.inl (tb_of 332 (by decide +kernel) rfl)⟩
set_option maxRecDepth 20000 in
theorem fw_X3_35 : FW RX3 35 3 5 .int := ⟨fl_X3_35, fun q h => by cases (Option.some.inj h); exact ⟨rfl, by decide +kernel⟩⟩
set_option maxRecDepth 20000 in
theorem fl_X3_38 : FL RX3 38 3 6 := ⟨_, cf_3, by decide, rfl, Or.inl (tb_of 334 (by decide +kernel) rfl)⟩
set_option maxRecDepth 20000 in
theorem fw_X3_38 : FW RX3 38 3 6 .long := ⟨fl_X3_38, fun q h => by cases (Option.some.inj h); exact ⟨rfl, by decide +kernel⟩⟩
set_option maxRecDepth 20000 in
theorem fl_X3_44 : FL RX3 44 3 7 := ⟨_, cf_3, by decide, rfl, Or.inl (tb_of 336 (by decide +kernel) rfl)⟩
set_option maxRecDepth 20000 in
theorem fw_X3_44 : FW RX3 44 3 7 .long := ⟨fl_X3_44, fun q h => by cases (Option.some.inj h); exact ⟨rfl, by decide +kernel⟩⟩
set_option maxRecDepth 20000 in
theorem fl_X3_54 : FL RX3 54 2 2 := ⟨_, cf_2, by decide, rfl, Or.inr ⟨"LowLand", nb_of 266 (by decide +kernel) rfl⟩⟩
set_option maxRecDepth 20000 in
theorem fl_X3_66 : FL RX3 66 2 7 := ⟨_, cf_2, by decide, rfl, Or.inr ⟨"LowLand", nb_of 277 (by decide +kernel) rfl⟩⟩
set_option maxRecDepth 20000 in
theorem fw_X3_66 : FW RX3 66 2 7 .int := ⟨fl_X3_66, fun q h => by cases (Option.some.inj h); exact ⟨rfl, by decide +kernel⟩⟩
set_option maxRecDepth 20000 in
theorem fl_X3_97 : FL RX3 97 4 3 := ⟨_, cf_4, by decide, rfl, Or.inr ⟨"LowLand", nb_of 182 (by decide +kernel) rfl⟩⟩
set_option maxRecDepth 20000 in
theorem fl_X3_110 : FL RX3 110 2 0 := ⟨_, cf_2, by decide, rfl, Or.inr ⟨"LowLand", nb_of 262 (by decide +kernel) rfl⟩⟩
set_option maxRecDepth 20000 in
theorem fl_X3_114 : FL RX3 114 0 4 := ⟨_, cf_0, by decide, rfl, Or.inr ⟨"LowLand", nb_of 112 (by decide +kernel) rfl⟩⟩
set_option maxRecDepth 20000 in
theorem fl_X3_119 : FL RX3 119 0 7 := ⟨_, cf_0, by decide, rfl, Or.inr ⟨"LowLand", nb_of 121 (by decide +kernel) rfl⟩⟩
set_option maxRecDepth 20000 in
theorem fw_X3_119 : FW RX3 119 0 7 .int := ⟨fl_X3_119, fun q h => by cases (Option.some.inj h); exact ⟨rfl, by decide +kernel⟩⟩
set_option maxRecDepth 20000 in
theorem fl_X3_128 : FL RX3 128 4 6 := ⟨_, cf_4, by decide, rfl, Or.inr ⟨"LowLand", nb_of 187 (by decide +kernel) rfl⟩⟩
set_option maxRecDepth 20000 in
theorem fw_X3_128 : FW RX3 128 4 6 .int := ⟨fl_X3_128, fun q h => by cases (Option.some.inj h); exact ⟨rfl, by decide +kernel⟩⟩
set_option maxRecDepth 20000 in
theorem fl_X3_134 : FL RX3 134 8 0 := ⟨_, cf_8, by decide, rfl, Or.inr ⟨"LowLand", nb_of 309 (by decide +kernel) rfl⟩⟩
set_option maxRecDepth 20000 in
theorem fl_X4_9 : FL RX4 9 4 0 := ⟨_, cf_4, by decide, rfl, Or.inl (tb_of 175 (by decide +kernel) rfl)⟩
set_option maxRecDepth 20000 in
theorem fl_X4_15 : FL RX4 15 4 1 := ⟨_, cf_4, by decide, rfl, Or.inl (tb_of 177 (by decide +kernel) rfl)⟩
set_option maxRecDepth 20000 in
theorem fl_X4_18 : FL RX4 18 4 2 := ⟨_, cf_4, by decide, rfl, Or.inl (tb_of 179 (by decide +kernel) rfl)⟩
set_option maxRecDepth 20000 in
theorem fl_X4_21 : FL RX4 21 4 3 := ⟨_, cf_4, by decide, rfl, Or.inl (tb_of 181 (by decide +kernel) rfl)⟩
set_option maxRecDepth 20000 in
theorem fl_X4_24 : FL RX4 24 4 4 := ⟨_, cf_4, by decide, rfl, Or.inl (tb_of 183 (by decide +kernel) rfl)⟩
set_option maxRecDepth 20000 in
theorem fl_X4_27 : FL RX4 27 4 5 := ⟨_, cf_4, by decide, rfl, Or.inl (tb_of 184 (by decide +kernel) rfl)⟩
set_option maxRecDepth 20000 in
theorem fl_X4_30 : FL RX4 30 4 7 := ⟨_, cf_4, by decide, rfl, Or.inl (tb_of 189 (by decide +kernel) rfl)⟩
set_option maxRecDepth 20000 in
theorem fw_X4_30 : FW RX4 30 4 7 .int := ⟨fl_X4_30, fun q h => by cases (Option.some.inj h); exact ⟨rfl, by decide +kernel⟩⟩
set_option maxRecDepth 20000 in
theorem fl_X4_34 : FL RX4 34 4 6 := ⟨_, cf_4, by decide, rfl, Or.inl (tb_of 186 (by decide +kernel) rfl)⟩
set_option maxRecDepth 20000 in
theorem fw_X4_34 : FW RX4 34 4 6 .int := ⟨fl_X4_34, fun q h => by cases (Option.some.inj h); exact ⟨rfl, by decide +kernel⟩⟩
set_option maxRecDepth 20000 in
theorem fl_X5_11 : FL RX5 11 5 0 := ⟨_, cf_5, by decide, rfl, Or.inl (tb_of 363 (by decide +kernel) rfl)⟩
set_option maxRecDepth 20000 in
theorem fl_X5_16 : FL RX5 16 5 1 := ⟨_, cf_5, by decide, rfl, Or.inl (tb_of 365 (by decide +kernel) rfl)⟩
set_option maxRecDepth 20000 in
theorem fl_X5_20 : FL RX5 20 5 2 := ⟨_, cf_5, by decide, rfl, Or.inl (tb_of 366 (by decide +kernel) rfl)⟩
set_option maxRecDepth 20000 in
theorem fl_X6_9 : FL RX6 9 6 0 := ⟨_, cf_6, by decide, rfl, Or.inl (tb_of 215 (by decide +kernel) rfl)⟩
set_option maxRecDepth 20000 in
theorem fl_X6_15 : FL RX6 15 6 1 := ⟨_, cf_6, by decide, rfl, Or.inl (tb_of 217 (by decide +kernel) rfl)⟩
set_option maxRecDepth 20000 in
theorem fl_X6_18 : FL RX6 18 6 2 := ⟨_, cf_6, by decide, rfl, Or.inl (tb_of 219 (by decide +kernel) rfl)⟩
set_option maxRecDepth 20000 in
theorem fl_X6_22 : FL RX6 22 6 3 := ⟨_, cf_6, by decide, rfl, Or.inl (tb_of 222 (by decide +kernel) rfl)⟩
set_option maxRecDepth 20000 in
theorem fw_X6_22 : FW RX6 22 6 3 .int := ⟨fl_X6_22, fun q h => by cases (Option.some.inj h); exact ⟨rfl, by decide +kernel⟩⟩
set_option maxRecDepth 20000 in
theorem fl_X7_9 : FL RX7 9 7 0 := ⟨_, cf_7, by decide, rfl, Or.inl (tb_of 147 (by decide +kernel) rfl)⟩
set_option maxRecDepth 20000 in
theorem fl_X7_15 : FL RX7 15 7 1 := ⟨_, cf_7, by decide, rfl, Or.inl (tb_of 149 (by decide +kernel) rfl)⟩
set_option maxRecDepth 20000 in
theorem fl_X7_18 : FL RX7 18 7 2 := ⟨_, cf_7, by decide, rfl, Or.inl (tb_of 151 (by decide +kernel) rfl)⟩
set_option maxRecDepth 20000 in
theorem fl_X7_21 : FL RX7 21 7 3 := ⟨_, cf_7, by decide, rfl, Or.inl (tb_of 153 (by decide +kernel) rfl)⟩
set_option maxRecDepth 20000 in
theorem fl_X7_24 : FL RX7 24 7 4 := ⟨_, cf_7, by decide, rfl, Or.inl (tb_of 155 (by decide +kernel) rfl)⟩
set_option maxRecDepth 20000 in
theorem fw_X7_24 : FW RX7 24 7 4 .int := ⟨fl_X7_24, fun q h => by cases (Option.some.inj h); exact ⟨rfl, by decide +kernel⟩⟩
set_option maxRecDepth 20000 in
theorem fl_X8_11 : FL RX8 11 8 0 := ⟨_, cf_8, by decide, rfl, Or.inl (tb_of 308 (by decide +kernel) rfl)⟩
set_option maxRecDepth 20000 in
theorem fl_X8_16 : FL RX8 16 8 1 := ⟨_, cf_8, by decide, rfl, Or.inl (tb_of 311 (by decide +kernel) rfl)⟩
set_option maxRecDepth 20000 in
theorem fw_X8_16 : FW RX8 16 8 1 .int := ⟨fl_X8_16, fun q h => by cases (Option.some.inj h); exact ⟨rfl, by decide +kernel⟩⟩
set_option maxRecDepth 20000 in
theorem fl_X10_7 : FL RX10 7 10 1 := ⟨_, cf_10, by decide, rfl, Or.inl (tb_of 745 (by decide +kernel) rfl)⟩
set_option maxRecDepth 20000 in
theorem fl_X10_13 : FL RX10 13 10 2 := ⟨_, cf_10, by decide, rfl, Or.inl (tb_of 746 (by decide +kernel) rfl)⟩
set_option maxRecDepth 20000 in
theorem fl_X10_16 : FL RX10 16 10 3 := ⟨_, cf_10, by decide, rfl, Or.inl (tb_of 747 (by decide +kernel) rfl)⟩
set_option maxRecDepth 20000 in
theorem fl_X10_19 : FL RX10 19 10 4 := ⟨_, cf_10, by decide, rfl, Or.inl (tb_of 748 (by decide +kernel) rfl)⟩
set_option maxRecDepth 20000 in
theorem fl_X10_22 : FL RX10 22 10 5 := ⟨_, cf_10, by decide, rfl, Or.inl (tb_of 749 (by decide +kernel) rfl)⟩
set_option maxRecDepth 20000 in
theorem fl_X10_25 : FL RX10 25 10 6 := ⟨_, cf_10, by decide, rfl, Or.inl (tb_of 750 (by decide +kernel) rfl)⟩
set_option maxRecDepth 20000 in
theorem fl_X10_28 : FL RX10 28 10 7 := ⟨_, cf_10, by decide, rfl, Or.inl (tb_of 751 (by decide +kernel) rfl)⟩
set_option maxRecDepth 20000 in
theorem fl_X10_31 : FL RX10 31 10 9 := ⟨_, cf_10, by decide, rfl, Or.inl (tb_of 753 (by decide +kernel) rfl)⟩
set_option maxRecDepth 20000 in
theorem fl_X10_34 : FL RX10 34 10 10 := ⟨_, cf_10, by decide, rfl, Or.inl (tb_of 754 (by decide +kernel) rfl)⟩
set_option maxRecDepth 20000 in
theorem fl_X10_37 : FL RX10 37 10 11 := ⟨_, cf_10, by decide, rfl, Or.inl (tb_of 755 (by decide +kernel) rfl)⟩
set_option maxRecDepth 20000 in
theorem fl_X10_40 : FL RX10 40 10 12 := ⟨_, cf_10, by decide, rfl, Or.inl (tb_of 756 (by decide +kernel) rfl)⟩
set_option maxRecDepth 20000 in
theorem fl_X10_43 : FL RX10 43 10 14 := ⟨_, cf_10, by decide, rfl, Or.inl (tb_of 758 (by decide +kernel) rfl)⟩
set_option maxRecDepth 20000 in
theorem fl_X10_46 : FL RX10 46 10 15 := ⟨_, cf_10, by decide, rfl, Or.inl (tb_of 759 (by decide +kernel) rfl)⟩
set_option maxRecDepth 20000 in
theorem fl_X10_49 : FL RX10 49 10 16 := ⟨_, cf_10, by decide, rfl, Or.inl (tb_of 760 (by decide +kernel) rfl)⟩
set_option maxRecDepth 20000 in
theorem fl_X10_52 : FL RX10 52 10 17 := ⟨_, cf_10, by decide, rfl, Or.inl (tb_of 761 (by decide +kernel) rfl)⟩
set_option maxRecDepth 20000 in
theorem fl_X10_55 : FL RX10 55 10 18 := ⟨_, cf_10, by decide, rfl, Or.inl (tb_of 762 (by decide +kernel) rfl)⟩
set_option maxRecDepth 20000 in
theorem fl_X10_58 : FL RX10 58 10 19 := ⟨_, cf_10, by decide, rfl, Or.inl (tb_of 763 (by decide +kernel) rfl)⟩
set_option maxRecDepth 20000 in
theorem fl_X10_62 : FL RX10 62 10 20 := ⟨_, cf_10, by decide, rfl, Or.inl (tb_of 764 (by decide +kernel) rfl)⟩
set_option maxRecDepth 20000 in
theorem fl_X10_65 : FL RX10 65 10 22 := ⟨_, cf_10, by decide, rfl, Or.inl (tb_of 766 (by decide +kernel) rfl)⟩
set_option maxRecDepth 20000 in
theorem fl_X10_68 : FL RX10 68 10 23 := ⟨_, cf_10, by decide, rfl, Or.inl (tb_of 767 (by decide +kernel) rfl)⟩
set_option maxRecDepth 20000 in
theorem fl_X10_71 : FL RX10 71 10 24 := ⟨_, cf_10, by decide, rfl, Or.inl (tb_of 768 (by decide +kernel) rfl)⟩
set_option maxRecDepth 20000 in
theorem fl_X10_74 : FL RX10 74 10 25 := ⟨_, cf_10, by decide, rfl, Or.inl (tb_of 769 (by decide +kernel) rfl)⟩
set_option maxRecDepth 20000 in
theorem fl_X10_77 : FL RX10 77 10 26 := ⟨_, cf_10, by decide, rfl, Or.inl (tb_of 770 (by decide +kernel) rfl)⟩
set_option maxRecDepth 20000 in
theorem fl_X10_80 : FL RX10 80 10 29 := ⟨_, cf_10, by decide, rfl, Or.inl (tb_of 773 (by decide +kernel) rfl)⟩
set_option maxRecDepth 20000 in
theorem fl_X10_83 : FL RX10 83 10 30 := ⟨_, cf_10, by decide, rfl, Or.inl (tb_of 774 (by decide +kernel) rfl)⟩
set_option maxRecDepth 20000 in
theorem fl_X10_86 : FL RX10 86 10 31 := ⟨_, cf_10, by decide, rfl, Or.inl (tb_of 775 (by decide +kernel) rfl)⟩
set_option maxRecDepth 20000 in
theorem fl_X10_89 : FL RX10 89 10 33 := ⟨_, cf_10, by decide, rfl, Or.inl (tb_of 777 (by decide +kernel) rfl)⟩
set_option maxRecDepth 20000 in
theorem fl_X10_92 : FL RX10 92 10 34 := ⟨_, cf_10, by decide, rfl, Or.inl (tb_of 778 (by decide +kernel) rfl)⟩
set_option maxRecDepth 20000 in
theorem fl_X10_95 : FL RX10 95 10 35 := ⟨_, cf_10, by decide, rfl, Or.inl (tb_of 779 (by decide +kernel) rfl)⟩
set_option maxRecDepth 20000 in
theorem fl_X10_98 : FL RX10 98 10 36 := ⟨_, cf_10, by decide, rfl, Or.inl (tb_of 780 (by decide +kernel) rfl)⟩
set_option maxRecDepth 20000 in
theorem fl_X10_101 : FL RX10 101 10 37 := ⟨_, cf_10, by decide, rfl, Or.inl (tb_of 781 (by decide +kernel) rfl)⟩
set_option maxRecDepth 20000 in
theorem fl_X10_104 : FL RX10 104 10 41 := ⟨_, cf_10, by decide, rfl, Or.inl (tb_of 785 (by decide +kernel) rfl)⟩
set_option maxRecDepth 20000 in
theorem fl_X10_107 : FL RX10 107 10 42 := ⟨_, cf_10, by decide, rfl, Or.inl (tb_of 786 (by decide +kernel) rfl)⟩
set_option maxRecDepth 20000 in
theorem fl_X10_110 : FL RX10 110 10 43 := ⟨_, cf_10, by decide, rfl, Or.inl (tb_of 787 (by decide +kernel) rfl)⟩
set_option maxRecDepth 20000 in
theorem fl_X10_113 : FL RX10 113 10 0 := ⟨_, cf_10, by decide, rfl, Or.inl (tb_of 744 (by decide +kernel) rfl)⟩
set_option maxRecDepth 20000 in
theorem fw_X10_113 : FW RX10 113 10 0 .int := ⟨fl_X10_113, fun q h => by cases (Option.some.inj h); exact ⟨rfl, by decide +kernel⟩⟩
set_option maxRecDepth 20000 in
theorem fl_X10_147 : FL RX10 147 10 8 := ⟨_, cf_10, by decide, rfl, Or.inl (tb_of 752 (by decide +kernel) rfl)⟩
set_option maxRecDepth 20000 in
theorem fw_X10_147 : FW RX10 147 10 8 .int := ⟨fl_X10_147, fun q h => by cases (Option.some.inj h); exact ⟨rfl, by decide +kernel⟩⟩
set_option maxRecDepth 20000 in
theorem fl_X10_154 : FL RX10 154 10 13 := ⟨_, cf_10, by decide, rfl, Or.inl (tb_of 757 (by decide +kernel) rfl)⟩
set_option maxRecDepth 20000 in
theorem fw_X10_154 : FW RX10 154 10 13 .int := ⟨fl_X10_154, fun q h => by cases (Option.some.inj h); exact ⟨rfl, by decide +kernel⟩⟩
set_option maxRecDepth 20000 in
theorem fl_X10_157 : FL RX10 157 10 21 := ⟨_, cf_10, by decide, rfl, Or.inl (tb_of 765 (by decide +kernel) rfl)⟩
set_option maxRecDepth 20000 in
theorem fw_X10_157 : FW RX10 157 10 21 .int := ⟨fl_X10_157, fun q h => by cases (Option.some.inj h); exact ⟨rfl, by decide +kernel⟩⟩
set_option maxRecDepth 20000 in
theorem fl_X10_160 : FL RX10 160 10 27 := ⟨_, cf_10, by decide, rfl, Or.inl (tb_of 771 (by decide +kernel) rfl)⟩
set_option maxRecDepth 20000 in
theorem fw_X10_160 : FW RX10 160 10 27 .int := ⟨fl_X10_160, fun q h => by cases (Option.some.inj h); exact ⟨rfl, by decide +kernel⟩⟩
set_option maxRecDepth 20000 in
theorem fl_X10_179 : FL RX10 179 10 28 := ⟨_, cf_10, by decide, rfl, Or.inl (tb_of 772 (by decide +kernel) rfl)⟩
set_option maxRecDepth 20000 in
theorem fw_X10_179 : FW RX10 179 10 28 .int := ⟨fl_X10_179, fun q h => by cases (Option.some.inj h); exact ⟨rfl, by decide +kernel⟩⟩
set_option maxRecDepth 20000 in
theorem fl_X10_193 : FL RX10 193 10 32 := ⟨_, cf_10, by decide, rfl, Or.inl (tb_of 776 (by decide +kernel) rfl)⟩
set_option maxRecDepth 20000 in
theorem fw_X10_193 : FW RX10 193 10 32 .int := ⟨fl_X10_193, fun q h => by cases (Option.some.inj h); exact ⟨rfl, by decide +kernel⟩⟩
set_option maxRecDepth 20000 in
theorem fl_X10_214 : FL RX10 214 10 38 := ⟨_, cf_10, by decide, rfl, Or.inl (tb_of 782 (by decide +kernel) rfl)⟩
set_option maxRecDepth 20000 in
theorem fw_X10_214 : FW RX10 214 10 38 .int := ⟨fl_X10_214, fun q h => by cases (Option.some.inj h); exact ⟨rfl, by decide +kernel⟩⟩
set_option maxRecDepth 20000 in
theorem fl_X10_230 : FL RX10 230 10 39 := ⟨_, cf_10, by decide, rfl, Or.inl (tb_of 783 (by decide +kernel) rfl)⟩
set_option maxRecDepth 20000 in
theorem fw_X10_230 : FW RX10 230 10 39 .long := ⟨fl_X10_230, fun q h => by cases (Option.some.inj h); exact ⟨rfl, by decide +kernel⟩⟩
set_option maxRecDepth 20000 in
theorem fl_X10_234 : FL RX10 234 10 40 := ⟨_, cf_10, by decide, rfl, Or.inl (tb_of 784 (by decide +kernel) rfl)⟩
set_option maxRecDepth 20000 in
theorem fw_X10_234 : FW RX10 234 10 40 .long := ⟨fl_X10_234, fun q h => by cases (Option.some.inj h); exact ⟨rfl, by decide +kernel⟩⟩
set_option maxRecDepth 20000 in
theorem sh_0 : shp 0 = (0, 9, 0, [3, 34, 39, 66]) := by decide +kernel
set_option maxRecDepth 20000 in
theorem sh_1 : shp 1 = (0, 2, 0, [4, 12, 17, 24, 28, 32, 33, 0, 0]) := by decide +kernel
set_option maxRecDepth 20000 in
theorem sh_2 : shp 2 = (0, 0, 0, [5, 6, 7, 8, 9, 10, 11, 0]) := by decide +kernel
set_option maxRecDepth 20000 in
theorem sh_3 : shp 3 = (1, 0, 6, []) := by decide +kernel
set_option maxRecDepth 20000 in
theorem sh_4 : shp 4 = (1, 0, 6, []) := by decide +kernel
set_option maxRecDepth 20000 in
theorem sh_5 : shp 5 = (1, 0, 6, []) := by decide +kernel
set_option maxRecDepth 20000 in
theorem sh_6 : shp 6 = (1, 0, 6, []) := by decide +kernel
set_option maxRecDepth 20000 in
theorem sh_7 : shp 7 = (1, 0, 6, []) := by decide +kernel
set_option maxRecDepth 20000 in
theorem sh_8 : shp 8 = (1, 0, 6, []) := by decide +kernel
set_option maxRecDepth 20000 in
theorem sh_9 : shp 9 = (1, 0, 6, []) := by decide +kernel
set_option maxRecDepth 20000 in
theorem sh_10 : shp 10 = (0, 7, 0, [13, 14, 15, 16, 0]) := by decide +kernel
set_option maxRecDepth 20000 in
theorem sh_11 : shp 11 = (1, 0, 8, []) := by decide +kernel
set_option maxRecDepth 20000 in
theorem sh_12 : shp 12 = (1, 0, 8, []) := by decide +kernel
set_option maxRecDepth 20000 in
theorem sh_13 : shp 13 = (1, 0, 8, []) := by decide +kernel
set_option maxRecDepth 20000 in
theorem sh_14 : shp 14 = (1, 0, 8, []) := by decide +kernel
set_option maxRecDepth 20000 in
theorem sh_15 : shp 15 = (0, 4, 0, [18, 19, 20, 21, 22, 23, 0, 0]) := by decide +kernel
set_option maxRecDepth 20000 in
theorem sh_16 : shp 16 = (1, 0, 4, []) := by decide +kernel
set_option maxRecDepth 20000 in
theorem sh_17 : shp 17 = (1, 0, 4, []) := by decide +kernel
set_option maxRecDepth 20000 in
theorem sh_18 : shp 18 = (1, 0, 4, []) := by decide +kernel
set_option maxRecDepth 20000 in
theorem sh_19 : shp 19 = (1, 0, 4, []) := by decide +kernel
set_option maxRecDepth 20000 in
theorem sh_20 : shp 20 = (1, 0, 4, []) := by decide +kernel
set_option maxRecDepth 20000 in
theorem sh_21 : shp 21 = (1, 0, 4, []) := by decide +kernel
set_option maxRecDepth 20000 in
theorem sh_22 : shp 22 = (0, 6, 0, [25, 26, 27, 0]) := by decide +kernel
set_option maxRecDepth 20000 in
theorem sh_23 : shp 23 = (1, 0, 4, []) := by decide +kernel
set_option maxRecDepth 20000 in
theorem sh_24 : shp 24 = (1, 0, 4, []) := by decide +kernel
set_option maxRecDepth 20000 in
theorem sh_25 : shp 25 = (2, 1, 4, []) := by decide +kernel
set_option maxRecDepth 20000 in
theorem sh_26 : shp 26 = (0, 1, 0, [29, 30, 31]) := by decide +kernel
set_option maxRecDepth 20000 in
theorem sh_27 : shp 27 = (1, 0, 8, []) := by decide +kernel
set_option maxRecDepth 20000 in
theorem sh_28 : shp 28 = (1, 0, 4, []) := by decide +kernel
set_option maxRecDepth 20000 in
theorem sh_29 : shp 29 = (1, 0, 4, []) := by decide +kernel
set_option maxRecDepth 20000 in
theorem sh_30 : shp 30 = (1, 0, 24, []) := by decide +kernel
set_option maxRecDepth 20000 in
theorem sh_31 : shp 31 = (1, 0, 24, []) := by decide +kernel
set_option maxRecDepth 20000 in
theorem sh_32 : shp 32 = (0, 8, 0, [35, 0]) := by decide +kernel
set_option maxRecDepth 20000 in
theorem sh_33 : shp 33 = (3, 2, 3, [34]) := by decide +kernel
set_option maxRecDepth 20000 in
theorem sh_34 : shp 34 = (1, 0, 6, []) := by decide +kernel
set_option maxRecDepth 20000 in
theorem sh_35 : shp 35 = (1, 0, 6, []) := by decide +kernel
set_option maxRecDepth 20000 in
theorem sh_36 : shp 36 = (1, 0, 6, []) := by decide +kernel
set_option maxRecDepth 20000 in
theorem sh_37 : shp 37 = (0, 3, 0, [3, 34, 40, 62, 0, 0, 1, 1]) := by decide +kernel
set_option maxRecDepth 20000 in
theorem sh_38 : shp 38 = (3, 2, 21, [39]) := by decide +kernel
set_option maxRecDepth 20000 in
theorem sh_39 : shp 39 = (1, 0, 6, []) := by decide +kernel
set_option maxRecDepth 20000 in
theorem sh_40 : shp 40 = (1, 0, 6, []) := by decide +kernel
set_option maxRecDepth 20000 in
theorem sh_41 : shp 41 = (1, 0, 6, []) := by decide +kernel
set_option maxRecDepth 20000 in
theorem sh_42 : shp 42 = (1, 0, 6, []) := by decide +kernel
set_option maxRecDepth 20000 in
theorem sh_43 : shp 43 = (1, 0, 6, []) := by decide +kernel
set_option maxRecDepth 20000 in
theorem sh_44 : shp 44 = (1, 0, 6, []) := by decide +kernel
set_option maxRecDepth 20000 in
theorem sh_45 : shp 45 = (1, 0, 6, []) := by decide +kernel
set_option maxRecDepth 20000 in
theorem sh_46 : shp 46 = (1, 0, 6, []) := by decide +kernel
set_option maxRecDepth 20000 in
theorem sh_47 : shp 47 = (1, 0, 6, []) := by decide +kernel
set_option maxRecDepth 20000 in
theorem sh_48 : shp 48 = (1, 0, 6, []) := by decide +kernel
set_option maxRecDepth 20000 in
theorem sh_49 : shp 49 = (1, 0, 6, []) := by decide +kernel
set_option maxRecDepth 20000 in
theorem sh_50 : shp 50 = (1, 0, 6, []) := by decide +kernel
set_option maxRecDepth 20000 in
theorem sh_51 : shp 51 = (1, 0, 6, []) := by decide +kernel
set_option maxRecDepth 20000 in
theorem sh_52 : shp 52 = (1, 0, 6, []) := by decide +kernel
set_option maxRecDepth 20000 in
theorem sh_53 : shp 53 = (1, 0, 6, []) := by decide +kernel
set_option maxRecDepth 20000 in
theorem sh_54 : shp 54 = (1, 0, 6, []) := by decide +kernel
set_option maxRecDepth 20000 in
theorem sh_55 : shp 55 = (1, 0, 6, []) := by decide +kernel
set_option maxRecDepth 20000 in
theorem sh_56 : shp 56 = (1, 0, 6, []) := by decide +kernel
set_option maxRecDepth 20000 in
theorem sh_57 : shp 57 = (1, 0, 6, []) := by decide +kernel
set_option maxRecDepth 20000 in
theorem sh_58 : shp 58 = (1, 0, 6, []) := by decide +kernel
set_option maxRecDepth 20000 in
theorem sh_59 : shp 59 = (1, 0, 6, []) := by decide +kernel
set_option maxRecDepth 20000 in
theorem sh_60 : shp 60 = (0, 1, 0, [63, 64, 65]) := by decide +kernel
set_option maxRecDepth 20000 in
theorem sh_61 : shp 61 = (1, 0, 8, []) := by decide +kernel
set_option maxRecDepth 20000 in
theorem sh_62 : shp 62 = (1, 0, 4, []) := by decide +kernel
set_option maxRecDepth 20000 in
theorem sh_63 : shp 63 = (1, 0, 4, []) := by decide +kernel
set_option maxRecDepth 20000 in
theorem sh_64 : shp 64 = (0, 5, 0, [67, 72, 73]) := by decide +kernel
set_option maxRecDepth 20000 in
theorem sh_65 : shp 65 = (3, 2, 4, [66]) := by decide +kernel
set_option maxRecDepth 20000 in
theorem sh_66 : shp 66 = (1, 0, 60, []) := by decide +kernel
set_option maxRecDepth 20000 in
theorem sh_67 : shp 67 = (1, 0, 60, []) := by decide +kernel
set_option maxRecDepth 20000 in
theorem sh_68 : shp 68 = (1, 0, 60, []) := by decide +kernel
set_option maxRecDepth 20000 in
theorem sh_69 : shp 69 = (1, 0, 60, []) := by decide +kernel
set_option maxRecDepth 20000 in
theorem sh_70 : shp 70 = (1, 0, 4, []) := by decide +kernel
set_option maxRecDepth 20000 in
theorem sh_71 : shp 71 = (1, 0, 4, []) := by decide +kernel
set_option maxRecDepth 20000 in
theorem sh_72 : shp 72 = (0, 10, 0, [0, 75, 76, 77, 78, 79, 80, 81, 0, 82, 83, 84, 85, 0, 86, 87, 88, 89, 90, 91, 92, 0, 93, 94, 95, 96, 97, 0, 0, 98, 99, 100, 0, 101, 102, 103, 104, 105, 0, 1, 1, 106, 107, 108]) := by decide +kernel
set_option maxRecDepth 20000 in
theorem sh_73 : shp 73 = (1, 0, 6, []) := by decide +kernel
set_option maxRecDepth 20000 in
theorem sh_74 : shp 74 = (1, 0, 6, []) := by decide +kernel
set_option maxRecDepth 20000 in
theorem sh_75 : shp 75 = (1, 0, 6, []) := by decide +kernel
set_option maxRecDepth 20000 in
theorem sh_76 : shp 76 = (1, 0, 6, []) := by decide +kernel
set_option maxRecDepth 20000 in
theorem sh_77 : shp 77 = (1, 0, 6, []) := by decide +kernel
set_option maxRecDepth 20000 in
theorem sh_78 : shp 78 = (1, 0, 6, []) := by decide +kernel
set_option maxRecDepth 20000 in
theorem sh_79 : shp 79 = (1, 0, 6, []) := by decide +kernel
set_option maxRecDepth 20000 in
theorem sh_80 : shp 80 = (1, 0, 8, []) := by decide +kernel
set_option maxRecDepth 20000 in
theorem sh_81 : shp 81 = (1, 0, 8, []) := by decide +kernel
set_option maxRecDepth 20000 in
theorem sh_82 : shp 82 = (1, 0, 8, []) := by decide +kernel
set_option maxRecDepth 20000 in
theorem sh_83 : shp 83 = (1, 0, 8, []) := by decide +kernel
set_option maxRecDepth 20000 in
theorem sh_84 : shp 84 = (1, 0, 4, []) := by decide +kernel
set_option maxRecDepth 20000 in
theorem sh_85 : shp 85 = (1, 0, 4, []) := by decide +kernel
set_option maxRecDepth 20000 in
theorem sh_86 : shp 86 = (1, 0, 4, []) := by decide +kernel
set_option maxRecDepth 20000 in
theorem sh_87 : shp 87 = (1, 0, 4, []) := by decide +kernel
set_option maxRecDepth 20000 in
theorem sh_88 : shp 88 = (1, 0, 4, []) := by decide +kernel
set_option maxRecDepth 20000 in
theorem sh_89 : shp 89 = (2, 1, 4, []) := by decide +kernel
set_option maxRecDepth 20000 in
theorem sh_90 : shp 90 = (1, 0, 4, []) := by decide +kernel
set_option maxRecDepth 20000 in
theorem sh_91 : shp 91 = (1, 0, 4, []) := by decide +kernel
set_option maxRecDepth 20000 in
theorem sh_92 : shp 92 = (1, 0, 4, []) := by decide +kernel
set_option maxRecDepth 20000 in
theorem sh_93 : shp 93 = (2, 1, 4, []) := by decide +kernel
set_option maxRecDepth 20000 in
theorem sh_94 : shp 94 = (1, 0, 24, []) := by decide +kernel
set_option maxRecDepth 20000 in
theorem sh_95 : shp 95 = (1, 0, 24, []) := by decide +kernel
set_option maxRecDepth 20000 in
theorem sh_96 : shp 96 = (1, 0, 8, []) := by decide +kernel
set_option maxRecDepth 20000 in
theorem sh_97 : shp 97 = (1, 0, 4, []) := by decide +kernel
set_option maxRecDepth 20000 in
theorem sh_98 : shp 98 = (1, 0, 4, []) := by decide +kernel
set_option maxRecDepth 20000 in
theorem sh_99 : shp 99 = (1, 0, 18, []) := by decide +kernel
set_option maxRecDepth 20000 in
theorem sh_100 : shp 100 = (1, 0, 6, []) := by decide +kernel
set_option maxRecDepth 20000 in
theorem sh_101 : shp 101 = (1, 0, 6, []) := by decide +kernel
set_option maxRecDepth 20000 in
theorem sh_102 : shp 102 = (1, 0, 6, []) := by decide +kernel
set_option maxRecDepth 20000 in
theorem sh_103 : shp 103 = (1, 0, 16, []) := by decide +kernel
set_option maxRecDepth 20000 in
theorem sh_104 : shp 104 = (1, 0, 4, []) := by decide +kernel
set_option maxRecDepth 20000 in
theorem sh_105 : shp 105 = (1, 0, 4, []) := by decide +kernel
set_option maxRecDepth 20000 in
theorem sh_106 : shp 106 = (1, 0, 240, []) := by decide +kernel
abbrev mX0_add : MI := (yX0_add, cX0_add, 4, (some .int))
set_option maxRecDepth 20000 in
theorem ok_X0_add : MOk mX0_add := ⟨by decide +kernel, tb_of 401 (by decide +kernel) rfl, tb_of 69 (by decide +kernel) rfl, ⟨by decide +kernel, by decide +kernel⟩, by decide⟩
abbrev mX0_has : MI := (yX0_has, cX0_has, 2, (some .boolean))
set_option maxRecDepth 20000 in
theorem ok_X0_has : MOk mX0_has := ⟨by decide +kernel, tb_of 409 (by decide +kernel) rfl, tb_of 69 (by decide +kernel) rfl, ⟨by decide +kernel, by decide +kernel⟩, by decide⟩
abbrev mX0_level : MI := (yX0_level, cX0_level, 3, (some .int))
set_option maxRecDepth 20000 in
theorem ok_X0_level : MOk mX0_level := ⟨by decide +kernel, tb_of 418 (by decide +kernel) rfl, tb_of 69 (by decide +kernel) rfl, ⟨by decide +kernel, by decide +kernel⟩, by decide⟩
abbrev mX0_breach : MI := (yX0_breach, cX0_breach, 4, (some .int))
set_option maxRecDepth 20000 in
theorem ok_X0_breach : MOk mX0_breach := ⟨by decide +kernel, tb_of 422 (by decide +kernel) rfl, tb_of 69 (by decide +kernel) rfl, ⟨by decide +kernel, by decide +kernel⟩, by decide⟩
abbrev mX0_allBreach : MI := (yX0_allBreach, cX0_allBreach, 5, (some .long))
set_option maxRecDepth 20000 in
theorem ok_X0_allBreach : MOk mX0_allBreach := ⟨by decide +kernel, tb_of 648 (by decide +kernel) rfl, tb_of 69 (by decide +kernel) rfl, ⟨by decide +kernel, by decide +kernel⟩, by decide⟩
abbrev mX0_alarms : MI := (yX0_alarms, cX0_alarms, 3, (some .int))
set_option maxRecDepth 20000 in
theorem ok_X0_alarms : MOk mX0_alarms := ⟨by decide +kernel, tb_of 562 (by decide +kernel) rfl, tb_of 69 (by decide +kernel) rfl, ⟨by decide +kernel, by decide +kernel⟩, by decide⟩
abbrev mX0_allWater : MI := (yX0_allWater, cX0_allWater, 3, (some .int))
set_option maxRecDepth 20000 in
theorem ok_X0_allWater : MOk mX0_allWater := ⟨by decide +kernel, tb_of 737 (by decide +kernel) rfl, tb_of 69 (by decide +kernel) rfl, ⟨by decide +kernel, by decide +kernel⟩, by decide⟩
abbrev mX2_advance : MI := (yX2_advance, cX2_advance, 3, (some .int))
set_option maxRecDepth 20000 in
theorem ok_X2_advance : MOk mX2_advance := ⟨by decide +kernel, tb_of 513 (by decide +kernel) rfl, tb_of 68 (by decide +kernel) rfl, ⟨by decide +kernel, by decide +kernel⟩, by decide⟩
abbrev mX2_drain : MI := (yX2_drain, cX2_drain, 2, none)
set_option maxRecDepth 20000 in
theorem ok_X2_drain : MOk mX2_drain := ⟨by decide +kernel, tb_of 548 (by decide +kernel) rfl, tb_of 68 (by decide +kernel) rfl, ⟨by decide +kernel, by decide +kernel⟩, by decide⟩
abbrev mX2_cost : MI := (yX2_cost, cX2_cost, 3, (some .int))
set_option maxRecDepth 20000 in
theorem ok_X2_cost : MOk mX2_cost := ⟨by decide +kernel, tb_of 552 (by decide +kernel) rfl, tb_of 68 (by decide +kernel) rfl, ⟨by decide +kernel, by decide +kernel⟩, by decide⟩
abbrev mX2_move : MI := (yX2_move, cX2_move, 7, none)
set_option maxRecDepth 20000 in
theorem ok_X2_move : MOk mX2_move := ⟨by decide +kernel, tb_of 521 (by decide +kernel) rfl, tb_of 68 (by decide +kernel) rfl, ⟨by decide +kernel, by decide +kernel⟩, by decide⟩
abbrev mX2_passWeir : MI := (yX2_passWeir, cX2_passWeir, 12, (some .int))
set_option maxRecDepth 20000 in
theorem ok_X2_passWeir : MOk mX2_passWeir := ⟨by decide +kernel, tb_of 525 (by decide +kernel) rfl, tb_of 68 (by decide +kernel) rfl, ⟨by decide +kernel, by decide +kernel⟩, by decide⟩
abbrev mX2_passPump : MI := (yX2_passPump, cX2_passPump, 6, (some .int))
set_option maxRecDepth 20000 in
theorem ok_X2_passPump : MOk mX2_passPump := ⟨by decide +kernel, tb_of 536 (by decide +kernel) rfl, tb_of 68 (by decide +kernel) rfl, ⟨by decide +kernel, by decide +kernel⟩, by decide⟩
abbrev mX2_passSluice : MI := (yX2_passSluice, cX2_passSluice, 8, (some .int))
set_option maxRecDepth 20000 in
theorem ok_X2_passSluice : MOk mX2_passSluice := ⟨by decide +kernel, tb_of 544 (by decide +kernel) rfl, tb_of 68 (by decide +kernel) rfl, ⟨by decide +kernel, by decide +kernel⟩, by decide⟩
abbrev mX3_seek : MI := (yX3_seek, cX3_seek, 2, none)
set_option maxRecDepth 20000 in
theorem ok_X3_seek : MOk mX3_seek := ⟨by decide +kernel, tb_of 598 (by decide +kernel) rfl, tb_of 76 (by decide +kernel) rfl, ⟨by decide +kernel, by decide +kernel⟩, by decide⟩
abbrev mX3_grow : MI := (yX3_grow, cX3_grow, 14, none)
set_option maxRecDepth 20000 in
theorem ok_X3_grow : MOk mX3_grow := ⟨by decide +kernel, tb_of 614 (by decide +kernel) rfl, tb_of 76 (by decide +kernel) rfl, ⟨by decide +kernel, by decide +kernel⟩, by decide⟩
abbrev mX3_isBetter : MI := (yX3_isBetter, cX3_isBetter, 6, (some .boolean))
set_option maxRecDepth 20000 in
theorem ok_X3_isBetter : MOk mX3_isBetter := ⟨by decide +kernel, tb_of 638 (by decide +kernel) rfl, tb_of 76 (by decide +kernel) rfl, ⟨by decide +kernel, by decide +kernel⟩, by decide⟩
abbrev mX3_tells : MI := (yX3_tells, cX3_tells, 4, (some .boolean))
set_option maxRecDepth 20000 in
theorem ok_X3_tells : MOk mX3_tells := ⟨by decide +kernel, tb_of 628 (by decide +kernel) rfl, tb_of 76 (by decide +kernel) rfl, ⟨by decide +kernel, by decide +kernel⟩, by decide⟩
abbrev mX3_bitsOf : MI := (yX3_bitsOf, cX3_bitsOf, 3, (some .int))
set_option maxRecDepth 20000 in
theorem ok_X3_bitsOf : MOk mX3_bitsOf := ⟨by decide +kernel, tb_of 665 (by decide +kernel) rfl, tb_of 76 (by decide +kernel) rfl, ⟨by decide +kernel, by decide +kernel⟩, by decide⟩
abbrev mX3_isPlan : MI := (yX3_isPlan, cX3_isPlan, 4, (some .boolean))
set_option maxRecDepth 20000 in
theorem ok_X3_isPlan : MOk mX3_isPlan := ⟨by decide +kernel, tb_of 661 (by decide +kernel) rfl, tb_of 76 (by decide +kernel) rfl, ⟨by decide +kernel, by decide +kernel⟩, by decide⟩
abbrev mX3_isWell : MI := (yX3_isWell, cX3_isWell, 4, (some .boolean))
set_option maxRecDepth 20000 in
theorem ok_X3_isWell : MOk mX3_isWell := ⟨by decide +kernel, tb_of 669 (by decide +kernel) rfl, tb_of 76 (by decide +kernel) rfl, ⟨by decide +kernel, by decide +kernel⟩, by decide⟩
abbrev mX3_fits : MI := (yX3_fits, cX3_fits, 5, (some .boolean))
set_option maxRecDepth 20000 in
theorem ok_X3_fits : MOk mX3_fits := ⟨by decide +kernel, tb_of 624 (by decide +kernel) rfl, tb_of 76 (by decide +kernel) rfl, ⟨by decide +kernel, by decide +kernel⟩, by decide⟩
abbrev mX3_mayEnd : MI := (yX3_mayEnd, cX3_mayEnd, 5, (some .boolean))
set_option maxRecDepth 20000 in
theorem ok_X3_mayEnd : MOk mX3_mayEnd := ⟨by decide +kernel, tb_of 633 (by decide +kernel) rfl, tb_of 76 (by decide +kernel) rfl, ⟨by decide +kernel, by decide +kernel⟩, by decide⟩
abbrev mX3_costOf : MI := (yX3_costOf, cX3_costOf, 6, (some .long))
set_option maxRecDepth 20000 in
theorem ok_X3_costOf : MOk mX3_costOf := ⟨by decide +kernel, tb_of 673 (by decide +kernel) rfl, tb_of 76 (by decide +kernel) rfl, ⟨by decide +kernel, by decide +kernel⟩, by decide⟩
abbrev mX3_breachOf : MI := (yX3_breachOf, cX3_breachOf, 6, (some .long))
set_option maxRecDepth 20000 in
theorem ok_X3_breachOf : MOk mX3_breachOf := ⟨by decide +kernel, tb_of 677 (by decide +kernel) rfl, tb_of 76 (by decide +kernel) rfl, ⟨by decide +kernel, by decide +kernel⟩, by decide⟩
abbrev mX3_begin : MI := (yX3_begin, cX3_begin, 2, none)
set_option maxRecDepth 20000 in
theorem ok_X3_begin : MOk mX3_begin := ⟨by decide +kernel, tb_of 603 (by decide +kernel) rfl, tb_of 76 (by decide +kernel) rfl, ⟨by decide +kernel, by decide +kernel⟩, by decide⟩
abbrev mX3_tread : MI := (yX3_tread, cX3_tread, 10, (some .long))
set_option maxRecDepth 20000 in
theorem ok_X3_tread : MOk mX3_tread := ⟨by decide +kernel, tb_of 642 (by decide +kernel) rfl, tb_of 76 (by decide +kernel) rfl, ⟨by decide +kernel, by decide +kernel⟩, by decide⟩
abbrev mX4_add : MI := (yX4_add, cX4_add, 6, (some .int))
set_option maxRecDepth 20000 in
theorem ok_X4_add : MOk mX4_add := ⟨by decide +kernel, tb_of 440 (by decide +kernel) rfl, tb_of 71 (by decide +kernel) rfl, ⟨by decide +kernel, by decide +kernel⟩, by decide⟩
abbrev mX4_has : MI := (yX4_has, cX4_has, 2, (some .boolean))
set_option maxRecDepth 20000 in
theorem ok_X4_has : MOk mX4_has := ⟨by decide +kernel, tb_of 456 (by decide +kernel) rfl, tb_of 71 (by decide +kernel) rfl, ⟨by decide +kernel, by decide +kernel⟩, by decide⟩
abbrev mX4_isOn : MI := (yX4_isOn, cX4_isOn, 2, (some .boolean))
set_option maxRecDepth 20000 in
theorem ok_X4_isOn : MOk mX4_isOn := ⟨by decide +kernel, tb_of 464 (by decide +kernel) rfl, tb_of 71 (by decide +kernel) rfl, ⟨by decide +kernel, by decide +kernel⟩, by decide⟩
abbrev mX4_pausesAt : MI := (yX4_pausesAt, cX4_pausesAt, 3, (some .boolean))
set_option maxRecDepth 20000 in
theorem ok_X4_pausesAt : MOk mX4_pausesAt := ⟨by decide +kernel, tb_of 468 (by decide +kernel) rfl, tb_of 71 (by decide +kernel) rfl, ⟨by decide +kernel, by decide +kernel⟩, by decide⟩
abbrev mX4_mustStayOff : MI := (yX4_mustStayOff, cX4_mustStayOff, 3, (some .boolean))
set_option maxRecDepth 20000 in
theorem ok_X4_mustStayOff : MOk mX4_mustStayOff := ⟨by decide +kernel, tb_of 460 (by decide +kernel) rfl, tb_of 71 (by decide +kernel) rfl, ⟨by decide +kernel, by decide +kernel⟩, by decide⟩
abbrev mX4_mustRunOn : MI := (yX4_mustRunOn, cX4_mustRunOn, 3, (some .boolean))
set_option maxRecDepth 20000 in
theorem ok_X4_mustRunOn : MOk mX4_mustRunOn := ⟨by decide +kernel, tb_of 478 (by decide +kernel) rfl, tb_of 71 (by decide +kernel) rfl, ⟨by decide +kernel, by decide +kernel⟩, by decide⟩
abbrev mX4_put : MI := (yX4_put, cX4_put, 4, none)
set_option maxRecDepth 20000 in
theorem ok_X4_put : MOk mX4_put := ⟨by decide +kernel, tb_of 483 (by decide +kernel) rfl, tb_of 71 (by decide +kernel) rfl, ⟨by decide +kernel, by decide +kernel⟩, by decide⟩
abbrev mX4_awake : MI := (yX4_awake, cX4_awake, 5, (some .int))
set_option maxRecDepth 20000 in
theorem ok_X4_awake : MOk mX4_awake := ⟨by decide +kernel, tb_of 517 (by decide +kernel) rfl, tb_of 71 (by decide +kernel) rfl, ⟨by decide +kernel, by decide +kernel⟩, by decide⟩
abbrev mX4_inPlans : MI := (yX4_inPlans, cX4_inPlans, 1, (some .int))
set_option maxRecDepth 20000 in
theorem ok_X4_inPlans : MOk mX4_inPlans := ⟨by decide +kernel, tb_of 618 (by decide +kernel) rfl, tb_of 71 (by decide +kernel) rfl, ⟨by decide +kernel, by decide +kernel⟩, by decide⟩
abbrev mX5_clear : MI := (yX5_clear, cX5_clear, 4, none)
set_option maxRecDepth 20000 in
theorem ok_X5_clear : MOk mX5_clear := ⟨by decide +kernel, tb_of 697 (by decide +kernel) rfl, tb_of 77 (by decide +kernel) rfl, ⟨by decide +kernel, by decide +kernel⟩, by decide⟩
abbrev mX5_isNothing : MI := (yX5_isNothing, cX5_isNothing, 2, (some .boolean))
set_option maxRecDepth 20000 in
theorem ok_X5_isNothing : MOk mX5_isNothing := ⟨by decide +kernel, tb_of 705 (by decide +kernel) rfl, tb_of 77 (by decide +kernel) rfl, ⟨by decide +kernel, by decide +kernel⟩, by decide⟩
abbrev mX5_hasCell : MI := (yX5_hasCell, cX5_hasCell, 3, (some .boolean))
set_option maxRecDepth 20000 in
theorem ok_X5_hasCell : MOk mX5_hasCell := ⟨by decide +kernel, tb_of 709 (by decide +kernel) rfl, tb_of 77 (by decide +kernel) rfl, ⟨by decide +kernel, by decide +kernel⟩, by decide⟩
abbrev mX5_put : MI := (yX5_put, cX5_put, 4, none)
set_option maxRecDepth 20000 in
theorem ok_X5_put : MOk mX5_put := ⟨by decide +kernel, tb_of 713 (by decide +kernel) rfl, tb_of 77 (by decide +kernel) rfl, ⟨by decide +kernel, by decide +kernel⟩, by decide⟩
abbrev mX5_faultAs : MI := (yX5_faultAs, cX5_faultAs, 3, (some .int))
set_option maxRecDepth 20000 in
theorem ok_X5_faultAs : MOk mX5_faultAs := ⟨by decide +kernel, tb_of 721 (by decide +kernel) rfl, tb_of 77 (by decide +kernel) rfl, ⟨by decide +kernel, by decide +kernel⟩, by decide⟩
abbrev mX6_add : MI := (yX6_add, cX6_add, 3, (some .int))
set_option maxRecDepth 20000 in
theorem ok_X6_add : MOk mX6_add := ⟨by decide +kernel, tb_of 448 (by decide +kernel) rfl, tb_of 72 (by decide +kernel) rfl, ⟨by decide +kernel, by decide +kernel⟩, by decide⟩
abbrev mX6_has : MI := (yX6_has, cX6_has, 2, (some .boolean))
set_option maxRecDepth 20000 in
theorem ok_X6_has : MOk mX6_has := ⟨by decide +kernel, tb_of 491 (by decide +kernel) rfl, tb_of 72 (by decide +kernel) rfl, ⟨by decide +kernel, by decide +kernel⟩, by decide⟩
abbrev mX7_add : MI := (yX7_add, cX7_add, 5, (some .int))
set_option maxRecDepth 20000 in
theorem ok_X7_add : MOk mX7_add := ⟨by decide +kernel, tb_of 431 (by decide +kernel) rfl, tb_of 70 (by decide +kernel) rfl, ⟨by decide +kernel, by decide +kernel⟩, by decide⟩
abbrev mX7_has : MI := (yX7_has, cX7_has, 2, (some .boolean))
set_option maxRecDepth 20000 in
theorem ok_X7_has : MOk mX7_has := ⟨by decide +kernel, tb_of 571 (by decide +kernel) rfl, tb_of 70 (by decide +kernel) rfl, ⟨by decide +kernel, by decide +kernel⟩, by decide⟩
abbrev mX8_add : MI := (yX8_add, cX8_add, 1, (some .int))
set_option maxRecDepth 20000 in
theorem ok_X8_add : MOk mX8_add := ⟨by decide +kernel, tb_of 579 (by decide +kernel) rfl, tb_of 75 (by decide +kernel) rfl, ⟨by decide +kernel, by decide +kernel⟩, by decide⟩
abbrev mX8_has : MI := (yX8_has, cX8_has, 2, (some .boolean))
set_option maxRecDepth 20000 in
theorem ok_X8_has : MOk mX8_has := ⟨by decide +kernel, tb_of 587 (by decide +kernel) rfl, tb_of 75 (by decide +kernel) rfl, ⟨by decide +kernel, by decide +kernel⟩, by decide⟩
abbrev mX8_tried : MI := (yX8_tried, cX8_tried, 1, (some .int))
set_option maxRecDepth 20000 in
theorem ok_X8_tried : MOk mX8_tried := ⟨by decide +kernel, tb_of 607 (by decide +kernel) rfl, tb_of 75 (by decide +kernel) rfl, ⟨by decide +kernel, by decide +kernel⟩, by decide⟩
abbrev mX9_ditch : MI := (yX9_ditch, cX9_ditch, 4, (some .int))
set_option maxRecDepth 20000 in
theorem ok_X9_ditch : MOk mX9_ditch := ⟨by decide +kernel, tb_of 390 (by decide +kernel) rfl, tb_of 67 (by decide +kernel) rfl, ⟨by decide +kernel, by decide +kernel⟩, by decide⟩
abbrev mX9_band : MI := (yX9_band, cX9_band, 4, (some .int))
set_option maxRecDepth 20000 in
theorem ok_X9_band : MOk mX9_band := ⟨by decide +kernel, tb_of 405 (by decide +kernel) rfl, tb_of 67 (by decide +kernel) rfl, ⟨by decide +kernel, by decide +kernel⟩, by decide⟩
abbrev mX9_told : MI := (yX9_told, cX9_told, 4, (some .int))
set_option maxRecDepth 20000 in
theorem ok_X9_told : MOk mX9_told := ⟨by decide +kernel, tb_of 413 (by decide +kernel) rfl, tb_of 67 (by decide +kernel) rfl, ⟨by decide +kernel, by decide +kernel⟩, by decide⟩
abbrev mX9_weir : MI := (yX9_weir, cX9_weir, 5, (some .int))
set_option maxRecDepth 20000 in
theorem ok_X9_weir : MOk mX9_weir := ⟨by decide +kernel, tb_of 427 (by decide +kernel) rfl, tb_of 67 (by decide +kernel) rfl, ⟨by decide +kernel, by decide +kernel⟩, by decide⟩
abbrev mX9_pump : MI := (yX9_pump, cX9_pump, 6, (some .int))
set_option maxRecDepth 20000 in
theorem ok_X9_pump : MOk mX9_pump := ⟨by decide +kernel, tb_of 435 (by decide +kernel) rfl, tb_of 67 (by decide +kernel) rfl, ⟨by decide +kernel, by decide +kernel⟩, by decide⟩
abbrev mX9_sluice : MI := (yX9_sluice, cX9_sluice, 3, (some .int))
set_option maxRecDepth 20000 in
theorem ok_X9_sluice : MOk mX9_sluice := ⟨by decide +kernel, tb_of 444 (by decide +kernel) rfl, tb_of 67 (by decide +kernel) rfl, ⟨by decide +kernel, by decide +kernel⟩, by decide⟩
abbrev mX9_turn : MI := (yX9_turn, cX9_turn, 5, (some .int))
set_option maxRecDepth 20000 in
theorem ok_X9_turn : MOk mX9_turn := ⟨by decide +kernel, tb_of 452 (by decide +kernel) rfl, tb_of 67 (by decide +kernel) rfl, ⟨by decide +kernel, by decide +kernel⟩, by decide⟩
abbrev mX9_open : MI := (yX9_open, cX9_open, 5, (some .int))
set_option maxRecDepth 20000 in
theorem ok_X9_open : MOk mX9_open := ⟨by decide +kernel, tb_of 487 (by decide +kernel) rfl, tb_of 67 (by decide +kernel) rfl, ⟨by decide +kernel, by decide +kernel⟩, by decide⟩
abbrev mX9_tide : MI := (yX9_tide, cX9_tide, 4, (some .int))
set_option maxRecDepth 20000 in
theorem ok_X9_tide : MOk mX9_tide := ⟨by decide +kernel, tb_of 495 (by decide +kernel) rfl, tb_of 67 (by decide +kernel) rfl, ⟨by decide +kernel, by decide +kernel⟩, by decide⟩
abbrev mX9_price : MI := (yX9_price, cX9_price, 4, (some .int))
set_option maxRecDepth 20000 in
theorem ok_X9_price : MOk mX9_price := ⟨by decide +kernel, tb_of 502 (by decide +kernel) rfl, tb_of 67 (by decide +kernel) rfl, ⟨by decide +kernel, by decide +kernel⟩, by decide⟩
abbrev mX9_step : MI := (yX9_step, cX9_step, 2, (some .int))
set_option maxRecDepth 20000 in
theorem ok_X9_step : MOk mX9_step := ⟨by decide +kernel, tb_of 506 (by decide +kernel) rfl, tb_of 67 (by decide +kernel) rfl, ⟨by decide +kernel, by decide +kernel⟩, by decide⟩
abbrev mX9_passed : MI := (yX9_passed, cX9_passed, 3, (some .int))
set_option maxRecDepth 20000 in
theorem ok_X9_passed : MOk mX9_passed := ⟨by decide +kernel, tb_of 567 (by decide +kernel) rfl, tb_of 67 (by decide +kernel) rfl, ⟨by decide +kernel, by decide +kernel⟩, by decide⟩
abbrev mX9_world : MI := (yX9_world, cX9_world, 1, (some .int))
set_option maxRecDepth 20000 in
theorem ok_X9_world : MOk mX9_world := ⟨by decide +kernel, tb_of 575 (by decide +kernel) rfl, tb_of 67 (by decide +kernel) rfl, ⟨by decide +kernel, by decide +kernel⟩, by decide⟩
abbrev mX9_foretell : MI := (yX9_foretell, cX9_foretell, 4, (some .int))
set_option maxRecDepth 20000 in
theorem ok_X9_foretell : MOk mX9_foretell := ⟨by decide +kernel, tb_of 583 (by decide +kernel) rfl, tb_of 67 (by decide +kernel) rfl, ⟨by decide +kernel, by decide +kernel⟩, by decide⟩
abbrev mX9_plan : MI := (yX9_plan, cX9_plan, 2, (some .int))
set_option maxRecDepth 20000 in
theorem ok_X9_plan : MOk mX9_plan := ⟨by decide +kernel, tb_of 591 (by decide +kernel) rfl, tb_of 67 (by decide +kernel) rfl, ⟨by decide +kernel, by decide +kernel⟩, by decide⟩
abbrev mX9_planned : MI := (yX9_planned, cX9_planned, 3, (some .long))
set_option maxRecDepth 20000 in
theorem ok_X9_planned : MOk mX9_planned := ⟨by decide +kernel, tb_of 652 (by decide +kernel) rfl, tb_of 67 (by decide +kernel) rfl, ⟨by decide +kernel, by decide +kernel⟩, by decide⟩
abbrev mX9_judge : MI := (yX9_judge, cX9_judge, 4, (some .long))
set_option maxRecDepth 20000 in
theorem ok_X9_judge : MOk mX9_judge := ⟨by decide +kernel, tb_of 657 (by decide +kernel) rfl, tb_of 67 (by decide +kernel) rfl, ⟨by decide +kernel, by decide +kernel⟩, by decide⟩
abbrev mX9_follow : MI := (yX9_follow, cX9_follow, 5, (some .int))
set_option maxRecDepth 20000 in
theorem ok_X9_follow : MOk mX9_follow := ⟨by decide +kernel, tb_of 681 (by decide +kernel) rfl, tb_of 67 (by decide +kernel) rfl, ⟨by decide +kernel, by decide +kernel⟩, by decide⟩
abbrev mX9_sheet : MI := (yX9_sheet, cX9_sheet, 4, (some .int))
set_option maxRecDepth 20000 in
theorem ok_X9_sheet : MOk mX9_sheet := ⟨by decide +kernel, tb_of 687 (by decide +kernel) rfl, tb_of 67 (by decide +kernel) rfl, ⟨by decide +kernel, by decide +kernel⟩, by decide⟩
abbrev mX9_lay : MI := (yX9_lay, cX9_lay, 4, (some .int))
set_option maxRecDepth 20000 in
theorem ok_X9_lay : MOk mX9_lay := ⟨by decide +kernel, tb_of 701 (by decide +kernel) rfl, tb_of 67 (by decide +kernel) rfl, ⟨by decide +kernel, by decide +kernel⟩, by decide⟩
abbrev mX9_rain : MI := (yX9_rain, cX9_rain, 9, (some .int))
set_option maxRecDepth 20000 in
theorem ok_X9_rain : MOk mX9_rain := ⟨by decide +kernel, tb_of 717 (by decide +kernel) rfl, tb_of 67 (by decide +kernel) rfl, ⟨by decide +kernel, by decide +kernel⟩, by decide⟩
abbrev mX9_tides : MI := (yX9_tides, cX9_tides, 6, (some .int))
set_option maxRecDepth 20000 in
theorem ok_X9_tides : MOk mX9_tides := ⟨by decide +kernel, tb_of 726 (by decide +kernel) rfl, tb_of 67 (by decide +kernel) rfl, ⟨by decide +kernel, by decide +kernel⟩, by decide⟩
abbrev mX9_count : MI := (yX9_count, cX9_count, 2, (some .int))
set_option maxRecDepth 20000 in
theorem ok_X9_count : MOk mX9_count := ⟨by decide +kernel, tb_of 731 (by decide +kernel) rfl, tb_of 67 (by decide +kernel) rfl, ⟨by decide +kernel, by decide +kernel⟩, by decide⟩
abbrev mX9_within : MI := (yX9_within, cX9_within, 3, (some .boolean))
set_option maxRecDepth 20000 in
theorem ok_X9_within : MOk mX9_within := ⟨by decide +kernel, tb_of 393 (by decide +kernel) rfl, tb_of 67 (by decide +kernel) rfl, ⟨by decide +kernel, by decide +kernel⟩, by decide⟩
abbrev mX9_isHeight : MI := (yX9_isHeight, cX9_isHeight, 1, (some .boolean))
set_option maxRecDepth 20000 in
theorem ok_X9_isHeight : MOk mX9_isHeight := ⟨by decide +kernel, tb_of 396 (by decide +kernel) rfl, tb_of 67 (by decide +kernel) rfl, ⟨by decide +kernel, by decide +kernel⟩, by decide⟩
abbrev mX9_isRain : MI := (yX9_isRain, cX9_isRain, 1, (some .boolean))
set_option maxRecDepth 20000 in
theorem ok_X9_isRain : MOk mX9_isRain := ⟨by decide +kernel, tb_of 509 (by decide +kernel) rfl, tb_of 67 (by decide +kernel) rfl, ⟨by decide +kernel, by decide +kernel⟩, by decide⟩
abbrev mX9_isHourOfDay : MI := (yX9_isHourOfDay, cX9_isHourOfDay, 1, (some .boolean))
set_option maxRecDepth 20000 in
theorem ok_X9_isHourOfDay : MOk mX9_isHourOfDay := ⟨by decide +kernel, tb_of 498 (by decide +kernel) rfl, tb_of 67 (by decide +kernel) rfl, ⟨by decide +kernel, by decide +kernel⟩, by decide⟩
abbrev mX9_hourOfDay : MI := (yX9_hourOfDay, cX9_hourOfDay, 1, (some .int))
set_option maxRecDepth 20000 in
theorem ok_X9_hourOfDay : MOk mX9_hourOfDay := ⟨by decide +kernel, tb_of 471 (by decide +kernel) rfl, tb_of 67 (by decide +kernel) rfl, ⟨by decide +kernel, by decide +kernel⟩, by decide⟩
abbrev mX9_isPlanned : MI := (yX9_isPlanned, cX9_isPlanned, 1, (some .boolean))
set_option maxRecDepth 20000 in
theorem ok_X9_isPlanned : MOk mX9_isPlanned := ⟨by decide +kernel, tb_of 594 (by decide +kernel) rfl, tb_of 67 (by decide +kernel) rfl, ⟨by decide +kernel, by decide +kernel⟩, by decide⟩
abbrev mX9_isSheet : MI := (yX9_isSheet, cX9_isSheet, 1, (some .boolean))
set_option maxRecDepth 20000 in
theorem ok_X9_isSheet : MOk mX9_isSheet := ⟨by decide +kernel, tb_of 690 (by decide +kernel) rfl, tb_of 67 (by decide +kernel) rfl, ⟨by decide +kernel, by decide +kernel⟩, by decide⟩
abbrev mX9_isLane : MI := (yX9_isLane, cX9_isLane, 1, (some .boolean))
set_option maxRecDepth 20000 in
theorem ok_X9_isLane : MOk mX9_isLane := ⟨by decide +kernel, tb_of 693 (by decide +kernel) rfl, tb_of 67 (by decide +kernel) rfl, ⟨by decide +kernel, by decide +kernel⟩, by decide⟩
abbrev mX10_in : MI := (yX10_in, cX10_in, 6, (some .boolean))
set_option maxRecDepth 20000 in
theorem ok_X10_in : MOk mX10_in := ⟨by decide +kernel, tb_of 884 (by decide +kernel) rfl, tb_of 78 (by decide +kernel) rfl, ⟨by decide +kernel, by decide +kernel⟩, by decide⟩
abbrev mX10_isDitch : MI := (yX10_isDitch, cX10_isDitch, 2, (some .boolean))
set_option maxRecDepth 20000 in
theorem ok_X10_isDitch : MOk mX10_isDitch := ⟨by decide +kernel, tb_of 895 (by decide +kernel) rfl, tb_of 78 (by decide +kernel) rfl, ⟨by decide +kernel, by decide +kernel⟩, by decide⟩
abbrev mX10_ditch : MI := (yX10_ditch, cX10_ditch, 4, (some .int))
set_option maxRecDepth 20000 in
theorem ok_X10_ditch : MOk mX10_ditch := ⟨by decide +kernel, tb_of 880 (by decide +kernel) rfl, tb_of 78 (by decide +kernel) rfl, ⟨by decide +kernel, by decide +kernel⟩, by decide⟩
abbrev mX10_band : MI := (yX10_band, cX10_band, 4, (some .int))
set_option maxRecDepth 20000 in
theorem ok_X10_band : MOk mX10_band := ⟨by decide +kernel, tb_of 891 (by decide +kernel) rfl, tb_of 78 (by decide +kernel) rfl, ⟨by decide +kernel, by decide +kernel⟩, by decide⟩
abbrev mX10_level : MI := (yX10_level, cX10_level, 2, (some .int))
set_option maxRecDepth 20000 in
theorem ok_X10_level : MOk mX10_level := ⟨by decide +kernel, tb_of 907 (by decide +kernel) rfl, tb_of 78 (by decide +kernel) rfl, ⟨by decide +kernel, by decide +kernel⟩, by decide⟩
abbrev mX10_breach : MI := (yX10_breach, cX10_breach, 3, (some .int))
set_option maxRecDepth 20000 in
theorem ok_X10_breach : MOk mX10_breach := ⟨by decide +kernel, tb_of 911 (by decide +kernel) rfl, tb_of 78 (by decide +kernel) rfl, ⟨by decide +kernel, by decide +kernel⟩, by decide⟩
abbrev mX10_told : MI := (yX10_told, cX10_told, 3, (some .int))
set_option maxRecDepth 20000 in
theorem ok_X10_told : MOk mX10_told := ⟨by decide +kernel, tb_of 901 (by decide +kernel) rfl, tb_of 78 (by decide +kernel) rfl, ⟨by decide +kernel, by decide +kernel⟩, by decide⟩
abbrev mX10_weir : MI := (yX10_weir, cX10_weir, 5, (some .int))
set_option maxRecDepth 20000 in
theorem ok_X10_weir : MOk mX10_weir := ⟨by decide +kernel, tb_of 915 (by decide +kernel) rfl, tb_of 78 (by decide +kernel) rfl, ⟨by decide +kernel, by decide +kernel⟩, by decide⟩
abbrev mX10_pump : MI := (yX10_pump, cX10_pump, 6, (some .int))
set_option maxRecDepth 20000 in
theorem ok_X10_pump : MOk mX10_pump := ⟨by decide +kernel, tb_of 919 (by decide +kernel) rfl, tb_of 78 (by decide +kernel) rfl, ⟨by decide +kernel, by decide +kernel⟩, by decide⟩
abbrev mX10_sluice : MI := (yX10_sluice, cX10_sluice, 3, (some .int))
set_option maxRecDepth 20000 in
theorem ok_X10_sluice : MOk mX10_sluice := ⟨by decide +kernel, tb_of 925 (by decide +kernel) rfl, tb_of 78 (by decide +kernel) rfl, ⟨by decide +kernel, by decide +kernel⟩, by decide⟩
abbrev mX10_isPaused : MI := (yX10_isPaused, cX10_isPaused, 3, (some .boolean))
set_option maxRecDepth 20000 in
theorem ok_X10_isPaused : MOk mX10_isPaused := ⟨by decide +kernel, tb_of 933 (by decide +kernel) rfl, tb_of 78 (by decide +kernel) rfl, ⟨by decide +kernel, by decide +kernel⟩, by decide⟩
abbrev mX10_turns : MI := (yX10_turns, cX10_turns, 3, none)
set_option maxRecDepth 20000 in
theorem ok_X10_turns : MOk mX10_turns := ⟨by decide +kernel, tb_of 937 (by decide +kernel) rfl, tb_of 78 (by decide +kernel) rfl, ⟨by decide +kernel, by decide +kernel⟩, by decide⟩
abbrev mX10_turn : MI := (yX10_turn, cX10_turn, 4, (some .int))
set_option maxRecDepth 20000 in
theorem ok_X10_turn : MOk mX10_turn := ⟨by decide +kernel, tb_of 929 (by decide +kernel) rfl, tb_of 78 (by decide +kernel) rfl, ⟨by decide +kernel, by decide +kernel⟩, by decide⟩
abbrev mX10_open : MI := (yX10_open, cX10_open, 4, (some .int))
set_option maxRecDepth 20000 in
theorem ok_X10_open : MOk mX10_open := ⟨by decide +kernel, tb_of 941 (by decide +kernel) rfl, tb_of 78 (by decide +kernel) rfl, ⟨by decide +kernel, by decide +kernel⟩, by decide⟩
abbrev mX10_tide : MI := (yX10_tide, cX10_tide, 4, (some .int))
set_option maxRecDepth 20000 in
theorem ok_X10_tide : MOk mX10_tide := ⟨by decide +kernel, tb_of 945 (by decide +kernel) rfl, tb_of 78 (by decide +kernel) rfl, ⟨by decide +kernel, by decide +kernel⟩, by decide⟩
abbrev mX10_price : MI := (yX10_price, cX10_price, 4, (some .int))
set_option maxRecDepth 20000 in
theorem ok_X10_price : MOk mX10_price := ⟨by decide +kernel, tb_of 950 (by decide +kernel) rfl, tb_of 78 (by decide +kernel) rfl, ⟨by decide +kernel, by decide +kernel⟩, by decide⟩
abbrev mX10_less : MI := (yX10_less, cX10_less, 2, (some .int))
set_option maxRecDepth 20000 in
theorem ok_X10_less : MOk mX10_less := ⟨by decide +kernel, tb_of 966 (by decide +kernel) rfl, tb_of 78 (by decide +kernel) rfl, ⟨by decide +kernel, by decide +kernel⟩, by decide⟩
abbrev mX10_flows : MI := (yX10_flows, cX10_flows, 16, none)
set_option maxRecDepth 20000 in
theorem ok_X10_flows : MOk mX10_flows := ⟨by decide +kernel, tb_of 963 (by decide +kernel) rfl, tb_of 78 (by decide +kernel) rfl, ⟨by decide +kernel, by decide +kernel⟩, by decide⟩
abbrev mX10_alarms : MI := (yX10_alarms, cX10_alarms, 3, (some .int))
set_option maxRecDepth 20000 in
theorem ok_X10_alarms : MOk mX10_alarms := ⟨by decide +kernel, tb_of 970 (by decide +kernel) rfl, tb_of 78 (by decide +kernel) rfl, ⟨by decide +kernel, by decide +kernel⟩, by decide⟩
abbrev mX10_steps : MI := (yX10_steps, cX10_steps, 4, (some .int))
set_option maxRecDepth 20000 in
theorem ok_X10_steps : MOk mX10_steps := ⟨by decide +kernel, tb_of 959 (by decide +kernel) rfl, tb_of 78 (by decide +kernel) rfl, ⟨by decide +kernel, by decide +kernel⟩, by decide⟩
abbrev mX10_step : MI := (yX10_step, cX10_step, 2, (some .int))
set_option maxRecDepth 20000 in
theorem ok_X10_step : MOk mX10_step := ⟨by decide +kernel, tb_of 955 (by decide +kernel) rfl, tb_of 78 (by decide +kernel) rfl, ⟨by decide +kernel, by decide +kernel⟩, by decide⟩
abbrev mX10_passed : MI := (yX10_passed, cX10_passed, 3, (some .int))
set_option maxRecDepth 20000 in
theorem ok_X10_passed : MOk mX10_passed := ⟨by decide +kernel, tb_of 974 (by decide +kernel) rfl, tb_of 78 (by decide +kernel) rfl, ⟨by decide +kernel, by decide +kernel⟩, by decide⟩
abbrev mX10_world : MI := (yX10_world, cX10_world, 2, (some .int))
set_option maxRecDepth 20000 in
theorem ok_X10_world : MOk mX10_world := ⟨by decide +kernel, tb_of 978 (by decide +kernel) rfl, tb_of 78 (by decide +kernel) rfl, ⟨by decide +kernel, by decide +kernel⟩, by decide⟩
abbrev mX10_foretell : MI := (yX10_foretell, cX10_foretell, 4, (some .int))
set_option maxRecDepth 20000 in
theorem ok_X10_foretell : MOk mX10_foretell := ⟨by decide +kernel, tb_of 982 (by decide +kernel) rfl, tb_of 78 (by decide +kernel) rfl, ⟨by decide +kernel, by decide +kernel⟩, by decide⟩
abbrev mX10_isIn : MI := (yX10_isIn, cX10_isIn, 4, (some .boolean))
set_option maxRecDepth 20000 in
theorem ok_X10_isIn : MOk mX10_isIn := ⟨by decide +kernel, tb_of 999 (by decide +kernel) rfl, tb_of 78 (by decide +kernel) rfl, ⟨by decide +kernel, by decide +kernel⟩, by decide⟩
abbrev mX10_isWell : MI := (yX10_isWell, cX10_isWell, 9, (some .boolean))
set_option maxRecDepth 20000 in
theorem ok_X10_isWell : MOk mX10_isWell := ⟨by decide +kernel, tb_of 1003 (by decide +kernel) rfl, tb_of 78 (by decide +kernel) rfl, ⟨by decide +kernel, by decide +kernel⟩, by decide⟩
abbrev mX10_costOf : MI := (yX10_costOf, cX10_costOf, 7, (some .long))
set_option maxRecDepth 20000 in
theorem ok_X10_costOf : MOk mX10_costOf := ⟨by decide +kernel, tb_of 1027 (by decide +kernel) rfl, tb_of 78 (by decide +kernel) rfl, ⟨by decide +kernel, by decide +kernel⟩, by decide⟩
abbrev mX10_keeps : MI := (yX10_keeps, cX10_keeps, 2, none)
set_option maxRecDepth 20000 in
theorem ok_X10_keeps : MOk mX10_keeps := ⟨by decide +kernel, tb_of 1011 (by decide +kernel) rfl, tb_of 78 (by decide +kernel) rfl, ⟨by decide +kernel, by decide +kernel⟩, by decide⟩
abbrev mX10_gives : MI := (yX10_gives, cX10_gives, 2, none)
set_option maxRecDepth 20000 in
theorem ok_X10_gives : MOk mX10_gives := ⟨by decide +kernel, tb_of 1019 (by decide +kernel) rfl, tb_of 78 (by decide +kernel) rfl, ⟨by decide +kernel, by decide +kernel⟩, by decide⟩
abbrev mX10_keepsPassed : MI := (yX10_keepsPassed, cX10_keepsPassed, 2, none)
set_option maxRecDepth 20000 in
theorem ok_X10_keepsPassed : MOk mX10_keepsPassed := ⟨by decide +kernel, tb_of 1015 (by decide +kernel) rfl, tb_of 78 (by decide +kernel) rfl, ⟨by decide +kernel, by decide +kernel⟩, by decide⟩
abbrev mX10_givesPassed : MI := (yX10_givesPassed, cX10_givesPassed, 2, none)
set_option maxRecDepth 20000 in
theorem ok_X10_givesPassed : MOk mX10_givesPassed := ⟨by decide +kernel, tb_of 1023 (by decide +kernel) rfl, tb_of 78 (by decide +kernel) rfl, ⟨by decide +kernel, by decide +kernel⟩, by decide⟩
abbrev mX10_breachOf : MI := (yX10_breachOf, cX10_breachOf, 10, (some .long))
set_option maxRecDepth 20000 in
theorem ok_X10_breachOf : MOk mX10_breachOf := ⟨by decide +kernel, tb_of 1007 (by decide +kernel) rfl, tb_of 78 (by decide +kernel) rfl, ⟨by decide +kernel, by decide +kernel⟩, by decide⟩
abbrev mX10_isPlan : MI := (yX10_isPlan, cX10_isPlan, 6, (some .boolean))
set_option maxRecDepth 20000 in
theorem ok_X10_isPlan : MOk mX10_isPlan := ⟨by decide +kernel, tb_of 995 (by decide +kernel) rfl, tb_of 78 (by decide +kernel) rfl, ⟨by decide +kernel, by decide +kernel⟩, by decide⟩
abbrev mX10_findPlan : MI := (yX10_findPlan, cX10_findPlan, 7, none)
set_option maxRecDepth 20000 in
theorem ok_X10_findPlan : MOk mX10_findPlan := ⟨by decide +kernel, tb_of 991 (by decide +kernel) rfl, tb_of 78 (by decide +kernel) rfl, ⟨by decide +kernel, by decide +kernel⟩, by decide⟩
abbrev mX10_plan : MI := (yX10_plan, cX10_plan, 2, (some .int))
set_option maxRecDepth 20000 in
theorem ok_X10_plan : MOk mX10_plan := ⟨by decide +kernel, tb_of 987 (by decide +kernel) rfl, tb_of 78 (by decide +kernel) rfl, ⟨by decide +kernel, by decide +kernel⟩, by decide⟩
abbrev mX10_planned : MI := (yX10_planned, cX10_planned, 3, (some .long))
set_option maxRecDepth 20000 in
theorem ok_X10_planned : MOk mX10_planned := ⟨by decide +kernel, tb_of 1031 (by decide +kernel) rfl, tb_of 78 (by decide +kernel) rfl, ⟨by decide +kernel, by decide +kernel⟩, by decide⟩
abbrev mX10_judge : MI := (yX10_judge, cX10_judge, 4, (some .long))
set_option maxRecDepth 20000 in
theorem ok_X10_judge : MOk mX10_judge := ⟨by decide +kernel, tb_of 1036 (by decide +kernel) rfl, tb_of 78 (by decide +kernel) rfl, ⟨by decide +kernel, by decide +kernel⟩, by decide⟩
abbrev mX10_follow : MI := (yX10_follow, cX10_follow, 4, (some .int))
set_option maxRecDepth 20000 in
theorem ok_X10_follow : MOk mX10_follow := ⟨by decide +kernel, tb_of 1041 (by decide +kernel) rfl, tb_of 78 (by decide +kernel) rfl, ⟨by decide +kernel, by decide +kernel⟩, by decide⟩
abbrev mX10_isSheet : MI := (yX10_isSheet, cX10_isSheet, 2, (some .boolean))
set_option maxRecDepth 20000 in
theorem ok_X10_isSheet : MOk mX10_isSheet := ⟨by decide +kernel, tb_of 1048 (by decide +kernel) rfl, tb_of 78 (by decide +kernel) rfl, ⟨by decide +kernel, by decide +kernel⟩, by decide⟩
abbrev mX10_sheet : MI := (yX10_sheet, cX10_sheet, 5, (some .int))
set_option maxRecDepth 20000 in
theorem ok_X10_sheet : MOk mX10_sheet := ⟨by decide +kernel, tb_of 1045 (by decide +kernel) rfl, tb_of 78 (by decide +kernel) rfl, ⟨by decide +kernel, by decide +kernel⟩, by decide⟩
abbrev mX10_lay : MI := (yX10_lay, cX10_lay, 4, (some .int))
set_option maxRecDepth 20000 in
theorem ok_X10_lay : MOk mX10_lay := ⟨by decide +kernel, tb_of 1053 (by decide +kernel) rfl, tb_of 78 (by decide +kernel) rfl, ⟨by decide +kernel, by decide +kernel⟩, by decide⟩
abbrev mX10_bars : MI := (yX10_bars, cX10_bars, 8, (some .int))
set_option maxRecDepth 20000 in
theorem ok_X10_bars : MOk mX10_bars := ⟨by decide +kernel, tb_of 1062 (by decide +kernel) rfl, tb_of 78 (by decide +kernel) rfl, ⟨by decide +kernel, by decide +kernel⟩, by decide⟩
abbrev mX10_rain : MI := (yX10_rain, cX10_rain, 8, (some .int))
set_option maxRecDepth 20000 in
theorem ok_X10_rain : MOk mX10_rain := ⟨by decide +kernel, tb_of 1057 (by decide +kernel) rfl, tb_of 78 (by decide +kernel) rfl, ⟨by decide +kernel, by decide +kernel⟩, by decide⟩
abbrev mX10_tides : MI := (yX10_tides, cX10_tides, 6, (some .int))
set_option maxRecDepth 20000 in
theorem ok_X10_tides : MOk mX10_tides := ⟨by decide +kernel, tb_of 1066 (by decide +kernel) rfl, tb_of 78 (by decide +kernel) rfl, ⟨by decide +kernel, by decide +kernel⟩, by decide⟩
abbrev mX10_count : MI := (yX10_count, cX10_count, 5, (some .int))
set_option maxRecDepth 20000 in
theorem ok_X10_count : MOk mX10_count := ⟨by decide +kernel, tb_of 1070 (by decide +kernel) rfl, tb_of 78 (by decide +kernel) rfl, ⟨by decide +kernel, by decide +kernel⟩, by decide⟩
abbrev mJ6_bitCount_0f7a4 : MI := (yJ6_bitCount_0f7a4, cJ6_bitCount_0f7a4, 1, (some .int))
set_option maxRecDepth 20000 in
theorem ok_J6_bitCount_0f7a4 : MOk mJ6_bitCount_0f7a4 := ⟨by decide +kernel, tb_of 555 (by decide +kernel) rfl, tb_of 80 (by decide +kernel) rfl, ⟨by decide +kernel, by decide +kernel⟩, by decide⟩
abbrev mJ9_floorMod_7cf53 : MI := (yJ9_floorMod_7cf53, cJ9_floorMod_7cf53, 3, (some .int))
set_option maxRecDepth 20000 in
theorem ok_J9_floorMod_7cf53 : MOk mJ9_floorMod_7cf53 := ⟨by decide +kernel, tb_of 474 (by decide +kernel) rfl, tb_of 79 (by decide +kernel) rfl, ⟨by decide +kernel, by decide +kernel⟩, by decide⟩
abbrev mJ9_max_7cf53 : MI := (yJ9_max_7cf53, cJ9_max_7cf53, 2, (some .int))
set_option maxRecDepth 20000 in
theorem ok_J9_max_7cf53 : MOk mJ9_max_7cf53 := ⟨by decide +kernel, tb_of 529 (by decide +kernel) rfl, tb_of 79 (by decide +kernel) rfl, ⟨by decide +kernel, by decide +kernel⟩, by decide⟩
abbrev mJ9_min_7cf53 : MI := (yJ9_min_7cf53, cJ9_min_7cf53, 2, (some .int))
set_option maxRecDepth 20000 in
theorem ok_J9_min_7cf53 : MOk mJ9_min_7cf53 := ⟨by decide +kernel, tb_of 539 (by decide +kernel) rfl, tb_of 79 (by decide +kernel) rfl, ⟨by decide +kernel, by decide +kernel⟩, by decide⟩
abbrev mJ9_min_f86c9 : MI := (yJ9_min_f86c9, cJ9_min_f86c9, 4, (some .long))
set_option maxRecDepth 20000 in
theorem ok_J9_min_f86c9 : MOk mJ9_min_f86c9 := ⟨by decide +kernel, tb_of 532 (by decide +kernel) rfl, tb_of 79 (by decide +kernel) rfl, ⟨by decide +kernel, by decide +kernel⟩, by decide⟩
abbrev mJ7_fill_53178 : MI := (yJ7_fill_53178, cJ7_fill_53178, 4, none)
set_option maxRecDepth 20000 in
theorem ok_J7_fill_53178 : MOk mJ7_fill_53178 := ⟨by decide +kernel, tb_of 259 (by decide +kernel) rfl, tb_of 74 (by decide +kernel) rfl, ⟨by decide +kernel, by decide +kernel⟩, by decide⟩
set_option maxRecDepth 20000 in
theorem ml_X9_39 : MLS RX9 39 mX9_within 3 := ⟨Or.inl (tb_of 391 (by decide +kernel) rfl), tb_of 392 (by decide +kernel) rfl, by decide +kernel⟩
set_option maxRecDepth 20000 in
theorem ml_X9_43 : MLS RX9 43 mX9_isHeight 1 := ⟨Or.inl (tb_of 394 (by decide +kernel) rfl), tb_of 395 (by decide +kernel) rfl, by decide +kernel⟩
set_option maxRecDepth 20000 in
theorem ml_X9_52 : MLV RX9 52 mX0_add 3 := ⟨Or.inr ⟨"LowLand", nb_of 398 (by decide +kernel) rfl⟩, tb_of 400 (by decide +kernel) rfl, tb_of 0 (by decide +kernel) rfl, by decide +kernel⟩
set_option maxRecDepth 20000 in
theorem ml_X9_58 : MLV RX9 58 mX0_has 1 := ⟨Or.inr ⟨"LowLand", nb_of 406 (by decide +kernel) rfl⟩, tb_of 408 (by decide +kernel) rfl, tb_of 1 (by decide +kernel) rfl, by decide +kernel⟩
set_option maxRecDepth 20000 in
theorem ml_X9_72 : MLV RX9 72 mX0_level 2 := ⟨Or.inr ⟨"LowLand", nb_of 415 (by decide +kernel) rfl⟩, tb_of 417 (by decide +kernel) rfl, tb_of 2 (by decide +kernel) rfl, by decide +kernel⟩
set_option maxRecDepth 20000 in
theorem ml_X9_76 : MLV RX9 76 mX0_breach 2 := ⟨Or.inr ⟨"LowLand", nb_of 419 (by decide +kernel) rfl⟩, tb_of 421 (by decide +kernel) rfl, tb_of 3 (by decide +kernel) rfl, by decide +kernel⟩
set_option maxRecDepth 20000 in
theorem ml_X9_89 : MLV RX9 89 mX7_add 4 := ⟨Or.inr ⟨"LowLand", nb_of 428 (by decide +kernel) rfl⟩, tb_of 430 (by decide +kernel) rfl, tb_of 4 (by decide +kernel) rfl, by decide +kernel⟩
set_option maxRecDepth 20000 in
theorem ml_X9_99 : MLV RX9 99 mX4_add 5 := ⟨Or.inr ⟨"LowLand", nb_of 437 (by decide +kernel) rfl⟩, tb_of 439 (by decide +kernel) rfl, tb_of 5 (by decide +kernel) rfl, by decide +kernel⟩
set_option maxRecDepth 20000 in
theorem ml_X9_108 : MLV RX9 108 mX6_add 2 := ⟨Or.inr ⟨"LowLand", nb_of 445 (by decide +kernel) rfl⟩, tb_of 447 (by decide +kernel) rfl, tb_of 6 (by decide +kernel) rfl, by decide +kernel⟩
set_option maxRecDepth 20000 in
theorem ml_X9_113 : MLV RX9 113 mX4_has 1 := ⟨Or.inr ⟨"LowLand", nb_of 453 (by decide +kernel) rfl⟩, tb_of 455 (by decide +kernel) rfl, tb_of 7 (by decide +kernel) rfl, by decide +kernel⟩
set_option maxRecDepth 20000 in
theorem ml_X9_118 : MLV RX9 118 mX4_mustStayOff 2 := ⟨Or.inr ⟨"LowLand", nb_of 457 (by decide +kernel) rfl⟩, tb_of 459 (by decide +kernel) rfl, tb_of 8 (by decide +kernel) rfl, by decide +kernel⟩
set_option maxRecDepth 20000 in
theorem ml_X9_122 : MLV RX9 122 mX4_mustRunOn 2 := ⟨Or.inr ⟨"LowLand", nb_of 475 (by decide +kernel) rfl⟩, tb_of 477 (by decide +kernel) rfl, tb_of 11 (by decide +kernel) rfl, by decide +kernel⟩
set_option maxRecDepth 20000 in
theorem ml_X9_125 : MLV RX9 125 mX4_isOn 1 := ⟨Or.inr ⟨"LowLand", nb_of 479 (by decide +kernel) rfl⟩, tb_of 463 (by decide +kernel) rfl, tb_of 9 (by decide +kernel) rfl, by decide +kernel⟩
set_option maxRecDepth 20000 in
theorem ml_X9_128 : MLV RX9 128 mX4_put 3 := ⟨Or.inr ⟨"LowLand", nb_of 480 (by decide +kernel) rfl⟩, tb_of 482 (by decide +kernel) rfl, tb_of 12 (by decide +kernel) rfl, by decide +kernel⟩
set_option maxRecDepth 20000 in
theorem ml_X9_132 : MLV RX9 132 mX6_has 1 := ⟨Or.inr ⟨"LowLand", nb_of 488 (by decide +kernel) rfl⟩, tb_of 490 (by decide +kernel) rfl, tb_of 13 (by decide +kernel) rfl, by decide +kernel⟩
set_option maxRecDepth 20000 in
theorem ml_X9_137 : MLS RX9 137 mX9_isHourOfDay 1 := ⟨Or.inl (tb_of 496 (by decide +kernel) rfl), tb_of 497 (by decide +kernel) rfl, by decide +kernel⟩
set_option maxRecDepth 20000 in
theorem ml_X9_146 : MLS RX9 146 mX9_isRain 1 := ⟨Or.inl (tb_of 507 (by decide +kernel) rfl), tb_of 508 (by decide +kernel) rfl, by decide +kernel⟩
set_option maxRecDepth 20000 in
theorem ml_X9_149 : MLV RX9 149 mX2_advance 1 := ⟨Or.inr ⟨"LowLand", nb_of 510 (by decide +kernel) rfl⟩, tb_of 512 (by decide +kernel) rfl, tb_of 14 (by decide +kernel) rfl, by decide +kernel⟩
set_option maxRecDepth 20000 in
theorem ml_X9_153 : MLV RX9 153 mX7_has 1 := ⟨Or.inr ⟨"LowLand", nb_of 568 (by decide +kernel) rfl⟩, tb_of 570 (by decide +kernel) rfl, tb_of 23 (by decide +kernel) rfl, by decide +kernel⟩
set_option maxRecDepth 20000 in
theorem ml_X9_166 : MLV RX9 166 mX8_add 0 := ⟨Or.inr ⟨"LowLand", nb_of 576 (by decide +kernel) rfl⟩, tb_of 578 (by decide +kernel) rfl, tb_of 24 (by decide +kernel) rfl, by decide +kernel⟩
set_option maxRecDepth 20000 in
theorem ml_X9_169 : MLV RX9 169 mX8_has 1 := ⟨Or.inr ⟨"LowLand", nb_of 584 (by decide +kernel) rfl⟩, tb_of 586 (by decide +kernel) rfl, tb_of 25 (by decide +kernel) rfl, by decide +kernel⟩
set_option maxRecDepth 20000 in
theorem ml_X9_174 : MLS RX9 174 mX9_isPlanned 1 := ⟨Or.inl (tb_of 592 (by decide +kernel) rfl), tb_of 593 (by decide +kernel) rfl, by decide +kernel⟩
set_option maxRecDepth 20000 in
theorem ml_X9_177 : MLV RX9 177 mX3_seek 1 := ⟨Or.inr ⟨"LowLand", nb_of 595 (by decide +kernel) rfl⟩, tb_of 597 (by decide +kernel) rfl, tb_of 26 (by decide +kernel) rfl, by decide +kernel⟩
set_option maxRecDepth 20000 in
theorem ml_X9_192 : MLV RX9 192 mX3_isPlan 2 := ⟨Or.inr ⟨"LowLand", nb_of 658 (by decide +kernel) rfl⟩, tb_of 660 (by decide +kernel) rfl, tb_of 36 (by decide +kernel) rfl, by decide +kernel⟩
set_option maxRecDepth 20000 in
theorem ml_X9_195 : MLV RX9 195 mX3_isWell 2 := ⟨Or.inr ⟨"LowLand", nb_of 666 (by decide +kernel) rfl⟩, tb_of 668 (by decide +kernel) rfl, tb_of 38 (by decide +kernel) rfl, by decide +kernel⟩
set_option maxRecDepth 20000 in
theorem ml_X9_198 : MLV RX9 198 mX3_costOf 2 := ⟨Or.inr ⟨"LowLand", nb_of 670 (by decide +kernel) rfl⟩, tb_of 672 (by decide +kernel) rfl, tb_of 39 (by decide +kernel) rfl, by decide +kernel⟩
set_option maxRecDepth 20000 in
theorem ml_X9_202 : MLV RX9 202 mX3_breachOf 2 := ⟨Or.inr ⟨"LowLand", nb_of 674 (by decide +kernel) rfl⟩, tb_of 676 (by decide +kernel) rfl, tb_of 40 (by decide +kernel) rfl, by decide +kernel⟩
set_option maxRecDepth 20000 in
theorem ml_X9_205 : MLV RX9 205 mX4_inPlans 0 := ⟨Or.inr ⟨"LowLand", nb_of 682 (by decide +kernel) rfl⟩, tb_of 617 (by decide +kernel) rfl, tb_of 29 (by decide +kernel) rfl, by decide +kernel⟩
set_option maxRecDepth 20000 in
theorem ml_X9_208 : MLV RX9 208 mX3_tells 3 := ⟨Or.inr ⟨"LowLand", nb_of 683 (by decide +kernel) rfl⟩, tb_of 627 (by decide +kernel) rfl, tb_of 31 (by decide +kernel) rfl, by decide +kernel⟩
set_option maxRecDepth 20000 in
theorem ml_X9_211 : MLS RX9 211 mX9_isSheet 1 := ⟨Or.inl (tb_of 688 (by decide +kernel) rfl), tb_of 689 (by decide +kernel) rfl, by decide +kernel⟩
set_option maxRecDepth 20000 in
theorem ml_X9_214 : MLS RX9 214 mX9_isLane 1 := ⟨Or.inl (tb_of 691 (by decide +kernel) rfl), tb_of 692 (by decide +kernel) rfl, by decide +kernel⟩
set_option maxRecDepth 20000 in
theorem ml_X9_217 : MLV RX9 217 mX5_clear 3 := ⟨Or.inr ⟨"LowLand", nb_of 694 (by decide +kernel) rfl⟩, tb_of 696 (by decide +kernel) rfl, tb_of 41 (by decide +kernel) rfl, by decide +kernel⟩
set_option maxRecDepth 20000 in
theorem ml_X9_221 : MLV RX9 221 mX5_isNothing 1 := ⟨Or.inr ⟨"LowLand", nb_of 702 (by decide +kernel) rfl⟩, tb_of 704 (by decide +kernel) rfl, tb_of 42 (by decide +kernel) rfl, by decide +kernel⟩
set_option maxRecDepth 20000 in
theorem ml_X9_224 : MLV RX9 224 mX5_hasCell 2 := ⟨Or.inr ⟨"LowLand", nb_of 706 (by decide +kernel) rfl⟩, tb_of 708 (by decide +kernel) rfl, tb_of 43 (by decide +kernel) rfl, by decide +kernel⟩
set_option maxRecDepth 20000 in
theorem ml_X9_227 : MLV RX9 227 mX5_put 3 := ⟨Or.inr ⟨"LowLand", nb_of 710 (by decide +kernel) rfl⟩, tb_of 712 (by decide +kernel) rfl, tb_of 44 (by decide +kernel) rfl, by decide +kernel⟩
set_option maxRecDepth 20000 in
theorem ml_X9_229 : MLV RX9 229 mX5_faultAs 2 := ⟨Or.inr ⟨"LowLand", nb_of 718 (by decide +kernel) rfl⟩, tb_of 720 (by decide +kernel) rfl, tb_of 45 (by decide +kernel) rfl, by decide +kernel⟩
set_option maxRecDepth 20000 in
theorem ml_X9_248 : MLV RX9 248 mX0_alarms 0 := ⟨Or.inr ⟨"LowLand", nb_of 732 (by decide +kernel) rfl⟩, tb_of 561 (by decide +kernel) rfl, tb_of 22 (by decide +kernel) rfl, by decide +kernel⟩
set_option maxRecDepth 20000 in
theorem ml_X9_257 : MLS RX9 257 mJ6_bitCount_0f7a4 1 := ⟨Or.inl (tb_of 733 (by decide +kernel) rfl), tb_of 554 (by decide +kernel) rfl, by decide +kernel⟩
set_option maxRecDepth 20000 in
theorem ml_X9_262 : MLV RX9 262 mX0_allWater 0 := ⟨Or.inr ⟨"LowLand", nb_of 734 (by decide +kernel) rfl⟩, tb_of 736 (by decide +kernel) rfl, tb_of 46 (by decide +kernel) rfl, by decide +kernel⟩
set_option maxRecDepth 20000 in
theorem ml_X9_265 : MLS RX9 265 mJ9_floorMod_7cf53 2 := ⟨Or.inl (tb_of 472 (by decide +kernel) rfl), tb_of 473 (by decide +kernel) rfl, by decide +kernel⟩
set_option maxRecDepth 20000 in
theorem ml_X0_37 : MLV RX0 37 mX0_level 2 := ⟨Or.inl (tb_of 423 (by decide +kernel) rfl), tb_of 417 (by decide +kernel) rfl, tb_of 2 (by decide +kernel) rfl, by decide +kernel⟩
set_option maxRecDepth 20000 in
theorem ml_X0_41 : MLV RX0 41 mX0_breach 2 := ⟨Or.inl (tb_of 563 (by decide +kernel) rfl), tb_of 421 (by decide +kernel) rfl, tb_of 3 (by decide +kernel) rfl, by decide +kernel⟩
set_option maxRecDepth 20000 in
theorem ml_X2_53 : MLS RX2 53 mJ7_fill_53178 2 := ⟨Or.inl (tb_of 257 (by decide +kernel) rfl), tb_of 258 (by decide +kernel) rfl, by decide +kernel⟩
set_option maxRecDepth 20000 in
theorem ml_X2_66 : MLV RX2 66 mX4_awake 2 := ⟨Or.inr ⟨"LowLand", nb_of 514 (by decide +kernel) rfl⟩, tb_of 516 (by decide +kernel) rfl, tb_of 15 (by decide +kernel) rfl, by decide +kernel⟩
set_option maxRecDepth 20000 in
theorem ml_X2_73 : MLV RX2 73 mX2_move 5 := ⟨Or.inl (tb_of 518 (by decide +kernel) rfl), tb_of 520 (by decide +kernel) rfl, tb_of 16 (by decide +kernel) rfl, by decide +kernel⟩
set_option maxRecDepth 20000 in
theorem ml_X2_86 : MLV RX2 86 mX2_drain 0 := ⟨Or.inl (tb_of 545 (by decide +kernel) rfl), tb_of 547 (by decide +kernel) rfl, tb_of 20 (by decide +kernel) rfl, by decide +kernel⟩
set_option maxRecDepth 20000 in
theorem ml_X2_92 : MLV RX2 92 mX2_cost 2 := ⟨Or.inl (tb_of 549 (by decide +kernel) rfl), tb_of 551 (by decide +kernel) rfl, tb_of 21 (by decide +kernel) rfl, by decide +kernel⟩
set_option maxRecDepth 20000 in
theorem ml_X2_95 : MLV RX2 95 mX0_alarms 0 := ⟨Or.inr ⟨"LowLand", nb_of 559 (by decide +kernel) rfl⟩, tb_of 561 (by decide +kernel) rfl, tb_of 22 (by decide +kernel) rfl, by decide +kernel⟩
set_option maxRecDepth 20000 in
theorem ml_X2_115 : MLS RX2 115 mX9_hourOfDay 1 := ⟨Or.inr ⟨"LowLand", nb_of 540 (by decide +kernel) rfl⟩, tb_of 470 (by decide +kernel) rfl, by decide +kernel⟩
set_option maxRecDepth 20000 in
theorem ml_X2_119 : MLS RX2 119 mJ6_bitCount_0f7a4 1 := ⟨Or.inl (tb_of 553 (by decide +kernel) rfl), tb_of 554 (by decide +kernel) rfl, by decide +kernel⟩
set_option maxRecDepth 20000 in
theorem ml_X2_127 : MLV RX2 127 mX2_passWeir 2 := ⟨Or.inl (tb_of 522 (by decide +kernel) rfl), tb_of 524 (by decide +kernel) rfl, tb_of 17 (by decide +kernel) rfl, by decide +kernel⟩
set_option maxRecDepth 20000 in
theorem ml_X2_131 : MLV RX2 131 mX2_passPump 2 := ⟨Or.inl (tb_of 533 (by decide +kernel) rfl), tb_of 535 (by decide +kernel) rfl, tb_of 18 (by decide +kernel) rfl, by decide +kernel⟩
set_option maxRecDepth 20000 in
theorem ml_X2_138 : MLV RX2 138 mX2_passSluice 3 := ⟨Or.inl (tb_of 541 (by decide +kernel) rfl), tb_of 543 (by decide +kernel) rfl, tb_of 19 (by decide +kernel) rfl, by decide +kernel⟩
set_option maxRecDepth 20000 in
theorem ml_X2_144 : MLV RX2 144 mX0_level 2 := ⟨Or.inr ⟨"LowLand", nb_of 526 (by decide +kernel) rfl⟩, tb_of 417 (by decide +kernel) rfl, tb_of 2 (by decide +kernel) rfl, by decide +kernel⟩
set_option maxRecDepth 20000 in
theorem ml_X2_150 : MLS RX2 150 mJ9_max_7cf53 2 := ⟨Or.inl (tb_of 527 (by decide +kernel) rfl), tb_of 528 (by decide +kernel) rfl, by decide +kernel⟩
set_option maxRecDepth 20000 in
theorem ml_X2_158 : MLS RX2 158 mJ9_min_f86c9 2 := ⟨Or.inl (tb_of 530 (by decide +kernel) rfl), tb_of 531 (by decide +kernel) rfl, by decide +kernel⟩
set_option maxRecDepth 20000 in
theorem ml_X2_165 : MLS RX2 165 mJ9_min_7cf53 2 := ⟨Or.inl (tb_of 537 (by decide +kernel) rfl), tb_of 538 (by decide +kernel) rfl, by decide +kernel⟩
set_option maxRecDepth 20000 in
theorem ml_X3_47 : MLV RX3 47 mX3_begin 0 := ⟨Or.inl (tb_of 600 (by decide +kernel) rfl), tb_of 602 (by decide +kernel) rfl, tb_of 27 (by decide +kernel) rfl, by decide +kernel⟩
set_option maxRecDepth 20000 in
theorem ml_X3_50 : MLS RX3 50 mX3_grow 5 := ⟨Or.inl (tb_of 612 (by decide +kernel) rfl), tb_of 613 (by decide +kernel) rfl, by decide +kernel⟩
set_option maxRecDepth 20000 in
theorem ml_X3_60 : MLV RX3 60 mX4_inPlans 0 := ⟨Or.inr ⟨"LowLand", nb_of 615 (by decide +kernel) rfl⟩, tb_of 617 (by decide +kernel) rfl, tb_of 29 (by decide +kernel) rfl, by decide +kernel⟩
set_option maxRecDepth 20000 in
theorem ml_X3_69 : MLV RX3 69 mX2_cost 2 := ⟨Or.inr ⟨"LowLand", nb_of 620 (by decide +kernel) rfl⟩, tb_of 551 (by decide +kernel) rfl, tb_of 21 (by decide +kernel) rfl, by decide +kernel⟩
set_option maxRecDepth 20000 in
theorem ml_X3_72 : MLV RX3 72 mX3_fits 2 := ⟨Or.inl (tb_of 621 (by decide +kernel) rfl), tb_of 623 (by decide +kernel) rfl, tb_of 30 (by decide +kernel) rfl, by decide +kernel⟩
set_option maxRecDepth 20000 in
theorem ml_X3_76 : MLV RX3 76 mX3_isBetter 3 := ⟨Or.inl (tb_of 635 (by decide +kernel) rfl), tb_of 637 (by decide +kernel) rfl, tb_of 33 (by decide +kernel) rfl, by decide +kernel⟩
set_option maxRecDepth 20000 in
theorem ml_X3_80 : MLV RX3 80 mX3_tread 2 := ⟨Or.inl (tb_of 639 (by decide +kernel) rfl), tb_of 641 (by decide +kernel) rfl, tb_of 34 (by decide +kernel) rfl, by decide +kernel⟩
set_option maxRecDepth 20000 in
theorem ml_X3_84 : MLV RX3 84 mX3_bitsOf 2 := ⟨Or.inl (tb_of 662 (by decide +kernel) rfl), tb_of 664 (by decide +kernel) rfl, tb_of 37 (by decide +kernel) rfl, by decide +kernel⟩
set_option maxRecDepth 20000 in
theorem ml_X3_87 : MLV RX3 87 mX3_tells 3 := ⟨Or.inl (tb_of 625 (by decide +kernel) rfl), tb_of 627 (by decide +kernel) rfl, tb_of 31 (by decide +kernel) rfl, by decide +kernel⟩
set_option maxRecDepth 20000 in
theorem ml_X3_91 : MLV RX3 91 mX4_pausesAt 2 := ⟨Or.inr ⟨"LowLand", nb_of 629 (by decide +kernel) rfl⟩, tb_of 467 (by decide +kernel) rfl, tb_of 10 (by decide +kernel) rfl, by decide +kernel⟩
set_option maxRecDepth 20000 in
theorem ml_X3_94 : MLV RX3 94 mX3_mayEnd 3 := ⟨Or.inl (tb_of 630 (by decide +kernel) rfl), tb_of 632 (by decide +kernel) rfl, tb_of 32 (by decide +kernel) rfl, by decide +kernel⟩
set_option maxRecDepth 20000 in
theorem ml_X3_101 : MLV RX3 101 mX4_isOn 1 := ⟨Or.inr ⟨"LowLand", nb_of 634 (by decide +kernel) rfl⟩, tb_of 463 (by decide +kernel) rfl, tb_of 9 (by decide +kernel) rfl, by decide +kernel⟩
set_option maxRecDepth 20000 in
theorem ml_X3_105 : MLV RX3 105 mX8_tried 0 := ⟨Or.inr ⟨"LowLand", nb_of 604 (by decide +kernel) rfl⟩, tb_of 606 (by decide +kernel) rfl, tb_of 28 (by decide +kernel) rfl, by decide +kernel⟩
set_option maxRecDepth 20000 in
theorem ml_X3_131 : MLV RX3 131 mX4_awake 2 := ⟨Or.inr ⟨"LowLand", nb_of 643 (by decide +kernel) rfl⟩, tb_of 516 (by decide +kernel) rfl, tb_of 15 (by decide +kernel) rfl, by decide +kernel⟩
set_option maxRecDepth 20000 in
theorem ml_X3_137 : MLV RX3 137 mX2_move 5 := ⟨Or.inr ⟨"LowLand", nb_of 644 (by decide +kernel) rfl⟩, tb_of 520 (by decide +kernel) rfl, tb_of 16 (by decide +kernel) rfl, by decide +kernel⟩
set_option maxRecDepth 20000 in
theorem ml_X3_141 : MLV RX3 141 mX0_allBreach 1 := ⟨Or.inr ⟨"LowLand", nb_of 645 (by decide +kernel) rfl⟩, tb_of 647 (by decide +kernel) rfl, tb_of 35 (by decide +kernel) rfl, by decide +kernel⟩
set_option maxRecDepth 20000 in
theorem ml_X4_37 : MLS RX4 37 mX9_hourOfDay 1 := ⟨Or.inr ⟨"LowLand", nb_of 469 (by decide +kernel) rfl⟩, tb_of 470 (by decide +kernel) rfl, by decide +kernel⟩
set_option maxRecDepth 20000 in
theorem ml_X4_41 : MLV RX4 41 mX4_isOn 1 := ⟨Or.inl (tb_of 461 (by decide +kernel) rfl), tb_of 463 (by decide +kernel) rfl, tb_of 9 (by decide +kernel) rfl, by decide +kernel⟩
set_option maxRecDepth 20000 in
theorem ml_X4_45 : MLV RX4 45 mX4_pausesAt 2 := ⟨Or.inl (tb_of 465 (by decide +kernel) rfl), tb_of 467 (by decide +kernel) rfl, tb_of 10 (by decide +kernel) rfl, by decide +kernel⟩
set_option maxRecDepth 20000 in
theorem ml_X4_49 : MLS RX4 49 mJ9_min_7cf53 2 := ⟨Or.inl (tb_of 619 (by decide +kernel) rfl), tb_of 538 (by decide +kernel) rfl, by decide +kernel⟩
set_option maxRecDepth 20000 in
theorem ml_X5_23 : MLS RX5 23 mJ7_fill_53178 2 := ⟨Or.inl (tb_of 362 (by decide +kernel) rfl), tb_of 258 (by decide +kernel) rfl, by decide +kernel⟩
set_option maxRecDepth 20000 in
theorem ml_X5_29 : MLV RX5 29 mX5_isNothing 1 := ⟨Or.inl (tb_of 722 (by decide +kernel) rfl), tb_of 704 (by decide +kernel) rfl, tb_of 42 (by decide +kernel) rfl, by decide +kernel⟩
set_option maxRecDepth 20000 in
theorem ml_X8_20 : MLS RX8 20 mJ9_max_7cf53 2 := ⟨Or.inl (tb_of 608 (by decide +kernel) rfl), tb_of 528 (by decide +kernel) rfl, by decide +kernel⟩
set_option maxRecDepth 20000 in
theorem ml_L_13 : MLV RL 13 mX9_ditch 3 := ⟨Or.inl (tb_of 387 (by decide +kernel) rfl), tb_of 388 (by decide +kernel) rfl, tb_of 389 (by decide +kernel) rfl, by decide +kernel⟩
set_option maxRecDepth 20000 in
theorem ml_L_17 : MLV RL 17 mX10_ditch 3 := ⟨Or.inl (tb_of 877 (by decide +kernel) rfl), tb_of 878 (by decide +kernel) rfl, tb_of 879 (by decide +kernel) rfl, by decide +kernel⟩
set_option maxRecDepth 20000 in
theorem ml_L_18 : MLV RL 18 mX9_band 3 := ⟨Or.inl (tb_of 402 (by decide +kernel) rfl), tb_of 403 (by decide +kernel) rfl, tb_of 404 (by decide +kernel) rfl, by decide +kernel⟩
set_option maxRecDepth 20000 in
theorem ml_L_21 : MLV RL 21 mX10_band 3 := ⟨Or.inl (tb_of 888 (by decide +kernel) rfl), tb_of 889 (by decide +kernel) rfl, tb_of 890 (by decide +kernel) rfl, by decide +kernel⟩
set_option maxRecDepth 20000 in
theorem ml_L_22 : MLV RL 22 mX9_told 2 := ⟨Or.inl (tb_of 410 (by decide +kernel) rfl), tb_of 411 (by decide +kernel) rfl, tb_of 412 (by decide +kernel) rfl, by decide +kernel⟩
set_option maxRecDepth 20000 in
theorem ml_L_26 : MLV RL 26 mX10_told 2 := ⟨Or.inl (tb_of 898 (by decide +kernel) rfl), tb_of 899 (by decide +kernel) rfl, tb_of 900 (by decide +kernel) rfl, by decide +kernel⟩
set_option maxRecDepth 20000 in
theorem ml_L_27 : MLV RL 27 mX9_weir 4 := ⟨Or.inl (tb_of 424 (by decide +kernel) rfl), tb_of 425 (by decide +kernel) rfl, tb_of 426 (by decide +kernel) rfl, by decide +kernel⟩
set_option maxRecDepth 20000 in
theorem ml_L_31 : MLV RL 31 mX10_weir 4 := ⟨Or.inl (tb_of 912 (by decide +kernel) rfl), tb_of 913 (by decide +kernel) rfl, tb_of 914 (by decide +kernel) rfl, by decide +kernel⟩
set_option maxRecDepth 20000 in
theorem ml_L_32 : MLV RL 32 mX9_pump 5 := ⟨Or.inl (tb_of 432 (by decide +kernel) rfl), tb_of 433 (by decide +kernel) rfl, tb_of 434 (by decide +kernel) rfl, by decide +kernel⟩
set_option maxRecDepth 20000 in
theorem ml_L_36 : MLV RL 36 mX10_pump 5 := ⟨Or.inl (tb_of 916 (by decide +kernel) rfl), tb_of 917 (by decide +kernel) rfl, tb_of 918 (by decide +kernel) rfl, by decide +kernel⟩
set_option maxRecDepth 20000 in
theorem ml_L_37 : MLV RL 37 mX9_sluice 2 := ⟨Or.inl (tb_of 441 (by decide +kernel) rfl), tb_of 442 (by decide +kernel) rfl, tb_of 443 (by decide +kernel) rfl, by decide +kernel⟩
set_option maxRecDepth 20000 in
theorem ml_L_40 : MLV RL 40 mX10_sluice 2 := ⟨Or.inl (tb_of 922 (by decide +kernel) rfl), tb_of 923 (by decide +kernel) rfl, tb_of 924 (by decide +kernel) rfl, by decide +kernel⟩
set_option maxRecDepth 20000 in
theorem ml_L_41 : MLV RL 41 mX9_turn 2 := ⟨Or.inl (tb_of 449 (by decide +kernel) rfl), tb_of 450 (by decide +kernel) rfl, tb_of 451 (by decide +kernel) rfl, by decide +kernel⟩
set_option maxRecDepth 20000 in
theorem ml_L_45 : MLV RL 45 mX10_turn 2 := ⟨Or.inl (tb_of 926 (by decide +kernel) rfl), tb_of 927 (by decide +kernel) rfl, tb_of 928 (by decide +kernel) rfl, by decide +kernel⟩
set_option maxRecDepth 20000 in
theorem ml_L_46 : MLV RL 46 mX9_open 2 := ⟨Or.inl (tb_of 484 (by decide +kernel) rfl), tb_of 485 (by decide +kernel) rfl, tb_of 486 (by decide +kernel) rfl, by decide +kernel⟩
set_option maxRecDepth 20000 in
theorem ml_L_49 : MLV RL 49 mX10_open 2 := ⟨Or.inl (tb_of 938 (by decide +kernel) rfl), tb_of 939 (by decide +kernel) rfl, tb_of 940 (by decide +kernel) rfl, by decide +kernel⟩
set_option maxRecDepth 20000 in
theorem ml_L_50 : MLV RL 50 mX9_tide 2 := ⟨Or.inl (tb_of 492 (by decide +kernel) rfl), tb_of 493 (by decide +kernel) rfl, tb_of 494 (by decide +kernel) rfl, by decide +kernel⟩
set_option maxRecDepth 20000 in
theorem ml_L_53 : MLV RL 53 mX10_tide 2 := ⟨Or.inl (tb_of 942 (by decide +kernel) rfl), tb_of 943 (by decide +kernel) rfl, tb_of 944 (by decide +kernel) rfl, by decide +kernel⟩
set_option maxRecDepth 20000 in
theorem ml_L_54 : MLV RL 54 mX9_price 2 := ⟨Or.inl (tb_of 499 (by decide +kernel) rfl), tb_of 500 (by decide +kernel) rfl, tb_of 501 (by decide +kernel) rfl, by decide +kernel⟩
set_option maxRecDepth 20000 in
theorem ml_L_57 : MLV RL 57 mX10_price 2 := ⟨Or.inl (tb_of 947 (by decide +kernel) rfl), tb_of 948 (by decide +kernel) rfl, tb_of 949 (by decide +kernel) rfl, by decide +kernel⟩
set_option maxRecDepth 20000 in
theorem ml_L_58 : MLV RL 58 mX9_step 1 := ⟨Or.inl (tb_of 503 (by decide +kernel) rfl), tb_of 504 (by decide +kernel) rfl, tb_of 505 (by decide +kernel) rfl, by decide +kernel⟩
set_option maxRecDepth 20000 in
theorem ml_L_62 : MLV RL 62 mX10_step 1 := ⟨Or.inl (tb_of 952 (by decide +kernel) rfl), tb_of 953 (by decide +kernel) rfl, tb_of 954 (by decide +kernel) rfl, by decide +kernel⟩
set_option maxRecDepth 20000 in
theorem ml_L_63 : MLV RL 63 mX9_passed 2 := ⟨Or.inl (tb_of 564 (by decide +kernel) rfl), tb_of 565 (by decide +kernel) rfl, tb_of 566 (by decide +kernel) rfl, by decide +kernel⟩
set_option maxRecDepth 20000 in
theorem ml_L_66 : MLV RL 66 mX10_passed 2 := ⟨Or.inl (tb_of 971 (by decide +kernel) rfl), tb_of 972 (by decide +kernel) rfl, tb_of 973 (by decide +kernel) rfl, by decide +kernel⟩
set_option maxRecDepth 20000 in
theorem ml_L_67 : MLV RL 67 mX9_world 0 := ⟨Or.inl (tb_of 572 (by decide +kernel) rfl), tb_of 573 (by decide +kernel) rfl, tb_of 574 (by decide +kernel) rfl, by decide +kernel⟩
set_option maxRecDepth 20000 in
theorem ml_L_71 : MLV RL 71 mX10_world 0 := ⟨Or.inl (tb_of 975 (by decide +kernel) rfl), tb_of 976 (by decide +kernel) rfl, tb_of 977 (by decide +kernel) rfl, by decide +kernel⟩
set_option maxRecDepth 20000 in
theorem ml_L_72 : MLV RL 72 mX9_foretell 3 := ⟨Or.inl (tb_of 580 (by decide +kernel) rfl), tb_of 581 (by decide +kernel) rfl, tb_of 582 (by decide +kernel) rfl, by decide +kernel⟩
set_option maxRecDepth 20000 in
theorem ml_L_75 : MLV RL 75 mX10_foretell 3 := ⟨Or.inl (tb_of 979 (by decide +kernel) rfl), tb_of 980 (by decide +kernel) rfl, tb_of 981 (by decide +kernel) rfl, by decide +kernel⟩
set_option maxRecDepth 20000 in
theorem ml_L_76 : MLV RL 76 mX9_plan 1 := ⟨Or.inl (tb_of 588 (by decide +kernel) rfl), tb_of 589 (by decide +kernel) rfl, tb_of 590 (by decide +kernel) rfl, by decide +kernel⟩
set_option maxRecDepth 20000 in
theorem ml_L_79 : MLV RL 79 mX10_plan 1 := ⟨Or.inl (tb_of 984 (by decide +kernel) rfl), tb_of 985 (by decide +kernel) rfl, tb_of 986 (by decide +kernel) rfl, by decide +kernel⟩
set_option maxRecDepth 20000 in
theorem ml_L_80 : MLV RL 80 mX9_planned 2 := ⟨Or.inl (tb_of 649 (by decide +kernel) rfl), tb_of 650 (by decide +kernel) rfl, tb_of 651 (by decide +kernel) rfl, by decide +kernel⟩
set_option maxRecDepth 20000 in
theorem ml_L_84 : MLV RL 84 mX10_planned 2 := ⟨Or.inl (tb_of 1028 (by decide +kernel) rfl), tb_of 1029 (by decide +kernel) rfl, tb_of 1030 (by decide +kernel) rfl, by decide +kernel⟩
set_option maxRecDepth 20000 in
theorem ml_L_85 : MLV RL 85 mX9_judge 3 := ⟨Or.inl (tb_of 654 (by decide +kernel) rfl), tb_of 655 (by decide +kernel) rfl, tb_of 656 (by decide +kernel) rfl, by decide +kernel⟩
set_option maxRecDepth 20000 in
theorem ml_L_89 : MLV RL 89 mX10_judge 3 := ⟨Or.inl (tb_of 1033 (by decide +kernel) rfl), tb_of 1034 (by decide +kernel) rfl, tb_of 1035 (by decide +kernel) rfl, by decide +kernel⟩
set_option maxRecDepth 20000 in
theorem ml_L_90 : MLV RL 90 mX9_follow 1 := ⟨Or.inl (tb_of 678 (by decide +kernel) rfl), tb_of 679 (by decide +kernel) rfl, tb_of 680 (by decide +kernel) rfl, by decide +kernel⟩
set_option maxRecDepth 20000 in
theorem ml_L_93 : MLV RL 93 mX10_follow 1 := ⟨Or.inl (tb_of 1038 (by decide +kernel) rfl), tb_of 1039 (by decide +kernel) rfl, tb_of 1040 (by decide +kernel) rfl, by decide +kernel⟩
set_option maxRecDepth 20000 in
theorem ml_L_94 : MLV RL 94 mX9_sheet 3 := ⟨Or.inl (tb_of 684 (by decide +kernel) rfl), tb_of 685 (by decide +kernel) rfl, tb_of 686 (by decide +kernel) rfl, by decide +kernel⟩
set_option maxRecDepth 20000 in
theorem ml_L_97 : MLV RL 97 mX10_sheet 3 := ⟨Or.inl (tb_of 1042 (by decide +kernel) rfl), tb_of 1043 (by decide +kernel) rfl, tb_of 1044 (by decide +kernel) rfl, by decide +kernel⟩
set_option maxRecDepth 20000 in
theorem ml_L_98 : MLV RL 98 mX9_lay 3 := ⟨Or.inl (tb_of 698 (by decide +kernel) rfl), tb_of 699 (by decide +kernel) rfl, tb_of 700 (by decide +kernel) rfl, by decide +kernel⟩
set_option maxRecDepth 20000 in
theorem ml_L_101 : MLV RL 101 mX10_lay 3 := ⟨Or.inl (tb_of 1050 (by decide +kernel) rfl), tb_of 1051 (by decide +kernel) rfl, tb_of 1052 (by decide +kernel) rfl, by decide +kernel⟩
set_option maxRecDepth 20000 in
theorem ml_L_102 : MLV RL 102 mX9_rain 4 := ⟨Or.inl (tb_of 714 (by decide +kernel) rfl), tb_of 715 (by decide +kernel) rfl, tb_of 716 (by decide +kernel) rfl, by decide +kernel⟩
set_option maxRecDepth 20000 in
theorem ml_L_105 : MLV RL 105 mX10_rain 4 := ⟨Or.inl (tb_of 1054 (by decide +kernel) rfl), tb_of 1055 (by decide +kernel) rfl, tb_of 1056 (by decide +kernel) rfl, by decide +kernel⟩
set_option maxRecDepth 20000 in
theorem ml_L_106 : MLV RL 106 mX9_tides 3 := ⟨Or.inl (tb_of 723 (by decide +kernel) rfl), tb_of 724 (by decide +kernel) rfl, tb_of 725 (by decide +kernel) rfl, by decide +kernel⟩
set_option maxRecDepth 20000 in
theorem ml_L_109 : MLV RL 109 mX10_tides 3 := ⟨Or.inl (tb_of 1063 (by decide +kernel) rfl), tb_of 1064 (by decide +kernel) rfl, tb_of 1065 (by decide +kernel) rfl, by decide +kernel⟩
set_option maxRecDepth 20000 in
theorem ml_L_110 : MLV RL 110 mX9_count 1 := ⟨Or.inl (tb_of 728 (by decide +kernel) rfl), tb_of 729 (by decide +kernel) rfl, tb_of 730 (by decide +kernel) rfl, by decide +kernel⟩
set_option maxRecDepth 20000 in
theorem ml_L_113 : MLV RL 113 mX10_count 1 := ⟨Or.inl (tb_of 1067 (by decide +kernel) rfl), tb_of 1068 (by decide +kernel) rfl, tb_of 1069 (by decide +kernel) rfl, by decide +kernel⟩
set_option maxRecDepth 20000 in
theorem ml_X10_117 : MLS RX10 117 mX10_in 3 := ⟨Or.inl (tb_of 882 (by decide +kernel) rfl), tb_of 883 (by decide +kernel) rfl, by decide +kernel⟩
set_option maxRecDepth 20000 in
theorem ml_X10_129 : MLV RX10 129 mX10_isDitch 1 := ⟨Or.inl (tb_of 892 (by decide +kernel) rfl), tb_of 894 (by decide +kernel) rfl, tb_of 47 (by decide +kernel) rfl, by decide +kernel⟩
set_option maxRecDepth 20000 in
theorem ml_X10_137 : MLV RX10 137 mX10_level 1 := ⟨Or.inl (tb_of 904 (by decide +kernel) rfl), tb_of 906 (by decide +kernel) rfl, tb_of 48 (by decide +kernel) rfl, by decide +kernel⟩
set_option maxRecDepth 20000 in
theorem ml_X10_144 : MLV RX10 144 mX10_breach 1 := ⟨Or.inl (tb_of 908 (by decide +kernel) rfl), tb_of 910 (by decide +kernel) rfl, tb_of 49 (by decide +kernel) rfl, by decide +kernel⟩
set_option maxRecDepth 20000 in
theorem ml_X10_163 : MLV RX10 163 mX10_isPaused 2 := ⟨Or.inl (tb_of 930 (by decide +kernel) rfl), tb_of 932 (by decide +kernel) rfl, tb_of 50 (by decide +kernel) rfl, by decide +kernel⟩
set_option maxRecDepth 20000 in
theorem ml_X10_167 : MLV RX10 167 mX10_turns 2 := ⟨Or.inl (tb_of 934 (by decide +kernel) rfl), tb_of 936 (by decide +kernel) rfl, tb_of 51 (by decide +kernel) rfl, by decide +kernel⟩
set_option maxRecDepth 20000 in
theorem ml_X10_175 : MLS RX10 175 mX10_less 2 := ⟨Or.inl (tb_of 964 (by decide +kernel) rfl), tb_of 965 (by decide +kernel) rfl, by decide +kernel⟩
set_option maxRecDepth 20000 in
theorem ml_X10_182 : MLV RX10 182 mX10_flows 3 := ⟨Or.inl (tb_of 960 (by decide +kernel) rfl), tb_of 962 (by decide +kernel) rfl, tb_of 53 (by decide +kernel) rfl, by decide +kernel⟩
set_option maxRecDepth 20000 in
theorem ml_X10_186 : MLV RX10 186 mX10_alarms 0 := ⟨Or.inl (tb_of 967 (by decide +kernel) rfl), tb_of 969 (by decide +kernel) rfl, tb_of 54 (by decide +kernel) rfl, by decide +kernel⟩
set_option maxRecDepth 20000 in
theorem ml_X10_190 : MLV RX10 190 mX10_steps 1 := ⟨Or.inl (tb_of 956 (by decide +kernel) rfl), tb_of 958 (by decide +kernel) rfl, tb_of 52 (by decide +kernel) rfl, by decide +kernel⟩
set_option maxRecDepth 20000 in
theorem ml_X10_198 : MLV RX10 198 mX10_isIn 3 := ⟨Or.inl (tb_of 996 (by decide +kernel) rfl), tb_of 998 (by decide +kernel) rfl, tb_of 57 (by decide +kernel) rfl, by decide +kernel⟩
set_option maxRecDepth 20000 in
theorem ml_X10_202 : MLV RX10 202 mX10_keeps 0 := ⟨Or.inl (tb_of 1008 (by decide +kernel) rfl), tb_of 1010 (by decide +kernel) rfl, tb_of 60 (by decide +kernel) rfl, by decide +kernel⟩
set_option maxRecDepth 20000 in
theorem ml_X10_205 : MLV RX10 205 mX10_keepsPassed 0 := ⟨Or.inl (tb_of 1012 (by decide +kernel) rfl), tb_of 1014 (by decide +kernel) rfl, tb_of 61 (by decide +kernel) rfl, by decide +kernel⟩
set_option maxRecDepth 20000 in
theorem ml_X10_208 : MLV RX10 208 mX10_gives 0 := ⟨Or.inl (tb_of 1016 (by decide +kernel) rfl), tb_of 1018 (by decide +kernel) rfl, tb_of 62 (by decide +kernel) rfl, by decide +kernel⟩
set_option maxRecDepth 20000 in
theorem ml_X10_211 : MLV RX10 211 mX10_givesPassed 0 := ⟨Or.inl (tb_of 1020 (by decide +kernel) rfl), tb_of 1022 (by decide +kernel) rfl, tb_of 63 (by decide +kernel) rfl, by decide +kernel⟩
set_option maxRecDepth 20000 in
theorem ml_X10_217 : MLV RX10 217 mX10_isPlan 2 := ⟨Or.inl (tb_of 992 (by decide +kernel) rfl), tb_of 994 (by decide +kernel) rfl, tb_of 56 (by decide +kernel) rfl, by decide +kernel⟩
set_option maxRecDepth 20000 in
theorem ml_X10_220 : MLV RX10 220 mX10_isWell 2 := ⟨Or.inl (tb_of 1000 (by decide +kernel) rfl), tb_of 1002 (by decide +kernel) rfl, tb_of 58 (by decide +kernel) rfl, by decide +kernel⟩
set_option maxRecDepth 20000 in
theorem ml_X10_223 : MLV RX10 223 mX10_breachOf 2 := ⟨Or.inl (tb_of 1004 (by decide +kernel) rfl), tb_of 1006 (by decide +kernel) rfl, tb_of 59 (by decide +kernel) rfl, by decide +kernel⟩
set_option maxRecDepth 20000 in
theorem ml_X10_227 : MLV RX10 227 mX10_costOf 2 := ⟨Or.inl (tb_of 1024 (by decide +kernel) rfl), tb_of 1026 (by decide +kernel) rfl, tb_of 64 (by decide +kernel) rfl, by decide +kernel⟩
set_option maxRecDepth 20000 in
theorem ml_X10_237 : MLV RX10 237 mX10_findPlan 1 := ⟨Or.inl (tb_of 988 (by decide +kernel) rfl), tb_of 990 (by decide +kernel) rfl, tb_of 55 (by decide +kernel) rfl, by decide +kernel⟩
set_option maxRecDepth 20000 in
theorem ml_X10_247 : MLS RX10 247 mX10_isSheet 2 := ⟨Or.inl (tb_of 1046 (by decide +kernel) rfl), tb_of 1047 (by decide +kernel) rfl, by decide +kernel⟩
set_option maxRecDepth 20000 in
theorem ml_X10_252 : MLV RX10 252 mX10_bars 5 := ⟨Or.inl (tb_of 1059 (by decide +kernel) rfl), tb_of 1061 (by decide +kernel) rfl, tb_of 65 (by decide +kernel) rfl, by decide +kernel⟩
set_option maxRecDepth 20000 in
theorem kc_X9_47 : Cond.constant RX9 47 (100000) ∈ TB := tb_of 397 (by decide +kernel) rfl
set_option maxRecDepth 20000 in
theorem kc_X9_68 : Cond.constant RX9 68 (-1000000) ∈ TB := tb_of 414 (by decide +kernel) rfl
set_option maxRecDepth 20000 in
theorem kc_X9_94 : Cond.constant RX9 94 (16777215) ∈ TB := tb_of 436 (by decide +kernel) rfl
set_option maxRecDepth 20000 in
theorem kc_X10_143 : Cond.constant RX10 143 (-1000000) ∈ TB := tb_of 903 (by decide +kernel) rfl
set_option maxRecDepth 20000 in
theorem kc_J6_265 : Cond.constant RJ6 265 (1431655765) ∈ TB := tb_of 556 (by decide +kernel) rfl
set_option maxRecDepth 20000 in
theorem kc_J6_266 : Cond.constant RJ6 266 (858993459) ∈ TB := tb_of 557 (by decide +kernel) rfl
set_option maxRecDepth 20000 in
theorem kc_J6_267 : Cond.constant RJ6 267 (252645135) ∈ TB := tb_of 558 (by decide +kernel) rfl
set_option maxRecDepth 20000 in
theorem kl_X9_184 : Cond.constantLong RX9 184 (-1) ∈ TB := tb_of 653 (by decide +kernel) rfl
set_option maxRecDepth 20000 in
theorem kl_X3_42 : Cond.constantLong RX3 42 (4611686018427387904) ∈ TB := tb_of 599 (by decide +kernel) rfl
set_option maxRecDepth 20000 in
theorem kl_X10_121 : Cond.constantLong RX10 121 (50) ∈ TB := tb_of 881 (by decide +kernel) rfl
set_option maxRecDepth 20000 in
theorem kl_X10_123 : Cond.constantLong RX10 123 (-500) ∈ TB := tb_of 885 (by decide +kernel) rfl
set_option maxRecDepth 20000 in
theorem kl_X10_125 : Cond.constantLong RX10 125 (500) ∈ TB := tb_of 886 (by decide +kernel) rfl
set_option maxRecDepth 20000 in
theorem kl_X10_127 : Cond.constantLong RX10 127 (100000) ∈ TB := tb_of 887 (by decide +kernel) rfl
set_option maxRecDepth 20000 in
theorem kl_X10_133 : Cond.constantLong RX10 133 (-1000) ∈ TB := tb_of 896 (by decide +kernel) rfl
set_option maxRecDepth 20000 in
theorem kl_X10_135 : Cond.constantLong RX10 135 (1000) ∈ TB := tb_of 897 (by decide +kernel) rfl
set_option maxRecDepth 20000 in
theorem kl_X10_141 : Cond.constantLong RX10 141 (4) ∈ TB := tb_of 902 (by decide +kernel) rfl
set_option maxRecDepth 20000 in
theorem kl_X10_150 : Cond.constantLong RX10 150 (6) ∈ TB := tb_of 920 (by decide +kernel) rfl
set_option maxRecDepth 20000 in
theorem kl_X10_152 : Cond.constantLong RX10 152 (16777215) ∈ TB := tb_of 921 (by decide +kernel) rfl
set_option maxRecDepth 20000 in
theorem kl_X10_171 : Cond.constantLong RX10 171 (23) ∈ TB := tb_of 946 (by decide +kernel) rfl
set_option maxRecDepth 20000 in
theorem kl_X10_173 : Cond.constantLong RX10 173 (100) ∈ TB := tb_of 951 (by decide +kernel) rfl
set_option maxRecDepth 20000 in
theorem kl_X10_196 : Cond.constantLong RX10 196 (5) ∈ TB := tb_of 983 (by decide +kernel) rfl
set_option maxRecDepth 20000 in
theorem kl_X10_241 : Cond.constantLong RX10 241 (-1) ∈ TB := tb_of 1032 (by decide +kernel) rfl
set_option maxRecDepth 20000 in
theorem kl_X10_243 : Cond.constantLong RX10 243 (2) ∈ TB := tb_of 1037 (by decide +kernel) rfl
set_option maxRecDepth 20000 in
theorem kl_X10_245 : Cond.constantLong RX10 245 (3) ∈ TB := tb_of 1049 (by decide +kernel) rfl
set_option maxRecDepth 20000 in
theorem kl_X10_250 : Cond.constantLong RX10 250 (24) ∈ TB := tb_of 1058 (by decide +kernel) rfl
set_option maxRecDepth 20000 in
theorem mc_X9_235 : Cond.methodLink RX9 235 arraycopyName ∈ TB := tb_of 727 (by decide +kernel) rfl
set_option maxRecDepth 20000 in
theorem mc_X3_122 : Cond.methodLink RX3 122 arraycopyName ∈ TB := tb_of 609 (by decide +kernel) rfl
set_option maxRecDepth 20000 in
theorem ac_nat : Cond.native arraycopyName ∈ TB := tb_of 611 (by decide +kernel) rfl
set_option maxRecDepth 20000 in
theorem ac_stat : Cond.static arraycopyName ∈ TB := tb_of 610 (by decide +kernel) rfl
set_option maxRecDepth 20000 in
theorem ac_ini : Cond.initialized "java/lang/System" ∈ TB := tb_of 81 (by decide +kernel) rfl
end
section
theorem kb_100 : (Int8.ofInt (100)).toInt32 = 100 := by decide +kernel
theorem kb_12 : (Int8.ofInt (12)).toInt32 = 12 := by decide +kernel
theorem kb_16 : (Int8.ofInt (16)).toInt32 = 16 := by decide +kernel
theorem kb_23 : (Int8.ofInt (23)).toInt32 = 23 := by decide +kernel
theorem kb_24 : (Int8.ofInt (24)).toInt32 = 24 := by decide +kernel
theorem kb_50 : (Int8.ofInt (50)).toInt32 = 50 := by decide +kernel
theorem kb_6 : (Int8.ofInt (6)).toInt32 = 6 := by decide +kernel
theorem kb_60 : (Int8.ofInt (60)).toInt32 = 60 := by decide +kernel
theorem kb_63 : (Int8.ofInt (63)).toInt32 = 63 := by decide +kernel
theorem kb_8 : (Int8.ofInt (8)).toInt32 = 8 := by decide +kernel
theorem kb_m10 : (Int8.ofInt (-10)).toInt32 = (-10) := by decide +kernel
theorem kb_m11 : (Int8.ofInt (-11)).toInt32 = (-11) := by decide +kernel
theorem kb_m12 : (Int8.ofInt (-12)).toInt32 = (-12) := by decide +kernel
theorem kb_m13 : (Int8.ofInt (-13)).toInt32 = (-13) := by decide +kernel
theorem kb_m14 : (Int8.ofInt (-14)).toInt32 = (-14) := by decide +kernel
theorem kb_m2 : (Int8.ofInt (-2)).toInt32 = (-2) := by decide +kernel
theorem kb_m20 : (Int8.ofInt (-20)).toInt32 = (-20) := by decide +kernel
theorem kb_m3 : (Int8.ofInt (-3)).toInt32 = (-3) := by decide +kernel
theorem kb_m4 : (Int8.ofInt (-4)).toInt32 = (-4) := by decide +kernel
theorem kc_0 : Int32.ofInt (0) = 0 := by decide +kernel
theorem kc_1 : Int32.ofInt (1) = 1 := by decide +kernel
theorem kc_2 : Int32.ofInt (2) = 2 := by decide +kernel
theorem kc_3 : Int32.ofInt (3) = 3 := by decide +kernel
theorem kc_4 : Int32.ofInt (4) = 4 := by decide +kernel
theorem kc_5 : Int32.ofInt (5) = 5 := by decide +kernel
theorem kc_m1 : Int32.ofInt (-1) = (-1) := by decide +kernel
theorem kl_0 : Int64.ofNat ((0 : Fin 2) : Nat) = 0 := by decide +kernel
theorem kl_1 : Int64.ofNat ((1 : Fin 2) : Nat) = 1 := by decide +kernel
theorem ks_1000 : (Int16.ofInt (1000)).toInt32 = 1000 := by decide +kernel
theorem ks_500 : (Int16.ofInt (500)).toInt32 = 500 := by decide +kernel
theorem ks_m1000 : (Int16.ofInt (-1000)).toInt32 = (-1000) := by decide +kernel
theorem ks_m500 : (Int16.ofInt (-500)).toInt32 = (-500) := by decide +kernel
theorem lc_ge {x y : Int64} : 0 ≤ lg_cmp x y ↔ x ≥ y := lg_cmp_ge x y
theorem lc_cases (x y : Int64) : (y < x ∧ lg_cmp x y = 1) ∨ (x = y ∧ lg_cmp x y = 0) ∨ (x < y ∧ lg_cmp x y = -1) := by
  unfold lg_cmp
  by_cases h : y < x
  · left; simp [h]
  · by_cases e : x = y
    · right; left; subst e; simp
    · right; right
      refine ⟨?_, by simp [h, e]⟩
      rw [Int64.lt_iff_toInt_lt] at h ⊢
      have : x.toInt ≠ y.toInt := fun q => e (Int64.toInt_inj.mp q)
      omega
theorem lc_aux {x y : Int64} : (x < y → ¬ y < x ∧ ¬ x = y) := fun h => by
  refine ⟨fun q => ?_, fun q => ?_⟩
  · rw [Int64.lt_iff_toInt_lt] at h q; omega
  · subst q; rw [Int64.lt_iff_toInt_lt] at h; omega
theorem lc_le {x y : Int64} : lg_cmp x y ≤ 0 ↔ x ≤ y := by
  rcases lc_cases x y with ⟨h, e⟩ | ⟨h, e⟩ | ⟨h, e⟩ <;> rw [e]
  · refine ⟨fun q => absurd q (by decide), fun q => ?_⟩
    rw [Int64.lt_iff_toInt_lt] at h; rw [Int64.le_iff_toInt_le] at q; omega
  · subst h; exact ⟨fun _ => by rw [Int64.le_iff_toInt_le]; omega, fun _ => by decide⟩
  · refine ⟨fun _ => ?_, fun _ => by decide⟩
    rw [Int64.lt_iff_toInt_lt] at h; rw [Int64.le_iff_toInt_le]; omega
theorem lc_gt {x y : Int64} : 0 < lg_cmp x y ↔ x > y := by
  rcases lc_cases x y with ⟨h, e⟩ | ⟨h, e⟩ | ⟨h, e⟩ <;> rw [e]
  · exact ⟨fun _ => h, fun _ => by decide⟩
  · subst h; refine ⟨fun q => absurd q (by decide), fun q => ?_⟩
    have q : x < x := q
    rw [Int64.lt_iff_toInt_lt] at q; omega
  · exact ⟨fun q => absurd q (by decide), fun q => absurd q (lc_aux h).1⟩
theorem lc_lt {x y : Int64} : lg_cmp x y < 0 ↔ x < y := by
  rcases lc_cases x y with ⟨h, e⟩ | ⟨h, e⟩ | ⟨h, e⟩ <;> rw [e]
  · exact ⟨fun q => absurd q (by decide), fun q => absurd h (lc_aux q).1⟩
  · subst h; refine ⟨fun q => absurd q (by decide), fun q => ?_⟩
    rw [Int64.lt_iff_toInt_lt] at q; omega
  · exact ⟨fun _ => h, fun _ => by decide⟩
theorem lc_eq {x y : Int64} : lg_cmp x y = 0 ↔ x = y := by
  rcases lc_cases x y with ⟨h, e⟩ | ⟨h, e⟩ | ⟨h, e⟩ <;> rw [e]
  · refine ⟨fun q => absurd q (by decide), fun q => ?_⟩
    subst q; rw [Int64.lt_iff_toInt_lt] at h; omega
  · exact ⟨fun _ => h, fun _ => rfl⟩
  · exact ⟨fun q => absurd q (by decide), fun q => absurd q (lc_aux h).2⟩
theorem lc_ne {x y : Int64} : ¬ lg_cmp x y = 0 ↔ ¬ x = y := not_congr lc_eq
theorem tab_3 {x : Int32} (c0 : ¬ x = 0) (c1 : ¬ x = 1) (c2 : ¬ x = 2) : x.toInt < 0 ∨ 2 < x.toInt := by
  have h0 : x.toInt ≠ 0 := fun h => c0 (Int32.toInt_inj.mp (h.trans (by decide)))
  have h1 : x.toInt ≠ 1 := fun h => c1 (Int32.toInt_inj.mp (h.trans (by decide)))
  have h2 : x.toInt ≠ 2 := fun h => c2 (Int32.toInt_inj.mp (h.trans (by decide)))
  omega
theorem tab_5 {x : Int32} (c0 : ¬ x = 0) (c1 : ¬ x = 1) (c2 : ¬ x = 2) (c3 : ¬ x = 3) (c4 : ¬ x = 4) : x.toInt < 0 ∨ 4 < x.toInt := by
  have h0 : x.toInt ≠ 0 := fun h => c0 (Int32.toInt_inj.mp (h.trans (by decide)))
  have h1 : x.toInt ≠ 1 := fun h => c1 (Int32.toInt_inj.mp (h.trans (by decide)))
  have h2 : x.toInt ≠ 2 := fun h => c2 (Int32.toInt_inj.mp (h.trans (by decide)))
  have h3 : x.toInt ≠ 3 := fun h => c3 (Int32.toInt_inj.mp (h.trans (by decide)))
  have h4 : x.toInt ≠ 4 := fun h => c4 (Int32.toInt_inj.mp (h.trans (by decide)))
  omega
theorem tab_10 {x : Int32} (c0 : ¬ x = 0) (c1 : ¬ x = 1) (c2 : ¬ x = 2) (c3 : ¬ x = 3) (c4 : ¬ x = 4) (c5 : ¬ x = 5) (c6 : ¬ x = 6) (c7 : ¬ x = 7) (c8 : ¬ x = 8) (c9 : ¬ x = 9) : x.toInt < 0 ∨ 9 < x.toInt := by
  have h0 : x.toInt ≠ 0 := fun h => c0 (Int32.toInt_inj.mp (h.trans (by decide)))
  have h1 : x.toInt ≠ 1 := fun h => c1 (Int32.toInt_inj.mp (h.trans (by decide)))
  have h2 : x.toInt ≠ 2 := fun h => c2 (Int32.toInt_inj.mp (h.trans (by decide)))
  have h3 : x.toInt ≠ 3 := fun h => c3 (Int32.toInt_inj.mp (h.trans (by decide)))
  have h4 : x.toInt ≠ 4 := fun h => c4 (Int32.toInt_inj.mp (h.trans (by decide)))
  have h5 : x.toInt ≠ 5 := fun h => c5 (Int32.toInt_inj.mp (h.trans (by decide)))
  have h6 : x.toInt ≠ 6 := fun h => c6 (Int32.toInt_inj.mp (h.trans (by decide)))
  have h7 : x.toInt ≠ 7 := fun h => c7 (Int32.toInt_inj.mp (h.trans (by decide)))
  have h8 : x.toInt ≠ 8 := fun h => c8 (Int32.toInt_inj.mp (h.trans (by decide)))
  have h9 : x.toInt ≠ 9 := fun h => c9 (Int32.toInt_inj.mp (h.trans (by decide)))
  omega
theorem tab_23 {x : Int32} (c0 : ¬ x = 0) (c1 : ¬ x = 1) (c2 : ¬ x = 2) (c3 : ¬ x = 3) (c4 : ¬ x = 4) (c5 : ¬ x = 5) (c6 : ¬ x = 6) (c7 : ¬ x = 7) (c8 : ¬ x = 8) (c9 : ¬ x = 9) (c10 : ¬ x = 10) (c11 : ¬ x = 11) (c12 : ¬ x = 12) (c13 : ¬ x = 13) (c14 : ¬ x = 14) (c15 : ¬ x = 15) (c16 : ¬ x = 16) (c17 : ¬ x = 17) (c18 : ¬ x = 18) (c19 : ¬ x = 19) (c20 : ¬ x = 20) (c21 : ¬ x = 21) (c22 : ¬ x = 22) : x.toInt < 0 ∨ 22 < x.toInt := by
  have h0 : x.toInt ≠ 0 := fun h => c0 (Int32.toInt_inj.mp (h.trans (by decide)))
  have h1 : x.toInt ≠ 1 := fun h => c1 (Int32.toInt_inj.mp (h.trans (by decide)))
  have h2 : x.toInt ≠ 2 := fun h => c2 (Int32.toInt_inj.mp (h.trans (by decide)))
  have h3 : x.toInt ≠ 3 := fun h => c3 (Int32.toInt_inj.mp (h.trans (by decide)))
  have h4 : x.toInt ≠ 4 := fun h => c4 (Int32.toInt_inj.mp (h.trans (by decide)))
  have h5 : x.toInt ≠ 5 := fun h => c5 (Int32.toInt_inj.mp (h.trans (by decide)))
  have h6 : x.toInt ≠ 6 := fun h => c6 (Int32.toInt_inj.mp (h.trans (by decide)))
  have h7 : x.toInt ≠ 7 := fun h => c7 (Int32.toInt_inj.mp (h.trans (by decide)))
  have h8 : x.toInt ≠ 8 := fun h => c8 (Int32.toInt_inj.mp (h.trans (by decide)))
  have h9 : x.toInt ≠ 9 := fun h => c9 (Int32.toInt_inj.mp (h.trans (by decide)))
  have h10 : x.toInt ≠ 10 := fun h => c10 (Int32.toInt_inj.mp (h.trans (by decide)))
  have h11 : x.toInt ≠ 11 := fun h => c11 (Int32.toInt_inj.mp (h.trans (by decide)))
  have h12 : x.toInt ≠ 12 := fun h => c12 (Int32.toInt_inj.mp (h.trans (by decide)))
  have h13 : x.toInt ≠ 13 := fun h => c13 (Int32.toInt_inj.mp (h.trans (by decide)))
  have h14 : x.toInt ≠ 14 := fun h => c14 (Int32.toInt_inj.mp (h.trans (by decide)))
  have h15 : x.toInt ≠ 15 := fun h => c15 (Int32.toInt_inj.mp (h.trans (by decide)))
  have h16 : x.toInt ≠ 16 := fun h => c16 (Int32.toInt_inj.mp (h.trans (by decide)))
  have h17 : x.toInt ≠ 17 := fun h => c17 (Int32.toInt_inj.mp (h.trans (by decide)))
  have h18 : x.toInt ≠ 18 := fun h => c18 (Int32.toInt_inj.mp (h.trans (by decide)))
  have h19 : x.toInt ≠ 19 := fun h => c19 (Int32.toInt_inj.mp (h.trans (by decide)))
  have h20 : x.toInt ≠ 20 := fun h => c20 (Int32.toInt_inj.mp (h.trans (by decide)))
  have h21 : x.toInt ≠ 21 := fun h => c21 (Int32.toInt_inj.mp (h.trans (by decide)))
  have h22 : x.toInt ≠ 22 := fun h => c22 (Int32.toInt_inj.mp (h.trans (by decide)))
  omega
end
section
set_option maxHeartbeats 4000000 in
set_option maxRecDepth 100000 in
theorem b_X0_add_0 {G : GC} {n : Nat} {r : Option Value} {M' : MM} (g : Good G mX0_add n) (gr : GoodR G r M') (hn : 1 ≤ n) (a1 : Int32) (a2 : Int32) (a3 : Int32)   (M : MM) (h : (((M.1 2 7) < (6 : Int32) → (vp_in (M.1 2 7) 6) ∧ (∀ M3 : MM, M3 = ui M 3 (M.1 2 7).toNatClampNeg a1 → (vp_in (M3.1 2 7) 6) ∧ (∀ M5 : MM, M5 = ui M3 4 (M3.1 2 7).toNatClampNeg a2 → (vp_in (M5.1 2 7) 6) ∧ (∀ M7 : MM, M7 = ui M5 5 (M5.1 2 7).toNatClampNeg (-1000) → (vp_in (M7.1 2 7) 6) ∧ (∀ M9 : MM, M9 = ui M7 6 (M7.1 2 7).toNatClampNeg 1000 → (vp_in (M9.1 2 7) 6) ∧ (∀ M11 : MM, M11 = ui M9 7 (M9.1 2 7).toNatClampNeg a3 → (∀ M12 : MM, M12 = ui M11 2 7 ((M11.1 2 7) + 1) → (r = some (.int (M11.1 2 7)) ∧ M' = M12)))))))) ∧ (¬ ((M.1 2 7) < (6 : Int32)) → (r = some (.int (-3)) ∧ M' = M)))) : Ev G 0 [(0, .ref 2), (1, .int a1), (2, .int a2), (3, .int a3)] [] M := by
  refine e_aload_n (pc := 0) g 0 dX0_add_0 rfl ?_
  refine e_getI (pc := 1) g fl_X0_33 sh_2 rfl dX0_add_1 ?_
  refine e_bipush (pc := 4) g 6 dX0_add_4 kb_6 ?_
  refine e_icmp_lt (pc := 6) g 12 dX0_add_6 (by decide) (fun c1 => ?_) (fun c1 => ?_)
  · have h := h.1 c1
    refine e_aload_n (pc := 12) g 0 dX0_add_12 rfl ?_
    refine e_getR (pc := 13) g 3 fl_X0_9 sh_2 rfl dX0_add_13 ?_
    refine e_aload_n (pc := 16) g 0 dX0_add_16 rfl ?_
    refine e_getI (pc := 17) g fl_X0_33 sh_2 rfl dX0_add_17 ?_
    refine e_iload_n (pc := 20) g 1 dX0_add_20 rfl ?_
    obtain ⟨o2, h⟩ := h
    refine e_iast (pc := 21) g sh_3 o2 dX0_add_21 ?_
    obtain ⟨M3, qM3⟩ : ∃ y : MM, y = ui M 3 (M.1 2 7).toNatClampNeg a1 := ⟨_, rfl⟩
    have h := h M3 qM3
    refine e_to (M' := M3) rfl rfl (by rw [qM3]) ?_
    refine e_aload_n (pc := 22) g 0 dX0_add_22 rfl ?_
    refine e_getR (pc := 23) g 4 fl_X0_15 sh_2 rfl dX0_add_23 ?_
    refine e_aload_n (pc := 26) g 0 dX0_add_26 rfl ?_
    refine e_getI (pc := 27) g fl_X0_33 sh_2 rfl dX0_add_27 ?_
    refine e_iload_n (pc := 30) g 2 dX0_add_30 rfl ?_
    obtain ⟨o4, h⟩ := h
    refine e_iast (pc := 31) g sh_4 o4 dX0_add_31 ?_
    obtain ⟨M5, qM5⟩ : ∃ y : MM, y = ui M3 4 (M3.1 2 7).toNatClampNeg a2 := ⟨_, rfl⟩
    have h := h M5 qM5
    refine e_to (M' := M5) rfl rfl (by rw [qM5]) ?_
    refine e_aload_n (pc := 32) g 0 dX0_add_32 rfl ?_
    refine e_getR (pc := 33) g 5 fl_X0_18 sh_2 rfl dX0_add_33 ?_
    refine e_aload_n (pc := 36) g 0 dX0_add_36 rfl ?_
    refine e_getI (pc := 37) g fl_X0_33 sh_2 rfl dX0_add_37 ?_
    refine e_sipush (pc := 40) g (-1000) dX0_add_40 ks_m1000 ?_
    obtain ⟨o6, h⟩ := h
    refine e_iast (pc := 43) g sh_5 o6 dX0_add_43 ?_
    obtain ⟨M7, qM7⟩ : ∃ y : MM, y = ui M5 5 (M5.1 2 7).toNatClampNeg (-1000) := ⟨_, rfl⟩
    have h := h M7 qM7
    refine e_to (M' := M7) rfl rfl (by rw [qM7]) ?_
    refine e_aload_n (pc := 44) g 0 dX0_add_44 rfl ?_
    refine e_getR (pc := 45) g 6 fl_X0_21 sh_2 rfl dX0_add_45 ?_
    refine e_aload_n (pc := 48) g 0 dX0_add_48 rfl ?_
    refine e_getI (pc := 49) g fl_X0_33 sh_2 rfl dX0_add_49 ?_
    refine e_sipush (pc := 52) g 1000 dX0_add_52 ks_1000 ?_
    obtain ⟨o8, h⟩ := h
    refine e_iast (pc := 55) g sh_6 o8 dX0_add_55 ?_
    obtain ⟨M9, qM9⟩ : ∃ y : MM, y = ui M7 6 (M7.1 2 7).toNatClampNeg 1000 := ⟨_, rfl⟩
    have h := h M9 qM9
    refine e_to (M' := M9) rfl rfl (by rw [qM9]) ?_
    refine e_aload_n (pc := 56) g 0 dX0_add_56 rfl ?_
    refine e_getR (pc := 57) g 7 fl_X0_24 sh_2 rfl dX0_add_57 ?_
    refine e_aload_n (pc := 60) g 0 dX0_add_60 rfl ?_
    refine e_getI (pc := 61) g fl_X0_33 sh_2 rfl dX0_add_61 ?_
    refine e_iload_n (pc := 64) g 3 dX0_add_64 rfl ?_
    obtain ⟨o10, h⟩ := h
    refine e_iast (pc := 65) g sh_7 o10 dX0_add_65 ?_
    obtain ⟨M11, qM11⟩ : ∃ y : MM, y = ui M9 7 (M9.1 2 7).toNatClampNeg a3 := ⟨_, rfl⟩
    have h := h M11 qM11
    refine e_to (M' := M11) rfl rfl (by rw [qM11]) ?_
    refine e_aload_n (pc := 66) g 0 dX0_add_66 rfl ?_
    refine e_dup (pc := 67) g dX0_add_67 rfl ?_
    refine e_getI (pc := 68) g fl_X0_33 sh_2 rfl dX0_add_68 ?_
    refine e_dup_x1 (pc := 71) g dX0_add_71 rfl rfl ?_
    refine e_iconst (pc := 72) g 1 dX0_add_72 kc_1 ?_
    refine e_iadd (pc := 73) g dX0_add_73 ?_
    refine e_putI (pc := 74) g fw_X0_33 sh_2 rfl dX0_add_74 ?_
    obtain ⟨M12, qM12⟩ : ∃ y : MM, y = ui M11 2 7 ((M11.1 2 7) + 1) := ⟨_, rfl⟩
    have h := h M12 qM12
    refine e_to (M' := M12) rfl rfl (by rw [qM12]) ?_
    exact e_iret (pc := 77) g gr rfl dX0_add_77 h
  · have h := h.2 c1
    refine e_bipush (pc := 9) g (-3) dX0_add_9 kb_m3 ?_
    exact e_iret (pc := 11) g gr rfl dX0_add_11 h
set_option maxHeartbeats 4000000 in
set_option maxRecDepth 100000 in
theorem b_X0_has_0 {G : GC} {n : Nat} {r : Option Value} {M' : MM} (g : Good G mX0_has n) (gr : GoodR G r M') (hn : 1 ≤ n) (a1 : Int32)   (M : MM) (h : ((if a1 < (0 : Int32) then 0 else (if ((M.1 2 7) : Int32) ≤ a1 then 0 else 1)) = (0 : Int32) ∨ (if a1 < (0 : Int32) then 0 else (if ((M.1 2 7) : Int32) ≤ a1 then 0 else 1)) = (1 : Int32)) ∧ (r = some (.int (if a1 < (0 : Int32) then 0 else (if ((M.1 2 7) : Int32) ≤ a1 then 0 else 1))) ∧ M' = M)) : Ev G 0 [(0, .ref 2), (1, .int a1)] [] M := by
  refine e_iload_n (pc := 0) g 1 dX0_has_0 rfl ?_
  have hj : Ev G 17 [(0, .ref 2), (1, .int a1)] [.int (if a1 < (0 : Int32) then 0 else (if ((M.1 2 7) : Int32) ≤ a1 then 0 else 1))] M := by
    obtain ⟨o3, h⟩ := h
    exact e_zret (pc := 17) g gr rfl o3 dX0_has_17 h
  refine e_if_lt (pc := 1) g 16 dX0_has_1 (by decide) (fun c1 => ?_) (fun c1 => ?_)
  · rw [if_pos c1] at hj
    refine e_iconst (pc := 16) g 0 dX0_has_16 kc_0 ?_
    exact hj
  · rw [if_neg c1] at hj
    refine e_iload_n (pc := 4) g 1 dX0_has_4 rfl ?_
    refine e_aload_n (pc := 5) g 0 dX0_has_5 rfl ?_
    refine e_getI (pc := 6) g fl_X0_33 sh_2 rfl dX0_has_6 ?_
    refine e_icmp_ge (pc := 9) g 16 dX0_has_9 (by decide) (fun c2 => ?_) (fun c2 => ?_)
    · rw [if_pos c2] at hj
      refine e_iconst (pc := 16) g 0 dX0_has_16 kc_0 ?_
      exact hj
    · rw [if_neg c2] at hj
      refine e_iconst (pc := 12) g 1 dX0_has_12 kc_1 ?_
      refine e_goto (pc := 13) g 17 dX0_has_13 (by decide) ?_
      exact hj
set_option maxHeartbeats 4000000 in
set_option maxRecDepth 100000 in
theorem b_X0_level_0 {G : GC} {n : Nat} {r : Option Value} {M' : MM} (g : Good G mX0_level n) (gr : GoodR G r M') (hn : 1 ≤ n) (a1 : Int32) (w : Nat)  (hw : shp w = (1, 0, 6, [])) (M : MM) (h : (vp_in a1 6) ∧ (((1 : Int32) ≤ (M.1 3 a1.toNatClampNeg) → (¬ (M.1 3 a1.toNatClampNeg) = (0 : Int32)) ∧ (r = some (.int ((M.1 4 a1.toNatClampNeg) + ((M.1 w a1.toNatClampNeg) / (M.1 3 a1.toNatClampNeg)))) ∧ M' = M)) ∧ (¬ ((1 : Int32) ≤ (M.1 3 a1.toNatClampNeg)) → (r = some (.int (M.1 4 a1.toNatClampNeg)) ∧ M' = M)))) : Ev G 0 [(0, .ref 2), (1, .int a1), (2, .ref w)] [] M := by
  refine e_aload_n (pc := 0) g 0 dX0_level_0 rfl ?_
  refine e_getR (pc := 1) g 3 fl_X0_9 sh_2 rfl dX0_level_1 ?_
  refine e_iload_n (pc := 4) g 1 dX0_level_4 rfl ?_
  obtain ⟨o1, h⟩ := h
  refine e_iald (pc := 5) g sh_3 o1 dX0_level_5 ?_
  refine e_iconst (pc := 6) g 1 dX0_level_6 kc_1 ?_
  refine e_icmp_ge (pc := 7) g 19 dX0_level_7 (by decide) (fun c2 => ?_) (fun c2 => ?_)
  · have h := h.1 c2
    refine e_aload_n (pc := 19) g 0 dX0_level_19 rfl ?_
    refine e_getR (pc := 20) g 4 fl_X0_15 sh_2 rfl dX0_level_20 ?_
    refine e_iload_n (pc := 23) g 1 dX0_level_23 rfl ?_
    refine e_iald (pc := 24) g sh_4 o1 dX0_level_24 ?_
    refine e_aload_n (pc := 25) g 2 dX0_level_25 rfl ?_
    refine e_iload_n (pc := 26) g 1 dX0_level_26 rfl ?_
    refine e_iald (pc := 27) g hw o1 dX0_level_27 ?_
    refine e_aload_n (pc := 28) g 0 dX0_level_28 rfl ?_
    refine e_getR (pc := 29) g 3 fl_X0_9 sh_2 rfl dX0_level_29 ?_
    refine e_iload_n (pc := 32) g 1 dX0_level_32 rfl ?_
    refine e_iald (pc := 33) g sh_3 o1 dX0_level_33 ?_
    obtain ⟨o3, h⟩ := h
    refine e_idiv (pc := 34) g dX0_level_34 o3 ?_
    refine e_iadd (pc := 35) g dX0_level_35 ?_
    exact e_iret (pc := 36) g gr rfl dX0_level_36 h
  · have h := h.2 c2
    refine e_aload_n (pc := 10) g 0 dX0_level_10 rfl ?_
    refine e_getR (pc := 11) g 4 fl_X0_15 sh_2 rfl dX0_level_11 ?_
    refine e_iload_n (pc := 14) g 1 dX0_level_14 rfl ?_
    refine e_iald (pc := 15) g sh_4 o1 dX0_level_15 ?_
    refine e_goto (pc := 16) g 36 dX0_level_16 (by decide) ?_
    exact e_iret (pc := 36) g gr rfl dX0_level_36 h
set_option maxHeartbeats 4000000 in
set_option maxRecDepth 100000 in
theorem b_X0_breach_0 {G : GC} {n : Nat} {r : Option Value} {M' : MM} (g : Good G mX0_breach n) (gr : GoodR G r M') (hn : 2 ≤ n) (a1 : Int32) (w : Nat)  (hw : shp w = (1, 0, 6, [])) (M : MM) (h : (∃ (r3 : Int32) (M1 : MM), Fn 1 mX0_level [.ref 2, .int a1, .ref w] M (some (.int r3)) M1 ∧ (vp_in a1 6) ∧ ((((M1.1 5 a1.toNatClampNeg) : Int32) ≤ r3 → ((r3 ≤ ((M1.1 6 a1.toNatClampNeg) : Int32) → (r = some (.int 0) ∧ M' = M1)) ∧ (¬ (r3 ≤ ((M1.1 6 a1.toNatClampNeg) : Int32)) → (r = some (.int (r3 - (M1.1 6 a1.toNatClampNeg))) ∧ M' = M1)))) ∧ (¬ (((M1.1 5 a1.toNatClampNeg) : Int32) ≤ r3) → (r = some (.int ((M1.1 5 a1.toNatClampNeg) - r3)) ∧ M' = M1))))) : Ev G 0 [(0, .ref 2), (1, .int a1), (2, .ref w)] [] M := by
  refine e_aload_n (pc := 0) g 0 dX0_breach_0 rfl ?_
  refine e_iload_n (pc := 1) g 1 dX0_breach_1 rfl ?_
  refine e_aload_n (pc := 2) g 2 dX0_breach_2 rfl ?_
  obtain ⟨r3, M1, f2, h⟩ := h
  refine e_callV (As := [.int a1, .ref w]) (S := []) (pc := 3) g ok_X0_level ml_X0_37 sh_2 ⟨_, rfl, rfl⟩ f2 (by omega) rfl (Nat.le_of_ble_eq_true rfl) dX0_breach_3 ?_
  refine e_to (S' := [.int r3]) rfl rfl rfl ?_
  refine e_istore_n (pc := 6) g [(0, .ref 2), (1, .int a1), (2, .ref w), (3, .int r3)] dX0_breach_6 (by decide) rfl ?_
  refine e_iload_n (pc := 7) g 3 dX0_breach_7 rfl ?_
  refine e_aload_n (pc := 8) g 0 dX0_breach_8 rfl ?_
  refine e_getR (pc := 9) g 5 fl_X0_18 sh_2 rfl dX0_breach_9 ?_
  refine e_iload_n (pc := 12) g 1 dX0_breach_12 rfl ?_
  obtain ⟨o4, h⟩ := h
  refine e_iald (pc := 13) g sh_5 o4 dX0_breach_13 ?_
  refine e_icmp_ge (pc := 14) g 28 dX0_breach_14 (by decide) (fun c5 => ?_) (fun c5 => ?_)
  · have h := h.1 c5
    refine e_iload_n (pc := 28) g 3 dX0_breach_28 rfl ?_
    refine e_aload_n (pc := 29) g 0 dX0_breach_29 rfl ?_
    refine e_getR (pc := 30) g 6 fl_X0_21 sh_2 rfl dX0_breach_30 ?_
    refine e_iload_n (pc := 33) g 1 dX0_breach_33 rfl ?_
    refine e_iald (pc := 34) g sh_6 o4 dX0_breach_34 ?_
    refine e_icmp_le (pc := 35) g 49 dX0_breach_35 (by decide) (fun c6 => ?_) (fun c6 => ?_)
    · have h := h.1 c6
      refine e_iconst (pc := 49) g 0 dX0_breach_49 kc_0 ?_
      exact e_iret (pc := 50) g gr rfl dX0_breach_50 h
    · have h := h.2 c6
      refine e_iload_n (pc := 38) g 3 dX0_breach_38 rfl ?_
      refine e_aload_n (pc := 39) g 0 dX0_breach_39 rfl ?_
      refine e_getR (pc := 40) g 6 fl_X0_21 sh_2 rfl dX0_breach_40 ?_
      refine e_iload_n (pc := 43) g 1 dX0_breach_43 rfl ?_
      refine e_iald (pc := 44) g sh_6 o4 dX0_breach_44 ?_
      refine e_isub (pc := 45) g dX0_breach_45 ?_
      refine e_goto (pc := 46) g 50 dX0_breach_46 (by decide) ?_
      exact e_iret (pc := 50) g gr rfl dX0_breach_50 h
  · have h := h.2 c5
    refine e_aload_n (pc := 17) g 0 dX0_breach_17 rfl ?_
    refine e_getR (pc := 18) g 5 fl_X0_18 sh_2 rfl dX0_breach_18 ?_
    refine e_iload_n (pc := 21) g 1 dX0_breach_21 rfl ?_
    refine e_iald (pc := 22) g sh_5 o4 dX0_breach_22 ?_
    refine e_iload_n (pc := 23) g 3 dX0_breach_23 rfl ?_
    refine e_isub (pc := 24) g dX0_breach_24 ?_
    refine e_goto (pc := 25) g 50 dX0_breach_25 (by decide) ?_
    exact e_iret (pc := 50) g gr rfl dX0_breach_50 h
/-- at the cut 5 of X0_allBreach -/
def At_X0_allBreach_5 (G : GC) (w : Nat) (v2 : Int64) (v4 : Int32)  (M : MM) : Prop := Ev G 5 [(0, .ref 2), (1, .ref w), (2, .long v2), (4, .int v4)] [] M
set_option maxHeartbeats 4000000 in
set_option maxRecDepth 100000 in
theorem b_X0_allBreach_0 {G : GC} {n : Nat} {r : Option Value} {M' : MM} (g : Good G mX0_allBreach n) (gr : GoodR G r M') (hn : 3 ≤ n) (w : Nat)  (hw : shp w = (1, 0, 6, [])) (M : MM) (h : At_X0_allBreach_5 G w 0 0 M) : Ev G 0 [(0, .ref 2), (1, .ref w)] [] M := by
  refine e_lconst (pc := 0) g 0 dX0_allBreach_0 kl_0 ?_
  refine e_lstore_n (pc := 1) g [(0, .ref 2), (1, .ref w), (2, .long 0)] dX0_allBreach_1 (by decide) rfl ?_
  refine e_iconst (pc := 2) g 0 dX0_allBreach_2 kc_0 ?_
  refine e_istore (pc := 3) g [(0, .ref 2), (1, .ref w), (2, .long 0), (4, .int 0)] dX0_allBreach_3 (by decide) rfl ?_
  exact h
set_option maxHeartbeats 4000000 in
set_option maxRecDepth 100000 in
theorem b_X0_allBreach_5 {G : GC} {n : Nat} {r : Option Value} {M' : MM} (g : Good G mX0_allBreach n) (gr : GoodR G r M') (hn : 3 ≤ n) (w : Nat) (v2 : Int64) (v4 : Int32) (hw : shp w = (1, 0, 6, [])) (M : MM) (h : ((((M.1 2 7) : Int32) ≤ v4 → (r = some (.long v2) ∧ M' = M)) ∧ (¬ (((M.1 2 7) : Int32) ≤ v4) → (∃ (r4 : Int32) (M2 : MM), Fn 2 mX0_breach [.ref 2, .int v4, .ref w] M (some (.int r4)) M2 ∧ (∀ x5 : Int64, x5 = v2 + (r4.toInt64) → (∀ x6 : Int32, x6 = v4 + 1 → At_X0_allBreach_5 G w x5 x6 M2)))))) : At_X0_allBreach_5 G w v2 v4 M := by
  unfold At_X0_allBreach_5
  refine e_iload (pc := 5) g 3 dX0_allBreach_5 rfl ?_
  refine e_aload_n (pc := 7) g 0 dX0_allBreach_7 rfl ?_
  refine e_getI (pc := 8) g fl_X0_33 sh_2 rfl dX0_allBreach_8 ?_
  refine e_icmp_ge (pc := 11) g 31 dX0_allBreach_11 (by decide) (fun c1 => ?_) (fun c1 => ?_)
  · have h := h.1 c1
    refine e_lload_n (pc := 31) g 2 dX0_allBreach_31 rfl ?_
    exact e_lret (pc := 32) g gr rfl dX0_allBreach_32 h
  · have h := h.2 c1
    refine e_lload_n (pc := 14) g 2 dX0_allBreach_14 rfl ?_
    refine e_aload_n (pc := 15) g 0 dX0_allBreach_15 rfl ?_
    refine e_iload (pc := 16) g 3 dX0_allBreach_16 rfl ?_
    refine e_aload_n (pc := 18) g 1 dX0_allBreach_18 rfl ?_
    obtain ⟨r4, M2, f3, h⟩ := h
    refine e_callV (As := [.int v4, .ref w]) (S := [.long v2]) (pc := 19) g ok_X0_breach ml_X0_41 sh_2 ⟨_, rfl, rfl⟩ f3 (by omega) rfl (Nat.le_of_ble_eq_true rfl) dX0_allBreach_19 ?_
    refine e_to (S' := [.int r4, .long v2]) rfl rfl rfl ?_
    refine e_i2l (pc := 22) g dX0_allBreach_22 ?_
    refine e_ladd (pc := 23) g dX0_allBreach_23 ?_
    obtain ⟨x5, qx5⟩ : ∃ y : Int64, y = v2 + (r4.toInt64) := ⟨_, rfl⟩
    have h := h x5 qx5
    refine e_to (S' := [.long x5]) rfl (by rw [qx5]) rfl ?_
    refine e_lstore_n (pc := 24) g [(0, .ref 2), (1, .ref w), (2, .long x5), (4, .int v4)] dX0_allBreach_24 (by decide) rfl ?_
    obtain ⟨x6, qx6⟩ : ∃ y : Int32, y = v4 + 1 := ⟨_, rfl⟩
    have h := h x6 qx6
    refine e_iinc (pc := 25) g 3 x6 [(0, .ref 2), (1, .ref w), (2, .long x5), (4, .int x6)] dX0_allBreach_25 rfl (by rw [qx6]; rfl) (by decide) rfl ?_
    refine e_goto (pc := 28) g 5 dX0_allBreach_28 (by decide) ?_
    exact h
/-- at the cut 4 of X0_alarms -/
def At_X0_alarms_4 (G : GC)  (v1 : Int32) (v2 : Int32)  (M : MM) : Prop := Ev G 4 [(0, .ref 2), (1, .int v1), (2, .int v2)] [] M
set_option maxHeartbeats 4000000 in
set_option maxRecDepth 100000 in
theorem b_X0_alarms_0 {G : GC} {n : Nat} {r : Option Value} {M' : MM} (g : Good G mX0_alarms n) (gr : GoodR G r M') (hn : 3 ≤ n)    (M : MM) (h : At_X0_alarms_4 G 0 0 M) : Ev G 0 [(0, .ref 2)] [] M := by
  refine e_iconst (pc := 0) g 0 dX0_alarms_0 kc_0 ?_
  refine e_istore_n (pc := 1) g [(0, .ref 2), (1, .int 0)] dX0_alarms_1 (by decide) rfl ?_
  refine e_iconst (pc := 2) g 0 dX0_alarms_2 kc_0 ?_
  refine e_istore_n (pc := 3) g [(0, .ref 2), (1, .int 0), (2, .int 0)] dX0_alarms_3 (by decide) rfl ?_
  exact h
set_option maxHeartbeats 4000000 in
set_option maxRecDepth 100000 in
theorem b_X0_alarms_4 {G : GC} {n : Nat} {r : Option Value} {M' : MM} (g : Good G mX0_alarms n) (gr : GoodR G r M') (hn : 3 ≤ n)  (v1 : Int32) (v2 : Int32)  (M : MM) (h : ((((M.1 2 7) : Int32) ≤ v2 → (r = some (.int v1) ∧ M' = M)) ∧ (¬ (((M.1 2 7) : Int32) ≤ v2) → (∃ (r4 : Int32) (M2 : MM), Fn 2 mX0_breach [.ref 2, .int v2, .ref 7] M (some (.int r4)) M2 ∧ (∀ x6 : Int32, x6 = v1 + (if r4 ≤ (0 : Int32) then 0 else 1) → (∀ x7 : Int32, x7 = v2 + 1 → At_X0_alarms_4 G x6 x7 M2)))))) : At_X0_alarms_4 G v1 v2 M := by
  unfold At_X0_alarms_4
  refine e_iload_n (pc := 4) g 2 dX0_alarms_4 rfl ?_
  refine e_aload_n (pc := 5) g 0 dX0_alarms_5 rfl ?_
  refine e_getI (pc := 6) g fl_X0_33 sh_2 rfl dX0_alarms_6 ?_
  refine e_icmp_ge (pc := 9) g 38 dX0_alarms_9 (by decide) (fun c1 => ?_) (fun c1 => ?_)
  · have h := h.1 c1
    refine e_iload_n (pc := 38) g 1 dX0_alarms_38 rfl ?_
    exact e_iret (pc := 39) g gr rfl dX0_alarms_39 h
  · have h := h.2 c1
    refine e_iload_n (pc := 12) g 1 dX0_alarms_12 rfl ?_
    refine e_aload_n (pc := 13) g 0 dX0_alarms_13 rfl ?_
    refine e_iload_n (pc := 14) g 2 dX0_alarms_14 rfl ?_
    refine e_aload_n (pc := 15) g 0 dX0_alarms_15 rfl ?_
    refine e_getR (pc := 16) g 7 fl_X0_24 sh_2 rfl dX0_alarms_16 ?_
    obtain ⟨r4, M2, f3, h⟩ := h
    refine e_callV (As := [.int v2, .ref 7]) (S := [.int v1]) (pc := 19) g ok_X0_breach ml_X0_41 sh_2 ⟨_, rfl, rfl⟩ f3 (by omega) rfl (Nat.le_of_ble_eq_true rfl) dX0_alarms_19 ?_
    refine e_to (S' := [.int r4, .int v1]) rfl rfl rfl ?_
    have hj : Ev G 30 [(0, .ref 2), (1, .int v1), (2, .int v2)] [.int (if r4 ≤ (0 : Int32) then 0 else 1), .int v1] M2 := by
      refine e_iadd (pc := 30) g dX0_alarms_30 ?_
      obtain ⟨x6, qx6⟩ : ∃ y : Int32, y = v1 + (if r4 ≤ (0 : Int32) then 0 else 1) := ⟨_, rfl⟩
      have h := h x6 qx6
      refine e_to (S' := [.int x6]) rfl (by rw [qx6]) rfl ?_
      refine e_istore_n (pc := 31) g [(0, .ref 2), (1, .int x6), (2, .int v2)] dX0_alarms_31 (by decide) rfl ?_
      obtain ⟨x7, qx7⟩ : ∃ y : Int32, y = v2 + 1 := ⟨_, rfl⟩
      have h := h x7 qx7
      refine e_iinc (pc := 32) g 2 x7 [(0, .ref 2), (1, .int x6), (2, .int x7)] dX0_alarms_32 rfl (by rw [qx7]; rfl) (by decide) rfl ?_
      refine e_goto (pc := 35) g 4 dX0_alarms_35 (by decide) ?_
      exact h
    refine e_if_le (pc := 22) g 29 dX0_alarms_22 (by decide) (fun c5 => ?_) (fun c5 => ?_)
    · rw [if_pos c5] at hj
      refine e_iconst (pc := 29) g 0 dX0_alarms_29 kc_0 ?_
      exact hj
    · rw [if_neg c5] at hj
      refine e_iconst (pc := 25) g 1 dX0_alarms_25 kc_1 ?_
      refine e_goto (pc := 26) g 30 dX0_alarms_26 (by decide) ?_
      exact hj
/-- at the cut 4 of X0_allWater -/
def At_X0_allWater_4 (G : GC)  (v1 : Int32) (v2 : Int32)  (M : MM) : Prop := Ev G 4 [(0, .ref 2), (1, .int v1), (2, .int v2)] [] M
set_option maxHeartbeats 4000000 in
set_option maxRecDepth 100000 in
theorem b_X0_allWater_0 {G : GC} {n : Nat} {r : Option Value} {M' : MM} (g : Good G mX0_allWater n) (gr : GoodR G r M') (hn : 1 ≤ n)    (M : MM) (h : At_X0_allWater_4 G 0 0 M) : Ev G 0 [(0, .ref 2)] [] M := by
  refine e_iconst (pc := 0) g 0 dX0_allWater_0 kc_0 ?_
  refine e_istore_n (pc := 1) g [(0, .ref 2), (1, .int 0)] dX0_allWater_1 (by decide) rfl ?_
  refine e_iconst (pc := 2) g 0 dX0_allWater_2 kc_0 ?_
  refine e_istore_n (pc := 3) g [(0, .ref 2), (1, .int 0), (2, .int 0)] dX0_allWater_3 (by decide) rfl ?_
  exact h
set_option maxHeartbeats 4000000 in
set_option maxRecDepth 100000 in
theorem b_X0_allWater_4 {G : GC} {n : Nat} {r : Option Value} {M' : MM} (g : Good G mX0_allWater n) (gr : GoodR G r M') (hn : 1 ≤ n)  (v1 : Int32) (v2 : Int32)  (M : MM) (h : ((((M.1 2 7) : Int32) ≤ v2 → (r = some (.int v1) ∧ M' = M)) ∧ (¬ (((M.1 2 7) : Int32) ≤ v2) → (vp_in v2 6) ∧ (∀ x3 : Int32, x3 = v1 + (M.1 7 v2.toNatClampNeg) → (∀ x4 : Int32, x4 = v2 + 1 → At_X0_allWater_4 G x3 x4 M))))) : At_X0_allWater_4 G v1 v2 M := by
  unfold At_X0_allWater_4
  refine e_iload_n (pc := 4) g 2 dX0_allWater_4 rfl ?_
  refine e_aload_n (pc := 5) g 0 dX0_allWater_5 rfl ?_
  refine e_getI (pc := 6) g fl_X0_33 sh_2 rfl dX0_allWater_6 ?_
  refine e_icmp_ge (pc := 9) g 27 dX0_allWater_9 (by decide) (fun c1 => ?_) (fun c1 => ?_)
  · have h := h.1 c1
    refine e_iload_n (pc := 27) g 1 dX0_allWater_27 rfl ?_
    exact e_iret (pc := 28) g gr rfl dX0_allWater_28 h
  · have h := h.2 c1
    refine e_iload_n (pc := 12) g 1 dX0_allWater_12 rfl ?_
    refine e_aload_n (pc := 13) g 0 dX0_allWater_13 rfl ?_
    refine e_getR (pc := 14) g 7 fl_X0_24 sh_2 rfl dX0_allWater_14 ?_
    refine e_iload_n (pc := 17) g 2 dX0_allWater_17 rfl ?_
    obtain ⟨o2, h⟩ := h
    refine e_iald (pc := 18) g sh_7 o2 dX0_allWater_18 ?_
    refine e_iadd (pc := 19) g dX0_allWater_19 ?_
    obtain ⟨x3, qx3⟩ : ∃ y : Int32, y = v1 + (M.1 7 v2.toNatClampNeg) := ⟨_, rfl⟩
    have h := h x3 qx3
    refine e_to (S' := [.int x3]) rfl (by rw [qx3]) rfl ?_
    refine e_istore_n (pc := 20) g [(0, .ref 2), (1, .int x3), (2, .int v2)] dX0_allWater_20 (by decide) rfl ?_
    obtain ⟨x4, qx4⟩ : ∃ y : Int32, y = v2 + 1 := ⟨_, rfl⟩
    have h := h x4 qx4
    refine e_iinc (pc := 21) g 2 x4 [(0, .ref 2), (1, .int x3), (2, .int x4)] dX0_allWater_21 rfl (by rw [qx4]; rfl) (by decide) rfl ?_
    refine e_goto (pc := 24) g 4 dX0_allWater_24 (by decide) ?_
    exact h
end
