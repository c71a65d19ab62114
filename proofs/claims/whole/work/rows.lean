section
-- ===== PART A: goes FIRST, ahead of the names: the tables' words, and 'selects' of the private methods out of them =====
/-- a private method of a class that the tables say can be made, by its rows of tables_1 -/
def lw_okq (q : MethodName × Nat) : Prop := (q.1.cls ≠ "java/lang/invoke/MethodHandle" ∧ q.1.cls ≠ "java/lang/invoke/VarHandle") ∧ Cond.instantiable q.1.cls q.2 ∈ tables_1 ∧ Cond.privateMethod q.1 ∈ tables_1 ∧ Cond.instanceMethod q.1 ∈ tables_1
theorem lw_p0 : lw_okq (⟨"RunTapes", "takeBytes", "(I)V"⟩, 14) := ⟨⟨by decide +kernel, by decide +kernel⟩, List.mem_of_getElem? (i := 12) (by decide +kernel), List.mem_of_getElem? (i := 287) (by decide +kernel), List.mem_of_getElem? (i := 288) (by decide +kernel)⟩
theorem lw_p1 : lw_okq (⟨"RunTapes", "remember", "()V"⟩, 14) := ⟨⟨by decide +kernel, by decide +kernel⟩, List.mem_of_getElem? (i := 12) (by decide +kernel), List.mem_of_getElem? (i := 299) (by decide +kernel), List.mem_of_getElem? (i := 300) (by decide +kernel)⟩
theorem lw_p2 : lw_okq (⟨"RunTapes$State", "copyFrom", "(LRunTapes$State;)V"⟩, 7) := ⟨⟨by decide +kernel, by decide +kernel⟩, List.mem_of_getElem? (i := 20) (by decide +kernel), List.mem_of_getElem? (i := 303) (by decide +kernel), List.mem_of_getElem? (i := 304) (by decide +kernel)⟩
theorem lw_p3 : lw_okq (⟨"RunTapes$Records", "copyFrom", "(LRunTapes$Records;)V"⟩, 4) := ⟨⟨by decide +kernel, by decide +kernel⟩, List.mem_of_getElem? (i := 26) (by decide +kernel), List.mem_of_getElem? (i := 307) (by decide +kernel), List.mem_of_getElem? (i := 308) (by decide +kernel)⟩
theorem lw_p4 : lw_okq (⟨"RunTapes$Grown", "copyFrom", "(LRunTapes$Grown;I)V"⟩, 6) := ⟨⟨by decide +kernel, by decide +kernel⟩, List.mem_of_getElem? (i := 61) (by decide +kernel), List.mem_of_getElem? (i := 315) (by decide +kernel), List.mem_of_getElem? (i := 316) (by decide +kernel)⟩
theorem lw_p5 : lw_okq (⟨"RunTapes$Mill", "copyFrom", "(LRunTapes$Mill;)V"⟩, 19) := ⟨⟨by decide +kernel, by decide +kernel⟩, List.mem_of_getElem? (i := 92) (by decide +kernel), List.mem_of_getElem? (i := 320) (by decide +kernel), List.mem_of_getElem? (i := 321) (by decide +kernel)⟩
theorem lw_p6 : lw_okq (⟨"RunTapes$Tape", "copyFrom", "(LRunTapes$Tape;)V"⟩, 3) := ⟨⟨by decide +kernel, by decide +kernel⟩, List.mem_of_getElem? (i := 122) (by decide +kernel), List.mem_of_getElem? (i := 328) (by decide +kernel), List.mem_of_getElem? (i := 329) (by decide +kernel)⟩
theorem lw_p7 : lw_okq (⟨"RunTapes$Records", "add", "(I)V"⟩, 4) := ⟨⟨by decide +kernel, by decide +kernel⟩, List.mem_of_getElem? (i := 26) (by decide +kernel), List.mem_of_getElem? (i := 334) (by decide +kernel), List.mem_of_getElem? (i := 335) (by decide +kernel)⟩
theorem lw_p8 : lw_okq (⟨"RunTapes", "drawOf", "(I)I"⟩, 14) := ⟨⟨by decide +kernel, by decide +kernel⟩, List.mem_of_getElem? (i := 12) (by decide +kernel), List.mem_of_getElem? (i := 342) (by decide +kernel), List.mem_of_getElem? (i := 343) (by decide +kernel)⟩
theorem lw_p9 : lw_okq (⟨"RunTapes$Records", "wipe", "()V"⟩, 4) := ⟨⟨by decide +kernel, by decide +kernel⟩, List.mem_of_getElem? (i := 26) (by decide +kernel), List.mem_of_getElem? (i := 358) (by decide +kernel), List.mem_of_getElem? (i := 359) (by decide +kernel)⟩
theorem lw_p10 : lw_okq (⟨"RunTapes$State", "growRuns", "()V"⟩, 7) := ⟨⟨by decide +kernel, by decide +kernel⟩, List.mem_of_getElem? (i := 20) (by decide +kernel), List.mem_of_getElem? (i := 377) (by decide +kernel), List.mem_of_getElem? (i := 378) (by decide +kernel)⟩
theorem lw_p11 : lw_okq (⟨"RunTapes$Grown", "growFrom", "(LRunTapes$Records;IZ)V"⟩, 6) := ⟨⟨by decide +kernel, by decide +kernel⟩, List.mem_of_getElem? (i := 61) (by decide +kernel), List.mem_of_getElem? (i := 381) (by decide +kernel), List.mem_of_getElem? (i := 382) (by decide +kernel)⟩
theorem lw_p12 : lw_okq (⟨"RunTapes$Grown", "nextOut", "(LRunTapes$Records;I)I"⟩, 6) := ⟨⟨by decide +kernel, by decide +kernel⟩, List.mem_of_getElem? (i := 61) (by decide +kernel), List.mem_of_getElem? (i := 386) (by decide +kernel), List.mem_of_getElem? (i := 387) (by decide +kernel)⟩
theorem lw_p13 : lw_okq (⟨"RunTapes$Records", "isLess", "(II)Z"⟩, 4) := ⟨⟨by decide +kernel, by decide +kernel⟩, List.mem_of_getElem? (i := 26) (by decide +kernel), List.mem_of_getElem? (i := 390) (by decide +kernel), List.mem_of_getElem? (i := 391) (by decide +kernel)⟩
theorem lw_p14 : lw_okq (⟨"RunTapes$Grown", "falls", "(I)Z"⟩, 6) := ⟨⟨by decide +kernel, by decide +kernel⟩, List.mem_of_getElem? (i := 61) (by decide +kernel), List.mem_of_getElem? (i := 394) (by decide +kernel), List.mem_of_getElem? (i := 395) (by decide +kernel)⟩
theorem lw_p15 : lw_okq (⟨"RunTapes$Grown", "goesOn", "(LRunTapes$Records;II)Z"⟩, 6) := ⟨⟨by decide +kernel, by decide +kernel⟩, List.mem_of_getElem? (i := 61) (by decide +kernel), List.mem_of_getElem? (i := 398) (by decide +kernel), List.mem_of_getElem? (i := 399) (by decide +kernel)⟩
def lw_privs_1 : List (MethodName × Nat) := [(⟨"RunTapes", "takeBytes", "(I)V"⟩, 14), (⟨"RunTapes", "remember", "()V"⟩, 14), (⟨"RunTapes$State", "copyFrom", "(LRunTapes$State;)V"⟩, 7), (⟨"RunTapes$Records", "copyFrom", "(LRunTapes$Records;)V"⟩, 4), (⟨"RunTapes$Grown", "copyFrom", "(LRunTapes$Grown;I)V"⟩, 6), (⟨"RunTapes$Mill", "copyFrom", "(LRunTapes$Mill;)V"⟩, 19), (⟨"RunTapes$Tape", "copyFrom", "(LRunTapes$Tape;)V"⟩, 3), (⟨"RunTapes$Records", "add", "(I)V"⟩, 4), (⟨"RunTapes", "drawOf", "(I)I"⟩, 14), (⟨"RunTapes$Records", "wipe", "()V"⟩, 4), (⟨"RunTapes$State", "growRuns", "()V"⟩, 7), (⟨"RunTapes$Grown", "growFrom", "(LRunTapes$Records;IZ)V"⟩, 6), (⟨"RunTapes$Grown", "nextOut", "(LRunTapes$Records;I)I"⟩, 6), (⟨"RunTapes$Records", "isLess", "(II)Z"⟩, 4), (⟨"RunTapes$Grown", "falls", "(I)Z"⟩, 6), (⟨"RunTapes$Grown", "goesOn", "(LRunTapes$Records;II)Z"⟩, 6)]
theorem lw_r1 : ∀ q ∈ lw_privs_1, lw_okq q := List.forall_mem_cons.mpr ⟨lw_p0, List.forall_mem_cons.mpr ⟨lw_p1, List.forall_mem_cons.mpr ⟨lw_p2, List.forall_mem_cons.mpr ⟨lw_p3, List.forall_mem_cons.mpr ⟨lw_p4, List.forall_mem_cons.mpr ⟨lw_p5, List.forall_mem_cons.mpr ⟨lw_p6, List.forall_mem_cons.mpr ⟨lw_p7, List.forall_mem_cons.mpr ⟨lw_p8, List.forall_mem_cons.mpr ⟨lw_p9, List.forall_mem_cons.mpr ⟨lw_p10, List.forall_mem_cons.mpr ⟨lw_p11, List.forall_mem_cons.mpr ⟨lw_p12, List.forall_mem_cons.mpr ⟨lw_p13, List.forall_mem_cons.mpr ⟨lw_p14, List.forall_mem_cons.mpr ⟨lw_p15, fun _ h => absurd h List.not_mem_nil⟩⟩⟩⟩⟩⟩⟩⟩⟩⟩⟩⟩⟩⟩⟩⟩
theorem lw_p16 : lw_okq (⟨"RunTapes", "canPlan", "()Z"⟩, 14) := ⟨⟨by decide +kernel, by decide +kernel⟩, List.mem_of_getElem? (i := 12) (by decide +kernel), List.mem_of_getElem? (i := 406) (by decide +kernel), List.mem_of_getElem? (i := 407) (by decide +kernel)⟩
theorem lw_p17 : lw_okq (⟨"RunTapes$State", "spreadRuns", "()V"⟩, 7) := ⟨⟨by decide +kernel, by decide +kernel⟩, List.mem_of_getElem? (i := 20) (by decide +kernel), List.mem_of_getElem? (i := 413) (by decide +kernel), List.mem_of_getElem? (i := 414) (by decide +kernel)⟩
theorem lw_p18 : lw_okq (⟨"RunTapes$Mill", "begin", "(IIZ)V"⟩, 19) := ⟨⟨by decide +kernel, by decide +kernel⟩, List.mem_of_getElem? (i := 92) (by decide +kernel), List.mem_of_getElem? (i := 417) (by decide +kernel), List.mem_of_getElem? (i := 418) (by decide +kernel)⟩
theorem lw_p19 : lw_okq (⟨"RunTapes$Tape", "wipe", "()V"⟩, 3) := ⟨⟨by decide +kernel, by decide +kernel⟩, List.mem_of_getElem? (i := 122) (by decide +kernel), List.mem_of_getElem? (i := 421) (by decide +kernel), List.mem_of_getElem? (i := 422) (by decide +kernel)⟩
theorem lw_p20 : lw_okq (⟨"RunTapes$State", "layRuns", "(LRunTapes$Mill;)V"⟩, 7) := ⟨⟨by decide +kernel, by decide +kernel⟩, List.mem_of_getElem? (i := 20) (by decide +kernel), List.mem_of_getElem? (i := 425) (by decide +kernel), List.mem_of_getElem? (i := 426) (by decide +kernel)⟩
theorem lw_p21 : lw_okq (⟨"RunTapes$Mill", "load", "(IZ)V"⟩, 19) := ⟨⟨by decide +kernel, by decide +kernel⟩, List.mem_of_getElem? (i := 92) (by decide +kernel), List.mem_of_getElem? (i := 430) (by decide +kernel), List.mem_of_getElem? (i := 431) (by decide +kernel)⟩
theorem lw_p22 : lw_okq (⟨"RunTapes$Mill", "layOut", "(Z)V"⟩, 19) := ⟨⟨by decide +kernel, by decide +kernel⟩, List.mem_of_getElem? (i := 92) (by decide +kernel), List.mem_of_getElem? (i := 434) (by decide +kernel), List.mem_of_getElem? (i := 435) (by decide +kernel)⟩
theorem lw_p23 : lw_okq (⟨"RunTapes$Mill", "dealByTurns", "()V"⟩, 19) := ⟨⟨by decide +kernel, by decide +kernel⟩, List.mem_of_getElem? (i := 92) (by decide +kernel), List.mem_of_getElem? (i := 438) (by decide +kernel), List.mem_of_getElem? (i := 439) (by decide +kernel)⟩
theorem lw_p24 : lw_okq (⟨"RunTapes$Tape", "write", "(I)V"⟩, 3) := ⟨⟨by decide +kernel, by decide +kernel⟩, List.mem_of_getElem? (i := 122) (by decide +kernel), List.mem_of_getElem? (i := 442) (by decide +kernel), List.mem_of_getElem? (i := 443) (by decide +kernel)⟩
theorem lw_p25 : lw_okq (⟨"RunTapes$Numbers", "climbFor", "(III)V"⟩, 3) := ⟨⟨by decide +kernel, by decide +kernel⟩, List.mem_of_getElem? (i := 100) (by decide +kernel), List.mem_of_getElem? (i := 446) (by decide +kernel), List.mem_of_getElem? (i := 447) (by decide +kernel)⟩
theorem lw_p26 : lw_okq (⟨"RunTapes$Numbers", "ground", "(I)V"⟩, 3) := ⟨⟨by decide +kernel, by decide +kernel⟩, List.mem_of_getElem? (i := 100) (by decide +kernel), List.mem_of_getElem? (i := 450) (by decide +kernel), List.mem_of_getElem? (i := 451) (by decide +kernel)⟩
theorem lw_p27 : lw_okq (⟨"RunTapes$Numbers", "together", "()I"⟩, 3) := ⟨⟨by decide +kernel, by decide +kernel⟩, List.mem_of_getElem? (i := 100) (by decide +kernel), List.mem_of_getElem? (i := 456) (by decide +kernel), List.mem_of_getElem? (i := 457) (by decide +kernel)⟩
theorem lw_p28 : lw_okq (⟨"RunTapes$Numbers", "climb", "(I)V"⟩, 3) := ⟨⟨by decide +kernel, by decide +kernel⟩, List.mem_of_getElem? (i := 100) (by decide +kernel), List.mem_of_getElem? (i := 460) (by decide +kernel), List.mem_of_getElem? (i := 461) (by decide +kernel)⟩
theorem lw_p29 : lw_okq (⟨"RunTapes$Numbers", "climbCascade", "()V"⟩, 3) := ⟨⟨by decide +kernel, by decide +kernel⟩, List.mem_of_getElem? (i := 100) (by decide +kernel), List.mem_of_getElem? (i := 464) (by decide +kernel), List.mem_of_getElem? (i := 465) (by decide +kernel)⟩
theorem lw_p30 : lw_okq (⟨"RunTapes$Mill", "dealByNumbers", "(Z)V"⟩, 19) := ⟨⟨by decide +kernel, by decide +kernel⟩, List.mem_of_getElem? (i := 92) (by decide +kernel), List.mem_of_getElem? (i := 468) (by decide +kernel), List.mem_of_getElem? (i := 469) (by decide +kernel)⟩
theorem lw_p31 : lw_okq (⟨"RunTapes$Mill", "firstPlace", "()I"⟩, 19) := ⟨⟨by decide +kernel, by decide +kernel⟩, List.mem_of_getElem? (i := 92) (by decide +kernel), List.mem_of_getElem? (i := 473) (by decide +kernel), List.mem_of_getElem? (i := 474) (by decide +kernel)⟩
def lw_privs_2 : List (MethodName × Nat) := [(⟨"RunTapes", "canPlan", "()Z"⟩, 14), (⟨"RunTapes$State", "spreadRuns", "()V"⟩, 7), (⟨"RunTapes$Mill", "begin", "(IIZ)V"⟩, 19), (⟨"RunTapes$Tape", "wipe", "()V"⟩, 3), (⟨"RunTapes$State", "layRuns", "(LRunTapes$Mill;)V"⟩, 7), (⟨"RunTapes$Mill", "load", "(IZ)V"⟩, 19), (⟨"RunTapes$Mill", "layOut", "(Z)V"⟩, 19), (⟨"RunTapes$Mill", "dealByTurns", "()V"⟩, 19), (⟨"RunTapes$Tape", "write", "(I)V"⟩, 3), (⟨"RunTapes$Numbers", "climbFor", "(III)V"⟩, 3), (⟨"RunTapes$Numbers", "ground", "(I)V"⟩, 3), (⟨"RunTapes$Numbers", "together", "()I"⟩, 3), (⟨"RunTapes$Numbers", "climb", "(I)V"⟩, 3), (⟨"RunTapes$Numbers", "climbCascade", "()V"⟩, 3), (⟨"RunTapes$Mill", "dealByNumbers", "(Z)V"⟩, 19), (⟨"RunTapes$Mill", "firstPlace", "()I"⟩, 19)]
theorem lw_r2 : ∀ q ∈ lw_privs_2, lw_okq q := List.forall_mem_cons.mpr ⟨lw_p16, List.forall_mem_cons.mpr ⟨lw_p17, List.forall_mem_cons.mpr ⟨lw_p18, List.forall_mem_cons.mpr ⟨lw_p19, List.forall_mem_cons.mpr ⟨lw_p20, List.forall_mem_cons.mpr ⟨lw_p21, List.forall_mem_cons.mpr ⟨lw_p22, List.forall_mem_cons.mpr ⟨lw_p23, List.forall_mem_cons.mpr ⟨lw_p24, List.forall_mem_cons.mpr ⟨lw_p25, List.forall_mem_cons.mpr ⟨lw_p26, List.forall_mem_cons.mpr ⟨lw_p27, List.forall_mem_cons.mpr ⟨lw_p28, List.forall_mem_cons.mpr ⟨lw_p29, List.forall_mem_cons.mpr ⟨lw_p30, List.forall_mem_cons.mpr ⟨lw_p31, fun _ h => absurd h List.not_mem_nil⟩⟩⟩⟩⟩⟩⟩⟩⟩⟩⟩⟩⟩⟩⟩⟩
theorem lw_p32 : lw_okq (⟨"RunTapes$Mill", "fewestBlanks", "()I"⟩, 19) := ⟨⟨by decide +kernel, by decide +kernel⟩, List.mem_of_getElem? (i := 92) (by decide +kernel), List.mem_of_getElem? (i := 477) (by decide +kernel), List.mem_of_getElem? (i := 478) (by decide +kernel)⟩
theorem lw_p33 : lw_okq (⟨"RunTapes$Mill", "writeBlanks", "()V"⟩, 19) := ⟨⟨by decide +kernel, by decide +kernel⟩, List.mem_of_getElem? (i := 92) (by decide +kernel), List.mem_of_getElem? (i := 481) (by decide +kernel), List.mem_of_getElem? (i := 482) (by decide +kernel)⟩
theorem lw_p34 : lw_okq (⟨"RunTapes$Mill", "mostPlaces", "()I"⟩, 19) := ⟨⟨by decide +kernel, by decide +kernel⟩, List.mem_of_getElem? (i := 92) (by decide +kernel), List.mem_of_getElem? (i := 485) (by decide +kernel), List.mem_of_getElem? (i := 486) (by decide +kernel)⟩
theorem lw_p35 : lw_okq (⟨"RunTapes$Mill", "openPass", "()V"⟩, 19) := ⟨⟨by decide +kernel, by decide +kernel⟩, List.mem_of_getElem? (i := 92) (by decide +kernel), List.mem_of_getElem? (i := 489) (by decide +kernel), List.mem_of_getElem? (i := 490) (by decide +kernel)⟩
theorem lw_p36 : lw_okq (⟨"RunTapes$Tape", "size", "()I"⟩, 3) := ⟨⟨by decide +kernel, by decide +kernel⟩, List.mem_of_getElem? (i := 122) (by decide +kernel), List.mem_of_getElem? (i := 493) (by decide +kernel), List.mem_of_getElem? (i := 494) (by decide +kernel)⟩
theorem lw_p37 : lw_okq (⟨"RunTapes$Mill", "turnLast", "()V"⟩, 19) := ⟨⟨by decide +kernel, by decide +kernel⟩, List.mem_of_getElem? (i := 92) (by decide +kernel), List.mem_of_getElem? (i := 497) (by decide +kernel), List.mem_of_getElem? (i := 498) (by decide +kernel)⟩
theorem lw_p38 : lw_okq (⟨"RunTapes$Tape", "at", "(IZ)I"⟩, 3) := ⟨⟨by decide +kernel, by decide +kernel⟩, List.mem_of_getElem? (i := 122) (by decide +kernel), List.mem_of_getElem? (i := 501) (by decide +kernel), List.mem_of_getElem? (i := 502) (by decide +kernel)⟩
theorem lw_p39 : lw_okq (⟨"RunTapes$Mill", "isDown", "(I)Z"⟩, 19) := ⟨⟨by decide +kernel, by decide +kernel⟩, List.mem_of_getElem? (i := 92) (by decide +kernel), List.mem_of_getElem? (i := 506) (by decide +kernel), List.mem_of_getElem? (i := 507) (by decide +kernel)⟩
theorem lw_p40 : lw_okq (⟨"RunTapes", "whyNoStep", "()I"⟩, 14) := ⟨⟨by decide +kernel, by decide +kernel⟩, List.mem_of_getElem? (i := 12) (by decide +kernel), List.mem_of_getElem? (i := 514) (by decide +kernel), List.mem_of_getElem? (i := 515) (by decide +kernel)⟩
theorem lw_p41 : lw_okq (⟨"RunTapes$State", "mergeOnce", "()V"⟩, 7) := ⟨⟨by decide +kernel, by decide +kernel⟩, List.mem_of_getElem? (i := 20) (by decide +kernel), List.mem_of_getElem? (i := 518) (by decide +kernel), List.mem_of_getElem? (i := 519) (by decide +kernel)⟩
theorem lw_p42 : lw_okq (⟨"RunTapes$Mill", "advance", "()V"⟩, 19) := ⟨⟨by decide +kernel, by decide +kernel⟩, List.mem_of_getElem? (i := 92) (by decide +kernel), List.mem_of_getElem? (i := 522) (by decide +kernel), List.mem_of_getElem? (i := 523) (by decide +kernel)⟩
theorem lw_p43 : lw_okq (⟨"RunTapes$Mill", "look", "()V"⟩, 19) := ⟨⟨by decide +kernel, by decide +kernel⟩, List.mem_of_getElem? (i := 92) (by decide +kernel), List.mem_of_getElem? (i := 526) (by decide +kernel), List.mem_of_getElem? (i := 527) (by decide +kernel)⟩
theorem lw_p44 : lw_okq (⟨"RunTapes$Mill", "gives", "(I)Z"⟩, 19) := ⟨⟨by decide +kernel, by decide +kernel⟩, List.mem_of_getElem? (i := 92) (by decide +kernel), List.mem_of_getElem? (i := 530) (by decide +kernel), List.mem_of_getElem? (i := 531) (by decide +kernel)⟩
theorem lw_p45 : lw_okq (⟨"RunTapes$Tape", "drop", "(Z)V"⟩, 3) := ⟨⟨by decide +kernel, by decide +kernel⟩, List.mem_of_getElem? (i := 122) (by decide +kernel), List.mem_of_getElem? (i := 534) (by decide +kernel), List.mem_of_getElem? (i := 535) (by decide +kernel)⟩
theorem lw_p46 : lw_okq (⟨"RunTapes$Mill", "sizeOf", "(I)I"⟩, 19) := ⟨⟨by decide +kernel, by decide +kernel⟩, List.mem_of_getElem? (i := 92) (by decide +kernel), List.mem_of_getElem? (i := 539) (by decide +kernel), List.mem_of_getElem? (i := 540) (by decide +kernel)⟩
theorem lw_p47 : lw_okq (⟨"RunTapes$Mill", "endBalancedPhase", "()V"⟩, 19) := ⟨⟨by decide +kernel, by decide +kernel⟩, List.mem_of_getElem? (i := 92) (by decide +kernel), List.mem_of_getElem? (i := 543) (by decide +kernel), List.mem_of_getElem? (i := 544) (by decide +kernel)⟩
def lw_privs_3 : List (MethodName × Nat) := [(⟨"RunTapes$Mill", "fewestBlanks", "()I"⟩, 19), (⟨"RunTapes$Mill", "writeBlanks", "()V"⟩, 19), (⟨"RunTapes$Mill", "mostPlaces", "()I"⟩, 19), (⟨"RunTapes$Mill", "openPass", "()V"⟩, 19), (⟨"RunTapes$Tape", "size", "()I"⟩, 3), (⟨"RunTapes$Mill", "turnLast", "()V"⟩, 19), (⟨"RunTapes$Tape", "at", "(IZ)I"⟩, 3), (⟨"RunTapes$Mill", "isDown", "(I)Z"⟩, 19), (⟨"RunTapes", "whyNoStep", "()I"⟩, 14), (⟨"RunTapes$State", "mergeOnce", "()V"⟩, 7), (⟨"RunTapes$Mill", "advance", "()V"⟩, 19), (⟨"RunTapes$Mill", "look", "()V"⟩, 19), (⟨"RunTapes$Mill", "gives", "(I)Z"⟩, 19), (⟨"RunTapes$Tape", "drop", "(Z)V"⟩, 3), (⟨"RunTapes$Mill", "sizeOf", "(I)I"⟩, 19), (⟨"RunTapes$Mill", "endBalancedPhase", "()V"⟩, 19)]
theorem lw_r3 : ∀ q ∈ lw_privs_3, lw_okq q := List.forall_mem_cons.mpr ⟨lw_p32, List.forall_mem_cons.mpr ⟨lw_p33, List.forall_mem_cons.mpr ⟨lw_p34, List.forall_mem_cons.mpr ⟨lw_p35, List.forall_mem_cons.mpr ⟨lw_p36, List.forall_mem_cons.mpr ⟨lw_p37, List.forall_mem_cons.mpr ⟨lw_p38, List.forall_mem_cons.mpr ⟨lw_p39, List.forall_mem_cons.mpr ⟨lw_p40, List.forall_mem_cons.mpr ⟨lw_p41, List.forall_mem_cons.mpr ⟨lw_p42, List.forall_mem_cons.mpr ⟨lw_p43, List.forall_mem_cons.mpr ⟨lw_p44, List.forall_mem_cons.mpr ⟨lw_p45, List.forall_mem_cons.mpr ⟨lw_p46, List.forall_mem_cons.mpr ⟨lw_p47, fun _ h => absurd h List.not_mem_nil⟩⟩⟩⟩⟩⟩⟩⟩⟩⟩⟩⟩⟩⟩⟩⟩
theorem lw_p48 : lw_okq (⟨"RunTapes$Mill", "givers", "()I"⟩, 19) := ⟨⟨by decide +kernel, by decide +kernel⟩, List.mem_of_getElem? (i := 92) (by decide +kernel), List.mem_of_getElem? (i := 547) (by decide +kernel), List.mem_of_getElem? (i := 548) (by decide +kernel)⟩
theorem lw_p49 : lw_okq (⟨"RunTapes$Mill", "firstToWrite", "()I"⟩, 19) := ⟨⟨by decide +kernel, by decide +kernel⟩, List.mem_of_getElem? (i := 92) (by decide +kernel), List.mem_of_getElem? (i := 551) (by decide +kernel), List.mem_of_getElem? (i := 552) (by decide +kernel)⟩
theorem lw_p50 : lw_okq (⟨"RunTapes$Mill", "endNumberedPhase", "()V"⟩, 19) := ⟨⟨by decide +kernel, by decide +kernel⟩, List.mem_of_getElem? (i := 92) (by decide +kernel), List.mem_of_getElem? (i := 555) (by decide +kernel), List.mem_of_getElem? (i := 556) (by decide +kernel)⟩
theorem lw_p51 : lw_okq (⟨"RunTapes$Mill", "emptiedTape", "()I"⟩, 19) := ⟨⟨by decide +kernel, by decide +kernel⟩, List.mem_of_getElem? (i := 92) (by decide +kernel), List.mem_of_getElem? (i := 559) (by decide +kernel), List.mem_of_getElem? (i := 560) (by decide +kernel)⟩
theorem lw_p52 : lw_okq (⟨"RunTapes$Mill", "takenFrom", "(I)I"⟩, 19) := ⟨⟨by decide +kernel, by decide +kernel⟩, List.mem_of_getElem? (i := 92) (by decide +kernel), List.mem_of_getElem? (i := 563) (by decide +kernel), List.mem_of_getElem? (i := 564) (by decide +kernel)⟩
theorem lw_p53 : lw_okq (⟨"RunTapes", "isRun", "(I)Z"⟩, 14) := ⟨⟨by decide +kernel, by decide +kernel⟩, List.mem_of_getElem? (i := 12) (by decide +kernel), List.mem_of_getElem? (i := 584) (by decide +kernel), List.mem_of_getElem? (i := 585) (by decide +kernel)⟩
theorem lw_p54 : lw_okq (⟨"RunTapes$State", "grownRecord", "(II)I"⟩, 7) := ⟨⟨by decide +kernel, by decide +kernel⟩, List.mem_of_getElem? (i := 20) (by decide +kernel), List.mem_of_getElem? (i := 589) (by decide +kernel), List.mem_of_getElem? (i := 590) (by decide +kernel)⟩
theorem lw_p55 : lw_okq (⟨"RunTapes$Records", "ranked", "(IZ)I"⟩, 4) := ⟨⟨by decide +kernel, by decide +kernel⟩, List.mem_of_getElem? (i := 26) (by decide +kernel), List.mem_of_getElem? (i := 593) (by decide +kernel), List.mem_of_getElem? (i := 594) (by decide +kernel)⟩
theorem lw_p56 : lw_okq (⟨"RunTapes", "isTape", "(I)Z"⟩, 14) := ⟨⟨by decide +kernel, by decide +kernel⟩, List.mem_of_getElem? (i := 12) (by decide +kernel), List.mem_of_getElem? (i := 601) (by decide +kernel), List.mem_of_getElem? (i := 602) (by decide +kernel)⟩
theorem lw_p57 : lw_okq (⟨"RunTapes$Tape", "dummies", "()I"⟩, 3) := ⟨⟨by decide +kernel, by decide +kernel⟩, List.mem_of_getElem? (i := 122) (by decide +kernel), List.mem_of_getElem? (i := 606) (by decide +kernel), List.mem_of_getElem? (i := 607) (by decide +kernel)⟩
theorem lw_p58 : lw_okq (⟨"RunTapes$Mill", "recordsOn", "(I)I"⟩, 19) := ⟨⟨by decide +kernel, by decide +kernel⟩, List.mem_of_getElem? (i := 92) (by decide +kernel), List.mem_of_getElem? (i := 610) (by decide +kernel), List.mem_of_getElem? (i := 611) (by decide +kernel)⟩
theorem lw_p59 : lw_okq (⟨"RunTapes$State", "tapeRecord", "(II)I"⟩, 7) := ⟨⟨by decide +kernel, by decide +kernel⟩, List.mem_of_getElem? (i := 20) (by decide +kernel), List.mem_of_getElem? (i := 621) (by decide +kernel), List.mem_of_getElem? (i := 622) (by decide +kernel)⟩
theorem lw_p60 : lw_okq (⟨"RunTapes$Numbers", "climbTo", "(III)V"⟩, 3) := ⟨⟨by decide +kernel, by decide +kernel⟩, List.mem_of_getElem? (i := 100) (by decide +kernel), List.mem_of_getElem? (i := 634) (by decide +kernel), List.mem_of_getElem? (i := 635) (by decide +kernel)⟩
theorem lw_p61 : lw_okq (⟨"RunTapes", "beginPlan", "()V"⟩, 14) := ⟨⟨by decide +kernel, by decide +kernel⟩, List.mem_of_getElem? (i := 12) (by decide +kernel), List.mem_of_getElem? (i := 643) (by decide +kernel), List.mem_of_getElem? (i := 644) (by decide +kernel)⟩
theorem lw_p62 : lw_okq (⟨"RunTapes$Mill", "mergeAll", "()V"⟩, 19) := ⟨⟨by decide +kernel, by decide +kernel⟩, List.mem_of_getElem? (i := 92) (by decide +kernel), List.mem_of_getElem? (i := 649) (by decide +kernel), List.mem_of_getElem? (i := 650) (by decide +kernel)⟩
theorem lw_p63 : lw_okq (⟨"RunTapes", "takeLightest", "(I)I"⟩, 14) := ⟨⟨by decide +kernel, by decide +kernel⟩, List.mem_of_getElem? (i := 12) (by decide +kernel), List.mem_of_getElem? (i := 664) (by decide +kernel), List.mem_of_getElem? (i := 665) (by decide +kernel)⟩
def lw_privs_4 : List (MethodName × Nat) := [(⟨"RunTapes$Mill", "givers", "()I"⟩, 19), (⟨"RunTapes$Mill", "firstToWrite", "()I"⟩, 19), (⟨"RunTapes$Mill", "endNumberedPhase", "()V"⟩, 19), (⟨"RunTapes$Mill", "emptiedTape", "()I"⟩, 19), (⟨"RunTapes$Mill", "takenFrom", "(I)I"⟩, 19), (⟨"RunTapes", "isRun", "(I)Z"⟩, 14), (⟨"RunTapes$State", "grownRecord", "(II)I"⟩, 7), (⟨"RunTapes$Records", "ranked", "(IZ)I"⟩, 4), (⟨"RunTapes", "isTape", "(I)Z"⟩, 14), (⟨"RunTapes$Tape", "dummies", "()I"⟩, 3), (⟨"RunTapes$Mill", "recordsOn", "(I)I"⟩, 19), (⟨"RunTapes$State", "tapeRecord", "(II)I"⟩, 7), (⟨"RunTapes$Numbers", "climbTo", "(III)V"⟩, 3), (⟨"RunTapes", "beginPlan", "()V"⟩, 14), (⟨"RunTapes$Mill", "mergeAll", "()V"⟩, 19), (⟨"RunTapes", "takeLightest", "(I)I"⟩, 14)]
theorem lw_r4 : ∀ q ∈ lw_privs_4, lw_okq q := List.forall_mem_cons.mpr ⟨lw_p48, List.forall_mem_cons.mpr ⟨lw_p49, List.forall_mem_cons.mpr ⟨lw_p50, List.forall_mem_cons.mpr ⟨lw_p51, List.forall_mem_cons.mpr ⟨lw_p52, List.forall_mem_cons.mpr ⟨lw_p53, List.forall_mem_cons.mpr ⟨lw_p54, List.forall_mem_cons.mpr ⟨lw_p55, List.forall_mem_cons.mpr ⟨lw_p56, List.forall_mem_cons.mpr ⟨lw_p57, List.forall_mem_cons.mpr ⟨lw_p58, List.forall_mem_cons.mpr ⟨lw_p59, List.forall_mem_cons.mpr ⟨lw_p60, List.forall_mem_cons.mpr ⟨lw_p61, List.forall_mem_cons.mpr ⟨lw_p62, List.forall_mem_cons.mpr ⟨lw_p63, fun _ h => absurd h List.not_mem_nil⟩⟩⟩⟩⟩⟩⟩⟩⟩⟩⟩⟩⟩⟩⟩⟩
theorem lw_p64 : lw_okq (⟨"RunTapes$Mill", "stand", "()J"⟩, 19) := ⟨⟨by decide +kernel, by decide +kernel⟩, List.mem_of_getElem? (i := 92) (by decide +kernel), List.mem_of_getElem? (i := 684) (by decide +kernel), List.mem_of_getElem? (i := 685) (by decide +kernel)⟩
theorem lw_p65 : lw_okq (⟨"RunTapes", "isAmongLikeStands", "(JI)Z"⟩, 14) := ⟨⟨by decide +kernel, by decide +kernel⟩, List.mem_of_getElem? (i := 12) (by decide +kernel), List.mem_of_getElem? (i := 689) (by decide +kernel), List.mem_of_getElem? (i := 690) (by decide +kernel)⟩
theorem lw_p66 : lw_okq (⟨"RunTapes$Records", "howOften", "(I)I"⟩, 4) := ⟨⟨by decide +kernel, by decide +kernel⟩, List.mem_of_getElem? (i := 26) (by decide +kernel), List.mem_of_getElem? (i := 697) (by decide +kernel), List.mem_of_getElem? (i := 698) (by decide +kernel)⟩
theorem lw_p67 : lw_okq (⟨"RunTapes$Records", "firstOf", "(I)I"⟩, 4) := ⟨⟨by decide +kernel, by decide +kernel⟩, List.mem_of_getElem? (i := 26) (by decide +kernel), List.mem_of_getElem? (i := 701) (by decide +kernel), List.mem_of_getElem? (i := 702) (by decide +kernel)⟩
theorem lw_p68 : lw_okq (⟨"RunTapes$Records", "lastOf", "(I)I"⟩, 4) := ⟨⟨by decide +kernel, by decide +kernel⟩, List.mem_of_getElem? (i := 26) (by decide +kernel), List.mem_of_getElem? (i := 705) (by decide +kernel), List.mem_of_getElem? (i := 706) (by decide +kernel)⟩
theorem lw_p69 : lw_okq (⟨"RunTapes$Records", "unlikeKeys", "()I"⟩, 4) := ⟨⟨by decide +kernel, by decide +kernel⟩, List.mem_of_getElem? (i := 26) (by decide +kernel), List.mem_of_getElem? (i := 713) (by decide +kernel), List.mem_of_getElem? (i := 714) (by decide +kernel)⟩
theorem lw_p70 : lw_okq (⟨"RunTapes$Records", "beginsKey", "(I)Z"⟩, 4) := ⟨⟨by decide +kernel, by decide +kernel⟩, List.mem_of_getElem? (i := 26) (by decide +kernel), List.mem_of_getElem? (i := 717) (by decide +kernel), List.mem_of_getElem? (i := 718) (by decide +kernel)⟩
theorem lw_p71 : lw_okq (⟨"RunTapes$Records", "keyMostOften", "()I"⟩, 4) := ⟨⟨by decide +kernel, by decide +kernel⟩, List.mem_of_getElem? (i := 26) (by decide +kernel), List.mem_of_getElem? (i := 721) (by decide +kernel), List.mem_of_getElem? (i := 722) (by decide +kernel)⟩
theorem lw_p72 : lw_okq (⟨"RunTapes$Records", "naturalRuns", "()I"⟩, 4) := ⟨⟨by decide +kernel, by decide +kernel⟩, List.mem_of_getElem? (i := 26) (by decide +kernel), List.mem_of_getElem? (i := 729) (by decide +kernel), List.mem_of_getElem? (i := 730) (by decide +kernel)⟩
theorem lw_p73 : lw_okq (⟨"RunTapes$State", "fetchedTape", "(II)I"⟩, 7) := ⟨⟨by decide +kernel, by decide +kernel⟩, List.mem_of_getElem? (i := 20) (by decide +kernel), List.mem_of_getElem? (i := 737) (by decide +kernel), List.mem_of_getElem? (i := 738) (by decide +kernel)⟩
theorem lw_p74 : lw_okq (⟨"RunTapes$State", "isFetchedBehindNext", "(II)Z"⟩, 7) := ⟨⟨by decide +kernel, by decide +kernel⟩, List.mem_of_getElem? (i := 20) (by decide +kernel), List.mem_of_getElem? (i := 742) (by decide +kernel), List.mem_of_getElem? (i := 743) (by decide +kernel)⟩
theorem lw_p75 : lw_okq (⟨"RunTapes$Mill", "blocksTaken", "(I)I"⟩, 19) := ⟨⟨by decide +kernel, by decide +kernel⟩, List.mem_of_getElem? (i := 92) (by decide +kernel), List.mem_of_getElem? (i := 753) (by decide +kernel), List.mem_of_getElem? (i := 754) (by decide +kernel)⟩
theorem lw_p76 : lw_okq (⟨"RunTapesModel", "laysFrom", "([II)V"⟩, 30) := ⟨⟨by decide +kernel, by decide +kernel⟩, List.mem_of_getElem? (i := 773) (by decide +kernel), List.mem_of_getElem? (i := 876) (by decide +kernel), List.mem_of_getElem? (i := 877) (by decide +kernel)⟩
theorem lw_p77 : lw_okq (⟨"RunTapesModel", "puts", "(I)V"⟩, 30) := ⟨⟨by decide +kernel, by decide +kernel⟩, List.mem_of_getElem? (i := 773) (by decide +kernel), List.mem_of_getElem? (i := 884) (by decide +kernel), List.mem_of_getElem? (i := 885) (by decide +kernel)⟩
theorem lw_p78 : lw_okq (⟨"RunTapesModel", "many", "()I"⟩, 30) := ⟨⟨by decide +kernel, by decide +kernel⟩, List.mem_of_getElem? (i := 773) (by decide +kernel), List.mem_of_getElem? (i := 896) (by decide +kernel), List.mem_of_getElem? (i := 897) (by decide +kernel)⟩
theorem lw_p79 : lw_okq (⟨"RunTapesModel", "remembers", "()V"⟩, 30) := ⟨⟨by decide +kernel, by decide +kernel⟩, List.mem_of_getElem? (i := 773) (by decide +kernel), List.mem_of_getElem? (i := 900) (by decide +kernel), List.mem_of_getElem? (i := 901) (by decide +kernel)⟩
def lw_privs_5 : List (MethodName × Nat) := [(⟨"RunTapes$Mill", "stand", "()J"⟩, 19), (⟨"RunTapes", "isAmongLikeStands", "(JI)Z"⟩, 14), (⟨"RunTapes$Records", "howOften", "(I)I"⟩, 4), (⟨"RunTapes$Records", "firstOf", "(I)I"⟩, 4), (⟨"RunTapes$Records", "lastOf", "(I)I"⟩, 4), (⟨"RunTapes$Records", "unlikeKeys", "()I"⟩, 4), (⟨"RunTapes$Records", "beginsKey", "(I)Z"⟩, 4), (⟨"RunTapes$Records", "keyMostOften", "()I"⟩, 4), (⟨"RunTapes$Records", "naturalRuns", "()I"⟩, 4), (⟨"RunTapes$State", "fetchedTape", "(II)I"⟩, 7), (⟨"RunTapes$State", "isFetchedBehindNext", "(II)Z"⟩, 7), (⟨"RunTapes$Mill", "blocksTaken", "(I)I"⟩, 19), (⟨"RunTapesModel", "laysFrom", "([II)V"⟩, 30), (⟨"RunTapesModel", "puts", "(I)V"⟩, 30), (⟨"RunTapesModel", "many", "()I"⟩, 30), (⟨"RunTapesModel", "remembers", "()V"⟩, 30)]
theorem lw_r5 : ∀ q ∈ lw_privs_5, lw_okq q := List.forall_mem_cons.mpr ⟨lw_p64, List.forall_mem_cons.mpr ⟨lw_p65, List.forall_mem_cons.mpr ⟨lw_p66, List.forall_mem_cons.mpr ⟨lw_p67, List.forall_mem_cons.mpr ⟨lw_p68, List.forall_mem_cons.mpr ⟨lw_p69, List.forall_mem_cons.mpr ⟨lw_p70, List.forall_mem_cons.mpr ⟨lw_p71, List.forall_mem_cons.mpr ⟨lw_p72, List.forall_mem_cons.mpr ⟨lw_p73, List.forall_mem_cons.mpr ⟨lw_p74, List.forall_mem_cons.mpr ⟨lw_p75, List.forall_mem_cons.mpr ⟨lw_p76, List.forall_mem_cons.mpr ⟨lw_p77, List.forall_mem_cons.mpr ⟨lw_p78, List.forall_mem_cons.mpr ⟨lw_p79, fun _ h => absurd h List.not_mem_nil⟩⟩⟩⟩⟩⟩⟩⟩⟩⟩⟩⟩⟩⟩⟩⟩
theorem lw_p80 : lw_okq (⟨"RunTapesModel", "keepsIn", "([II)V"⟩, 30) := ⟨⟨by decide +kernel, by decide +kernel⟩, List.mem_of_getElem? (i := 773) (by decide +kernel), List.mem_of_getElem? (i := 904) (by decide +kernel), List.mem_of_getElem? (i := 905) (by decide +kernel)⟩
theorem lw_p81 : lw_okq (⟨"RunTapesModel", "comes", "(I)V"⟩, 30) := ⟨⟨by decide +kernel, by decide +kernel⟩, List.mem_of_getElem? (i := 773) (by decide +kernel), List.mem_of_getElem? (i := 908) (by decide +kernel), List.mem_of_getElem? (i := 909) (by decide +kernel)⟩
theorem lw_p82 : lw_okq (⟨"RunTapesModel", "begins", "()V"⟩, 30) := ⟨⟨by decide +kernel, by decide +kernel⟩, List.mem_of_getElem? (i := 773) (by decide +kernel), List.mem_of_getElem? (i := 912) (by decide +kernel), List.mem_of_getElem? (i := 913) (by decide +kernel)⟩
theorem lw_p83 : lw_okq (⟨"RunTapesModel", "clearsCounts", "()V"⟩, 30) := ⟨⟨by decide +kernel, by decide +kernel⟩, List.mem_of_getElem? (i := 773) (by decide +kernel), List.mem_of_getElem? (i := 916) (by decide +kernel), List.mem_of_getElem? (i := 917) (by decide +kernel)⟩
theorem lw_p84 : lw_okq (⟨"RunTapesModel", "drawnOf", "(I)I"⟩, 30) := ⟨⟨by decide +kernel, by decide +kernel⟩, List.mem_of_getElem? (i := 773) (by decide +kernel), List.mem_of_getElem? (i := 927) (by decide +kernel), List.mem_of_getElem? (i := 928) (by decide +kernel)⟩
theorem lw_p85 : lw_okq (⟨"RunTapesModel", "laysRuns", "()V"⟩, 30) := ⟨⟨by decide +kernel, by decide +kernel⟩, List.mem_of_getElem? (i := 773) (by decide +kernel), List.mem_of_getElem? (i := 954) (by decide +kernel), List.mem_of_getElem? (i := 955) (by decide +kernel)⟩
theorem lw_p86 : lw_okq (⟨"RunTapesModel", "room", "()I"⟩, 30) := ⟨⟨by decide +kernel, by decide +kernel⟩, List.mem_of_getElem? (i := 773) (by decide +kernel), List.mem_of_getElem? (i := 958) (by decide +kernel), List.mem_of_getElem? (i := 959) (by decide +kernel)⟩
theorem lw_p87 : lw_okq (⟨"RunTapesModel", "comesIn", "(II)V"⟩, 30) := ⟨⟨by decide +kernel, by decide +kernel⟩, List.mem_of_getElem? (i := 773) (by decide +kernel), List.mem_of_getElem? (i := 962) (by decide +kernel), List.mem_of_getElem? (i := 963) (by decide +kernel)⟩
theorem lw_p88 : lw_okq (⟨"RunTapesModel", "firstOf", "(I)I"⟩, 30) := ⟨⟨by decide +kernel, by decide +kernel⟩, List.mem_of_getElem? (i := 773) (by decide +kernel), List.mem_of_getElem? (i := 966) (by decide +kernel), List.mem_of_getElem? (i := 967) (by decide +kernel)⟩
theorem lw_p89 : lw_okq (⟨"RunTapesModel", "isLess", "(II)Z"⟩, 30) := ⟨⟨by decide +kernel, by decide +kernel⟩, List.mem_of_getElem? (i := 773) (by decide +kernel), List.mem_of_getElem? (i := 970) (by decide +kernel), List.mem_of_getElem? (i := 971) (by decide +kernel)⟩
theorem lw_p90 : lw_okq (⟨"RunTapesModel", "doesFall", "(I)Z"⟩, 30) := ⟨⟨by decide +kernel, by decide +kernel⟩, List.mem_of_getElem? (i := 773) (by decide +kernel), List.mem_of_getElem? (i := 974) (by decide +kernel), List.mem_of_getElem? (i := 975) (by decide +kernel)⟩
theorem lw_p91 : lw_okq (⟨"RunTapesModel", "tapes", "()I"⟩, 30) := ⟨⟨by decide +kernel, by decide +kernel⟩, List.mem_of_getElem? (i := 773) (by decide +kernel), List.mem_of_getElem? (i := 982) (by decide +kernel), List.mem_of_getElem? (i := 983) (by decide +kernel)⟩
theorem lw_p92 : lw_okq (⟨"RunTapesModel", "way", "()I"⟩, 30) := ⟨⟨by decide +kernel, by decide +kernel⟩, List.mem_of_getElem? (i := 773) (by decide +kernel), List.mem_of_getElem? (i := 986) (by decide +kernel), List.mem_of_getElem? (i := 987) (by decide +kernel)⟩
theorem lw_p93 : lw_okq (⟨"RunTapesModel", "laysPerfect", "(III)V"⟩, 30) := ⟨⟨by decide +kernel, by decide +kernel⟩, List.mem_of_getElem? (i := 773) (by decide +kernel), List.mem_of_getElem? (i := 990) (by decide +kernel), List.mem_of_getElem? (i := 991) (by decide +kernel)⟩
theorem lw_p94 : lw_okq (⟨"RunTapesModel", "allPerfect", "(I)I"⟩, 30) := ⟨⟨by decide +kernel, by decide +kernel⟩, List.mem_of_getElem? (i := 773) (by decide +kernel), List.mem_of_getElem? (i := 997) (by decide +kernel), List.mem_of_getElem? (i := 998) (by decide +kernel)⟩
theorem lw_p95 : lw_okq (⟨"RunTapesModel", "canSpread", "()Z"⟩, 30) := ⟨⟨by decide +kernel, by decide +kernel⟩, List.mem_of_getElem? (i := 773) (by decide +kernel), List.mem_of_getElem? (i := 1005) (by decide +kernel), List.mem_of_getElem? (i := 1006) (by decide +kernel)⟩
def lw_privs_6 : List (MethodName × Nat) := [(⟨"RunTapesModel", "keepsIn", "([II)V"⟩, 30), (⟨"RunTapesModel", "comes", "(I)V"⟩, 30), (⟨"RunTapesModel", "begins", "()V"⟩, 30), (⟨"RunTapesModel", "clearsCounts", "()V"⟩, 30), (⟨"RunTapesModel", "drawnOf", "(I)I"⟩, 30), (⟨"RunTapesModel", "laysRuns", "()V"⟩, 30), (⟨"RunTapesModel", "room", "()I"⟩, 30), (⟨"RunTapesModel", "comesIn", "(II)V"⟩, 30), (⟨"RunTapesModel", "firstOf", "(I)I"⟩, 30), (⟨"RunTapesModel", "isLess", "(II)Z"⟩, 30), (⟨"RunTapesModel", "doesFall", "(I)Z"⟩, 30), (⟨"RunTapesModel", "tapes", "()I"⟩, 30), (⟨"RunTapesModel", "way", "()I"⟩, 30), (⟨"RunTapesModel", "laysPerfect", "(III)V"⟩, 30), (⟨"RunTapesModel", "allPerfect", "(I)I"⟩, 30), (⟨"RunTapesModel", "canSpread", "()Z"⟩, 30)]
theorem lw_r6 : ∀ q ∈ lw_privs_6, lw_okq q := List.forall_mem_cons.mpr ⟨lw_p80, List.forall_mem_cons.mpr ⟨lw_p81, List.forall_mem_cons.mpr ⟨lw_p82, List.forall_mem_cons.mpr ⟨lw_p83, List.forall_mem_cons.mpr ⟨lw_p84, List.forall_mem_cons.mpr ⟨lw_p85, List.forall_mem_cons.mpr ⟨lw_p86, List.forall_mem_cons.mpr ⟨lw_p87, List.forall_mem_cons.mpr ⟨lw_p88, List.forall_mem_cons.mpr ⟨lw_p89, List.forall_mem_cons.mpr ⟨lw_p90, List.forall_mem_cons.mpr ⟨lw_p91, List.forall_mem_cons.mpr ⟨lw_p92, List.forall_mem_cons.mpr ⟨lw_p93, List.forall_mem_cons.mpr ⟨lw_p94, List.forall_mem_cons.mpr ⟨lw_p95, fun _ h => absurd h List.not_mem_nil⟩⟩⟩⟩⟩⟩⟩⟩⟩⟩⟩⟩⟩⟩⟩⟩
theorem lw_p96 : lw_okq (⟨"RunTapesModel", "spreads", "()V"⟩, 30) := ⟨⟨by decide +kernel, by decide +kernel⟩, List.mem_of_getElem? (i := 773) (by decide +kernel), List.mem_of_getElem? (i := 1009) (by decide +kernel), List.mem_of_getElem? (i := 1010) (by decide +kernel)⟩
theorem lw_p97 : lw_okq (⟨"RunTapesModel", "dealsRun", "(II)V"⟩, 30) := ⟨⟨by decide +kernel, by decide +kernel⟩, List.mem_of_getElem? (i := 773) (by decide +kernel), List.mem_of_getElem? (i := 1013) (by decide +kernel), List.mem_of_getElem? (i := 1014) (by decide +kernel)⟩
theorem lw_p98 : lw_okq (⟨"RunTapesModel", "runSize", "(I)I"⟩, 30) := ⟨⟨by decide +kernel, by decide +kernel⟩, List.mem_of_getElem? (i := 773) (by decide +kernel), List.mem_of_getElem? (i := 1017) (by decide +kernel), List.mem_of_getElem? (i := 1018) (by decide +kernel)⟩
theorem lw_p99 : lw_okq (⟨"RunTapesModel", "makesRun", "(II)I"⟩, 30) := ⟨⟨by decide +kernel, by decide +kernel⟩, List.mem_of_getElem? (i := 773) (by decide +kernel), List.mem_of_getElem? (i := 1021) (by decide +kernel), List.mem_of_getElem? (i := 1022) (by decide +kernel)⟩
theorem lw_p100 : lw_okq (⟨"RunTapesModel", "isBack", "()Z"⟩, 30) := ⟨⟨by decide +kernel, by decide +kernel⟩, List.mem_of_getElem? (i := 773) (by decide +kernel), List.mem_of_getElem? (i := 1025) (by decide +kernel), List.mem_of_getElem? (i := 1026) (by decide +kernel)⟩
theorem lw_p101 : lw_okq (⟨"RunTapesModel", "comesLast", "(II)V"⟩, 30) := ⟨⟨by decide +kernel, by decide +kernel⟩, List.mem_of_getElem? (i := 773) (by decide +kernel), List.mem_of_getElem? (i := 1029) (by decide +kernel), List.mem_of_getElem? (i := 1030) (by decide +kernel)⟩
theorem lw_p102 : lw_okq (⟨"RunTapesModel", "spreadsPerfectly", "()V"⟩, 30) := ⟨⟨by decide +kernel, by decide +kernel⟩, List.mem_of_getElem? (i := 773) (by decide +kernel), List.mem_of_getElem? (i := 1033) (by decide +kernel), List.mem_of_getElem? (i := 1034) (by decide +kernel)⟩
theorem lw_p103 : lw_okq (⟨"RunTapesModel", "dealsDummies", "(II)V"⟩, 30) := ⟨⟨by decide +kernel, by decide +kernel⟩, List.mem_of_getElem? (i := 773) (by decide +kernel), List.mem_of_getElem? (i := 1037) (by decide +kernel), List.mem_of_getElem? (i := 1038) (by decide +kernel)⟩
theorem lw_p104 : lw_okq (⟨"RunTapesModel", "isFront", "()Z"⟩, 30) := ⟨⟨by decide +kernel, by decide +kernel⟩, List.mem_of_getElem? (i := 773) (by decide +kernel), List.mem_of_getElem? (i := 1041) (by decide +kernel), List.mem_of_getElem? (i := 1042) (by decide +kernel)⟩
theorem lw_p105 : lw_okq (⟨"RunTapesModel", "placesLeft", "(I)I"⟩, 30) := ⟨⟨by decide +kernel, by decide +kernel⟩, List.mem_of_getElem? (i := 773) (by decide +kernel), List.mem_of_getElem? (i := 1045) (by decide +kernel), List.mem_of_getElem? (i := 1046) (by decide +kernel)⟩
theorem lw_p106 : lw_okq (⟨"RunTapesModel", "beginsPass", "()V"⟩, 30) := ⟨⟨by decide +kernel, by decide +kernel⟩, List.mem_of_getElem? (i := 773) (by decide +kernel), List.mem_of_getElem? (i := 1049) (by decide +kernel), List.mem_of_getElem? (i := 1050) (by decide +kernel)⟩
theorem lw_p107 : lw_okq (⟨"RunTapesModel", "looksWhetherMerged", "()V"⟩, 30) := ⟨⟨by decide +kernel, by decide +kernel⟩, List.mem_of_getElem? (i := 773) (by decide +kernel), List.mem_of_getElem? (i := 1053) (by decide +kernel), List.mem_of_getElem? (i := 1054) (by decide +kernel)⟩
theorem lw_p108 : lw_okq (⟨"RunTapesModel", "onAll", "()I"⟩, 30) := ⟨⟨by decide +kernel, by decide +kernel⟩, List.mem_of_getElem? (i := 773) (by decide +kernel), List.mem_of_getElem? (i := 1057) (by decide +kernel), List.mem_of_getElem? (i := 1058) (by decide +kernel)⟩
theorem lw_p109 : lw_okq (⟨"RunTapesModel", "runAt", "(II)I"⟩, 30) := ⟨⟨by decide +kernel, by decide +kernel⟩, List.mem_of_getElem? (i := 773) (by decide +kernel), List.mem_of_getElem? (i := 1061) (by decide +kernel), List.mem_of_getElem? (i := 1062) (by decide +kernel)⟩
theorem lw_p110 : lw_okq (⟨"RunTapesModel", "sorts", "(IIZ)V"⟩, 30) := ⟨⟨by decide +kernel, by decide +kernel⟩, List.mem_of_getElem? (i := 773) (by decide +kernel), List.mem_of_getElem? (i := 1065) (by decide +kernel), List.mem_of_getElem? (i := 1066) (by decide +kernel)⟩
theorem lw_p111 : lw_okq (⟨"RunTapesModel", "refused", "()I"⟩, 30) := ⟨⟨by decide +kernel, by decide +kernel⟩, List.mem_of_getElem? (i := 773) (by decide +kernel), List.mem_of_getElem? (i := 1073) (by decide +kernel), List.mem_of_getElem? (i := 1074) (by decide +kernel)⟩
def lw_privs_7 : List (MethodName × Nat) := [(⟨"RunTapesModel", "spreads", "()V"⟩, 30), (⟨"RunTapesModel", "dealsRun", "(II)V"⟩, 30), (⟨"RunTapesModel", "runSize", "(I)I"⟩, 30), (⟨"RunTapesModel", "makesRun", "(II)I"⟩, 30), (⟨"RunTapesModel", "isBack", "()Z"⟩, 30), (⟨"RunTapesModel", "comesLast", "(II)V"⟩, 30), (⟨"RunTapesModel", "spreadsPerfectly", "()V"⟩, 30), (⟨"RunTapesModel", "dealsDummies", "(II)V"⟩, 30), (⟨"RunTapesModel", "isFront", "()Z"⟩, 30), (⟨"RunTapesModel", "placesLeft", "(I)I"⟩, 30), (⟨"RunTapesModel", "beginsPass", "()V"⟩, 30), (⟨"RunTapesModel", "looksWhetherMerged", "()V"⟩, 30), (⟨"RunTapesModel", "onAll", "()I"⟩, 30), (⟨"RunTapesModel", "runAt", "(II)I"⟩, 30), (⟨"RunTapesModel", "sorts", "(IIZ)V"⟩, 30), (⟨"RunTapesModel", "refused", "()I"⟩, 30)]
theorem lw_r7 : ∀ q ∈ lw_privs_7, lw_okq q := List.forall_mem_cons.mpr ⟨lw_p96, List.forall_mem_cons.mpr ⟨lw_p97, List.forall_mem_cons.mpr ⟨lw_p98, List.forall_mem_cons.mpr ⟨lw_p99, List.forall_mem_cons.mpr ⟨lw_p100, List.forall_mem_cons.mpr ⟨lw_p101, List.forall_mem_cons.mpr ⟨lw_p102, List.forall_mem_cons.mpr ⟨lw_p103, List.forall_mem_cons.mpr ⟨lw_p104, List.forall_mem_cons.mpr ⟨lw_p105, List.forall_mem_cons.mpr ⟨lw_p106, List.forall_mem_cons.mpr ⟨lw_p107, List.forall_mem_cons.mpr ⟨lw_p108, List.forall_mem_cons.mpr ⟨lw_p109, List.forall_mem_cons.mpr ⟨lw_p110, List.forall_mem_cons.mpr ⟨lw_p111, fun _ h => absurd h List.not_mem_nil⟩⟩⟩⟩⟩⟩⟩⟩⟩⟩⟩⟩⟩⟩⟩⟩
theorem lw_p112 : lw_okq (⟨"RunTapesModel", "isSpread", "()Z"⟩, 30) := ⟨⟨by decide +kernel, by decide +kernel⟩, List.mem_of_getElem? (i := 773) (by decide +kernel), List.mem_of_getElem? (i := 1077) (by decide +kernel), List.mem_of_getElem? (i := 1078) (by decide +kernel)⟩
theorem lw_p113 : lw_okq (⟨"RunTapesModel", "steps", "()I"⟩, 30) := ⟨⟨by decide +kernel, by decide +kernel⟩, List.mem_of_getElem? (i := 773) (by decide +kernel), List.mem_of_getElem? (i := 1081) (by decide +kernel), List.mem_of_getElem? (i := 1082) (by decide +kernel)⟩
theorem lw_p114 : lw_okq (⟨"RunTapesModel", "laysTaken", "()Z"⟩, 30) := ⟨⟨by decide +kernel, by decide +kernel⟩, List.mem_of_getElem? (i := 773) (by decide +kernel), List.mem_of_getElem? (i := 1085) (by decide +kernel), List.mem_of_getElem? (i := 1086) (by decide +kernel)⟩
theorem lw_p115 : lw_okq (⟨"RunTapesModel", "doesGive", "(I)Z"⟩, 30) := ⟨⟨by decide +kernel, by decide +kernel⟩, List.mem_of_getElem? (i := 773) (by decide +kernel), List.mem_of_getElem? (i := 1089) (by decide +kernel), List.mem_of_getElem? (i := 1090) (by decide +kernel)⟩
theorem lw_p116 : lw_okq (⟨"RunTapesModel", "isInHalf", "(II)Z"⟩, 30) := ⟨⟨by decide +kernel, by decide +kernel⟩, List.mem_of_getElem? (i := 773) (by decide +kernel), List.mem_of_getElem? (i := 1093) (by decide +kernel), List.mem_of_getElem? (i := 1094) (by decide +kernel)⟩
theorem lw_p117 : lw_okq (⟨"RunTapesModel", "takesFirst", "(I)I"⟩, 30) := ⟨⟨by decide +kernel, by decide +kernel⟩, List.mem_of_getElem? (i := 773) (by decide +kernel), List.mem_of_getElem? (i := 1097) (by decide +kernel), List.mem_of_getElem? (i := 1098) (by decide +kernel)⟩
theorem lw_p118 : lw_okq (⟨"RunTapesModel", "gathers", "()I"⟩, 30) := ⟨⟨by decide +kernel, by decide +kernel⟩, List.mem_of_getElem? (i := 773) (by decide +kernel), List.mem_of_getElem? (i := 1101) (by decide +kernel), List.mem_of_getElem? (i := 1102) (by decide +kernel)⟩
theorem lw_p119 : lw_okq (⟨"RunTapesModel", "isInTaken", "(I)Z"⟩, 30) := ⟨⟨by decide +kernel, by decide +kernel⟩, List.mem_of_getElem? (i := 773) (by decide +kernel), List.mem_of_getElem? (i := 1105) (by decide +kernel), List.mem_of_getElem? (i := 1106) (by decide +kernel)⟩
theorem lw_p120 : lw_okq (⟨"RunTapesModel", "shiftsRuns", "()V"⟩, 30) := ⟨⟨by decide +kernel, by decide +kernel⟩, List.mem_of_getElem? (i := 773) (by decide +kernel), List.mem_of_getElem? (i := 1109) (by decide +kernel), List.mem_of_getElem? (i := 1110) (by decide +kernel)⟩
theorem lw_p121 : lw_okq (⟨"RunTapesModel", "comesFirst", "(II)V"⟩, 30) := ⟨⟨by decide +kernel, by decide +kernel⟩, List.mem_of_getElem? (i := 773) (by decide +kernel), List.mem_of_getElem? (i := 1113) (by decide +kernel), List.mem_of_getElem? (i := 1114) (by decide +kernel)⟩
theorem lw_p122 : lw_okq (⟨"RunTapesModel", "goesOn", "()V"⟩, 30) := ⟨⟨by decide +kernel, by decide +kernel⟩, List.mem_of_getElem? (i := 773) (by decide +kernel), List.mem_of_getElem? (i := 1117) (by decide +kernel), List.mem_of_getElem? (i := 1118) (by decide +kernel)⟩
theorem lw_p123 : lw_okq (⟨"RunTapesModel", "goesOnBalanced", "()V"⟩, 30) := ⟨⟨by decide +kernel, by decide +kernel⟩, List.mem_of_getElem? (i := 773) (by decide +kernel), List.mem_of_getElem? (i := 1121) (by decide +kernel), List.mem_of_getElem? (i := 1122) (by decide +kernel)⟩
theorem lw_p124 : lw_okq (⟨"RunTapesModel", "emptied", "()I"⟩, 30) := ⟨⟨by decide +kernel, by decide +kernel⟩, List.mem_of_getElem? (i := 773) (by decide +kernel), List.mem_of_getElem? (i := 1125) (by decide +kernel), List.mem_of_getElem? (i := 1126) (by decide +kernel)⟩
theorem lw_p125 : lw_okq (⟨"RunTapesModel", "goesThrough", "(IIII)I"⟩, 30) := ⟨⟨by decide +kernel, by decide +kernel⟩, List.mem_of_getElem? (i := 773) (by decide +kernel), List.mem_of_getElem? (i := 1161) (by decide +kernel), List.mem_of_getElem? (i := 1162) (by decide +kernel)⟩
theorem lw_p126 : lw_okq (⟨"RunTapesModel", "notesStand", "()V"⟩, 30) := ⟨⟨by decide +kernel, by decide +kernel⟩, List.mem_of_getElem? (i := 773) (by decide +kernel), List.mem_of_getElem? (i := 1165) (by decide +kernel), List.mem_of_getElem? (i := 1166) (by decide +kernel)⟩
theorem lw_p127 : lw_okq (⟨"RunTapesModel", "beginsUnits", "()V"⟩, 30) := ⟨⟨by decide +kernel, by decide +kernel⟩, List.mem_of_getElem? (i := 773) (by decide +kernel), List.mem_of_getElem? (i := 1185) (by decide +kernel), List.mem_of_getElem? (i := 1186) (by decide +kernel)⟩
def lw_privs_8 : List (MethodName × Nat) := [(⟨"RunTapesModel", "isSpread", "()Z"⟩, 30), (⟨"RunTapesModel", "steps", "()I"⟩, 30), (⟨"RunTapesModel", "laysTaken", "()Z"⟩, 30), (⟨"RunTapesModel", "doesGive", "(I)Z"⟩, 30), (⟨"RunTapesModel", "isInHalf", "(II)Z"⟩, 30), (⟨"RunTapesModel", "takesFirst", "(I)I"⟩, 30), (⟨"RunTapesModel", "gathers", "()I"⟩, 30), (⟨"RunTapesModel", "isInTaken", "(I)Z"⟩, 30), (⟨"RunTapesModel", "shiftsRuns", "()V"⟩, 30), (⟨"RunTapesModel", "comesFirst", "(II)V"⟩, 30), (⟨"RunTapesModel", "goesOn", "()V"⟩, 30), (⟨"RunTapesModel", "goesOnBalanced", "()V"⟩, 30), (⟨"RunTapesModel", "emptied", "()I"⟩, 30), (⟨"RunTapesModel", "goesThrough", "(IIII)I"⟩, 30), (⟨"RunTapesModel", "notesStand", "()V"⟩, 30), (⟨"RunTapesModel", "beginsUnits", "()V"⟩, 30)]
theorem lw_r8 : ∀ q ∈ lw_privs_8, lw_okq q := List.forall_mem_cons.mpr ⟨lw_p112, List.forall_mem_cons.mpr ⟨lw_p113, List.forall_mem_cons.mpr ⟨lw_p114, List.forall_mem_cons.mpr ⟨lw_p115, List.forall_mem_cons.mpr ⟨lw_p116, List.forall_mem_cons.mpr ⟨lw_p117, List.forall_mem_cons.mpr ⟨lw_p118, List.forall_mem_cons.mpr ⟨lw_p119, List.forall_mem_cons.mpr ⟨lw_p120, List.forall_mem_cons.mpr ⟨lw_p121, List.forall_mem_cons.mpr ⟨lw_p122, List.forall_mem_cons.mpr ⟨lw_p123, List.forall_mem_cons.mpr ⟨lw_p124, List.forall_mem_cons.mpr ⟨lw_p125, List.forall_mem_cons.mpr ⟨lw_p126, List.forall_mem_cons.mpr ⟨lw_p127, fun _ h => absurd h List.not_mem_nil⟩⟩⟩⟩⟩⟩⟩⟩⟩⟩⟩⟩⟩⟩⟩⟩
theorem lw_p128 : lw_okq (⟨"RunTapesModel", "isMoreThanOne", "()Z"⟩, 30) := ⟨⟨by decide +kernel, by decide +kernel⟩, List.mem_of_getElem? (i := 773) (by decide +kernel), List.mem_of_getElem? (i := 1189) (by decide +kernel), List.mem_of_getElem? (i := 1190) (by decide +kernel)⟩
theorem lw_p129 : lw_okq (⟨"RunTapesModel", "goesUnits", "()I"⟩, 30) := ⟨⟨by decide +kernel, by decide +kernel⟩, List.mem_of_getElem? (i := 773) (by decide +kernel), List.mem_of_getElem? (i := 1193) (by decide +kernel), List.mem_of_getElem? (i := 1194) (by decide +kernel)⟩
theorem lw_p130 : lw_okq (⟨"RunTapesModel", "givesUnits", "(I)Z"⟩, 30) := ⟨⟨by decide +kernel, by decide +kernel⟩, List.mem_of_getElem? (i := 773) (by decide +kernel), List.mem_of_getElem? (i := 1198) (by decide +kernel), List.mem_of_getElem? (i := 1199) (by decide +kernel)⟩
theorem lw_p131 : lw_okq (⟨"RunTapesModel", "takesLeast", "(I)I"⟩, 30) := ⟨⟨by decide +kernel, by decide +kernel⟩, List.mem_of_getElem? (i := 773) (by decide +kernel), List.mem_of_getElem? (i := 1207) (by decide +kernel), List.mem_of_getElem? (i := 1208) (by decide +kernel)⟩
theorem lw_p132 : lw_okq (⟨"RunTapesModel", "oftenOf", "(I)I"⟩, 30) := ⟨⟨by decide +kernel, by decide +kernel⟩, List.mem_of_getElem? (i := 773) (by decide +kernel), List.mem_of_getElem? (i := 1215) (by decide +kernel), List.mem_of_getElem? (i := 1216) (by decide +kernel)⟩
theorem lw_p133 : lw_okq (⟨"RunTapesModel", "inversions", "()I"⟩, 30) := ⟨⟨by decide +kernel, by decide +kernel⟩, List.mem_of_getElem? (i := 773) (by decide +kernel), List.mem_of_getElem? (i := 1228) (by decide +kernel), List.mem_of_getElem? (i := 1229) (by decide +kernel)⟩
theorem lw_p134 : lw_okq (⟨"RunTapesModel", "naturalRuns", "()I"⟩, 30) := ⟨⟨by decide +kernel, by decide +kernel⟩, List.mem_of_getElem? (i := 773) (by decide +kernel), List.mem_of_getElem? (i := 1232) (by decide +kernel), List.mem_of_getElem? (i := 1233) (by decide +kernel)⟩
theorem lw_p135 : lw_okq (⟨"RunTapesModel", "midst", "()I"⟩, 30) := ⟨⟨by decide +kernel, by decide +kernel⟩, List.mem_of_getElem? (i := 773) (by decide +kernel), List.mem_of_getElem? (i := 1236) (by decide +kernel), List.mem_of_getElem? (i := 1237) (by decide +kernel)⟩
theorem lw_p136 : lw_okq (⟨"RunTapesModel", "laysWrites", "()I"⟩, 30) := ⟨⟨by decide +kernel, by decide +kernel⟩, List.mem_of_getElem? (i := 773) (by decide +kernel), List.mem_of_getElem? (i := 1244) (by decide +kernel), List.mem_of_getElem? (i := 1245) (by decide +kernel)⟩
def lw_privs_9 : List (MethodName × Nat) := [(⟨"RunTapesModel", "isMoreThanOne", "()Z"⟩, 30), (⟨"RunTapesModel", "goesUnits", "()I"⟩, 30), (⟨"RunTapesModel", "givesUnits", "(I)Z"⟩, 30), (⟨"RunTapesModel", "takesLeast", "(I)I"⟩, 30), (⟨"RunTapesModel", "oftenOf", "(I)I"⟩, 30), (⟨"RunTapesModel", "inversions", "()I"⟩, 30), (⟨"RunTapesModel", "naturalRuns", "()I"⟩, 30), (⟨"RunTapesModel", "midst", "()I"⟩, 30), (⟨"RunTapesModel", "laysWrites", "()I"⟩, 30)]
theorem lw_r9 : ∀ q ∈ lw_privs_9, lw_okq q := List.forall_mem_cons.mpr ⟨lw_p128, List.forall_mem_cons.mpr ⟨lw_p129, List.forall_mem_cons.mpr ⟨lw_p130, List.forall_mem_cons.mpr ⟨lw_p131, List.forall_mem_cons.mpr ⟨lw_p132, List.forall_mem_cons.mpr ⟨lw_p133, List.forall_mem_cons.mpr ⟨lw_p134, List.forall_mem_cons.mpr ⟨lw_p135, List.forall_mem_cons.mpr ⟨lw_p136, fun _ h => absurd h List.not_mem_nil⟩⟩⟩⟩⟩⟩⟩⟩⟩
def lw_privs : List (MethodName × Nat) := lw_privs_1 ++ (lw_privs_2 ++ (lw_privs_3 ++ (lw_privs_4 ++ (lw_privs_5 ++ (lw_privs_6 ++ (lw_privs_7 ++ (lw_privs_8 ++ (lw_privs_9))))))))
def lw_tbl : List Cond := k2_sels lw_privs ++ tables_1
theorem lw_privs_ok : ∀ q ∈ lw_privs, lw_okq q := by
  show ∀ q ∈ lw_privs_1 ++ (lw_privs_2 ++ (lw_privs_3 ++ (lw_privs_4 ++ (lw_privs_5 ++ (lw_privs_6 ++ (lw_privs_7 ++ (lw_privs_8 ++ (lw_privs_9)))))))), lw_okq q
  exact List.forall_mem_append.mpr ⟨lw_r1, List.forall_mem_append.mpr ⟨lw_r2, List.forall_mem_append.mpr ⟨lw_r3, List.forall_mem_append.mpr ⟨lw_r4, List.forall_mem_append.mpr ⟨lw_r5, List.forall_mem_append.mpr ⟨lw_r6, List.forall_mem_append.mpr ⟨lw_r7, List.forall_mem_append.mpr ⟨lw_r8, lw_r9⟩⟩⟩⟩⟩⟩⟩⟩
end
section
def RX0 : String := "RunTapes$Grown"
def TX0 : u_T := fun k => match k with
  | 0 => ("RunTapes$Grown", "runOf", "[I", true)
  | 1 => ("RunTapes$Grown", "length", "[I", true)
  | 2 => ("RunTapes$Grown", "size", "I", false)
  | 3 => ("RunTapes$Grown", "byTurns", "Z", false)
  | 4 => ("RunTapes$Grown", "waiting", "[I", true)
  | _ => ("RunTapes$Grown", "inRoom", "I", false)
def tyX0 : Nat → FieldType := fun k => match k with
  | 0 => .array .int
  | 1 => .array .int
  | 2 => .int
  | 3 => .boolean
  | 4 => .array .int
  | _ => .int
abbrev wsX00 : List Cond := u_ws RX0 TX0 6
theorem nmX0 : ∀ a, a < 6 → ∀ b, b < 6 → a ≠ b → (TX0 a).2.1 ≠ (TX0 b).2.1 := by decide +kernel
theorem tyX0_ok : ∀ k, k < 6 → parseFieldDescriptor (TX0 k).2.2.1 = some (tyX0 k) := by decide +kernel
abbrev cX0_init : ByteArray := prog_2_method_1_code
def yX0_init : MethodName := ⟨RX0, "<init>", "()V"⟩
abbrev cX0_copyFrom : ByteArray := prog_2_method_2_code
def yX0_copyFrom : MethodName := ⟨RX0, "copyFrom", "(LRunTapes$Grown;I)V"⟩
abbrev cX0_falls : ByteArray := prog_2_method_3_code
def yX0_falls : MethodName := ⟨RX0, "falls", "(I)Z"⟩
abbrev cX0_growFrom : ByteArray := prog_2_method_4_code
def yX0_growFrom : MethodName := ⟨RX0, "growFrom", "(LRunTapes$Records;IZ)V"⟩
abbrev cX0_nextOut : ByteArray := prog_2_method_5_code
def yX0_nextOut : MethodName := ⟨RX0, "nextOut", "(LRunTapes$Records;I)I"⟩
abbrev cX0_goesOn : ByteArray := prog_2_method_6_code
def yX0_goesOn : MethodName := ⟨RX0, "goesOn", "(LRunTapes$Records;II)Z"⟩
def RX1 : String := "RunTapes$Mill"
def TX1 : u_T := fun k => match k with
  | 0 => ("RunTapes$Mill", "way", "I", false)
  | 1 => ("RunTapes$Mill", "tapes", "I", false)
  | 2 => ("RunTapes$Mill", "half", "I", false)
  | 3 => ("RunTapes$Mill", "back", "Z", false)
  | 4 => ("RunTapes$Mill", "tape", "[LRunTapes$Tape;", true)
  | 5 => ("RunTapes$Mill", "length", "[I", true)
  | 6 => ("RunTapes$Mill", "down", "[Z", true)
  | 7 => ("RunTapes$Mill", "loaded", "I", false)
  | 8 => ("RunTapes$Mill", "left", "I", false)
  | 9 => ("RunTapes$Mill", "to", "I", false)
  | 10 => ("RunTapes$Mill", "open", "[Z", true)
  | 11 => ("RunTapes$Mill", "lowGives", "Z", false)
  | 12 => ("RunTapes$Mill", "tally", "[I", true)
  | 13 => ("RunTapes$Mill", "taken", "[I", true)
  | 14 => ("RunTapes$Mill", "lead", "I", false)
  | 15 => ("RunTapes$Mill", "falling", "Z", false)
  | 16 => ("RunTapes$Mill", "made", "I", false)
  | 17 => ("RunTapes$Mill", "places", "LRunTapes$Numbers;", true)
  | _ => ("RunTapes$Mill", "blanks", "[I", true)
def tyX1 : Nat → FieldType := fun k => match k with
  | 0 => .int
  | 1 => .int
  | 2 => .int
  | 3 => .boolean
  | 4 => .array (.object "RunTapes$Tape")
  | 5 => .array .int
  | 6 => .array .boolean
  | 7 => .int
  | 8 => .int
  | 9 => .int
  | 10 => .array .boolean
  | 11 => .boolean
  | 12 => .array .int
  | 13 => .array .int
  | 14 => .int
  | 15 => .boolean
  | 16 => .int
  | 17 => .object "RunTapes$Numbers"
  | _ => .array .int
abbrev wsX10 : List Cond := u_ws RX1 TX1 19
theorem nmX1 : ∀ a, a < 19 → ∀ b, b < 19 → a ≠ b → (TX1 a).2.1 ≠ (TX1 b).2.1 := by decide +kernel
theorem tyX1_ok : ∀ k, k < 19 → parseFieldDescriptor (TX1 k).2.2.1 = some (tyX1 k) := by decide +kernel
abbrev cX1_init : ByteArray := prog_3_method_1_code
def yX1_init : MethodName := ⟨RX1, "<init>", "(I)V"⟩
abbrev cX1_copyFrom : ByteArray := prog_3_method_2_code
def yX1_copyFrom : MethodName := ⟨RX1, "copyFrom", "(LRunTapes$Mill;)V"⟩
abbrev cX1_begin : ByteArray := prog_3_method_3_code
def yX1_begin : MethodName := ⟨RX1, "begin", "(IIZ)V"⟩
abbrev cX1_load : ByteArray := prog_3_method_4_code
def yX1_load : MethodName := ⟨RX1, "load", "(IZ)V"⟩
abbrev cX1_layOut : ByteArray := prog_3_method_5_code
def yX1_layOut : MethodName := ⟨RX1, "layOut", "(Z)V"⟩
abbrev cX1_dealByTurns : ByteArray := prog_3_method_6_code
def yX1_dealByTurns : MethodName := ⟨RX1, "dealByTurns", "()V"⟩
abbrev cX1_dealByNumbers : ByteArray := prog_3_method_7_code
def yX1_dealByNumbers : MethodName := ⟨RX1, "dealByNumbers", "(Z)V"⟩
abbrev cX1_firstPlace : ByteArray := prog_3_method_8_code
def yX1_firstPlace : MethodName := ⟨RX1, "firstPlace", "()I"⟩
abbrev cX1_fewestBlanks : ByteArray := prog_3_method_9_code
def yX1_fewestBlanks : MethodName := ⟨RX1, "fewestBlanks", "()I"⟩
abbrev cX1_mostPlaces : ByteArray := prog_3_method_10_code
def yX1_mostPlaces : MethodName := ⟨RX1, "mostPlaces", "()I"⟩
abbrev cX1_writeBlanks : ByteArray := prog_3_method_11_code
def yX1_writeBlanks : MethodName := ⟨RX1, "writeBlanks", "()V"⟩
abbrev cX1_gives : ByteArray := prog_3_method_12_code
def yX1_gives : MethodName := ⟨RX1, "gives", "(I)Z"⟩
abbrev cX1_look : ByteArray := prog_3_method_13_code
def yX1_look : MethodName := ⟨RX1, "look", "()V"⟩
abbrev cX1_advance : ByteArray := prog_3_method_14_code
def yX1_advance : MethodName := ⟨RX1, "advance", "()V"⟩
abbrev cX1_endNumberedPhase : ByteArray := prog_3_method_15_code
def yX1_endNumberedPhase : MethodName := ⟨RX1, "endNumberedPhase", "()V"⟩
abbrev cX1_emptiedTape : ByteArray := prog_3_method_16_code
def yX1_emptiedTape : MethodName := ⟨RX1, "emptiedTape", "()I"⟩
abbrev cX1_givers : ByteArray := prog_3_method_17_code
def yX1_givers : MethodName := ⟨RX1, "givers", "()I"⟩
abbrev cX1_openPass : ByteArray := prog_3_method_18_code
def yX1_openPass : MethodName := ⟨RX1, "openPass", "()V"⟩
abbrev cX1_endBalancedPhase : ByteArray := prog_3_method_19_code
def yX1_endBalancedPhase : MethodName := ⟨RX1, "endBalancedPhase", "()V"⟩
abbrev cX1_firstToWrite : ByteArray := prog_3_method_20_code
def yX1_firstToWrite : MethodName := ⟨RX1, "firstToWrite", "()I"⟩
abbrev cX1_turnLast : ByteArray := prog_3_method_21_code
def yX1_turnLast : MethodName := ⟨RX1, "turnLast", "()V"⟩
abbrev cX1_mergeAll : ByteArray := prog_3_method_22_code
def yX1_mergeAll : MethodName := ⟨RX1, "mergeAll", "()V"⟩
abbrev cX1_sizeOf : ByteArray := prog_3_method_23_code
def yX1_sizeOf : MethodName := ⟨RX1, "sizeOf", "(I)I"⟩
abbrev cX1_isDown : ByteArray := prog_3_method_24_code
def yX1_isDown : MethodName := ⟨RX1, "isDown", "(I)Z"⟩
abbrev cX1_recordsOn : ByteArray := prog_3_method_25_code
def yX1_recordsOn : MethodName := ⟨RX1, "recordsOn", "(I)I"⟩
abbrev cX1_takenFrom : ByteArray := prog_3_method_26_code
def yX1_takenFrom : MethodName := ⟨RX1, "takenFrom", "(I)I"⟩
abbrev cX1_blocksTaken : ByteArray := prog_3_method_27_code
def yX1_blocksTaken : MethodName := ⟨RX1, "blocksTaken", "(I)I"⟩
abbrev cX1_stand : ByteArray := prog_3_method_28_code
def yX1_stand : MethodName := ⟨RX1, "stand", "()J"⟩
def RX2 : String := "RunTapes$Numbers"
def TX2 : u_T := fun k => match k with
  | 0 => ("RunTapes$Numbers", "at", "[I", true)
  | 1 => ("RunTapes$Numbers", "width", "I", false)
  | _ => ("RunTapes$Numbers", "level", "I", false)
def tyX2 : Nat → FieldType := fun k => match k with
  | 0 => .array .int
  | 1 => .int
  | _ => .int
abbrev wsX20 : List Cond := u_ws RX2 TX2 3
theorem nmX2 : ∀ a, a < 3 → ∀ b, b < 3 → a ≠ b → (TX2 a).2.1 ≠ (TX2 b).2.1 := by decide +kernel
theorem tyX2_ok : ∀ k, k < 3 → parseFieldDescriptor (TX2 k).2.2.1 = some (tyX2 k) := by decide +kernel
abbrev cX2_init : ByteArray := prog_4_method_1_code
def yX2_init : MethodName := ⟨RX2, "<init>", "()V"⟩
abbrev cX2_ground : ByteArray := prog_4_method_2_code
def yX2_ground : MethodName := ⟨RX2, "ground", "(I)V"⟩
abbrev cX2_climb : ByteArray := prog_4_method_3_code
def yX2_climb : MethodName := ⟨RX2, "climb", "(I)V"⟩
abbrev cX2_climbCascade : ByteArray := prog_4_method_4_code
def yX2_climbCascade : MethodName := ⟨RX2, "climbCascade", "()V"⟩
abbrev cX2_climbTo : ByteArray := prog_4_method_5_code
def yX2_climbTo : MethodName := ⟨RX2, "climbTo", "(III)V"⟩
abbrev cX2_climbFor : ByteArray := prog_4_method_6_code
def yX2_climbFor : MethodName := ⟨RX2, "climbFor", "(III)V"⟩
abbrev cX2_together : ByteArray := prog_4_method_7_code
def yX2_together : MethodName := ⟨RX2, "together", "()I"⟩
def RX3 : String := "RunTapes$Records"
def TX3 : u_T := fun k => match k with
  | 0 => ("RunTapes$Records", "keys", "[I", true)
  | 1 => ("RunTapes$Records", "rising", "[I", true)
  | 2 => ("RunTapes$Records", "size", "I", false)
  | _ => ("RunTapes$Records", "inversions", "I", false)
def tyX3 : Nat → FieldType := fun k => match k with
  | 0 => .array .int
  | 1 => .array .int
  | 2 => .int
  | _ => .int
abbrev wsX30 : List Cond := u_ws RX3 TX3 4
theorem nmX3 : ∀ a, a < 4 → ∀ b, b < 4 → a ≠ b → (TX3 a).2.1 ≠ (TX3 b).2.1 := by decide +kernel
theorem tyX3_ok : ∀ k, k < 4 → parseFieldDescriptor (TX3 k).2.2.1 = some (tyX3 k) := by decide +kernel
abbrev cX3_init : ByteArray := prog_5_method_1_code
def yX3_init : MethodName := ⟨RX3, "<init>", "()V"⟩
abbrev cX3_copyFrom : ByteArray := prog_5_method_2_code
def yX3_copyFrom : MethodName := ⟨RX3, "copyFrom", "(LRunTapes$Records;)V"⟩
abbrev cX3_wipe : ByteArray := prog_5_method_3_code
def yX3_wipe : MethodName := ⟨RX3, "wipe", "()V"⟩
abbrev cX3_add : ByteArray := prog_5_method_4_code
def yX3_add : MethodName := ⟨RX3, "add", "(I)V"⟩
abbrev cX3_isLess : ByteArray := prog_5_method_5_code
def yX3_isLess : MethodName := ⟨RX3, "isLess", "(II)Z"⟩
abbrev cX3_ranked : ByteArray := prog_5_method_6_code
def yX3_ranked : MethodName := ⟨RX3, "ranked", "(IZ)I"⟩
abbrev cX3_howOften : ByteArray := prog_5_method_7_code
def yX3_howOften : MethodName := ⟨RX3, "howOften", "(I)I"⟩
abbrev cX3_firstOf : ByteArray := prog_5_method_8_code
def yX3_firstOf : MethodName := ⟨RX3, "firstOf", "(I)I"⟩
abbrev cX3_lastOf : ByteArray := prog_5_method_9_code
def yX3_lastOf : MethodName := ⟨RX3, "lastOf", "(I)I"⟩
abbrev cX3_beginsKey : ByteArray := prog_5_method_10_code
def yX3_beginsKey : MethodName := ⟨RX3, "beginsKey", "(I)Z"⟩
abbrev cX3_unlikeKeys : ByteArray := prog_5_method_11_code
def yX3_unlikeKeys : MethodName := ⟨RX3, "unlikeKeys", "()I"⟩
abbrev cX3_keyMostOften : ByteArray := prog_5_method_12_code
def yX3_keyMostOften : MethodName := ⟨RX3, "keyMostOften", "()I"⟩
abbrev cX3_naturalRuns : ByteArray := prog_5_method_13_code
def yX3_naturalRuns : MethodName := ⟨RX3, "naturalRuns", "()I"⟩
def RX4 : String := "RunTapes$State"
def TX4 : u_T := fun k => match k with
  | 0 => ("RunTapes$State", "records", "LRunTapes$Records;", true)
  | 1 => ("RunTapes$State", "settings", "[I", true)
  | 2 => ("RunTapes$State", "stage", "I", false)
  | 3 => ("RunTapes$State", "grown", "LRunTapes$Grown;", true)
  | 4 => ("RunTapes$State", "mill", "LRunTapes$Mill;", true)
  | 5 => ("RunTapes$State", "holder", "[I", true)
  | _ => ("RunTapes$State", "passed", "[I", true)
def tyX4 : Nat → FieldType := fun k => match k with
  | 0 => .object "RunTapes$Records"
  | 1 => .array .int
  | 2 => .int
  | 3 => .object "RunTapes$Grown"
  | 4 => .object "RunTapes$Mill"
  | 5 => .array .int
  | _ => .array .int
abbrev wsX40 : List Cond := u_ws RX4 TX4 7
theorem nmX4 : ∀ a, a < 7 → ∀ b, b < 7 → a ≠ b → (TX4 a).2.1 ≠ (TX4 b).2.1 := by decide +kernel
theorem tyX4_ok : ∀ k, k < 7 → parseFieldDescriptor (TX4 k).2.2.1 = some (tyX4 k) := by decide +kernel
abbrev cX4_init : ByteArray := prog_6_method_1_code
def yX4_init : MethodName := ⟨RX4, "<init>", "()V"⟩
abbrev cX4_copyFrom : ByteArray := prog_6_method_2_code
def yX4_copyFrom : MethodName := ⟨RX4, "copyFrom", "(LRunTapes$State;)V"⟩
abbrev cX4_growRuns : ByteArray := prog_6_method_3_code
def yX4_growRuns : MethodName := ⟨RX4, "growRuns", "()V"⟩
abbrev cX4_spreadRuns : ByteArray := prog_6_method_4_code
def yX4_spreadRuns : MethodName := ⟨RX4, "spreadRuns", "()V"⟩
abbrev cX4_layRuns : ByteArray := prog_6_method_5_code
def yX4_layRuns : MethodName := ⟨RX4, "layRuns", "(LRunTapes$Mill;)V"⟩
abbrev cX4_mergeOnce : ByteArray := prog_6_method_6_code
def yX4_mergeOnce : MethodName := ⟨RX4, "mergeOnce", "()V"⟩
abbrev cX4_grownRecord : ByteArray := prog_6_method_7_code
def yX4_grownRecord : MethodName := ⟨RX4, "grownRecord", "(II)I"⟩
abbrev cX4_tapeRecord : ByteArray := prog_6_method_8_code
def yX4_tapeRecord : MethodName := ⟨RX4, "tapeRecord", "(II)I"⟩
abbrev cX4_fetchedTape : ByteArray := prog_6_method_9_code
def yX4_fetchedTape : MethodName := ⟨RX4, "fetchedTape", "(II)I"⟩
abbrev cX4_isFetchedBehindNext : ByteArray := prog_6_method_10_code
def yX4_isFetchedBehindNext : MethodName := ⟨RX4, "isFetchedBehindNext", "(II)Z"⟩
def RX5 : String := "RunTapes$Tape"
def TX5 : u_T := fun k => match k with
  | 0 => ("RunTapes$Tape", "runs", "[I", true)
  | 1 => ("RunTapes$Tape", "low", "I", false)
  | _ => ("RunTapes$Tape", "high", "I", false)
def tyX5 : Nat → FieldType := fun k => match k with
  | 0 => .array .int
  | 1 => .int
  | _ => .int
abbrev wsX50 : List Cond := u_ws RX5 TX5 3
theorem nmX5 : ∀ a, a < 3 → ∀ b, b < 3 → a ≠ b → (TX5 a).2.1 ≠ (TX5 b).2.1 := by decide +kernel
theorem tyX5_ok : ∀ k, k < 3 → parseFieldDescriptor (TX5 k).2.2.1 = some (tyX5 k) := by decide +kernel
abbrev cX5_init : ByteArray := prog_7_method_1_code
def yX5_init : MethodName := ⟨RX5, "<init>", "()V"⟩
abbrev cX5_copyFrom : ByteArray := prog_7_method_2_code
def yX5_copyFrom : MethodName := ⟨RX5, "copyFrom", "(LRunTapes$Tape;)V"⟩
abbrev cX5_wipe : ByteArray := prog_7_method_3_code
def yX5_wipe : MethodName := ⟨RX5, "wipe", "()V"⟩
abbrev cX5_size : ByteArray := prog_7_method_4_code
def yX5_size : MethodName := ⟨RX5, "size", "()I"⟩
abbrev cX5_dummies : ByteArray := prog_7_method_5_code
def yX5_dummies : MethodName := ⟨RX5, "dummies", "()I"⟩
abbrev cX5_at : ByteArray := prog_7_method_6_code
def yX5_at : MethodName := ⟨RX5, "at", "(IZ)I"⟩
abbrev cX5_write : ByteArray := prog_7_method_7_code
def yX5_write : MethodName := ⟨RX5, "write", "(I)V"⟩
abbrev cX5_drop : ByteArray := prog_7_method_8_code
def yX5_drop : MethodName := ⟨RX5, "drop", "(Z)V"⟩
def RX6 : String := "RunTapes"
def TX6 : u_T := fun k => match k with
  | 0 => ("RunTapes", "bytes", "[I", true)
  | 1 => ("RunTapes", "byteCount", "I", false)
  | 2 => ("RunTapes", "x", "I", false)
  | 3 => ("RunTapes", "now", "LRunTapes$State;", true)
  | 4 => ("RunTapes", "past", "[LRunTapes$State;", true)
  | 5 => ("RunTapes", "pastX", "[I", true)
  | 6 => ("RunTapes", "acts", "I", false)
  | 7 => ("RunTapes", "nextPast", "I", false)
  | 8 => ("RunTapes", "shelves", "[LRunTapes$State;", true)
  | 9 => ("RunTapes", "kept", "[Z", true)
  | 10 => ("RunTapes", "paper", "LRunTapes$Mill;", true)
  | 11 => ("RunTapes", "numbers", "LRunTapes$Numbers;", true)
  | 12 => ("RunTapes", "weights", "[I", true)
  | _ => ("RunTapes", "likeStands", "[J", true)
def tyX6 : Nat → FieldType := fun k => match k with
  | 0 => .array .int
  | 1 => .int
  | 2 => .int
  | 3 => .object "RunTapes$State"
  | 4 => .array (.object "RunTapes$State")
  | 5 => .array .int
  | 6 => .int
  | 7 => .int
  | 8 => .array (.object "RunTapes$State")
  | 9 => .array .boolean
  | 10 => .object "RunTapes$Mill"
  | 11 => .object "RunTapes$Numbers"
  | 12 => .array .int
  | _ => .array .long
abbrev wsX60 : List Cond := u_ws RX6 TX6 14
theorem nmX6 : ∀ a, a < 14 → ∀ b, b < 14 → a ≠ b → (TX6 a).2.1 ≠ (TX6 b).2.1 := by decide +kernel
theorem tyX6_ok : ∀ k, k < 14 → parseFieldDescriptor (TX6 k).2.2.1 = some (tyX6 k) := by decide +kernel
abbrev cX6_init : ByteArray := prog_1_method_1_code
def yX6_init : MethodName := ⟨RX6, "<init>", "()V"⟩
abbrev cX6_feed : ByteArray := prog_1_method_2_code
def yX6_feed : MethodName := ⟨RX6, "feed", "(IIIII)I"⟩
abbrev cX6_takeBytes : ByteArray := prog_1_method_3_code
def yX6_takeBytes : MethodName := ⟨RX6, "takeBytes", "(I)V"⟩
abbrev cX6_end : ByteArray := prog_1_method_4_code
def yX6_end : MethodName := ⟨RX6, "end", "(I)I"⟩
abbrev cX6_tell : ByteArray := prog_1_method_5_code
def yX6_tell : MethodName := ⟨RX6, "tell", "()I"⟩
abbrev cX6_drawn : ByteArray := prog_1_method_6_code
def yX6_drawn : MethodName := ⟨RX6, "drawn", "(II)I"⟩
abbrev cX6_drawOf : ByteArray := prog_1_method_7_code
def yX6_drawOf : MethodName := ⟨RX6, "drawOf", "(I)I"⟩
abbrev cX6_draws : ByteArray := prog_1_method_8_code
def yX6_draws : MethodName := ⟨RX6, "draws", "(I)I"⟩
abbrev cX6_clear : ByteArray := prog_1_method_9_code
def yX6_clear : MethodName := ⟨RX6, "clear", "()I"⟩
abbrev cX6_settle : ByteArray := prog_1_method_10_code
def yX6_settle : MethodName := ⟨RX6, "settle", "(II)I"⟩
abbrev cX6_fits : ByteArray := prog_1_method_11_code
def yX6_fits : MethodName := ⟨RX6, "fits", "(II)Z"⟩
abbrev cX6_grow : ByteArray := prog_1_method_12_code
def yX6_grow : MethodName := ⟨RX6, "grow", "()I"⟩
abbrev cX6_spread : ByteArray := prog_1_method_13_code
def yX6_spread : MethodName := ⟨RX6, "spread", "()I"⟩
abbrev cX6_step : ByteArray := prog_1_method_14_code
def yX6_step : MethodName := ⟨RX6, "step", "()I"⟩
abbrev cX6_phase : ByteArray := prog_1_method_15_code
def yX6_phase : MethodName := ⟨RX6, "phase", "()I"⟩
abbrev cX6_all : ByteArray := prog_1_method_16_code
def yX6_all : MethodName := ⟨RX6, "all", "()I"⟩
abbrev cX6_whyNoStep : ByteArray := prog_1_method_17_code
def yX6_whyNoStep : MethodName := ⟨RX6, "whyNoStep", "()I"⟩
abbrev cX6_record : ByteArray := prog_1_method_18_code
def yX6_record : MethodName := ⟨RX6, "record", "(II)I"⟩
abbrev cX6_run : ByteArray := prog_1_method_19_code
def yX6_run : MethodName := ⟨RX6, "run", "(II)I"⟩
abbrev cX6_isRun : ByteArray := prog_1_method_20_code
def yX6_isRun : MethodName := ⟨RX6, "isRun", "(I)Z"⟩
abbrev cX6_tape : ByteArray := prog_1_method_21_code
def yX6_tape : MethodName := ⟨RX6, "tape", "(II)I"⟩
abbrev cX6_isTape : ByteArray := prog_1_method_22_code
def yX6_isTape : MethodName := ⟨RX6, "isTape", "(I)Z"⟩
abbrev cX6_on : ByteArray := prog_1_method_23_code
def yX6_on : MethodName := ⟨RX6, "on", "(III)I"⟩
abbrev cX6_sorted : ByteArray := prog_1_method_24_code
def yX6_sorted : MethodName := ⟨RX6, "sorted", "(I)I"⟩
abbrev cX6_perfect : ByteArray := prog_1_method_25_code
def yX6_perfect : MethodName := ⟨RX6, "perfect", "(II)I"⟩
abbrev cX6_plan : ByteArray := prog_1_method_26_code
def yX6_plan : MethodName := ⟨RX6, "plan", "(I)I"⟩
abbrev cX6_canPlan : ByteArray := prog_1_method_27_code
def yX6_canPlan : MethodName := ⟨RX6, "canPlan", "()Z"⟩
abbrev cX6_canSpread : ByteArray := prog_1_method_28_code
def yX6_canSpread : MethodName := ⟨RX6, "canSpread", "(II)Z"⟩
abbrev cX6_beginPlan : ByteArray := prog_1_method_29_code
def yX6_beginPlan : MethodName := ⟨RX6, "beginPlan", "()V"⟩
abbrev cX6_planned : ByteArray := prog_1_method_30_code
def yX6_planned : MethodName := ⟨RX6, "planned", "(III)I"⟩
abbrev cX6_least : ByteArray := prog_1_method_31_code
def yX6_least : MethodName := ⟨RX6, "least", "(I)I"⟩
abbrev cX6_takeLightest : ByteArray := prog_1_method_32_code
def yX6_takeLightest : MethodName := ⟨RX6, "takeLightest", "(I)I"⟩
abbrev cX6_depth : ByteArray := prog_1_method_33_code
def yX6_depth : MethodName := ⟨RX6, "depth", "(I)I"⟩
abbrev cX6_units : ByteArray := prog_1_method_34_code
def yX6_units : MethodName := ⟨RX6, "units", "(I)I"⟩
abbrev cX6_stands : ByteArray := prog_1_method_35_code
def yX6_stands : MethodName := ⟨RX6, "stands", "()I"⟩
abbrev cX6_isAmongLikeStands : ByteArray := prog_1_method_36_code
def yX6_isAmongLikeStands : MethodName := ⟨RX6, "isAmongLikeStands", "(JI)Z"⟩
abbrev cX6_key : ByteArray := prog_1_method_37_code
def yX6_key : MethodName := ⟨RX6, "key", "(II)I"⟩
abbrev cX6_keys : ByteArray := prog_1_method_38_code
def yX6_keys : MethodName := ⟨RX6, "keys", "(I)I"⟩
abbrev cX6_about : ByteArray := prog_1_method_39_code
def yX6_about : MethodName := ⟨RX6, "about", "(I)I"⟩
abbrev cX6_forecast : ByteArray := prog_1_method_40_code
def yX6_forecast : MethodName := ⟨RX6, "forecast", "(II)I"⟩
abbrev cX6_needs : ByteArray := prog_1_method_41_code
def yX6_needs : MethodName := ⟨RX6, "needs", "(I)I"⟩
abbrev cX6_remember : ByteArray := prog_1_method_42_code
def yX6_remember : MethodName := ⟨RX6, "remember", "()V"⟩
abbrev cX6_undo : ByteArray := prog_1_method_43_code
def yX6_undo : MethodName := ⟨RX6, "undo", "()I"⟩
abbrev cX6_keep : ByteArray := prog_1_method_44_code
def yX6_keep : MethodName := ⟨RX6, "keep", "(I)I"⟩
abbrev cX6_back : ByteArray := prog_1_method_45_code
def yX6_back : MethodName := ⟨RX6, "back", "(I)I"⟩
abbrev cX6_count : ByteArray := prog_1_method_46_code
def yX6_count : MethodName := ⟨RX6, "count", "(I)I"⟩
def RX7 : String := "RunTapesModel"
def TX7 : u_T := fun k => match k with
  | 0 => ("RunTapesModel", "now", "[I", true)
  | 1 => ("RunTapesModel", "then", "[I", true)
  | 2 => ("RunTapesModel", "past", "[I", true)
  | 3 => ("RunTapesModel", "kept", "[I", true)
  | 4 => ("RunTapesModel", "pastMany", "I", false)
  | 5 => ("RunTapesModel", "keptSet", "I", false)
  | 6 => ("RunTapesModel", "tape", "[B", true)
  | 7 => ("RunTapesModel", "taped", "I", false)
  | 8 => ("RunTapesModel", "inRoom", "[I", true)
  | 9 => ("RunTapesModel", "runOf", "[I", true)
  | 10 => ("RunTapesModel", "roomMany", "I", false)
  | 11 => ("RunTapesModel", "perfect", "[I", true)
  | 12 => ("RunTapesModel", "nextPerfect", "[I", true)
  | 13 => ("RunTapesModel", "dummies", "[I", true)
  | 14 => ("RunTapesModel", "came", "[I", true)
  | 15 => ("RunTapesModel", "made", "I", false)
  | 16 => ("RunTapesModel", "taken", "[I", true)
  | 17 => ("RunTapesModel", "pool", "[I", true)
  | 18 => ("RunTapesModel", "shift", "[I", true)
  | 19 => ("RunTapesModel", "stand", "[I", true)
  | 20 => ("RunTapesModel", "standMany", "I", false)
  | 21 => ("RunTapesModel", "unitMany", "[I", true)
  | 22 => ("RunTapesModel", "unitSize", "[I", true)
  | 23 => ("RunTapesModel", "unitTo", "I", false)
  | 24 => ("RunTapesModel", "unitBegan", "I", false)
  | 25 => ("RunTapesModel", "unitWasTo", "I", false)
  | 26 => ("RunTapesModel", "sizes", "[I", true)
  | 27 => ("RunTapesModel", "writes", "[I", true)
  | 28 => ("RunTapesModel", "writesTape", "[I", true)
  | _ => ("RunTapesModel", "done", "[I", true)
def tyX7 : Nat → FieldType := fun k => match k with
  | 0 => .array .int
  | 1 => .array .int
  | 2 => .array .int
  | 3 => .array .int
  | 4 => .int
  | 5 => .int
  | 6 => .array .byte
  | 7 => .int
  | 8 => .array .int
  | 9 => .array .int
  | 10 => .int
  | 11 => .array .int
  | 12 => .array .int
  | 13 => .array .int
  | 14 => .array .int
  | 15 => .int
  | 16 => .array .int
  | 17 => .array .int
  | 18 => .array .int
  | 19 => .array .int
  | 20 => .int
  | 21 => .array .int
  | 22 => .array .int
  | 23 => .int
  | 24 => .int
  | 25 => .int
  | 26 => .array .int
  | 27 => .array .int
  | 28 => .array .int
  | _ => .array .int
abbrev wsX70 : List Cond := u_ws RX7 TX7 30
theorem nmX7 : ∀ a, a < 30 → ∀ b, b < 30 → a ≠ b → (TX7 a).2.1 ≠ (TX7 b).2.1 := by decide +kernel
theorem tyX7_ok : ∀ k, k < 30 → parseFieldDescriptor (TX7 k).2.2.1 = some (tyX7 k) := by decide +kernel
abbrev cX7_init : ByteArray := prog_9_method_1_code
def yX7_init : MethodName := ⟨RX7, "<init>", "()V"⟩
abbrev cX7_in : ByteArray := prog_9_method_2_code
def yX7_in : MethodName := ⟨RX7, "in", "(III)Z"⟩
abbrev cX7_truth : ByteArray := prog_9_method_3_code
def yX7_truth : MethodName := ⟨RX7, "truth", "(Z)I"⟩
abbrev cX7_keepsIn : ByteArray := prog_9_method_4_code
def yX7_keepsIn : MethodName := ⟨RX7, "keepsIn", "([II)V"⟩
abbrev cX7_laysFrom : ByteArray := prog_9_method_5_code
def yX7_laysFrom : MethodName := ⟨RX7, "laysFrom", "([II)V"⟩
abbrev cX7_remembers : ByteArray := prog_9_method_6_code
def yX7_remembers : MethodName := ⟨RX7, "remembers", "()V"⟩
abbrev cX7_undo : ByteArray := prog_9_method_7_code
def yX7_undo : MethodName := ⟨RX7, "undo", "()I"⟩
abbrev cX7_feed : ByteArray := prog_9_method_8_code
def yX7_feed : MethodName := ⟨RX7, "feed", "(IIIII)I"⟩
abbrev cX7_puts : ByteArray := prog_9_method_9_code
def yX7_puts : MethodName := ⟨RX7, "puts", "(I)V"⟩
abbrev cX7_end : ByteArray := prog_9_method_10_code
def yX7_end : MethodName := ⟨RX7, "end", "(I)I"⟩
abbrev cX7_many : ByteArray := prog_9_method_11_code
def yX7_many : MethodName := ⟨RX7, "many", "()I"⟩
abbrev cX7_comes : ByteArray := prog_9_method_12_code
def yX7_comes : MethodName := ⟨RX7, "comes", "(I)V"⟩
abbrev cX7_begins : ByteArray := prog_9_method_13_code
def yX7_begins : MethodName := ⟨RX7, "begins", "()V"⟩
abbrev cX7_clearsCounts : ByteArray := prog_9_method_14_code
def yX7_clearsCounts : MethodName := ⟨RX7, "clearsCounts", "()V"⟩
abbrev cX7_tell : ByteArray := prog_9_method_15_code
def yX7_tell : MethodName := ⟨RX7, "tell", "()I"⟩
abbrev cX7_drawnOf : ByteArray := prog_9_method_16_code
def yX7_drawnOf : MethodName := ⟨RX7, "drawnOf", "(I)I"⟩
abbrev cX7_drawn : ByteArray := prog_9_method_17_code
def yX7_drawn : MethodName := ⟨RX7, "drawn", "(II)I"⟩
abbrev cX7_draws : ByteArray := prog_9_method_18_code
def yX7_draws : MethodName := ⟨RX7, "draws", "(I)I"⟩
abbrev cX7_clear : ByteArray := prog_9_method_19_code
def yX7_clear : MethodName := ⟨RX7, "clear", "()I"⟩
abbrev cX7_canSet : ByteArray := prog_9_method_20_code
def yX7_canSet : MethodName := ⟨RX7, "canSet", "(II)Z"⟩
abbrev cX7_settle : ByteArray := prog_9_method_21_code
def yX7_settle : MethodName := ⟨RX7, "settle", "(II)I"⟩
abbrev cX7_room : ByteArray := prog_9_method_22_code
def yX7_room : MethodName := ⟨RX7, "room", "()I"⟩
abbrev cX7_tapes : ByteArray := prog_9_method_23_code
def yX7_tapes : MethodName := ⟨RX7, "tapes", "()I"⟩
abbrev cX7_way : ByteArray := prog_9_method_24_code
def yX7_way : MethodName := ⟨RX7, "way", "()I"⟩
abbrev cX7_isFront : ByteArray := prog_9_method_25_code
def yX7_isFront : MethodName := ⟨RX7, "isFront", "()Z"⟩
abbrev cX7_isBack : ByteArray := prog_9_method_26_code
def yX7_isBack : MethodName := ⟨RX7, "isBack", "()Z"⟩
abbrev cX7_doesFall : ByteArray := prog_9_method_27_code
def yX7_doesFall : MethodName := ⟨RX7, "doesFall", "(I)Z"⟩
abbrev cX7_isLess : ByteArray := prog_9_method_28_code
def yX7_isLess : MethodName := ⟨RX7, "isLess", "(II)Z"⟩
abbrev cX7_comesIn : ByteArray := prog_9_method_29_code
def yX7_comesIn : MethodName := ⟨RX7, "comesIn", "(II)V"⟩
abbrev cX7_firstOf : ByteArray := prog_9_method_30_code
def yX7_firstOf : MethodName := ⟨RX7, "firstOf", "(I)I"⟩
abbrev cX7_laysRuns : ByteArray := prog_9_method_31_code
def yX7_laysRuns : MethodName := ⟨RX7, "laysRuns", "()V"⟩
abbrev cX7_grow : ByteArray := prog_9_method_32_code
def yX7_grow : MethodName := ⟨RX7, "grow", "()I"⟩
abbrev cX7_runSize : ByteArray := prog_9_method_33_code
def yX7_runSize : MethodName := ⟨RX7, "runSize", "(I)I"⟩
abbrev cX7_laysPerfect : ByteArray := prog_9_method_34_code
def yX7_laysPerfect : MethodName := ⟨RX7, "laysPerfect", "(III)V"⟩
abbrev cX7_allPerfect : ByteArray := prog_9_method_35_code
def yX7_allPerfect : MethodName := ⟨RX7, "allPerfect", "(I)I"⟩
abbrev cX7_perfect : ByteArray := prog_9_method_36_code
def yX7_perfect : MethodName := ⟨RX7, "perfect", "(II)I"⟩
abbrev cX7_runAt : ByteArray := prog_9_method_37_code
def yX7_runAt : MethodName := ⟨RX7, "runAt", "(II)I"⟩
abbrev cX7_comesLast : ByteArray := prog_9_method_38_code
def yX7_comesLast : MethodName := ⟨RX7, "comesLast", "(II)V"⟩
abbrev cX7_comesFirst : ByteArray := prog_9_method_39_code
def yX7_comesFirst : MethodName := ⟨RX7, "comesFirst", "(II)V"⟩
abbrev cX7_takesFirst : ByteArray := prog_9_method_40_code
def yX7_takesFirst : MethodName := ⟨RX7, "takesFirst", "(I)I"⟩
abbrev cX7_makesRun : ByteArray := prog_9_method_41_code
def yX7_makesRun : MethodName := ⟨RX7, "makesRun", "(II)I"⟩
abbrev cX7_dealsDummies : ByteArray := prog_9_method_42_code
def yX7_dealsDummies : MethodName := ⟨RX7, "dealsDummies", "(II)V"⟩
abbrev cX7_dealsRun : ByteArray := prog_9_method_43_code
def yX7_dealsRun : MethodName := ⟨RX7, "dealsRun", "(II)V"⟩
abbrev cX7_spreadsPerfectly : ByteArray := prog_9_method_44_code
def yX7_spreadsPerfectly : MethodName := ⟨RX7, "spreadsPerfectly", "()V"⟩
abbrev cX7_placesLeft : ByteArray := prog_9_method_45_code
def yX7_placesLeft : MethodName := ⟨RX7, "placesLeft", "(I)I"⟩
abbrev cX7_spreads : ByteArray := prog_9_method_46_code
def yX7_spreads : MethodName := ⟨RX7, "spreads", "()V"⟩
abbrev cX7_beginsPass : ByteArray := prog_9_method_47_code
def yX7_beginsPass : MethodName := ⟨RX7, "beginsPass", "()V"⟩
abbrev cX7_onAll : ByteArray := prog_9_method_48_code
def yX7_onAll : MethodName := ⟨RX7, "onAll", "()I"⟩
abbrev cX7_looksWhetherMerged : ByteArray := prog_9_method_49_code
def yX7_looksWhetherMerged : MethodName := ⟨RX7, "looksWhetherMerged", "()V"⟩
abbrev cX7_canSpread : ByteArray := prog_9_method_50_code
def yX7_canSpread : MethodName := ⟨RX7, "canSpread", "()Z"⟩
abbrev cX7_spread : ByteArray := prog_9_method_51_code
def yX7_spread : MethodName := ⟨RX7, "spread", "()I"⟩
abbrev cX7_sorts : ByteArray := prog_9_method_52_code
def yX7_sorts : MethodName := ⟨RX7, "sorts", "(IIZ)V"⟩
abbrev cX7_doesGive : ByteArray := prog_9_method_53_code
def yX7_doesGive : MethodName := ⟨RX7, "doesGive", "(I)Z"⟩
abbrev cX7_isInHalf : ByteArray := prog_9_method_54_code
def yX7_isInHalf : MethodName := ⟨RX7, "isInHalf", "(II)Z"⟩
abbrev cX7_laysTaken : ByteArray := prog_9_method_55_code
def yX7_laysTaken : MethodName := ⟨RX7, "laysTaken", "()Z"⟩
abbrev cX7_gathers : ByteArray := prog_9_method_56_code
def yX7_gathers : MethodName := ⟨RX7, "gathers", "()I"⟩
abbrev cX7_isInTaken : ByteArray := prog_9_method_57_code
def yX7_isInTaken : MethodName := ⟨RX7, "isInTaken", "(I)Z"⟩
abbrev cX7_shiftsRuns : ByteArray := prog_9_method_58_code
def yX7_shiftsRuns : MethodName := ⟨RX7, "shiftsRuns", "()V"⟩
abbrev cX7_steps : ByteArray := prog_9_method_59_code
def yX7_steps : MethodName := ⟨RX7, "steps", "()I"⟩
abbrev cX7_emptied : ByteArray := prog_9_method_60_code
def yX7_emptied : MethodName := ⟨RX7, "emptied", "()I"⟩
abbrev cX7_goesOn : ByteArray := prog_9_method_61_code
def yX7_goesOn : MethodName := ⟨RX7, "goesOn", "()V"⟩
abbrev cX7_goesOnBalanced : ByteArray := prog_9_method_62_code
def yX7_goesOnBalanced : MethodName := ⟨RX7, "goesOnBalanced", "()V"⟩
abbrev cX7_isSpread : ByteArray := prog_9_method_63_code
def yX7_isSpread : MethodName := ⟨RX7, "isSpread", "()Z"⟩
abbrev cX7_refused : ByteArray := prog_9_method_64_code
def yX7_refused : MethodName := ⟨RX7, "refused", "()I"⟩
abbrev cX7_step : ByteArray := prog_9_method_65_code
def yX7_step : MethodName := ⟨RX7, "step", "()I"⟩
abbrev cX7_phase : ByteArray := prog_9_method_66_code
def yX7_phase : MethodName := ⟨RX7, "phase", "()I"⟩
abbrev cX7_all : ByteArray := prog_9_method_67_code
def yX7_all : MethodName := ⟨RX7, "all", "()I"⟩
abbrev cX7_record : ByteArray := prog_9_method_68_code
def yX7_record : MethodName := ⟨RX7, "record", "(II)I"⟩
abbrev cX7_run : ByteArray := prog_9_method_69_code
def yX7_run : MethodName := ⟨RX7, "run", "(II)I"⟩
abbrev cX7_tape : ByteArray := prog_9_method_70_code
def yX7_tape : MethodName := ⟨RX7, "tape", "(II)I"⟩
abbrev cX7_on : ByteArray := prog_9_method_71_code
def yX7_on : MethodName := ⟨RX7, "on", "(III)I"⟩
abbrev cX7_sorted : ByteArray := prog_9_method_72_code
def yX7_sorted : MethodName := ⟨RX7, "sorted", "(I)I"⟩
abbrev cX7_goesThrough : ByteArray := prog_9_method_73_code
def yX7_goesThrough : MethodName := ⟨RX7, "goesThrough", "(IIII)I"⟩
abbrev cX7_notesStand : ByteArray := prog_9_method_74_code
def yX7_notesStand : MethodName := ⟨RX7, "notesStand", "()V"⟩
abbrev cX7_plan : ByteArray := prog_9_method_75_code
def yX7_plan : MethodName := ⟨RX7, "plan", "(I)I"⟩
abbrev cX7_planned : ByteArray := prog_9_method_76_code
def yX7_planned : MethodName := ⟨RX7, "planned", "(III)I"⟩
abbrev cX7_stands : ByteArray := prog_9_method_77_code
def yX7_stands : MethodName := ⟨RX7, "stands", "()I"⟩
abbrev cX7_depth : ByteArray := prog_9_method_78_code
def yX7_depth : MethodName := ⟨RX7, "depth", "(I)I"⟩
abbrev cX7_givesUnits : ByteArray := prog_9_method_79_code
def yX7_givesUnits : MethodName := ⟨RX7, "givesUnits", "(I)Z"⟩
abbrev cX7_beginsUnits : ByteArray := prog_9_method_80_code
def yX7_beginsUnits : MethodName := ⟨RX7, "beginsUnits", "()V"⟩
abbrev cX7_goesUnits : ByteArray := prog_9_method_81_code
def yX7_goesUnits : MethodName := ⟨RX7, "goesUnits", "()I"⟩
abbrev cX7_units : ByteArray := prog_9_method_82_code
def yX7_units : MethodName := ⟨RX7, "units", "(I)I"⟩
abbrev cX7_isMoreThanOne : ByteArray := prog_9_method_83_code
def yX7_isMoreThanOne : MethodName := ⟨RX7, "isMoreThanOne", "()Z"⟩
abbrev cX7_takesLeast : ByteArray := prog_9_method_84_code
def yX7_takesLeast : MethodName := ⟨RX7, "takesLeast", "(I)I"⟩
abbrev cX7_least : ByteArray := prog_9_method_85_code
def yX7_least : MethodName := ⟨RX7, "least", "(I)I"⟩
abbrev cX7_oftenOf : ByteArray := prog_9_method_86_code
def yX7_oftenOf : MethodName := ⟨RX7, "oftenOf", "(I)I"⟩
abbrev cX7_key : ByteArray := prog_9_method_87_code
def yX7_key : MethodName := ⟨RX7, "key", "(II)I"⟩
abbrev cX7_keys : ByteArray := prog_9_method_88_code
def yX7_keys : MethodName := ⟨RX7, "keys", "(I)I"⟩
abbrev cX7_inversions : ByteArray := prog_9_method_89_code
def yX7_inversions : MethodName := ⟨RX7, "inversions", "()I"⟩
abbrev cX7_naturalRuns : ByteArray := prog_9_method_90_code
def yX7_naturalRuns : MethodName := ⟨RX7, "naturalRuns", "()I"⟩
abbrev cX7_midst : ByteArray := prog_9_method_91_code
def yX7_midst : MethodName := ⟨RX7, "midst", "()I"⟩
abbrev cX7_about : ByteArray := prog_9_method_92_code
def yX7_about : MethodName := ⟨RX7, "about", "(I)I"⟩
abbrev cX7_laysWrites : ByteArray := prog_9_method_93_code
def yX7_laysWrites : MethodName := ⟨RX7, "laysWrites", "()I"⟩
abbrev cX7_forecast : ByteArray := prog_9_method_94_code
def yX7_forecast : MethodName := ⟨RX7, "forecast", "(II)I"⟩
abbrev cX7_needs : ByteArray := prog_9_method_95_code
def yX7_needs : MethodName := ⟨RX7, "needs", "(I)I"⟩
abbrev cX7_keep : ByteArray := prog_9_method_96_code
def yX7_keep : MethodName := ⟨RX7, "keep", "(I)I"⟩
abbrev cX7_back : ByteArray := prog_9_method_97_code
def yX7_back : MethodName := ⟨RX7, "back", "(I)I"⟩
abbrev cX7_count : ByteArray := prog_9_method_98_code
def yX7_count : MethodName := ⟨RX7, "count", "(I)I"⟩
def RL : String := "RunTapesLaw"
abbrev cL_law : ByteArray := code
def yL_law : MethodName := ⟨RL, "law", "([I)Z"⟩
abbrev vwCl : List vw_C := [(RX0, TX0, 6), (RX1, TX1, 19), (RX2, TX2, 3), (RX3, TX3, 4), (RX4, TX4, 7), (RX5, TX5, 3), (RX6, TX6, 14), (RX7, TX7, 30)]
end
section
/-! The memory that the pure texts speak of: E tells what each cell is (how many there are, code and length of each, what references it holds), σ the numbers in the cells; addresses count from the first cell that the law makes. -/
abbrev Sg : Type := (Nat → Nat → Int32) × (Nat → Nat → Int64)
abbrev En : Type := Nat × (Nat → Nat × Nat) × (Nat → Nat → Option Nat)
abbrev Gl : Type := Nat × (Nat → ClassId) × (Nat → Nat → Nat) × (Nat → ClassId) × (Nat → Nat)
abbrev KT : Type := Program × Launch × Env × Room × State × MethodId × Array Value × List Frame × Method × Code
def cd (E : En) (a : Nat) : Nat := if a < E.1 then (E.2.1 a).1 else 999
def ln (E : En) (a : Nat) : Nat := (E.2.1 a).2
def rf (E : En) (a k : Nat) : Option Nat := E.2.2 a k
def gi (σ : Sg) (a k : Nat) : Int32 := σ.1 a k
def gl (σ : Sg) (a k : Nat) : Int64 := σ.2 a k
def si (σ : Sg) (a k : Nat) (v : Int32) : Sg := (fun x => if x = a then upd (σ.1 a) k v else σ.1 x, σ.2)
def sl (σ : Sg) (a k : Nat) (v : Int64) : Sg := (σ.1, fun x => if x = a then vp_updL (σ.2 a) k v else σ.2 x)
def sc (σ : Sg) (a b sp dp n : Nat) : Sg := (fun x => if x = b then va_cpy (σ.1 a) (σ.1 b) sp dp n else σ.1 x, σ.2)
def nf (c : Nat) : Nat := match c with
  | 0 => 6 | 1 => 19 | 2 => 3 | 3 => 4 | 4 => 7 | 5 => 3 | 6 => 14 | 7 => 30 | _ => 0
def isr (t : FieldType) : Bool := match t with
  | .object _ => true | .array _ => true | _ => false
def tyc (c : Nat) : Nat → FieldType := match c with
  | 0 => tyX0 | 1 => tyX1 | 2 => tyX2 | 3 => tyX3 | 4 => tyX4 | 5 => tyX5 | 6 => tyX6 | _ => tyX7
def fv (b : Nat) (E : En) (σ : Sg) (c a k : Nat) : Value := if isr (tyc c k) = true then va_rf ((rf E a k).map (fun x => b + x)) else .int (gi σ a k)
def fvs (b : Nat) (E : En) (σ : Sg) (c a : Nat) : List Value := (List.range (nf c)).map (fv b E σ c a)
def ars (b : Nat) (E : En) (σ : Sg) (c a : Nat) : (Nat → Int32) ⊕ (Nat → Int64) ⊕ (Nat → UInt32) ⊕ (Nat → UInt64) ⊕ (Nat → Option Nat) :=
  if c < 103 then .inl (σ.1 a) else if c = 103 then .inr (.inl (σ.2 a)) else .inr (.inr (.inr (.inr (fun k => (rf E a k).map (fun x => b + x)))))
def el (b : Nat) (cA : Nat → ClassId) (E : En) (σ : Sg) (a : Nat) : va_E :=
  if (E.2.1 a).1 < 100 then .inr ((E.2.1 a).1, fvs b E σ (E.2.1 a).1 a) else .inl (cA ((E.2.1 a).1 - 100), (E.2.1 a).2, ars b E σ (E.2.1 a).1 a)
def wsOf (G : Gl) (E : En) (σ : Sg) : va_W := (List.range E.1).map (fun a => (G.1 + a, el G.1 G.2.2.2.1 E σ a))
def tyL (cA : Nat → ClassId) : List (ClassId × FieldType) := [(cA 0, .int), (cA 1, .boolean), (cA 2, .byte), (cA 3, .long), (cA 4, .object "RunTapes$Tape"), (cA 5, .object "RunTapes$State")]
abbrev GD (G : Gl) : va_G := (G.2.1, G.2.2.1)
abbrev GA (G : Gl) : Nat → Prop := fun q => G.1 ≤ q
/-- the three rows of numbers that stand before the law begins -/
def stn (k : Nat) : String := match k with
  | 0 => "AT_FIRST" | 1 => "LOWEST" | _ => "HIGHEST"
def stv (k j : Nat) : Int32 := match k with
  | 0 => (match j with | 0 => 4 | 1 => 4 | _ => 0)
  | 1 => (match j with | 0 => 2 | 1 => 3 | _ => 0)
  | _ => (match j with | 0 => 16 | 1 => 6 | 2 => 2 | _ => 1)
def Stt (G : Gl) (U : State) (H : Heap) : Prop := ∀ k, k < 3 → va_Z "RunTapes" (stn k) "[I" (.ref (G.2.2.2.2 k)) (GA G) U H ∧ va_T .int (G.2.2.2.2 k) 6 (fun j => .int (stv k j)) (GA G) U H
def wk : Cond → Bool
  | .fieldLinkNest _ _ _ _ _ _ => true
  | .methodLinkNest _ _ _ _ => true
  | w => goodWord w
/-- the words of the tables, at any arguments -/
def TbAll (U : State) : Prop := ∀ w ∈ lw_tbl, wk w = true → ∀ a : Array Value, w.before a U = true
def RepS (G : Gl) (E : En) (σ : Sg) (U : State) : Prop := G.1 ≤ U.heap.size ∧ va_P (GD G) vwCl (wsOf G E σ) U.heap ∧ va_K (GD G) vwCl (tyL G.2.2.2.1) U ∧ TbAll U ∧ Stt G U U.heap
def QC (G : Gl) (E : En) (rv : Option Value) (σ : Sg) : Array Value → State → Outcome → State → Prop := fun _ st o t => o = .returned rv ∧ RepS G E σ t ∧ va_F (GA G) st t
abbrev kP (κ : KT) : Program := κ.1
abbrev kL (κ : KT) : Launch := κ.2.1
abbrev kE (κ : KT) : Env := κ.2.2.1
abbrev kR (κ : KT) : Room := κ.2.2.2.1
abbrev kS (κ : KT) : State := κ.2.2.2.2.1
abbrev kM (κ : KT) : MethodId := κ.2.2.2.2.2.1
abbrev kA (κ : KT) : Array Value := κ.2.2.2.2.2.2.1
abbrev kB (κ : KT) : List Frame := κ.2.2.2.2.2.2.2.1
abbrev kT (κ : KT) : Method := κ.2.2.2.2.2.2.2.2.1
abbrev kC (κ : KT) : Code := κ.2.2.2.2.2.2.2.2.2
def V (κ : KT) (G : Gl) (Q : State → Prop) (E : En) (σ : Sg) (ks : Bool × Nat × Nat) (pc : Nat) (lv : List (Nat × Value)) (st : List Value) : Prop :=
  ∀ (H : Heap) (locs : List Loc) (ls : Array Slot), (ks.1 = true → H.size = G.1 + E.1) → va_P (GD G) vwCl (wsOf G E σ) H → va_S (GA G) (kS κ).heap H locs → lv_has ls (kC κ).maxLocals lv → W (kP κ) (kL κ) (kE κ) (kR κ) (kS κ) (kM κ) (kA κ) (kB κ) (kT κ) (kC κ) H locs ks.2.1 ks.2.2 Q (F0 (kM κ) pc ls st)
def Cx (κ : KT) (G : Gl) (cc : ByteArray) (own : String) (nL : Nat) : Prop :=
  (kP κ).tables.exec = Jvm.exec ∧ (kC κ).code = cc ∧ (kC κ).maxLocals = nL ∧ (kS κ).vm.findClass own = some (kM κ).cls ∧ (kT κ).locks = false ∧ va_K (GD G) vwCl (tyL G.2.2.2.1) (kS κ) ∧ TbAll (kS κ) ∧ Stt G (kS κ) (kS κ).heap ∧ G.1 ≤ (kS κ).heap.size
def dk (cc : ByteArray) (pc n : Nat) (ins : Instr) (len : Nat) : Prop := decode cc pc = .ok (ins, len) ∧ n = pc + len
def bk (cc : ByteArray) (pc n t : Nat) (ins : Instr) (off : Int) : Prop := decode cc pc = .ok (ins, 3) ∧ n = pc + 3 ∧ (pc : Int) + off = (t : Int)
/-- a class of the table -/
def CI (ci : Nat) (Cn : String) (T : u_T) (N : Nat) : Prop := vwCl[ci]? = some (Cn, T, N) ∧ (∀ w ∈ u_ws Cn T N, w ∈ lw_tbl.filter wk) ∧ (∀ k, k < N → parseFieldDescriptor (T k).2.2.1 = some (tyc ci k)) ∧ (∀ a, a < N → ∀ b, b < N → a ≠ b → (T a).2.1 ≠ (T b).2.1) ∧ nf ci = N ∧ ci < 100 ∧ ∀ k, k < N → (T k).1 = Cn
/-- a field at a place of a pool -/
def FL (own : String) (idx ci k : Nat) (fin : Bool) : Prop := ∃ (Cn : String) (T : u_T) (N : Nat), CI ci Cn T N ∧ k < N ∧ (T k).2.2.2 = fin ∧ (Cond.fieldLink own idx (T k).1 (T k).2.1 (T k).2.2.1 ∈ lw_tbl ∨ Cond.fieldLinkNest own idx (T k).1 (T k).2.1 (T k).2.2.1 "RunTapes" ∈ lw_tbl)
/-- a method of an object at a place of a pool -/
def MB (y : MethodName) (bytes : ByteArray) (maxL : Nat) (ret : Option FieldType) (n : Nat) : Prop := Cond.initialized y.cls ∈ lw_tbl ∧ Cond.code y bytes maxL ret ∈ lw_tbl ∧ (y.cls ≠ "java/lang/invoke/MethodHandle" ∧ y.cls ≠ "java/lang/invoke/VarHandle") ∧ (parseMethodDescriptor y.desc).map (fun d => d.parameters.length) = some n
def MV (own : String) (idx ci : Nat) (y : MethodName) (bytes : ByteArray) (maxL : Nat) (ret : Option FieldType) (n : Nat) : Prop := MB y bytes maxL ret n ∧ (∃ (T : u_T) (N : Nat), CI ci y.cls T N) ∧ Cond.instanceMethod y ∈ lw_tbl ∧ Cond.selects y.cls y y ∈ lw_tbl ∧ (Cond.methodLink own idx y ∈ lw_tbl ∨ Cond.methodLinkNest own idx y "RunTapes" ∈ lw_tbl)
def MS (own : String) (idx : Nat) (y : MethodName) (bytes : ByteArray) (maxL : Nat) (ret : Option FieldType) (n : Nat) : Prop := MB y bytes maxL ret n ∧ Cond.static y ∈ lw_tbl ∧ Cond.methodLink own idx y ∈ lw_tbl
def CT (l : Launch) (y : MethodName) (cc : ByteArray) (maxL : Nat) (ret : Option FieldType) (rm : Room) (av : List Value) (G : Gl) (E : En) (σ : Sg) (rv : Option Value) (σ' : Sg) : Prop :=
  Met l y [Cond.code y cc maxL ret] rm (va_Pc av (RepS G E σ)) (QC G E rv σ') 0 0 (GA G)
-- pure pieces
def tk {β : Type} (x c : Nat) (k : Option β) : Option β := if x = c then k else none
def dr {β : Type} (r : Option Nat) (E : En) (c : Nat) (f : Nat → Option β) : Option β := match r with
  | some x => tk (cd E x) c (f x)
  | none => none
def ck {β : Type} (i : Int32) (n : Nat) (k : Option β) : Option β := if 0 ≤ i ∧ i.toNatClampNeg < n then k else none
def kb {β : Type} (v : Int32) (k : Option β) : Option β := if v = 0 ∨ v = 1 then k else none
def nz {β : Type} (y : Int32) (k : Option β) : Option β := if y = 0 then none else k
def nzl {β : Type} (y : Int64) (k : Option β) : Option β := if y = 0 then none else k
def bd {α β : Type} (x : Option (α × Sg)) (f : α → Sg → Option β) : Option β := match x with
  | some r => f r.1 r.2
  | none => none
def bv {β : Type} (x : Option Sg) (f : Sg → Option β) : Option β := match x with
  | some r => f r
  | none => none
def acp {β : Type} (E : En) (σ : Sg) (a : Nat) (sp : Int32) (b : Nat) (dp n : Int32) (k : Sg → Option β) : Option β :=
  if (0 ≤ sp ∧ 0 ≤ dp ∧ 0 ≤ n) ∧ sp.toNatClampNeg + n.toNatClampNeg ≤ ln E a ∧ dp.toNatClampNeg + n.toNatClampNeg ≤ ln E b then k (sc σ a b sp.toNatClampNeg dp.toNatClampNeg n.toNatClampNeg) else none
def fx {α β : Type} (F : (α → Option β) → α → Option β) : Nat → α → Option β
  | 0, _ => none
  | n + 1, a => F (fx F n) a
def FU : Nat := 1000000
def im (x y : Int32) : Int32 := x - x / y * y
def iml (x y : Int64) : Int64 := x - x / y * y
def imax (x y : Int32) : Int32 := if x < y then y else x
def imin (x y : Int32) : Int32 := if y < x then y else x
def iu (x y : Int32) : Int32 := (x.toUInt32 >>> (y.toUInt32 &&& Int32.toUInt32 31)).toInt32
theorem R_tk {β : Type} {x c : Nat} {k : Option β} {o : β} {W : Prop} (h : x = c → k = some o → W) : tk x c k = some o → W := by
  unfold tk; split
  · next e => exact h e
  · intro q; cases q
theorem R_dr {β : Type} {r : Option Nat} {E : En} {c : Nat} {f : Nat → Option β} {o : β} {W : Prop} (h : ∀ x, r = some x → cd E x = c → f x = some o → W) : dr r E c f = some o → W := by
  unfold dr; split
  · next x => exact R_tk (h x rfl)
  · intro q; cases q
theorem R_ck {β : Type} {i : Int32} {n : Nat} {k : Option β} {o : β} {W : Prop} (h : vp_in i n → k = some o → W) : ck i n k = some o → W := by
  unfold ck; split
  · next e =>
    refine h (fun q => ?_)
    rcases q with q | q
    · exact absurd e.1 (Int32.not_le.mpr q)
    · omega
  · intro q; cases q
theorem R_kb {β : Type} {v : Int32} {k : Option β} {o : β} {W : Prop} (h : v = 0 ∨ v = 1 → k = some o → W) : kb v k = some o → W := by
  unfold kb; split
  · next e => exact h e
  · intro q; cases q
theorem R_nz {β : Type} {y : Int32} {k : Option β} {o : β} {W : Prop} (h : ¬ y = 0 → k = some o → W) : nz y k = some o → W := by
  unfold nz; split
  · intro q; cases q
  · next e => exact h e
theorem R_nzl {β : Type} {y : Int64} {k : Option β} {o : β} {W : Prop} (h : ¬ y = 0 → k = some o → W) : nzl y k = some o → W := by
  unfold nzl; split
  · intro q; cases q
  · next e => exact h e
theorem R_bd {α β : Type} {X : Option (α × Sg)} {f : α → Sg → Option β} {o : β} {W : Prop} (h : ∀ v σ, X = some (v, σ) → f v σ = some o → W) : bd X f = some o → W := by
  unfold bd; split
  · next r => exact h r.1 r.2 rfl
  · intro q; cases q
theorem R_bv {β : Type} {X : Option Sg} {f : Sg → Option β} {o : β} {W : Prop} (h : ∀ σ, X = some σ → f σ = some o → W) : bv X f = some o → W := by
  unfold bv; split
  · next r => exact h r rfl
  · intro q; cases q
theorem R_acp {β : Type} {E : En} {σ : Sg} {a b : Nat} {sp dp n : Int32} {k : Sg → Option β} {o : β} {W : Prop} (h : ((0 ≤ sp ∧ 0 ≤ dp ∧ 0 ≤ n) ∧ sp.toNatClampNeg + n.toNatClampNeg ≤ ln E a ∧ dp.toNatClampNeg + n.toNatClampNeg ≤ ln E b) → k (sc σ a b sp.toNatClampNeg dp.toNatClampNeg n.toNatClampNeg) = some o → W) : acp E σ a sp b dp n k = some o → W := by
  unfold acp; split
  · next e => exact h e
  · intro q; cases q
theorem R_if {β : Type} {c : Prop} [Decidable c] {A B : Option β} {o : β} {W : Prop} (t : c → A = some o → W) (f : ¬ c → B = some o → W) : (if c then A else B) = some o → W := by
  split
  · next e => exact t e
  · next e => exact f e
theorem R_bdK {α β : Type} {X : Option (α × Sg)} {f : α → Sg → Option β} {o : β} {W : Prop} (VJ : α → Sg → Prop) (K : ∀ v σ, f v σ = some o → VJ v σ) (h : ∀ v σ, VJ v σ → X = some (v, σ) → W) : bd X f = some o → W :=
  R_bd (fun v σ e q => h v σ (K v σ q) e)
theorem R_end {α : Type} {v0 v : α} {σ0 σ : Sg} (VJ : α → Sg → Prop) (K : VJ v σ) : some (v0, σ0) = some (v, σ) → VJ v0 σ0 := by
  intro h; cases h; exact K
theorem R_loop {α γ β : Type} {F : (α → Option (γ × Sg)) → α → Option (γ × Sg)} {n : Nat} {f : γ → Sg → Option β} {o : β} (VH : α → Prop) (VX : γ → Sg → Prop) (a : α) (K : ∀ v σ, f v σ = some o → VX v σ)
    (step : ∀ rec : α → Option (γ × Sg), (∀ a b σ, VX b σ → rec a = some (b, σ) → VH a) → ∀ a b σ, VX b σ → F rec a = some (b, σ) → VH a) : bd (fx F n a) f = some o → VH a := by
  have key : ∀ (n : Nat) (a : α) (b : γ) (σ : Sg), VX b σ → fx F n a = some (b, σ) → VH a := by
    intro n
    induction n with
    | zero => intro a b σ _ h; cases h
    | succ n ih => intro a b σ hb h; exact step (fx F n) ih a b σ hb h
  exact R_bd (fun v σ e q => key n a v σ (K v σ q) e)
end
section
section RW
variable {κ : KT} {G : Gl} {Q : State → Prop} {E : En} {σ : Sg} {ks : Bool × Nat × Nat} {u : Nat × Nat} {cc : ByteArray} {own : String} {nL pc n : Nat} {lv : List (Nat × Value)} {st : List Value} {P : Prop}
theorem tb_warm {s U : State} (h : TbAll s) (hW : s.WarmedH U.vm) : TbAll U := by
  intro w hw h1 a
  have h2 := h w hw h1 #[]
  cases w with
  | fieldLinkNest => exact va_Nw.use rfl (va_Nw.warmF hW h2)
  | methodLinkNest => exact va_Nw.use rfl (va_Nw.warmM hW h2)
  | _ => exact word_at hW (good_of_word h1) h2
theorem tb_hts {s : State} (h : TbAll s) (a : Array Value) : ∀ w ∈ lw_tbl.filter wk, w.before a s = true := fun w hw => h w (List.mem_filter.mp hw).1 (List.mem_filter.mp hw).2 a
theorem ws_at {a : Nat} (h : a < E.1) : (wsOf G E σ)[a]? = some (G.1 + a, el G.1 G.2.2.2.1 E σ a) := by
  simp [wsOf, h]
theorem cd_lt {a c : Nat} (h : cd E a = c) (hc : c < 999) : a < E.1 ∧ (E.2.1 a).1 = c := by
  unfold cd at h
  split at h
  · next q => exact ⟨q, h⟩
  · omega
theorem ws_D : va_D (GA G) (wsOf G E σ) := by
  refine ⟨fun i j p q hi hj e => ?_, fun k q h => ?_⟩
  · simp only [wsOf, List.getElem?_map, Option.map_eq_some_iff] at hi hj
    obtain ⟨a, ha, rfl⟩ := hi
    obtain ⟨b, hb, rfl⟩ := hj
    simp only [List.getElem?_range, List.getElem?_eq_some_iff, List.length_range, List.getElem_range] at ha hb
    obtain ⟨_, rfl⟩ := ha
    obtain ⟨_, rfl⟩ := hb
    simp only [] at e
    omega
  · simp only [wsOf, List.getElem?_map, Option.map_eq_some_iff] at h
    obtain ⟨a, _, rfl⟩ := h
    show G.1 ≤ G.1 + a
    omega
theorem el_o {a c : Nat} (h : cd E a = c) (hc : c < 100) : (wsOf G E σ)[a]? = some (G.1 + a, .inr (c, fvs G.1 E σ c a)) := by
  obtain ⟨h1, h2⟩ := cd_lt h (by omega)
  rw [ws_at h1]
  unfold el
  rw [if_pos (by rw [h2]; exact hc), h2]
theorem el_a {a c : Nat} (h : cd E a = c) (hc : 100 ≤ c) (hc2 : c < 999) : (wsOf G E σ)[a]? = some (G.1 + a, .inl (G.2.2.2.1 (c - 100), ln E a, ars G.1 E σ c a)) := by
  obtain ⟨h1, h2⟩ := cd_lt h hc2
  rw [ws_at h1]
  unfold el ln
  rw [if_neg (by rw [h2]; omega), h2]
theorem fvs_at {c a k : Nat} (hk : k < nf c) : (fvs G.1 E σ c a)[k]? = some (fv G.1 E σ c a k) := by
  simp [fvs, hk]
theorem fvs_len {c a : Nat} : (fvs G.1 E σ c a).length = nf c := by simp [fvs]
/-- two worlds that differ in one cell -/
theorem ws_set {σ' : Sg} {a : Nat} {e : va_E} (ha : a < E.1) (he : el G.1 G.2.2.2.1 E σ' a = e) (ho : ∀ x, x ≠ a → el G.1 G.2.2.2.1 E σ' x = el G.1 G.2.2.2.1 E σ x) : (wsOf G E σ).set a (G.1 + a, e) = wsOf G E σ' := by
  apply List.ext_getElem?
  intro i
  by_cases hi : i = a
  · subst hi
    rw [ws_at ha, List.getElem?_set_self (by simp [wsOf]; exact ha), he]
  · rw [List.getElem?_set_ne (fun q => hi q.symm)]
    simp only [wsOf, List.getElem?_map]
    cases hr : (List.range E.1)[i]? with
    | none => rfl
    | some x =>
      have hx : x = i := by
        rw [List.getElem?_eq_some_iff] at hr
        obtain ⟨_, e⟩ := hr
        rw [List.getElem_range] at e
        exact e.symm
      subst hx
      simp only [Option.map_some]
      rw [ho _ hi]
theorem si_same {a k : Nat} {v : Int32} : (si σ a k v).1 a = upd (σ.1 a) k v := by simp [si]
theorem si_off {a k x : Nat} {v : Int32} (h : x ≠ a) : (si σ a k v).1 x = σ.1 x := by simp [si, h]
theorem si_l {a k : Nat} {v : Int32} : (si σ a k v).2 = σ.2 := rfl
theorem el_off {σ' : Sg} {a x : Nat} (h1 : σ'.1 x = σ.1 x) (h2 : σ'.2 x = σ.2 x) : el G.1 G.2.2.2.1 E σ' x = el G.1 G.2.2.2.1 E σ x := by
  unfold el
  have e1 : fvs G.1 E σ' (E.2.1 x).1 x = fvs G.1 E σ (E.2.1 x).1 x := by
    unfold fvs
    apply List.map_congr_left
    intro k _
    unfold fv gi
    rw [h1]
  have e2 : ars G.1 E σ' (E.2.1 x).1 x = ars G.1 E σ (E.2.1 x).1 x := by
    unfold ars
    rw [h1, h2]
  rw [e1, e2]
theorem ws_put {a k c : Nat} {v : Int32} (h : cd E a = c) (hc : c < 100) (hk : isr (tyc c k) = false) : (wsOf G E σ).set a (G.1 + a, .inr (c, (fvs G.1 E σ c a).set k (.int v))) = wsOf G E (si σ a k v) := by
  obtain ⟨h1, h2⟩ := cd_lt h (by omega)
  refine ws_set h1 ?_ (fun x hx => el_off (a := a) (si_off hx) rfl)
  unfold el
  rw [if_pos (by rw [h2]; exact hc), h2]
  congr 2
  apply List.ext_getElem?
  intro j
  by_cases hj : j = k
  · subst hj
    by_cases hl : j < nf c
    · rw [List.getElem?_set_self (by rw [fvs_len]; exact hl), fvs_at hl]
      simp [fv, hk, gi, si, upd]
    · have e1 : (fvs G.1 E (si σ a j v) c a)[j]? = none := by simp [fvs]; omega
      have e2 : ((fvs G.1 E σ c a).set j (Value.int v))[j]? = none := by simp [fvs]; omega
      rw [e1, e2]
  · rw [List.getElem?_set_ne (fun q => hj q.symm)]
    by_cases hl : j < nf c
    · rw [fvs_at hl, fvs_at hl]
      simp [fv, gi, si, upd, hj]
    · have e1 : (fvs G.1 E (si σ a k v) c a)[j]? = none := by simp [fvs]; omega
      have e2 : (fvs G.1 E σ c a)[j]? = none := by simp [fvs]; omega
      rw [e1, e2]
theorem ws_arr {σ' : Sg} {a c : Nat} (h : cd E a = c) (hc : 100 ≤ c) (hc2 : c < 999) (ho : ∀ x, x ≠ a → σ'.1 x = σ.1 x ∧ σ'.2 x = σ.2 x) : (wsOf G E σ).set a (G.1 + a, .inl (G.2.2.2.1 (c - 100), ln E a, ars G.1 E σ' c a)) = wsOf G E σ' := by
  obtain ⟨h1, h2⟩ := cd_lt h hc2
  refine ws_set h1 ?_ (fun x hx => el_off (a := a) (ho x hx).1 (ho x hx).2)
  unfold el ln
  rw [if_neg (by rw [h2]; omega), h2]

theorem R_iadd (C : Cx κ G cc own nL) {x y : Int32} (d : dk cc pc n .iadd 1)  (k : P → V κ G Q E σ ks n lv (.int (x + y) :: st)) : P → V κ G Q E σ ks pc lv (.int y :: .int x :: st) := by
  obtain ⟨p, l, e, R, s, m, args, below, meth, c⟩ := κ
  obtain ⟨hx, hb, hml, hown, hlk, hK, hT, hZ, hG⟩ := C
  obtain ⟨d, rfl⟩ := d
  intro q H locs ls hz hP hS hl
  exact lv_iadd hx hb d  (k q H locs ls hz hP hS hl)
theorem R_isub (C : Cx κ G cc own nL) {x y : Int32} (d : dk cc pc n .isub 1)  (k : P → V κ G Q E σ ks n lv (.int (x - y) :: st)) : P → V κ G Q E σ ks pc lv (.int y :: .int x :: st) := by
  obtain ⟨p, l, e, R, s, m, args, below, meth, c⟩ := κ
  obtain ⟨hx, hb, hml, hown, hlk, hK, hT, hZ, hG⟩ := C
  obtain ⟨d, rfl⟩ := d
  intro q H locs ls hz hP hS hl
  exact lv_isub hx hb d  (k q H locs ls hz hP hS hl)
theorem R_imul (C : Cx κ G cc own nL) {x y : Int32} (d : dk cc pc n .imul 1)  (k : P → V κ G Q E σ ks n lv (.int (x * y) :: st)) : P → V κ G Q E σ ks pc lv (.int y :: .int x :: st) := by
  obtain ⟨p, l, e, R, s, m, args, below, meth, c⟩ := κ
  obtain ⟨hx, hb, hml, hown, hlk, hK, hT, hZ, hG⟩ := C
  obtain ⟨d, rfl⟩ := d
  intro q H locs ls hz hP hS hl
  exact lv_imul hx hb d  (k q H locs ls hz hP hS hl)
theorem R_iand (C : Cx κ G cc own nL) {x y : Int32} (d : dk cc pc n .iand 1)  (k : P → V κ G Q E σ ks n lv (.int (x &&& y) :: st)) : P → V κ G Q E σ ks pc lv (.int y :: .int x :: st) := by
  obtain ⟨p, l, e, R, s, m, args, below, meth, c⟩ := κ
  obtain ⟨hx, hb, hml, hown, hlk, hK, hT, hZ, hG⟩ := C
  obtain ⟨d, rfl⟩ := d
  intro q H locs ls hz hP hS hl
  exact lv_iand hx hb d  (k q H locs ls hz hP hS hl)
theorem R_ior (C : Cx κ G cc own nL) {x y : Int32} (d : dk cc pc n .ior 1)  (k : P → V κ G Q E σ ks n lv (.int (x ||| y) :: st)) : P → V κ G Q E σ ks pc lv (.int y :: .int x :: st) := by
  obtain ⟨p, l, e, R, s, m, args, below, meth, c⟩ := κ
  obtain ⟨hx, hb, hml, hown, hlk, hK, hT, hZ, hG⟩ := C
  obtain ⟨d, rfl⟩ := d
  intro q H locs ls hz hP hS hl
  exact lv_ior hx hb d  (k q H locs ls hz hP hS hl)
theorem R_idiv (C : Cx κ G cc own nL) {x y : Int32} (d : dk cc pc n .idiv 1) (hne : ¬ y = 0) (k : P → V κ G Q E σ ks n lv (.int (x / y) :: st)) : P → V κ G Q E σ ks pc lv (.int y :: .int x :: st) := by
  obtain ⟨p, l, e, R, s, m, args, below, meth, c⟩ := κ
  obtain ⟨hx, hb, hml, hown, hlk, hK, hT, hZ, hG⟩ := C
  obtain ⟨d, rfl⟩ := d
  intro q H locs ls hz hP hS hl
  exact lv_idiv hx hb d hne (k q H locs ls hz hP hS hl)
theorem R_irem (C : Cx κ G cc own nL) {x y : Int32} (d : dk cc pc n .irem 1) (hne : ¬ y = 0) (k : P → V κ G Q E σ ks n lv (.int (im x y) :: st)) : P → V κ G Q E σ ks pc lv (.int y :: .int x :: st) := by
  obtain ⟨p, l, e, R, s, m, args, below, meth, c⟩ := κ
  obtain ⟨hx, hb, hml, hown, hlk, hK, hT, hZ, hG⟩ := C
  obtain ⟨d, rfl⟩ := d
  intro q H locs ls hz hP hS hl
  exact lv_irem hx hb d hne (k q H locs ls hz hP hS hl)
theorem R_ishl (C : Cx κ G cc own nL) {x y : Int32} (d : dk cc pc n .ishl 1)  (k : P → V κ G Q E σ ks n lv (.int (x <<< (y &&& 31)) :: st)) : P → V κ G Q E σ ks pc lv (.int y :: .int x :: st) := by
  obtain ⟨p, l, e, R, s, m, args, below, meth, c⟩ := κ
  obtain ⟨hx, hb, hml, hown, hlk, hK, hT, hZ, hG⟩ := C
  obtain ⟨d, rfl⟩ := d
  intro q H locs ls hz hP hS hl
  exact lv_ishl hx hb d  (k q H locs ls hz hP hS hl)
theorem R_ishr (C : Cx κ G cc own nL) {x y : Int32} (d : dk cc pc n .ishr 1)  (k : P → V κ G Q E σ ks n lv (.int (x >>> (y &&& 31)) :: st)) : P → V κ G Q E σ ks pc lv (.int y :: .int x :: st) := by
  obtain ⟨p, l, e, R, s, m, args, below, meth, c⟩ := κ
  obtain ⟨hx, hb, hml, hown, hlk, hK, hT, hZ, hG⟩ := C
  obtain ⟨d, rfl⟩ := d
  intro q H locs ls hz hP hS hl
  exact lv_ishr hx hb d  (k q H locs ls hz hP hS hl)
theorem R_ladd (C : Cx κ G cc own nL) {x y : Int64} (d : dk cc pc n .ladd 1)  (k : P → V κ G Q E σ ks n lv (.long (x + y) :: st)) : P → V κ G Q E σ ks pc lv (.long y :: .long x :: st) := by
  obtain ⟨p, l, e, R, s, m, args, below, meth, c⟩ := κ
  obtain ⟨hx, hb, hml, hown, hlk, hK, hT, hZ, hG⟩ := C
  obtain ⟨d, rfl⟩ := d
  intro q H locs ls hz hP hS hl
  exact lv_ladd hx hb d  (k q H locs ls hz hP hS hl)
theorem R_lmul (C : Cx κ G cc own nL) {x y : Int64} (d : dk cc pc n .lmul 1)  (k : P → V κ G Q E σ ks n lv (.long (x * y) :: st)) : P → V κ G Q E σ ks pc lv (.long y :: .long x :: st) := by
  obtain ⟨p, l, e, R, s, m, args, below, meth, c⟩ := κ
  obtain ⟨hx, hb, hml, hown, hlk, hK, hT, hZ, hG⟩ := C
  obtain ⟨d, rfl⟩ := d
  intro q H locs ls hz hP hS hl
  exact lv_lmul hx hb d  (k q H locs ls hz hP hS hl)
theorem R_land (C : Cx κ G cc own nL) {x y : Int64} (d : dk cc pc n .land 1)  (k : P → V κ G Q E σ ks n lv (.long (x &&& y) :: st)) : P → V κ G Q E σ ks pc lv (.long y :: .long x :: st) := by
  obtain ⟨p, l, e, R, s, m, args, below, meth, c⟩ := κ
  obtain ⟨hx, hb, hml, hown, hlk, hK, hT, hZ, hG⟩ := C
  obtain ⟨d, rfl⟩ := d
  intro q H locs ls hz hP hS hl
  exact lv_land hx hb d  (k q H locs ls hz hP hS hl)
theorem R_lrem (C : Cx κ G cc own nL) {x y : Int64} (d : dk cc pc n .lrem 1) (hne : ¬ y = 0) (k : P → V κ G Q E σ ks n lv (.long (iml x y) :: st)) : P → V κ G Q E σ ks pc lv (.long y :: .long x :: st) := by
  obtain ⟨p, l, e, R, s, m, args, below, meth, c⟩ := κ
  obtain ⟨hx, hb, hml, hown, hlk, hK, hT, hZ, hG⟩ := C
  obtain ⟨d, rfl⟩ := d
  intro q H locs ls hz hP hS hl
  exact lv_lrem hx hb d hne (k q H locs ls hz hP hS hl)
theorem R_iushr (C : Cx κ G cc own nL) {x y : Int32} (d : dk cc pc n .iushr 1) (k : P → V κ G Q E σ ks n lv (.int (iu x y) :: st)) : P → V κ G Q E σ ks pc lv (.int y :: .int x :: st) := by
  obtain ⟨p, l, e, R, s, m, args, below, meth, c⟩ := κ
  obtain ⟨hx, hb, hml, hown, hlk, hK, hT, hZ, hG⟩ := C
  obtain ⟨d, rfl⟩ := d
  intro q H locs ls hz hP hS hl
  exact lv_iushr hx hb d rfl (k q H locs ls hz hP hS hl)
theorem R_i2l (C : Cx κ G cc own nL) {x : Int32} (d : dk cc pc n .i2l 1) (k : P → V κ G Q E σ ks n lv (.long x.toInt64 :: st)) : P → V κ G Q E σ ks pc lv (.int x :: st) := by
  obtain ⟨p, l, e, R, s, m, args, below, meth, c⟩ := κ
  obtain ⟨hx, hb, hml, hown, hlk, hK, hT, hZ, hG⟩ := C
  obtain ⟨d, rfl⟩ := d
  intro q H locs ls hz hP hS hl
  exact lv_i2l hx hb d rfl (k q H locs ls hz hP hS hl)
theorem R_l2i (C : Cx κ G cc own nL) {x : Int64} (d : dk cc pc n .l2i 1) (k : P → V κ G Q E σ ks n lv (.int x.toInt32 :: st)) : P → V κ G Q E σ ks pc lv (.long x :: st) := by
  obtain ⟨p, l, e, R, s, m, args, below, meth, c⟩ := κ
  obtain ⟨hx, hb, hml, hown, hlk, hK, hT, hZ, hG⟩ := C
  obtain ⟨d, rfl⟩ := d
  intro q H locs ls hz hP hS hl
  exact lv_l2i hx hb d rfl (k q H locs ls hz hP hS hl)
theorem R_i2b (C : Cx κ G cc own nL) {x : Int32} (d : dk cc pc n .i2b 1) (k : P → V κ G Q E σ ks n lv (.int x.toInt8.toInt32 :: st)) : P → V κ G Q E σ ks pc lv (.int x :: st) := by
  obtain ⟨p, l, e, R, s, m, args, below, meth, c⟩ := κ
  obtain ⟨hx, hb, hml, hown, hlk, hK, hT, hZ, hG⟩ := C
  obtain ⟨d, rfl⟩ := d
  intro q H locs ls hz hP hS hl
  exact lv_i2b hx hb d rfl (k q H locs ls hz hP hS hl)
theorem R_lcmp (C : Cx κ G cc own nL) {x y : Int64} (d : dk cc pc n .lcmp 1) (k : P → V κ G Q E σ ks n lv (.int (lg_cmp x y) :: st)) : P → V κ G Q E σ ks pc lv (.long y :: .long x :: st) := by
  obtain ⟨p, l, e, R, s, m, args, below, meth, c⟩ := κ
  obtain ⟨hx, hb, hml, hown, hlk, hK, hT, hZ, hG⟩ := C
  obtain ⟨d, rfl⟩ := d
  intro q H locs ls hz hP hS hl
  exact W.lcmp hx hb d (k q H locs ls hz hP hS hl)
theorem R_iconst (C : Cx κ G cc own nL) {i : Int} (v : Int32) (d : dk cc pc n (.iconst i) 1) (hv : Int32.ofInt i = v) (k : P → V κ G Q E σ ks n lv (.int v :: st)) : P → V κ G Q E σ ks pc lv st := by
  obtain ⟨p, l, e, R, s, m, args, below, meth, c⟩ := κ
  obtain ⟨hx, hb, hml, hown, hlk, hK, hT, hZ, hG⟩ := C
  obtain ⟨d, rfl⟩ := d
  intro q H locs ls hz hP hS hl
  exact lv_iconst hx hb d hv (k q H locs ls hz hP hS hl)
theorem R_bipush (C : Cx κ G cc own nL) {i : Int} (v : Int32) (d : dk cc pc n (.bipush i) 2) (hv : (Int8.ofInt i).toInt32 = v) (k : P → V κ G Q E σ ks n lv (.int v :: st)) : P → V κ G Q E σ ks pc lv st := by
  obtain ⟨p, l, e, R, s, m, args, below, meth, c⟩ := κ
  obtain ⟨hx, hb, hml, hown, hlk, hK, hT, hZ, hG⟩ := C
  obtain ⟨d, rfl⟩ := d
  intro q H locs ls hz hP hS hl
  exact lv_bipush hx hb d hv (k q H locs ls hz hP hS hl)
theorem R_sipush (C : Cx κ G cc own nL) {i : Int} (v : Int32) (d : dk cc pc n (.sipush i) 3) (hv : (Int16.ofInt i).toInt32 = v) (k : P → V κ G Q E σ ks n lv (.int v :: st)) : P → V κ G Q E σ ks pc lv st := by
  obtain ⟨p, l, e, R, s, m, args, below, meth, c⟩ := κ
  obtain ⟨hx, hb, hml, hown, hlk, hK, hT, hZ, hG⟩ := C
  obtain ⟨d, rfl⟩ := d
  intro q H locs ls hz hP hS hl
  exact lv_sipush hx hb d hv (k q H locs ls hz hP hS hl)
theorem R_lconst (C : Cx κ G cc own nL) {i : Fin 2} (v : Int64) (d : dk cc pc n (.lconst i) 1) (hv : Int64.ofNat (i : Nat) = v) (k : P → V κ G Q E σ ks n lv (.long v :: st)) : P → V κ G Q E σ ks pc lv st := by
  obtain ⟨p, l, e, R, s, m, args, below, meth, c⟩ := κ
  obtain ⟨hx, hb, hml, hown, hlk, hK, hT, hZ, hG⟩ := C
  obtain ⟨d, rfl⟩ := d
  intro q H locs ls hz hP hS hl
  exact lv_lconst hx hb d hv (k q H locs ls hz hP hS hl)
theorem R_ldc (C : Cx κ G cc own nL) {i : Nat} {v : Int32} (hw : Cond.constant own i v ∈ lw_tbl) (d : dk cc pc n (.ldc i) 2) (k : P → V κ G Q E σ ks n lv (.int v :: st)) : P → V κ G Q E σ ks pc lv st := by
  obtain ⟨p, l, e, R, s, m, args, below, meth, c⟩ := κ
  obtain ⟨hx, hb, hml, hown, hlk, hK, hT, hZ, hG⟩ := C
  obtain ⟨d, rfl⟩ := d
  intro q H locs ls hz hP hS hl
  exact lv_ldc hx hb hown (hT _ hw rfl _) d (k q H locs ls hz hP hS hl)
theorem R_ldcw (C : Cx κ G cc own nL) {i : Nat} {v : Int32} (hw : Cond.constant own i v ∈ lw_tbl) (d : dk cc pc n (.ldc_w i) 3) (k : P → V κ G Q E σ ks n lv (.int v :: st)) : P → V κ G Q E σ ks pc lv st := by
  obtain ⟨p, l, e, R, s, m, args, below, meth, c⟩ := κ
  obtain ⟨hx, hb, hml, hown, hlk, hK, hT, hZ, hG⟩ := C
  obtain ⟨d, rfl⟩ := d
  intro q H locs ls hz hP hS hl
  exact lv_ldcw hx hb hown (hT _ hw rfl _) d (k q H locs ls hz hP hS hl)
theorem R_ldc2 (C : Cx κ G cc own nL) {i : Nat} {v : Int64} (hw : Cond.constantLong own i v ∈ lw_tbl) (d : dk cc pc n (.ldc2_w i) 3) (k : P → V κ G Q E σ ks n lv (.long v :: st)) : P → V κ G Q E σ ks pc lv st := by
  obtain ⟨p, l, e, R, s, m, args, below, meth, c⟩ := κ
  obtain ⟨hx, hb, hml, hown, hlk, hK, hT, hZ, hG⟩ := C
  obtain ⟨d, rfl⟩ := d
  intro q H locs ls hz hP hS hl
  exact lv_ldc2 hx hb hown (hT _ hw rfl _) d (k q H locs ls hz hP hS hl)
theorem R_iload_n (C : Cx κ G cc own nL) {j : Fin 4} {x : Int32} (z : Nat) (hk : lv[z]? = some ((j : Nat), .int x)) (d : dk cc pc n (.iload_n j) 1) (k : P → V κ G Q E σ ks n lv (.int x :: st)) : P → V κ G Q E σ ks pc lv st := by
  obtain ⟨p, l, e, R, s, m, args, below, meth, c⟩ := κ
  obtain ⟨hx, hb, hml, hown, hlk, hK, hT, hZ, hG⟩ := C
  obtain ⟨d, rfl⟩ := d
  intro q H locs ls hz hP hS hl
  exact lv_iload_n hx hb d rfl (lv_at hl z hk) (k q H locs ls hz hP hS hl)
theorem R_iload (C : Cx κ G cc own nL) {i : Nat} {x : Int32} (z : Nat) (hk : lv[z]? = some (i, .int x)) (d : dk cc pc n (.iload i) 2) (k : P → V κ G Q E σ ks n lv (.int x :: st)) : P → V κ G Q E σ ks pc lv st := by
  obtain ⟨p, l, e, R, s, m, args, below, meth, c⟩ := κ
  obtain ⟨hx, hb, hml, hown, hlk, hK, hT, hZ, hG⟩ := C
  obtain ⟨d, rfl⟩ := d
  intro q H locs ls hz hP hS hl
  exact lv_iload hx hb d (lv_at hl z hk) (k q H locs ls hz hP hS hl)
theorem R_lload_n (C : Cx κ G cc own nL) {j : Fin 4} {x : Int64} (z : Nat) (hk : lv[z]? = some ((j : Nat), .long x)) (d : dk cc pc n (.lload_n j) 1) (k : P → V κ G Q E σ ks n lv (.long x :: st)) : P → V κ G Q E σ ks pc lv st := by
  obtain ⟨p, l, e, R, s, m, args, below, meth, c⟩ := κ
  obtain ⟨hx, hb, hml, hown, hlk, hK, hT, hZ, hG⟩ := C
  obtain ⟨d, rfl⟩ := d
  intro q H locs ls hz hP hS hl
  exact lv_lload_n hx hb d rfl (lv_at hl z hk) (k q H locs ls hz hP hS hl)
theorem R_lload (C : Cx κ G cc own nL) {i : Nat} {x : Int64} (z : Nat) (hk : lv[z]? = some (i, .long x)) (d : dk cc pc n (.lload i) 2) (k : P → V κ G Q E σ ks n lv (.long x :: st)) : P → V κ G Q E σ ks pc lv st := by
  obtain ⟨p, l, e, R, s, m, args, below, meth, c⟩ := κ
  obtain ⟨hx, hb, hml, hown, hlk, hK, hT, hZ, hG⟩ := C
  obtain ⟨d, rfl⟩ := d
  intro q H locs ls hz hP hS hl
  exact lv_lload hx hb d (lv_at hl z hk) (k q H locs ls hz hP hS hl)
theorem R_aload_n (C : Cx κ G cc own nL) {j : Fin 4} {x : Nat} (z : Nat) (hk : lv[z]? = some ((j : Nat), .ref x)) (d : dk cc pc n (.aload_n j) 1) (k : P → V κ G Q E σ ks n lv (.ref x :: st)) : P → V κ G Q E σ ks pc lv st := by
  obtain ⟨p, l, e, R, s, m, args, below, meth, c⟩ := κ
  obtain ⟨hx, hb, hml, hown, hlk, hK, hT, hZ, hG⟩ := C
  obtain ⟨d, rfl⟩ := d
  intro q H locs ls hz hP hS hl
  exact lv_aload_n hx hb d rfl (lv_at hl z hk) (k q H locs ls hz hP hS hl)
theorem R_aload (C : Cx κ G cc own nL) {i : Nat} {x : Nat} (z : Nat) (hk : lv[z]? = some (i, .ref x)) (d : dk cc pc n (.aload i) 2) (k : P → V κ G Q E σ ks n lv (.ref x :: st)) : P → V κ G Q E σ ks pc lv st := by
  obtain ⟨p, l, e, R, s, m, args, below, meth, c⟩ := κ
  obtain ⟨hx, hb, hml, hown, hlk, hK, hT, hZ, hG⟩ := C
  obtain ⟨d, rfl⟩ := d
  intro q H locs ls hz hP hS hl
  exact lv_aload hx hb d (lv_at hl z hk) (k q H locs ls hz hP hS hl)
theorem R_istore_n (C : Cx κ G cc own nL) {j : Fin 4} {i : Nat} {x : Int32} {lv2 : List (Nat × Value)} (d : dk cc pc n (.istore_n j) 1) (hi : (j : Nat) = i) (hn : i < nL) (hv : (i, Value.int x) :: lv.filter (fun q => !(q.1 == i) && !(q.1 + 1 == i && q.2.category == 2)) = lv2) (k : P → V κ G Q E σ ks n lv2 st) : P → V κ G Q E σ ks pc lv (.int x :: st) := by
  obtain ⟨p, l, e, R, s, m, args, below, meth, c⟩ := κ
  obtain ⟨hx, hb, hml, hown, hlk, hK, hT, hZ, hG⟩ := C
  obtain ⟨d, rfl⟩ := d
  intro q H locs ls hz hP hS hl
  exact lv_istore_n hx hb d hi hl (by rw [hml]; exact hn) hv (fun ls2 hl2 => k q H locs ls2 hz hP hS hl2)
theorem R_istore (C : Cx κ G cc own nL) {i : Nat} {x : Int32} {lv2 : List (Nat × Value)} (d : dk cc pc n (.istore i) 2) (hn : i < nL) (hv : (i, Value.int x) :: lv.filter (fun q => !(q.1 == i) && !(q.1 + 1 == i && q.2.category == 2)) = lv2) (k : P → V κ G Q E σ ks n lv2 st) : P → V κ G Q E σ ks pc lv (.int x :: st) := by
  obtain ⟨p, l, e, R, s, m, args, below, meth, c⟩ := κ
  obtain ⟨hx, hb, hml, hown, hlk, hK, hT, hZ, hG⟩ := C
  obtain ⟨d, rfl⟩ := d
  intro q H locs ls hz hP hS hl
  exact lv_istore hx hb d hl (by rw [hml]; exact hn) hv (fun ls2 hl2 => k q H locs ls2 hz hP hS hl2)
theorem R_lstore_n (C : Cx κ G cc own nL) {j : Fin 4} {i : Nat} {x : Int64} {lv2 : List (Nat × Value)} (d : dk cc pc n (.lstore_n j) 1) (hi : (j : Nat) = i) (hn : i + 1 < nL) (hv : (i, Value.long x) :: lv.filter (fun q => !(q.1 == i) && (!(q.1 == i + 1) && !(q.1 + 1 == i && q.2.category == 2))) = lv2) (k : P → V κ G Q E σ ks n lv2 st) : P → V κ G Q E σ ks pc lv (.long x :: st) := by
  obtain ⟨p, l, e, R, s, m, args, below, meth, c⟩ := κ
  obtain ⟨hx, hb, hml, hown, hlk, hK, hT, hZ, hG⟩ := C
  obtain ⟨d, rfl⟩ := d
  intro q H locs ls hz hP hS hl
  exact lv_lstore_n hx hb d hi hl (by rw [hml]; exact hn) hv (fun ls2 hl2 => k q H locs ls2 hz hP hS hl2)
theorem R_lstore (C : Cx κ G cc own nL) {i : Nat} {x : Int64} {lv2 : List (Nat × Value)} (d : dk cc pc n (.lstore i) 2) (hn : i + 1 < nL) (hv : (i, Value.long x) :: lv.filter (fun q => !(q.1 == i) && (!(q.1 == i + 1) && !(q.1 + 1 == i && q.2.category == 2))) = lv2) (k : P → V κ G Q E σ ks n lv2 st) : P → V κ G Q E σ ks pc lv (.long x :: st) := by
  obtain ⟨p, l, e, R, s, m, args, below, meth, c⟩ := κ
  obtain ⟨hx, hb, hml, hown, hlk, hK, hT, hZ, hG⟩ := C
  obtain ⟨d, rfl⟩ := d
  intro q H locs ls hz hP hS hl
  exact lv_lstore hx hb d hl (by rw [hml]; exact hn) hv (fun ls2 hl2 => k q H locs ls2 hz hP hS hl2)
theorem R_astore_n (C : Cx κ G cc own nL) {j : Fin 4} {i : Nat} {x : Nat} {lv2 : List (Nat × Value)} (d : dk cc pc n (.astore_n j) 1) (hi : (j : Nat) = i) (hn : i < nL) (hv : (i, Value.ref x) :: lv.filter (fun q => !(q.1 == i) && !(q.1 + 1 == i && q.2.category == 2)) = lv2) (k : P → V κ G Q E σ ks n lv2 st) : P → V κ G Q E σ ks pc lv (.ref x :: st) := by
  obtain ⟨p, l, e, R, s, m, args, below, meth, c⟩ := κ
  obtain ⟨hx, hb, hml, hown, hlk, hK, hT, hZ, hG⟩ := C
  obtain ⟨d, rfl⟩ := d
  intro q H locs ls hz hP hS hl
  exact lv_astore_n hx hb d hi hl (by rw [hml]; exact hn) hv (fun ls2 hl2 => k q H locs ls2 hz hP hS hl2)
theorem R_astore (C : Cx κ G cc own nL) {i : Nat} {x : Nat} {lv2 : List (Nat × Value)} (d : dk cc pc n (.astore i) 2) (hn : i < nL) (hv : (i, Value.ref x) :: lv.filter (fun q => !(q.1 == i) && !(q.1 + 1 == i && q.2.category == 2)) = lv2) (k : P → V κ G Q E σ ks n lv2 st) : P → V κ G Q E σ ks pc lv (.ref x :: st) := by
  obtain ⟨p, l, e, R, s, m, args, below, meth, c⟩ := κ
  obtain ⟨hx, hb, hml, hown, hlk, hK, hT, hZ, hG⟩ := C
  obtain ⟨d, rfl⟩ := d
  intro q H locs ls hz hP hS hl
  exact lv_astore hx hb d hl (by rw [hml]; exact hn) hv (fun ls2 hl2 => k q H locs ls2 hz hP hS hl2)
theorem R_iinc (C : Cx κ G cc own nL) {i : Nat} {j : Int} {x v : Int32} {lv2 : List (Nat × Value)} (z : Nat) (d : dk cc pc n (.iinc i j) 3) (hk : lv[z]? = some (i, .int x)) (hj : Int32.ofInt j = v) (hn : i < nL) (hv : (i, Value.int (x + v)) :: lv.filter (fun q => !(q.1 == i) && !(q.1 + 1 == i && q.2.category == 2)) = lv2) (k : P → V κ G Q E σ ks n lv2 st) : P → V κ G Q E σ ks pc lv st := by
  obtain ⟨p, l, e, R, s, m, args, below, meth, c⟩ := κ
  obtain ⟨hx, hb, hml, hown, hlk, hK, hT, hZ, hG⟩ := C
  obtain ⟨d, rfl⟩ := d
  intro q H locs ls hz hP hS hl
  exact lv_iinc hx hb d hl hk (by rw [hj]) (by rw [hml]; exact hn) hv (fun ls2 hl2 => k q H locs ls2 hz hP hS hl2)
theorem R_dup (C : Cx κ G cc own nL) {v : Value} (d : dk cc pc n .dup 1) (hc : v.category = 1) (k : P → V κ G Q E σ ks n lv (v :: v :: st)) : P → V κ G Q E σ ks pc lv (v :: st) := by
  obtain ⟨p, l, e, R, s, m, args, below, meth, c⟩ := κ
  obtain ⟨hx, hb, hml, hown, hlk, hK, hT, hZ, hG⟩ := C
  obtain ⟨d, rfl⟩ := d
  intro q H locs ls hz hP hS hl
  exact lv_dup hx hb d hc (k q H locs ls hz hP hS hl)
theorem R_pop (C : Cx κ G cc own nL) {v : Value} (d : dk cc pc n .pop 1) (hc : v.category = 1) (k : P → V κ G Q E σ ks n lv st) : P → V κ G Q E σ ks pc lv (v :: st) := by
  obtain ⟨p, l, e, R, s, m, args, below, meth, c⟩ := κ
  obtain ⟨hx, hb, hml, hown, hlk, hK, hT, hZ, hG⟩ := C
  obtain ⟨d, rfl⟩ := d
  intro q H locs ls hz hP hS hl
  exact lv_pop hx hb d hc (k q H locs ls hz hP hS hl)
theorem R_dup2 (C : Cx κ G cc own nL) {v u : Value} (d : dk cc pc n .dup2 1) (hc : v.category = 1) (hc2 : u.category = 1) (k : P → V κ G Q E σ ks n lv (v :: u :: v :: u :: st)) : P → V κ G Q E σ ks pc lv (v :: u :: st) := by
  obtain ⟨p, l, e, R, s, m, args, below, meth, c⟩ := κ
  obtain ⟨hx, hb, hml, hown, hlk, hK, hT, hZ, hG⟩ := C
  obtain ⟨d, rfl⟩ := d
  intro q H locs ls hz hP hS hl
  exact lv_dup2_11 hx hb d hc hc2 (k q H locs ls hz hP hS hl)
theorem R_loc {lv2 : List (Nat × Value)} (z : List Nat) (h : lv_pick lv z = lv2) (k : P → V κ G Q E σ ks pc lv2 st) : P → V κ G Q E σ ks pc lv st := by
  intro q H locs ls hz hP hS hl
  exact k q H locs ls hz hP hS (lv_sub hl z h)
theorem R_goto {t : Nat} {off : Int} (C : Cx κ G cc own nL) (d : bk cc pc n t (.goto off) off) (k : P → V κ G Q E σ ks t lv st) : P → V κ G Q E σ ks pc lv st := by
  obtain ⟨p, l, e, R, s, m, args, below, meth, c⟩ := κ
  obtain ⟨hx, hb, hml, hown, hlk, hK, hT, hZ, hG⟩ := C
  obtain ⟨d, rfl, ht⟩ := d
  intro q H locs ls hz hP hS hl
  exact lv_goto hx hb d ht (k q H locs ls hz hP hS hl)
theorem R_if_eq {t : Nat} {off : Int} {x : Int32} (C : Cx κ G cc own nL) (d : bk cc pc n t (.ifCond .eq off) off) (kt : x = 0 → P → V κ G Q E σ ks t lv st) (kf : ¬ x = 0 → P → V κ G Q E σ ks n lv st) : P → V κ G Q E σ ks pc lv (.int x :: st) := by
  obtain ⟨p, l, e, R, s, m, args, below, meth, c⟩ := κ
  obtain ⟨hx, hb, hml, hown, hlk, hK, hT, hZ, hG⟩ := C
  obtain ⟨d, rfl, ht⟩ := d
  intro q H locs ls hz hP hS hl
  exact lv_if_eq hx hb d ht (fun z => kt z q H locs ls hz hP hS hl) (fun z => kf z q H locs ls hz hP hS hl)
theorem B_if_eq {t : Nat} {off : Int} {x : Int32} {β : Type} {A B : Option β} {o : β} (C : Cx κ G cc own nL) (d : bk cc pc n t (.ifCond .eq off) off) (kt : A = some o → V κ G Q E σ ks t lv st) (kf : B = some o → V κ G Q E σ ks n lv st) : (if x = 0 then A else B) = some o → V κ G Q E σ ks pc lv (.int x :: st) :=
  R_if_eq C d (fun z h => kt (by rw [if_pos z] at h; exact h)) (fun z h => kf (by rw [if_neg (by simpa using z)] at h; exact h))
theorem R_icmp_eq {t : Nat} {off : Int} {x y : Int32} (C : Cx κ G cc own nL) (d : bk cc pc n t (.if_icmp .eq off) off) (kt : x = y → P → V κ G Q E σ ks t lv st) (kf : ¬ x = y → P → V κ G Q E σ ks n lv st) : P → V κ G Q E σ ks pc lv (.int y :: .int x :: st) := by
  obtain ⟨p, l, e, R, s, m, args, below, meth, c⟩ := κ
  obtain ⟨hx, hb, hml, hown, hlk, hK, hT, hZ, hG⟩ := C
  obtain ⟨d, rfl, ht⟩ := d
  intro q H locs ls hz hP hS hl
  exact lv_icmp_eq hx hb d ht (fun z => kt z q H locs ls hz hP hS hl) (fun z => kf z q H locs ls hz hP hS hl)
theorem B_icmp_eq {t : Nat} {off : Int} {x y : Int32} {β : Type} {A B : Option β} {o : β} (C : Cx κ G cc own nL) (d : bk cc pc n t (.if_icmp .eq off) off) (kt : A = some o → V κ G Q E σ ks t lv st) (kf : B = some o → V κ G Q E σ ks n lv st) : (if x = y then A else B) = some o → V κ G Q E σ ks pc lv (.int y :: .int x :: st) :=
  R_icmp_eq C d (fun z h => kt (by rw [if_pos z] at h; exact h)) (fun z h => kf (by rw [if_neg (by simpa using z)] at h; exact h))
theorem R_if_ne {t : Nat} {off : Int} {x : Int32} (C : Cx κ G cc own nL) (d : bk cc pc n t (.ifCond .ne off) off) (kt : ¬ x = 0 → P → V κ G Q E σ ks t lv st) (kf : x = 0 → P → V κ G Q E σ ks n lv st) : P → V κ G Q E σ ks pc lv (.int x :: st) := by
  obtain ⟨p, l, e, R, s, m, args, below, meth, c⟩ := κ
  obtain ⟨hx, hb, hml, hown, hlk, hK, hT, hZ, hG⟩ := C
  obtain ⟨d, rfl, ht⟩ := d
  intro q H locs ls hz hP hS hl
  exact lv_if_ne hx hb d ht (fun z => kt z q H locs ls hz hP hS hl) (fun z => kf z q H locs ls hz hP hS hl)
theorem B_if_ne {t : Nat} {off : Int} {x : Int32} {β : Type} {A B : Option β} {o : β} (C : Cx κ G cc own nL) (d : bk cc pc n t (.ifCond .ne off) off) (kt : A = some o → V κ G Q E σ ks t lv st) (kf : B = some o → V κ G Q E σ ks n lv st) : (if ¬ x = 0 then A else B) = some o → V κ G Q E σ ks pc lv (.int x :: st) :=
  R_if_ne C d (fun z h => kt (by rw [if_pos z] at h; exact h)) (fun z h => kf (by rw [if_neg (by simpa using z)] at h; exact h))
theorem R_icmp_ne {t : Nat} {off : Int} {x y : Int32} (C : Cx κ G cc own nL) (d : bk cc pc n t (.if_icmp .ne off) off) (kt : ¬ x = y → P → V κ G Q E σ ks t lv st) (kf : x = y → P → V κ G Q E σ ks n lv st) : P → V κ G Q E σ ks pc lv (.int y :: .int x :: st) := by
  obtain ⟨p, l, e, R, s, m, args, below, meth, c⟩ := κ
  obtain ⟨hx, hb, hml, hown, hlk, hK, hT, hZ, hG⟩ := C
  obtain ⟨d, rfl, ht⟩ := d
  intro q H locs ls hz hP hS hl
  exact lv_icmp_ne hx hb d ht (fun z => kt z q H locs ls hz hP hS hl) (fun z => kf z q H locs ls hz hP hS hl)
theorem B_icmp_ne {t : Nat} {off : Int} {x y : Int32} {β : Type} {A B : Option β} {o : β} (C : Cx κ G cc own nL) (d : bk cc pc n t (.if_icmp .ne off) off) (kt : A = some o → V κ G Q E σ ks t lv st) (kf : B = some o → V κ G Q E σ ks n lv st) : (if ¬ x = y then A else B) = some o → V κ G Q E σ ks pc lv (.int y :: .int x :: st) :=
  R_icmp_ne C d (fun z h => kt (by rw [if_pos z] at h; exact h)) (fun z h => kf (by rw [if_neg (by simpa using z)] at h; exact h))
theorem R_if_lt {t : Nat} {off : Int} {x : Int32} (C : Cx κ G cc own nL) (d : bk cc pc n t (.ifCond .lt off) off) (kt : x < 0 → P → V κ G Q E σ ks t lv st) (kf : ¬ x < 0 → P → V κ G Q E σ ks n lv st) : P → V κ G Q E σ ks pc lv (.int x :: st) := by
  obtain ⟨p, l, e, R, s, m, args, below, meth, c⟩ := κ
  obtain ⟨hx, hb, hml, hown, hlk, hK, hT, hZ, hG⟩ := C
  obtain ⟨d, rfl, ht⟩ := d
  intro q H locs ls hz hP hS hl
  exact lv_if_lt hx hb d ht (fun z => kt z q H locs ls hz hP hS hl) (fun z => kf z q H locs ls hz hP hS hl)
theorem B_if_lt {t : Nat} {off : Int} {x : Int32} {β : Type} {A B : Option β} {o : β} (C : Cx κ G cc own nL) (d : bk cc pc n t (.ifCond .lt off) off) (kt : A = some o → V κ G Q E σ ks t lv st) (kf : B = some o → V κ G Q E σ ks n lv st) : (if x < 0 then A else B) = some o → V κ G Q E σ ks pc lv (.int x :: st) :=
  R_if_lt C d (fun z h => kt (by rw [if_pos z] at h; exact h)) (fun z h => kf (by rw [if_neg (by simpa using z)] at h; exact h))
theorem R_icmp_lt {t : Nat} {off : Int} {x y : Int32} (C : Cx κ G cc own nL) (d : bk cc pc n t (.if_icmp .lt off) off) (kt : x < y → P → V κ G Q E σ ks t lv st) (kf : ¬ x < y → P → V κ G Q E σ ks n lv st) : P → V κ G Q E σ ks pc lv (.int y :: .int x :: st) := by
  obtain ⟨p, l, e, R, s, m, args, below, meth, c⟩ := κ
  obtain ⟨hx, hb, hml, hown, hlk, hK, hT, hZ, hG⟩ := C
  obtain ⟨d, rfl, ht⟩ := d
  intro q H locs ls hz hP hS hl
  exact lv_icmp_lt hx hb d ht (fun z => kt z q H locs ls hz hP hS hl) (fun z => kf z q H locs ls hz hP hS hl)
theorem B_icmp_lt {t : Nat} {off : Int} {x y : Int32} {β : Type} {A B : Option β} {o : β} (C : Cx κ G cc own nL) (d : bk cc pc n t (.if_icmp .lt off) off) (kt : A = some o → V κ G Q E σ ks t lv st) (kf : B = some o → V κ G Q E σ ks n lv st) : (if x < y then A else B) = some o → V κ G Q E σ ks pc lv (.int y :: .int x :: st) :=
  R_icmp_lt C d (fun z h => kt (by rw [if_pos z] at h; exact h)) (fun z h => kf (by rw [if_neg (by simpa using z)] at h; exact h))
theorem R_if_ge {t : Nat} {off : Int} {x : Int32} (C : Cx κ G cc own nL) (d : bk cc pc n t (.ifCond .ge off) off) (kt : 0 ≤ x → P → V κ G Q E σ ks t lv st) (kf : ¬ 0 ≤ x → P → V κ G Q E σ ks n lv st) : P → V κ G Q E σ ks pc lv (.int x :: st) := by
  obtain ⟨p, l, e, R, s, m, args, below, meth, c⟩ := κ
  obtain ⟨hx, hb, hml, hown, hlk, hK, hT, hZ, hG⟩ := C
  obtain ⟨d, rfl, ht⟩ := d
  intro q H locs ls hz hP hS hl
  exact lv_if_ge hx hb d ht (fun z => kt z q H locs ls hz hP hS hl) (fun z => kf z q H locs ls hz hP hS hl)
theorem B_if_ge {t : Nat} {off : Int} {x : Int32} {β : Type} {A B : Option β} {o : β} (C : Cx κ G cc own nL) (d : bk cc pc n t (.ifCond .ge off) off) (kt : A = some o → V κ G Q E σ ks t lv st) (kf : B = some o → V κ G Q E σ ks n lv st) : (if 0 ≤ x then A else B) = some o → V κ G Q E σ ks pc lv (.int x :: st) :=
  R_if_ge C d (fun z h => kt (by rw [if_pos z] at h; exact h)) (fun z h => kf (by rw [if_neg (by simpa using z)] at h; exact h))
theorem R_icmp_ge {t : Nat} {off : Int} {x y : Int32} (C : Cx κ G cc own nL) (d : bk cc pc n t (.if_icmp .ge off) off) (kt : y ≤ x → P → V κ G Q E σ ks t lv st) (kf : ¬ y ≤ x → P → V κ G Q E σ ks n lv st) : P → V κ G Q E σ ks pc lv (.int y :: .int x :: st) := by
  obtain ⟨p, l, e, R, s, m, args, below, meth, c⟩ := κ
  obtain ⟨hx, hb, hml, hown, hlk, hK, hT, hZ, hG⟩ := C
  obtain ⟨d, rfl, ht⟩ := d
  intro q H locs ls hz hP hS hl
  exact lv_icmp_ge hx hb d ht (fun z => kt z q H locs ls hz hP hS hl) (fun z => kf z q H locs ls hz hP hS hl)
theorem B_icmp_ge {t : Nat} {off : Int} {x y : Int32} {β : Type} {A B : Option β} {o : β} (C : Cx κ G cc own nL) (d : bk cc pc n t (.if_icmp .ge off) off) (kt : A = some o → V κ G Q E σ ks t lv st) (kf : B = some o → V κ G Q E σ ks n lv st) : (if y ≤ x then A else B) = some o → V κ G Q E σ ks pc lv (.int y :: .int x :: st) :=
  R_icmp_ge C d (fun z h => kt (by rw [if_pos z] at h; exact h)) (fun z h => kf (by rw [if_neg (by simpa using z)] at h; exact h))
theorem R_if_gt {t : Nat} {off : Int} {x : Int32} (C : Cx κ G cc own nL) (d : bk cc pc n t (.ifCond .gt off) off) (kt : 0 < x → P → V κ G Q E σ ks t lv st) (kf : ¬ 0 < x → P → V κ G Q E σ ks n lv st) : P → V κ G Q E σ ks pc lv (.int x :: st) := by
  obtain ⟨p, l, e, R, s, m, args, below, meth, c⟩ := κ
  obtain ⟨hx, hb, hml, hown, hlk, hK, hT, hZ, hG⟩ := C
  obtain ⟨d, rfl, ht⟩ := d
  intro q H locs ls hz hP hS hl
  exact lv_if_gt hx hb d ht (fun z => kt z q H locs ls hz hP hS hl) (fun z => kf z q H locs ls hz hP hS hl)
theorem B_if_gt {t : Nat} {off : Int} {x : Int32} {β : Type} {A B : Option β} {o : β} (C : Cx κ G cc own nL) (d : bk cc pc n t (.ifCond .gt off) off) (kt : A = some o → V κ G Q E σ ks t lv st) (kf : B = some o → V κ G Q E σ ks n lv st) : (if 0 < x then A else B) = some o → V κ G Q E σ ks pc lv (.int x :: st) :=
  R_if_gt C d (fun z h => kt (by rw [if_pos z] at h; exact h)) (fun z h => kf (by rw [if_neg (by simpa using z)] at h; exact h))
theorem R_icmp_gt {t : Nat} {off : Int} {x y : Int32} (C : Cx κ G cc own nL) (d : bk cc pc n t (.if_icmp .gt off) off) (kt : y < x → P → V κ G Q E σ ks t lv st) (kf : ¬ y < x → P → V κ G Q E σ ks n lv st) : P → V κ G Q E σ ks pc lv (.int y :: .int x :: st) := by
  obtain ⟨p, l, e, R, s, m, args, below, meth, c⟩ := κ
  obtain ⟨hx, hb, hml, hown, hlk, hK, hT, hZ, hG⟩ := C
  obtain ⟨d, rfl, ht⟩ := d
  intro q H locs ls hz hP hS hl
  exact lv_icmp_gt hx hb d ht (fun z => kt z q H locs ls hz hP hS hl) (fun z => kf z q H locs ls hz hP hS hl)
theorem B_icmp_gt {t : Nat} {off : Int} {x y : Int32} {β : Type} {A B : Option β} {o : β} (C : Cx κ G cc own nL) (d : bk cc pc n t (.if_icmp .gt off) off) (kt : A = some o → V κ G Q E σ ks t lv st) (kf : B = some o → V κ G Q E σ ks n lv st) : (if y < x then A else B) = some o → V κ G Q E σ ks pc lv (.int y :: .int x :: st) :=
  R_icmp_gt C d (fun z h => kt (by rw [if_pos z] at h; exact h)) (fun z h => kf (by rw [if_neg (by simpa using z)] at h; exact h))
theorem R_if_le {t : Nat} {off : Int} {x : Int32} (C : Cx κ G cc own nL) (d : bk cc pc n t (.ifCond .le off) off) (kt : x ≤ 0 → P → V κ G Q E σ ks t lv st) (kf : ¬ x ≤ 0 → P → V κ G Q E σ ks n lv st) : P → V κ G Q E σ ks pc lv (.int x :: st) := by
  obtain ⟨p, l, e, R, s, m, args, below, meth, c⟩ := κ
  obtain ⟨hx, hb, hml, hown, hlk, hK, hT, hZ, hG⟩ := C
  obtain ⟨d, rfl, ht⟩ := d
  intro q H locs ls hz hP hS hl
  exact lv_if_le hx hb d ht (fun z => kt z q H locs ls hz hP hS hl) (fun z => kf z q H locs ls hz hP hS hl)
theorem B_if_le {t : Nat} {off : Int} {x : Int32} {β : Type} {A B : Option β} {o : β} (C : Cx κ G cc own nL) (d : bk cc pc n t (.ifCond .le off) off) (kt : A = some o → V κ G Q E σ ks t lv st) (kf : B = some o → V κ G Q E σ ks n lv st) : (if x ≤ 0 then A else B) = some o → V κ G Q E σ ks pc lv (.int x :: st) :=
  R_if_le C d (fun z h => kt (by rw [if_pos z] at h; exact h)) (fun z h => kf (by rw [if_neg (by simpa using z)] at h; exact h))
theorem R_icmp_le {t : Nat} {off : Int} {x y : Int32} (C : Cx κ G cc own nL) (d : bk cc pc n t (.if_icmp .le off) off) (kt : x ≤ y → P → V κ G Q E σ ks t lv st) (kf : ¬ x ≤ y → P → V κ G Q E σ ks n lv st) : P → V κ G Q E σ ks pc lv (.int y :: .int x :: st) := by
  obtain ⟨p, l, e, R, s, m, args, below, meth, c⟩ := κ
  obtain ⟨hx, hb, hml, hown, hlk, hK, hT, hZ, hG⟩ := C
  obtain ⟨d, rfl, ht⟩ := d
  intro q H locs ls hz hP hS hl
  exact lv_icmp_le hx hb d ht (fun z => kt z q H locs ls hz hP hS hl) (fun z => kf z q H locs ls hz hP hS hl)
theorem B_icmp_le {t : Nat} {off : Int} {x y : Int32} {β : Type} {A B : Option β} {o : β} (C : Cx κ G cc own nL) (d : bk cc pc n t (.if_icmp .le off) off) (kt : A = some o → V κ G Q E σ ks t lv st) (kf : B = some o → V κ G Q E σ ks n lv st) : (if x ≤ y then A else B) = some o → V κ G Q E σ ks pc lv (.int y :: .int x :: st) :=
  R_icmp_le C d (fun z h => kt (by rw [if_pos z] at h; exact h)) (fun z h => kf (by rw [if_neg (by simpa using z)] at h; exact h))
theorem R_geti {idx ci f : Nat} {fin : Bool} {a : Nat} (C : Cx κ G cc own nL) (F : FL own idx ci f fin) (hf : isr (tyc ci f) = false) (ha : cd E a = ci) (d : dk cc pc n (.getfield idx) 3) (k : P → V κ G Q E σ ks n lv (.int (gi σ a f) :: st)) : P → V κ G Q E σ ks pc lv (.ref (G.1 + a) :: st) := by
  obtain ⟨p, l, e, R, s, m, args, below, meth, c⟩ := κ
  obtain ⟨hx, hb, hml, hown, hlk, hK, hT, hZ, hG⟩ := C
  obtain ⟨d, rfl⟩ := d
  obtain ⟨Cn, T, N, ⟨I1, I2, I3, I4, I5, I6, I7⟩, hk, hfi, hw⟩ := F
  intro q H locs ls hz hP hS hl
  have he := el_o (G := G) (σ := σ) ha I6
  have hv : (fvs G.1 E σ ci a)[f]? = some (.int (gi σ a f)) := by rw [fvs_at (by rw [I5]; exact hk)]; simp [fv, hf]
  rcases hw with hw | hw
  · exact va_get hx hb (tb_hts hT _) I2 hown hK hP a he I1 f hk (hT _ hw rfl _) (fun _ h => h) hv d (k q H locs ls hz hP hS hl)
  · exact va_getN hx hb (tb_hts hT _) I2 hown hK hP a he I1 f hk (hT _ hw rfl _) (fun _ h => h) hv d (k q H locs ls hz hP hS hl)
theorem R_getr {idx ci f : Nat} {fin : Bool} {a x : Nat} (C : Cx κ G cc own nL) (F : FL own idx ci f fin) (hf : isr (tyc ci f) = true) (ha : cd E a = ci) (hr : rf E a f = some x) (d : dk cc pc n (.getfield idx) 3) (k : P → V κ G Q E σ ks n lv (.ref (G.1 + x) :: st)) : P → V κ G Q E σ ks pc lv (.ref (G.1 + a) :: st) := by
  obtain ⟨p, l, e, R, s, m, args, below, meth, c⟩ := κ
  obtain ⟨hx, hb, hml, hown, hlk, hK, hT, hZ, hG⟩ := C
  obtain ⟨d, rfl⟩ := d
  obtain ⟨Cn, T, N, ⟨I1, I2, I3, I4, I5, I6, I7⟩, hk, hfi, hw⟩ := F
  intro q H locs ls hz hP hS hl
  have he := el_o (G := G) (σ := σ) ha I6
  have hv : (fvs G.1 E σ ci a)[f]? = some (.ref (G.1 + x)) := by rw [fvs_at (by rw [I5]; exact hk)]; simp [fv, hf, hr, va_rf]
  rcases hw with hw | hw
  · exact va_get hx hb (tb_hts hT _) I2 hown hK hP a he I1 f hk (hT _ hw rfl _) (fun _ h => h) hv d (k q H locs ls hz hP hS hl)
  · exact va_getN hx hb (tb_hts hT _) I2 hown hK hP a he I1 f hk (hT _ hw rfl _) (fun _ h => h) hv d (k q H locs ls hz hP hS hl)
theorem R_puti {idx ci f : Nat} {a : Nat} {v : Int32} (C : Cx κ G cc own nL) (F : FL own idx ci f false) (hf : isr (tyc ci f) = false) (ha : cd E a = ci) (hn : narrow (tyc ci f) (.int v) = .int v) (hft : fits (tyc ci f) (.int v) = true) (d : dk cc pc n (.putfield idx) 3) (k : P → V κ G Q E (si σ a f v) (false, u) n lv st) : P → V κ G Q E σ (false, u) pc lv (.int v :: .ref (G.1 + a) :: st) := by
  obtain ⟨p, l, e, R, s, m, args, below, meth, c⟩ := κ
  obtain ⟨hx, hb, hml, hown, hlk, hK, hT, hZ, hG⟩ := C
  obtain ⟨d, rfl⟩ := d
  obtain ⟨Cn, T, N, ⟨I1, I2, I3, I4, I5, I6, I7⟩, hk, hfi, hw⟩ := F
  intro q H locs ls hz hP hS hl
  have he := el_o (G := G) (σ := σ) ha I6
  have hd := I3 f hk
  rcases hw with hw | hw
  · refine va_put hx hb (tb_hts hT _) I2 (tyc ci) I3 I4 hown hK hP ws_D hS a he I1 f hk (hT _ hw rfl _) (fun _ h => h) hfi hd hn hft (by rw [fvs_len, I5]; exact hk) d (fun H1 locs1 hP1 hD1 hS1 => ?_)
    rw [ws_put ha I6 hf] at hP1
    exact k q H1 locs1 ls (fun h => by cases h) hP1 hS1 hl
  · refine va_putN hx hb (tb_hts hT _) I2 (tyc ci) I3 I4 hown hK hP ws_D hS a he I1 f hk (hT _ hw rfl _) (fun _ h => h) hfi hd hn hft (by rw [fvs_len, I5]; exact hk) d (fun H1 locs1 hP1 hD1 hS1 => ?_)
    rw [ws_put ha I6 hf] at hP1
    exact k q H1 locs1 ls (fun h => by cases h) hP1 hS1 hl
theorem R_iald {a : Nat} {i : Int32} (C : Cx κ G cc own nL) (ha : cd E a = 100) (hi : vp_in i (ln E a)) (d : dk cc pc n .iaload 1) (k : P → V κ G Q E σ ks n lv (.int (gi σ a i.toNatClampNeg) :: st)) : P → V κ G Q E σ ks pc lv (.int i :: .ref (G.1 + a) :: st) := by
  obtain ⟨p, l, e, R, s, m, args, below, meth, c⟩ := κ
  obtain ⟨hx, hb, hml, hown, hlk, hK, hT, hZ, hG⟩ := C
  obtain ⟨d, rfl⟩ := d
  intro q H locs ls hz hP hS hl
  exact va_iald hx hb hK hP a 0 (el_a (G := G) (σ := σ) ha (by omega) (by omega)) rfl hi d (k q H locs ls hz hP hS hl)
theorem R_zald {a : Nat} {i : Int32} (C : Cx κ G cc own nL) (ha : cd E a = 101) (hi : vp_in i (ln E a)) (d : dk cc pc n .baload 1) (k : P → V κ G Q E σ ks n lv (.int (gi σ a i.toNatClampNeg) :: st)) : P → V κ G Q E σ ks pc lv (.int i :: .ref (G.1 + a) :: st) := by
  obtain ⟨p, l, e, R, s, m, args, below, meth, c⟩ := κ
  obtain ⟨hx, hb, hml, hown, hlk, hK, hT, hZ, hG⟩ := C
  obtain ⟨d, rfl⟩ := d
  intro q H locs ls hz hP hS hl
  exact va_zald hx hb hK hP a 1 (el_a (G := G) (σ := σ) ha (by omega) (by omega)) rfl hi d (k q H locs ls hz hP hS hl)
theorem R_bald {a : Nat} {i : Int32} (C : Cx κ G cc own nL) (ha : cd E a = 102) (hi : vp_in i (ln E a)) (d : dk cc pc n .baload 1) (k : P → V κ G Q E σ ks n lv (.int (gi σ a i.toNatClampNeg) :: st)) : P → V κ G Q E σ ks pc lv (.int i :: .ref (G.1 + a) :: st) := by
  obtain ⟨p, l, e, R, s, m, args, below, meth, c⟩ := κ
  obtain ⟨hx, hb, hml, hown, hlk, hK, hT, hZ, hG⟩ := C
  obtain ⟨d, rfl⟩ := d
  intro q H locs ls hz hP hS hl
  exact va_bald hx hb hK hP a 2 (el_a (G := G) (σ := σ) ha (by omega) (by omega)) rfl hi d (k q H locs ls hz hP hS hl)
theorem R_lald {a : Nat} {i : Int32} (C : Cx κ G cc own nL) (ha : cd E a = 103) (hi : vp_in i (ln E a)) (d : dk cc pc n .laload 1) (k : P → V κ G Q E σ ks n lv (.long (gl σ a i.toNatClampNeg) :: st)) : P → V κ G Q E σ ks pc lv (.int i :: .ref (G.1 + a) :: st) := by
  obtain ⟨p, l, e, R, s, m, args, below, meth, c⟩ := κ
  obtain ⟨hx, hb, hml, hown, hlk, hK, hT, hZ, hG⟩ := C
  obtain ⟨d, rfl⟩ := d
  intro q H locs ls hz hP hS hl
  exact va_lald hx hb hK hP a 3 (el_a (G := G) (σ := σ) ha (by omega) (by omega)) rfl hi d (k q H locs ls hz hP hS hl)
theorem R_aald4 {a x : Nat} {i : Int32} (C : Cx κ G cc own nL) (ha : cd E a = 104) (hi : vp_in i (ln E a)) (hr : rf E a i.toNatClampNeg = some x) (d : dk cc pc n .aaload 1) (k : P → V κ G Q E σ ks n lv (.ref (G.1 + x) :: st)) : P → V κ G Q E σ ks pc lv (.int i :: .ref (G.1 + a) :: st) := by
  obtain ⟨p, l, e, R, s, m, args, below, meth, c⟩ := κ
  obtain ⟨hx, hb, hml, hown, hlk, hK, hT, hZ, hG⟩ := C
  obtain ⟨d, rfl⟩ := d
  intro q H locs ls hz hP hS hl
  refine va_aldq hx hb hK hP a 4 (el_a (G := G) (σ := σ) ha (by omega) (by omega)) rfl hi d ?_
  simp only [hr, Option.map_some, va_rf]
  exact k q H locs ls hz hP hS hl
theorem R_aald5 {a x : Nat} {i : Int32} (C : Cx κ G cc own nL) (ha : cd E a = 105) (hi : vp_in i (ln E a)) (hr : rf E a i.toNatClampNeg = some x) (d : dk cc pc n .aaload 1) (k : P → V κ G Q E σ ks n lv (.ref (G.1 + x) :: st)) : P → V κ G Q E σ ks pc lv (.int i :: .ref (G.1 + a) :: st) := by
  obtain ⟨p, l, e, R, s, m, args, below, meth, c⟩ := κ
  obtain ⟨hx, hb, hml, hown, hlk, hK, hT, hZ, hG⟩ := C
  obtain ⟨d, rfl⟩ := d
  intro q H locs ls hz hP hS hl
  refine va_aldq hx hb hK hP a 5 (el_a (G := G) (σ := σ) ha (by omega) (by omega)) rfl hi d ?_
  simp only [hr, Option.map_some, va_rf]
  exact k q H locs ls hz hP hS hl
theorem R_iast {a : Nat} {i : Int32} {v : Int32} (C : Cx κ G cc own nL) (ha : cd E a = 100) (hi : vp_in i (ln E a)) (d : dk cc pc n .iastore 1) (k : P → V κ G Q E (si σ a i.toNatClampNeg v) (false, u) n lv st) : P → V κ G Q E σ (false, u) pc lv (.int v :: .int i :: .ref (G.1 + a) :: st) := by
  obtain ⟨p, l, e, R, s, m, args, below, meth, c⟩ := κ
  obtain ⟨hx, hb, hml, hown, hlk, hK, hT, hZ, hG⟩ := C
  obtain ⟨d, rfl⟩ := d
  intro q H locs ls hz hP hS hl
  refine va_iast hx hb hK hP ws_D hS a 0 (el_a (G := G) (σ := σ) ha (by omega) (by omega)) rfl hi d (fun H1 locs1 hP1 hD1 hS1 => ?_)
  have e := ws_arr (G := G) (σ := σ) (σ' := si σ a i.toNatClampNeg v) ha (by omega) (by omega) (fun x hx => by simp [si, hx])
  have e2 : ars G.1 E (si σ a i.toNatClampNeg v) 100 a = .inl (upd (σ.1 a) i.toNatClampNeg v) := by simp [ars, si]
  rw [e2] at e
  rw [e] at hP1
  exact k q H1 locs1 ls (fun h => by cases h) hP1 hS1 hl
theorem R_zast {a : Nat} {i : Int32} {v : Int32} (C : Cx κ G cc own nL) (ha : cd E a = 101) (hi : vp_in i (ln E a)) (d : dk cc pc n .bastore 1) (k : P → V κ G Q E (si σ a i.toNatClampNeg (vp_nar .boolean v)) (false, u) n lv st) : P → V κ G Q E σ (false, u) pc lv (.int v :: .int i :: .ref (G.1 + a) :: st) := by
  obtain ⟨p, l, e, R, s, m, args, below, meth, c⟩ := κ
  obtain ⟨hx, hb, hml, hown, hlk, hK, hT, hZ, hG⟩ := C
  obtain ⟨d, rfl⟩ := d
  intro q H locs ls hz hP hS hl
  refine va_zast hx hb hK hP ws_D hS a 1 (el_a (G := G) (σ := σ) ha (by omega) (by omega)) rfl hi d (fun H1 locs1 hP1 hD1 hS1 => ?_)
  have e := ws_arr (G := G) (σ := σ) (σ' := si σ a i.toNatClampNeg (vp_nar .boolean v)) ha (by omega) (by omega) (fun x hx => by simp [si, hx])
  have e2 : ars G.1 E (si σ a i.toNatClampNeg (vp_nar .boolean v)) 101 a = .inl (upd (σ.1 a) i.toNatClampNeg (vp_nar .boolean v)) := by simp [ars, si]
  rw [e2] at e
  rw [e] at hP1
  exact k q H1 locs1 ls (fun h => by cases h) hP1 hS1 hl
theorem R_bast {a : Nat} {i : Int32} {v : Int32} (C : Cx κ G cc own nL) (ha : cd E a = 102) (hi : vp_in i (ln E a)) (d : dk cc pc n .bastore 1) (k : P → V κ G Q E (si σ a i.toNatClampNeg (vp_nar .byte v)) (false, u) n lv st) : P → V κ G Q E σ (false, u) pc lv (.int v :: .int i :: .ref (G.1 + a) :: st) := by
  obtain ⟨p, l, e, R, s, m, args, below, meth, c⟩ := κ
  obtain ⟨hx, hb, hml, hown, hlk, hK, hT, hZ, hG⟩ := C
  obtain ⟨d, rfl⟩ := d
  intro q H locs ls hz hP hS hl
  refine va_bast hx hb hK hP ws_D hS a 2 (el_a (G := G) (σ := σ) ha (by omega) (by omega)) rfl hi d (fun H1 locs1 hP1 hD1 hS1 => ?_)
  have e := ws_arr (G := G) (σ := σ) (σ' := si σ a i.toNatClampNeg (vp_nar .byte v)) ha (by omega) (by omega) (fun x hx => by simp [si, hx])
  have e2 : ars G.1 E (si σ a i.toNatClampNeg (vp_nar .byte v)) 102 a = .inl (upd (σ.1 a) i.toNatClampNeg (vp_nar .byte v)) := by simp [ars, si]
  rw [e2] at e
  rw [e] at hP1
  exact k q H1 locs1 ls (fun h => by cases h) hP1 hS1 hl
theorem R_last {a : Nat} {i : Int32} {v : Int64} (C : Cx κ G cc own nL) (ha : cd E a = 103) (hi : vp_in i (ln E a)) (d : dk cc pc n .lastore 1) (k : P → V κ G Q E (sl σ a i.toNatClampNeg v) (false, u) n lv st) : P → V κ G Q E σ (false, u) pc lv (.long v :: .int i :: .ref (G.1 + a) :: st) := by
  obtain ⟨p, l, e, R, s, m, args, below, meth, c⟩ := κ
  obtain ⟨hx, hb, hml, hown, hlk, hK, hT, hZ, hG⟩ := C
  obtain ⟨d, rfl⟩ := d
  intro q H locs ls hz hP hS hl
  refine va_last hx hb hK hP ws_D hS a 3 (el_a (G := G) (σ := σ) ha (by omega) (by omega)) rfl hi d (fun H1 locs1 hP1 hD1 hS1 => ?_)
  have e := ws_arr (G := G) (σ := σ) (σ' := sl σ a i.toNatClampNeg v) ha (by omega) (by omega) (fun x hx => by simp [sl, hx])
  have e2 : ars G.1 E (sl σ a i.toNatClampNeg v) 103 a = .inr (.inl (vp_updL (σ.2 a) i.toNatClampNeg v)) := by simp [ars, sl]
  rw [e2] at e
  rw [e] at hP1
  exact k q H1 locs1 ls (fun h => by cases h) hP1 hS1 hl
theorem R_alen {a c2 : Nat} (C : Cx κ G cc own nL) (ha : cd E a = c2) (hc : 100 ≤ c2) (hc2 : c2 < 106) (d : dk cc pc n .arraylength 1) (k : P → V κ G Q E σ ks n lv (.int (nI (ln E a)) :: st)) : P → V κ G Q E σ ks pc lv (.ref (G.1 + a) :: st) := by
  obtain ⟨p, l, e, R, s, m, args, below, meth, c⟩ := κ
  obtain ⟨hx, hb, hml, hown, hlk, hK, hT, hZ, hG⟩ := C
  obtain ⟨d, rfl⟩ := d
  intro q H locs ls hz hP hS hl
  have hh := el_a (G := G) (σ := σ) ha (by omega) (by omega)
  have ht : ∃ (t0 : Nat) (ty : FieldType), (tyL G.2.2.2.1)[t0]? = some (G.2.2.2.1 (c2 - 100), ty) := by
    rcases (show c2 = 100 ∨ c2 = 101 ∨ c2 = 102 ∨ c2 = 103 ∨ c2 = 104 ∨ c2 = 105 by omega) with rfl | rfl | rfl | rfl | rfl | rfl
    · exact ⟨0, _, rfl⟩
    · exact ⟨1, _, rfl⟩
    · exact ⟨2, _, rfl⟩
    · exact ⟨3, _, rfl⟩
    · exact ⟨4, _, rfl⟩
    · exact ⟨5, _, rfl⟩
  obtain ⟨t0, ty, ht⟩ := ht
  exact va_alen hx hb hK hP a t0 hh ht rfl d (k q H locs ls hz hP hS hl)
theorem R_acopy {idx a b : Nat} {sp dp m0 : Int32} (C : Cx κ G cc own nL) (hw : Cond.methodLink own idx arraycopyName ∈ lw_tbl) (ha : cd E a = 100) (hb2 : cd E b = 100) (hh : (0 ≤ sp ∧ 0 ≤ dp ∧ 0 ≤ m0) ∧ sp.toNatClampNeg + m0.toNatClampNeg ≤ ln E a ∧ dp.toNatClampNeg + m0.toNatClampNeg ≤ ln E b) (hR : 1 ≤ (kR κ).frames ∧ (st.map fun v => v.category).sum + (nativeFrameWords "java/lang/System" "arraycopy" 5 + 11) ≤ (kR κ).locals) (d : dk cc pc n (.invokestatic idx) 3) (k : P → V κ G Q E (sc σ a b sp.toNatClampNeg dp.toNatClampNeg m0.toNatClampNeg) (false, u) n lv st) : P → V κ G Q E σ (false, u) pc lv (.int m0 :: .int dp :: .ref (G.1 + b) :: .int sp :: .ref (G.1 + a) :: st) := by
  obtain ⟨p, l, e, R, s, m, args, below, meth, c⟩ := κ
  obtain ⟨hx, hb, hml, hown, hlk, hK, hT, hZ, hG⟩ := C
  obtain ⟨d, rfl⟩ := d
  obtain ⟨⟨h1, h2, h3⟩, h4, h5⟩ := hh
  intro q H locs ls hz hP hS hl
  refine va_copyi hx hb hl.1.symm hown (hT _ hw rfl _) (hT _ (by decide +kernel) rfl _) (hT _ (by decide +kernel) rfl _) (hT _ (by decide +kernel) rfl _) hK hP ws_D hS a b 0 0 (el_a (G := G) (σ := σ) ha (by omega) (by omega)) (el_a (G := G) (σ := σ) hb2 (by omega) (by omega)) rfl rfl rfl (Int32.not_lt.mpr h1) (Int32.not_lt.mpr h2) (Int32.not_lt.mpr h3) h4 h5 (fun _ _ => rfl) hR.1 hR.2 d (fun H1 locs1 hP1 hD1 hS1 => ?_)
  have e := ws_arr (G := G) (σ := σ) (σ' := sc σ a b sp.toNatClampNeg dp.toNatClampNeg m0.toNatClampNeg) hb2 (by omega) (by omega) (fun x hx => by simp [sc, hx])
  have e2 : ars G.1 E (sc σ a b sp.toNatClampNeg dp.toNatClampNeg m0.toNatClampNeg) 100 b = .inl (va_cpy (σ.1 a) (σ.1 b) sp.toNatClampNeg dp.toNatClampNeg m0.toNatClampNeg) := by simp [ars, sc]
  rw [e2] at e
  rw [e] at hP1
  exact k q H1 locs1 ls (fun h => by cases h) hP1 hS1 hl
theorem R_mmax {idx : Nat} {x y : Int32} (C : Cx κ G cc own nL) (hw : Cond.methodLink own idx Lib.Math.max.name ∈ lw_tbl) (hR : 1 ≤ (kR κ).frames ∧ (st.map fun v => v.category).sum + 13 ≤ (kR κ).locals ∧ ks.2.1 ≤ (kR κ).cells ∧ ks.2.2 ≤ (kR κ).slots) (d : dk cc pc n (.invokestatic idx) 3) (k : P → V κ G Q E σ ks n lv (.int (imax x y) :: st)) : P → V κ G Q E σ ks pc lv (.int y :: .int x :: st) := by
  obtain ⟨p, l, e, R, s, m, args, below, meth, c⟩ := κ
  obtain ⟨hx, hb, hml, hown, hlk, hK, hT, hZ, hG⟩ := C
  obtain ⟨d, rfl⟩ := d
  intro q H locs ls hz hP hS hl
  exact va_mmax hx hb hl.1.symm hown (hT _ hw rfl _) (hT _ (by decide +kernel) rfl _) (hT _ (by decide +kernel) rfl _) (hT _ (by decide +kernel) rfl _) hR.1 hR.2.1 hR.2.2.1 hR.2.2.2 d (k q H locs ls hz hP hS hl)
theorem R_mmin {idx : Nat} {x y : Int32} (C : Cx κ G cc own nL) (hw : Cond.methodLink own idx Lib.Math.min.name ∈ lw_tbl) (hR : 1 ≤ (kR κ).frames ∧ (st.map fun v => v.category).sum + 13 ≤ (kR κ).locals ∧ ks.2.1 ≤ (kR κ).cells ∧ ks.2.2 ≤ (kR κ).slots) (d : dk cc pc n (.invokestatic idx) 3) (k : P → V κ G Q E σ ks n lv (.int (imin x y) :: st)) : P → V κ G Q E σ ks pc lv (.int y :: .int x :: st) := by
  obtain ⟨p, l, e, R, s, m, args, below, meth, c⟩ := κ
  obtain ⟨hx, hb, hml, hown, hlk, hK, hT, hZ, hG⟩ := C
  obtain ⟨d, rfl⟩ := d
  intro q H locs ls hz hP hS hl
  exact va_mmin hx hb hl.1.symm hown (hT _ hw rfl _) (hT _ (by decide +kernel) rfl _) (hT _ (by decide +kernel) rfl _) (hT _ (by decide +kernel) rfl _) hR.1 hR.2.1 hR.2.2.1 hR.2.2.2 d (k q H locs ls hz hP hS hl)
theorem stt_moved {s U : State} {H : Heap} {locs : List Loc} (h : Stt G s s.heap) (hvm : s.vm.Alike U.vm) (hS : va_S (GA G) s.heap H locs) : Stt G U H := fun j hj => ⟨((h j hj).1.moved hvm).kept hS.2.1, ((h j hj).2.moved hvm).kept hS.2.1⟩
theorem rep_of {s U : State} {H : Heap} {locs : List Loc} (hG : G.1 ≤ s.heap.size) (hK : va_K (GD G) vwCl (tyL G.2.2.2.1) s) (hT : TbAll s) (hZ : Stt G s s.heap) (hP : va_P (GD G) vwCl (wsOf G E σ) H) (hS : va_S (GA G) s.heap H locs) (hU : U.heap = H) (hW : s.WarmedH U.vm) : RepS G E σ U :=
  ⟨by rw [hU]; exact Nat.le_trans hG hS.1, by rw [hU]; exact hP, va_K.moved hW.alike hK, tb_warm hT hW, by rw [hU]; exact stt_moved hZ hW.alike hS⟩
theorem R_iret {σ1 : Sg} {r r1 : Int32} (C : Cx κ G cc own nL) (hr : (kT κ).sig.returnType = some .int) (d : dk cc pc n .ireturn 1) : some (r, σ) = some (r1, σ1) → V κ G (MQ (kB κ) (QC G E (some (.int r1)) σ1) (kA κ) (kS κ) ks.2.1 ks.2.2 (GA G)) E σ ks pc lv [.int r] := by
  obtain ⟨p, l, e, R, s, m, args, below, meth, c⟩ := κ
  obtain ⟨hx, hb, hml, hown, hlk, hK, hT, hZ, hG⟩ := C
  obtain ⟨d, -⟩ := d
  intro q
  cases q
  intro H locs ls hz hP hS hl
  exact W.iret hx hb hr (fun t ht hW => ⟨rfl, rep_of hG hK hT hZ hP hS ht hW, hS.F ht⟩) hS.2.2 d hlk
theorem R_zret {σ1 : Sg} {r r1 : Int32} (C : Cx κ G cc own nL) (hr : (kT κ).sig.returnType = some .boolean) (hb0 : r = 0 ∨ r = 1) (d : dk cc pc n .ireturn 1) : some (r, σ) = some (r1, σ1) → V κ G (MQ (kB κ) (QC G E (some (.int r1)) σ1) (kA κ) (kS κ) ks.2.1 ks.2.2 (GA G)) E σ ks pc lv [.int r] := by
  obtain ⟨p, l, e, R, s, m, args, below, meth, c⟩ := κ
  obtain ⟨hx, hb, hml, hown, hlk, hK, hT, hZ, hG⟩ := C
  obtain ⟨d, -⟩ := d
  intro q
  cases q
  intro H locs ls hz hP hS hl
  exact W.zret hx hb hr (by rcases hb0 with rfl | rfl <;> rfl) (fun t ht hW => ⟨rfl, rep_of hG hK hT hZ hP hS ht hW, hS.F ht⟩) hS.2.2 d hlk
theorem R_lret {σ1 : Sg} {r r1 : Int64} (C : Cx κ G cc own nL) (hr : (kT κ).sig.returnType = some .long) (d : dk cc pc n .lreturn 1) : some (r, σ) = some (r1, σ1) → V κ G (MQ (kB κ) (QC G E (some (.long r1)) σ1) (kA κ) (kS κ) ks.2.1 ks.2.2 (GA G)) E σ ks pc lv [.long r] := by
  obtain ⟨p, l, e, R, s, m, args, below, meth, c⟩ := κ
  obtain ⟨hx, hb, hml, hown, hlk, hK, hT, hZ, hG⟩ := C
  obtain ⟨d, -⟩ := d
  intro q
  cases q
  intro H locs ls hz hP hS hl
  exact W.lret hx hb hr (fun t ht hW => ⟨rfl, rep_of hG hK hT hZ hP hS ht hW, hS.F ht⟩) hS.2.2 d hlk
theorem R_vret {σ1 : Sg} (C : Cx κ G cc own nL) (hr : (kT κ).sig.returnType = none) (d : dk cc pc n .return_ 1) : some σ = some σ1 → V κ G (MQ (kB κ) (QC G E none σ1) (kA κ) (kS κ) ks.2.1 ks.2.2 (GA G)) E σ ks pc lv [] := by
  obtain ⟨p, l, e, R, s, m, args, below, meth, c⟩ := κ
  obtain ⟨hx, hb, hml, hown, hlk, hK, hT, hZ, hG⟩ := C
  obtain ⟨d, -⟩ := d
  intro q
  cases q
  intro H locs ls hz hP hS hl
  exact W.vret hx hb hr (fun t ht hW => ⟨rfl, rep_of hG hK hT hZ hP hS ht hW, hS.F ht⟩) hS.2.2 d hlk
theorem rep_blind {av : List Value} : FrameBlind (va_Pc av (RepS G E σ)) := by
  intro a U g mk h
  obtain ⟨h1, h0, h2, h3, h4, h5⟩ := h
  exact ⟨h1, h0, h2, va_K.moved (u := U) (U := U.calling g mk a) (Vm.Alike.refl U.vm) h3, tb_warm (s := U) (U := U.calling g mk a) h4 (State.WarmedH.refl U), fun j hj => ⟨(h5 j hj).1.moved (Vm.Alike.refl U.vm), (h5 j hj).2.moved (Vm.Alike.refl U.vm)⟩⟩
theorem V_run {rv : Option Value} {σ1 : Sg} {rest : List Value} (hG : G.1 ≤ (kS κ).heap.size) (hx : (kP κ).tables.exec = Jvm.exec)
    (run : ∀ (H : Heap) (locs : List Loc) (ls : Array Slot), va_P (GD G) vwCl (wsOf G E σ) H → va_S (GA G) (kS κ).heap H locs → ls.size = (kC κ).maxLocals → ∃ a0 : Array Value, va_Run (kP κ) (kL κ) (kE κ) (kR κ) (kS κ) (kM κ) (kA κ) (kB κ) (kT κ) (kC κ) H locs u.1 u.2 0 0 (F0 (kM κ) pc ls st) rest (QC G E rv σ1 a0) (GA G))
    (hn : n = pc + 3) (k : V κ G Q E σ1 (false, u) n lv (rv.toList ++ rest)) : V κ G Q E σ (false, u) pc lv st := by
  subst hn
  intro H locs ls hz hP hS hl T hT X
  obtain ⟨a0, hrun⟩ := run H locs ls hP hS hl.1
  obtain ⟨v, st0, t, T1, L, h0, X1, hL, e1, e2, ⟨hv, hrep, hF⟩, go⟩ := hrun T hT X
  cases hv
  have hP1 : va_P (GD G) vwCl (wsOf G E σ1) T1.heap := by rw [e1]; exact hrep.2.1
  have hS1 : va_S (GA G) (kS κ).heap T1.heap (locs ++ L) := by
    refine ⟨?_, fun q h1 h2 => ?_, fun q hq => ?_⟩
    · rw [e1]; exact Nat.le_trans hS.1 (by rw [← h0]; exact hF.1)
    · rw [e1, hF.2 q (by rw [h0]; exact Nat.lt_of_lt_of_le h1 hS.1) h2, h0]; exact hS.2.1 q h1 h2
    · rcases List.mem_append.mp hq with h | h
      · exact hS.2.2 q h
      · exact hL q h
  obtain ⟨t2, a1, b1⟩ := k T1.heap (locs ++ L) ls (fun h => by cases h) hP1 hS1 hl T1 rfl X1
  exact ⟨t2, go t2 a1, b1⟩
theorem mb_ws {y : MethodName} {bytes : ByteArray} {maxL n0 : Nat} {ret : Option FieldType} {s : State} (hT : TbAll s) (M : MB y bytes maxL ret n0) : ∀ w ∈ [Cond.code y bytes maxL ret], ∀ (a' : Array Value) (U : State), s.WarmedH U.vm → w.before a' U = true := by
  intro w hw a' U hW
  have e : w = Cond.code y bytes maxL ret := by simpa using hw
  subst e
  exact tb_warm hT hW _ M.2.1 rfl a'
theorem R_callV {idx ci a n0 maxL : Nat} {y : MethodName} {bytes : ByteArray} {ret : Option FieldType} {rm : Room} {rv : Option Value} {σ1 : Sg} (As rest : List Value) (C : Cx κ G cc own nL) (M : MV own idx ci y bytes maxL ret n0) (hM : CT (kL κ) y bytes maxL ret rm (.ref (G.1 + a) :: As) G E σ rv σ1) (hrm : rm.cells = 0 ∧ rm.slots = 0 ∧ rm.frames + 1 ≤ (kR κ).frames ∧ 8 + (maxL + 11) + rm.locals ≤ (kR κ).locals ∧ u.1 ≤ (kR κ).cells ∧ u.2 ≤ (kR κ).slots) (ha : cd E a = ci) (hn0 : As.length = n0) (hst : st = As.reverse ++ .ref (G.1 + a) :: rest) (hW : (rest.map fun v => v.category).sum ≤ 8) (d : dk cc pc n (.invokevirtual idx) 3) (k : P → V κ G Q E σ1 (false, u) n lv (rv.toList ++ rest)) : P → V κ G Q E σ (false, u) pc lv st := by
  obtain ⟨p, l, e, R, s, m, args, below, meth, c⟩ := κ
  obtain ⟨hx, hb, hml, hown, hlk, hK, hT, hZ, hG⟩ := C
  obtain ⟨d, rfl⟩ := d
  obtain ⟨M0, ⟨T, N, I1, I2, I3, I4, I5, I6, I7⟩, hins, hsel, hlink⟩ := M
  obtain ⟨r1, r2, r3, r4, r5, r6⟩ := hrm
  intro q
  refine V_run hG hx (fun H locs ls hP hS hsz => ⟨(Value.ref (G.1 + a) :: As).toArray, ?_⟩) rfl (k q)
  have he := el_o (G := G) (σ := σ) ha I6
  have hPre : PreV s H y.cls (G.1 + a) (va_Pc (.ref (G.1 + a) :: As) (RepS G E σ)) As := ⟨rep_blind, va_recv hK hP I1 he, fun U hU hW => ⟨rfl, rep_of hG hK hT hZ hP hS hU hW⟩⟩
  have hlen : ∀ sig, parseMethodDescriptor y.desc = some sig → n0 = sig.parameters.length := fun sig h => by
    have h2 := M0.2.2.2
    rw [h] at h2
    exact (Option.some.inj h2).symm
  rcases hlink with hlink | hlink
  · exact va_runV (Ts := lw_tbl.filter wk) (own := own) ⟨hx, hb, hml, hown, tb_hts hT _⟩ hM ⟨⟨r1, r2, r3, r4, mb_ws hT M0, List.mem_cons_self, hT _ M0.2.1 rfl _, hT _ M0.1 rfl _, M0.2.2.1, hlen, hT _ hlink rfl _⟩, hT _ hins rfl _, hT _ hsel rfl _⟩ hPre rfl hn0 (hsz.trans hml) hst (lv_room hW) d ⟨r5, r6⟩
  · exact va_runVN (Ts := lw_tbl.filter wk) (own := own) ⟨hx, hb, hml, hown, tb_hts hT _⟩ hM ⟨⟨⟨r1, r2, r3, r4, mb_ws hT M0, List.mem_cons_self⟩, hT _ M0.2.1 rfl _, hT _ M0.1 rfl _, M0.2.2.1, hlen, hT _ hlink rfl _⟩, hT _ hins rfl _, hT _ hsel rfl _⟩ hPre rfl hn0 (hsz.trans hml) hst (lv_room hW) d ⟨r5, r6⟩
theorem R_callS {idx n0 maxL : Nat} {y : MethodName} {bytes : ByteArray} {ret : Option FieldType} {rm : Room} {rv : Option Value} {σ1 : Sg} (As rest : List Value) (C : Cx κ G cc own nL) (M : MS own idx y bytes maxL ret n0) (hM : CT (kL κ) y bytes maxL ret rm As G E σ rv σ1) (hrm : rm.cells = 0 ∧ rm.slots = 0 ∧ rm.frames + 1 ≤ (kR κ).frames ∧ 8 + (maxL + 11) + rm.locals ≤ (kR κ).locals ∧ u.1 ≤ (kR κ).cells ∧ u.2 ≤ (kR κ).slots) (hn0 : As.length = n0) (hst : st = As.reverse ++ rest) (hW : (rest.map fun v => v.category).sum ≤ 8) (d : dk cc pc n (.invokestatic idx) 3) (k : P → V κ G Q E σ1 (false, u) n lv (rv.toList ++ rest)) : P → V κ G Q E σ (false, u) pc lv st := by
  obtain ⟨p, l, e, R, s, m, args, below, meth, c⟩ := κ
  obtain ⟨hx, hb, hml, hown, hlk, hK, hT, hZ, hG⟩ := C
  obtain ⟨d, rfl⟩ := d
  obtain ⟨M0, hsta, hlink⟩ := M
  obtain ⟨r1, r2, r3, r4, r5, r6⟩ := hrm
  intro q
  refine V_run hG hx (fun H locs ls hP hS hsz => ⟨As.toArray, ?_⟩) rfl (k q)
  have hPre : PreS s H (va_Pc As (RepS G E σ)) As := ⟨rep_blind, fun U hU hW => ⟨rfl, rep_of hG hK hT hZ hP hS hU hW⟩⟩
  have hlen : ∀ sig, parseMethodDescriptor y.desc = some sig → n0 = sig.parameters.length := fun sig h => by
    have h2 := M0.2.2.2
    rw [h] at h2
    exact (Option.some.inj h2).symm
  exact va_runS (Ts := lw_tbl.filter wk) (own := own) ⟨hx, hb, hml, hown, tb_hts hT _⟩ hM ⟨⟨r1, r2, r3, r4, mb_ws hT M0, List.mem_cons_self, hT _ M0.2.1 rfl _, hT _ M0.1 rfl _, M0.2.2.1, hlen, hT _ hlink rfl _⟩, hT _ hsta rfl _⟩ hPre rfl hn0 (hsz.trans hml) hst (lv_room hW) d ⟨r5, r6⟩
theorem CT_of {l : Launch} {y : MethodName} {maxL : Nat} {ret : Option FieldType} {rm : Room} {av : List Value} {rv : Option Value} {σ1 : Sg} (hy : plainName y.cls = true) (hl : (lg_sl av).length ≤ maxL) {lv0 : List (Nat × Value)} (hlv : lv_args 0 av = lv0)
    (body : ∀ κ : KT, kL κ = l → kR κ = rm → (kT κ).sig.returnType = ret → Cx κ G cc y.cls maxL → V κ G (MQ (kB κ) (QC G E rv σ1) (kA κ) (kS κ) 0 0 (GA G)) E σ (false, 0, 0) 0 lv0 []) : CT l y cc maxL ret rm av G E σ rv σ1 := by
  refine Met.ofW (cc := cc) (maxL := maxL) (ret := ret) hy rfl ?_
  intro p e s m args below meth c s₁ B hml hv
  obtain ⟨rfl, hle, hP, hK, hT, hZ⟩ := hv
  have hll := lv_entry av (n := maxL) hl
  rw [lg_entry_eq]
  have h := body (p, l, e, (headSpec [Cond.code y cc maxL ret] rm).room, s, m, av.toArray, below, meth, c) rfl rfl B.returns ⟨B.exec, B.bytes, hml, findClass_of_methodNamed B.named, B.notSynchronized, hK, hT, hZ, hle⟩
  rw [← hlv] at h
  exact h s.heap [] _ (fun h => by cases h) hP va_S.rf (by rw [hml]; exact hll)
end RW
end
section
theorem iw0 : ∀ w ∈ u_ws RX0 TX0 6, w ∈ lw_tbl.filter wk := by decide +kernel
theorem ci0 : CI 0 RX0 TX0 6 := ⟨rfl, iw0, tyX0_ok, nmX0, rfl, by omega, by decide +kernel⟩
theorem iw1 : ∀ w ∈ u_ws RX1 TX1 19, w ∈ lw_tbl.filter wk := by decide +kernel
theorem ci1 : CI 1 RX1 TX1 19 := ⟨rfl, iw1, tyX1_ok, nmX1, rfl, by omega, by decide +kernel⟩
theorem iw2 : ∀ w ∈ u_ws RX2 TX2 3, w ∈ lw_tbl.filter wk := by decide +kernel
theorem ci2 : CI 2 RX2 TX2 3 := ⟨rfl, iw2, tyX2_ok, nmX2, rfl, by omega, by decide +kernel⟩
theorem iw3 : ∀ w ∈ u_ws RX3 TX3 4, w ∈ lw_tbl.filter wk := by decide +kernel
theorem ci3 : CI 3 RX3 TX3 4 := ⟨rfl, iw3, tyX3_ok, nmX3, rfl, by omega, by decide +kernel⟩
theorem iw4 : ∀ w ∈ u_ws RX4 TX4 7, w ∈ lw_tbl.filter wk := by decide +kernel
theorem ci4 : CI 4 RX4 TX4 7 := ⟨rfl, iw4, tyX4_ok, nmX4, rfl, by omega, by decide +kernel⟩
theorem iw5 : ∀ w ∈ u_ws RX5 TX5 3, w ∈ lw_tbl.filter wk := by decide +kernel
theorem ci5 : CI 5 RX5 TX5 3 := ⟨rfl, iw5, tyX5_ok, nmX5, rfl, by omega, by decide +kernel⟩
theorem iw6 : ∀ w ∈ u_ws RX6 TX6 14, w ∈ lw_tbl.filter wk := by decide +kernel
theorem ci6 : CI 6 RX6 TX6 14 := ⟨rfl, iw6, tyX6_ok, nmX6, rfl, by omega, by decide +kernel⟩
theorem iw7 : ∀ w ∈ u_ws RX7 TX7 30, w ∈ lw_tbl.filter wk := by decide +kernel
theorem ci7 : CI 7 RX7 TX7 30 := ⟨rfl, iw7, tyX7_ok, nmX7, rfl, by omega, by decide +kernel⟩
theorem fl3_9 : FL RX3 9 3 0 true := ⟨_, _, _, ci3, by omega, rfl, Or.inl (List.mem_of_getElem? (i := 168) (by decide +kernel))⟩
theorem fl6_143 : FL RX6 143 3 0 true := ⟨_, _, _, ci3, by omega, rfl, Or.inr (List.mem_of_getElem? (i := 169) (by decide +kernel))⟩
theorem fl3_15 : FL RX3 15 3 1 true := ⟨_, _, _, ci3, by omega, rfl, Or.inl (List.mem_of_getElem? (i := 170) (by decide +kernel))⟩
theorem fl6_203 : FL RX6 203 3 1 true := ⟨_, _, _, ci3, by omega, rfl, Or.inr (List.mem_of_getElem? (i := 171) (by decide +kernel))⟩
theorem fl3_18 : FL RX3 18 3 2 false := ⟨_, _, _, ci3, by omega, rfl, Or.inl (List.mem_of_getElem? (i := 172) (by decide +kernel))⟩
theorem fl4_66 : FL RX4 66 3 2 false := ⟨_, _, _, ci3, by omega, rfl, Or.inr (List.mem_of_getElem? (i := 173) (by decide +kernel))⟩
theorem fl0_41 : FL RX0 41 3 2 false := ⟨_, _, _, ci3, by omega, rfl, Or.inr (List.mem_of_getElem? (i := 174) (by decide +kernel))⟩
theorem fl6_68 : FL RX6 68 3 2 false := ⟨_, _, _, ci3, by omega, rfl, Or.inr (List.mem_of_getElem? (i := 175) (by decide +kernel))⟩
theorem fl3_22 : FL RX3 22 3 3 false := ⟨_, _, _, ci3, by omega, rfl, Or.inl (List.mem_of_getElem? (i := 176) (by decide +kernel))⟩
theorem fl6_284 : FL RX6 284 3 3 false := ⟨_, _, _, ci3, by omega, rfl, Or.inr (List.mem_of_getElem? (i := 177) (by decide +kernel))⟩
theorem fl0_9 : FL RX0 9 0 0 true := ⟨_, _, _, ci0, by omega, rfl, Or.inl (List.mem_of_getElem? (i := 203) (by decide +kernel))⟩
theorem fl4_119 : FL RX4 119 0 0 true := ⟨_, _, _, ci0, by omega, rfl, Or.inr (List.mem_of_getElem? (i := 204) (by decide +kernel))⟩
theorem fl6_146 : FL RX6 146 0 0 true := ⟨_, _, _, ci0, by omega, rfl, Or.inr (List.mem_of_getElem? (i := 205) (by decide +kernel))⟩
theorem fl0_15 : FL RX0 15 0 1 true := ⟨_, _, _, ci0, by omega, rfl, Or.inl (List.mem_of_getElem? (i := 206) (by decide +kernel))⟩
theorem fl4_90 : FL RX4 90 0 1 true := ⟨_, _, _, ci0, by omega, rfl, Or.inr (List.mem_of_getElem? (i := 207) (by decide +kernel))⟩
theorem fl6_156 : FL RX6 156 0 1 true := ⟨_, _, _, ci0, by omega, rfl, Or.inr (List.mem_of_getElem? (i := 208) (by decide +kernel))⟩
theorem fl0_21 : FL RX0 21 0 2 false := ⟨_, _, _, ci0, by omega, rfl, Or.inl (List.mem_of_getElem? (i := 209) (by decide +kernel))⟩
theorem fl4_75 : FL RX4 75 0 2 false := ⟨_, _, _, ci0, by omega, rfl, Or.inr (List.mem_of_getElem? (i := 210) (by decide +kernel))⟩
theorem fl6_119 : FL RX6 119 0 2 false := ⟨_, _, _, ci0, by omega, rfl, Or.inr (List.mem_of_getElem? (i := 211) (by decide +kernel))⟩
theorem fl0_25 : FL RX0 25 0 3 false := ⟨_, _, _, ci0, by omega, rfl, Or.inl (List.mem_of_getElem? (i := 212) (by decide +kernel))⟩
theorem fl0_18 : FL RX0 18 0 4 true := ⟨_, _, _, ci0, by omega, rfl, Or.inl (List.mem_of_getElem? (i := 213) (by decide +kernel))⟩
theorem fl0_44 : FL RX0 44 0 5 false := ⟨_, _, _, ci0, by omega, rfl, Or.inl (List.mem_of_getElem? (i := 214) (by decide +kernel))⟩
theorem fl2_9 : FL RX2 9 2 0 true := ⟨_, _, _, ci2, by omega, rfl, Or.inl (List.mem_of_getElem? (i := 242) (by decide +kernel))⟩
theorem fl1_127 : FL RX1 127 2 0 true := ⟨_, _, _, ci2, by omega, rfl, Or.inr (List.mem_of_getElem? (i := 243) (by decide +kernel))⟩
theorem fl6_213 : FL RX6 213 2 0 true := ⟨_, _, _, ci2, by omega, rfl, Or.inr (List.mem_of_getElem? (i := 244) (by decide +kernel))⟩
theorem fl2_24 : FL RX2 24 2 1 false := ⟨_, _, _, ci2, by omega, rfl, Or.inl (List.mem_of_getElem? (i := 245) (by decide +kernel))⟩
theorem fl2_28 : FL RX2 28 2 2 false := ⟨_, _, _, ci2, by omega, rfl, Or.inl (List.mem_of_getElem? (i := 246) (by decide +kernel))⟩
theorem fl1_118 : FL RX1 118 2 2 false := ⟨_, _, _, ci2, by omega, rfl, Or.inr (List.mem_of_getElem? (i := 247) (by decide +kernel))⟩
theorem fl5_9 : FL RX5 9 5 0 true := ⟨_, _, _, ci5, by omega, rfl, Or.inl (List.mem_of_getElem? (i := 264) (by decide +kernel))⟩
theorem fl5_15 : FL RX5 15 5 1 false := ⟨_, _, _, ci5, by omega, rfl, Or.inl (List.mem_of_getElem? (i := 265) (by decide +kernel))⟩
theorem fl5_19 : FL RX5 19 5 2 false := ⟨_, _, _, ci5, by omega, rfl, Or.inl (List.mem_of_getElem? (i := 266) (by decide +kernel))⟩
theorem fl1_55 : FL RX1 55 1 0 false := ⟨_, _, _, ci1, by omega, rfl, Or.inl (List.mem_of_getElem? (i := 274) (by decide +kernel))⟩
theorem fl1_58 : FL RX1 58 1 1 false := ⟨_, _, _, ci1, by omega, rfl, Or.inl (List.mem_of_getElem? (i := 275) (by decide +kernel))⟩
theorem fl6_183 : FL RX6 183 1 1 false := ⟨_, _, _, ci1, by omega, rfl, Or.inr (List.mem_of_getElem? (i := 276) (by decide +kernel))⟩
theorem fl1_9 : FL RX1 9 1 2 false := ⟨_, _, _, ci1, by omega, rfl, Or.inl (List.mem_of_getElem? (i := 277) (by decide +kernel))⟩
theorem fl1_61 : FL RX1 61 1 3 false := ⟨_, _, _, ci1, by omega, rfl, Or.inl (List.mem_of_getElem? (i := 278) (by decide +kernel))⟩
theorem fl6_186 : FL RX6 186 1 3 false := ⟨_, _, _, ci1, by omega, rfl, Or.inr (List.mem_of_getElem? (i := 279) (by decide +kernel))⟩
theorem fl1_17 : FL RX1 17 1 4 true := ⟨_, _, _, ci1, by omega, rfl, Or.inl (List.mem_of_getElem? (i := 280) (by decide +kernel))⟩
theorem fl6_166 : FL RX6 166 1 4 true := ⟨_, _, _, ci1, by omega, rfl, Or.inr (List.mem_of_getElem? (i := 281) (by decide +kernel))⟩
theorem fl1_48 : FL RX1 48 1 5 true := ⟨_, _, _, ci1, by omega, rfl, Or.inl (List.mem_of_getElem? (i := 282) (by decide +kernel))⟩
theorem fl1_51 : FL RX1 51 1 6 true := ⟨_, _, _, ci1, by omega, rfl, Or.inl (List.mem_of_getElem? (i := 283) (by decide +kernel))⟩
theorem fl1_65 : FL RX1 65 1 7 false := ⟨_, _, _, ci1, by omega, rfl, Or.inl (List.mem_of_getElem? (i := 284) (by decide +kernel))⟩
theorem fl1_71 : FL RX1 71 1 8 false := ⟨_, _, _, ci1, by omega, rfl, Or.inl (List.mem_of_getElem? (i := 285) (by decide +kernel))⟩
theorem fl4_87 : FL RX4 87 1 8 false := ⟨_, _, _, ci1, by omega, rfl, Or.inr (List.mem_of_getElem? (i := 286) (by decide +kernel))⟩
theorem fl6_241 : FL RX6 241 1 8 false := ⟨_, _, _, ci1, by omega, rfl, Or.inr (List.mem_of_getElem? (i := 287) (by decide +kernel))⟩
theorem fl1_74 : FL RX1 74 1 9 false := ⟨_, _, _, ci1, by omega, rfl, Or.inl (List.mem_of_getElem? (i := 288) (by decide +kernel))⟩
theorem fl6_180 : FL RX6 180 1 9 false := ⟨_, _, _, ci1, by omega, rfl, Or.inr (List.mem_of_getElem? (i := 289) (by decide +kernel))⟩
theorem fl1_21 : FL RX1 21 1 10 true := ⟨_, _, _, ci1, by omega, rfl, Or.inl (List.mem_of_getElem? (i := 290) (by decide +kernel))⟩
theorem fl1_77 : FL RX1 77 1 11 false := ⟨_, _, _, ci1, by omega, rfl, Or.inl (List.mem_of_getElem? (i := 291) (by decide +kernel))⟩
theorem fl1_25 : FL RX1 25 1 12 true := ⟨_, _, _, ci1, by omega, rfl, Or.inl (List.mem_of_getElem? (i := 292) (by decide +kernel))⟩
theorem fl6_132 : FL RX6 132 1 12 true := ⟨_, _, _, ci1, by omega, rfl, Or.inr (List.mem_of_getElem? (i := 293) (by decide +kernel))⟩
theorem fl1_29 : FL RX1 29 1 13 true := ⟨_, _, _, ci1, by omega, rfl, Or.inl (List.mem_of_getElem? (i := 294) (by decide +kernel))⟩
theorem fl4_136 : FL RX4 136 1 13 true := ⟨_, _, _, ci1, by omega, rfl, Or.inr (List.mem_of_getElem? (i := 295) (by decide +kernel))⟩
theorem fl1_139 : FL RX1 139 1 14 false := ⟨_, _, _, ci1, by omega, rfl, Or.inl (List.mem_of_getElem? (i := 296) (by decide +kernel))⟩
theorem fl4_128 : FL RX4 128 1 15 false := ⟨_, _, _, ci1, by omega, rfl, Or.inr (List.mem_of_getElem? (i := 297) (by decide +kernel))⟩
theorem fl1_152 : FL RX1 152 1 15 false := ⟨_, _, _, ci1, by omega, rfl, Or.inl (List.mem_of_getElem? (i := 298) (by decide +kernel))⟩
theorem fl4_112 : FL RX4 112 1 16 false := ⟨_, _, _, ci1, by omega, rfl, Or.inr (List.mem_of_getElem? (i := 299) (by decide +kernel))⟩
theorem fl1_165 : FL RX1 165 1 16 false := ⟨_, _, _, ci1, by omega, rfl, Or.inl (List.mem_of_getElem? (i := 300) (by decide +kernel))⟩
theorem fl6_250 : FL RX6 250 1 16 false := ⟨_, _, _, ci1, by omega, rfl, Or.inr (List.mem_of_getElem? (i := 301) (by decide +kernel))⟩
theorem fl1_35 : FL RX1 35 1 17 true := ⟨_, _, _, ci1, by omega, rfl, Or.inl (List.mem_of_getElem? (i := 302) (by decide +kernel))⟩
theorem fl1_39 : FL RX1 39 1 18 true := ⟨_, _, _, ci1, by omega, rfl, Or.inl (List.mem_of_getElem? (i := 303) (by decide +kernel))⟩
theorem fl4_12 : FL RX4 12 4 0 true := ⟨_, _, _, ci4, by omega, rfl, Or.inl (List.mem_of_getElem? (i := 343) (by decide +kernel))⟩
theorem fl6_64 : FL RX6 64 4 0 true := ⟨_, _, _, ci4, by omega, rfl, Or.inr (List.mem_of_getElem? (i := 344) (by decide +kernel))⟩
theorem fl4_27 : FL RX4 27 4 1 true := ⟨_, _, _, ci4, by omega, rfl, Or.inl (List.mem_of_getElem? (i := 345) (by decide +kernel))⟩
theorem fl6_103 : FL RX6 103 4 1 true := ⟨_, _, _, ci4, by omega, rfl, Or.inr (List.mem_of_getElem? (i := 346) (by decide +kernel))⟩
theorem fl4_62 : FL RX4 62 4 2 false := ⟨_, _, _, ci4, by omega, rfl, Or.inl (List.mem_of_getElem? (i := 347) (by decide +kernel))⟩
theorem fl6_79 : FL RX6 79 4 2 false := ⟨_, _, _, ci4, by omega, rfl, Or.inr (List.mem_of_getElem? (i := 348) (by decide +kernel))⟩
theorem fl4_33 : FL RX4 33 4 3 true := ⟨_, _, _, ci4, by omega, rfl, Or.inl (List.mem_of_getElem? (i := 349) (by decide +kernel))⟩
theorem fl6_115 : FL RX6 115 4 3 true := ⟨_, _, _, ci4, by omega, rfl, Or.inr (List.mem_of_getElem? (i := 350) (by decide +kernel))⟩
theorem fl4_42 : FL RX4 42 4 4 true := ⟨_, _, _, ci4, by omega, rfl, Or.inl (List.mem_of_getElem? (i := 351) (by decide +kernel))⟩
theorem fl6_129 : FL RX6 129 4 4 true := ⟨_, _, _, ci4, by omega, rfl, Or.inr (List.mem_of_getElem? (i := 352) (by decide +kernel))⟩
theorem fl4_46 : FL RX4 46 4 5 true := ⟨_, _, _, ci4, by omega, rfl, Or.inl (List.mem_of_getElem? (i := 353) (by decide +kernel))⟩
theorem fl4_49 : FL RX4 49 4 6 true := ⟨_, _, _, ci4, by omega, rfl, Or.inl (List.mem_of_getElem? (i := 354) (by decide +kernel))⟩
theorem fl6_9 : FL RX6 9 6 0 true := ⟨_, _, _, ci6, by omega, rfl, Or.inl (List.mem_of_getElem? (i := 375) (by decide +kernel))⟩
theorem fl6_57 : FL RX6 57 6 1 false := ⟨_, _, _, ci6, by omega, rfl, Or.inl (List.mem_of_getElem? (i := 376) (by decide +kernel))⟩
theorem fl6_86 : FL RX6 86 6 2 false := ⟨_, _, _, ci6, by omega, rfl, Or.inl (List.mem_of_getElem? (i := 377) (by decide +kernel))⟩
theorem fl6_16 : FL RX6 16 6 3 true := ⟨_, _, _, ci6, by omega, rfl, Or.inl (List.mem_of_getElem? (i := 378) (by decide +kernel))⟩
theorem fl6_20 : FL RX6 20 6 4 true := ⟨_, _, _, ci6, by omega, rfl, Or.inl (List.mem_of_getElem? (i := 379) (by decide +kernel))⟩
theorem fl6_24 : FL RX6 24 6 5 true := ⟨_, _, _, ci6, by omega, rfl, Or.inl (List.mem_of_getElem? (i := 380) (by decide +kernel))⟩
theorem fl6_308 : FL RX6 308 6 6 false := ⟨_, _, _, ci6, by omega, rfl, Or.inl (List.mem_of_getElem? (i := 381) (by decide +kernel))⟩
theorem fl6_302 : FL RX6 302 6 7 false := ⟨_, _, _, ci6, by omega, rfl, Or.inl (List.mem_of_getElem? (i := 382) (by decide +kernel))⟩
theorem fl6_27 : FL RX6 27 6 8 true := ⟨_, _, _, ci6, by omega, rfl, Or.inl (List.mem_of_getElem? (i := 383) (by decide +kernel))⟩
theorem fl6_30 : FL RX6 30 6 9 true := ⟨_, _, _, ci6, by omega, rfl, Or.inl (List.mem_of_getElem? (i := 384) (by decide +kernel))⟩
theorem fl6_39 : FL RX6 39 6 10 true := ⟨_, _, _, ci6, by omega, rfl, Or.inl (List.mem_of_getElem? (i := 385) (by decide +kernel))⟩
theorem fl6_46 : FL RX6 46 6 11 true := ⟨_, _, _, ci6, by omega, rfl, Or.inl (List.mem_of_getElem? (i := 386) (by decide +kernel))⟩
theorem fl6_50 : FL RX6 50 6 12 true := ⟨_, _, _, ci6, by omega, rfl, Or.inl (List.mem_of_getElem? (i := 387) (by decide +kernel))⟩
theorem fl6_53 : FL RX6 53 6 13 true := ⟨_, _, _, ci6, by omega, rfl, Or.inl (List.mem_of_getElem? (i := 388) (by decide +kernel))⟩
theorem mlL_13 : MV RL 13 6 yX6_feed cX6_feed 6 (some .int) 5 := ⟨⟨(List.mem_of_getElem? (i := 138) (by decide +kernel)), (List.mem_of_getElem? (i := 422) (by decide +kernel)), by decide +kernel, by decide +kernel⟩, ⟨_, _, ci6⟩, (List.mem_of_getElem? (i := 420) (by decide +kernel)), (List.mem_of_getElem? (i := 421) (by decide +kernel)), Or.inl (List.mem_of_getElem? (i := 419) (by decide +kernel))⟩
theorem ml6_61 : MV RX6 61 6 yX6_takeBytes cX6_takeBytes 3 none 1 := ⟨⟨(List.mem_of_getElem? (i := 138) (by decide +kernel)), (List.mem_of_getElem? (i := 426) (by decide +kernel)), by decide +kernel, by decide +kernel⟩, ⟨_, _, ci6⟩, (List.mem_of_getElem? (i := 425) (by decide +kernel)), (List.mem_of_getElem? (i := 0) (by decide +kernel)), Or.inl (List.mem_of_getElem? (i := 423) (by decide +kernel))⟩
theorem mlL_18 : MV RL 18 6 yX6_end cX6_end 2 (some .int) 1 := ⟨⟨(List.mem_of_getElem? (i := 138) (by decide +kernel)), (List.mem_of_getElem? (i := 430) (by decide +kernel)), by decide +kernel, by decide +kernel⟩, ⟨_, _, ci6⟩, (List.mem_of_getElem? (i := 428) (by decide +kernel)), (List.mem_of_getElem? (i := 429) (by decide +kernel)), Or.inl (List.mem_of_getElem? (i := 427) (by decide +kernel))⟩
theorem mlL_23 : MV RL 23 6 yX6_tell cX6_tell 2 (some .int) 0 := ⟨⟨(List.mem_of_getElem? (i := 138) (by decide +kernel)), (List.mem_of_getElem? (i := 434) (by decide +kernel)), by decide +kernel, by decide +kernel⟩, ⟨_, _, ci6⟩, (List.mem_of_getElem? (i := 432) (by decide +kernel)), (List.mem_of_getElem? (i := 433) (by decide +kernel)), Or.inl (List.mem_of_getElem? (i := 431) (by decide +kernel))⟩
theorem ml6_73 : MV RX6 73 6 yX6_remember cX6_remember 1 none 0 := ⟨⟨(List.mem_of_getElem? (i := 138) (by decide +kernel)), (List.mem_of_getElem? (i := 438) (by decide +kernel)), by decide +kernel, by decide +kernel⟩, ⟨_, _, ci6⟩, (List.mem_of_getElem? (i := 437) (by decide +kernel)), (List.mem_of_getElem? (i := 1) (by decide +kernel)), Or.inl (List.mem_of_getElem? (i := 435) (by decide +kernel))⟩
theorem ml6_305 : MV RX6 305 4 yX4_copyFrom cX4_copyFrom 2 none 1 := ⟨⟨(List.mem_of_getElem? (i := 139) (by decide +kernel)), (List.mem_of_getElem? (i := 442) (by decide +kernel)), by decide +kernel, by decide +kernel⟩, ⟨_, _, ci4⟩, (List.mem_of_getElem? (i := 441) (by decide +kernel)), (List.mem_of_getElem? (i := 2) (by decide +kernel)), Or.inr (List.mem_of_getElem? (i := 439) (by decide +kernel))⟩
theorem ml4_52 : MV RX4 52 3 yX3_copyFrom cX3_copyFrom 2 none 1 := ⟨⟨(List.mem_of_getElem? (i := 140) (by decide +kernel)), (List.mem_of_getElem? (i := 446) (by decide +kernel)), by decide +kernel, by decide +kernel⟩, ⟨_, _, ci3⟩, (List.mem_of_getElem? (i := 445) (by decide +kernel)), (List.mem_of_getElem? (i := 3) (by decide +kernel)), Or.inr (List.mem_of_getElem? (i := 443) (by decide +kernel))⟩
theorem ml4_69 : MV RX4 69 0 yX0_copyFrom cX0_copyFrom 3 none 2 := ⟨⟨(List.mem_of_getElem? (i := 141) (by decide +kernel)), (List.mem_of_getElem? (i := 454) (by decide +kernel)), by decide +kernel, by decide +kernel⟩, ⟨_, _, ci0⟩, (List.mem_of_getElem? (i := 453) (by decide +kernel)), (List.mem_of_getElem? (i := 4) (by decide +kernel)), Or.inr (List.mem_of_getElem? (i := 451) (by decide +kernel))⟩
theorem ml4_72 : MV RX4 72 1 yX1_copyFrom cX1_copyFrom 3 none 1 := ⟨⟨(List.mem_of_getElem? (i := 142) (by decide +kernel)), (List.mem_of_getElem? (i := 459) (by decide +kernel)), by decide +kernel, by decide +kernel⟩, ⟨_, _, ci1⟩, (List.mem_of_getElem? (i := 458) (by decide +kernel)), (List.mem_of_getElem? (i := 5) (by decide +kernel)), Or.inr (List.mem_of_getElem? (i := 456) (by decide +kernel))⟩
theorem ml1_86 : MV RX1 86 5 yX5_copyFrom cX5_copyFrom 2 none 1 := ⟨⟨(List.mem_of_getElem? (i := 145) (by decide +kernel)), (List.mem_of_getElem? (i := 467) (by decide +kernel)), by decide +kernel, by decide +kernel⟩, ⟨_, _, ci5⟩, (List.mem_of_getElem? (i := 466) (by decide +kernel)), (List.mem_of_getElem? (i := 6) (by decide +kernel)), Or.inr (List.mem_of_getElem? (i := 464) (by decide +kernel))⟩
theorem ml6_76 : MV RX6 76 3 yX3_add cX3_add 3 none 1 := ⟨⟨(List.mem_of_getElem? (i := 140) (by decide +kernel)), (List.mem_of_getElem? (i := 473) (by decide +kernel)), by decide +kernel, by decide +kernel⟩, ⟨_, _, ci3⟩, (List.mem_of_getElem? (i := 472) (by decide +kernel)), (List.mem_of_getElem? (i := 7) (by decide +kernel)), Or.inr (List.mem_of_getElem? (i := 470) (by decide +kernel))⟩
theorem mlL_28 : MV RL 28 6 yX6_drawn cX6_drawn 4 (some .int) 2 := ⟨⟨(List.mem_of_getElem? (i := 138) (by decide +kernel)), (List.mem_of_getElem? (i := 477) (by decide +kernel)), by decide +kernel, by decide +kernel⟩, ⟨_, _, ci6⟩, (List.mem_of_getElem? (i := 475) (by decide +kernel)), (List.mem_of_getElem? (i := 476) (by decide +kernel)), Or.inl (List.mem_of_getElem? (i := 474) (by decide +kernel))⟩
theorem ml6_82 : MV RX6 82 6 yX6_drawOf cX6_drawOf 2 (some .int) 1 := ⟨⟨(List.mem_of_getElem? (i := 138) (by decide +kernel)), (List.mem_of_getElem? (i := 481) (by decide +kernel)), by decide +kernel, by decide +kernel⟩, ⟨_, _, ci6⟩, (List.mem_of_getElem? (i := 480) (by decide +kernel)), (List.mem_of_getElem? (i := 8) (by decide +kernel)), Or.inl (List.mem_of_getElem? (i := 478) (by decide +kernel))⟩
theorem mlL_33 : MV RL 33 6 yX6_draws cX6_draws 3 (some .int) 1 := ⟨⟨(List.mem_of_getElem? (i := 138) (by decide +kernel)), (List.mem_of_getElem? (i := 489) (by decide +kernel)), by decide +kernel, by decide +kernel⟩, ⟨_, _, ci6⟩, (List.mem_of_getElem? (i := 487) (by decide +kernel)), (List.mem_of_getElem? (i := 488) (by decide +kernel)), Or.inl (List.mem_of_getElem? (i := 486) (by decide +kernel))⟩
theorem mlL_37 : MV RL 37 6 yX6_clear cX6_clear 2 (some .int) 0 := ⟨⟨(List.mem_of_getElem? (i := 138) (by decide +kernel)), (List.mem_of_getElem? (i := 493) (by decide +kernel)), by decide +kernel, by decide +kernel⟩, ⟨_, _, ci6⟩, (List.mem_of_getElem? (i := 491) (by decide +kernel)), (List.mem_of_getElem? (i := 492) (by decide +kernel)), Or.inl (List.mem_of_getElem? (i := 490) (by decide +kernel))⟩
theorem ml6_96 : MV RX6 96 3 yX3_wipe cX3_wipe 1 none 0 := ⟨⟨(List.mem_of_getElem? (i := 140) (by decide +kernel)), (List.mem_of_getElem? (i := 497) (by decide +kernel)), by decide +kernel, by decide +kernel⟩, ⟨_, _, ci3⟩, (List.mem_of_getElem? (i := 496) (by decide +kernel)), (List.mem_of_getElem? (i := 9) (by decide +kernel)), Or.inr (List.mem_of_getElem? (i := 494) (by decide +kernel))⟩
theorem mlL_41 : MV RL 41 6 yX6_settle cX6_settle 4 (some .int) 2 := ⟨⟨(List.mem_of_getElem? (i := 138) (by decide +kernel)), (List.mem_of_getElem? (i := 501) (by decide +kernel)), by decide +kernel, by decide +kernel⟩, ⟨_, _, ci6⟩, (List.mem_of_getElem? (i := 499) (by decide +kernel)), (List.mem_of_getElem? (i := 500) (by decide +kernel)), Or.inl (List.mem_of_getElem? (i := 498) (by decide +kernel))⟩
theorem ml6_99 : MS RX6 99 yX6_fits cX6_fits 2 (some .boolean) 2 := ⟨⟨(List.mem_of_getElem? (i := 138) (by decide +kernel)), (List.mem_of_getElem? (i := 504) (by decide +kernel)), by decide +kernel, by decide +kernel⟩, (List.mem_of_getElem? (i := 503) (by decide +kernel)), (List.mem_of_getElem? (i := 502) (by decide +kernel))⟩
theorem mlL_45 : MV RL 45 6 yX6_grow cX6_grow 1 (some .int) 0 := ⟨⟨(List.mem_of_getElem? (i := 138) (by decide +kernel)), (List.mem_of_getElem? (i := 512) (by decide +kernel)), by decide +kernel, by decide +kernel⟩, ⟨_, _, ci6⟩, (List.mem_of_getElem? (i := 510) (by decide +kernel)), (List.mem_of_getElem? (i := 511) (by decide +kernel)), Or.inl (List.mem_of_getElem? (i := 509) (by decide +kernel))⟩
theorem ml6_112 : MV RX6 112 4 yX4_growRuns cX4_growRuns 1 none 0 := ⟨⟨(List.mem_of_getElem? (i := 139) (by decide +kernel)), (List.mem_of_getElem? (i := 516) (by decide +kernel)), by decide +kernel, by decide +kernel⟩, ⟨_, _, ci4⟩, (List.mem_of_getElem? (i := 515) (by decide +kernel)), (List.mem_of_getElem? (i := 10) (by decide +kernel)), Or.inr (List.mem_of_getElem? (i := 513) (by decide +kernel))⟩
theorem ml4_76 : MV RX4 76 0 yX0_growFrom cX0_growFrom 7 none 3 := ⟨⟨(List.mem_of_getElem? (i := 141) (by decide +kernel)), (List.mem_of_getElem? (i := 520) (by decide +kernel)), by decide +kernel, by decide +kernel⟩, ⟨_, _, ci0⟩, (List.mem_of_getElem? (i := 519) (by decide +kernel)), (List.mem_of_getElem? (i := 11) (by decide +kernel)), Or.inr (List.mem_of_getElem? (i := 517) (by decide +kernel))⟩
theorem ml0_47 : MV RX0 47 0 yX0_nextOut cX0_nextOut 5 (some .int) 2 := ⟨⟨(List.mem_of_getElem? (i := 141) (by decide +kernel)), (List.mem_of_getElem? (i := 525) (by decide +kernel)), by decide +kernel, by decide +kernel⟩, ⟨_, _, ci0⟩, (List.mem_of_getElem? (i := 524) (by decide +kernel)), (List.mem_of_getElem? (i := 12) (by decide +kernel)), Or.inl (List.mem_of_getElem? (i := 522) (by decide +kernel))⟩
theorem ml0_55 : MV RX0 55 3 yX3_isLess cX3_isLess 3 (some .boolean) 2 := ⟨⟨(List.mem_of_getElem? (i := 140) (by decide +kernel)), (List.mem_of_getElem? (i := 529) (by decide +kernel)), by decide +kernel, by decide +kernel⟩, ⟨_, _, ci3⟩, (List.mem_of_getElem? (i := 528) (by decide +kernel)), (List.mem_of_getElem? (i := 13) (by decide +kernel)), Or.inr (List.mem_of_getElem? (i := 526) (by decide +kernel))⟩
theorem ml0_59 : MV RX0 59 0 yX0_falls cX0_falls 2 (some .boolean) 1 := ⟨⟨(List.mem_of_getElem? (i := 141) (by decide +kernel)), (List.mem_of_getElem? (i := 533) (by decide +kernel)), by decide +kernel, by decide +kernel⟩, ⟨_, _, ci0⟩, (List.mem_of_getElem? (i := 532) (by decide +kernel)), (List.mem_of_getElem? (i := 14) (by decide +kernel)), Or.inl (List.mem_of_getElem? (i := 530) (by decide +kernel))⟩
theorem ml0_51 : MV RX0 51 0 yX0_goesOn cX0_goesOn 4 (some .boolean) 3 := ⟨⟨(List.mem_of_getElem? (i := 141) (by decide +kernel)), (List.mem_of_getElem? (i := 537) (by decide +kernel)), by decide +kernel, by decide +kernel⟩, ⟨_, _, ci0⟩, (List.mem_of_getElem? (i := 536) (by decide +kernel)), (List.mem_of_getElem? (i := 15) (by decide +kernel)), Or.inl (List.mem_of_getElem? (i := 534) (by decide +kernel))⟩
theorem mlL_49 : MV RL 49 6 yX6_spread cX6_spread 1 (some .int) 0 := ⟨⟨(List.mem_of_getElem? (i := 138) (by decide +kernel)), (List.mem_of_getElem? (i := 541) (by decide +kernel)), by decide +kernel, by decide +kernel⟩, ⟨_, _, ci6⟩, (List.mem_of_getElem? (i := 539) (by decide +kernel)), (List.mem_of_getElem? (i := 540) (by decide +kernel)), Or.inl (List.mem_of_getElem? (i := 538) (by decide +kernel))⟩
theorem ml6_122 : MV RX6 122 6 yX6_canPlan cX6_canPlan 1 (some .boolean) 0 := ⟨⟨(List.mem_of_getElem? (i := 138) (by decide +kernel)), (List.mem_of_getElem? (i := 545) (by decide +kernel)), by decide +kernel, by decide +kernel⟩, ⟨_, _, ci6⟩, (List.mem_of_getElem? (i := 544) (by decide +kernel)), (List.mem_of_getElem? (i := 16) (by decide +kernel)), Or.inl (List.mem_of_getElem? (i := 542) (by decide +kernel))⟩
theorem ml6_221 : MS RX6 221 yX6_canSpread cX6_canSpread 2 (some .boolean) 2 := ⟨⟨(List.mem_of_getElem? (i := 138) (by decide +kernel)), (List.mem_of_getElem? (i := 548) (by decide +kernel)), by decide +kernel, by decide +kernel⟩, (List.mem_of_getElem? (i := 547) (by decide +kernel)), (List.mem_of_getElem? (i := 546) (by decide +kernel))⟩
theorem ml6_126 : MV RX6 126 4 yX4_spreadRuns cX4_spreadRuns 2 none 0 := ⟨⟨(List.mem_of_getElem? (i := 139) (by decide +kernel)), (List.mem_of_getElem? (i := 552) (by decide +kernel)), by decide +kernel, by decide +kernel⟩, ⟨_, _, ci4⟩, (List.mem_of_getElem? (i := 551) (by decide +kernel)), (List.mem_of_getElem? (i := 17) (by decide +kernel)), Or.inr (List.mem_of_getElem? (i := 549) (by decide +kernel))⟩
theorem ml4_80 : MV RX4 80 1 yX1_begin cX1_begin 5 none 3 := ⟨⟨(List.mem_of_getElem? (i := 142) (by decide +kernel)), (List.mem_of_getElem? (i := 556) (by decide +kernel)), by decide +kernel, by decide +kernel⟩, ⟨_, _, ci1⟩, (List.mem_of_getElem? (i := 555) (by decide +kernel)), (List.mem_of_getElem? (i := 18) (by decide +kernel)), Or.inr (List.mem_of_getElem? (i := 553) (by decide +kernel))⟩
theorem ml1_90 : MV RX1 90 5 yX5_wipe cX5_wipe 1 none 0 := ⟨⟨(List.mem_of_getElem? (i := 145) (by decide +kernel)), (List.mem_of_getElem? (i := 560) (by decide +kernel)), by decide +kernel, by decide +kernel⟩, ⟨_, _, ci5⟩, (List.mem_of_getElem? (i := 559) (by decide +kernel)), (List.mem_of_getElem? (i := 19) (by decide +kernel)), Or.inr (List.mem_of_getElem? (i := 557) (by decide +kernel))⟩
theorem ml4_84 : MV RX4 84 4 yX4_layRuns cX4_layRuns 3 none 1 := ⟨⟨(List.mem_of_getElem? (i := 139) (by decide +kernel)), (List.mem_of_getElem? (i := 564) (by decide +kernel)), by decide +kernel, by decide +kernel⟩, ⟨_, _, ci4⟩, (List.mem_of_getElem? (i := 563) (by decide +kernel)), (List.mem_of_getElem? (i := 20) (by decide +kernel)), Or.inl (List.mem_of_getElem? (i := 561) (by decide +kernel))⟩
theorem ml4_93 : MV RX4 93 0 yX0_falls cX0_falls 2 (some .boolean) 1 := ⟨⟨(List.mem_of_getElem? (i := 141) (by decide +kernel)), (List.mem_of_getElem? (i := 533) (by decide +kernel)), by decide +kernel, by decide +kernel⟩, ⟨_, _, ci0⟩, (List.mem_of_getElem? (i := 532) (by decide +kernel)), (List.mem_of_getElem? (i := 14) (by decide +kernel)), Or.inr (List.mem_of_getElem? (i := 565) (by decide +kernel))⟩
theorem ml4_97 : MV RX4 97 1 yX1_load cX1_load 3 none 2 := ⟨⟨(List.mem_of_getElem? (i := 142) (by decide +kernel)), (List.mem_of_getElem? (i := 569) (by decide +kernel)), by decide +kernel, by decide +kernel⟩, ⟨_, _, ci1⟩, (List.mem_of_getElem? (i := 568) (by decide +kernel)), (List.mem_of_getElem? (i := 21) (by decide +kernel)), Or.inr (List.mem_of_getElem? (i := 566) (by decide +kernel))⟩
theorem ml4_101 : MV RX4 101 1 yX1_layOut cX1_layOut 2 none 1 := ⟨⟨(List.mem_of_getElem? (i := 142) (by decide +kernel)), (List.mem_of_getElem? (i := 573) (by decide +kernel)), by decide +kernel, by decide +kernel⟩, ⟨_, _, ci1⟩, (List.mem_of_getElem? (i := 572) (by decide +kernel)), (List.mem_of_getElem? (i := 22) (by decide +kernel)), Or.inr (List.mem_of_getElem? (i := 570) (by decide +kernel))⟩
theorem ml1_93 : MV RX1 93 1 yX1_dealByTurns cX1_dealByTurns 2 none 0 := ⟨⟨(List.mem_of_getElem? (i := 142) (by decide +kernel)), (List.mem_of_getElem? (i := 577) (by decide +kernel)), by decide +kernel, by decide +kernel⟩, ⟨_, _, ci1⟩, (List.mem_of_getElem? (i := 576) (by decide +kernel)), (List.mem_of_getElem? (i := 23) (by decide +kernel)), Or.inl (List.mem_of_getElem? (i := 574) (by decide +kernel))⟩
theorem ml1_110 : MV RX1 110 5 yX5_write cX5_write 2 none 1 := ⟨⟨(List.mem_of_getElem? (i := 145) (by decide +kernel)), (List.mem_of_getElem? (i := 581) (by decide +kernel)), by decide +kernel, by decide +kernel⟩, ⟨_, _, ci5⟩, (List.mem_of_getElem? (i := 580) (by decide +kernel)), (List.mem_of_getElem? (i := 24) (by decide +kernel)), Or.inr (List.mem_of_getElem? (i := 578) (by decide +kernel))⟩
theorem ml1_96 : MV RX1 96 2 yX2_climbFor cX2_climbFor 5 none 3 := ⟨⟨(List.mem_of_getElem? (i := 143) (by decide +kernel)), (List.mem_of_getElem? (i := 585) (by decide +kernel)), by decide +kernel, by decide +kernel⟩, ⟨_, _, ci2⟩, (List.mem_of_getElem? (i := 584) (by decide +kernel)), (List.mem_of_getElem? (i := 25) (by decide +kernel)), Or.inr (List.mem_of_getElem? (i := 582) (by decide +kernel))⟩
theorem ml2_34 : MV RX2 34 2 yX2_ground cX2_ground 3 none 1 := ⟨⟨(List.mem_of_getElem? (i := 143) (by decide +kernel)), (List.mem_of_getElem? (i := 589) (by decide +kernel)), by decide +kernel, by decide +kernel⟩, ⟨_, _, ci2⟩, (List.mem_of_getElem? (i := 588) (by decide +kernel)), (List.mem_of_getElem? (i := 26) (by decide +kernel)), Or.inl (List.mem_of_getElem? (i := 586) (by decide +kernel))⟩
theorem ml2_41 : MV RX2 41 2 yX2_together cX2_together 3 (some .int) 0 := ⟨⟨(List.mem_of_getElem? (i := 143) (by decide +kernel)), (List.mem_of_getElem? (i := 595) (by decide +kernel)), by decide +kernel, by decide +kernel⟩, ⟨_, _, ci2⟩, (List.mem_of_getElem? (i := 594) (by decide +kernel)), (List.mem_of_getElem? (i := 27) (by decide +kernel)), Or.inl (List.mem_of_getElem? (i := 592) (by decide +kernel))⟩
theorem ml2_38 : MV RX2 38 2 yX2_climb cX2_climb 4 none 1 := ⟨⟨(List.mem_of_getElem? (i := 143) (by decide +kernel)), (List.mem_of_getElem? (i := 599) (by decide +kernel)), by decide +kernel, by decide +kernel⟩, ⟨_, _, ci2⟩, (List.mem_of_getElem? (i := 598) (by decide +kernel)), (List.mem_of_getElem? (i := 28) (by decide +kernel)), Or.inl (List.mem_of_getElem? (i := 596) (by decide +kernel))⟩
theorem ml2_31 : MV RX2 31 2 yX2_climbCascade cX2_climbCascade 3 none 0 := ⟨⟨(List.mem_of_getElem? (i := 143) (by decide +kernel)), (List.mem_of_getElem? (i := 603) (by decide +kernel)), by decide +kernel, by decide +kernel⟩, ⟨_, _, ci2⟩, (List.mem_of_getElem? (i := 602) (by decide +kernel)), (List.mem_of_getElem? (i := 29) (by decide +kernel)), Or.inl (List.mem_of_getElem? (i := 600) (by decide +kernel))⟩
theorem ml1_100 : MV RX1 100 1 yX1_dealByNumbers cX1_dealByNumbers 4 none 1 := ⟨⟨(List.mem_of_getElem? (i := 142) (by decide +kernel)), (List.mem_of_getElem? (i := 607) (by decide +kernel)), by decide +kernel, by decide +kernel⟩, ⟨_, _, ci1⟩, (List.mem_of_getElem? (i := 606) (by decide +kernel)), (List.mem_of_getElem? (i := 30) (by decide +kernel)), Or.inl (List.mem_of_getElem? (i := 604) (by decide +kernel))⟩
theorem ml1_114 : MV RX1 114 2 yX2_together cX2_together 3 (some .int) 0 := ⟨⟨(List.mem_of_getElem? (i := 143) (by decide +kernel)), (List.mem_of_getElem? (i := 595) (by decide +kernel)), by decide +kernel, by decide +kernel⟩, ⟨_, _, ci2⟩, (List.mem_of_getElem? (i := 594) (by decide +kernel)), (List.mem_of_getElem? (i := 27) (by decide +kernel)), Or.inr (List.mem_of_getElem? (i := 608) (by decide +kernel))⟩
theorem ml1_121 : MV RX1 121 1 yX1_firstPlace cX1_firstPlace 2 (some .int) 0 := ⟨⟨(List.mem_of_getElem? (i := 142) (by decide +kernel)), (List.mem_of_getElem? (i := 612) (by decide +kernel)), by decide +kernel, by decide +kernel⟩, ⟨_, _, ci1⟩, (List.mem_of_getElem? (i := 611) (by decide +kernel)), (List.mem_of_getElem? (i := 31) (by decide +kernel)), Or.inl (List.mem_of_getElem? (i := 609) (by decide +kernel))⟩
theorem ml1_124 : MV RX1 124 1 yX1_fewestBlanks cX1_fewestBlanks 3 (some .int) 0 := ⟨⟨(List.mem_of_getElem? (i := 142) (by decide +kernel)), (List.mem_of_getElem? (i := 616) (by decide +kernel)), by decide +kernel, by decide +kernel⟩, ⟨_, _, ci1⟩, (List.mem_of_getElem? (i := 615) (by decide +kernel)), (List.mem_of_getElem? (i := 32) (by decide +kernel)), Or.inl (List.mem_of_getElem? (i := 613) (by decide +kernel))⟩
theorem ml1_130 : MV RX1 130 1 yX1_writeBlanks cX1_writeBlanks 3 none 0 := ⟨⟨(List.mem_of_getElem? (i := 142) (by decide +kernel)), (List.mem_of_getElem? (i := 620) (by decide +kernel)), by decide +kernel, by decide +kernel⟩, ⟨_, _, ci1⟩, (List.mem_of_getElem? (i := 619) (by decide +kernel)), (List.mem_of_getElem? (i := 33) (by decide +kernel)), Or.inl (List.mem_of_getElem? (i := 617) (by decide +kernel))⟩
theorem ml1_133 : MV RX1 133 1 yX1_mostPlaces cX1_mostPlaces 3 (some .int) 0 := ⟨⟨(List.mem_of_getElem? (i := 142) (by decide +kernel)), (List.mem_of_getElem? (i := 624) (by decide +kernel)), by decide +kernel, by decide +kernel⟩, ⟨_, _, ci1⟩, (List.mem_of_getElem? (i := 623) (by decide +kernel)), (List.mem_of_getElem? (i := 34) (by decide +kernel)), Or.inl (List.mem_of_getElem? (i := 621) (by decide +kernel))⟩
theorem ml1_104 : MV RX1 104 1 yX1_openPass cX1_openPass 2 none 0 := ⟨⟨(List.mem_of_getElem? (i := 142) (by decide +kernel)), (List.mem_of_getElem? (i := 628) (by decide +kernel)), by decide +kernel, by decide +kernel⟩, ⟨_, _, ci1⟩, (List.mem_of_getElem? (i := 627) (by decide +kernel)), (List.mem_of_getElem? (i := 35) (by decide +kernel)), Or.inl (List.mem_of_getElem? (i := 625) (by decide +kernel))⟩
theorem ml1_136 : MV RX1 136 5 yX5_size cX5_size 1 (some .int) 0 := ⟨⟨(List.mem_of_getElem? (i := 145) (by decide +kernel)), (List.mem_of_getElem? (i := 632) (by decide +kernel)), by decide +kernel, by decide +kernel⟩, ⟨_, _, ci5⟩, (List.mem_of_getElem? (i := 631) (by decide +kernel)), (List.mem_of_getElem? (i := 36) (by decide +kernel)), Or.inr (List.mem_of_getElem? (i := 629) (by decide +kernel))⟩
theorem ml1_107 : MV RX1 107 1 yX1_turnLast cX1_turnLast 3 none 0 := ⟨⟨(List.mem_of_getElem? (i := 142) (by decide +kernel)), (List.mem_of_getElem? (i := 636) (by decide +kernel)), by decide +kernel, by decide +kernel⟩, ⟨_, _, ci1⟩, (List.mem_of_getElem? (i := 635) (by decide +kernel)), (List.mem_of_getElem? (i := 37) (by decide +kernel)), Or.inl (List.mem_of_getElem? (i := 633) (by decide +kernel))⟩
theorem ml1_146 : MV RX1 146 5 yX5_at cX5_at 3 (some .int) 2 := ⟨⟨(List.mem_of_getElem? (i := 145) (by decide +kernel)), (List.mem_of_getElem? (i := 640) (by decide +kernel)), by decide +kernel, by decide +kernel⟩, ⟨_, _, ci5⟩, (List.mem_of_getElem? (i := 639) (by decide +kernel)), (List.mem_of_getElem? (i := 38) (by decide +kernel)), Or.inr (List.mem_of_getElem? (i := 637) (by decide +kernel))⟩
theorem ml5_28 : MV RX5 28 5 yX5_size cX5_size 1 (some .int) 0 := ⟨⟨(List.mem_of_getElem? (i := 145) (by decide +kernel)), (List.mem_of_getElem? (i := 632) (by decide +kernel)), by decide +kernel, by decide +kernel⟩, ⟨_, _, ci5⟩, (List.mem_of_getElem? (i := 631) (by decide +kernel)), (List.mem_of_getElem? (i := 36) (by decide +kernel)), Or.inl (List.mem_of_getElem? (i := 641) (by decide +kernel))⟩
theorem ml1_149 : MV RX1 149 1 yX1_isDown cX1_isDown 2 (some .boolean) 1 := ⟨⟨(List.mem_of_getElem? (i := 142) (by decide +kernel)), (List.mem_of_getElem? (i := 645) (by decide +kernel)), by decide +kernel, by decide +kernel⟩, ⟨_, _, ci1⟩, (List.mem_of_getElem? (i := 644) (by decide +kernel)), (List.mem_of_getElem? (i := 39) (by decide +kernel)), Or.inl (List.mem_of_getElem? (i := 642) (by decide +kernel))⟩
theorem mlL_53 : MV RL 53 6 yX6_step cX6_step 3 (some .int) 0 := ⟨⟨(List.mem_of_getElem? (i := 138) (by decide +kernel)), (List.mem_of_getElem? (i := 649) (by decide +kernel)), by decide +kernel, by decide +kernel⟩, ⟨_, _, ci6⟩, (List.mem_of_getElem? (i := 647) (by decide +kernel)), (List.mem_of_getElem? (i := 648) (by decide +kernel)), Or.inl (List.mem_of_getElem? (i := 646) (by decide +kernel))⟩
theorem ml6_135 : MV RX6 135 6 yX6_whyNoStep cX6_whyNoStep 1 (some .int) 0 := ⟨⟨(List.mem_of_getElem? (i := 138) (by decide +kernel)), (List.mem_of_getElem? (i := 653) (by decide +kernel)), by decide +kernel, by decide +kernel⟩, ⟨_, _, ci6⟩, (List.mem_of_getElem? (i := 652) (by decide +kernel)), (List.mem_of_getElem? (i := 40) (by decide +kernel)), Or.inl (List.mem_of_getElem? (i := 650) (by decide +kernel))⟩
theorem ml6_139 : MV RX6 139 4 yX4_mergeOnce cX4_mergeOnce 2 none 0 := ⟨⟨(List.mem_of_getElem? (i := 139) (by decide +kernel)), (List.mem_of_getElem? (i := 657) (by decide +kernel)), by decide +kernel, by decide +kernel⟩, ⟨_, _, ci4⟩, (List.mem_of_getElem? (i := 656) (by decide +kernel)), (List.mem_of_getElem? (i := 41) (by decide +kernel)), Or.inr (List.mem_of_getElem? (i := 654) (by decide +kernel))⟩
theorem ml4_105 : MV RX4 105 1 yX1_advance cX1_advance 4 none 0 := ⟨⟨(List.mem_of_getElem? (i := 142) (by decide +kernel)), (List.mem_of_getElem? (i := 661) (by decide +kernel)), by decide +kernel, by decide +kernel⟩, ⟨_, _, ci1⟩, (List.mem_of_getElem? (i := 660) (by decide +kernel)), (List.mem_of_getElem? (i := 42) (by decide +kernel)), Or.inr (List.mem_of_getElem? (i := 658) (by decide +kernel))⟩
theorem ml1_155 : MV RX1 155 1 yX1_look cX1_look 2 none 0 := ⟨⟨(List.mem_of_getElem? (i := 142) (by decide +kernel)), (List.mem_of_getElem? (i := 665) (by decide +kernel)), by decide +kernel, by decide +kernel⟩, ⟨_, _, ci1⟩, (List.mem_of_getElem? (i := 664) (by decide +kernel)), (List.mem_of_getElem? (i := 43) (by decide +kernel)), Or.inl (List.mem_of_getElem? (i := 662) (by decide +kernel))⟩
theorem ml1_142 : MV RX1 142 1 yX1_gives cX1_gives 2 (some .boolean) 1 := ⟨⟨(List.mem_of_getElem? (i := 142) (by decide +kernel)), (List.mem_of_getElem? (i := 669) (by decide +kernel)), by decide +kernel, by decide +kernel⟩, ⟨_, _, ci1⟩, (List.mem_of_getElem? (i := 668) (by decide +kernel)), (List.mem_of_getElem? (i := 44) (by decide +kernel)), Or.inl (List.mem_of_getElem? (i := 666) (by decide +kernel))⟩
theorem ml1_158 : MV RX1 158 5 yX5_drop cX5_drop 2 none 1 := ⟨⟨(List.mem_of_getElem? (i := 145) (by decide +kernel)), (List.mem_of_getElem? (i := 673) (by decide +kernel)), by decide +kernel, by decide +kernel⟩, ⟨_, _, ci5⟩, (List.mem_of_getElem? (i := 672) (by decide +kernel)), (List.mem_of_getElem? (i := 45) (by decide +kernel)), Or.inr (List.mem_of_getElem? (i := 670) (by decide +kernel))⟩
theorem ml5_32 : MV RX5 32 5 yX5_wipe cX5_wipe 1 none 0 := ⟨⟨(List.mem_of_getElem? (i := 145) (by decide +kernel)), (List.mem_of_getElem? (i := 560) (by decide +kernel)), by decide +kernel, by decide +kernel⟩, ⟨_, _, ci5⟩, (List.mem_of_getElem? (i := 559) (by decide +kernel)), (List.mem_of_getElem? (i := 19) (by decide +kernel)), Or.inl (List.mem_of_getElem? (i := 674) (by decide +kernel))⟩
theorem ml1_161 : MV RX1 161 1 yX1_sizeOf cX1_sizeOf 2 (some .int) 1 := ⟨⟨(List.mem_of_getElem? (i := 142) (by decide +kernel)), (List.mem_of_getElem? (i := 678) (by decide +kernel)), by decide +kernel, by decide +kernel⟩, ⟨_, _, ci1⟩, (List.mem_of_getElem? (i := 677) (by decide +kernel)), (List.mem_of_getElem? (i := 46) (by decide +kernel)), Or.inl (List.mem_of_getElem? (i := 675) (by decide +kernel))⟩
theorem ml1_168 : MV RX1 168 1 yX1_endBalancedPhase cX1_endBalancedPhase 2 none 0 := ⟨⟨(List.mem_of_getElem? (i := 142) (by decide +kernel)), (List.mem_of_getElem? (i := 682) (by decide +kernel)), by decide +kernel, by decide +kernel⟩, ⟨_, _, ci1⟩, (List.mem_of_getElem? (i := 681) (by decide +kernel)), (List.mem_of_getElem? (i := 47) (by decide +kernel)), Or.inl (List.mem_of_getElem? (i := 679) (by decide +kernel))⟩
theorem ml1_177 : MV RX1 177 1 yX1_givers cX1_givers 3 (some .int) 0 := ⟨⟨(List.mem_of_getElem? (i := 142) (by decide +kernel)), (List.mem_of_getElem? (i := 686) (by decide +kernel)), by decide +kernel, by decide +kernel⟩, ⟨_, _, ci1⟩, (List.mem_of_getElem? (i := 685) (by decide +kernel)), (List.mem_of_getElem? (i := 48) (by decide +kernel)), Or.inl (List.mem_of_getElem? (i := 683) (by decide +kernel))⟩
theorem ml1_180 : MV RX1 180 1 yX1_firstToWrite cX1_firstToWrite 1 (some .int) 0 := ⟨⟨(List.mem_of_getElem? (i := 142) (by decide +kernel)), (List.mem_of_getElem? (i := 690) (by decide +kernel)), by decide +kernel, by decide +kernel⟩, ⟨_, _, ci1⟩, (List.mem_of_getElem? (i := 689) (by decide +kernel)), (List.mem_of_getElem? (i := 49) (by decide +kernel)), Or.inl (List.mem_of_getElem? (i := 687) (by decide +kernel))⟩
theorem ml1_171 : MV RX1 171 1 yX1_endNumberedPhase cX1_endNumberedPhase 2 none 0 := ⟨⟨(List.mem_of_getElem? (i := 142) (by decide +kernel)), (List.mem_of_getElem? (i := 694) (by decide +kernel)), by decide +kernel, by decide +kernel⟩, ⟨_, _, ci1⟩, (List.mem_of_getElem? (i := 693) (by decide +kernel)), (List.mem_of_getElem? (i := 50) (by decide +kernel)), Or.inl (List.mem_of_getElem? (i := 691) (by decide +kernel))⟩
theorem ml1_174 : MV RX1 174 1 yX1_emptiedTape cX1_emptiedTape 2 (some .int) 0 := ⟨⟨(List.mem_of_getElem? (i := 142) (by decide +kernel)), (List.mem_of_getElem? (i := 698) (by decide +kernel)), by decide +kernel, by decide +kernel⟩, ⟨_, _, ci1⟩, (List.mem_of_getElem? (i := 697) (by decide +kernel)), (List.mem_of_getElem? (i := 51) (by decide +kernel)), Or.inl (List.mem_of_getElem? (i := 695) (by decide +kernel))⟩
theorem ml4_108 : MV RX4 108 1 yX1_takenFrom cX1_takenFrom 3 (some .int) 1 := ⟨⟨(List.mem_of_getElem? (i := 142) (by decide +kernel)), (List.mem_of_getElem? (i := 702) (by decide +kernel)), by decide +kernel, by decide +kernel⟩, ⟨_, _, ci1⟩, (List.mem_of_getElem? (i := 701) (by decide +kernel)), (List.mem_of_getElem? (i := 52) (by decide +kernel)), Or.inr (List.mem_of_getElem? (i := 699) (by decide +kernel))⟩
theorem mlL_57 : MV RL 57 6 yX6_phase cX6_phase 5 (some .int) 0 := ⟨⟨(List.mem_of_getElem? (i := 138) (by decide +kernel)), (List.mem_of_getElem? (i := 706) (by decide +kernel)), by decide +kernel, by decide +kernel⟩, ⟨_, _, ci6⟩, (List.mem_of_getElem? (i := 704) (by decide +kernel)), (List.mem_of_getElem? (i := 705) (by decide +kernel)), Or.inl (List.mem_of_getElem? (i := 703) (by decide +kernel))⟩
theorem mlL_61 : MV RL 61 6 yX6_all cX6_all 4 (some .int) 0 := ⟨⟨(List.mem_of_getElem? (i := 138) (by decide +kernel)), (List.mem_of_getElem? (i := 711) (by decide +kernel)), by decide +kernel, by decide +kernel⟩, ⟨_, _, ci6⟩, (List.mem_of_getElem? (i := 709) (by decide +kernel)), (List.mem_of_getElem? (i := 710) (by decide +kernel)), Or.inl (List.mem_of_getElem? (i := 708) (by decide +kernel))⟩
theorem mlL_65 : MV RL 65 6 yX6_record cX6_record 3 (some .int) 2 := ⟨⟨(List.mem_of_getElem? (i := 138) (by decide +kernel)), (List.mem_of_getElem? (i := 715) (by decide +kernel)), by decide +kernel, by decide +kernel⟩, ⟨_, _, ci6⟩, (List.mem_of_getElem? (i := 713) (by decide +kernel)), (List.mem_of_getElem? (i := 714) (by decide +kernel)), Or.inl (List.mem_of_getElem? (i := 712) (by decide +kernel))⟩
theorem mlL_69 : MV RL 69 6 yX6_run cX6_run 4 (some .int) 2 := ⟨⟨(List.mem_of_getElem? (i := 138) (by decide +kernel)), (List.mem_of_getElem? (i := 719) (by decide +kernel)), by decide +kernel, by decide +kernel⟩, ⟨_, _, ci6⟩, (List.mem_of_getElem? (i := 717) (by decide +kernel)), (List.mem_of_getElem? (i := 718) (by decide +kernel)), Or.inl (List.mem_of_getElem? (i := 716) (by decide +kernel))⟩
theorem ml6_149 : MV RX6 149 6 yX6_isRun cX6_isRun 2 (some .boolean) 1 := ⟨⟨(List.mem_of_getElem? (i := 138) (by decide +kernel)), (List.mem_of_getElem? (i := 723) (by decide +kernel)), by decide +kernel, by decide +kernel⟩, ⟨_, _, ci6⟩, (List.mem_of_getElem? (i := 722) (by decide +kernel)), (List.mem_of_getElem? (i := 53) (by decide +kernel)), Or.inl (List.mem_of_getElem? (i := 720) (by decide +kernel))⟩
theorem ml6_153 : MV RX6 153 0 yX0_falls cX0_falls 2 (some .boolean) 1 := ⟨⟨(List.mem_of_getElem? (i := 141) (by decide +kernel)), (List.mem_of_getElem? (i := 533) (by decide +kernel)), by decide +kernel, by decide +kernel⟩, ⟨_, _, ci0⟩, (List.mem_of_getElem? (i := 532) (by decide +kernel)), (List.mem_of_getElem? (i := 14) (by decide +kernel)), Or.inr (List.mem_of_getElem? (i := 724) (by decide +kernel))⟩
theorem ml6_159 : MV RX6 159 4 yX4_grownRecord cX4_grownRecord 6 (some .int) 2 := ⟨⟨(List.mem_of_getElem? (i := 139) (by decide +kernel)), (List.mem_of_getElem? (i := 728) (by decide +kernel)), by decide +kernel, by decide +kernel⟩, ⟨_, _, ci4⟩, (List.mem_of_getElem? (i := 727) (by decide +kernel)), (List.mem_of_getElem? (i := 54) (by decide +kernel)), Or.inr (List.mem_of_getElem? (i := 725) (by decide +kernel))⟩
theorem ml4_115 : MV RX4 115 3 yX3_ranked cX3_ranked 3 (some .int) 2 := ⟨⟨(List.mem_of_getElem? (i := 140) (by decide +kernel)), (List.mem_of_getElem? (i := 732) (by decide +kernel)), by decide +kernel, by decide +kernel⟩, ⟨_, _, ci3⟩, (List.mem_of_getElem? (i := 731) (by decide +kernel)), (List.mem_of_getElem? (i := 55) (by decide +kernel)), Or.inr (List.mem_of_getElem? (i := 729) (by decide +kernel))⟩
theorem mlL_73 : MV RL 73 6 yX6_tape cX6_tape 4 (some .int) 2 := ⟨⟨(List.mem_of_getElem? (i := 138) (by decide +kernel)), (List.mem_of_getElem? (i := 736) (by decide +kernel)), by decide +kernel, by decide +kernel⟩, ⟨_, _, ci6⟩, (List.mem_of_getElem? (i := 734) (by decide +kernel)), (List.mem_of_getElem? (i := 735) (by decide +kernel)), Or.inl (List.mem_of_getElem? (i := 733) (by decide +kernel))⟩
theorem ml6_163 : MV RX6 163 6 yX6_isTape cX6_isTape 2 (some .boolean) 1 := ⟨⟨(List.mem_of_getElem? (i := 138) (by decide +kernel)), (List.mem_of_getElem? (i := 740) (by decide +kernel)), by decide +kernel, by decide +kernel⟩, ⟨_, _, ci6⟩, (List.mem_of_getElem? (i := 739) (by decide +kernel)), (List.mem_of_getElem? (i := 56) (by decide +kernel)), Or.inl (List.mem_of_getElem? (i := 737) (by decide +kernel))⟩
theorem ml6_170 : MV RX6 170 5 yX5_size cX5_size 1 (some .int) 0 := ⟨⟨(List.mem_of_getElem? (i := 145) (by decide +kernel)), (List.mem_of_getElem? (i := 632) (by decide +kernel)), by decide +kernel, by decide +kernel⟩, ⟨_, _, ci5⟩, (List.mem_of_getElem? (i := 631) (by decide +kernel)), (List.mem_of_getElem? (i := 36) (by decide +kernel)), Or.inr (List.mem_of_getElem? (i := 741) (by decide +kernel))⟩
theorem ml6_174 : MV RX6 174 5 yX5_dummies cX5_dummies 3 (some .int) 0 := ⟨⟨(List.mem_of_getElem? (i := 145) (by decide +kernel)), (List.mem_of_getElem? (i := 745) (by decide +kernel)), by decide +kernel, by decide +kernel⟩, ⟨_, _, ci5⟩, (List.mem_of_getElem? (i := 744) (by decide +kernel)), (List.mem_of_getElem? (i := 57) (by decide +kernel)), Or.inr (List.mem_of_getElem? (i := 742) (by decide +kernel))⟩
theorem ml6_177 : MV RX6 177 1 yX1_recordsOn cX1_recordsOn 4 (some .int) 1 := ⟨⟨(List.mem_of_getElem? (i := 142) (by decide +kernel)), (List.mem_of_getElem? (i := 749) (by decide +kernel)), by decide +kernel, by decide +kernel⟩, ⟨_, _, ci1⟩, (List.mem_of_getElem? (i := 748) (by decide +kernel)), (List.mem_of_getElem? (i := 58) (by decide +kernel)), Or.inr (List.mem_of_getElem? (i := 746) (by decide +kernel))⟩
theorem mlL_77 : MV RL 77 6 yX6_on cX6_on 6 (some .int) 3 := ⟨⟨(List.mem_of_getElem? (i := 138) (by decide +kernel)), (List.mem_of_getElem? (i := 753) (by decide +kernel)), by decide +kernel, by decide +kernel⟩, ⟨_, _, ci6⟩, (List.mem_of_getElem? (i := 751) (by decide +kernel)), (List.mem_of_getElem? (i := 752) (by decide +kernel)), Or.inl (List.mem_of_getElem? (i := 750) (by decide +kernel))⟩
theorem ml6_190 : MV RX6 190 5 yX5_at cX5_at 3 (some .int) 2 := ⟨⟨(List.mem_of_getElem? (i := 145) (by decide +kernel)), (List.mem_of_getElem? (i := 640) (by decide +kernel)), by decide +kernel, by decide +kernel⟩, ⟨_, _, ci5⟩, (List.mem_of_getElem? (i := 639) (by decide +kernel)), (List.mem_of_getElem? (i := 38) (by decide +kernel)), Or.inr (List.mem_of_getElem? (i := 754) (by decide +kernel))⟩
theorem ml6_194 : MV RX6 194 1 yX1_sizeOf cX1_sizeOf 2 (some .int) 1 := ⟨⟨(List.mem_of_getElem? (i := 142) (by decide +kernel)), (List.mem_of_getElem? (i := 678) (by decide +kernel)), by decide +kernel, by decide +kernel⟩, ⟨_, _, ci1⟩, (List.mem_of_getElem? (i := 677) (by decide +kernel)), (List.mem_of_getElem? (i := 46) (by decide +kernel)), Or.inr (List.mem_of_getElem? (i := 755) (by decide +kernel))⟩
theorem ml6_197 : MV RX6 197 1 yX1_isDown cX1_isDown 2 (some .boolean) 1 := ⟨⟨(List.mem_of_getElem? (i := 142) (by decide +kernel)), (List.mem_of_getElem? (i := 645) (by decide +kernel)), by decide +kernel, by decide +kernel⟩, ⟨_, _, ci1⟩, (List.mem_of_getElem? (i := 644) (by decide +kernel)), (List.mem_of_getElem? (i := 39) (by decide +kernel)), Or.inr (List.mem_of_getElem? (i := 756) (by decide +kernel))⟩
theorem ml6_200 : MV RX6 200 4 yX4_tapeRecord cX4_tapeRecord 6 (some .int) 2 := ⟨⟨(List.mem_of_getElem? (i := 139) (by decide +kernel)), (List.mem_of_getElem? (i := 760) (by decide +kernel)), by decide +kernel, by decide +kernel⟩, ⟨_, _, ci4⟩, (List.mem_of_getElem? (i := 759) (by decide +kernel)), (List.mem_of_getElem? (i := 59) (by decide +kernel)), Or.inr (List.mem_of_getElem? (i := 757) (by decide +kernel))⟩
theorem ml4_122 : MV RX4 122 1 yX1_isDown cX1_isDown 2 (some .boolean) 1 := ⟨⟨(List.mem_of_getElem? (i := 142) (by decide +kernel)), (List.mem_of_getElem? (i := 645) (by decide +kernel)), by decide +kernel, by decide +kernel⟩, ⟨_, _, ci1⟩, (List.mem_of_getElem? (i := 644) (by decide +kernel)), (List.mem_of_getElem? (i := 39) (by decide +kernel)), Or.inr (List.mem_of_getElem? (i := 761) (by decide +kernel))⟩
theorem mlL_82 : MV RL 82 6 yX6_sorted cX6_sorted 2 (some .int) 1 := ⟨⟨(List.mem_of_getElem? (i := 138) (by decide +kernel)), (List.mem_of_getElem? (i := 765) (by decide +kernel)), by decide +kernel, by decide +kernel⟩, ⟨_, _, ci6⟩, (List.mem_of_getElem? (i := 763) (by decide +kernel)), (List.mem_of_getElem? (i := 764) (by decide +kernel)), Or.inl (List.mem_of_getElem? (i := 762) (by decide +kernel))⟩
theorem mlL_86 : MV RL 86 6 yX6_perfect cX6_perfect 4 (some .int) 2 := ⟨⟨(List.mem_of_getElem? (i := 138) (by decide +kernel)), (List.mem_of_getElem? (i := 769) (by decide +kernel)), by decide +kernel, by decide +kernel⟩, ⟨_, _, ci6⟩, (List.mem_of_getElem? (i := 767) (by decide +kernel)), (List.mem_of_getElem? (i := 768) (by decide +kernel)), Or.inl (List.mem_of_getElem? (i := 766) (by decide +kernel))⟩
theorem ml6_206 : MV RX6 206 2 yX2_climbTo cX2_climbTo 5 none 3 := ⟨⟨(List.mem_of_getElem? (i := 143) (by decide +kernel)), (List.mem_of_getElem? (i := 773) (by decide +kernel)), by decide +kernel, by decide +kernel⟩, ⟨_, _, ci2⟩, (List.mem_of_getElem? (i := 772) (by decide +kernel)), (List.mem_of_getElem? (i := 60) (by decide +kernel)), Or.inr (List.mem_of_getElem? (i := 770) (by decide +kernel))⟩
theorem ml6_210 : MV RX6 210 2 yX2_together cX2_together 3 (some .int) 0 := ⟨⟨(List.mem_of_getElem? (i := 143) (by decide +kernel)), (List.mem_of_getElem? (i := 595) (by decide +kernel)), by decide +kernel, by decide +kernel⟩, ⟨_, _, ci2⟩, (List.mem_of_getElem? (i := 594) (by decide +kernel)), (List.mem_of_getElem? (i := 27) (by decide +kernel)), Or.inr (List.mem_of_getElem? (i := 774) (by decide +kernel))⟩
theorem mlL_90 : MV RL 90 6 yX6_plan cX6_plan 2 (some .int) 1 := ⟨⟨(List.mem_of_getElem? (i := 138) (by decide +kernel)), (List.mem_of_getElem? (i := 778) (by decide +kernel)), by decide +kernel, by decide +kernel⟩, ⟨_, _, ci6⟩, (List.mem_of_getElem? (i := 776) (by decide +kernel)), (List.mem_of_getElem? (i := 777) (by decide +kernel)), Or.inl (List.mem_of_getElem? (i := 775) (by decide +kernel))⟩
theorem ml6_215 : MV RX6 215 6 yX6_beginPlan cX6_beginPlan 1 none 0 := ⟨⟨(List.mem_of_getElem? (i := 138) (by decide +kernel)), (List.mem_of_getElem? (i := 782) (by decide +kernel)), by decide +kernel, by decide +kernel⟩, ⟨_, _, ci6⟩, (List.mem_of_getElem? (i := 781) (by decide +kernel)), (List.mem_of_getElem? (i := 61) (by decide +kernel)), Or.inl (List.mem_of_getElem? (i := 779) (by decide +kernel))⟩
theorem ml6_224 : MV RX6 224 1 yX1_begin cX1_begin 5 none 3 := ⟨⟨(List.mem_of_getElem? (i := 142) (by decide +kernel)), (List.mem_of_getElem? (i := 556) (by decide +kernel)), by decide +kernel, by decide +kernel⟩, ⟨_, _, ci1⟩, (List.mem_of_getElem? (i := 555) (by decide +kernel)), (List.mem_of_getElem? (i := 18) (by decide +kernel)), Or.inr (List.mem_of_getElem? (i := 783) (by decide +kernel))⟩
theorem ml6_228 : MV RX6 228 4 yX4_layRuns cX4_layRuns 3 none 1 := ⟨⟨(List.mem_of_getElem? (i := 139) (by decide +kernel)), (List.mem_of_getElem? (i := 564) (by decide +kernel)), by decide +kernel, by decide +kernel⟩, ⟨_, _, ci4⟩, (List.mem_of_getElem? (i := 563) (by decide +kernel)), (List.mem_of_getElem? (i := 20) (by decide +kernel)), Or.inr (List.mem_of_getElem? (i := 784) (by decide +kernel))⟩
theorem ml6_218 : MV RX6 218 1 yX1_mergeAll cX1_mergeAll 2 none 0 := ⟨⟨(List.mem_of_getElem? (i := 142) (by decide +kernel)), (List.mem_of_getElem? (i := 788) (by decide +kernel)), by decide +kernel, by decide +kernel⟩, ⟨_, _, ci1⟩, (List.mem_of_getElem? (i := 787) (by decide +kernel)), (List.mem_of_getElem? (i := 62) (by decide +kernel)), Or.inr (List.mem_of_getElem? (i := 785) (by decide +kernel))⟩
theorem ml1_184 : MV RX1 184 1 yX1_advance cX1_advance 4 none 0 := ⟨⟨(List.mem_of_getElem? (i := 142) (by decide +kernel)), (List.mem_of_getElem? (i := 661) (by decide +kernel)), by decide +kernel, by decide +kernel⟩, ⟨_, _, ci1⟩, (List.mem_of_getElem? (i := 660) (by decide +kernel)), (List.mem_of_getElem? (i := 42) (by decide +kernel)), Or.inl (List.mem_of_getElem? (i := 790) (by decide +kernel))⟩
theorem mlL_94 : MV RL 94 6 yX6_planned cX6_planned 5 (some .int) 3 := ⟨⟨(List.mem_of_getElem? (i := 138) (by decide +kernel)), (List.mem_of_getElem? (i := 794) (by decide +kernel)), by decide +kernel, by decide +kernel⟩, ⟨_, _, ci6⟩, (List.mem_of_getElem? (i := 792) (by decide +kernel)), (List.mem_of_getElem? (i := 793) (by decide +kernel)), Or.inl (List.mem_of_getElem? (i := 791) (by decide +kernel))⟩
theorem mlL_98 : MV RL 98 6 yX6_least cX6_least 9 (some .int) 1 := ⟨⟨(List.mem_of_getElem? (i := 138) (by decide +kernel)), (List.mem_of_getElem? (i := 798) (by decide +kernel)), by decide +kernel, by decide +kernel⟩, ⟨_, _, ci6⟩, (List.mem_of_getElem? (i := 796) (by decide +kernel)), (List.mem_of_getElem? (i := 797) (by decide +kernel)), Or.inl (List.mem_of_getElem? (i := 795) (by decide +kernel))⟩
theorem ml6_238 : MV RX6 238 6 yX6_takeLightest cX6_takeLightest 4 (some .int) 1 := ⟨⟨(List.mem_of_getElem? (i := 138) (by decide +kernel)), (List.mem_of_getElem? (i := 803) (by decide +kernel)), by decide +kernel, by decide +kernel⟩, ⟨_, _, ci6⟩, (List.mem_of_getElem? (i := 802) (by decide +kernel)), (List.mem_of_getElem? (i := 63) (by decide +kernel)), Or.inl (List.mem_of_getElem? (i := 800) (by decide +kernel))⟩
theorem mlL_102 : MV RL 102 6 yX6_depth cX6_depth 5 (some .int) 1 := ⟨⟨(List.mem_of_getElem? (i := 138) (by decide +kernel)), (List.mem_of_getElem? (i := 807) (by decide +kernel)), by decide +kernel, by decide +kernel⟩, ⟨_, _, ci6⟩, (List.mem_of_getElem? (i := 805) (by decide +kernel)), (List.mem_of_getElem? (i := 806) (by decide +kernel)), Or.inl (List.mem_of_getElem? (i := 804) (by decide +kernel))⟩
theorem ml6_244 : MV RX6 244 1 yX1_advance cX1_advance 4 none 0 := ⟨⟨(List.mem_of_getElem? (i := 142) (by decide +kernel)), (List.mem_of_getElem? (i := 661) (by decide +kernel)), by decide +kernel, by decide +kernel⟩, ⟨_, _, ci1⟩, (List.mem_of_getElem? (i := 660) (by decide +kernel)), (List.mem_of_getElem? (i := 42) (by decide +kernel)), Or.inr (List.mem_of_getElem? (i := 808) (by decide +kernel))⟩
theorem ml6_247 : MV RX6 247 1 yX1_takenFrom cX1_takenFrom 3 (some .int) 1 := ⟨⟨(List.mem_of_getElem? (i := 142) (by decide +kernel)), (List.mem_of_getElem? (i := 702) (by decide +kernel)), by decide +kernel, by decide +kernel⟩, ⟨_, _, ci1⟩, (List.mem_of_getElem? (i := 701) (by decide +kernel)), (List.mem_of_getElem? (i := 52) (by decide +kernel)), Or.inr (List.mem_of_getElem? (i := 809) (by decide +kernel))⟩
theorem mlL_106 : MV RL 106 6 yX6_units cX6_units 5 (some .int) 1 := ⟨⟨(List.mem_of_getElem? (i := 138) (by decide +kernel)), (List.mem_of_getElem? (i := 813) (by decide +kernel)), by decide +kernel, by decide +kernel⟩, ⟨_, _, ci6⟩, (List.mem_of_getElem? (i := 811) (by decide +kernel)), (List.mem_of_getElem? (i := 812) (by decide +kernel)), Or.inl (List.mem_of_getElem? (i := 810) (by decide +kernel))⟩
theorem ml6_253 : MV RX6 253 1 yX1_load cX1_load 3 none 2 := ⟨⟨(List.mem_of_getElem? (i := 142) (by decide +kernel)), (List.mem_of_getElem? (i := 569) (by decide +kernel)), by decide +kernel, by decide +kernel⟩, ⟨_, _, ci1⟩, (List.mem_of_getElem? (i := 568) (by decide +kernel)), (List.mem_of_getElem? (i := 21) (by decide +kernel)), Or.inr (List.mem_of_getElem? (i := 814) (by decide +kernel))⟩
theorem ml6_257 : MV RX6 257 1 yX1_layOut cX1_layOut 2 none 1 := ⟨⟨(List.mem_of_getElem? (i := 142) (by decide +kernel)), (List.mem_of_getElem? (i := 573) (by decide +kernel)), by decide +kernel, by decide +kernel⟩, ⟨_, _, ci1⟩, (List.mem_of_getElem? (i := 572) (by decide +kernel)), (List.mem_of_getElem? (i := 22) (by decide +kernel)), Or.inr (List.mem_of_getElem? (i := 815) (by decide +kernel))⟩
theorem mlL_110 : MV RL 110 6 yX6_stands cX6_stands 7 (some .int) 0 := ⟨⟨(List.mem_of_getElem? (i := 138) (by decide +kernel)), (List.mem_of_getElem? (i := 819) (by decide +kernel)), by decide +kernel, by decide +kernel⟩, ⟨_, _, ci6⟩, (List.mem_of_getElem? (i := 817) (by decide +kernel)), (List.mem_of_getElem? (i := 818) (by decide +kernel)), Or.inl (List.mem_of_getElem? (i := 816) (by decide +kernel))⟩
theorem ml6_261 : MV RX6 261 1 yX1_stand cX1_stand 4 (some .long) 0 := ⟨⟨(List.mem_of_getElem? (i := 142) (by decide +kernel)), (List.mem_of_getElem? (i := 823) (by decide +kernel)), by decide +kernel, by decide +kernel⟩, ⟨_, _, ci1⟩, (List.mem_of_getElem? (i := 822) (by decide +kernel)), (List.mem_of_getElem? (i := 64) (by decide +kernel)), Or.inr (List.mem_of_getElem? (i := 820) (by decide +kernel))⟩
theorem ml6_265 : MV RX6 265 6 yX6_isAmongLikeStands cX6_isAmongLikeStands 5 (some .boolean) 2 := ⟨⟨(List.mem_of_getElem? (i := 138) (by decide +kernel)), (List.mem_of_getElem? (i := 828) (by decide +kernel)), by decide +kernel, by decide +kernel⟩, ⟨_, _, ci6⟩, (List.mem_of_getElem? (i := 827) (by decide +kernel)), (List.mem_of_getElem? (i := 65) (by decide +kernel)), Or.inl (List.mem_of_getElem? (i := 825) (by decide +kernel))⟩
theorem mlL_114 : MV RL 114 6 yX6_key cX6_key 3 (some .int) 2 := ⟨⟨(List.mem_of_getElem? (i := 138) (by decide +kernel)), (List.mem_of_getElem? (i := 832) (by decide +kernel)), by decide +kernel, by decide +kernel⟩, ⟨_, _, ci6⟩, (List.mem_of_getElem? (i := 830) (by decide +kernel)), (List.mem_of_getElem? (i := 831) (by decide +kernel)), Or.inl (List.mem_of_getElem? (i := 829) (by decide +kernel))⟩
theorem ml6_269 : MV RX6 269 3 yX3_howOften cX3_howOften 4 (some .int) 1 := ⟨⟨(List.mem_of_getElem? (i := 140) (by decide +kernel)), (List.mem_of_getElem? (i := 836) (by decide +kernel)), by decide +kernel, by decide +kernel⟩, ⟨_, _, ci3⟩, (List.mem_of_getElem? (i := 835) (by decide +kernel)), (List.mem_of_getElem? (i := 66) (by decide +kernel)), Or.inr (List.mem_of_getElem? (i := 833) (by decide +kernel))⟩
theorem ml6_272 : MV RX6 272 3 yX3_firstOf cX3_firstOf 3 (some .int) 1 := ⟨⟨(List.mem_of_getElem? (i := 140) (by decide +kernel)), (List.mem_of_getElem? (i := 840) (by decide +kernel)), by decide +kernel, by decide +kernel⟩, ⟨_, _, ci3⟩, (List.mem_of_getElem? (i := 839) (by decide +kernel)), (List.mem_of_getElem? (i := 67) (by decide +kernel)), Or.inr (List.mem_of_getElem? (i := 837) (by decide +kernel))⟩
theorem ml6_275 : MV RX6 275 3 yX3_lastOf cX3_lastOf 3 (some .int) 1 := ⟨⟨(List.mem_of_getElem? (i := 140) (by decide +kernel)), (List.mem_of_getElem? (i := 844) (by decide +kernel)), by decide +kernel, by decide +kernel⟩, ⟨_, _, ci3⟩, (List.mem_of_getElem? (i := 843) (by decide +kernel)), (List.mem_of_getElem? (i := 68) (by decide +kernel)), Or.inr (List.mem_of_getElem? (i := 841) (by decide +kernel))⟩
theorem mlL_118 : MV RL 118 6 yX6_keys cX6_keys 3 (some .int) 1 := ⟨⟨(List.mem_of_getElem? (i := 138) (by decide +kernel)), (List.mem_of_getElem? (i := 848) (by decide +kernel)), by decide +kernel, by decide +kernel⟩, ⟨_, _, ci6⟩, (List.mem_of_getElem? (i := 846) (by decide +kernel)), (List.mem_of_getElem? (i := 847) (by decide +kernel)), Or.inl (List.mem_of_getElem? (i := 845) (by decide +kernel))⟩
theorem ml6_278 : MV RX6 278 3 yX3_unlikeKeys cX3_unlikeKeys 3 (some .int) 0 := ⟨⟨(List.mem_of_getElem? (i := 140) (by decide +kernel)), (List.mem_of_getElem? (i := 852) (by decide +kernel)), by decide +kernel, by decide +kernel⟩, ⟨_, _, ci3⟩, (List.mem_of_getElem? (i := 851) (by decide +kernel)), (List.mem_of_getElem? (i := 69) (by decide +kernel)), Or.inr (List.mem_of_getElem? (i := 849) (by decide +kernel))⟩
theorem ml3_31 : MV RX3 31 3 yX3_beginsKey cX3_beginsKey 2 (some .boolean) 1 := ⟨⟨(List.mem_of_getElem? (i := 140) (by decide +kernel)), (List.mem_of_getElem? (i := 856) (by decide +kernel)), by decide +kernel, by decide +kernel⟩, ⟨_, _, ci3⟩, (List.mem_of_getElem? (i := 855) (by decide +kernel)), (List.mem_of_getElem? (i := 70) (by decide +kernel)), Or.inl (List.mem_of_getElem? (i := 853) (by decide +kernel))⟩
theorem ml6_281 : MV RX6 281 3 yX3_keyMostOften cX3_keyMostOften 7 (some .int) 0 := ⟨⟨(List.mem_of_getElem? (i := 140) (by decide +kernel)), (List.mem_of_getElem? (i := 860) (by decide +kernel)), by decide +kernel, by decide +kernel⟩, ⟨_, _, ci3⟩, (List.mem_of_getElem? (i := 859) (by decide +kernel)), (List.mem_of_getElem? (i := 71) (by decide +kernel)), Or.inr (List.mem_of_getElem? (i := 857) (by decide +kernel))⟩
theorem mlL_122 : MV RL 122 6 yX6_about cX6_about 3 (some .int) 1 := ⟨⟨(List.mem_of_getElem? (i := 138) (by decide +kernel)), (List.mem_of_getElem? (i := 864) (by decide +kernel)), by decide +kernel, by decide +kernel⟩, ⟨_, _, ci6⟩, (List.mem_of_getElem? (i := 862) (by decide +kernel)), (List.mem_of_getElem? (i := 863) (by decide +kernel)), Or.inl (List.mem_of_getElem? (i := 861) (by decide +kernel))⟩
theorem ml6_287 : MV RX6 287 3 yX3_naturalRuns cX3_naturalRuns 3 (some .int) 0 := ⟨⟨(List.mem_of_getElem? (i := 140) (by decide +kernel)), (List.mem_of_getElem? (i := 868) (by decide +kernel)), by decide +kernel, by decide +kernel⟩, ⟨_, _, ci3⟩, (List.mem_of_getElem? (i := 867) (by decide +kernel)), (List.mem_of_getElem? (i := 72) (by decide +kernel)), Or.inr (List.mem_of_getElem? (i := 865) (by decide +kernel))⟩
theorem mlL_126 : MV RL 126 6 yX6_forecast cX6_forecast 3 (some .int) 2 := ⟨⟨(List.mem_of_getElem? (i := 138) (by decide +kernel)), (List.mem_of_getElem? (i := 872) (by decide +kernel)), by decide +kernel, by decide +kernel⟩, ⟨_, _, ci6⟩, (List.mem_of_getElem? (i := 870) (by decide +kernel)), (List.mem_of_getElem? (i := 871) (by decide +kernel)), Or.inl (List.mem_of_getElem? (i := 869) (by decide +kernel))⟩
theorem ml6_290 : MV RX6 290 4 yX4_fetchedTape cX4_fetchedTape 7 (some .int) 2 := ⟨⟨(List.mem_of_getElem? (i := 139) (by decide +kernel)), (List.mem_of_getElem? (i := 876) (by decide +kernel)), by decide +kernel, by decide +kernel⟩, ⟨_, _, ci4⟩, (List.mem_of_getElem? (i := 875) (by decide +kernel)), (List.mem_of_getElem? (i := 73) (by decide +kernel)), Or.inr (List.mem_of_getElem? (i := 873) (by decide +kernel))⟩
theorem ml4_125 : MV RX4 125 1 yX1_look cX1_look 2 none 0 := ⟨⟨(List.mem_of_getElem? (i := 142) (by decide +kernel)), (List.mem_of_getElem? (i := 665) (by decide +kernel)), by decide +kernel, by decide +kernel⟩, ⟨_, _, ci1⟩, (List.mem_of_getElem? (i := 664) (by decide +kernel)), (List.mem_of_getElem? (i := 43) (by decide +kernel)), Or.inr (List.mem_of_getElem? (i := 877) (by decide +kernel))⟩
theorem ml4_132 : MV RX4 132 4 yX4_isFetchedBehindNext cX4_isFetchedBehindNext 3 (some .boolean) 2 := ⟨⟨(List.mem_of_getElem? (i := 139) (by decide +kernel)), (List.mem_of_getElem? (i := 881) (by decide +kernel)), by decide +kernel, by decide +kernel⟩, ⟨_, _, ci4⟩, (List.mem_of_getElem? (i := 880) (by decide +kernel)), (List.mem_of_getElem? (i := 74) (by decide +kernel)), Or.inl (List.mem_of_getElem? (i := 878) (by decide +kernel))⟩
theorem ml4_139 : MV RX4 139 1 yX1_sizeOf cX1_sizeOf 2 (some .int) 1 := ⟨⟨(List.mem_of_getElem? (i := 142) (by decide +kernel)), (List.mem_of_getElem? (i := 678) (by decide +kernel)), by decide +kernel, by decide +kernel⟩, ⟨_, _, ci1⟩, (List.mem_of_getElem? (i := 677) (by decide +kernel)), (List.mem_of_getElem? (i := 46) (by decide +kernel)), Or.inr (List.mem_of_getElem? (i := 882) (by decide +kernel))⟩
theorem mlL_130 : MV RL 130 6 yX6_needs cX6_needs 4 (some .int) 1 := ⟨⟨(List.mem_of_getElem? (i := 138) (by decide +kernel)), (List.mem_of_getElem? (i := 886) (by decide +kernel)), by decide +kernel, by decide +kernel⟩, ⟨_, _, ci6⟩, (List.mem_of_getElem? (i := 884) (by decide +kernel)), (List.mem_of_getElem? (i := 885) (by decide +kernel)), Or.inl (List.mem_of_getElem? (i := 883) (by decide +kernel))⟩
theorem ml6_293 : MV RX6 293 1 yX1_copyFrom cX1_copyFrom 3 none 1 := ⟨⟨(List.mem_of_getElem? (i := 142) (by decide +kernel)), (List.mem_of_getElem? (i := 459) (by decide +kernel)), by decide +kernel, by decide +kernel⟩, ⟨_, _, ci1⟩, (List.mem_of_getElem? (i := 458) (by decide +kernel)), (List.mem_of_getElem? (i := 5) (by decide +kernel)), Or.inr (List.mem_of_getElem? (i := 887) (by decide +kernel))⟩
theorem ml6_296 : MV RX6 296 1 yX1_look cX1_look 2 none 0 := ⟨⟨(List.mem_of_getElem? (i := 142) (by decide +kernel)), (List.mem_of_getElem? (i := 665) (by decide +kernel)), by decide +kernel, by decide +kernel⟩, ⟨_, _, ci1⟩, (List.mem_of_getElem? (i := 664) (by decide +kernel)), (List.mem_of_getElem? (i := 43) (by decide +kernel)), Or.inr (List.mem_of_getElem? (i := 888) (by decide +kernel))⟩
theorem ml6_299 : MV RX6 299 1 yX1_blocksTaken cX1_blocksTaken 4 (some .int) 1 := ⟨⟨(List.mem_of_getElem? (i := 142) (by decide +kernel)), (List.mem_of_getElem? (i := 892) (by decide +kernel)), by decide +kernel, by decide +kernel⟩, ⟨_, _, ci1⟩, (List.mem_of_getElem? (i := 891) (by decide +kernel)), (List.mem_of_getElem? (i := 75) (by decide +kernel)), Or.inr (List.mem_of_getElem? (i := 889) (by decide +kernel))⟩
theorem mlL_134 : MV RL 134 6 yX6_undo cX6_undo 1 (some .int) 0 := ⟨⟨(List.mem_of_getElem? (i := 138) (by decide +kernel)), (List.mem_of_getElem? (i := 896) (by decide +kernel)), by decide +kernel, by decide +kernel⟩, ⟨_, _, ci6⟩, (List.mem_of_getElem? (i := 894) (by decide +kernel)), (List.mem_of_getElem? (i := 895) (by decide +kernel)), Or.inl (List.mem_of_getElem? (i := 893) (by decide +kernel))⟩
theorem mlL_138 : MV RL 138 6 yX6_keep cX6_keep 2 (some .int) 1 := ⟨⟨(List.mem_of_getElem? (i := 138) (by decide +kernel)), (List.mem_of_getElem? (i := 900) (by decide +kernel)), by decide +kernel, by decide +kernel⟩, ⟨_, _, ci6⟩, (List.mem_of_getElem? (i := 898) (by decide +kernel)), (List.mem_of_getElem? (i := 899) (by decide +kernel)), Or.inl (List.mem_of_getElem? (i := 897) (by decide +kernel))⟩
theorem mlL_142 : MV RL 142 6 yX6_back cX6_back 2 (some .int) 1 := ⟨⟨(List.mem_of_getElem? (i := 138) (by decide +kernel)), (List.mem_of_getElem? (i := 904) (by decide +kernel)), by decide +kernel, by decide +kernel⟩, ⟨_, _, ci6⟩, (List.mem_of_getElem? (i := 902) (by decide +kernel)), (List.mem_of_getElem? (i := 903) (by decide +kernel)), Or.inl (List.mem_of_getElem? (i := 901) (by decide +kernel))⟩
theorem mlL_146 : MV RL 146 6 yX6_count cX6_count 2 (some .int) 1 := ⟨⟨(List.mem_of_getElem? (i := 138) (by decide +kernel)), (List.mem_of_getElem? (i := 908) (by decide +kernel)), by decide +kernel, by decide +kernel⟩, ⟨_, _, ci6⟩, (List.mem_of_getElem? (i := 906) (by decide +kernel)), (List.mem_of_getElem? (i := 907) (by decide +kernel)), Or.inl (List.mem_of_getElem? (i := 905) (by decide +kernel))⟩
theorem fl7_9 : FL RX7 9 7 0 true := ⟨_, _, _, ci7, by omega, rfl, Or.inl (List.mem_of_getElem? (i := 916) (by decide +kernel))⟩
theorem fl7_13 : FL RX7 13 7 1 true := ⟨_, _, _, ci7, by omega, rfl, Or.inl (List.mem_of_getElem? (i := 917) (by decide +kernel))⟩
theorem fl7_17 : FL RX7 17 7 2 true := ⟨_, _, _, ci7, by omega, rfl, Or.inl (List.mem_of_getElem? (i := 918) (by decide +kernel))⟩
theorem fl7_20 : FL RX7 20 7 3 true := ⟨_, _, _, ci7, by omega, rfl, Or.inl (List.mem_of_getElem? (i := 919) (by decide +kernel))⟩
theorem fl7_75 : FL RX7 75 7 4 false := ⟨_, _, _, ci7, by omega, rfl, Or.inl (List.mem_of_getElem? (i := 920) (by decide +kernel))⟩
theorem fl7_324 : FL RX7 324 7 5 false := ⟨_, _, _, ci7, by omega, rfl, Or.inl (List.mem_of_getElem? (i := 921) (by decide +kernel))⟩
theorem fl7_23 : FL RX7 23 7 6 true := ⟨_, _, _, ci7, by omega, rfl, Or.inl (List.mem_of_getElem? (i := 922) (by decide +kernel))⟩
theorem fl7_86 : FL RX7 86 7 7 false := ⟨_, _, _, ci7, by omega, rfl, Or.inl (List.mem_of_getElem? (i := 923) (by decide +kernel))⟩
theorem fl7_27 : FL RX7 27 7 8 true := ⟨_, _, _, ci7, by omega, rfl, Or.inl (List.mem_of_getElem? (i := 924) (by decide +kernel))⟩
theorem fl7_30 : FL RX7 30 7 9 true := ⟨_, _, _, ci7, by omega, rfl, Or.inl (List.mem_of_getElem? (i := 925) (by decide +kernel))⟩
theorem fl7_128 : FL RX7 128 7 10 false := ⟨_, _, _, ci7, by omega, rfl, Or.inl (List.mem_of_getElem? (i := 926) (by decide +kernel))⟩
theorem fl7_33 : FL RX7 33 7 11 true := ⟨_, _, _, ci7, by omega, rfl, Or.inl (List.mem_of_getElem? (i := 927) (by decide +kernel))⟩
theorem fl7_36 : FL RX7 36 7 12 true := ⟨_, _, _, ci7, by omega, rfl, Or.inl (List.mem_of_getElem? (i := 928) (by decide +kernel))⟩
theorem fl7_39 : FL RX7 39 7 13 true := ⟨_, _, _, ci7, by omega, rfl, Or.inl (List.mem_of_getElem? (i := 929) (by decide +kernel))⟩
theorem fl7_42 : FL RX7 42 7 14 true := ⟨_, _, _, ci7, by omega, rfl, Or.inl (List.mem_of_getElem? (i := 930) (by decide +kernel))⟩
theorem fl7_172 : FL RX7 172 7 15 false := ⟨_, _, _, ci7, by omega, rfl, Or.inl (List.mem_of_getElem? (i := 931) (by decide +kernel))⟩
theorem fl7_45 : FL RX7 45 7 16 true := ⟨_, _, _, ci7, by omega, rfl, Or.inl (List.mem_of_getElem? (i := 932) (by decide +kernel))⟩
theorem fl7_48 : FL RX7 48 7 17 true := ⟨_, _, _, ci7, by omega, rfl, Or.inl (List.mem_of_getElem? (i := 933) (by decide +kernel))⟩
theorem fl7_51 : FL RX7 51 7 18 true := ⟨_, _, _, ci7, by omega, rfl, Or.inl (List.mem_of_getElem? (i := 934) (by decide +kernel))⟩
theorem fl7_54 : FL RX7 54 7 19 true := ⟨_, _, _, ci7, by omega, rfl, Or.inl (List.mem_of_getElem? (i := 935) (by decide +kernel))⟩
theorem fl7_264 : FL RX7 264 7 20 false := ⟨_, _, _, ci7, by omega, rfl, Or.inl (List.mem_of_getElem? (i := 936) (by decide +kernel))⟩
theorem fl7_57 : FL RX7 57 7 21 true := ⟨_, _, _, ci7, by omega, rfl, Or.inl (List.mem_of_getElem? (i := 937) (by decide +kernel))⟩
theorem fl7_60 : FL RX7 60 7 22 true := ⟨_, _, _, ci7, by omega, rfl, Or.inl (List.mem_of_getElem? (i := 938) (by decide +kernel))⟩
theorem fl7_274 : FL RX7 274 7 23 false := ⟨_, _, _, ci7, by omega, rfl, Or.inl (List.mem_of_getElem? (i := 939) (by decide +kernel))⟩
theorem fl7_277 : FL RX7 277 7 24 false := ⟨_, _, _, ci7, by omega, rfl, Or.inl (List.mem_of_getElem? (i := 940) (by decide +kernel))⟩
theorem fl7_280 : FL RX7 280 7 25 false := ⟨_, _, _, ci7, by omega, rfl, Or.inl (List.mem_of_getElem? (i := 941) (by decide +kernel))⟩
theorem fl7_63 : FL RX7 63 7 26 true := ⟨_, _, _, ci7, by omega, rfl, Or.inl (List.mem_of_getElem? (i := 942) (by decide +kernel))⟩
theorem fl7_66 : FL RX7 66 7 27 true := ⟨_, _, _, ci7, by omega, rfl, Or.inl (List.mem_of_getElem? (i := 943) (by decide +kernel))⟩
theorem fl7_69 : FL RX7 69 7 28 true := ⟨_, _, _, ci7, by omega, rfl, Or.inl (List.mem_of_getElem? (i := 944) (by decide +kernel))⟩
theorem fl7_72 : FL RX7 72 7 29 true := ⟨_, _, _, ci7, by omega, rfl, Or.inl (List.mem_of_getElem? (i := 945) (by decide +kernel))⟩
theorem mlL_137 : MV RL 137 7 yX7_undo cX7_undo 1 (some .int) 0 := ⟨⟨(List.mem_of_getElem? (i := 146) (by decide +kernel)), (List.mem_of_getElem? (i := 1011) (by decide +kernel)), by decide +kernel, by decide +kernel⟩, ⟨_, _, ci7⟩, (List.mem_of_getElem? (i := 1009) (by decide +kernel)), (List.mem_of_getElem? (i := 1010) (by decide +kernel)), Or.inl (List.mem_of_getElem? (i := 1008) (by decide +kernel))⟩
theorem ml7_83 : MV RX7 83 7 yX7_laysFrom cX7_laysFrom 4 none 2 := ⟨⟨(List.mem_of_getElem? (i := 146) (by decide +kernel)), (List.mem_of_getElem? (i := 1015) (by decide +kernel)), by decide +kernel, by decide +kernel⟩, ⟨_, _, ci7⟩, (List.mem_of_getElem? (i := 1014) (by decide +kernel)), (List.mem_of_getElem? (i := 76) (by decide +kernel)), Or.inl (List.mem_of_getElem? (i := 1012) (by decide +kernel))⟩
theorem mlL_17 : MV RL 17 7 yX7_feed cX7_feed 6 (some .int) 5 := ⟨⟨(List.mem_of_getElem? (i := 146) (by decide +kernel)), (List.mem_of_getElem? (i := 1019) (by decide +kernel)), by decide +kernel, by decide +kernel⟩, ⟨_, _, ci7⟩, (List.mem_of_getElem? (i := 1017) (by decide +kernel)), (List.mem_of_getElem? (i := 1018) (by decide +kernel)), Or.inl (List.mem_of_getElem? (i := 1016) (by decide +kernel))⟩
theorem ml7_89 : MV RX7 89 7 yX7_puts cX7_puts 3 none 1 := ⟨⟨(List.mem_of_getElem? (i := 146) (by decide +kernel)), (List.mem_of_getElem? (i := 1023) (by decide +kernel)), by decide +kernel, by decide +kernel⟩, ⟨_, _, ci7⟩, (List.mem_of_getElem? (i := 1022) (by decide +kernel)), (List.mem_of_getElem? (i := 77) (by decide +kernel)), Or.inl (List.mem_of_getElem? (i := 1020) (by decide +kernel))⟩
theorem mlL_22 : MV RL 22 7 yX7_end cX7_end 2 (some .int) 1 := ⟨⟨(List.mem_of_getElem? (i := 146) (by decide +kernel)), (List.mem_of_getElem? (i := 1027) (by decide +kernel)), by decide +kernel, by decide +kernel⟩, ⟨_, _, ci7⟩, (List.mem_of_getElem? (i := 1025) (by decide +kernel)), (List.mem_of_getElem? (i := 1026) (by decide +kernel)), Or.inl (List.mem_of_getElem? (i := 1024) (by decide +kernel))⟩
theorem mlL_27 : MV RL 27 7 yX7_tell cX7_tell 2 (some .int) 0 := ⟨⟨(List.mem_of_getElem? (i := 146) (by decide +kernel)), (List.mem_of_getElem? (i := 1031) (by decide +kernel)), by decide +kernel, by decide +kernel⟩, ⟨_, _, ci7⟩, (List.mem_of_getElem? (i := 1029) (by decide +kernel)), (List.mem_of_getElem? (i := 1030) (by decide +kernel)), Or.inl (List.mem_of_getElem? (i := 1028) (by decide +kernel))⟩
theorem ml7_93 : MV RX7 93 7 yX7_many cX7_many 1 (some .int) 0 := ⟨⟨(List.mem_of_getElem? (i := 146) (by decide +kernel)), (List.mem_of_getElem? (i := 1035) (by decide +kernel)), by decide +kernel, by decide +kernel⟩, ⟨_, _, ci7⟩, (List.mem_of_getElem? (i := 1034) (by decide +kernel)), (List.mem_of_getElem? (i := 78) (by decide +kernel)), Or.inl (List.mem_of_getElem? (i := 1032) (by decide +kernel))⟩
theorem ml7_100 : MV RX7 100 7 yX7_remembers cX7_remembers 2 none 0 := ⟨⟨(List.mem_of_getElem? (i := 146) (by decide +kernel)), (List.mem_of_getElem? (i := 1039) (by decide +kernel)), by decide +kernel, by decide +kernel⟩, ⟨_, _, ci7⟩, (List.mem_of_getElem? (i := 1038) (by decide +kernel)), (List.mem_of_getElem? (i := 79) (by decide +kernel)), Or.inl (List.mem_of_getElem? (i := 1036) (by decide +kernel))⟩
theorem ml7_79 : MV RX7 79 7 yX7_keepsIn cX7_keepsIn 4 none 2 := ⟨⟨(List.mem_of_getElem? (i := 146) (by decide +kernel)), (List.mem_of_getElem? (i := 1043) (by decide +kernel)), by decide +kernel, by decide +kernel⟩, ⟨_, _, ci7⟩, (List.mem_of_getElem? (i := 1042) (by decide +kernel)), (List.mem_of_getElem? (i := 80) (by decide +kernel)), Or.inl (List.mem_of_getElem? (i := 1040) (by decide +kernel))⟩
theorem ml7_103 : MV RX7 103 7 yX7_comes cX7_comes 2 none 1 := ⟨⟨(List.mem_of_getElem? (i := 146) (by decide +kernel)), (List.mem_of_getElem? (i := 1047) (by decide +kernel)), by decide +kernel, by decide +kernel⟩, ⟨_, _, ci7⟩, (List.mem_of_getElem? (i := 1046) (by decide +kernel)), (List.mem_of_getElem? (i := 81) (by decide +kernel)), Or.inl (List.mem_of_getElem? (i := 1044) (by decide +kernel))⟩
theorem ml7_106 : MV RX7 106 7 yX7_begins cX7_begins 1 none 0 := ⟨⟨(List.mem_of_getElem? (i := 146) (by decide +kernel)), (List.mem_of_getElem? (i := 1051) (by decide +kernel)), by decide +kernel, by decide +kernel⟩, ⟨_, _, ci7⟩, (List.mem_of_getElem? (i := 1050) (by decide +kernel)), (List.mem_of_getElem? (i := 82) (by decide +kernel)), Or.inl (List.mem_of_getElem? (i := 1048) (by decide +kernel))⟩
theorem ml7_97 : MV RX7 97 7 yX7_clearsCounts cX7_clearsCounts 1 none 0 := ⟨⟨(List.mem_of_getElem? (i := 146) (by decide +kernel)), (List.mem_of_getElem? (i := 1055) (by decide +kernel)), by decide +kernel, by decide +kernel⟩, ⟨_, _, ci7⟩, (List.mem_of_getElem? (i := 1054) (by decide +kernel)), (List.mem_of_getElem? (i := 83) (by decide +kernel)), Or.inl (List.mem_of_getElem? (i := 1052) (by decide +kernel))⟩
theorem mlL_32 : MV RL 32 7 yX7_drawn cX7_drawn 4 (some .int) 2 := ⟨⟨(List.mem_of_getElem? (i := 146) (by decide +kernel)), (List.mem_of_getElem? (i := 1059) (by decide +kernel)), by decide +kernel, by decide +kernel⟩, ⟨_, _, ci7⟩, (List.mem_of_getElem? (i := 1057) (by decide +kernel)), (List.mem_of_getElem? (i := 1058) (by decide +kernel)), Or.inl (List.mem_of_getElem? (i := 1056) (by decide +kernel))⟩
theorem ml7_116 : MS RX7 116 yX7_in cX7_in 3 (some .boolean) 3 := ⟨⟨(List.mem_of_getElem? (i := 146) (by decide +kernel)), (List.mem_of_getElem? (i := 1062) (by decide +kernel)), by decide +kernel, by decide +kernel⟩, (List.mem_of_getElem? (i := 1061) (by decide +kernel)), (List.mem_of_getElem? (i := 1060) (by decide +kernel))⟩
theorem ml7_120 : MV RX7 120 7 yX7_drawnOf cX7_drawnOf 2 (some .int) 1 := ⟨⟨(List.mem_of_getElem? (i := 146) (by decide +kernel)), (List.mem_of_getElem? (i := 1066) (by decide +kernel)), by decide +kernel, by decide +kernel⟩, ⟨_, _, ci7⟩, (List.mem_of_getElem? (i := 1065) (by decide +kernel)), (List.mem_of_getElem? (i := 84) (by decide +kernel)), Or.inl (List.mem_of_getElem? (i := 1063) (by decide +kernel))⟩
theorem mlL_36 : MV RL 36 7 yX7_draws cX7_draws 3 (some .int) 1 := ⟨⟨(List.mem_of_getElem? (i := 146) (by decide +kernel)), (List.mem_of_getElem? (i := 1074) (by decide +kernel)), by decide +kernel, by decide +kernel⟩, ⟨_, _, ci7⟩, (List.mem_of_getElem? (i := 1072) (by decide +kernel)), (List.mem_of_getElem? (i := 1073) (by decide +kernel)), Or.inl (List.mem_of_getElem? (i := 1071) (by decide +kernel))⟩
theorem mlL_40 : MV RL 40 7 yX7_clear cX7_clear 2 (some .int) 0 := ⟨⟨(List.mem_of_getElem? (i := 146) (by decide +kernel)), (List.mem_of_getElem? (i := 1078) (by decide +kernel)), by decide +kernel, by decide +kernel⟩, ⟨_, _, ci7⟩, (List.mem_of_getElem? (i := 1076) (by decide +kernel)), (List.mem_of_getElem? (i := 1077) (by decide +kernel)), Or.inl (List.mem_of_getElem? (i := 1075) (by decide +kernel))⟩
theorem mlL_44 : MV RL 44 7 yX7_settle cX7_settle 4 (some .int) 2 := ⟨⟨(List.mem_of_getElem? (i := 146) (by decide +kernel)), (List.mem_of_getElem? (i := 1082) (by decide +kernel)), by decide +kernel, by decide +kernel⟩, ⟨_, _, ci7⟩, (List.mem_of_getElem? (i := 1080) (by decide +kernel)), (List.mem_of_getElem? (i := 1081) (by decide +kernel)), Or.inl (List.mem_of_getElem? (i := 1079) (by decide +kernel))⟩
theorem ml7_124 : MS RX7 124 yX7_canSet cX7_canSet 2 (some .boolean) 2 := ⟨⟨(List.mem_of_getElem? (i := 146) (by decide +kernel)), (List.mem_of_getElem? (i := 1085) (by decide +kernel)), by decide +kernel, by decide +kernel⟩, (List.mem_of_getElem? (i := 1084) (by decide +kernel)), (List.mem_of_getElem? (i := 1083) (by decide +kernel))⟩
theorem mlL_48 : MV RL 48 7 yX7_grow cX7_grow 1 (some .int) 0 := ⟨⟨(List.mem_of_getElem? (i := 146) (by decide +kernel)), (List.mem_of_getElem? (i := 1089) (by decide +kernel)), by decide +kernel, by decide +kernel⟩, ⟨_, _, ci7⟩, (List.mem_of_getElem? (i := 1087) (by decide +kernel)), (List.mem_of_getElem? (i := 1088) (by decide +kernel)), Or.inl (List.mem_of_getElem? (i := 1086) (by decide +kernel))⟩
theorem ml7_148 : MV RX7 148 7 yX7_laysRuns cX7_laysRuns 6 none 0 := ⟨⟨(List.mem_of_getElem? (i := 146) (by decide +kernel)), (List.mem_of_getElem? (i := 1093) (by decide +kernel)), by decide +kernel, by decide +kernel⟩, ⟨_, _, ci7⟩, (List.mem_of_getElem? (i := 1092) (by decide +kernel)), (List.mem_of_getElem? (i := 85) (by decide +kernel)), Or.inl (List.mem_of_getElem? (i := 1090) (by decide +kernel))⟩
theorem ml7_138 : MV RX7 138 7 yX7_room cX7_room 1 (some .int) 0 := ⟨⟨(List.mem_of_getElem? (i := 146) (by decide +kernel)), (List.mem_of_getElem? (i := 1097) (by decide +kernel)), by decide +kernel, by decide +kernel⟩, ⟨_, _, ci7⟩, (List.mem_of_getElem? (i := 1096) (by decide +kernel)), (List.mem_of_getElem? (i := 86) (by decide +kernel)), Or.inl (List.mem_of_getElem? (i := 1094) (by decide +kernel))⟩
theorem ml7_141 : MV RX7 141 7 yX7_comesIn cX7_comesIn 3 none 2 := ⟨⟨(List.mem_of_getElem? (i := 146) (by decide +kernel)), (List.mem_of_getElem? (i := 1101) (by decide +kernel)), by decide +kernel, by decide +kernel⟩, ⟨_, _, ci7⟩, (List.mem_of_getElem? (i := 1100) (by decide +kernel)), (List.mem_of_getElem? (i := 87) (by decide +kernel)), Or.inl (List.mem_of_getElem? (i := 1098) (by decide +kernel))⟩
theorem ml7_145 : MV RX7 145 7 yX7_firstOf cX7_firstOf 4 (some .int) 1 := ⟨⟨(List.mem_of_getElem? (i := 146) (by decide +kernel)), (List.mem_of_getElem? (i := 1105) (by decide +kernel)), by decide +kernel, by decide +kernel⟩, ⟨_, _, ci7⟩, (List.mem_of_getElem? (i := 1104) (by decide +kernel)), (List.mem_of_getElem? (i := 88) (by decide +kernel)), Or.inl (List.mem_of_getElem? (i := 1102) (by decide +kernel))⟩
theorem ml7_131 : MV RX7 131 7 yX7_isLess cX7_isLess 3 (some .boolean) 2 := ⟨⟨(List.mem_of_getElem? (i := 146) (by decide +kernel)), (List.mem_of_getElem? (i := 1109) (by decide +kernel)), by decide +kernel, by decide +kernel⟩, ⟨_, _, ci7⟩, (List.mem_of_getElem? (i := 1108) (by decide +kernel)), (List.mem_of_getElem? (i := 89) (by decide +kernel)), Or.inl (List.mem_of_getElem? (i := 1106) (by decide +kernel))⟩
theorem ml7_134 : MV RX7 134 7 yX7_doesFall cX7_doesFall 2 (some .boolean) 1 := ⟨⟨(List.mem_of_getElem? (i := 146) (by decide +kernel)), (List.mem_of_getElem? (i := 1113) (by decide +kernel)), by decide +kernel, by decide +kernel⟩, ⟨_, _, ci7⟩, (List.mem_of_getElem? (i := 1112) (by decide +kernel)), (List.mem_of_getElem? (i := 90) (by decide +kernel)), Or.inl (List.mem_of_getElem? (i := 1110) (by decide +kernel))⟩
theorem mlL_89 : MV RL 89 7 yX7_perfect cX7_perfect 4 (some .int) 2 := ⟨⟨(List.mem_of_getElem? (i := 146) (by decide +kernel)), (List.mem_of_getElem? (i := 1117) (by decide +kernel)), by decide +kernel, by decide +kernel⟩, ⟨_, _, ci7⟩, (List.mem_of_getElem? (i := 1115) (by decide +kernel)), (List.mem_of_getElem? (i := 1116) (by decide +kernel)), Or.inl (List.mem_of_getElem? (i := 1114) (by decide +kernel))⟩
theorem ml7_155 : MV RX7 155 7 yX7_tapes cX7_tapes 1 (some .int) 0 := ⟨⟨(List.mem_of_getElem? (i := 146) (by decide +kernel)), (List.mem_of_getElem? (i := 1121) (by decide +kernel)), by decide +kernel, by decide +kernel⟩, ⟨_, _, ci7⟩, (List.mem_of_getElem? (i := 1120) (by decide +kernel)), (List.mem_of_getElem? (i := 91) (by decide +kernel)), Or.inl (List.mem_of_getElem? (i := 1118) (by decide +kernel))⟩
theorem ml7_158 : MV RX7 158 7 yX7_way cX7_way 1 (some .int) 0 := ⟨⟨(List.mem_of_getElem? (i := 146) (by decide +kernel)), (List.mem_of_getElem? (i := 1125) (by decide +kernel)), by decide +kernel, by decide +kernel⟩, ⟨_, _, ci7⟩, (List.mem_of_getElem? (i := 1124) (by decide +kernel)), (List.mem_of_getElem? (i := 92) (by decide +kernel)), Or.inl (List.mem_of_getElem? (i := 1122) (by decide +kernel))⟩
theorem ml7_161 : MV RX7 161 7 yX7_laysPerfect cX7_laysPerfect 7 none 3 := ⟨⟨(List.mem_of_getElem? (i := 146) (by decide +kernel)), (List.mem_of_getElem? (i := 1129) (by decide +kernel)), by decide +kernel, by decide +kernel⟩, ⟨_, _, ci7⟩, (List.mem_of_getElem? (i := 1128) (by decide +kernel)), (List.mem_of_getElem? (i := 93) (by decide +kernel)), Or.inl (List.mem_of_getElem? (i := 1126) (by decide +kernel))⟩
theorem ml7_151 : MS RX7 151 yX7_truth cX7_truth 1 (some .int) 1 := ⟨⟨(List.mem_of_getElem? (i := 146) (by decide +kernel)), (List.mem_of_getElem? (i := 1132) (by decide +kernel)), by decide +kernel, by decide +kernel⟩, (List.mem_of_getElem? (i := 1131) (by decide +kernel)), (List.mem_of_getElem? (i := 1130) (by decide +kernel))⟩
theorem ml7_165 : MV RX7 165 7 yX7_allPerfect cX7_allPerfect 4 (some .int) 1 := ⟨⟨(List.mem_of_getElem? (i := 146) (by decide +kernel)), (List.mem_of_getElem? (i := 1136) (by decide +kernel)), by decide +kernel, by decide +kernel⟩, ⟨_, _, ci7⟩, (List.mem_of_getElem? (i := 1135) (by decide +kernel)), (List.mem_of_getElem? (i := 94) (by decide +kernel)), Or.inl (List.mem_of_getElem? (i := 1133) (by decide +kernel))⟩
theorem mlL_52 : MV RL 52 7 yX7_spread cX7_spread 1 (some .int) 0 := ⟨⟨(List.mem_of_getElem? (i := 146) (by decide +kernel)), (List.mem_of_getElem? (i := 1140) (by decide +kernel)), by decide +kernel, by decide +kernel⟩, ⟨_, _, ci7⟩, (List.mem_of_getElem? (i := 1138) (by decide +kernel)), (List.mem_of_getElem? (i := 1139) (by decide +kernel)), Or.inl (List.mem_of_getElem? (i := 1137) (by decide +kernel))⟩
theorem ml7_216 : MV RX7 216 7 yX7_canSpread cX7_canSpread 1 (some .boolean) 0 := ⟨⟨(List.mem_of_getElem? (i := 146) (by decide +kernel)), (List.mem_of_getElem? (i := 1144) (by decide +kernel)), by decide +kernel, by decide +kernel⟩, ⟨_, _, ci7⟩, (List.mem_of_getElem? (i := 1143) (by decide +kernel)), (List.mem_of_getElem? (i := 95) (by decide +kernel)), Or.inl (List.mem_of_getElem? (i := 1141) (by decide +kernel))⟩
theorem ml7_219 : MV RX7 219 7 yX7_spreads cX7_spreads 3 none 0 := ⟨⟨(List.mem_of_getElem? (i := 146) (by decide +kernel)), (List.mem_of_getElem? (i := 1148) (by decide +kernel)), by decide +kernel, by decide +kernel⟩, ⟨_, _, ci7⟩, (List.mem_of_getElem? (i := 1147) (by decide +kernel)), (List.mem_of_getElem? (i := 96) (by decide +kernel)), Or.inl (List.mem_of_getElem? (i := 1145) (by decide +kernel))⟩
theorem ml7_197 : MV RX7 197 7 yX7_dealsRun cX7_dealsRun 6 none 2 := ⟨⟨(List.mem_of_getElem? (i := 146) (by decide +kernel)), (List.mem_of_getElem? (i := 1152) (by decide +kernel)), by decide +kernel, by decide +kernel⟩, ⟨_, _, ci7⟩, (List.mem_of_getElem? (i := 1151) (by decide +kernel)), (List.mem_of_getElem? (i := 97) (by decide +kernel)), Or.inl (List.mem_of_getElem? (i := 1149) (by decide +kernel))⟩
theorem ml7_185 : MV RX7 185 7 yX7_runSize cX7_runSize 2 (some .int) 1 := ⟨⟨(List.mem_of_getElem? (i := 146) (by decide +kernel)), (List.mem_of_getElem? (i := 1156) (by decide +kernel)), by decide +kernel, by decide +kernel⟩, ⟨_, _, ci7⟩, (List.mem_of_getElem? (i := 1155) (by decide +kernel)), (List.mem_of_getElem? (i := 98) (by decide +kernel)), Or.inl (List.mem_of_getElem? (i := 1153) (by decide +kernel))⟩
theorem ml7_179 : MV RX7 179 7 yX7_makesRun cX7_makesRun 3 (some .int) 2 := ⟨⟨(List.mem_of_getElem? (i := 146) (by decide +kernel)), (List.mem_of_getElem? (i := 1160) (by decide +kernel)), by decide +kernel, by decide +kernel⟩, ⟨_, _, ci7⟩, (List.mem_of_getElem? (i := 1159) (by decide +kernel)), (List.mem_of_getElem? (i := 99) (by decide +kernel)), Or.inl (List.mem_of_getElem? (i := 1157) (by decide +kernel))⟩
theorem ml7_188 : MV RX7 188 7 yX7_isBack cX7_isBack 1 (some .boolean) 0 := ⟨⟨(List.mem_of_getElem? (i := 146) (by decide +kernel)), (List.mem_of_getElem? (i := 1164) (by decide +kernel)), by decide +kernel, by decide +kernel⟩, ⟨_, _, ci7⟩, (List.mem_of_getElem? (i := 1163) (by decide +kernel)), (List.mem_of_getElem? (i := 100) (by decide +kernel)), Or.inl (List.mem_of_getElem? (i := 1161) (by decide +kernel))⟩
theorem ml7_182 : MV RX7 182 7 yX7_comesLast cX7_comesLast 3 none 2 := ⟨⟨(List.mem_of_getElem? (i := 146) (by decide +kernel)), (List.mem_of_getElem? (i := 1168) (by decide +kernel)), by decide +kernel, by decide +kernel⟩, ⟨_, _, ci7⟩, (List.mem_of_getElem? (i := 1167) (by decide +kernel)), (List.mem_of_getElem? (i := 101) (by decide +kernel)), Or.inl (List.mem_of_getElem? (i := 1165) (by decide +kernel))⟩
theorem ml7_200 : MV RX7 200 7 yX7_spreadsPerfectly cX7_spreadsPerfectly 7 none 0 := ⟨⟨(List.mem_of_getElem? (i := 146) (by decide +kernel)), (List.mem_of_getElem? (i := 1172) (by decide +kernel)), by decide +kernel, by decide +kernel⟩, ⟨_, _, ci7⟩, (List.mem_of_getElem? (i := 1171) (by decide +kernel)), (List.mem_of_getElem? (i := 102) (by decide +kernel)), Or.inl (List.mem_of_getElem? (i := 1169) (by decide +kernel))⟩
theorem ml7_191 : MV RX7 191 7 yX7_dealsDummies cX7_dealsDummies 7 none 2 := ⟨⟨(List.mem_of_getElem? (i := 146) (by decide +kernel)), (List.mem_of_getElem? (i := 1176) (by decide +kernel)), by decide +kernel, by decide +kernel⟩, ⟨_, _, ci7⟩, (List.mem_of_getElem? (i := 1175) (by decide +kernel)), (List.mem_of_getElem? (i := 103) (by decide +kernel)), Or.inl (List.mem_of_getElem? (i := 1173) (by decide +kernel))⟩
theorem ml7_175 : MV RX7 175 7 yX7_isFront cX7_isFront 1 (some .boolean) 0 := ⟨⟨(List.mem_of_getElem? (i := 146) (by decide +kernel)), (List.mem_of_getElem? (i := 1180) (by decide +kernel)), by decide +kernel, by decide +kernel⟩, ⟨_, _, ci7⟩, (List.mem_of_getElem? (i := 1179) (by decide +kernel)), (List.mem_of_getElem? (i := 104) (by decide +kernel)), Or.inl (List.mem_of_getElem? (i := 1177) (by decide +kernel))⟩
theorem ml7_194 : MV RX7 194 7 yX7_placesLeft cX7_placesLeft 2 (some .int) 1 := ⟨⟨(List.mem_of_getElem? (i := 146) (by decide +kernel)), (List.mem_of_getElem? (i := 1184) (by decide +kernel)), by decide +kernel, by decide +kernel⟩, ⟨_, _, ci7⟩, (List.mem_of_getElem? (i := 1183) (by decide +kernel)), (List.mem_of_getElem? (i := 105) (by decide +kernel)), Or.inl (List.mem_of_getElem? (i := 1181) (by decide +kernel))⟩
theorem ml7_203 : MV RX7 203 7 yX7_beginsPass cX7_beginsPass 2 none 0 := ⟨⟨(List.mem_of_getElem? (i := 146) (by decide +kernel)), (List.mem_of_getElem? (i := 1188) (by decide +kernel)), by decide +kernel, by decide +kernel⟩, ⟨_, _, ci7⟩, (List.mem_of_getElem? (i := 1187) (by decide +kernel)), (List.mem_of_getElem? (i := 106) (by decide +kernel)), Or.inl (List.mem_of_getElem? (i := 1185) (by decide +kernel))⟩
theorem ml7_206 : MV RX7 206 7 yX7_looksWhetherMerged cX7_looksWhetherMerged 3 none 0 := ⟨⟨(List.mem_of_getElem? (i := 146) (by decide +kernel)), (List.mem_of_getElem? (i := 1192) (by decide +kernel)), by decide +kernel, by decide +kernel⟩, ⟨_, _, ci7⟩, (List.mem_of_getElem? (i := 1191) (by decide +kernel)), (List.mem_of_getElem? (i := 107) (by decide +kernel)), Or.inl (List.mem_of_getElem? (i := 1189) (by decide +kernel))⟩
theorem ml7_209 : MV RX7 209 7 yX7_onAll cX7_onAll 3 (some .int) 0 := ⟨⟨(List.mem_of_getElem? (i := 146) (by decide +kernel)), (List.mem_of_getElem? (i := 1196) (by decide +kernel)), by decide +kernel, by decide +kernel⟩, ⟨_, _, ci7⟩, (List.mem_of_getElem? (i := 1195) (by decide +kernel)), (List.mem_of_getElem? (i := 108) (by decide +kernel)), Or.inl (List.mem_of_getElem? (i := 1193) (by decide +kernel))⟩
theorem ml7_168 : MV RX7 168 7 yX7_runAt cX7_runAt 3 (some .int) 2 := ⟨⟨(List.mem_of_getElem? (i := 146) (by decide +kernel)), (List.mem_of_getElem? (i := 1200) (by decide +kernel)), by decide +kernel, by decide +kernel⟩, ⟨_, _, ci7⟩, (List.mem_of_getElem? (i := 1199) (by decide +kernel)), (List.mem_of_getElem? (i := 109) (by decide +kernel)), Or.inl (List.mem_of_getElem? (i := 1197) (by decide +kernel))⟩
theorem ml7_212 : MV RX7 212 7 yX7_sorts cX7_sorts 7 none 3 := ⟨⟨(List.mem_of_getElem? (i := 146) (by decide +kernel)), (List.mem_of_getElem? (i := 1204) (by decide +kernel)), by decide +kernel, by decide +kernel⟩, ⟨_, _, ci7⟩, (List.mem_of_getElem? (i := 1203) (by decide +kernel)), (List.mem_of_getElem? (i := 110) (by decide +kernel)), Or.inl (List.mem_of_getElem? (i := 1201) (by decide +kernel))⟩
theorem mlL_56 : MV RL 56 7 yX7_step cX7_step 1 (some .int) 0 := ⟨⟨(List.mem_of_getElem? (i := 146) (by decide +kernel)), (List.mem_of_getElem? (i := 1208) (by decide +kernel)), by decide +kernel, by decide +kernel⟩, ⟨_, _, ci7⟩, (List.mem_of_getElem? (i := 1206) (by decide +kernel)), (List.mem_of_getElem? (i := 1207) (by decide +kernel)), Or.inl (List.mem_of_getElem? (i := 1205) (by decide +kernel))⟩
theorem ml7_258 : MV RX7 258 7 yX7_refused cX7_refused 1 (some .int) 0 := ⟨⟨(List.mem_of_getElem? (i := 146) (by decide +kernel)), (List.mem_of_getElem? (i := 1212) (by decide +kernel)), by decide +kernel, by decide +kernel⟩, ⟨_, _, ci7⟩, (List.mem_of_getElem? (i := 1211) (by decide +kernel)), (List.mem_of_getElem? (i := 111) (by decide +kernel)), Or.inl (List.mem_of_getElem? (i := 1209) (by decide +kernel))⟩
theorem ml7_255 : MV RX7 255 7 yX7_isSpread cX7_isSpread 1 (some .boolean) 0 := ⟨⟨(List.mem_of_getElem? (i := 146) (by decide +kernel)), (List.mem_of_getElem? (i := 1216) (by decide +kernel)), by decide +kernel, by decide +kernel⟩, ⟨_, _, ci7⟩, (List.mem_of_getElem? (i := 1215) (by decide +kernel)), (List.mem_of_getElem? (i := 112) (by decide +kernel)), Or.inl (List.mem_of_getElem? (i := 1213) (by decide +kernel))⟩
theorem ml7_261 : MV RX7 261 7 yX7_steps cX7_steps 6 (some .int) 0 := ⟨⟨(List.mem_of_getElem? (i := 146) (by decide +kernel)), (List.mem_of_getElem? (i := 1220) (by decide +kernel)), by decide +kernel, by decide +kernel⟩, ⟨_, _, ci7⟩, (List.mem_of_getElem? (i := 1219) (by decide +kernel)), (List.mem_of_getElem? (i := 113) (by decide +kernel)), Or.inl (List.mem_of_getElem? (i := 1217) (by decide +kernel))⟩
theorem ml7_234 : MV RX7 234 7 yX7_laysTaken cX7_laysTaken 4 (some .boolean) 0 := ⟨⟨(List.mem_of_getElem? (i := 146) (by decide +kernel)), (List.mem_of_getElem? (i := 1224) (by decide +kernel)), by decide +kernel, by decide +kernel⟩, ⟨_, _, ci7⟩, (List.mem_of_getElem? (i := 1223) (by decide +kernel)), (List.mem_of_getElem? (i := 114) (by decide +kernel)), Or.inl (List.mem_of_getElem? (i := 1221) (by decide +kernel))⟩
theorem ml7_225 : MV RX7 225 7 yX7_doesGive cX7_doesGive 2 (some .boolean) 1 := ⟨⟨(List.mem_of_getElem? (i := 146) (by decide +kernel)), (List.mem_of_getElem? (i := 1228) (by decide +kernel)), by decide +kernel, by decide +kernel⟩, ⟨_, _, ci7⟩, (List.mem_of_getElem? (i := 1227) (by decide +kernel)), (List.mem_of_getElem? (i := 115) (by decide +kernel)), Or.inl (List.mem_of_getElem? (i := 1225) (by decide +kernel))⟩
theorem ml7_222 : MV RX7 222 7 yX7_isInHalf cX7_isInHalf 3 (some .boolean) 2 := ⟨⟨(List.mem_of_getElem? (i := 146) (by decide +kernel)), (List.mem_of_getElem? (i := 1232) (by decide +kernel)), by decide +kernel, by decide +kernel⟩, ⟨_, _, ci7⟩, (List.mem_of_getElem? (i := 1231) (by decide +kernel)), (List.mem_of_getElem? (i := 116) (by decide +kernel)), Or.inl (List.mem_of_getElem? (i := 1229) (by decide +kernel))⟩
theorem ml7_237 : MV RX7 237 7 yX7_takesFirst cX7_takesFirst 4 (some .int) 1 := ⟨⟨(List.mem_of_getElem? (i := 146) (by decide +kernel)), (List.mem_of_getElem? (i := 1236) (by decide +kernel)), by decide +kernel, by decide +kernel⟩, ⟨_, _, ci7⟩, (List.mem_of_getElem? (i := 1235) (by decide +kernel)), (List.mem_of_getElem? (i := 117) (by decide +kernel)), Or.inl (List.mem_of_getElem? (i := 1233) (by decide +kernel))⟩
theorem ml7_240 : MV RX7 240 7 yX7_gathers cX7_gathers 6 (some .int) 0 := ⟨⟨(List.mem_of_getElem? (i := 146) (by decide +kernel)), (List.mem_of_getElem? (i := 1240) (by decide +kernel)), by decide +kernel, by decide +kernel⟩, ⟨_, _, ci7⟩, (List.mem_of_getElem? (i := 1239) (by decide +kernel)), (List.mem_of_getElem? (i := 118) (by decide +kernel)), Or.inl (List.mem_of_getElem? (i := 1237) (by decide +kernel))⟩
theorem ml7_228 : MV RX7 228 7 yX7_isInTaken cX7_isInTaken 3 (some .boolean) 1 := ⟨⟨(List.mem_of_getElem? (i := 146) (by decide +kernel)), (List.mem_of_getElem? (i := 1244) (by decide +kernel)), by decide +kernel, by decide +kernel⟩, ⟨_, _, ci7⟩, (List.mem_of_getElem? (i := 1243) (by decide +kernel)), (List.mem_of_getElem? (i := 119) (by decide +kernel)), Or.inl (List.mem_of_getElem? (i := 1241) (by decide +kernel))⟩
theorem ml7_231 : MV RX7 231 7 yX7_shiftsRuns cX7_shiftsRuns 6 none 0 := ⟨⟨(List.mem_of_getElem? (i := 146) (by decide +kernel)), (List.mem_of_getElem? (i := 1248) (by decide +kernel)), by decide +kernel, by decide +kernel⟩, ⟨_, _, ci7⟩, (List.mem_of_getElem? (i := 1247) (by decide +kernel)), (List.mem_of_getElem? (i := 120) (by decide +kernel)), Or.inl (List.mem_of_getElem? (i := 1245) (by decide +kernel))⟩
theorem ml7_243 : MV RX7 243 7 yX7_comesFirst cX7_comesFirst 4 none 2 := ⟨⟨(List.mem_of_getElem? (i := 146) (by decide +kernel)), (List.mem_of_getElem? (i := 1252) (by decide +kernel)), by decide +kernel, by decide +kernel⟩, ⟨_, _, ci7⟩, (List.mem_of_getElem? (i := 1251) (by decide +kernel)), (List.mem_of_getElem? (i := 121) (by decide +kernel)), Or.inl (List.mem_of_getElem? (i := 1249) (by decide +kernel))⟩
theorem ml7_246 : MV RX7 246 7 yX7_goesOn cX7_goesOn 4 none 0 := ⟨⟨(List.mem_of_getElem? (i := 146) (by decide +kernel)), (List.mem_of_getElem? (i := 1256) (by decide +kernel)), by decide +kernel, by decide +kernel⟩, ⟨_, _, ci7⟩, (List.mem_of_getElem? (i := 1255) (by decide +kernel)), (List.mem_of_getElem? (i := 122) (by decide +kernel)), Or.inl (List.mem_of_getElem? (i := 1253) (by decide +kernel))⟩
theorem ml7_249 : MV RX7 249 7 yX7_goesOnBalanced cX7_goesOnBalanced 4 none 0 := ⟨⟨(List.mem_of_getElem? (i := 146) (by decide +kernel)), (List.mem_of_getElem? (i := 1260) (by decide +kernel)), by decide +kernel, by decide +kernel⟩, ⟨_, _, ci7⟩, (List.mem_of_getElem? (i := 1259) (by decide +kernel)), (List.mem_of_getElem? (i := 123) (by decide +kernel)), Or.inl (List.mem_of_getElem? (i := 1257) (by decide +kernel))⟩
theorem ml7_252 : MV RX7 252 7 yX7_emptied cX7_emptied 2 (some .int) 0 := ⟨⟨(List.mem_of_getElem? (i := 146) (by decide +kernel)), (List.mem_of_getElem? (i := 1264) (by decide +kernel)), by decide +kernel, by decide +kernel⟩, ⟨_, _, ci7⟩, (List.mem_of_getElem? (i := 1263) (by decide +kernel)), (List.mem_of_getElem? (i := 124) (by decide +kernel)), Or.inl (List.mem_of_getElem? (i := 1261) (by decide +kernel))⟩
theorem mlL_60 : MV RL 60 7 yX7_phase cX7_phase 3 (some .int) 0 := ⟨⟨(List.mem_of_getElem? (i := 146) (by decide +kernel)), (List.mem_of_getElem? (i := 1268) (by decide +kernel)), by decide +kernel, by decide +kernel⟩, ⟨_, _, ci7⟩, (List.mem_of_getElem? (i := 1266) (by decide +kernel)), (List.mem_of_getElem? (i := 1267) (by decide +kernel)), Or.inl (List.mem_of_getElem? (i := 1265) (by decide +kernel))⟩
theorem mlL_64 : MV RL 64 7 yX7_all cX7_all 2 (some .int) 0 := ⟨⟨(List.mem_of_getElem? (i := 146) (by decide +kernel)), (List.mem_of_getElem? (i := 1272) (by decide +kernel)), by decide +kernel, by decide +kernel⟩, ⟨_, _, ci7⟩, (List.mem_of_getElem? (i := 1270) (by decide +kernel)), (List.mem_of_getElem? (i := 1271) (by decide +kernel)), Or.inl (List.mem_of_getElem? (i := 1269) (by decide +kernel))⟩
theorem mlL_68 : MV RL 68 7 yX7_record cX7_record 3 (some .int) 2 := ⟨⟨(List.mem_of_getElem? (i := 146) (by decide +kernel)), (List.mem_of_getElem? (i := 1276) (by decide +kernel)), by decide +kernel, by decide +kernel⟩, ⟨_, _, ci7⟩, (List.mem_of_getElem? (i := 1274) (by decide +kernel)), (List.mem_of_getElem? (i := 1275) (by decide +kernel)), Or.inl (List.mem_of_getElem? (i := 1273) (by decide +kernel))⟩
theorem mlL_72 : MV RL 72 7 yX7_run cX7_run 3 (some .int) 2 := ⟨⟨(List.mem_of_getElem? (i := 146) (by decide +kernel)), (List.mem_of_getElem? (i := 1280) (by decide +kernel)), by decide +kernel, by decide +kernel⟩, ⟨_, _, ci7⟩, (List.mem_of_getElem? (i := 1278) (by decide +kernel)), (List.mem_of_getElem? (i := 1279) (by decide +kernel)), Or.inl (List.mem_of_getElem? (i := 1277) (by decide +kernel))⟩
theorem mlL_76 : MV RL 76 7 yX7_tape cX7_tape 6 (some .int) 2 := ⟨⟨(List.mem_of_getElem? (i := 146) (by decide +kernel)), (List.mem_of_getElem? (i := 1284) (by decide +kernel)), by decide +kernel, by decide +kernel⟩, ⟨_, _, ci7⟩, (List.mem_of_getElem? (i := 1282) (by decide +kernel)), (List.mem_of_getElem? (i := 1283) (by decide +kernel)), Or.inl (List.mem_of_getElem? (i := 1281) (by decide +kernel))⟩
theorem mlL_81 : MV RL 81 7 yX7_on cX7_on 5 (some .int) 3 := ⟨⟨(List.mem_of_getElem? (i := 146) (by decide +kernel)), (List.mem_of_getElem? (i := 1288) (by decide +kernel)), by decide +kernel, by decide +kernel⟩, ⟨_, _, ci7⟩, (List.mem_of_getElem? (i := 1286) (by decide +kernel)), (List.mem_of_getElem? (i := 1287) (by decide +kernel)), Or.inl (List.mem_of_getElem? (i := 1285) (by decide +kernel))⟩
theorem mlL_85 : MV RL 85 7 yX7_sorted cX7_sorted 2 (some .int) 1 := ⟨⟨(List.mem_of_getElem? (i := 146) (by decide +kernel)), (List.mem_of_getElem? (i := 1292) (by decide +kernel)), by decide +kernel, by decide +kernel⟩, ⟨_, _, ci7⟩, (List.mem_of_getElem? (i := 1290) (by decide +kernel)), (List.mem_of_getElem? (i := 1291) (by decide +kernel)), Or.inl (List.mem_of_getElem? (i := 1289) (by decide +kernel))⟩
theorem mlL_93 : MV RL 93 7 yX7_plan cX7_plan 2 (some .int) 1 := ⟨⟨(List.mem_of_getElem? (i := 146) (by decide +kernel)), (List.mem_of_getElem? (i := 1296) (by decide +kernel)), by decide +kernel, by decide +kernel⟩, ⟨_, _, ci7⟩, (List.mem_of_getElem? (i := 1294) (by decide +kernel)), (List.mem_of_getElem? (i := 1295) (by decide +kernel)), Or.inl (List.mem_of_getElem? (i := 1293) (by decide +kernel))⟩
theorem ml7_270 : MV RX7 270 7 yX7_goesThrough cX7_goesThrough 6 (some .int) 4 := ⟨⟨(List.mem_of_getElem? (i := 146) (by decide +kernel)), (List.mem_of_getElem? (i := 1300) (by decide +kernel)), by decide +kernel, by decide +kernel⟩, ⟨_, _, ci7⟩, (List.mem_of_getElem? (i := 1299) (by decide +kernel)), (List.mem_of_getElem? (i := 125) (by decide +kernel)), Or.inl (List.mem_of_getElem? (i := 1297) (by decide +kernel))⟩
theorem ml7_267 : MV RX7 267 7 yX7_notesStand cX7_notesStand 4 none 0 := ⟨⟨(List.mem_of_getElem? (i := 146) (by decide +kernel)), (List.mem_of_getElem? (i := 1304) (by decide +kernel)), by decide +kernel, by decide +kernel⟩, ⟨_, _, ci7⟩, (List.mem_of_getElem? (i := 1303) (by decide +kernel)), (List.mem_of_getElem? (i := 126) (by decide +kernel)), Or.inl (List.mem_of_getElem? (i := 1301) (by decide +kernel))⟩
theorem mlL_97 : MV RL 97 7 yX7_planned cX7_planned 4 (some .int) 3 := ⟨⟨(List.mem_of_getElem? (i := 146) (by decide +kernel)), (List.mem_of_getElem? (i := 1308) (by decide +kernel)), by decide +kernel, by decide +kernel⟩, ⟨_, _, ci7⟩, (List.mem_of_getElem? (i := 1306) (by decide +kernel)), (List.mem_of_getElem? (i := 1307) (by decide +kernel)), Or.inl (List.mem_of_getElem? (i := 1305) (by decide +kernel))⟩
theorem mlL_113 : MV RL 113 7 yX7_stands cX7_stands 1 (some .int) 0 := ⟨⟨(List.mem_of_getElem? (i := 146) (by decide +kernel)), (List.mem_of_getElem? (i := 1312) (by decide +kernel)), by decide +kernel, by decide +kernel⟩, ⟨_, _, ci7⟩, (List.mem_of_getElem? (i := 1310) (by decide +kernel)), (List.mem_of_getElem? (i := 1311) (by decide +kernel)), Or.inl (List.mem_of_getElem? (i := 1309) (by decide +kernel))⟩
theorem mlL_105 : MV RL 105 7 yX7_depth cX7_depth 5 (some .int) 1 := ⟨⟨(List.mem_of_getElem? (i := 146) (by decide +kernel)), (List.mem_of_getElem? (i := 1316) (by decide +kernel)), by decide +kernel, by decide +kernel⟩, ⟨_, _, ci7⟩, (List.mem_of_getElem? (i := 1314) (by decide +kernel)), (List.mem_of_getElem? (i := 1315) (by decide +kernel)), Or.inl (List.mem_of_getElem? (i := 1313) (by decide +kernel))⟩
theorem mlL_109 : MV RL 109 7 yX7_units cX7_units 4 (some .int) 1 := ⟨⟨(List.mem_of_getElem? (i := 146) (by decide +kernel)), (List.mem_of_getElem? (i := 1320) (by decide +kernel)), by decide +kernel, by decide +kernel⟩, ⟨_, _, ci7⟩, (List.mem_of_getElem? (i := 1318) (by decide +kernel)), (List.mem_of_getElem? (i := 1319) (by decide +kernel)), Or.inl (List.mem_of_getElem? (i := 1317) (by decide +kernel))⟩
theorem ml7_294 : MV RX7 294 7 yX7_beginsUnits cX7_beginsUnits 2 none 0 := ⟨⟨(List.mem_of_getElem? (i := 146) (by decide +kernel)), (List.mem_of_getElem? (i := 1324) (by decide +kernel)), by decide +kernel, by decide +kernel⟩, ⟨_, _, ci7⟩, (List.mem_of_getElem? (i := 1323) (by decide +kernel)), (List.mem_of_getElem? (i := 127) (by decide +kernel)), Or.inl (List.mem_of_getElem? (i := 1321) (by decide +kernel))⟩
theorem ml7_297 : MV RX7 297 7 yX7_isMoreThanOne cX7_isMoreThanOne 3 (some .boolean) 0 := ⟨⟨(List.mem_of_getElem? (i := 146) (by decide +kernel)), (List.mem_of_getElem? (i := 1328) (by decide +kernel)), by decide +kernel, by decide +kernel⟩, ⟨_, _, ci7⟩, (List.mem_of_getElem? (i := 1327) (by decide +kernel)), (List.mem_of_getElem? (i := 128) (by decide +kernel)), Or.inl (List.mem_of_getElem? (i := 1325) (by decide +kernel))⟩
theorem ml7_300 : MV RX7 300 7 yX7_goesUnits cX7_goesUnits 7 (some .int) 0 := ⟨⟨(List.mem_of_getElem? (i := 146) (by decide +kernel)), (List.mem_of_getElem? (i := 1332) (by decide +kernel)), by decide +kernel, by decide +kernel⟩, ⟨_, _, ci7⟩, (List.mem_of_getElem? (i := 1331) (by decide +kernel)), (List.mem_of_getElem? (i := 129) (by decide +kernel)), Or.inl (List.mem_of_getElem? (i := 1329) (by decide +kernel))⟩
theorem ml7_286 : MV RX7 286 7 yX7_givesUnits cX7_givesUnits 3 (some .boolean) 1 := ⟨⟨(List.mem_of_getElem? (i := 146) (by decide +kernel)), (List.mem_of_getElem? (i := 1337) (by decide +kernel)), by decide +kernel, by decide +kernel⟩, ⟨_, _, ci7⟩, (List.mem_of_getElem? (i := 1336) (by decide +kernel)), (List.mem_of_getElem? (i := 130) (by decide +kernel)), Or.inl (List.mem_of_getElem? (i := 1334) (by decide +kernel))⟩
theorem mlL_101 : MV RL 101 7 yX7_least cX7_least 6 (some .int) 1 := ⟨⟨(List.mem_of_getElem? (i := 146) (by decide +kernel)), (List.mem_of_getElem? (i := 1342) (by decide +kernel)), by decide +kernel, by decide +kernel⟩, ⟨_, _, ci7⟩, (List.mem_of_getElem? (i := 1340) (by decide +kernel)), (List.mem_of_getElem? (i := 1341) (by decide +kernel)), Or.inl (List.mem_of_getElem? (i := 1339) (by decide +kernel))⟩
theorem ml7_303 : MV RX7 303 7 yX7_takesLeast cX7_takesLeast 4 (some .int) 1 := ⟨⟨(List.mem_of_getElem? (i := 146) (by decide +kernel)), (List.mem_of_getElem? (i := 1346) (by decide +kernel)), by decide +kernel, by decide +kernel⟩, ⟨_, _, ci7⟩, (List.mem_of_getElem? (i := 1345) (by decide +kernel)), (List.mem_of_getElem? (i := 131) (by decide +kernel)), Or.inl (List.mem_of_getElem? (i := 1343) (by decide +kernel))⟩
theorem mlL_117 : MV RL 117 7 yX7_key cX7_key 6 (some .int) 2 := ⟨⟨(List.mem_of_getElem? (i := 146) (by decide +kernel)), (List.mem_of_getElem? (i := 1350) (by decide +kernel)), by decide +kernel, by decide +kernel⟩, ⟨_, _, ci7⟩, (List.mem_of_getElem? (i := 1348) (by decide +kernel)), (List.mem_of_getElem? (i := 1349) (by decide +kernel)), Or.inl (List.mem_of_getElem? (i := 1347) (by decide +kernel))⟩
theorem ml7_306 : MV RX7 306 7 yX7_oftenOf cX7_oftenOf 4 (some .int) 1 := ⟨⟨(List.mem_of_getElem? (i := 146) (by decide +kernel)), (List.mem_of_getElem? (i := 1354) (by decide +kernel)), by decide +kernel, by decide +kernel⟩, ⟨_, _, ci7⟩, (List.mem_of_getElem? (i := 1353) (by decide +kernel)), (List.mem_of_getElem? (i := 132) (by decide +kernel)), Or.inl (List.mem_of_getElem? (i := 1351) (by decide +kernel))⟩
theorem mlL_121 : MV RL 121 7 yX7_keys cX7_keys 9 (some .int) 1 := ⟨⟨(List.mem_of_getElem? (i := 146) (by decide +kernel)), (List.mem_of_getElem? (i := 1358) (by decide +kernel)), by decide +kernel, by decide +kernel⟩, ⟨_, _, ci7⟩, (List.mem_of_getElem? (i := 1356) (by decide +kernel)), (List.mem_of_getElem? (i := 1357) (by decide +kernel)), Or.inl (List.mem_of_getElem? (i := 1355) (by decide +kernel))⟩
theorem mlL_125 : MV RL 125 7 yX7_about cX7_about 2 (some .int) 1 := ⟨⟨(List.mem_of_getElem? (i := 146) (by decide +kernel)), (List.mem_of_getElem? (i := 1363) (by decide +kernel)), by decide +kernel, by decide +kernel⟩, ⟨_, _, ci7⟩, (List.mem_of_getElem? (i := 1361) (by decide +kernel)), (List.mem_of_getElem? (i := 1362) (by decide +kernel)), Or.inl (List.mem_of_getElem? (i := 1360) (by decide +kernel))⟩
theorem ml7_312 : MV RX7 312 7 yX7_inversions cX7_inversions 4 (some .int) 0 := ⟨⟨(List.mem_of_getElem? (i := 146) (by decide +kernel)), (List.mem_of_getElem? (i := 1367) (by decide +kernel)), by decide +kernel, by decide +kernel⟩, ⟨_, _, ci7⟩, (List.mem_of_getElem? (i := 1366) (by decide +kernel)), (List.mem_of_getElem? (i := 133) (by decide +kernel)), Or.inl (List.mem_of_getElem? (i := 1364) (by decide +kernel))⟩
theorem ml7_315 : MV RX7 315 7 yX7_naturalRuns cX7_naturalRuns 3 (some .int) 0 := ⟨⟨(List.mem_of_getElem? (i := 146) (by decide +kernel)), (List.mem_of_getElem? (i := 1371) (by decide +kernel)), by decide +kernel, by decide +kernel⟩, ⟨_, _, ci7⟩, (List.mem_of_getElem? (i := 1370) (by decide +kernel)), (List.mem_of_getElem? (i := 134) (by decide +kernel)), Or.inl (List.mem_of_getElem? (i := 1368) (by decide +kernel))⟩
theorem ml7_318 : MV RX7 318 7 yX7_midst cX7_midst 4 (some .int) 0 := ⟨⟨(List.mem_of_getElem? (i := 146) (by decide +kernel)), (List.mem_of_getElem? (i := 1375) (by decide +kernel)), by decide +kernel, by decide +kernel⟩, ⟨_, _, ci7⟩, (List.mem_of_getElem? (i := 1374) (by decide +kernel)), (List.mem_of_getElem? (i := 135) (by decide +kernel)), Or.inl (List.mem_of_getElem? (i := 1372) (by decide +kernel))⟩
theorem mlL_129 : MV RL 129 7 yX7_forecast cX7_forecast 7 (some .int) 2 := ⟨⟨(List.mem_of_getElem? (i := 146) (by decide +kernel)), (List.mem_of_getElem? (i := 1379) (by decide +kernel)), by decide +kernel, by decide +kernel⟩, ⟨_, _, ci7⟩, (List.mem_of_getElem? (i := 1377) (by decide +kernel)), (List.mem_of_getElem? (i := 1378) (by decide +kernel)), Or.inl (List.mem_of_getElem? (i := 1376) (by decide +kernel))⟩
theorem ml7_321 : MV RX7 321 7 yX7_laysWrites cX7_laysWrites 7 (some .int) 0 := ⟨⟨(List.mem_of_getElem? (i := 146) (by decide +kernel)), (List.mem_of_getElem? (i := 1383) (by decide +kernel)), by decide +kernel, by decide +kernel⟩, ⟨_, _, ci7⟩, (List.mem_of_getElem? (i := 1382) (by decide +kernel)), (List.mem_of_getElem? (i := 136) (by decide +kernel)), Or.inl (List.mem_of_getElem? (i := 1380) (by decide +kernel))⟩
theorem mlL_133 : MV RL 133 7 yX7_needs cX7_needs 4 (some .int) 1 := ⟨⟨(List.mem_of_getElem? (i := 146) (by decide +kernel)), (List.mem_of_getElem? (i := 1387) (by decide +kernel)), by decide +kernel, by decide +kernel⟩, ⟨_, _, ci7⟩, (List.mem_of_getElem? (i := 1385) (by decide +kernel)), (List.mem_of_getElem? (i := 1386) (by decide +kernel)), Or.inl (List.mem_of_getElem? (i := 1384) (by decide +kernel))⟩
theorem mlL_141 : MV RL 141 7 yX7_keep cX7_keep 2 (some .int) 1 := ⟨⟨(List.mem_of_getElem? (i := 146) (by decide +kernel)), (List.mem_of_getElem? (i := 1391) (by decide +kernel)), by decide +kernel, by decide +kernel⟩, ⟨_, _, ci7⟩, (List.mem_of_getElem? (i := 1389) (by decide +kernel)), (List.mem_of_getElem? (i := 1390) (by decide +kernel)), Or.inl (List.mem_of_getElem? (i := 1388) (by decide +kernel))⟩
theorem mlL_145 : MV RL 145 7 yX7_back cX7_back 3 (some .int) 1 := ⟨⟨(List.mem_of_getElem? (i := 146) (by decide +kernel)), (List.mem_of_getElem? (i := 1395) (by decide +kernel)), by decide +kernel, by decide +kernel⟩, ⟨_, _, ci7⟩, (List.mem_of_getElem? (i := 1393) (by decide +kernel)), (List.mem_of_getElem? (i := 1394) (by decide +kernel)), Or.inl (List.mem_of_getElem? (i := 1392) (by decide +kernel))⟩
theorem mlL_149 : MV RL 149 7 yX7_count cX7_count 2 (some .int) 1 := ⟨⟨(List.mem_of_getElem? (i := 146) (by decide +kernel)), (List.mem_of_getElem? (i := 1399) (by decide +kernel)), by decide +kernel, by decide +kernel⟩, ⟨_, _, ci7⟩, (List.mem_of_getElem? (i := 1397) (by decide +kernel)), (List.mem_of_getElem? (i := 1398) (by decide +kernel)), Or.inl (List.mem_of_getElem? (i := 1396) (by decide +kernel))⟩
theorem cs6_89 : Cond.constantLong RX6 89 (1103515245) ∈ lw_tbl := (List.mem_of_getElem? (i := 482) (by decide +kernel))
theorem cs6_91 : Cond.constantLong RX6 91 (12345) ∈ lw_tbl := (List.mem_of_getElem? (i := 483) (by decide +kernel))
theorem cs6_93 : Cond.constantLong RX6 93 (2147483647) ∈ lw_tbl := (List.mem_of_getElem? (i := 484) (by decide +kernel))
theorem cs6_95 : Cond.constant RX6 95 (65536) ∈ lw_tbl := (List.mem_of_getElem? (i := 485) (by decide +kernel))
theorem cs6_142 : Cond.constant RX6 142 (100000) ∈ lw_tbl := (List.mem_of_getElem? (i := 707) (by decide +kernel))
theorem cs1_183 : Cond.constant RX1 183 (100000) ∈ lw_tbl := (List.mem_of_getElem? (i := 789) (by decide +kernel))
theorem cs1_187 : Cond.constantLong RX1 187 (1024) ∈ lw_tbl := (List.mem_of_getElem? (i := 824) (by decide +kernel))
theorem cs7_16 : Cond.constant RX7 16 (62616) ∈ lw_tbl := (List.mem_of_getElem? (i := 915) (by decide +kernel))
theorem cs7_109 : Cond.constantLong RX7 109 (1103515245) ∈ lw_tbl := (List.mem_of_getElem? (i := 1067) (by decide +kernel))
theorem cs7_111 : Cond.constantLong RX7 111 (12345) ∈ lw_tbl := (List.mem_of_getElem? (i := 1068) (by decide +kernel))
theorem cs7_113 : Cond.constantLong RX7 113 (2147483648) ∈ lw_tbl := (List.mem_of_getElem? (i := 1069) (by decide +kernel))
theorem cs7_115 : Cond.constant RX7 115 (65536) ∈ lw_tbl := (List.mem_of_getElem? (i := 1070) (by decide +kernel))
theorem cs7_285 : Cond.constant RX7 285 (2147483647) ∈ lw_tbl := (List.mem_of_getElem? (i := 1333) (by decide +kernel))
theorem jd1_42 : Cond.methodLink RX1 42 Lib.Math.max.name ∈ lw_tbl := (List.mem_of_getElem? (i := 256) (by decide +kernel))
theorem jd3_25 : Cond.methodLink RX3 25 arraycopyName ∈ lw_tbl := (List.mem_of_getElem? (i := 447) (by decide +kernel))
theorem jd4_56 : Cond.methodLink RX4 56 arraycopyName ∈ lw_tbl := (List.mem_of_getElem? (i := 450) (by decide +kernel))
theorem jd0_29 : Cond.methodLink RX0 29 arraycopyName ∈ lw_tbl := (List.mem_of_getElem? (i := 455) (by decide +kernel))
theorem jd1_68 : Cond.methodLink RX1 68 Lib.Math.min.name ∈ lw_tbl := (List.mem_of_getElem? (i := 460) (by decide +kernel))
theorem jd1_80 : Cond.methodLink RX1 80 arraycopyName ∈ lw_tbl := (List.mem_of_getElem? (i := 463) (by decide +kernel))
theorem jd5_22 : Cond.methodLink RX5 22 arraycopyName ∈ lw_tbl := (List.mem_of_getElem? (i := 468) (by decide +kernel))
theorem jd6_311 : Cond.methodLink RX6 311 Lib.Math.min.name ∈ lw_tbl := (List.mem_of_getElem? (i := 469) (by decide +kernel))
theorem jd0_35 : Cond.methodLink RX0 35 Lib.Math.min.name ∈ lw_tbl := (List.mem_of_getElem? (i := 521) (by decide +kernel))
theorem jd2_15 : Cond.methodLink RX2 15 Lib.Math.min.name ∈ lw_tbl := (List.mem_of_getElem? (i := 590) (by decide +kernel))
theorem jd2_21 : Cond.methodLink RX2 21 Lib.Math.max.name ∈ lw_tbl := (List.mem_of_getElem? (i := 591) (by decide +kernel))
theorem jd6_232 : Cond.methodLink RX6 232 arraycopyName ∈ lw_tbl := (List.mem_of_getElem? (i := 799) (by decide +kernel))
theorem jd7_289 : Cond.methodLink RX7 289 Lib.Math.min.name ∈ lw_tbl := (List.mem_of_getElem? (i := 1338) (by decide +kernel))
theorem jd7_309 : Cond.methodLink RX7 309 Lib.Math.max.name ∈ lw_tbl := (List.mem_of_getElem? (i := 1359) (by decide +kernel))
end
