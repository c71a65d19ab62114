section
-- ===== PART A: goes FIRST, ahead of the names: the tables' words, and 'selects' of the private methods out of them =====
/-- a private method of a class that the tables say can be made, by its rows of tables_1 -/
def lw_okq (q : MethodName × Nat) : Prop := (q.1.cls ≠ "java/lang/invoke/MethodHandle" ∧ q.1.cls ≠ "java/lang/invoke/VarHandle") ∧ Cond.instantiable q.1.cls q.2 ∈ tables_1 ∧ Cond.privateMethod q.1 ∈ tables_1 ∧ Cond.instanceMethod q.1 ∈ tables_1
theorem lw_p0 : lw_okq (⟨"RunTapes", "takeBytes", "(I)V"⟩, 14) := ⟨⟨by decide +kernel, by decide +kernel⟩, List.mem_of_getElem? (i := 12) (by decide +kernel), List.mem_of_getElem? (i := 287) (by decide +kernel), List.mem_of_getElem? (i := 288) (by decide +kernel)⟩
theorem lw_p1 : lw_okq (⟨"RunTapes", "remember", "()V"⟩, 14) := ⟨⟨by decide +kernel, by decide +kernel⟩, List.mem_of_getElem? (i := 12) (by decide +kernel), List.mem_of_getElem? (i := 299) (by decide +kernel), List.mem_of_getElem? (i := 300) (by decide +kernel)⟩
theorem lw_p2 : lw_okq (⟨"RunTapes$State", "copyFrom", "(LRunTapes$State;)V"⟩, 7) := ⟨⟨by decide +kernel, by decide +kernel⟩, List.mem_of_getElem? (i := 20) (by decide +kernel), List.mem_of_getElem? (i := 303) (by decide +kernel), List.mem_of_getElem? (i := 304) (by decide +kernel)⟩
theorem lw_p3 : lw_okq (⟨"RunTapes$Records", "copyFrom", "(LRunTapes$Records;)V"⟩, 4) := ⟨⟨by decide +kernel, by decide +kernel⟩, List.mem_of_getElem? (i := 26) (by decide +kernel), List.mem_of_getElem? (i := 307) (by decide +kernel), List.mem_of_getElem? (i := 308) (by decide +kernel)⟩
theorem lw_p4 : lw_okq (⟨"RunTapes$Grown", "copyFrom", "(LRunTapes$Grown;I)V"⟩, 6) := ⟨⟨by decide +kernel, by decide +kernel⟩, List.mem_of_getElem? (i := 61) (by decide +kernel), List.mem_of_getElem? (i := 315) (by decide +kernel), List.mem_of_getElem? (i := 316) (by decide +kernel)⟩
theorem lw_p5 : lw_okq (⟨"RunTapes$Mill", "copyFrom", "(LRunTapes$Mill;)V"⟩, 19) := ⟨⟨by decide +kernel, by decide +kernel⟩, List.mem_of_getElem? (i := 92) (by decide +kernel), List.mem_of_getElem? (i := 320) (by decide +kernel), List.mem_of_getElem? (i := 321) (by decide +kernel)⟩
theorem lw_p6 : lw_okq (⟨"RunTapes$Tape", "copyFrom", "(LRunTapes$Tape;)V"⟩, 3) := ⟨⟨by decide +kernel, by decide +kernel⟩, List.mem_of_getElem? (i := 122) (by decide +kernel), List.mem_of_getElem? (i := 328) (by decide +kernel), List.mem_of_getElem? (i := 329) (by decide +kernel)⟩
theorem lw_p7 : lw_okq (⟨"RunTapes$Records", "add", "(I)V"⟩, 4) := ⟨⟨by decide +kernel, by decide +kernel⟩, List.mem_of_getElem? (i := 26) (by decide +kernel), List.mem_of_getElem? (i := 334) (by decide +kernel), List.mem_of_getElem? (i := 335) (by decide +kernel)⟩
theorem lw_p8 : lw_okq (⟨"RunTapes", "drawOf", "(I)I"⟩, 14) := ⟨⟨by decide +kernel, by decide +kernel⟩, List.mem_of_getElem? (i := 12) (by decide +kernel), List.mem_of_getElem? (i := 342) (by decide +kernel), List.mem_of_getElem? (i := 343) (by decide +kernel)⟩
theorem lw_p9 : lw_okq (⟨"RunTapes$Records", "wipe", "()V"⟩, 4) := ⟨⟨by decide +kernel, by decide +kernel⟩, List.mem_of_getElem? (i := 26) (by decide +kernel), List.mem_of_getElem? (i := 358) (by decide +kernel), List.mem_of_getElem? (i := 359) (by decide +kernel)⟩
theorem lw_p10 : lw_okq (⟨"RunTapes$State", "growRuns", "()V"⟩, 7) := ⟨⟨by decide +kernel, by decide +kernel⟩, List.mem_of_getElem? (i := 20) (by decide +kernel), List.mem_of_getElem? (i := 377) (by decide +kernel), List.mem_of_getElem? (i := 378) (by decide +kernel)⟩
theorem lw_p11 : lw_okq (⟨"RunTapes$Grown", "growFrom", "(LRunTapes$Records;IZ)V"⟩, 6) := ⟨⟨by decide +kernel, by decide +kernel⟩, List.mem_of_getElem? (i := 61) (by decide +kernel), List.mem_of_getElem? (i := 381) (by decide +kernel), List.mem_of_getElem? (i := 382) (by decide +kernel)⟩
theorem lw_p12 : lw_okq (⟨"RunTapes$Grown", "nextOut", "(LRunTapes$Records;I)I"⟩, 6) := ⟨⟨by decide +kernel, by decide +kernel⟩, List.mem_of_getElem? (i := 61) (by decide +kernel), List.mem_of_getElem? (i := 386) (by decide +kernel), List.mem_of_getElem? (i := 387) (by decide +kernel)⟩
theorem lw_p13 : lw_okq (⟨"RunTapes$Records", "isLess", "(II)Z"⟩, 4) := ⟨⟨by decide +kernel, by decide +kernel⟩, List.mem_of_getElem? (i := 26) (by decide +kernel), List.mem_of_getElem? (i := 390) (by decide +kernel), List.mem_of_getElem? (i := 391) (by decide +kernel)⟩
theorem lw_p14 : lw_okq (⟨"RunTapes$Grown", "falls", "(I)Z"⟩, 6) := ⟨⟨by decide +kernel, by decide +kernel⟩, List.mem_of_getElem? (i := 61) (by decide +kernel), List.mem_of_getElem? (i := 394) (by decide +kernel), List.mem_of_getElem? (i := 395) (by decide +kernel)⟩
theorem lw_p15 : lw_okq (⟨"RunTapes$Grown", "goesOn", "(LRunTapes$Records;II)Z"⟩, 6) := ⟨⟨by decide +kernel, by decide +kernel⟩, List.mem_of_getElem? (i := 61) (by decide +kernel), List.mem_of_getElem? (i := 398) (by decide +kernel), List.mem_of_getElem? (i := 399) (by decide +kernel)⟩
def lw_privs_1 : List (MethodName × Nat) := [(⟨"RunTapes", "takeBytes", "(I)V"⟩, 14), (⟨"RunTapes", "remember", "()V"⟩, 14), (⟨"RunTapes$State", "copyFrom", "(LRunTapes$State;)V"⟩, 7), (⟨"RunTapes$Records", "copyFrom", "(LRunTapes$Records;)V"⟩, 4), (⟨"RunTapes$Grown", "copyFrom", "(LRunTapes$Grown;I)V"⟩, 6), (⟨"RunTapes$Mill", "copyFrom", "(LRunTapes$Mill;)V"⟩, 19), (⟨"RunTapes$Tape", "copyFrom", "(LRunTapes$Tape;)V"⟩, 3), (⟨"RunTapes$Records", "add", "(I)V"⟩, 4), (⟨"RunTapes", "drawOf", "(I)I"⟩, 14), (⟨"RunTapes$Records", "wipe", "()V"⟩, 4), (⟨"RunTapes$State", "growRuns", "()V"⟩, 7), (⟨"RunTapes$Grown", "growFrom", "(LRunTapes$Records;IZ)V"⟩, 6), (⟨"RunTapes$Grown", "nextOut", "(LRunTapes$Records;I)I"⟩, 6), (⟨"RunTapes$Records", "isLess", "(II)Z"⟩, 4), (⟨"RunTapes$Grown", "falls", "(I)Z"⟩, 6), (⟨"RunTapes$Grown", "goesOn", "(LRunTapes$Records;II)Z"⟩, 6)]
theorem lw_r1 : ∀ q ∈ lw_privs_1, lw_okq q := List.forall_mem_cons.mpr ⟨lw_p0, List.forall_mem_cons.mpr ⟨lw_p1, List.forall_mem_cons.mpr ⟨lw_p2, List.forall_mem_cons.mpr ⟨lw_p3, List.forall_mem_cons.mpr ⟨lw_p4, List.forall_mem_cons.mpr ⟨lw_p5, List.forall_mem_cons.mpr ⟨lw_p6, List.forall_mem_cons.mpr ⟨lw_p7, List.forall_mem_cons.mpr ⟨lw_p8, List.forall_mem_cons.mpr ⟨lw_p9, List.forall_mem_cons.mpr ⟨lw_p10, List.forall_mem_cons.mpr ⟨lw_p11, List.forall_mem_cons.mpr ⟨lw_p12, List.forall_mem_cons.mpr ⟨lw_p13, List.forall_mem_cons.mpr ⟨lw_p14, List.forall_mem_cons.mpr ⟨lw_p15, fun _ h => absurd h List.not_mem_nil⟩⟩⟩⟩⟩⟩⟩⟩⟩⟩⟩⟩⟩⟩⟩⟩
theorem lw_p16 : lw_okq (⟨"RunTapes", "canPlan", "()Z"⟩, 14) := ⟨⟨by decide +kernel, by decide +kernel⟩, List.mem_of_getElem? (i := 12) (by decide +kernel), List.mem_of_getElem? (i := 406) (by decide +kernel), List.mem_of_getElem? (i := 407) (by decide +kernel)⟩
theorem lw_p17 : lw_okq (⟨"RunTapes$State", "spreadRuns", "()V"⟩, 7) := ⟨⟨by decide +kernel, by decide +kernel⟩, List.mem_of_getElem? (i := 20) (by decide +kernel), List.mem_of_getElem? (i := 413) (by decide +kernel), List.mem_of_getElem? (i := 414) (by decide +kernel)⟩
theorem lw_p18 : lw_okq (⟨"RunTapes$Mill", "begin", "(IIZ)V"⟩, 19) := ⟨⟨by decide +kernel, by decide +kernel⟩, List.mem_of_getElem? (i := 92) (by decide +kernel), List.mem_of_getElem? (i := 417) (by decide +kernel), List.mem_of_getElem? (i := 418) (by decide +kernel)⟩
theorem lw_p19 : lw_okq (⟨"RunTapes$Tape", "wipe", "()V"⟩, 3) := ⟨⟨by decide +kernel, by decide +kernel⟩, List.mem_of_getElem? (i := 122) (by decide +kernel), List.mem_of_getElem? (i := 421) (by decide +kernel), List.mem_of_getElem? (i := 422) (by decide +kernel)⟩
theorem lw_p20 : lw_okq (⟨"RunTapes$State", "layRuns", "(LRunTapes$Mill;)V"⟩, 7) := ⟨⟨by decide +kernel, by decide +kernel⟩, List.mem_of_getElem? (i := 20) (by decide +kernel), List.mem_of_getElem? (i := 425) (by decide +kernel), List.mem_of_getElem? (i := 426) (by decide +kernel)⟩
theorem lw_p21 : lw_okq (⟨"RunTapes$Mill", "load", "(IZ)V"⟩, 19) := ⟨⟨by decide +kernel, by decide +kernel⟩, List.mem_of_getElem? (i := 92) (by decide +kernel), List.mem_of_getElem? (i := 430) (by decide +kernel), List.mem_of_getElem? (i := 431) (by decide +kernel)⟩
theorem lw_p22 : lw_okq (⟨"RunTapes$Mill", "layOut", "(Z)V"⟩, 19) := ⟨⟨by decide +kernel, by decide +kernel⟩, List.mem_of_getElem? (i := 92) (by decide +kernel), List.mem_of_getElem? (i := 434) (by decide +kernel), List.mem_of_getElem? (i := 435) (by decide +kernel)⟩
theorem lw_p23 : lw_okq (⟨"RunTapes$Mill", "dealByTurns", "()V"⟩, 19) := ⟨⟨by decide +kernel, by decide +kernel⟩, List.mem_of_getElem? (i := 92) (by decide +kernel), List.mem_of_getElem? (i := 438) (by decide +kernel), List.mem_of_getElem? (i := 439) (by decide +kernel)⟩
theorem lw_p24 : lw_okq (⟨"RunTapes$Tape", "write", "(I)V"⟩, 3) := ⟨⟨by decide +kernel, by decide +kernel⟩, List.mem_of_getElem? (i := 122) (by decide +kernel), List.mem_of_getElem? (i := 442) (by decide +kernel), List.mem_of_getElem? (i := 443) (by decide +kernel)⟩
theorem lw_p25 : lw_okq (⟨"RunTapes$Numbers", "climbFor", "(III)V"⟩, 3) := ⟨⟨by decide +kernel, by decide +kernel⟩, List.mem_of_getElem? (i := 100) (by decide +kernel), List.mem_of_getElem? (i := 446) (by decide +kernel), List.mem_of_getElem? (i := 447) (by decide +kernel)⟩
theorem lw_p26 : lw_okq (⟨"RunTapes$Numbers", "ground", "(I)V"⟩, 3) := ⟨⟨by decide +kernel, by decide +kernel⟩, List.mem_of_getElem? (i := 100) (by decide +kernel), List.mem_of_getElem? (i := 450) (by decide +kernel), List.mem_of_getElem? (i := 451) (by decide +kernel)⟩
theorem lw_p27 : lw_okq (⟨"RunTapes$Numbers", "together", "()I"⟩, 3) := ⟨⟨by decide +kernel, by decide +kernel⟩, List.mem_of_getElem? (i := 100) (by decide +kernel), List.mem_of_getElem? (i := 456) (by decide +kernel), List.mem_of_getElem? (i := 457) (by decide +kernel)⟩
theorem lw_p28 : lw_okq (⟨"RunTapes$Numbers", "climb", "(I)V"⟩, 3) := ⟨⟨by decide +kernel, by decide +kernel⟩, List.mem_of_getElem? (i := 100) (by decide +kernel), List.mem_of_getElem? (i := 460) (by decide +kernel), List.mem_of_getElem? (i := 461) (by decide +kernel)⟩
theorem lw_p29 : lw_okq (⟨"RunTapes$Numbers", "climbCascade", "()V"⟩, 3) := ⟨⟨by decide +kernel, by decide +kernel⟩, List.mem_of_getElem? (i := 100) (by decide +kernel), List.mem_of_getElem? (i := 464) (by decide +kernel), List.mem_of_getElem? (i := 465) (by decide +kernel)⟩
theorem lw_p30 : lw_okq (⟨"RunTapes$Mill", "dealByNumbers", "(Z)V"⟩, 19) := ⟨⟨by decide +kernel, by decide +kernel⟩, List.mem_of_getElem? (i := 92) (by decide +kernel), List.mem_of_getElem? (i := 468) (by decide +kernel), List.mem_of_getElem? (i := 469) (by decide +kernel)⟩
theorem lw_p31 : lw_okq (⟨"RunTapes$Mill", "firstPlace", "()I"⟩, 19) := ⟨⟨by decide +kernel, by decide +kernel⟩, List.mem_of_getElem? (i := 92) (by decide +kernel), List.mem_of_getElem? (i := 473) (by decide +kernel), List.mem_of_getElem? (i := 474) (by decide +kernel)⟩
def lw_privs_2 : List (MethodName × Nat) := [(⟨"RunTapes", "canPlan", "()Z"⟩, 14), (⟨"RunTapes$State", "spreadRuns", "()V"⟩, 7), (⟨"RunTapes$Mill", "begin", "(IIZ)V"⟩, 19), (⟨"RunTapes$Tape", "wipe", "()V"⟩, 3), (⟨"RunTapes$State", "layRuns", "(LRunTapes$Mill;)V"⟩, 7), (⟨"RunTapes$Mill", "load", "(IZ)V"⟩, 19), (⟨"RunTapes$Mill", "layOut", "(Z)V"⟩, 19), (⟨"RunTapes$Mill", "dealByTurns", "()V"⟩, 19), (⟨"RunTapes$Tape", "write", "(I)V"⟩, 3), (⟨"RunTapes$Numbers", "climbFor", "(III)V"⟩, 3), (⟨"RunTapes$Numbers", "ground", "(I)V"⟩, 3), (⟨"RunTapes$Numbers", "together", "()I"⟩, 3), (⟨"RunTapes$Numbers", "climb", "(I)V"⟩, 3), (⟨"RunTapes$Numbers", "climbCascade", "()V"⟩, 3), (⟨"RunTapes$Mill", "dealByNumbers", "(Z)V"⟩, 19), (⟨"RunTapes$Mill", "firstPlace", "()I"⟩, 19)]
theorem lw_r2 : ∀ q ∈ lw_privs_2, lw_okq q := List.forall_mem_cons.mpr ⟨lw_p16, List.forall_mem_cons.mpr ⟨lw_p17, List.forall_mem_cons.mpr ⟨lw_p18, List.forall_mem_cons.mpr ⟨lw_p19, List.forall_mem_cons.mpr ⟨lw_p20, List.forall_mem_cons.mpr ⟨lw_p21, List.forall_mem_cons.mpr ⟨lw_p22, List.forall_mem_cons.mpr ⟨lw_p23, List.forall_mem_cons.mpr ⟨lw_p24, List.forall_mem_cons.mpr ⟨lw_p25, List.forall_mem_cons.mpr ⟨lw_p26, List.forall_mem_cons.mpr ⟨lw_p27, List.forall_mem_cons.mpr ⟨lw_p28, List.forall_mem_cons.mpr ⟨lw_p29, List.forall_mem_cons.mpr ⟨lw_p30, List.forall_mem_cons.mpr ⟨lw_p31, fun _ h => absurd h List.not_mem_nil⟩⟩⟩⟩⟩⟩⟩⟩⟩⟩⟩⟩⟩⟩⟩⟩
theorem lw_p32 : lw_okq (⟨"RunTapes$Mill", "fewestBlanks", "()I"⟩, 19) := ⟨⟨by decide +kernel, by decide +kernel⟩, List.mem_of_getElem? (i := 92) (by decide +kernel), List.mem_of_getElem? (i := 477) (by decide +kernel), List.mem_of_getElem? (i := 478) (by decide +kernel)⟩
theorem lw_p33 : lw_okq (⟨"RunTapes$Mill", "writeBlanks", "()V"⟩, 19) := ⟨⟨by decide +kernel, by decide +kernel⟩, List.mem_of_getElem? (i := 92) (by decide +kernel), List.mem_of_getElem? (i := 481) (by decide +kernel), List.mem_of_getElem? (i := 482) (by decide +kernel)⟩
theorem lw_p34 : lw_okq (⟨"RunTapes$Mill", "mostPlaces", "()I"⟩, 19) := ⟨⟨by decide +kernel, by decide +kernel⟩, List.mem_of_getElem? (i := 92) (by decide +kernel), List.mem_of_getElem? (i := 485) (by decide +kernel), List.mem_of_getElem? (i := 486) (by decide +kernel)⟩
theorem lw_p35 : lw_okq (⟨"RunTapes$Mill", "openPass", "()V"⟩, 19) := ⟨⟨by decide +kernel, by decide +kernel⟩, List.mem_of_getElem? (i := 92) (by decide +kernel), List.mem_of_getElem? (i := 489) (by decide +kernel), List.mem_of_getElem? (i := 490) (by decide +kernel)⟩
theorem lw_p36 : lw_okq (⟨"RunTapes$Tape", "size", "()I"⟩, 3) := ⟨⟨by decide +kernel, by decide +kernel⟩, List.mem_of_getElem? (i := 122) (by decide +kernel), List.mem_of_getElem? (i := 493) (by decide +kernel), List.mem_of_getElem? (i := 494) (by decide +kernel)⟩
theorem lw_p37 : lw_okq (⟨"RunTapes$Mill", "turnLast", "()V"⟩, 19) := ⟨⟨by decide +kernel, by decide +kernel⟩, List.mem_of_getElem? (i := 92) (by decide +kernel), List.mem_of_getElem? (i := 497) (by decide +kernel), List.mem_of_getElem? (i := 498) (by decide +kernel)⟩
theorem lw_p38 : lw_okq (⟨"RunTapes$Tape", "at", "(IZ)I"⟩, 3) := ⟨⟨by decide +kernel, by decide +kernel⟩, List.mem_of_getElem? (i := 122) (by decide +kernel), List.mem_of_getElem? (i := 501) (by decide +kernel), List.mem_of_getElem? (i := 502) (by decide +kernel)⟩
theorem lw_p39 : lw_okq (⟨"RunTapes$Mill", "isDown", "(I)Z"⟩, 19) := ⟨⟨by decide +kernel, by decide +kernel⟩, List.mem_of_getElem? (i := 92) (by decide +kernel), List.mem_of_getElem? (i := 506) (by decide +kernel), List.mem_of_getElem? (i := 507) (by decide +kernel)⟩
theorem lw_p40 : lw_okq (⟨"RunTapes", "whyNoStep", "()I"⟩, 14) := ⟨⟨by decide +kernel, by decide +kernel⟩, List.mem_of_getElem? (i := 12) (by decide +kernel), List.mem_of_getElem? (i := 514) (by decide +kernel), List.mem_of_getElem? (i := 515) (by decide +kernel)⟩
theorem lw_p41 : lw_okq (⟨"RunTapes$State", "mergeOnce", "()V"⟩, 7) := ⟨⟨by decide +kernel, by decide +kernel⟩, List.mem_of_getElem? (i := 20) (by decide +kernel), List.mem_of_getElem? (i := 518) (by decide +kernel), List.mem_of_getElem? (i := 519) (by decide +kernel)⟩
theorem lw_p42 : lw_okq (⟨"RunTapes$Mill", "advance", "()V"⟩, 19) := ⟨⟨by decide +kernel, by decide +kernel⟩, List.mem_of_getElem? (i := 92) (by decide +kernel), List.mem_of_getElem? (i := 522) (by decide +kernel), List.mem_of_getElem? (i := 523) (by decide +kernel)⟩
theorem lw_p43 : lw_okq (⟨"RunTapes$Mill", "look", "()V"⟩, 19) := ⟨⟨by decide +kernel, by decide +kernel⟩, List.mem_of_getElem? (i := 92) (by decide +kernel), List.mem_of_getElem? (i := 526) (by decide +kernel), List.mem_of_getElem? (i := 527) (by decide +kernel)⟩
theorem lw_p44 : lw_okq (⟨"RunTapes$Mill", "gives", "(I)Z"⟩, 19) := ⟨⟨by decide +kernel, by decide +kernel⟩, List.mem_of_getElem? (i := 92) (by decide +kernel), List.mem_of_getElem? (i := 530) (by decide +kernel), List.mem_of_getElem? (i := 531) (by decide +kernel)⟩
theorem lw_p45 : lw_okq (⟨"RunTapes$Tape", "drop", "(Z)V"⟩, 3) := ⟨⟨by decide +kernel, by decide +kernel⟩, List.mem_of_getElem? (i := 122) (by decide +kernel), List.mem_of_getElem? (i := 534) (by decide +kernel), List.mem_of_getElem? (i := 535) (by decide +kernel)⟩
theorem lw_p46 : lw_okq (⟨"RunTapes$Mill", "sizeOf", "(I)I"⟩, 19) := ⟨⟨by decide +kernel, by decide +kernel⟩, List.mem_of_getElem? (i := 92) (by decide +kernel), List.mem_of_getElem? (i := 539) (by decide +kernel), List.mem_of_getElem? (i := 540) (by decide +kernel)⟩
theorem lw_p47 : lw_okq (⟨"RunTapes$Mill", "endBalancedPhase", "()V"⟩, 19) := ⟨⟨by decide +kernel, by decide +kernel⟩, List.mem_of_getElem? (i := 92) (by decide +kernel), List.mem_of_getElem? (i := 543) (by decide +kernel), List.mem_of_getElem? (i := 544) (by decide +kernel)⟩
def lw_privs_3 : List (MethodName × Nat) := [(⟨"RunTapes$Mill", "fewestBlanks", "()I"⟩, 19), (⟨"RunTapes$Mill", "writeBlanks", "()V"⟩, 19), (⟨"RunTapes$Mill", "mostPlaces", "()I"⟩, 19), (⟨"RunTapes$Mill", "openPass", "()V"⟩, 19), (⟨"RunTapes$Tape", "size", "()I"⟩, 3), (⟨"RunTapes$Mill", "turnLast", "()V"⟩, 19), (⟨"RunTapes$Tape", "at", "(IZ)I"⟩, 3), (⟨"RunTapes$Mill", "isDown", "(I)Z"⟩, 19), (⟨"RunTapes", "whyNoStep", "()I"⟩, 14), (⟨"RunTapes$State", "mergeOnce", "()V"⟩, 7), (⟨"RunTapes$Mill", "advance", "()V"⟩, 19), (⟨"RunTapes$Mill", "look", "()V"⟩, 19), (⟨"RunTapes$Mill", "gives", "(I)Z"⟩, 19), (⟨"RunTapes$Tape", "drop", "(Z)V"⟩, 3), (⟨"RunTapes$Mill", "sizeOf", "(I)I"⟩, 19), (⟨"RunTapes$Mill", "endBalancedPhase", "()V"⟩, 19)]
theorem lw_r3 : ∀ q ∈ lw_privs_3, lw_okq q := List.forall_mem_cons.mpr ⟨lw_p32, List.forall_mem_cons.mpr ⟨lw_p33, List.forall_mem_cons.mpr ⟨lw_p34, List.forall_mem_cons.mpr ⟨lw_p35, List.forall_mem_cons.mpr ⟨lw_p36, List.forall_mem_cons.mpr ⟨lw_p37, List.forall_mem_cons.mpr ⟨lw_p38, List.forall_mem_cons.mpr ⟨lw_p39, List.forall_mem_cons.mpr ⟨lw_p40, List.forall_mem_cons.mpr ⟨lw_p41, List.forall_mem_cons.mpr ⟨lw_p42, List.forall_mem_cons.mpr ⟨lw_p43, List.forall_mem_cons.mpr ⟨lw_p44, List.forall_mem_cons.mpr ⟨lw_p45, List.forall_mem_cons.mpr ⟨lw_p46, List.forall_mem_cons.mpr ⟨lw_p47, fun _ h => absurd h List.not_mem_nil⟩⟩⟩⟩⟩⟩⟩⟩⟩⟩⟩⟩⟩⟩⟩⟩
theorem lw_p48 : lw_okq (⟨"RunTapes$Mill", "givers", "()I"⟩, 19) := ⟨⟨by decide +kernel, by decide +kernel⟩, List.mem_of_getElem? (i := 92) (by decide +kernel), List.mem_of_getElem? (i := 547) (by decide +kernel), List.mem_of_getElem? (i := 548) (by decide +kernel)⟩
theorem lw_p49 : lw_okq (⟨"RunTapes$Mill", "firstToWrite", "()I"⟩, 19) := ⟨⟨by decide +kernel, by decide +kernel⟩, List.mem_of_getElem? (i := 92) (by decide +kernel), List.mem_of_getElem? (i := 551) (by decide +kernel), List.mem_of_getElem? (i := 552) (by decide +kernel)⟩
theorem lw_p50 : lw_okq (⟨"RunTapes$Mill", "endNumberedPhase", "()V"⟩, 19) := ⟨⟨by decide +kernel, by decide +kernel⟩, List.mem_of_getElem? (i := 92) (by decide +kernel), List.mem_of_getElem? (i := 555) (by decide +kernel), List.mem_of_getElem? (i := 556) (by decide +kernel)⟩
theorem lw_p51 : lw_okq (⟨"RunTapes$Mill", "emptiedTape", "()I"⟩, 19) := ⟨⟨by decide +kernel, by decide +kernel⟩, List.mem_of_getElem? (i := 92) (by decide +kernel), List.mem_of_getElem? (i := 559) (by decide +kernel), List.mem_of_getElem? (i := 560) (by decide +kernel)⟩
theorem lw_p52 : lw_okq (⟨"RunTapes$Mill", "takenFrom", "(I)I"⟩, 19) := ⟨⟨by decide +kernel, by decide +kernel⟩, List.mem_of_getElem? (i := 92) (by decide +kernel), List.mem_of_getElem? (i := 563) (by decide +kernel), List.mem_of_getElem? (i := 564) (by decide +kernel)⟩
theorem lw_p53 : lw_okq (⟨"RunTapes", "isRun", "(I)Z"⟩, 14) := ⟨⟨by decide +kernel, by decide +kernel⟩, List.mem_of_getElem? (i := 12) (by decide +kernel), List.mem_of_getElem? (i := 584) (by decide +kernel), List.mem_of_getElem? (i := 585) (by decide +kernel)⟩
theorem lw_p54 : lw_okq (⟨"RunTapes$State", "grownRecord", "(II)I"⟩, 7) := ⟨⟨by decide +kernel, by decide +kernel⟩, List.mem_of_getElem? (i := 20) (by decide +kernel), List.mem_of_getElem? (i := 589) (by decide +kernel), List.mem_of_getElem? (i := 590) (by decide +kernel)⟩
theorem lw_p55 : lw_okq (⟨"RunTapes$Records", "ranked", "(IZ)I"⟩, 4) := ⟨⟨by decide +kernel, by decide +kernel⟩, List.mem_of_getElem? (i := 26) (by decide +kernel), List.mem_of_getElem? (i := 593) (by decide +kernel), List.mem_of_getElem? (i := 594) (by decide +kernel)⟩
theorem lw_p56 : lw_okq (⟨"RunTapes", "isTape", "(I)Z"⟩, 14) := ⟨⟨by decide +kernel, by decide +kernel⟩, List.mem_of_getElem? (i := 12) (by decide +kernel), List.mem_of_getElem? (i := 601) (by decide +kernel), List.mem_of_getElem? (i := 602) (by decide +kernel)⟩
theorem lw_p57 : lw_okq (⟨"RunTapes$Tape", "dummies", "()I"⟩, 3) := ⟨⟨by decide +kernel, by decide +kernel⟩, List.mem_of_getElem? (i := 122) (by decide +kernel), List.mem_of_getElem? (i := 606) (by decide +kernel), List.mem_of_getElem? (i := 607) (by decide +kernel)⟩
theorem lw_p58 : lw_okq (⟨"RunTapes$Mill", "recordsOn", "(I)I"⟩, 19) := ⟨⟨by decide +kernel, by decide +kernel⟩, List.mem_of_getElem? (i := 92) (by decide +kernel), List.mem_of_getElem? (i := 610) (by decide +kernel), List.mem_of_getElem? (i := 611) (by decide +kernel)⟩
theorem lw_p59 : lw_okq (⟨"RunTapes$State", "tapeRecord", "(II)I"⟩, 7) := ⟨⟨by decide +kernel, by decide +kernel⟩, List.mem_of_getElem? (i := 20) (by decide +kernel), List.mem_of_getElem? (i := 621) (by decide +kernel), List.mem_of_getElem? (i := 622) (by decide +kernel)⟩
theorem lw_p60 : lw_okq (⟨"RunTapes$Numbers", "climbTo", "(III)V"⟩, 3) := ⟨⟨by decide +kernel, by decide +kernel⟩, List.mem_of_getElem? (i := 100) (by decide +kernel), List.mem_of_getElem? (i := 634) (by decide +kernel), List.mem_of_getElem? (i := 635) (by decide +kernel)⟩
theorem lw_p61 : lw_okq (⟨"RunTapes", "beginPlan", "()V"⟩, 14) := ⟨⟨by decide +kernel, by decide +kernel⟩, List.mem_of_getElem? (i := 12) (by decide +kernel), List.mem_of_getElem? (i := 643) (by decide +kernel), List.mem_of_getElem? (i := 644) (by decide +kernel)⟩
theorem lw_p62 : lw_okq (⟨"RunTapes$Mill", "mergeAll", "()V"⟩, 19) := ⟨⟨by decide +kernel, by decide +kernel⟩, List.mem_of_getElem? (i := 92) (by decide +kernel), List.mem_of_getElem? (i := 649) (by decide +kernel), List.mem_of_getElem? (i := 650) (by decide +kernel)⟩
theorem lw_p63 : lw_okq (⟨"RunTapes", "takeLightest", "(I)I"⟩, 14) := ⟨⟨by decide +kernel, by decide +kernel⟩, List.mem_of_getElem? (i := 12) (by decide +kernel), List.mem_of_getElem? (i := 664) (by decide +kernel), List.mem_of_getElem? (i := 665) (by decide +kernel)⟩
def lw_privs_4 : List (MethodName × Nat) := [(⟨"RunTapes$Mill", "givers", "()I"⟩, 19), (⟨"RunTapes$Mill", "firstToWrite", "()I"⟩, 19), (⟨"RunTapes$Mill", "endNumberedPhase", "()V"⟩, 19), (⟨"RunTapes$Mill", "emptiedTape", "()I"⟩, 19), (⟨"RunTapes$Mill", "takenFrom", "(I)I"⟩, 19), (⟨"RunTapes", "isRun", "(I)Z"⟩, 14), (⟨"RunTapes$State", "grownRecord", "(II)I"⟩, 7), (⟨"RunTapes$Records", "ranked", "(IZ)I"⟩, 4), (⟨"RunTapes", "isTape", "(I)Z"⟩, 14), (⟨"RunTapes$Tape", "dummies", "()I"⟩, 3), (⟨"RunTapes$Mill", "recordsOn", "(I)I"⟩, 19), (⟨"RunTapes$State", "tapeRecord", "(II)I"⟩, 7), (⟨"RunTapes$Numbers", "climbTo", "(III)V"⟩, 3), (⟨"RunTapes", "beginPlan", "()V"⟩, 14), (⟨"RunTapes$Mill", "mergeAll", "()V"⟩, 19), (⟨"RunTapes", "takeLightest", "(I)I"⟩, 14)]
theorem lw_r4 : ∀ q ∈ lw_privs_4, lw_okq q := List.forall_mem_cons.mpr ⟨lw_p48, List.forall_mem_cons.mpr ⟨lw_p49, List.forall_mem_cons.mpr ⟨lw_p50, List.forall_mem_cons.mpr ⟨lw_p51, List.forall_mem_cons.mpr ⟨lw_p52, List.forall_mem_cons.mpr ⟨lw_p53, List.forall_mem_cons.mpr ⟨lw_p54, List.forall_mem_cons.mpr ⟨lw_p55, List.forall_mem_cons.mpr ⟨lw_p56, List.forall_mem_cons.mpr ⟨lw_p57, List.forall_mem_cons.mpr ⟨lw_p58, List.forall_mem_cons.mpr ⟨lw_p59, List.forall_mem_cons.mpr ⟨lw_p60, List.forall_mem_cons.mpr ⟨lw_p61, List.forall_mem_cons.mpr ⟨lw_p62, List.forall_mem_cons.mpr ⟨lw_p63, fun _ h => absurd h List.not_mem_nil⟩⟩⟩⟩⟩⟩⟩⟩⟩⟩⟩⟩⟩⟩⟩⟩
theorem lw_p64 : lw_okq (⟨"RunTapes$Mill", "stand", "()J"⟩, 19) := ⟨⟨by decide +kernel, by decide +kernel⟩, List.mem_of_getElem? (i := 92) (by decide +kernel), List.mem_of_getElem? (i := 684) (by decide +kernel), List.mem_of_getElem? (i := 685) (by decide +kernel)⟩
theorem lw_p65 : lw_okq (⟨"RunTapes", "isAmongLikeStands", "(JI)Z"⟩, 14) := ⟨⟨by decide +kernel, by decide +kernel⟩, List.mem_of_getElem? (i := 12) (by decide +kernel), List.mem_of_getElem? (i := 689) (by decide +kernel), List.mem_of_getElem? (i := 690) (by decide +kernel)⟩
theorem lw_p66 : lw_okq (⟨"RunTapes$Records", "howOften", "(I)I"⟩, 4) := ⟨⟨by decide +kernel, by decide +kernel⟩, List.mem_of_getElem? (i := 26) (by decide +kernel), List.mem_of_getElem? (i := 697) (by decide +kernel), List.mem_of_getElem? (i := 698) (by decide +kernel)⟩
theorem lw_p67 : lw_okq (⟨"RunTapes$Records", "firstOf", "(I)I"⟩, 4) := ⟨⟨by decide +kernel, by decide +kernel⟩, List.mem_of_getElem? (i := 26) (by decide +kernel), List.mem_of_getElem? (i := 701) (by decide +kernel), List.mem_of_getElem? (i := 702) (by decide +kernel)⟩
theorem lw_p68 : lw_okq (⟨"RunTapes$Records", "lastOf", "(I)I"⟩, 4) := ⟨⟨by decide +kernel, by decide +kernel⟩, List.mem_of_getElem? (i := 26) (by decide +kernel), List.mem_of_getElem? (i := 705) (by decide +kernel), List.mem_of_getElem? (i := 706) (by decide +kernel)⟩
theorem lw_p69 : lw_okq (⟨"RunTapes$Records", "unlikeKeys", "()I"⟩, 4) := ⟨⟨by decide +kernel, by decide +kernel⟩, List.mem_of_getElem? (i := 26) (by decide +kernel), List.mem_of_getElem? (i := 713) (by decide +kernel), List.mem_of_getElem? (i := 714) (by decide +kernel)⟩
theorem lw_p70 : lw_okq (⟨"RunTapes$Records", "beginsKey", "(I)Z"⟩, 4) := ⟨⟨by decide +kernel, by decide +kernel⟩, List.mem_of_getElem? (i := 26) (by decide +kernel), List.mem_of_getElem? (i := 717) (by decide +kernel), List.mem_of_getElem? (i := 718) (by decide +kernel)⟩
theorem lw_p71 : lw_okq (⟨"RunTapes$Records", "keyMostOften", "()I"⟩, 4) := ⟨⟨by decide +kernel, by decide +kernel⟩, List.mem_of_getElem? (i := 26) (by decide +kernel), List.mem_of_getElem? (i := 721) (by decide +kernel), List.mem_of_getElem? (i := 722) (by decide +kernel)⟩
theorem lw_p72 : lw_okq (⟨"RunTapes$Records", "naturalRuns", "()I"⟩, 4) := ⟨⟨by decide +kernel, by decide +kernel⟩, List.mem_of_getElem? (i := 26) (by decide +kernel), List.mem_of_getElem? (i := 729) (by decide +kernel), List.mem_of_getElem? (i := 730) (by decide +kernel)⟩
theorem lw_p73 : lw_okq (⟨"RunTapes$State", "fetchedTape", "(II)I"⟩, 7) := ⟨⟨by decide +kernel, by decide +kernel⟩, List.mem_of_getElem? (i := 20) (by decide +kernel), List.mem_of_getElem? (i := 737) (by decide +kernel), List.mem_of_getElem? (i := 738) (by decide +kernel)⟩
theorem lw_p74 : lw_okq (⟨"RunTapes$State", "isFetchedBehindNext", "(II)Z"⟩, 7) := ⟨⟨by decide +kernel, by decide +kernel⟩, List.mem_of_getElem? (i := 20) (by decide +kernel), List.mem_of_getElem? (i := 742) (by decide +kernel), List.mem_of_getElem? (i := 743) (by decide +kernel)⟩
theorem lw_p75 : lw_okq (⟨"RunTapes$Mill", "blocksTaken", "(I)I"⟩, 19) := ⟨⟨by decide +kernel, by decide +kernel⟩, List.mem_of_getElem? (i := 92) (by decide +kernel), List.mem_of_getElem? (i := 753) (by decide +kernel), List.mem_of_getElem? (i := 754) (by decide +kernel)⟩
theorem lw_p76 : lw_okq (⟨"RunTapesModel", "laysFrom", "([II)V"⟩, 30) := ⟨⟨by decide +kernel, by decide +kernel⟩, List.mem_of_getElem? (i := 773) (by decide +kernel), List.mem_of_getElem? (i := 876) (by decide +kernel), List.mem_of_getElem? (i := 877) (by decide +kernel)⟩
theorem lw_p77 : lw_okq (⟨"RunTapesModel", "puts", "(I)V"⟩, 30) := ⟨⟨by decide +kernel, by decide +kernel⟩, List.mem_of_getElem? (i := 773) (by decide +kernel), List.mem_of_getElem? (i := 884) (by decide +kernel), List.mem_of_getElem? (i := 885) (by decide +kernel)⟩
theorem lw_p78 : lw_okq (⟨"RunTapesModel", "many", "()I"⟩, 30) := ⟨⟨by decide +kernel, by decide +kernel⟩, List.mem_of_getElem? (i := 773) (by decide +kernel), List.mem_of_getElem? (i := 896) (by decide +kernel), List.mem_of_getElem? (i := 897) (by decide +kernel)⟩
theorem lw_p79 : lw_okq (⟨"RunTapesModel", "remembers", "()V"⟩, 30) := ⟨⟨by decide +kernel, by decide +kernel⟩, List.mem_of_getElem? (i := 773) (by decide +kernel), List.mem_of_getElem? (i := 900) (by decide +kernel), List.mem_of_getElem? (i := 901) (by decide +kernel)⟩
def lw_privs_5 : List (MethodName × Nat) := [(⟨"RunTapes$Mill", "stand", "()J"⟩, 19), (⟨"RunTapes", "isAmongLikeStands", "(JI)Z"⟩, 14), (⟨"RunTapes$Records", "howOften", "(I)I"⟩, 4), (⟨"RunTapes$Records", "firstOf", "(I)I"⟩, 4), (⟨"RunTapes$Records", "lastOf", "(I)I"⟩, 4), (⟨"RunTapes$Records", "unlikeKeys", "()I"⟩, 4), (⟨"RunTapes$Records", "beginsKey", "(I)Z"⟩, 4), (⟨"RunTapes$Records", "keyMostOften", "()I"⟩, 4), (⟨"RunTapes$Records", "naturalRuns", "()I"⟩, 4), (⟨"RunTapes$State", "fetchedTape", "(II)I"⟩, 7), (⟨"RunTapes$State", "isFetchedBehindNext", "(II)Z"⟩, 7), (⟨"RunTapes$Mill", "blocksTaken", "(I)I"⟩, 19), (⟨"RunTapesModel", "laysFrom", "([II)V"⟩, 30), (⟨"RunTapesModel", "puts", "(I)V"⟩, 30), (⟨"RunTapesModel", "many", "()I"⟩, 30), (⟨"RunTapesModel", "remembers", "()V"⟩, 30)]
theorem lw_r5 : ∀ q ∈ lw_privs_5, lw_okq q := List.forall_mem_cons.mpr ⟨lw_p64, List.forall_mem_cons.mpr ⟨lw_p65, List.forall_mem_cons.mpr ⟨lw_p66, List.forall_mem_cons.mpr ⟨lw_p67, List.forall_mem_cons.mpr ⟨lw_p68, List.forall_mem_cons.mpr ⟨lw_p69, List.forall_mem_cons.mpr ⟨lw_p70, List.forall_mem_cons.mpr ⟨lw_p71, List.forall_mem_cons.mpr ⟨lw_p72, List.forall_mem_cons.mpr ⟨lw_p73, List.forall_mem_cons.mpr ⟨lw_p74, List.forall_mem_cons.mpr ⟨lw_p75, List.forall_mem_cons.mpr ⟨lw_p76, List.forall_mem_cons.mpr ⟨lw_p77, List.forall_mem_cons.mpr ⟨lw_p78, List.forall_mem_cons.mpr ⟨lw_p79, fun _ h => absurd h List.not_mem_nil⟩⟩⟩⟩⟩⟩⟩⟩⟩⟩⟩⟩⟩⟩⟩⟩
theorem lw_p80 : lw_okq (⟨"RunTapesModel", "keepsIn", "([II)V"⟩, 30) := ⟨⟨by decide +kernel, by decide +kernel⟩, List.mem_of_getElem? (i := 773) (by decide +kernel), List.mem_of_getElem? (i := 904) (by decide +kernel), List.mem_of_getElem? (i := 905) (by decide +kernel)⟩
theorem lw_p81 : lw_okq (⟨"RunTapesModel", "comes", "(I)V"⟩, 30) := ⟨⟨by decide +kernel, by decide +kernel⟩, List.mem_of_getElem? (i := 773) (by decide +kernel), List.mem_of_getElem? (i := 908) (by decide +kernel), List.mem_of_getElem? (i := 909) (by decide +kernel)⟩
theorem lw_p82 : lw_okq (⟨"RunTapesModel", "begins", "()V"⟩, 30) := ⟨⟨by decide +kernel, by decide +kernel⟩, List.mem_of_getElem? (i := 773) (by decide +kernel), List.mem_of_getElem? (i := 912) (by decide +kernel), List.mem_of_getElem? (i := 913) (by decide +kernel)⟩
theorem lw_p83 : lw_okq (⟨"RunTapesModel", "clearsCounts", "()V"⟩, 30) := ⟨⟨by decide +kernel, by decide +kernel⟩, List.mem_of_getElem? (i := 773) (by decide +kernel), List.mem_of_getElem? (i := 916) (by decide +kernel), List.mem_of_getElem? (i := 917) (by decide +kernel)⟩
theorem lw_p84 : lw_okq (⟨"RunTapesModel", "drawnOf", "(I)I"⟩, 30) := ⟨⟨by decide +kernel, by decide +kernel⟩, List.mem_of_getElem? (i := 773) (by decide +kernel), List.mem_of_getElem? (i := 927) (by decide +kernel), List.mem_of_getElem? (i := 928) (by decide +kernel)⟩
theorem lw_p85 : lw_okq (⟨"RunTapesModel", "laysRuns", "()V"⟩, 30) := ⟨⟨by decide +kernel, by decide +kernel⟩, List.mem_of_getElem? (i := 773) (by decide +kernel), List.mem_of_getElem? (i := 954) (by decide +kernel), List.mem_of_getElem? (i := 955) (by decide +kernel)⟩
theorem lw_p86 : lw_okq (⟨"RunTapesModel", "room", "()I"⟩, 30) := ⟨⟨by decide +kernel, by decide +kernel⟩, List.mem_of_getElem? (i := 773) (by decide +kernel), List.mem_of_getElem? (i := 958) (by decide +kernel), List.mem_of_getElem? (i := 959) (by decide +kernel)⟩
theorem lw_p87 : lw_okq (⟨"RunTapesModel", "comesIn", "(II)V"⟩, 30) := ⟨⟨by decide +kernel, by decide +kernel⟩, List.mem_of_getElem? (i := 773) (by decide +kernel), List.mem_of_getElem? (i := 962) (by decide +kernel), List.mem_of_getElem? (i := 963) (by decide +kernel)⟩
theorem lw_p88 : lw_okq (⟨"RunTapesModel", "firstOf", "(I)I"⟩, 30) := ⟨⟨by decide +kernel, by decide +kernel⟩, List.mem_of_getElem? (i := 773) (by decide +kernel), List.mem_of_getElem? (i := 966) (by decide +kernel), List.mem_of_getElem? (i := 967) (by decide +kernel)⟩
theorem lw_p89 : lw_okq (⟨"RunTapesModel", "isLess", "(II)Z"⟩, 30) := ⟨⟨by decide +kernel, by decide +kernel⟩, List.mem_of_getElem? (i := 773) (by decide +kernel), List.mem_of_getElem? (i := 970) (by decide +kernel), List.mem_of_getElem? (i := 971) (by decide +kernel)⟩
theorem lw_p90 : lw_okq (⟨"RunTapesModel", "doesFall", "(I)Z"⟩, 30) := ⟨⟨by decide +kernel, by decide +kernel⟩, List.mem_of_getElem? (i := 773) (by decide +kernel), List.mem_of_getElem? (i := 974) (by decide +kernel), List.mem_of_getElem? (i := 975) (by decide +kernel)⟩
theorem lw_p91 : lw_okq (⟨"RunTapesModel", "tapes", "()I"⟩, 30) := ⟨⟨by decide +kernel, by decide +kernel⟩, List.mem_of_getElem? (i := 773) (by decide +kernel), List.mem_of_getElem? (i := 982) (by decide +kernel), List.mem_of_getElem? (i := 983) (by decide +kernel)⟩
theorem lw_p92 : lw_okq (⟨"RunTapesModel", "way", "()I"⟩, 30) := ⟨⟨by decide +kernel, by decide +kernel⟩, List.mem_of_getElem? (i := 773) (by decide +kernel), List.mem_of_getElem? (i := 986) (by decide +kernel), List.mem_of_getElem? (i := 987) (by decide +kernel)⟩
theorem lw_p93 : lw_okq (⟨"RunTapesModel", "laysPerfect", "(III)V"⟩, 30) := ⟨⟨by decide +kernel, by decide +kernel⟩, List.mem_of_getElem? (i := 773) (by decide +kernel), List.mem_of_getElem? (i := 990) (by decide +kernel), List.mem_of_getElem? (i := 991) (by decide +kernel)⟩
theorem lw_p94 : lw_okq (⟨"RunTapesModel", "allPerfect", "(I)I"⟩, 30) := ⟨⟨by decide +kernel, by decide +kernel⟩, List.mem_of_getElem? (i := 773) (by decide +kernel), List.mem_of_getElem? (i := 997) (by decide +kernel), List.mem_of_getElem? (i := 998) (by decide +kernel)⟩
theorem lw_p95 : lw_okq (⟨"RunTapesModel", "canSpread", "()Z"⟩, 30) := ⟨⟨by decide +kernel, by decide +kernel⟩, List.mem_of_getElem? (i := 773) (by decide +kernel), List.mem_of_getElem? (i := 1005) (by decide +kernel), List.mem_of_getElem? (i := 1006) (by decide +kernel)⟩
def lw_privs_6 : List (MethodName × Nat) := [(⟨"RunTapesModel", "keepsIn", "([II)V"⟩, 30), (⟨"RunTapesModel", "comes", "(I)V"⟩, 30), (⟨"RunTapesModel", "begins", "()V"⟩, 30), (⟨"RunTapesModel", "clearsCounts", "()V"⟩, 30), (⟨"RunTapesModel", "drawnOf", "(I)I"⟩, 30), (⟨"RunTapesModel", "laysRuns", "()V"⟩, 30), (⟨"RunTapesModel", "room", "()I"⟩, 30), (⟨"RunTapesModel", "comesIn", "(II)V"⟩, 30), (⟨"RunTapesModel", "firstOf", "(I)I"⟩, 30), (⟨"RunTapesModel", "isLess", "(II)Z"⟩, 30), (⟨"RunTapesModel", "doesFall", "(I)Z"⟩, 30), (⟨"RunTapesModel", "tapes", "()I"⟩, 30), (⟨"RunTapesModel", "way", "()I"⟩, 30), (⟨"RunTapesModel", "laysPerfect", "(III)V"⟩, 30), (⟨"RunTapesModel", "allPerfect", "(I)I"⟩, 30), (⟨"RunTapesModel", "canSpread", "()Z"⟩, 30)]
theorem lw_r6 : ∀ q ∈ lw_privs_6, lw_okq q := List.forall_mem_cons.mpr ⟨lw_p80, List.forall_mem_cons.mpr ⟨lw_p81, List.forall_mem_cons.mpr ⟨lw_p82, List.forall_mem_cons.mpr ⟨lw_p83, List.forall_mem_cons.mpr ⟨lw_p84, List.forall_mem_cons.mpr ⟨lw_p85, List.forall_mem_cons.mpr ⟨lw_p86, List.forall_mem_cons.mpr ⟨lw_p87, List.forall_mem_cons.mpr ⟨lw_p88, List.forall_mem_cons.mpr ⟨lw_p89, List.forall_mem_cons.mpr ⟨lw_p90, List.forall_mem_cons.mpr ⟨lw_p91, List.forall_mem_cons.mpr ⟨lw_p92, List.forall_mem_cons.mpr ⟨lw_p93, List.forall_mem_cons.mpr ⟨lw_p94, List.forall_mem_cons.mpr ⟨lw_p95, fun _ h => absurd h List.not_mem_nil⟩⟩⟩⟩⟩⟩⟩⟩⟩⟩⟩⟩⟩⟩⟩⟩
theorem lw_p96 : lw_okq (⟨"RunTapesModel", "spreads", "()V"⟩, 30) := ⟨⟨by decide +kernel, by decide +kernel⟩, List.mem_of_getElem? (i := 773) (by decide +kernel), List.mem_of_getElem? (i := 1009) (by decide +kernel), List.mem_of_getElem? (i := 1010) (by decide +kernel)⟩
theorem lw_p97 : lw_okq (⟨"RunTapesModel", "dealsRun", "(II)V"⟩, 30) := ⟨⟨by decide +kernel, by decide +kernel⟩, List.mem_of_getElem? (i := 773) (by decide +kernel), List.mem_of_getElem? (i := 1013) (by decide +kernel), List.mem_of_getElem? (i := 1014) (by decide +kernel)⟩
theorem lw_p98 : lw_okq (⟨"RunTapesModel", "runSize", "(I)I"⟩, 30) := ⟨⟨by decide +kernel, by decide +kernel⟩, List.mem_of_getElem? (i := 773) (by decide +kernel), List.mem_of_getElem? (i := 1017) (by decide +kernel), List.mem_of_getElem? (i := 1018) (by decide +kernel)⟩
theorem lw_p99 : lw_okq (⟨"RunTapesModel", "makesRun", "(II)I"⟩, 30) := ⟨⟨by decide +kernel, by decide +kernel⟩, List.mem_of_getElem? (i := 773) (by decide +kernel), List.mem_of_getElem? (i := 1021) (by decide +kernel), List.mem_of_getElem? (i := 1022) (by decide +kernel)⟩
theorem lw_p100 : lw_okq (⟨"RunTapesModel", "isBack", "()Z"⟩, 30) := ⟨⟨by decide +kernel, by decide +kernel⟩, List.mem_of_getElem? (i := 773) (by decide +kernel), List.mem_of_getElem? (i := 1025) (by decide +kernel), List.mem_of_getElem? (i := 1026) (by decide +kernel)⟩
theorem lw_p101 : lw_okq (⟨"RunTapesModel", "comesLast", "(II)V"⟩, 30) := ⟨⟨by decide +kernel, by decide +kernel⟩, List.mem_of_getElem? (i := 773) (by decide +kernel), List.mem_of_getElem? (i := 1029) (by decide +kernel), List.mem_of_getElem? (i := 1030) (by decide +kernel)⟩
theorem lw_p102 : lw_okq (⟨"RunTapesModel", "spreadsPerfectly", "()V"⟩, 30) := ⟨⟨by decide +kernel, by decide +kernel⟩, List.mem_of_getElem? (i := 773) (by decide +kernel), List.mem_of_getElem? (i := 1033) (by decide +kernel), List.mem_of_getElem? (i := 1034) (by decide +kernel)⟩
theorem lw_p103 : lw_okq (⟨"RunTapesModel", "dealsDummies", "(II)V"⟩, 30) := ⟨⟨by decide +kernel, by decide +kernel⟩, List.mem_of_getElem? (i := 773) (by decide +kernel), List.mem_of_getElem? (i := 1037) (by decide +kernel), List.mem_of_getElem? (i := 1038) (by decide +kernel)⟩
theorem lw_p104 : lw_okq (⟨"RunTapesModel", "isFront", "()Z"⟩, 30) := ⟨⟨by decide +kernel, by decide +kernel⟩, List.mem_of_getElem? (i := 773) (by decide +kernel), List.mem_of_getElem? (i := 1041) (by decide +kernel), List.mem_of_getElem? (i := 1042) (by decide +kernel)⟩
theorem lw_p105 : lw_okq (⟨"RunTapesModel", "placesLeft", "(I)I"⟩, 30) := ⟨⟨by decide +kernel, by decide +kernel⟩, List.mem_of_getElem? (i := 773) (by decide +kernel), List.mem_of_getElem? (i := 1045) (by decide +kernel), List.mem_of_getElem? (i := 1046) (by decide +kernel)⟩
theorem lw_p106 : lw_okq (⟨"RunTapesModel", "beginsPass", "()V"⟩, 30) := ⟨⟨by decide +kernel, by decide +kernel⟩, List.mem_of_getElem? (i := 773) (by decide +kernel), List.mem_of_getElem? (i := 1049) (by decide +kernel), List.mem_of_getElem? (i := 1050) (by decide +kernel)⟩
theorem lw_p107 : lw_okq (⟨"RunTapesModel", "looksWhetherMerged", "()V"⟩, 30) := ⟨⟨by decide +kernel, by decide +kernel⟩, List.mem_of_getElem? (i := 773) (by decide +kernel), List.mem_of_getElem? (i := 1053) (by decide +kernel), List.mem_of_getElem? (i := 1054) (by decide +kernel)⟩
theorem lw_p108 : lw_okq (⟨"RunTapesModel", "onAll", "()I"⟩, 30) := ⟨⟨by decide +kernel, by decide +kernel⟩, List.mem_of_getElem? (i := 773) (by decide +kernel), List.mem_of_getElem? (i := 1057) (by decide +kernel), List.mem_of_getElem? (i := 1058) (by decide +kernel)⟩
theorem lw_p109 : lw_okq (⟨"RunTapesModel", "runAt", "(II)I"⟩, 30) := ⟨⟨by decide +kernel, by decide +kernel⟩, List.mem_of_getElem? (i := 773) (by decide +kernel), List.mem_of_getElem? (i := 1061) (by decide +kernel), List.mem_of_getElem? (i := 1062) (by decide +kernel)⟩
theorem lw_p110 : lw_okq (⟨"RunTapesModel", "sorts", "(IIZ)V"⟩, 30) := ⟨⟨by decide +kernel, by decide +kernel⟩, List.mem_of_getElem? (i := 773) (by decide +kernel), List.mem_of_getElem? (i := 1065) (by decide +kernel), List.mem_of_getElem? (i := 1066) (by decide +kernel)⟩
theorem lw_p111 : lw_okq (⟨"RunTapesModel", "refused", "()I"⟩, 30) := ⟨⟨by decide +kernel, by decide +kernel⟩, List.mem_of_getElem? (i := 773) (by decide +kernel), List.mem_of_getElem? (i := 1073) (by decide +kernel), List.mem_of_getElem? (i := 1074) (by decide +kernel)⟩
def lw_privs_7 : List (MethodName × Nat) := [(⟨"RunTapesModel", "spreads", "()V"⟩, 30), (⟨"RunTapesModel", "dealsRun", "(II)V"⟩, 30), (⟨"RunTapesModel", "runSize", "(I)I"⟩, 30), (⟨"RunTapesModel", "makesRun", "(II)I"⟩, 30), (⟨"RunTapesModel", "isBack", "()Z"⟩, 30), (⟨"RunTapesModel", "comesLast", "(II)V"⟩, 30), (⟨"RunTapesModel", "spreadsPerfectly", "()V"⟩, 30), (⟨"RunTapesModel", "dealsDummies", "(II)V"⟩, 30), (⟨"RunTapesModel", "isFront", "()Z"⟩, 30), (⟨"RunTapesModel", "placesLeft", "(I)I"⟩, 30), (⟨"RunTapesModel", "beginsPass", "()V"⟩, 30), (⟨"RunTapesModel", "looksWhetherMerged", "()V"⟩, 30), (⟨"RunTapesModel", "onAll", "()I"⟩, 30), (⟨"RunTapesModel", "runAt", "(II)I"⟩, 30), (⟨"RunTapesModel", "sorts", "(IIZ)V"⟩, 30), (⟨"RunTapesModel", "refused", "()I"⟩, 30)]
theorem lw_r7 : ∀ q ∈ lw_privs_7, lw_okq q := List.forall_mem_cons.mpr ⟨lw_p96, List.forall_mem_cons.mpr ⟨lw_p97, List.forall_mem_cons.mpr ⟨lw_p98, List.forall_mem_cons.mpr ⟨lw_p99, List.forall_mem_cons.mpr ⟨lw_p100, List.forall_mem_cons.mpr ⟨lw_p101, List.forall_mem_cons.mpr ⟨lw_p102, List.forall_mem_cons.mpr ⟨lw_p103, List.forall_mem_cons.mpr ⟨lw_p104, List.forall_mem_cons.mpr ⟨lw_p105, List.forall_mem_cons.mpr ⟨lw_p106, List.forall_mem_cons.mpr ⟨lw_p107, List.forall_mem_cons.mpr ⟨lw_p108, List.forall_mem_cons.mpr ⟨lw_p109, List.forall_mem_cons.mpr ⟨lw_p110, List.forall_mem_cons.mpr ⟨lw_p111, fun _ h => absurd h List.not_mem_nil⟩⟩⟩⟩⟩⟩⟩⟩⟩⟩⟩⟩⟩⟩⟩⟩
theorem lw_p112 : lw_okq (⟨"RunTapesModel", "isSpread", "()Z"⟩, 30) := ⟨⟨by decide +kernel, by decide +kernel⟩, List.mem_of_getElem? (i := 773) (by decide +kernel), List.mem_of_getElem? (i := 1077) (by decide +kernel), List.mem_of_getElem? (i := 1078) (by decide +kernel)⟩
theorem lw_p113 : lw_okq (⟨"RunTapesModel", "steps", "()I"⟩, 30) := ⟨⟨by decide +kernel, by decide +kernel⟩, List.mem_of_getElem? (i := 773) (by decide +kernel), List.mem_of_getElem? (i := 1081) (by decide +kernel), List.mem_of_getElem? (i := 1082) (by decide +kernel)⟩
theorem lw_p114 : lw_okq (⟨"RunTapesModel", "laysTaken", "()Z"⟩, 30) := ⟨⟨by decide +kernel, by decide +kernel⟩, List.mem_of_getElem? (i := 773) (by decide +kernel), List.mem_of_getElem? (i := 1085) (by decide +kernel), List.mem_of_getElem? (i := 1086) (by decide +kernel)⟩
theorem lw_p115 : lw_okq (⟨"RunTapesModel", "doesGive", "(I)Z"⟩, 30) := ⟨⟨by decide +kernel, by decide +kernel⟩, List.mem_of_getElem? (i := 773) (by decide +kernel), List.mem_of_getElem? (i := 1089) (by decide +kernel), List.mem_of_getElem? (i := 1090) (by decide +kernel)⟩
theorem lw_p116 : lw_okq (⟨"RunTapesModel", "isInHalf", "(II)Z"⟩, 30) := ⟨⟨by decide +kernel, by decide +kernel⟩, List.mem_of_getElem? (i := 773) (by decide +kernel), List.mem_of_getElem? (i := 1093) (by decide +kernel), List.mem_of_getElem? (i := 1094) (by decide +kernel)⟩
theorem lw_p117 : lw_okq (⟨"RunTapesModel", "takesFirst", "(I)I"⟩, 30) := ⟨⟨by decide +kernel, by decide +kernel⟩, List.mem_of_getElem? (i := 773) (by decide +kernel), List.mem_of_getElem? (i := 1097) (by decide +kernel), List.mem_of_getElem? (i := 1098) (by decide +kernel)⟩
theorem lw_p118 : lw_okq (⟨"RunTapesModel", "gathers", "()I"⟩, 30) := ⟨⟨by decide +kernel, by decide +kernel⟩, List.mem_of_getElem? (i := 773) (by decide +kernel), List.mem_of_getElem? (i := 1101) (by decide +kernel), List.mem_of_getElem? (i := 1102) (by decide +kernel)⟩
theorem lw_p119 : lw_okq (⟨"RunTapesModel", "isInTaken", "(I)Z"⟩, 30) := ⟨⟨by decide +kernel, by decide +kernel⟩, List.mem_of_getElem? (i := 773) (by decide +kernel), List.mem_of_getElem? (i := 1105) (by decide +kernel), List.mem_of_getElem? (i := 1106) (by decide +kernel)⟩
theorem lw_p120 : lw_okq (⟨"RunTapesModel", "shiftsRuns", "()V"⟩, 30) := ⟨⟨by decide +kernel, by decide +kernel⟩, List.mem_of_getElem? (i := 773) (by decide +kernel), List.mem_of_getElem? (i := 1109) (by decide +kernel), List.mem_of_getElem? (i := 1110) (by decide +kernel)⟩
theorem lw_p121 : lw_okq (⟨"RunTapesModel", "comesFirst", "(II)V"⟩, 30) := ⟨⟨by decide +kernel, by decide +kernel⟩, List.mem_of_getElem? (i := 773) (by decide +kernel), List.mem_of_getElem? (i := 1113) (by decide +kernel), List.mem_of_getElem? (i := 1114) (by decide +kernel)⟩
theorem lw_p122 : lw_okq (⟨"RunTapesModel", "goesOn", "()V"⟩, 30) := ⟨⟨by decide +kernel, by decide +kernel⟩, List.mem_of_getElem? (i := 773) (by decide +kernel), List.mem_of_getElem? (i := 1117) (by decide +kernel), List.mem_of_getElem? (i := 1118) (by decide +kernel)⟩
theorem lw_p123 : lw_okq (⟨"RunTapesModel", "goesOnBalanced", "()V"⟩, 30) := ⟨⟨by decide +kernel, by decide +kernel⟩, List.mem_of_getElem? (i := 773) (by decide +kernel), List.mem_of_getElem? (i := 1121) (by decide +kernel), List.mem_of_getElem? (i := 1122) (by decide +kernel)⟩
theorem lw_p124 : lw_okq (⟨"RunTapesModel", "emptied", "()I"⟩, 30) := ⟨⟨by decide +kernel, by decide +kernel⟩, List.mem_of_getElem? (i := 773) (by decide +kernel), List.mem_of_getElem? (i := 1125) (by decide +kernel), List.mem_of_getElem? (i := 1126) (by decide +kernel)⟩
theorem lw_p125 : lw_okq (⟨"RunTapesModel", "goesThrough", "(IIII)I"⟩, 30) := ⟨⟨by decide +kernel, by decide +kernel⟩, List.mem_of_getElem? (i := 773) (by decide +kernel), List.mem_of_getElem? (i := 1161) (by decide +kernel), List.mem_of_getElem? (i := 1162) (by decide +kernel)⟩
theorem lw_p126 : lw_okq (⟨"RunTapesModel", "notesStand", "()V"⟩, 30) := ⟨⟨by decide +kernel, by decide +kernel⟩, List.mem_of_getElem? (i := 773) (by decide +kernel), List.mem_of_getElem? (i := 1165) (by decide +kernel), List.mem_of_getElem? (i := 1166) (by decide +kernel)⟩
theorem lw_p127 : lw_okq (⟨"RunTapesModel", "beginsUnits", "()V"⟩, 30) := ⟨⟨by decide +kernel, by decide +kernel⟩, List.mem_of_getElem? (i := 773) (by decide +kernel), List.mem_of_getElem? (i := 1185) (by decide +kernel), List.mem_of_getElem? (i := 1186) (by decide +kernel)⟩
def lw_privs_8 : List (MethodName × Nat) := [(⟨"RunTapesModel", "isSpread", "()Z"⟩, 30), (⟨"RunTapesModel", "steps", "()I"⟩, 30), (⟨"RunTapesModel", "laysTaken", "()Z"⟩, 30), (⟨"RunTapesModel", "doesGive", "(I)Z"⟩, 30), (⟨"RunTapesModel", "isInHalf", "(II)Z"⟩, 30), (⟨"RunTapesModel", "takesFirst", "(I)I"⟩, 30), (⟨"RunTapesModel", "gathers", "()I"⟩, 30), (⟨"RunTapesModel", "isInTaken", "(I)Z"⟩, 30), (⟨"RunTapesModel", "shiftsRuns", "()V"⟩, 30), (⟨"RunTapesModel", "comesFirst", "(II)V"⟩, 30), (⟨"RunTapesModel", "goesOn", "()V"⟩, 30), (⟨"RunTapesModel", "goesOnBalanced", "()V"⟩, 30), (⟨"RunTapesModel", "emptied", "()I"⟩, 30), (⟨"RunTapesModel", "goesThrough", "(IIII)I"⟩, 30), (⟨"RunTapesModel", "notesStand", "()V"⟩, 30), (⟨"RunTapesModel", "beginsUnits", "()V"⟩, 30)]
theorem lw_r8 : ∀ q ∈ lw_privs_8, lw_okq q := List.forall_mem_cons.mpr ⟨lw_p112, List.forall_mem_cons.mpr ⟨lw_p113, List.forall_mem_cons.mpr ⟨lw_p114, List.forall_mem_cons.mpr ⟨lw_p115, List.forall_mem_cons.mpr ⟨lw_p116, List.forall_mem_cons.mpr ⟨lw_p117, List.forall_mem_cons.mpr ⟨lw_p118, List.forall_mem_cons.mpr ⟨lw_p119, List.forall_mem_cons.mpr ⟨lw_p120, List.forall_mem_cons.mpr ⟨lw_p121, List.forall_mem_cons.mpr ⟨lw_p122, List.forall_mem_cons.mpr ⟨lw_p123, List.forall_mem_cons.mpr ⟨lw_p124, List.forall_mem_cons.mpr ⟨lw_p125, List.forall_mem_cons.mpr ⟨lw_p126, List.forall_mem_cons.mpr ⟨lw_p127, fun _ h => absurd h List.not_mem_nil⟩⟩⟩⟩⟩⟩⟩⟩⟩⟩⟩⟩⟩⟩⟩⟩
theorem lw_p128 : lw_okq (⟨"RunTapesModel", "isMoreThanOne", "()Z"⟩, 30) := ⟨⟨by decide +kernel, by decide +kernel⟩, List.mem_of_getElem? (i := 773) (by decide +kernel), List.mem_of_getElem? (i := 1189) (by decide +kernel), List.mem_of_getElem? (i := 1190) (by decide +kernel)⟩
theorem lw_p129 : lw_okq (⟨"RunTapesModel", "goesUnits", "()I"⟩, 30) := ⟨⟨by decide +kernel, by decide +kernel⟩, List.mem_of_getElem? (i := 773) (by decide +kernel), List.mem_of_getElem? (i := 1193) (by decide +kernel), List.mem_of_getElem? (i := 1194) (by decide +kernel)⟩
theorem lw_p130 : lw_okq (⟨"RunTapesModel", "givesUnits", "(I)Z"⟩, 30) := ⟨⟨by decide +kernel, by decide +kernel⟩, List.mem_of_getElem? (i := 773) (by decide +kernel), List.mem_of_getElem? (i := 1198) (by decide +kernel), List.mem_of_getElem? (i := 1199) (by decide +kernel)⟩
theorem lw_p131 : lw_okq (⟨"RunTapesModel", "takesLeast", "(I)I"⟩, 30) := ⟨⟨by decide +kernel, by decide +kernel⟩, List.mem_of_getElem? (i := 773) (by decide +kernel), List.mem_of_getElem? (i := 1207) (by decide +kernel), List.mem_of_getElem? (i := 1208) (by decide +kernel)⟩
theorem lw_p132 : lw_okq (⟨"RunTapesModel", "oftenOf", "(I)I"⟩, 30) := ⟨⟨by decide +kernel, by decide +kernel⟩, List.mem_of_getElem? (i := 773) (by decide +kernel), List.mem_of_getElem? (i := 1215) (by decide +kernel), List.mem_of_getElem? (i := 1216) (by decide +kernel)⟩
theorem lw_p133 : lw_okq (⟨"RunTapesModel", "inversions", "()I"⟩, 30) := ⟨⟨by decide +kernel, by decide +kernel⟩, List.mem_of_getElem? (i := 773) (by decide +kernel), List.mem_of_getElem? (i := 1228) (by decide +kernel), List.mem_of_getElem? (i := 1229) (by decide +kernel)⟩
theorem lw_p134 : lw_okq (⟨"RunTapesModel", "naturalRuns", "()I"⟩, 30) := ⟨⟨by decide +kernel, by decide +kernel⟩, List.mem_of_getElem? (i := 773) (by decide +kernel), List.mem_of_getElem? (i := 1232) (by decide +kernel), List.mem_of_getElem? (i := 1233) (by decide +kernel)⟩
theorem lw_p135 : lw_okq (⟨"RunTapesModel", "midst", "()I"⟩, 30) := ⟨⟨by decide +kernel, by decide +kernel⟩, List.mem_of_getElem? (i := 773) (by decide +kernel), List.mem_of_getElem? (i := 1236) (by decide +kernel), List.mem_of_getElem? (i := 1237) (by decide +kernel)⟩
theorem lw_p136 : lw_okq (⟨"RunTapesModel", "laysWrites", "()I"⟩, 30) := ⟨⟨by decide +kernel, by decide +kernel⟩, List.mem_of_getElem? (i := 773) (by decide +kernel), List.mem_of_getElem? (i := 1244) (by decide +kernel), List.mem_of_getElem? (i := 1245) (by decide +kernel)⟩
def lw_privs_9 : List (MethodName × Nat) := [(⟨"RunTapesModel", "isMoreThanOne", "()Z"⟩, 30), (⟨"RunTapesModel", "goesUnits", "()I"⟩, 30), (⟨"RunTapesModel", "givesUnits", "(I)Z"⟩, 30), (⟨"RunTapesModel", "takesLeast", "(I)I"⟩, 30), (⟨"RunTapesModel", "oftenOf", "(I)I"⟩, 30), (⟨"RunTapesModel", "inversions", "()I"⟩, 30), (⟨"RunTapesModel", "naturalRuns", "()I"⟩, 30), (⟨"RunTapesModel", "midst", "()I"⟩, 30), (⟨"RunTapesModel", "laysWrites", "()I"⟩, 30)]
theorem lw_r9 : ∀ q ∈ lw_privs_9, lw_okq q := List.forall_mem_cons.mpr ⟨lw_p128, List.forall_mem_cons.mpr ⟨lw_p129, List.forall_mem_cons.mpr ⟨lw_p130, List.forall_mem_cons.mpr ⟨lw_p131, List.forall_mem_cons.mpr ⟨lw_p132, List.forall_mem_cons.mpr ⟨lw_p133, List.forall_mem_cons.mpr ⟨lw_p134, List.forall_mem_cons.mpr ⟨lw_p135, List.forall_mem_cons.mpr ⟨lw_p136, fun _ h => absurd h List.not_mem_nil⟩⟩⟩⟩⟩⟩⟩⟩⟩
def lw_privs : List (MethodName × Nat) := lw_privs_1 ++ (lw_privs_2 ++ (lw_privs_3 ++ (lw_privs_4 ++ (lw_privs_5 ++ (lw_privs_6 ++ (lw_privs_7 ++ (lw_privs_8 ++ (lw_privs_9))))))))
def lw_tbl : List Cond := k2_sels lw_privs ++ tables_1
theorem lw_privs_ok : ∀ q ∈ lw_privs, lw_okq q := by
  show ∀ q ∈ lw_privs_1 ++ (lw_privs_2 ++ (lw_privs_3 ++ (lw_privs_4 ++ (lw_privs_5 ++ (lw_privs_6 ++ (lw_privs_7 ++ (lw_privs_8 ++ (lw_privs_9)))))))), lw_okq q
  exact List.forall_mem_append.mpr ⟨lw_r1, List.forall_mem_append.mpr ⟨lw_r2, List.forall_mem_append.mpr ⟨lw_r3, List.forall_mem_append.mpr ⟨lw_r4, List.forall_mem_append.mpr ⟨lw_r5, List.forall_mem_append.mpr ⟨lw_r6, List.forall_mem_append.mpr ⟨lw_r7, List.forall_mem_append.mpr ⟨lw_r8, lw_r9⟩⟩⟩⟩⟩⟩⟩⟩
end
section
def RX0 : String := "RunTapes$Grown"
def TX0 : u_T := fun k => match k with
  | 0 => ("RunTapes$Grown", "runOf", "[I", true)
  | 1 => ("RunTapes$Grown", "length", "[I", true)
  | 2 => ("RunTapes$Grown", "size", "I", false)
  | 3 => ("RunTapes$Grown", "byTurns", "Z", false)
  | 4 => ("RunTapes$Grown", "waiting", "[I", true)
  | _ => ("RunTapes$Grown", "inRoom", "I", false)
def tyX0 : Nat → FieldType := fun k => match k with
  | 0 => .array .int
  | 1 => .array .int
  | 2 => .int
  | 3 => .boolean
  | 4 => .array .int
  | _ => .int
abbrev wsX00 : List Cond := u_ws RX0 TX0 6
theorem nmX0 : ∀ a, a < 6 → ∀ b, b < 6 → a ≠ b → (TX0 a).2.1 ≠ (TX0 b).2.1 := by decide +kernel
theorem tyX0_ok : ∀ k, k < 6 → parseFieldDescriptor (TX0 k).2.2.1 = some (tyX0 k) := by decide +kernel
abbrev cX0_init : ByteArray := prog_2_method_1_code
def yX0_init : MethodName := ⟨RX0, "<init>", "()V"⟩
abbrev cX0_copyFrom : ByteArray := prog_2_method_2_code
def yX0_copyFrom : MethodName := ⟨RX0, "copyFrom", "(LRunTapes$Grown;I)V"⟩
abbrev cX0_falls : ByteArray := prog_2_method_3_code
def yX0_falls : MethodName := ⟨RX0, "falls", "(I)Z"⟩
abbrev cX0_growFrom : ByteArray := prog_2_method_4_code
def yX0_growFrom : MethodName := ⟨RX0, "growFrom", "(LRunTapes$Records;IZ)V"⟩
abbrev cX0_nextOut : ByteArray := prog_2_method_5_code
def yX0_nextOut : MethodName := ⟨RX0, "nextOut", "(LRunTapes$Records;I)I"⟩
abbrev cX0_goesOn : ByteArray := prog_2_method_6_code
def yX0_goesOn : MethodName := ⟨RX0, "goesOn", "(LRunTapes$Records;II)Z"⟩
def RX1 : String := "RunTapes$Mill"
def TX1 : u_T := fun k => match k with
  | 0 => ("RunTapes$Mill", "way", "I", false)
  | 1 => ("RunTapes$Mill", "tapes", "I", false)
  | 2 => ("RunTapes$Mill", "half", "I", false)
  | 3 => ("RunTapes$Mill", "back", "Z", false)
  | 4 => ("RunTapes$Mill", "tape", "[LRunTapes$Tape;", true)
  | 5 => ("RunTapes$Mill", "length", "[I", true)
  | 6 => ("RunTapes$Mill", "down", "[Z", true)
  | 7 => ("RunTapes$Mill", "loaded", "I", false)
  | 8 => ("RunTapes$Mill", "left", "I", false)
  | 9 => ("RunTapes$Mill", "to", "I", false)
  | 10 => ("RunTapes$Mill", "open", "[Z", true)
  | 11 => ("RunTapes$Mill", "lowGives", "Z", false)
  | 12 => ("RunTapes$Mill", "tally", "[I", true)
  | 13 => ("RunTapes$Mill", "taken", "[I", true)
  | 14 => ("RunTapes$Mill", "lead", "I", false)
  | 15 => ("RunTapes$Mill", "falling", "Z", false)
  | 16 => ("RunTapes$Mill", "made", "I", false)
  | 17 => ("RunTapes$Mill", "places", "LRunTapes$Numbers;", true)
  | _ => ("RunTapes$Mill", "blanks", "[I", true)
def tyX1 : Nat → FieldType := fun k => match k with
  | 0 => .int
  | 1 => .int
  | 2 => .int
  | 3 => .boolean
  | 4 => .array (.object "RunTapes$Tape")
  | 5 => .array .int
  | 6 => .array .boolean
  | 7 => .int
  | 8 => .int
  | 9 => .int
  | 10 => .array .boolean
  | 11 => .boolean
  | 12 => .array .int
  | 13 => .array .int
  | 14 => .int
  | 15 => .boolean
  | 16 => .int
  | 17 => .object "RunTapes$Numbers"
  | _ => .array .int
abbrev wsX10 : List Cond := u_ws RX1 TX1 19
theorem nmX1 : ∀ a, a < 19 → ∀ b, b < 19 → a ≠ b → (TX1 a).2.1 ≠ (TX1 b).2.1 := by decide +kernel
theorem tyX1_ok : ∀ k, k < 19 → parseFieldDescriptor (TX1 k).2.2.1 = some (tyX1 k) := by decide +kernel
abbrev cX1_init : ByteArray := prog_3_method_1_code
def yX1_init : MethodName := ⟨RX1, "<init>", "(I)V"⟩
abbrev cX1_copyFrom : ByteArray := prog_3_method_2_code
def yX1_copyFrom : MethodName := ⟨RX1, "copyFrom", "(LRunTapes$Mill;)V"⟩
abbrev cX1_begin : ByteArray := prog_3_method_3_code
def yX1_begin : MethodName := ⟨RX1, "begin", "(IIZ)V"⟩
abbrev cX1_load : ByteArray := prog_3_method_4_code
def yX1_load : MethodName := ⟨RX1, "load", "(IZ)V"⟩
abbrev cX1_layOut : ByteArray := prog_3_method_5_code
def yX1_layOut : MethodName := ⟨RX1, "layOut", "(Z)V"⟩
abbrev cX1_dealByTurns : ByteArray := prog_3_method_6_code
def yX1_dealByTurns : MethodName := ⟨RX1, "dealByTurns", "()V"⟩
abbrev cX1_dealByNumbers : ByteArray := prog_3_method_7_code
def yX1_dealByNumbers : MethodName := ⟨RX1, "dealByNumbers", "(Z)V"⟩
abbrev cX1_firstPlace : ByteArray := prog_3_method_8_code
def yX1_firstPlace : MethodName := ⟨RX1, "firstPlace", "()I"⟩
abbrev cX1_fewestBlanks : ByteArray := prog_3_method_9_code
def yX1_fewestBlanks : MethodName := ⟨RX1, "fewestBlanks", "()I"⟩
abbrev cX1_mostPlaces : ByteArray := prog_3_method_10_code
def yX1_mostPlaces : MethodName := ⟨RX1, "mostPlaces", "()I"⟩
abbrev cX1_writeBlanks : ByteArray := prog_3_method_11_code
def yX1_writeBlanks : MethodName := ⟨RX1, "writeBlanks", "()V"⟩
abbrev cX1_gives : ByteArray := prog_3_method_12_code
def yX1_gives : MethodName := ⟨RX1, "gives", "(I)Z"⟩
abbrev cX1_look : ByteArray := prog_3_method_13_code
def yX1_look : MethodName := ⟨RX1, "look", "()V"⟩
abbrev cX1_advance : ByteArray := prog_3_method_14_code
def yX1_advance : MethodName := ⟨RX1, "advance", "()V"⟩
abbrev cX1_endNumberedPhase : ByteArray := prog_3_method_15_code
def yX1_endNumberedPhase : MethodName := ⟨RX1, "endNumberedPhase", "()V"⟩
abbrev cX1_emptiedTape : ByteArray := prog_3_method_16_code
def yX1_emptiedTape : MethodName := ⟨RX1, "emptiedTape", "()I"⟩
abbrev cX1_givers : ByteArray := prog_3_method_17_code
def yX1_givers : MethodName := ⟨RX1, "givers", "()I"⟩
abbrev cX1_openPass : ByteArray := prog_3_method_18_code
def yX1_openPass : MethodName := ⟨RX1, "openPass", "()V"⟩
abbrev cX1_endBalancedPhase : ByteArray := prog_3_method_19_code
def yX1_endBalancedPhase : MethodName := ⟨RX1, "endBalancedPhase", "()V"⟩
abbrev cX1_firstToWrite : ByteArray := prog_3_method_20_code
def yX1_firstToWrite : MethodName := ⟨RX1, "firstToWrite", "()I"⟩
abbrev cX1_turnLast : ByteArray := prog_3_method_21_code
def yX1_turnLast : MethodName := ⟨RX1, "turnLast", "()V"⟩
abbrev cX1_mergeAll : ByteArray := prog_3_method_22_code
def yX1_mergeAll : MethodName := ⟨RX1, "mergeAll", "()V"⟩
abbrev cX1_sizeOf : ByteArray := prog_3_method_23_code
def yX1_sizeOf : MethodName := ⟨RX1, "sizeOf", "(I)I"⟩
abbrev cX1_isDown : ByteArray := prog_3_method_24_code
def yX1_isDown : MethodName := ⟨RX1, "isDown", "(I)Z"⟩
abbrev cX1_recordsOn : ByteArray := prog_3_method_25_code
def yX1_recordsOn : MethodName := ⟨RX1, "recordsOn", "(I)I"⟩
abbrev cX1_takenFrom : ByteArray := prog_3_method_26_code
def yX1_takenFrom : MethodName := ⟨RX1, "takenFrom", "(I)I"⟩
abbrev cX1_blocksTaken : ByteArray := prog_3_method_27_code
def yX1_blocksTaken : MethodName := ⟨RX1, "blocksTaken", "(I)I"⟩
abbrev cX1_stand : ByteArray := prog_3_method_28_code
def yX1_stand : MethodName := ⟨RX1, "stand", "()J"⟩
def RX2 : String := "RunTapes$Numbers"
def TX2 : u_T := fun k => match k with
  | 0 => ("RunTapes$Numbers", "at", "[I", true)
  | 1 => ("RunTapes$Numbers", "width", "I", false)
  | _ => ("RunTapes$Numbers", "level", "I", false)
def tyX2 : Nat → FieldType := fun k => match k with
  | 0 => .array .int
  | 1 => .int
  | _ => .int
abbrev wsX20 : List Cond := u_ws RX2 TX2 3
theorem nmX2 : ∀ a, a < 3 → ∀ b, b < 3 → a ≠ b → (TX2 a).2.1 ≠ (TX2 b).2.1 := by decide +kernel
theorem tyX2_ok : ∀ k, k < 3 → parseFieldDescriptor (TX2 k).2.2.1 = some (tyX2 k) := by decide +kernel
abbrev cX2_init : ByteArray := prog_4_method_1_code
def yX2_init : MethodName := ⟨RX2, "<init>", "()V"⟩
abbrev cX2_ground : ByteArray := prog_4_method_2_code
def yX2_ground : MethodName := ⟨RX2, "ground", "(I)V"⟩
abbrev cX2_climb : ByteArray := prog_4_method_3_code
def yX2_climb : MethodName := ⟨RX2, "climb", "(I)V"⟩
abbrev cX2_climbCascade : ByteArray := prog_4_method_4_code
def yX2_climbCascade : MethodName := ⟨RX2, "climbCascade", "()V"⟩
abbrev cX2_climbTo : ByteArray := prog_4_method_5_code
def yX2_climbTo : MethodName := ⟨RX2, "climbTo", "(III)V"⟩
abbrev cX2_climbFor : ByteArray := prog_4_method_6_code
def yX2_climbFor : MethodName := ⟨RX2, "climbFor", "(III)V"⟩
abbrev cX2_together : ByteArray := prog_4_method_7_code
def yX2_together : MethodName := ⟨RX2, "together", "()I"⟩
def RX3 : String := "RunTapes$Records"
def TX3 : u_T := fun k => match k with
  | 0 => ("RunTapes$Records", "keys", "[I", true)
  | 1 => ("RunTapes$Records", "rising", "[I", true)
  | 2 => ("RunTapes$Records", "size", "I", false)
  | _ => ("RunTapes$Records", "inversions", "I", false)
def tyX3 : Nat → FieldType := fun k => match k with
  | 0 => .array .int
  | 1 => .array .int
  | 2 => .int
  | _ => .int
abbrev wsX30 : List Cond := u_ws RX3 TX3 4
theorem nmX3 : ∀ a, a < 4 → ∀ b, b < 4 → a ≠ b → (TX3 a).2.1 ≠ (TX3 b).2.1 := by decide +kernel
theorem tyX3_ok : ∀ k, k < 4 → parseFieldDescriptor (TX3 k).2.2.1 = some (tyX3 k) := by decide +kernel
abbrev cX3_init : ByteArray := prog_5_method_1_code
def yX3_init : MethodName := ⟨RX3, "<init>", "()V"⟩
abbrev cX3_copyFrom : ByteArray := prog_5_method_2_code
def yX3_copyFrom : MethodName := ⟨RX3, "copyFrom", "(LRunTapes$Records;)V"⟩
abbrev cX3_wipe : ByteArray := prog_5_method_3_code
def yX3_wipe : MethodName := ⟨RX3, "wipe", "()V"⟩
abbrev cX3_add : ByteArray := prog_5_method_4_code
def yX3_add : MethodName := ⟨RX3, "add", "(I)V"⟩
abbrev cX3_isLess : ByteArray := prog_5_method_5_code
def yX3_isLess : MethodName := ⟨RX3, "isLess", "(II)Z"⟩
abbrev cX3_ranked : ByteArray := prog_5_method_6_code
def yX3_ranked : MethodName := ⟨RX3, "ranked", "(IZ)I"⟩
abbrev cX3_howOften : ByteArray := prog_5_method_7_code
def yX3_howOften : MethodName := ⟨RX3, "howOften", "(I)I"⟩
abbrev cX3_firstOf : ByteArray := prog_5_method_8_code
def yX3_firstOf : MethodName := ⟨RX3, "firstOf", "(I)I"⟩
abbrev cX3_lastOf : ByteArray := prog_5_method_9_code
def yX3_lastOf : MethodName := ⟨RX3, "lastOf", "(I)I"⟩
abbrev cX3_beginsKey : ByteArray := prog_5_method_10_code
def yX3_beginsKey : MethodName := ⟨RX3, "beginsKey", "(I)Z"⟩
abbrev cX3_unlikeKeys : ByteArray := prog_5_method_11_code
def yX3_unlikeKeys : MethodName := ⟨RX3, "unlikeKeys", "()I"⟩
abbrev cX3_keyMostOften : ByteArray := prog_5_method_12_code
def yX3_keyMostOften : MethodName := ⟨RX3, "keyMostOften", "()I"⟩
abbrev cX3_naturalRuns : ByteArray := prog_5_method_13_code
def yX3_naturalRuns : MethodName := ⟨RX3, "naturalRuns", "()I"⟩
def RX4 : String := "RunTapes$State"
def TX4 : u_T := fun k => match k with
  | 0 => ("RunTapes$State", "records", "LRunTapes$Records;", true)
  | 1 => ("RunTapes$State", "settings", "[I", true)
  | 2 => ("RunTapes$State", "stage", "I", false)
  | 3 => ("RunTapes$State", "grown", "LRunTapes$Grown;", true)
  | 4 => ("RunTapes$State", "mill", "LRunTapes$Mill;", true)
  | 5 => ("RunTapes$State", "holder", "[I", true)
  | _ => ("RunTapes$State", "passed", "[I", true)
def tyX4 : Nat → FieldType := fun k => match k with
  | 0 => .object "RunTapes$Records"
  | 1 => .array .int
  | 2 => .int
  | 3 => .object "RunTapes$Grown"
  | 4 => .object "RunTapes$Mill"
  | 5 => .array .int
  | _ => .array .int
abbrev wsX40 : List Cond := u_ws RX4 TX4 7
theorem nmX4 : ∀ a, a < 7 → ∀ b, b < 7 → a ≠ b → (TX4 a).2.1 ≠ (TX4 b).2.1 := by decide +kernel
theorem tyX4_ok : ∀ k, k < 7 → parseFieldDescriptor (TX4 k).2.2.1 = some (tyX4 k) := by decide +kernel
abbrev cX4_init : ByteArray := prog_6_method_1_code
def yX4_init : MethodName := ⟨RX4, "<init>", "()V"⟩
abbrev cX4_copyFrom : ByteArray := prog_6_method_2_code
def yX4_copyFrom : MethodName := ⟨RX4, "copyFrom", "(LRunTapes$State;)V"⟩
abbrev cX4_growRuns : ByteArray := prog_6_method_3_code
def yX4_growRuns : MethodName := ⟨RX4, "growRuns", "()V"⟩
abbrev cX4_spreadRuns : ByteArray := prog_6_method_4_code
def yX4_spreadRuns : MethodName := ⟨RX4, "spreadRuns", "()V"⟩
abbrev cX4_layRuns : ByteArray := prog_6_method_5_code
def yX4_layRuns : MethodName := ⟨RX4, "layRuns", "(LRunTapes$Mill;)V"⟩
abbrev cX4_mergeOnce : ByteArray := prog_6_method_6_code
def yX4_mergeOnce : MethodName := ⟨RX4, "mergeOnce", "()V"⟩
abbrev cX4_grownRecord : ByteArray := prog_6_method_7_code
def yX4_grownRecord : MethodName := ⟨RX4, "grownRecord", "(II)I"⟩
abbrev cX4_tapeRecord : ByteArray := prog_6_method_8_code
def yX4_tapeRecord : MethodName := ⟨RX4, "tapeRecord", "(II)I"⟩
abbrev cX4_fetchedTape : ByteArray := prog_6_method_9_code
def yX4_fetchedTape : MethodName := ⟨RX4, "fetchedTape", "(II)I"⟩
abbrev cX4_isFetchedBehindNext : ByteArray := prog_6_method_10_code
def yX4_isFetchedBehindNext : MethodName := ⟨RX4, "isFetchedBehindNext", "(II)Z"⟩
def RX5 : String := "RunTapes$Tape"
def TX5 : u_T := fun k => match k with
  | 0 => ("RunTapes$Tape", "runs", "[I", true)
  | 1 => ("RunTapes$Tape", "low", "I", false)
  | _ => ("RunTapes$Tape", "high", "I", false)
def tyX5 : Nat → FieldType := fun k => match k with
  | 0 => .array .int
  | 1 => .int
  | _ => .int
abbrev wsX50 : List Cond := u_ws RX5 TX5 3
theorem nmX5 : ∀ a, a < 3 → ∀ b, b < 3 → a ≠ b → (TX5 a).2.1 ≠ (TX5 b).2.1 := by decide +kernel
theorem tyX5_ok : ∀ k, k < 3 → parseFieldDescriptor (TX5 k).2.2.1 = some (tyX5 k) := by decide +kernel
abbrev cX5_init : ByteArray := prog_7_method_1_code
def yX5_init : MethodName := ⟨RX5, "<init>", "()V"⟩
abbrev cX5_copyFrom : ByteArray := prog_7_method_2_code
def yX5_copyFrom : MethodName := ⟨RX5, "copyFrom", "(LRunTapes$Tape;)V"⟩
abbrev cX5_wipe : ByteArray := prog_7_method_3_code
def yX5_wipe : MethodName := ⟨RX5, "wipe", "()V"⟩
abbrev cX5_size : ByteArray := prog_7_method_4_code
def yX5_size : MethodName := ⟨RX5, "size", "()I"⟩
abbrev cX5_dummies : ByteArray := prog_7_method_5_code
def yX5_dummies : MethodName := ⟨RX5, "dummies", "()I"⟩
abbrev cX5_at : ByteArray := prog_7_method_6_code
def yX5_at : MethodName := ⟨RX5, "at", "(IZ)I"⟩
abbrev cX5_write : ByteArray := prog_7_method_7_code
def yX5_write : MethodName := ⟨RX5, "write", "(I)V"⟩
abbrev cX5_drop : ByteArray := prog_7_method_8_code
def yX5_drop : MethodName := ⟨RX5, "drop", "(Z)V"⟩
def RX6 : String := "RunTapes"
def TX6 : u_T := fun k => match k with
  | 0 => ("RunTapes", "bytes", "[I", true)
  | 1 => ("RunTapes", "byteCount", "I", false)
  | 2 => ("RunTapes", "x", "I", false)
  | 3 => ("RunTapes", "now", "LRunTapes$State;", true)
  | 4 => ("RunTapes", "past", "[LRunTapes$State;", true)
  | 5 => ("RunTapes", "pastX", "[I", true)
  | 6 => ("RunTapes", "acts", "I", false)
  | 7 => ("RunTapes", "nextPast", "I", false)
  | 8 => ("RunTapes", "shelves", "[LRunTapes$State;", true)
  | 9 => ("RunTapes", "kept", "[Z", true)
  | 10 => ("RunTapes", "paper", "LRunTapes$Mill;", true)
  | 11 => ("RunTapes", "numbers", "LRunTapes$Numbers;", true)
  | 12 => ("RunTapes", "weights", "[I", true)
  | _ => ("RunTapes", "likeStands", "[J", true)
def tyX6 : Nat → FieldType := fun k => match k with
  | 0 => .array .int
  | 1 => .int
  | 2 => .int
  | 3 => .object "RunTapes$State"
  | 4 => .array (.object "RunTapes$State")
  | 5 => .array .int
  | 6 => .int
  | 7 => .int
  | 8 => .array (.object "RunTapes$State")
  | 9 => .array .boolean
  | 10 => .object "RunTapes$Mill"
  | 11 => .object "RunTapes$Numbers"
  | 12 => .array .int
  | _ => .array .long
abbrev wsX60 : List Cond := u_ws RX6 TX6 14
theorem nmX6 : ∀ a, a < 14 → ∀ b, b < 14 → a ≠ b → (TX6 a).2.1 ≠ (TX6 b).2.1 := by decide +kernel
theorem tyX6_ok : ∀ k, k < 14 → parseFieldDescriptor (TX6 k).2.2.1 = some (tyX6 k) := by decide +kernel
abbrev cX6_init : ByteArray := prog_1_method_1_code
def yX6_init : MethodName := ⟨RX6, "<init>", "()V"⟩
abbrev cX6_feed : ByteArray := prog_1_method_2_code
def yX6_feed : MethodName := ⟨RX6, "feed", "(IIIII)I"⟩
abbrev cX6_takeBytes : ByteArray := prog_1_method_3_code
def yX6_takeBytes : MethodName := ⟨RX6, "takeBytes", "(I)V"⟩
abbrev cX6_end : ByteArray := prog_1_method_4_code
def yX6_end : MethodName := ⟨RX6, "end", "(I)I"⟩
abbrev cX6_tell : ByteArray := prog_1_method_5_code
def yX6_tell : MethodName := ⟨RX6, "tell", "()I"⟩
abbrev cX6_drawn : ByteArray := prog_1_method_6_code
def yX6_drawn : MethodName := ⟨RX6, "drawn", "(II)I"⟩
abbrev cX6_drawOf : ByteArray := prog_1_method_7_code
def yX6_drawOf : MethodName := ⟨RX6, "drawOf", "(I)I"⟩
abbrev cX6_draws : ByteArray := prog_1_method_8_code
def yX6_draws : MethodName := ⟨RX6, "draws", "(I)I"⟩
abbrev cX6_clear : ByteArray := prog_1_method_9_code
def yX6_clear : MethodName := ⟨RX6, "clear", "()I"⟩
abbrev cX6_settle : ByteArray := prog_1_method_10_code
def yX6_settle : MethodName := ⟨RX6, "settle", "(II)I"⟩
abbrev cX6_fits : ByteArray := prog_1_method_11_code
def yX6_fits : MethodName := ⟨RX6, "fits", "(II)Z"⟩
abbrev cX6_grow : ByteArray := prog_1_method_12_code
def yX6_grow : MethodName := ⟨RX6, "grow", "()I"⟩
abbrev cX6_spread : ByteArray := prog_1_method_13_code
def yX6_spread : MethodName := ⟨RX6, "spread", "()I"⟩
abbrev cX6_step : ByteArray := prog_1_method_14_code
def yX6_step : MethodName := ⟨RX6, "step", "()I"⟩
abbrev cX6_phase : ByteArray := prog_1_method_15_code
def yX6_phase : MethodName := ⟨RX6, "phase", "()I"⟩
abbrev cX6_all : ByteArray := prog_1_method_16_code
def yX6_all : MethodName := ⟨RX6, "all", "()I"⟩
abbrev cX6_whyNoStep : ByteArray := prog_1_method_17_code
def yX6_whyNoStep : MethodName := ⟨RX6, "whyNoStep", "()I"⟩
abbrev cX6_record : ByteArray := prog_1_method_18_code
def yX6_record : MethodName := ⟨RX6, "record", "(II)I"⟩
abbrev cX6_run : ByteArray := prog_1_method_19_code
def yX6_run : MethodName := ⟨RX6, "run", "(II)I"⟩
abbrev cX6_isRun : ByteArray := prog_1_method_20_code
def yX6_isRun : MethodName := ⟨RX6, "isRun", "(I)Z"⟩
abbrev cX6_tape : ByteArray := prog_1_method_21_code
def yX6_tape : MethodName := ⟨RX6, "tape", "(II)I"⟩
abbrev cX6_isTape : ByteArray := prog_1_method_22_code
def yX6_isTape : MethodName := ⟨RX6, "isTape", "(I)Z"⟩
abbrev cX6_on : ByteArray := prog_1_method_23_code
def yX6_on : MethodName := ⟨RX6, "on", "(III)I"⟩
abbrev cX6_sorted : ByteArray := prog_1_method_24_code
def yX6_sorted : MethodName := ⟨RX6, "sorted", "(I)I"⟩
abbrev cX6_perfect : ByteArray := prog_1_method_25_code
def yX6_perfect : MethodName := ⟨RX6, "perfect", "(II)I"⟩
abbrev cX6_plan : ByteArray := prog_1_method_26_code
def yX6_plan : MethodName := ⟨RX6, "plan", "(I)I"⟩
abbrev cX6_canPlan : ByteArray := prog_1_method_27_code
def yX6_canPlan : MethodName := ⟨RX6, "canPlan", "()Z"⟩
abbrev cX6_canSpread : ByteArray := prog_1_method_28_code
def yX6_canSpread : MethodName := ⟨RX6, "canSpread", "(II)Z"⟩
abbrev cX6_beginPlan : ByteArray := prog_1_method_29_code
def yX6_beginPlan : MethodName := ⟨RX6, "beginPlan", "()V"⟩
abbrev cX6_planned : ByteArray := prog_1_method_30_code
def yX6_planned : MethodName := ⟨RX6, "planned", "(III)I"⟩
abbrev cX6_least : ByteArray := prog_1_method_31_code
def yX6_least : MethodName := ⟨RX6, "least", "(I)I"⟩
abbrev cX6_takeLightest : ByteArray := prog_1_method_32_code
def yX6_takeLightest : MethodName := ⟨RX6, "takeLightest", "(I)I"⟩
abbrev cX6_depth : ByteArray := prog_1_method_33_code
def yX6_depth : MethodName := ⟨RX6, "depth", "(I)I"⟩
abbrev cX6_units : ByteArray := prog_1_method_34_code
def yX6_units : MethodName := ⟨RX6, "units", "(I)I"⟩
abbrev cX6_stands : ByteArray := prog_1_method_35_code
def yX6_stands : MethodName := ⟨RX6, "stands", "()I"⟩
abbrev cX6_isAmongLikeStands : ByteArray := prog_1_method_36_code
def yX6_isAmongLikeStands : MethodName := ⟨RX6, "isAmongLikeStands", "(JI)Z"⟩
abbrev cX6_key : ByteArray := prog_1_method_37_code
def yX6_key : MethodName := ⟨RX6, "key", "(II)I"⟩
abbrev cX6_keys : ByteArray := prog_1_method_38_code
def yX6_keys : MethodName := ⟨RX6, "keys", "(I)I"⟩
abbrev cX6_about : ByteArray := prog_1_method_39_code
def yX6_about : MethodName := ⟨RX6, "about", "(I)I"⟩
abbrev cX6_forecast : ByteArray := prog_1_method_40_code
def yX6_forecast : MethodName := ⟨RX6, "forecast", "(II)I"⟩
abbrev cX6_needs : ByteArray := prog_1_method_41_code
def yX6_needs : MethodName := ⟨RX6, "needs", "(I)I"⟩
abbrev cX6_remember : ByteArray := prog_1_method_42_code
def yX6_remember : MethodName := ⟨RX6, "remember", "()V"⟩
abbrev cX6_undo : ByteArray := prog_1_method_43_code
def yX6_undo : MethodName := ⟨RX6, "undo", "()I"⟩
abbrev cX6_keep : ByteArray := prog_1_method_44_code
def yX6_keep : MethodName := ⟨RX6, "keep", "(I)I"⟩
abbrev cX6_back : ByteArray := prog_1_method_45_code
def yX6_back : MethodName := ⟨RX6, "back", "(I)I"⟩
abbrev cX6_count : ByteArray := prog_1_method_46_code
def yX6_count : MethodName := ⟨RX6, "count", "(I)I"⟩
def RX7 : String := "RunTapesModel"
def TX7 : u_T := fun k => match k with
  | 0 => ("RunTapesModel", "now", "[I", true)
  | 1 => ("RunTapesModel", "then", "[I", true)
  | 2 => ("RunTapesModel", "past", "[I", true)
  | 3 => ("RunTapesModel", "kept", "[I", true)
  | 4 => ("RunTapesModel", "pastMany", "I", false)
  | 5 => ("RunTapesModel", "keptSet", "I", false)
  | 6 => ("RunTapesModel", "tape", "[B", true)
  | 7 => ("RunTapesModel", "taped", "I", false)
  | 8 => ("RunTapesModel", "inRoom", "[I", true)
  | 9 => ("RunTapesModel", "runOf", "[I", true)
  | 10 => ("RunTapesModel", "roomMany", "I", false)
  | 11 => ("RunTapesModel", "perfect", "[I", true)
  | 12 => ("RunTapesModel", "nextPerfect", "[I", true)
  | 13 => ("RunTapesModel", "dummies", "[I", true)
  | 14 => ("RunTapesModel", "came", "[I", true)
  | 15 => ("RunTapesModel", "made", "I", false)
  | 16 => ("RunTapesModel", "taken", "[I", true)
  | 17 => ("RunTapesModel", "pool", "[I", true)
  | 18 => ("RunTapesModel", "shift", "[I", true)
  | 19 => ("RunTapesModel", "stand", "[I", true)
  | 20 => ("RunTapesModel", "standMany", "I", false)
  | 21 => ("RunTapesModel", "unitMany", "[I", true)
  | 22 => ("RunTapesModel", "unitSize", "[I", true)
  | 23 => ("RunTapesModel", "unitTo", "I", false)
  | 24 => ("RunTapesModel", "unitBegan", "I", false)
  | 25 => ("RunTapesModel", "unitWasTo", "I", false)
  | 26 => ("RunTapesModel", "sizes", "[I", true)
  | 27 => ("RunTapesModel", "writes", "[I", true)
  | 28 => ("RunTapesModel", "writesTape", "[I", true)
  | _ => ("RunTapesModel", "done", "[I", true)
def tyX7 : Nat → FieldType := fun k => match k with
  | 0 => .array .int
  | 1 => .array .int
  | 2 => .array .int
  | 3 => .array .int
  | 4 => .int
  | 5 => .int
  | 6 => .array .byte
  | 7 => .int
  | 8 => .array .int
  | 9 => .array .int
  | 10 => .int
  | 11 => .array .int
  | 12 => .array .int
  | 13 => .array .int
  | 14 => .array .int
  | 15 => .int
  | 16 => .array .int
  | 17 => .array .int
  | 18 => .array .int
  | 19 => .array .int
  | 20 => .int
  | 21 => .array .int
  | 22 => .array .int
  | 23 => .int
  | 24 => .int
  | 25 => .int
  | 26 => .array .int
  | 27 => .array .int
  | 28 => .array .int
  | _ => .array .int
abbrev wsX70 : List Cond := u_ws RX7 TX7 30
theorem nmX7 : ∀ a, a < 30 → ∀ b, b < 30 → a ≠ b → (TX7 a).2.1 ≠ (TX7 b).2.1 := by decide +kernel
theorem tyX7_ok : ∀ k, k < 30 → parseFieldDescriptor (TX7 k).2.2.1 = some (tyX7 k) := by decide +kernel
abbrev cX7_init : ByteArray := prog_9_method_1_code
def yX7_init : MethodName := ⟨RX7, "<init>", "()V"⟩
abbrev cX7_in : ByteArray := prog_9_method_2_code
def yX7_in : MethodName := ⟨RX7, "in", "(III)Z"⟩
abbrev cX7_truth : ByteArray := prog_9_method_3_code
def yX7_truth : MethodName := ⟨RX7, "truth", "(Z)I"⟩
abbrev cX7_keepsIn : ByteArray := prog_9_method_4_code
def yX7_keepsIn : MethodName := ⟨RX7, "keepsIn", "([II)V"⟩
abbrev cX7_laysFrom : ByteArray := prog_9_method_5_code
def yX7_laysFrom : MethodName := ⟨RX7, "laysFrom", "([II)V"⟩
abbrev cX7_remembers : ByteArray := prog_9_method_6_code
def yX7_remembers : MethodName := ⟨RX7, "remembers", "()V"⟩
abbrev cX7_undo : ByteArray := prog_9_method_7_code
def yX7_undo : MethodName := ⟨RX7, "undo", "()I"⟩
abbrev cX7_feed : ByteArray := prog_9_method_8_code
def yX7_feed : MethodName := ⟨RX7, "feed", "(IIIII)I"⟩
abbrev cX7_puts : ByteArray := prog_9_method_9_code
def yX7_puts : MethodName := ⟨RX7, "puts", "(I)V"⟩
abbrev cX7_end : ByteArray := prog_9_method_10_code
def yX7_end : MethodName := ⟨RX7, "end", "(I)I"⟩
abbrev cX7_many : ByteArray := prog_9_method_11_code
def yX7_many : MethodName := ⟨RX7, "many", "()I"⟩
abbrev cX7_comes : ByteArray := prog_9_method_12_code
def yX7_comes : MethodName := ⟨RX7, "comes", "(I)V"⟩
abbrev cX7_begins : ByteArray := prog_9_method_13_code
def yX7_begins : MethodName := ⟨RX7, "begins", "()V"⟩
abbrev cX7_clearsCounts : ByteArray := prog_9_method_14_code
def yX7_clearsCounts : MethodName := ⟨RX7, "clearsCounts", "()V"⟩
abbrev cX7_tell : ByteArray := prog_9_method_15_code
def yX7_tell : MethodName := ⟨RX7, "tell", "()I"⟩
abbrev cX7_drawnOf : ByteArray := prog_9_method_16_code
def yX7_drawnOf : MethodName := ⟨RX7, "drawnOf", "(I)I"⟩
abbrev cX7_drawn : ByteArray := prog_9_method_17_code
def yX7_drawn : MethodName := ⟨RX7, "drawn", "(II)I"⟩
abbrev cX7_draws : ByteArray := prog_9_method_18_code
def yX7_draws : MethodName := ⟨RX7, "draws", "(I)I"⟩
abbrev cX7_clear : ByteArray := prog_9_method_19_code
def yX7_clear : MethodName := ⟨RX7, "clear", "()I"⟩
abbrev cX7_canSet : ByteArray := prog_9_method_20_code
def yX7_canSet : MethodName := ⟨RX7, "canSet", "(II)Z"⟩
abbrev cX7_settle : ByteArray := prog_9_method_21_code
def yX7_settle : MethodName := ⟨RX7, "settle", "(II)I"⟩
abbrev cX7_room : ByteArray := prog_9_method_22_code
def yX7_room : MethodName := ⟨RX7, "room", "()I"⟩
abbrev cX7_tapes : ByteArray := prog_9_method_23_code
def yX7_tapes : MethodName := ⟨RX7, "tapes", "()I"⟩
abbrev cX7_way : ByteArray := prog_9_method_24_code
def yX7_way : MethodName := ⟨RX7, "way", "()I"⟩
abbrev cX7_isFront : ByteArray := prog_9_method_25_code
def yX7_isFront : MethodName := ⟨RX7, "isFront", "()Z"⟩
abbrev cX7_isBack : ByteArray := prog_9_method_26_code
def yX7_isBack : MethodName := ⟨RX7, "isBack", "()Z"⟩
abbrev cX7_doesFall : ByteArray := prog_9_method_27_code
def yX7_doesFall : MethodName := ⟨RX7, "doesFall", "(I)Z"⟩
abbrev cX7_isLess : ByteArray := prog_9_method_28_code
def yX7_isLess : MethodName := ⟨RX7, "isLess", "(II)Z"⟩
abbrev cX7_comesIn : ByteArray := prog_9_method_29_code
def yX7_comesIn : MethodName := ⟨RX7, "comesIn", "(II)V"⟩
abbrev cX7_firstOf : ByteArray := prog_9_method_30_code
def yX7_firstOf : MethodName := ⟨RX7, "firstOf", "(I)I"⟩
abbrev cX7_laysRuns : ByteArray := prog_9_method_31_code
def yX7_laysRuns : MethodName := ⟨RX7, "laysRuns", "()V"⟩
abbrev cX7_grow : ByteArray := prog_9_method_32_code
def yX7_grow : MethodName := ⟨RX7, "grow", "()I"⟩
abbrev cX7_runSize : ByteArray := prog_9_method_33_code
def yX7_runSize : MethodName := ⟨RX7, "runSize", "(I)I"⟩
abbrev cX7_laysPerfect : ByteArray := prog_9_method_34_code
def yX7_laysPerfect : MethodName := ⟨RX7, "laysPerfect", "(III)V"⟩
abbrev cX7_allPerfect : ByteArray := prog_9_method_35_code
def yX7_allPerfect : MethodName := ⟨RX7, "allPerfect", "(I)I"⟩
abbrev cX7_perfect : ByteArray := prog_9_method_36_code
def yX7_perfect : MethodName := ⟨RX7, "perfect", "(II)I"⟩
abbrev cX7_runAt : ByteArray := prog_9_method_37_code
def yX7_runAt : MethodName := ⟨RX7, "runAt", "(II)I"⟩
abbrev cX7_comesLast : ByteArray := prog_9_method_38_code
def yX7_comesLast : MethodName := ⟨RX7, "comesLast", "(II)V"⟩
abbrev cX7_comesFirst : ByteArray := prog_9_method_39_code
def yX7_comesFirst : MethodName := ⟨RX7, "comesFirst", "(II)V"⟩
abbrev cX7_takesFirst : ByteArray := prog_9_method_40_code
def yX7_takesFirst : MethodName := ⟨RX7, "takesFirst", "(I)I"⟩
abbrev cX7_makesRun : ByteArray := prog_9_method_41_code
def yX7_makesRun : MethodName := ⟨RX7, "makesRun", "(II)I"⟩
abbrev cX7_dealsDummies : ByteArray := prog_9_method_42_code
def yX7_dealsDummies : MethodName := ⟨RX7, "dealsDummies", "(II)V"⟩
abbrev cX7_dealsRun : ByteArray := prog_9_method_43_code
def yX7_dealsRun : MethodName := ⟨RX7, "dealsRun", "(II)V"⟩
abbrev cX7_spreadsPerfectly : ByteArray := prog_9_method_44_code
def yX7_spreadsPerfectly : MethodName := ⟨RX7, "spreadsPerfectly", "()V"⟩
abbrev cX7_placesLeft : ByteArray := prog_9_method_45_code
def yX7_placesLeft : MethodName := ⟨RX7, "placesLeft", "(I)I"⟩
abbrev cX7_spreads : ByteArray := prog_9_method_46_code
def yX7_spreads : MethodName := ⟨RX7, "spreads", "()V"⟩
abbrev cX7_beginsPass : ByteArray := prog_9_method_47_code
def yX7_beginsPass : MethodName := ⟨RX7, "beginsPass", "()V"⟩
abbrev cX7_onAll : ByteArray := prog_9_method_48_code
def yX7_onAll : MethodName := ⟨RX7, "onAll", "()I"⟩
abbrev cX7_looksWhetherMerged : ByteArray := prog_9_method_49_code
def yX7_looksWhetherMerged : MethodName := ⟨RX7, "looksWhetherMerged", "()V"⟩
abbrev cX7_canSpread : ByteArray := prog_9_method_50_code
def yX7_canSpread : MethodName := ⟨RX7, "canSpread", "()Z"⟩
abbrev cX7_spread : ByteArray := prog_9_method_51_code
def yX7_spread : MethodName := ⟨RX7, "spread", "()I"⟩
abbrev cX7_sorts : ByteArray := prog_9_method_52_code
def yX7_sorts : MethodName := ⟨RX7, "sorts", "(IIZ)V"⟩
abbrev cX7_doesGive : ByteArray := prog_9_method_53_code
def yX7_doesGive : MethodName := ⟨RX7, "doesGive", "(I)Z"⟩
abbrev cX7_isInHalf : ByteArray := prog_9_method_54_code
def yX7_isInHalf : MethodName := ⟨RX7, "isInHalf", "(II)Z"⟩
abbrev cX7_laysTaken : ByteArray := prog_9_method_55_code
def yX7_laysTaken : MethodName := ⟨RX7, "laysTaken", "()Z"⟩
abbrev cX7_gathers : ByteArray := prog_9_method_56_code
def yX7_gathers : MethodName := ⟨RX7, "gathers", "()I"⟩
abbrev cX7_isInTaken : ByteArray := prog_9_method_57_code
def yX7_isInTaken : MethodName := ⟨RX7, "isInTaken", "(I)Z"⟩
abbrev cX7_shiftsRuns : ByteArray := prog_9_method_58_code
def yX7_shiftsRuns : MethodName := ⟨RX7, "shiftsRuns", "()V"⟩
abbrev cX7_steps : ByteArray := prog_9_method_59_code
def yX7_steps : MethodName := ⟨RX7, "steps", "()I"⟩
abbrev cX7_emptied : ByteArray := prog_9_method_60_code
def yX7_emptied : MethodName := ⟨RX7, "emptied", "()I"⟩
abbrev cX7_goesOn : ByteArray := prog_9_method_61_code
def yX7_goesOn : MethodName := ⟨RX7, "goesOn", "()V"⟩
abbrev cX7_goesOnBalanced : ByteArray := prog_9_method_62_code
def yX7_goesOnBalanced : MethodName := ⟨RX7, "goesOnBalanced", "()V"⟩
abbrev cX7_isSpread : ByteArray := prog_9_method_63_code
def yX7_isSpread : MethodName := ⟨RX7, "isSpread", "()Z"⟩
abbrev cX7_refused : ByteArray := prog_9_method_64_code
def yX7_refused : MethodName := ⟨RX7, "refused", "()I"⟩
abbrev cX7_step : ByteArray := prog_9_method_65_code
def yX7_step : MethodName := ⟨RX7, "step", "()I"⟩
abbrev cX7_phase : ByteArray := prog_9_method_66_code
def yX7_phase : MethodName := ⟨RX7, "phase", "()I"⟩
abbrev cX7_all : ByteArray := prog_9_method_67_code
def yX7_all : MethodName := ⟨RX7, "all", "()I"⟩
abbrev cX7_record : ByteArray := prog_9_method_68_code
def yX7_record : MethodName := ⟨RX7, "record", "(II)I"⟩
abbrev cX7_run : ByteArray := prog_9_method_69_code
def yX7_run : MethodName := ⟨RX7, "run", "(II)I"⟩
abbrev cX7_tape : ByteArray := prog_9_method_70_code
def yX7_tape : MethodName := ⟨RX7, "tape", "(II)I"⟩
abbrev cX7_on : ByteArray := prog_9_method_71_code
def yX7_on : MethodName := ⟨RX7, "on", "(III)I"⟩
abbrev cX7_sorted : ByteArray := prog_9_method_72_code
def yX7_sorted : MethodName := ⟨RX7, "sorted", "(I)I"⟩
abbrev cX7_goesThrough : ByteArray := prog_9_method_73_code
def yX7_goesThrough : MethodName := ⟨RX7, "goesThrough", "(IIII)I"⟩
abbrev cX7_notesStand : ByteArray := prog_9_method_74_code
def yX7_notesStand : MethodName := ⟨RX7, "notesStand", "()V"⟩
abbrev cX7_plan : ByteArray := prog_9_method_75_code
def yX7_plan : MethodName := ⟨RX7, "plan", "(I)I"⟩
abbrev cX7_planned : ByteArray := prog_9_method_76_code
def yX7_planned : MethodName := ⟨RX7, "planned", "(III)I"⟩
abbrev cX7_stands : ByteArray := prog_9_method_77_code
def yX7_stands : MethodName := ⟨RX7, "stands", "()I"⟩
abbrev cX7_depth : ByteArray := prog_9_method_78_code
def yX7_depth : MethodName := ⟨RX7, "depth", "(I)I"⟩
abbrev cX7_givesUnits : ByteArray := prog_9_method_79_code
def yX7_givesUnits : MethodName := ⟨RX7, "givesUnits", "(I)Z"⟩
abbrev cX7_beginsUnits : ByteArray := prog_9_method_80_code
def yX7_beginsUnits : MethodName := ⟨RX7, "beginsUnits", "()V"⟩
abbrev cX7_goesUnits : ByteArray := prog_9_method_81_code
def yX7_goesUnits : MethodName := ⟨RX7, "goesUnits", "()I"⟩
abbrev cX7_units : ByteArray := prog_9_method_82_code
def yX7_units : MethodName := ⟨RX7, "units", "(I)I"⟩
abbrev cX7_isMoreThanOne : ByteArray := prog_9_method_83_code
def yX7_isMoreThanOne : MethodName := ⟨RX7, "isMoreThanOne", "()Z"⟩
abbrev cX7_takesLeast : ByteArray := prog_9_method_84_code
def yX7_takesLeast : MethodName := ⟨RX7, "takesLeast", "(I)I"⟩
abbrev cX7_least : ByteArray := prog_9_method_85_code
def yX7_least : MethodName := ⟨RX7, "least", "(I)I"⟩
abbrev cX7_oftenOf : ByteArray := prog_9_method_86_code
def yX7_oftenOf : MethodName := ⟨RX7, "oftenOf", "(I)I"⟩
abbrev cX7_key : ByteArray := prog_9_method_87_code
def yX7_key : MethodName := ⟨RX7, "key", "(II)I"⟩
abbrev cX7_keys : ByteArray := prog_9_method_88_code
def yX7_keys : MethodName := ⟨RX7, "keys", "(I)I"⟩
abbrev cX7_inversions : ByteArray := prog_9_method_89_code
def yX7_inversions : MethodName := ⟨RX7, "inversions", "()I"⟩
abbrev cX7_naturalRuns : ByteArray := prog_9_method_90_code
def yX7_naturalRuns : MethodName := ⟨RX7, "naturalRuns", "()I"⟩
abbrev cX7_midst : ByteArray := prog_9_method_91_code
def yX7_midst : MethodName := ⟨RX7, "midst", "()I"⟩
abbrev cX7_about : ByteArray := prog_9_method_92_code
def yX7_about : MethodName := ⟨RX7, "about", "(I)I"⟩
abbrev cX7_laysWrites : ByteArray := prog_9_method_93_code
def yX7_laysWrites : MethodName := ⟨RX7, "laysWrites", "()I"⟩
abbrev cX7_forecast : ByteArray := prog_9_method_94_code
def yX7_forecast : MethodName := ⟨RX7, "forecast", "(II)I"⟩
abbrev cX7_needs : ByteArray := prog_9_method_95_code
def yX7_needs : MethodName := ⟨RX7, "needs", "(I)I"⟩
abbrev cX7_keep : ByteArray := prog_9_method_96_code
def yX7_keep : MethodName := ⟨RX7, "keep", "(I)I"⟩
abbrev cX7_back : ByteArray := prog_9_method_97_code
def yX7_back : MethodName := ⟨RX7, "back", "(I)I"⟩
abbrev cX7_count : ByteArray := prog_9_method_98_code
def yX7_count : MethodName := ⟨RX7, "count", "(I)I"⟩
def RL : String := "RunTapesLaw"
abbrev cL_law : ByteArray := code
def yL_law : MethodName := ⟨RL, "law", "([I)Z"⟩
abbrev vwCl : List vw_C := [(RX0, TX0, 6), (RX1, TX1, 19), (RX2, TX2, 3), (RX3, TX3, 4), (RX4, TX4, 7), (RX5, TX5, 3), (RX6, TX6, 14), (RX7, TX7, 30)]
end
section
/-! The memory that the pure texts speak of: E tells what each cell is (how many there are, code and length of each, what references it holds), σ the numbers in the cells; addresses count from the first cell that the law makes. -/
abbrev Sg : Type := (Nat → Nat → Int32) × (Nat → Nat → Int64)
abbrev En : Type := Nat × (Nat → Nat × Nat) × (Nat → Nat → Option Nat)
abbrev Gl : Type := Nat × (Nat → ClassId) × (Nat → Nat → Nat) × (Nat → ClassId) × (Nat → Nat)
abbrev KT : Type := Program × Launch × Env × Room × State × MethodId × Array Value × List Frame × Method × Code
def cd (E : En) (a : Nat) : Nat := if a < E.1 then (E.2.1 a).1 else 999
def ln (E : En) (a : Nat) : Nat := (E.2.1 a).2
def rf (E : En) (a k : Nat) : Option Nat := E.2.2 a k
def gi (σ : Sg) (a k : Nat) : Int32 := σ.1 a k
def gl (σ : Sg) (a k : Nat) : Int64 := σ.2 a k
def si (σ : Sg) (a k : Nat) (v : Int32) : Sg := (fun x => if x = a then upd (σ.1 a) k v else σ.1 x, σ.2)
def sl (σ : Sg) (a k : Nat) (v : Int64) : Sg := (σ.1, fun x => if x = a then vp_updL (σ.2 a) k v else σ.2 x)
def sc (σ : Sg) (a b sp dp n : Nat) : Sg := (fun x => if x = b then va_cpy (σ.1 a) (σ.1 b) sp dp n else σ.1 x, σ.2)
def nf (c : Nat) : Nat := match c with
  | 0 => 6 | 1 => 19 | 2 => 3 | 3 => 4 | 4 => 7 | 5 => 3 | 6 => 14 | 7 => 30 | _ => 0
def isr (t : FieldType) : Bool := match t with
  | .object _ => true | .array _ => true | _ => false
def tyc (c : Nat) : Nat → FieldType := match c with
  | 0 => tyX0 | 1 => tyX1 | 2 => tyX2 | 3 => tyX3 | 4 => tyX4 | 5 => tyX5 | 6 => tyX6 | _ => tyX7
def fv (b : Nat) (E : En) (σ : Sg) (c a k : Nat) : Value := if isr (tyc c k) = true then va_rf ((rf E a k).map (fun x => b + x)) else .int (gi σ a k)
def fvs (b : Nat) (E : En) (σ : Sg) (c a : Nat) : List Value := (List.range (nf c)).map (fv b E σ c a)
def ars (b : Nat) (E : En) (σ : Sg) (c a : Nat) : (Nat → Int32) ⊕ (Nat → Int64) ⊕ (Nat → UInt32) ⊕ (Nat → UInt64) ⊕ (Nat → Option Nat) :=
  if c < 103 then .inl (σ.1 a) else if c = 103 then .inr (.inl (σ.2 a)) else .inr (.inr (.inr (.inr (fun k => (rf E a k).map (fun x => b + x)))))
def el (b : Nat) (cA : Nat → ClassId) (E : En) (σ : Sg) (a : Nat) : va_E :=
  if (E.2.1 a).1 < 100 then .inr ((E.2.1 a).1, fvs b E σ (E.2.1 a).1 a) else .inl (cA ((E.2.1 a).1 - 100), (E.2.1 a).2, ars b E σ (E.2.1 a).1 a)
def wsOf (G : Gl) (E : En) (σ : Sg) : va_W := (List.range E.1).map (fun a => (G.1 + a, el G.1 G.2.2.2.1 E σ a))
def tyL (cA : Nat → ClassId) : List (ClassId × FieldType) := [(cA 0, .int), (cA 1, .boolean), (cA 2, .byte), (cA 3, .long), (cA 4, .object "RunTapes$Tape"), (cA 5, .object "RunTapes$State")]
abbrev GD (G : Gl) : va_G := (G.2.1, G.2.2.1)
abbrev GA (G : Gl) : Nat → Prop := fun q => G.1 ≤ q
/-- the three rows of numbers that stand before the law begins -/
def stn (k : Nat) : String := match k with
  | 0 => "AT_FIRST" | 1 => "LOWEST" | _ => "HIGHEST"
def stv (k j : Nat) : Int32 := match k with
  | 0 => (match j with | 0 => 4 | 1 => 4 | _ => 0)
  | 1 => (match j with | 0 => 2 | 1 => 3 | _ => 0)
  | _ => (match j with | 0 => 16 | 1 => 6 | 2 => 2 | _ => 1)
def Stt (G : Gl) (U : State) (H : Heap) : Prop := ∀ k, k < 3 → va_Z "RunTapes" (stn k) "[I" (.ref (G.2.2.2.2 k)) (GA G) U H ∧ va_T .int (G.2.2.2.2 k) 6 (fun j => .int (stv k j)) (GA G) U H
def wk : Cond → Bool
  | .fieldLinkNest _ _ _ _ _ _ => true
  | .methodLinkNest _ _ _ _ => true
  | w => goodWord w
/-- the words of the tables, at any arguments -/
def TbAll (U : State) : Prop := ∀ w ∈ lw_tbl, wk w = true → ∀ a : Array Value, w.before a U = true
def RepS (G : Gl) (E : En) (σ : Sg) (U : State) : Prop := G.1 ≤ U.heap.size ∧ va_P (GD G) vwCl (wsOf G E σ) U.heap ∧ va_K (GD G) vwCl (tyL G.2.2.2.1) U ∧ TbAll U ∧ Stt G U U.heap
def QC (G : Gl) (E : En) (rv : Option Value) (σ : Sg) : Array Value → State → Outcome → State → Prop := fun _ st o t => o = .returned rv ∧ RepS G E σ t ∧ va_F (GA G) st t
abbrev kP (κ : KT) : Program := κ.1
abbrev kL (κ : KT) : Launch := κ.2.1
abbrev kE (κ : KT) : Env := κ.2.2.1
abbrev kR (κ : KT) : Room := κ.2.2.2.1
abbrev kS (κ : KT) : State := κ.2.2.2.2.1
abbrev kM (κ : KT) : MethodId := κ.2.2.2.2.2.1
abbrev kA (κ : KT) : Array Value := κ.2.2.2.2.2.2.1
abbrev kB (κ : KT) : List Frame := κ.2.2.2.2.2.2.2.1
abbrev kT (κ : KT) : Method := κ.2.2.2.2.2.2.2.2.1
abbrev kC (κ : KT) : Code := κ.2.2.2.2.2.2.2.2.2
def V (κ : KT) (G : Gl) (Q : State → Prop) (E : En) (σ : Sg) (ks : Bool × Nat × Nat) (pc : Nat) (lv : List (Nat × Value)) (st : List Value) : Prop :=
  ∀ (H : Heap) (locs : List Loc) (ls : Array Slot), (ks.1 = true → H.size = G.1 + E.1) → va_P (GD G) vwCl (wsOf G E σ) H → va_S (GA G) (kS κ).heap H locs → lv_has ls (kC κ).maxLocals lv → W (kP κ) (kL κ) (kE κ) (kR κ) (kS κ) (kM κ) (kA κ) (kB κ) (kT κ) (kC κ) H locs ks.2.1 ks.2.2 Q (F0 (kM κ) pc ls st)
def Cx (κ : KT) (G : Gl) (cc : ByteArray) (own : String) (nL : Nat) : Prop :=
  (kP κ).tables.exec = Jvm.exec ∧ (kC κ).code = cc ∧ (kC κ).maxLocals = nL ∧ (kS κ).vm.findClass own = some (kM κ).cls ∧ (kT κ).locks = false ∧ va_K (GD G) vwCl (tyL G.2.2.2.1) (kS κ) ∧ TbAll (kS κ) ∧ Stt G (kS κ) (kS κ).heap ∧ G.1 ≤ (kS κ).heap.size
def dk (cc : ByteArray) (pc n : Nat) (ins : Instr) (len : Nat) : Prop := decode cc pc = .ok (ins, len) ∧ n = pc + len
def bk (cc : ByteArray) (pc n t : Nat) (ins : Instr) (off : Int) : Prop := decode cc pc = .ok (ins, 3) ∧ n = pc + 3 ∧ (pc : Int) + off = (t : Int)
/-- a class of the table -/
def CI (ci : Nat) (Cn : String) (T : u_T) (N : Nat) : Prop := vwCl[ci]? = some (Cn, T, N) ∧ (∀ w ∈ u_ws Cn T N, w ∈ lw_tbl.filter wk) ∧ (∀ k, k < N → parseFieldDescriptor (T k).2.2.1 = some (tyc ci k)) ∧ (∀ a, a < N → ∀ b, b < N → a ≠ b → (T a).2.1 ≠ (T b).2.1) ∧ nf ci = N ∧ ci < 100 ∧ ∀ k, k < N → (T k).1 = Cn
/-- a field at a place of a pool -/
def FL (own : String) (idx ci k : Nat) (fin : Bool) : Prop := ∃ (Cn : String) (T : u_T) (N : Nat), CI ci Cn T N ∧ k < N ∧ (T k).2.2.2 = fin ∧ (Cond.fieldLink own idx (T k).1 (T k).2.1 (T k).2.2.1 ∈ lw_tbl ∨ Cond.fieldLinkNest own idx (T k).1 (T k).2.1 (T k).2.2.1 "RunTapes" ∈ lw_tbl)
/-- a method of an object at a place of a pool -/
def MB (y : MethodName) (bytes : ByteArray) (maxL : Nat) (ret : Option FieldType) (n : Nat) : Prop := Cond.initialized y.cls ∈ lw_tbl ∧ Cond.code y bytes maxL ret ∈ lw_tbl ∧ (y.cls ≠ "java/lang/invoke/MethodHandle" ∧ y.cls ≠ "java/lang/invoke/VarHandle") ∧ (parseMethodDescriptor y.desc).map (fun d => d.parameters.length) = some n
def MV (own : String) (idx ci : Nat) (y : MethodName) (bytes : ByteArray) (maxL : Nat) (ret : Option FieldType) (n : Nat) : Prop := MB y bytes maxL ret n ∧ (∃ (T : u_T) (N : Nat), CI ci y.cls T N) ∧ Cond.instanceMethod y ∈ lw_tbl ∧ Cond.selects y.cls y y ∈ lw_tbl ∧ (Cond.methodLink own idx y ∈ lw_tbl ∨ Cond.methodLinkNest own idx y "RunTapes" ∈ lw_tbl)
def MS (own : String) (idx : Nat) (y : MethodName) (bytes : ByteArray) (maxL : Nat) (ret : Option FieldType) (n : Nat) : Prop := MB y bytes maxL ret n ∧ Cond.static y ∈ lw_tbl ∧ Cond.methodLink own idx y ∈ lw_tbl
def CT (l : Launch) (y : MethodName) (cc : ByteArray) (maxL : Nat) (ret : Option FieldType) (rm : Room) (av : List Value) (G : Gl) (E : En) (σ : Sg) (rv : Option Value) (σ' : Sg) : Prop :=
  Met l y [Cond.code y cc maxL ret] rm (va_Pc av (RepS G E σ)) (QC G E rv σ') 0 0 (GA G)
-- pure pieces
def tk {β : Type} (x c : Nat) (k : Option β) : Option β := if x = c then k else none
def dr {β : Type} (r : Option Nat) (E : En) (c : Nat) (f : Nat → Option β) : Option β := match r with
  | some x => tk (cd E x) c (f x)
  | none => none
def ck {β : Type} (i : Int32) (n : Nat) (k : Option β) : Option β := if 0 ≤ i ∧ i.toNatClampNeg < n then k else none
def kb {β : Type} (v : Int32) (k : Option β) : Option β := if v = 0 ∨ v = 1 then k else none
def nz {β : Type} (y : Int32) (k : Option β) : Option β := if y = 0 then none else k
def nzl {β : Type} (y : Int64) (k : Option β) : Option β := if y = 0 then none else k
def bd {α β : Type} (x : Option (α × Sg)) (f : α → Sg → Option β) : Option β := match x with
  | some r => f r.1 r.2
  | none => none
def bv {β : Type} (x : Option Sg) (f : Sg → Option β) : Option β := match x with
  | some r => f r
  | none => none
def acp {β : Type} (E : En) (σ : Sg) (a : Nat) (sp : Int32) (b : Nat) (dp n : Int32) (k : Sg → Option β) : Option β :=
  if (0 ≤ sp ∧ 0 ≤ dp ∧ 0 ≤ n) ∧ sp.toNatClampNeg + n.toNatClampNeg ≤ ln E a ∧ dp.toNatClampNeg + n.toNatClampNeg ≤ ln E b then k (sc σ a b sp.toNatClampNeg dp.toNatClampNeg n.toNatClampNeg) else none
def fx {α β : Type} (F : (α → Option β) → α → Option β) : Nat → α → Option β
  | 0, _ => none
  | n + 1, a => F (fx F n) a
def FU : Nat := 1000000
def im (x y : Int32) : Int32 := x - x / y * y
def iml (x y : Int64) : Int64 := x - x / y * y
def imax (x y : Int32) : Int32 := if x < y then y else x
def imin (x y : Int32) : Int32 := if y < x then y else x
def iu (x y : Int32) : Int32 := (x.toUInt32 >>> (y.toUInt32 &&& Int32.toUInt32 31)).toInt32
theorem R_tk {β : Type} {x c : Nat} {k : Option β} {o : β} {W : Prop} (h : x = c → k = some o → W) : tk x c k = some o → W := by
  unfold tk; split
  · next e => exact h e
  · intro q; cases q
theorem R_dr {β : Type} {r : Option Nat} {E : En} {c : Nat} {f : Nat → Option β} {o : β} {W : Prop} (h : ∀ x, r = some x → cd E x = c → f x = some o → W) : dr r E c f = some o → W := by
  unfold dr; split
  · next x => exact R_tk (h x rfl)
  · intro q; cases q
theorem R_ck {β : Type} {i : Int32} {n : Nat} {k : Option β} {o : β} {W : Prop} (h : vp_in i n → k = some o → W) : ck i n k = some o → W := by
  unfold ck; split
  · next e =>
    refine h (fun q => ?_)
    rcases q with q | q
    · exact absurd e.1 (Int32.not_le.mpr q)
    · omega
  · intro q; cases q
theorem R_kb {β : Type} {v : Int32} {k : Option β} {o : β} {W : Prop} (h : v = 0 ∨ v = 1 → k = some o → W) : kb v k = some o → W := by
  unfold kb; split
  · next e => exact h e
  · intro q; cases q
theorem R_nz {β : Type} {y : Int32} {k : Option β} {o : β} {W : Prop} (h : ¬ y = 0 → k = some o → W) : nz y k = some o → W := by
  unfold nz; split
  · intro q; cases q
  · next e => exact h e
theorem R_nzl {β : Type} {y : Int64} {k : Option β} {o : β} {W : Prop} (h : ¬ y = 0 → k = some o → W) : nzl y k = some o → W := by
  unfold nzl; split
  · intro q; cases q
  · next e => exact h e
theorem R_bd {α β : Type} {X : Option (α × Sg)} {f : α → Sg → Option β} {o : β} {W : Prop} (h : ∀ v σ, X = some (v, σ) → f v σ = some o → W) : bd X f = some o → W := by
  unfold bd; split
  · next r => exact h r.1 r.2 rfl
  · intro q; cases q
theorem R_bv {β : Type} {X : Option Sg} {f : Sg → Option β} {o : β} {W : Prop} (h : ∀ σ, X = some σ → f σ = some o → W) : bv X f = some o → W := by
  unfold bv; split
  · next r => exact h r rfl
  · intro q; cases q
theorem R_acp {β : Type} {E : En} {σ : Sg} {a b : Nat} {sp dp n : Int32} {k : Sg → Option β} {o : β} {W : Prop} (h : ((0 ≤ sp ∧ 0 ≤ dp ∧ 0 ≤ n) ∧ sp.toNatClampNeg + n.toNatClampNeg ≤ ln E a ∧ dp.toNatClampNeg + n.toNatClampNeg ≤ ln E b) → k (sc σ a b sp.toNatClampNeg dp.toNatClampNeg n.toNatClampNeg) = some o → W) : acp E σ a sp b dp n k = some o → W := by
  unfold acp; split
  · next e => exact h e
  · intro q; cases q
theorem R_if {β : Type} {c : Prop} [Decidable c] {A B : Option β} {o : β} {W : Prop} (t : c → A = some o → W) (f : ¬ c → B = some o → W) : (if c then A else B) = some o → W := by
  split
  · next e => exact t e
  · next e => exact f e
theorem R_bdK {α β : Type} {X : Option (α × Sg)} {f : α → Sg → Option β} {o : β} {W : Prop} (VJ : α → Sg → Prop) (K : ∀ v σ, f v σ = some o → VJ v σ) (h : ∀ v σ, VJ v σ → X = some (v, σ) → W) : bd X f = some o → W :=
  R_bd (fun v σ e q => h v σ (K v σ q) e)
theorem R_end {α : Type} {v0 v : α} {σ0 σ : Sg} (VJ : α → Sg → Prop) (K : VJ v σ) : some (v0, σ0) = some (v, σ) → VJ v0 σ0 := by
  intro h; cases h; exact K
theorem R_loop {α γ β : Type} {F : (α → Option (γ × Sg)) → α → Option (γ × Sg)} {n : Nat} {f : γ → Sg → Option β} {o : β} (VH : α → Prop) (VX : γ → Sg → Prop) (a : α) (K : ∀ v σ, f v σ = some o → VX v σ)
    (step : ∀ rec : α → Option (γ × Sg), (∀ a b σ, VX b σ → rec a = some (b, σ) → VH a) → ∀ a b σ, VX b σ → F rec a = some (b, σ) → VH a) : bd (fx F n a) f = some o → VH a := by
  have key : ∀ (n : Nat) (a : α) (b : γ) (σ : Sg), VX b σ → fx F n a = some (b, σ) → VH a := by
    intro n
    induction n with
    | zero => intro a b σ _ h; cases h
    | succ n ih => intro a b σ hb h; exact step (fx F n) ih a b σ hb h
  exact R_bd (fun v σ e q => key n a v σ (K v σ q) e)
end
section
section RW
variable {κ : KT} {G : Gl} {Q : State → Prop} {E : En} {σ : Sg} {ks : Bool × Nat × Nat} {u : Nat × Nat} {cc : ByteArray} {own : String} {nL pc n : Nat} {lv : List (Nat × Value)} {st : List Value} {P : Prop}
theorem tb_warm {s U : State} (h : TbAll s) (hW : s.WarmedH U.vm) : TbAll U := by
  intro w hw h1 a
  have h2 := h w hw h1 #[]
  cases w with
  | fieldLinkNest => exact va_Nw.use rfl (va_Nw.warmF hW h2)
  | methodLinkNest => exact va_Nw.use rfl (va_Nw.warmM hW h2)
  | _ => exact word_at hW (good_of_word h1) h2
theorem tb_hts {s : State} (h : TbAll s) (a : Array Value) : ∀ w ∈ lw_tbl.filter wk, w.before a s = true := fun w hw => h w (List.mem_filter.mp hw).1 (List.mem_filter.mp hw).2 a
theorem ws_at {a : Nat} (h : a < E.1) : (wsOf G E σ)[a]? = some (G.1 + a, el G.1 G.2.2.2.1 E σ a) := by
  simp [wsOf, h]
theorem cd_lt {a c : Nat} (h : cd E a = c) (hc : c < 999) : a < E.1 ∧ (E.2.1 a).1 = c := by
  unfold cd at h
  split at h
  · next q => exact ⟨q, h⟩
  · omega
theorem ws_D : va_D (GA G) (wsOf G E σ) := by
  refine ⟨fun i j p q hi hj e => ?_, fun k q h => ?_⟩
  · simp only [wsOf, List.getElem?_map, Option.map_eq_some_iff] at hi hj
    obtain ⟨a, ha, rfl⟩ := hi
    obtain ⟨b, hb, rfl⟩ := hj
    simp only [List.getElem?_range, List.getElem?_eq_some_iff, List.length_range, List.getElem_range] at ha hb
    obtain ⟨_, rfl⟩ := ha
    obtain ⟨_, rfl⟩ := hb
    simp only [] at e
    omega
  · simp only [wsOf, List.getElem?_map, Option.map_eq_some_iff] at h
    obtain ⟨a, _, rfl⟩ := h
    show G.1 ≤ G.1 + a
    omega
theorem el_o {a c : Nat} (h : cd E a = c) (hc : c < 100) : (wsOf G E σ)[a]? = some (G.1 + a, .inr (c, fvs G.1 E σ c a)) := by
  obtain ⟨h1, h2⟩ := cd_lt h (by omega)
  rw [ws_at h1]
  unfold el
  rw [if_pos (by rw [h2]; exact hc), h2]
theorem el_a {a c : Nat} (h : cd E a = c) (hc : 100 ≤ c) (hc2 : c < 999) : (wsOf G E σ)[a]? = some (G.1 + a, .inl (G.2.2.2.1 (c - 100), ln E a, ars G.1 E σ c a)) := by
  obtain ⟨h1, h2⟩ := cd_lt h hc2
  rw [ws_at h1]
  unfold el ln
  rw [if_neg (by rw [h2]; omega), h2]
theorem fvs_at {c a k : Nat} (hk : k < nf c) : (fvs G.1 E σ c a)[k]? = some (fv G.1 E σ c a k) := by
  simp [fvs, hk]
theorem fvs_len {c a : Nat} : (fvs G.1 E σ c a).length = nf c := by simp [fvs]
/-- two worlds that differ in one cell -/
theorem ws_set {σ' : Sg} {a : Nat} {e : va_E} (ha : a < E.1) (he : el G.1 G.2.2.2.1 E σ' a = e) (ho : ∀ x, x ≠ a → el G.1 G.2.2.2.1 E σ' x = el G.1 G.2.2.2.1 E σ x) : (wsOf G E σ).set a (G.1 + a, e) = wsOf G E σ' := by
  apply List.ext_getElem?
  intro i
  by_cases hi : i = a
  · subst hi
    rw [ws_at ha, List.getElem?_set_self (by simp [wsOf]; exact ha), he]
  · rw [List.getElem?_set_ne (fun q => hi q.symm)]
    simp only [wsOf, List.getElem?_map]
    cases hr : (List.range E.1)[i]? with
    | none => rfl
    | some x =>
      have hx : x = i := by
        rw [List.getElem?_eq_some_iff] at hr
        obtain ⟨_, e⟩ := hr
        rw [List.getElem_range] at e
        exact e.symm
      subst hx
      simp only [Option.map_some]
      rw [ho _ hi]
theorem si_same {a k : Nat} {v : Int32} : (si σ a k v).1 a = upd (σ.1 a) k v := by simp [si]
theorem si_off {a k x : Nat} {v : Int32} (h : x ≠ a) : (si σ a k v).1 x = σ.1 x := by simp [si, h]
theorem si_l {a k : Nat} {v : Int32} : (si σ a k v).2 = σ.2 := rfl
theorem el_off {σ' : Sg} {a x : Nat} (h1 : σ'.1 x = σ.1 x) (h2 : σ'.2 x = σ.2 x) : el G.1 G.2.2.2.1 E σ' x = el G.1 G.2.2.2.1 E σ x := by
  unfold el
  have e1 : fvs G.1 E σ' (E.2.1 x).1 x = fvs G.1 E σ (E.2.1 x).1 x := by
    unfold fvs
    apply List.map_congr_left
    intro k _
    unfold fv gi
    rw [h1]
  have e2 : ars G.1 E σ' (E.2.1 x).1 x = ars G.1 E σ (E.2.1 x).1 x := by
    unfold ars
    rw [h1, h2]
  rw [e1, e2]
theorem ws_put {a k c : Nat} {v : Int32} (h : cd E a = c) (hc : c < 100) (hk : isr (tyc c k) = false) : (wsOf G E σ).set a (G.1 + a, .inr (c, (fvs G.1 E σ c a).set k (.int v))) = wsOf G E (si σ a k v) := by
  obtain ⟨h1, h2⟩ := cd_lt h (by omega)
  refine ws_set h1 ?_ (fun x hx => el_off (a := a) (si_off hx) rfl)
  unfold el
  rw [if_pos (by rw [h2]; exact hc), h2]
  congr 2
  apply List.ext_getElem?
  intro j
  by_cases hj : j = k
  · subst hj
    by_cases hl : j < nf c
    · rw [List.getElem?_set_self (by rw [fvs_len]; exact hl), fvs_at hl]
      simp [fv, hk, gi, si, upd]
    · have e1 : (fvs G.1 E (si σ a j v) c a)[j]? = none := by simp [fvs]; omega
      have e2 : ((fvs G.1 E σ c a).set j (Value.int v))[j]? = none := by simp [fvs]; omega
      rw [e1, e2]
  · rw [List.getElem?_set_ne (fun q => hj q.symm)]
    by_cases hl : j < nf c
    · rw [fvs_at hl, fvs_at hl]
      simp [fv, gi, si, upd, hj]
    · have e1 : (fvs G.1 E (si σ a k v) c a)[j]? = none := by simp [fvs]; omega
      have e2 : (fvs G.1 E σ c a)[j]? = none := by simp [fvs]; omega
      rw [e1, e2]
theorem ws_arr {σ' : Sg} {a c : Nat} (h : cd E a = c) (hc : 100 ≤ c) (hc2 : c < 999) (ho : ∀ x, x ≠ a → σ'.1 x = σ.1 x ∧ σ'.2 x = σ.2 x) : (wsOf G E σ).set a (G.1 + a, .inl (G.2.2.2.1 (c - 100), ln E a, ars G.1 E σ' c a)) = wsOf G E σ' := by
  obtain ⟨h1, h2⟩ := cd_lt h hc2
  refine ws_set h1 ?_ (fun x hx => el_off (a := a) (ho x hx).1 (ho x hx).2)
  unfold el ln
  rw [if_neg (by rw [h2]; omega), h2]

theorem R_iadd (C : Cx κ G cc own nL) {x y : Int32} (d : dk cc pc n .iadd 1)  (k : P → V κ G Q E σ ks n lv (.int (x + y) :: st)) : P → V κ G Q E σ ks pc lv (.int y :: .int x :: st) := by
  obtain ⟨p, l, e, R, s, m, args, below, meth, c⟩ := κ
  obtain ⟨hx, hb, hml, hown, hlk, hK, hT, hZ, hG⟩ := C
  obtain ⟨d, rfl⟩ := d
  intro q H locs ls hz hP hS hl
  exact lv_iadd hx hb d  (k q H locs ls hz hP hS hl)
theorem R_isub (C : Cx κ G cc own nL) {x y : Int32} (d : dk cc pc n .isub 1)  (k : P → V κ G Q E σ ks n lv (.int (x - y) :: st)) : P → V κ G Q E σ ks pc lv (.int y :: .int x :: st) := by
  obtain ⟨p, l, e, R, s, m, args, below, meth, c⟩ := κ
  obtain ⟨hx, hb, hml, hown, hlk, hK, hT, hZ, hG⟩ := C
  obtain ⟨d, rfl⟩ := d
  intro q H locs ls hz hP hS hl
  exact lv_isub hx hb d  (k q H locs ls hz hP hS hl)
theorem R_imul (C : Cx κ G cc own nL) {x y : Int32} (d : dk cc pc n .imul 1)  (k : P → V κ G Q E σ ks n lv (.int (x * y) :: st)) : P → V κ G Q E σ ks pc lv (.int y :: .int x :: st) := by
  obtain ⟨p, l, e, R, s, m, args, below, meth, c⟩ := κ
  obtain ⟨hx, hb, hml, hown, hlk, hK, hT, hZ, hG⟩ := C
  obtain ⟨d, rfl⟩ := d
  intro q H locs ls hz hP hS hl
  exact lv_imul hx hb d  (k q H locs ls hz hP hS hl)
theorem R_iand (C : Cx κ G cc own nL) {x y : Int32} (d : dk cc pc n .iand 1)  (k : P → V κ G Q E σ ks n lv (.int (x &&& y) :: st)) : P → V κ G Q E σ ks pc lv (.int y :: .int x :: st) := by
  obtain ⟨p, l, e, R, s, m, args, below, meth, c⟩ := κ
  obtain ⟨hx, hb, hml, hown, hlk, hK, hT, hZ, hG⟩ := C
  obtain ⟨d, rfl⟩ := d
  intro q H locs ls hz hP hS hl
  exact lv_iand hx hb d  (k q H locs ls hz hP hS hl)
theorem R_ior (C : Cx κ G cc own nL) {x y : Int32} (d : dk cc pc n .ior 1)  (k : P → V κ G Q E σ ks n lv (.int (x ||| y) :: st)) : P → V κ G Q E σ ks pc lv (.int y :: .int x :: st) := by
  obtain ⟨p, l, e, R, s, m, args, below, meth, c⟩ := κ
  obtain ⟨hx, hb, hml, hown, hlk, hK, hT, hZ, hG⟩ := C
  obtain ⟨d, rfl⟩ := d
  intro q H locs ls hz hP hS hl
  exact lv_ior hx hb d  (k q H locs ls hz hP hS hl)
theorem R_idiv (C : Cx κ G cc own nL) {x y : Int32} (d : dk cc pc n .idiv 1) (hne : ¬ y = 0) (k : P → V κ G Q E σ ks n lv (.int (x / y) :: st)) : P → V κ G Q E σ ks pc lv (.int y :: .int x :: st) := by
  obtain ⟨p, l, e, R, s, m, args, below, meth, c⟩ := κ
  obtain ⟨hx, hb, hml, hown, hlk, hK, hT, hZ, hG⟩ := C
  obtain ⟨d, rfl⟩ := d
  intro q H locs ls hz hP hS hl
  exact lv_idiv hx hb d hne (k q H locs ls hz hP hS hl)
theorem R_irem (C : Cx κ G cc own nL) {x y : Int32} (d : dk cc pc n .irem 1) (hne : ¬ y = 0) (k : P → V κ G Q E σ ks n lv (.int (im x y) :: st)) : P → V κ G Q E σ ks pc lv (.int y :: .int x :: st) := by
  obtain ⟨p, l, e, R, s, m, args, below, meth, c⟩ := κ
  obtain ⟨hx, hb, hml, hown, hlk, hK, hT, hZ, hG⟩ := C
  obtain ⟨d, rfl⟩ := d
  intro q H locs ls hz hP hS hl
  exact lv_irem hx hb d hne (k q H locs ls hz hP hS hl)
theorem R_ishl (C : Cx κ G cc own nL) {x y : Int32} (d : dk cc pc n .ishl 1)  (k : P → V κ G Q E σ ks n lv (.int (x <<< (y &&& 31)) :: st)) : P → V κ G Q E σ ks pc lv (.int y :: .int x :: st) := by
  obtain ⟨p, l, e, R, s, m, args, below, meth, c⟩ := κ
  obtain ⟨hx, hb, hml, hown, hlk, hK, hT, hZ, hG⟩ := C
  obtain ⟨d, rfl⟩ := d
  intro q H locs ls hz hP hS hl
  exact lv_ishl hx hb d  (k q H locs ls hz hP hS hl)
theorem R_ishr (C : Cx κ G cc own nL) {x y : Int32} (d : dk cc pc n .ishr 1)  (k : P → V κ G Q E σ ks n lv (.int (x >>> (y &&& 31)) :: st)) : P → V κ G Q E σ ks pc lv (.int y :: .int x :: st) := by
  obtain ⟨p, l, e, R, s, m, args, below, meth, c⟩ := κ
  obtain ⟨hx, hb, hml, hown, hlk, hK, hT, hZ, hG⟩ := C
  obtain ⟨d, rfl⟩ := d
  intro q H locs ls hz hP hS hl
  exact lv_ishr hx hb d  (k q H locs ls hz hP hS hl)
theorem R_ladd (C : Cx κ G cc own nL) {x y : Int64} (d : dk cc pc n .ladd 1)  (k : P → V κ G Q E σ ks n lv (.long (x + y) :: st)) : P → V κ G Q E σ ks pc lv (.long y :: .long x :: st) := by
  obtain ⟨p, l, e, R, s, m, args, below, meth, c⟩ := κ
  obtain ⟨hx, hb, hml, hown, hlk, hK, hT, hZ, hG⟩ := C
  obtain ⟨d, rfl⟩ := d
  intro q H locs ls hz hP hS hl
  exact lv_ladd hx hb d  (k q H locs ls hz hP hS hl)
theorem R_lmul (C : Cx κ G cc own nL) {x y : Int64} (d : dk cc pc n .lmul 1)  (k : P → V κ G Q E σ ks n lv (.long (x * y) :: st)) : P → V κ G Q E σ ks pc lv (.long y :: .long x :: st) := by
  obtain ⟨p, l, e, R, s, m, args, below, meth, c⟩ := κ
  obtain ⟨hx, hb, hml, hown, hlk, hK, hT, hZ, hG⟩ := C
  obtain ⟨d, rfl⟩ := d
  intro q H locs ls hz hP hS hl
  exact lv_lmul hx hb d  (k q H locs ls hz hP hS hl)
theorem R_land (C : Cx κ G cc own nL) {x y : Int64} (d : dk cc pc n .land 1)  (k : P → V κ G Q E σ ks n lv (.long (x &&& y) :: st)) : P → V κ G Q E σ ks pc lv (.long y :: .long x :: st) := by
  obtain ⟨p, l, e, R, s, m, args, below, meth, c⟩ := κ
  obtain ⟨hx, hb, hml, hown, hlk, hK, hT, hZ, hG⟩ := C
  obtain ⟨d, rfl⟩ := d
  intro q H locs ls hz hP hS hl
  exact lv_land hx hb d  (k q H locs ls hz hP hS hl)
theorem R_lrem (C : Cx κ G cc own nL) {x y : Int64} (d : dk cc pc n .lrem 1) (hne : ¬ y = 0) (k : P → V κ G Q E σ ks n lv (.long (iml x y) :: st)) : P → V κ G Q E σ ks pc lv (.long y :: .long x :: st) := by
  obtain ⟨p, l, e, R, s, m, args, below, meth, c⟩ := κ
  obtain ⟨hx, hb, hml, hown, hlk, hK, hT, hZ, hG⟩ := C
  obtain ⟨d, rfl⟩ := d
  intro q H locs ls hz hP hS hl
  exact lv_lrem hx hb d hne (k q H locs ls hz hP hS hl)
theorem R_iushr (C : Cx κ G cc own nL) {x y : Int32} (d : dk cc pc n .iushr 1) (k : P → V κ G Q E σ ks n lv (.int (iu x y) :: st)) : P → V κ G Q E σ ks pc lv (.int y :: .int x :: st) := by
  obtain ⟨p, l, e, R, s, m, args, below, meth, c⟩ := κ
  obtain ⟨hx, hb, hml, hown, hlk, hK, hT, hZ, hG⟩ := C
  obtain ⟨d, rfl⟩ := d
  intro q H locs ls hz hP hS hl
  exact lv_iushr hx hb d rfl (k q H locs ls hz hP hS hl)
theorem R_i2l (C : Cx κ G cc own nL) {x : Int32} (d : dk cc pc n .i2l 1) (k : P → V κ G Q E σ ks n lv (.long x.toInt64 :: st)) : P → V κ G Q E σ ks pc lv (.int x :: st) := by
  obtain ⟨p, l, e, R, s, m, args, below, meth, c⟩ := κ
  obtain ⟨hx, hb, hml, hown, hlk, hK, hT, hZ, hG⟩ := C
  obtain ⟨d, rfl⟩ := d
  intro q H locs ls hz hP hS hl
  exact lv_i2l hx hb d rfl (k q H locs ls hz hP hS hl)
theorem R_l2i (C : Cx κ G cc own nL) {x : Int64} (d : dk cc pc n .l2i 1) (k : P → V κ G Q E σ ks n lv (.int x.toInt32 :: st)) : P → V κ G Q E σ ks pc lv (.long x :: st) := by
  obtain ⟨p, l, e, R, s, m, args, below, meth, c⟩ := κ
  obtain ⟨hx, hb, hml, hown, hlk, hK, hT, hZ, hG⟩ := C
  obtain ⟨d, rfl⟩ := d
  intro q H locs ls hz hP hS hl
  exact lv_l2i hx hb d rfl (k q H locs ls hz hP hS hl)
theorem R_i2b (C : Cx κ G cc own nL) {x : Int32} (d : dk cc pc n .i2b 1) (k : P → V κ G Q E σ ks n lv (.int x.toInt8.toInt32 :: st)) : P → V κ G Q E σ ks pc lv (.int x :: st) := by
  obtain ⟨p, l, e, R, s, m, args, below, meth, c⟩ := κ
  obtain ⟨hx, hb, hml, hown, hlk, hK, hT, hZ, hG⟩ := C
  obtain ⟨d, rfl⟩ := d
  intro q H locs ls hz hP hS hl
  exact lv_i2b hx hb d rfl (k q H locs ls hz hP hS hl)
theorem R_lcmp (C : Cx κ G cc own nL) {x y : Int64} (d : dk cc pc n .lcmp 1) (k : P → V κ G Q E σ ks n lv (.int (lg_cmp x y) :: st)) : P → V κ G Q E σ ks pc lv (.long y :: .long x :: st) := by
  obtain ⟨p, l, e, R, s, m, args, below, meth, c⟩ := κ
  obtain ⟨hx, hb, hml, hown, hlk, hK, hT, hZ, hG⟩ := C
  obtain ⟨d, rfl⟩ := d
  intro q H locs ls hz hP hS hl
  exact W.lcmp hx hb d (k q H locs ls hz hP hS hl)
theorem R_iconst (C : Cx κ G cc own nL) {i : Int} (v : Int32) (d : dk cc pc n (.iconst i) 1) (hv : Int32.ofInt i = v) (k : P → V κ G Q E σ ks n lv (.int v :: st)) : P → V κ G Q E σ ks pc lv st := by
  obtain ⟨p, l, e, R, s, m, args, below, meth, c⟩ := κ
  obtain ⟨hx, hb, hml, hown, hlk, hK, hT, hZ, hG⟩ := C
  obtain ⟨d, rfl⟩ := d
  intro q H locs ls hz hP hS hl
  exact lv_iconst hx hb d hv (k q H locs ls hz hP hS hl)
theorem R_bipush (C : Cx κ G cc own nL) {i : Int} (v : Int32) (d : dk cc pc n (.bipush i) 2) (hv : (Int8.ofInt i).toInt32 = v) (k : P → V κ G Q E σ ks n lv (.int v :: st)) : P → V κ G Q E σ ks pc lv st := by
  obtain ⟨p, l, e, R, s, m, args, below, meth, c⟩ := κ
  obtain ⟨hx, hb, hml, hown, hlk, hK, hT, hZ, hG⟩ := C
  obtain ⟨d, rfl⟩ := d
  intro q H locs ls hz hP hS hl
  exact lv_bipush hx hb d hv (k q H locs ls hz hP hS hl)
theorem R_sipush (C : Cx κ G cc own nL) {i : Int} (v : Int32) (d : dk cc pc n (.sipush i) 3) (hv : (Int16.ofInt i).toInt32 = v) (k : P → V κ G Q E σ ks n lv (.int v :: st)) : P → V κ G Q E σ ks pc lv st := by
  obtain ⟨p, l, e, R, s, m, args, below, meth, c⟩ := κ
  obtain ⟨hx, hb, hml, hown, hlk, hK, hT, hZ, hG⟩ := C
  obtain ⟨d, rfl⟩ := d
  intro q H locs ls hz hP hS hl
  exact lv_sipush hx hb d hv (k q H locs ls hz hP hS hl)
theorem R_lconst (C : Cx κ G cc own nL) {i : Fin 2} (v : Int64) (d : dk cc pc n (.lconst i) 1) (hv : Int64.ofNat (i : Nat) = v) (k : P → V κ G Q E σ ks n lv (.long v :: st)) : P → V κ G Q E σ ks pc lv st := by
  obtain ⟨p, l, e, R, s, m, args, below, meth, c⟩ := κ
  obtain ⟨hx, hb, hml, hown, hlk, hK, hT, hZ, hG⟩ := C
  obtain ⟨d, rfl⟩ := d
  intro q H locs ls hz hP hS hl
  exact lv_lconst hx hb d hv (k q H locs ls hz hP hS hl)
theorem R_ldc (C : Cx κ G cc own nL) {i : Nat} {v : Int32} (hw : Cond.constant own i v ∈ lw_tbl) (d : dk cc pc n (.ldc i) 2) (k : P → V κ G Q E σ ks n lv (.int v :: st)) : P → V κ G Q E σ ks pc lv st := by
  obtain ⟨p, l, e, R, s, m, args, below, meth, c⟩ := κ
  obtain ⟨hx, hb, hml, hown, hlk, hK, hT, hZ, hG⟩ := C
  obtain ⟨d, rfl⟩ := d
  intro q H locs ls hz hP hS hl
  exact lv_ldc hx hb hown (hT _ hw rfl _) d (k q H locs ls hz hP hS hl)
theorem R_ldcw (C : Cx κ G cc own nL) {i : Nat} {v : Int32} (hw : Cond.constant own i v ∈ lw_tbl) (d : dk cc pc n (.ldc_w i) 3) (k : P → V κ G Q E σ ks n lv (.int v :: st)) : P → V κ G Q E σ ks pc lv st := by
  obtain ⟨p, l, e, R, s, m, args, below, meth, c⟩ := κ
  obtain ⟨hx, hb, hml, hown, hlk, hK, hT, hZ, hG⟩ := C
  obtain ⟨d, rfl⟩ := d
  intro q H locs ls hz hP hS hl
  exact lv_ldcw hx hb hown (hT _ hw rfl _) d (k q H locs ls hz hP hS hl)
theorem R_ldc2 (C : Cx κ G cc own nL) {i : Nat} {v : Int64} (hw : Cond.constantLong own i v ∈ lw_tbl) (d : dk cc pc n (.ldc2_w i) 3) (k : P → V κ G Q E σ ks n lv (.long v :: st)) : P → V κ G Q E σ ks pc lv st := by
  obtain ⟨p, l, e, R, s, m, args, below, meth, c⟩ := κ
  obtain ⟨hx, hb, hml, hown, hlk, hK, hT, hZ, hG⟩ := C
  obtain ⟨d, rfl⟩ := d
  intro q H locs ls hz hP hS hl
  exact lv_ldc2 hx hb hown (hT _ hw rfl _) d (k q H locs ls hz hP hS hl)
theorem R_iload_n (C : Cx κ G cc own nL) {j : Fin 4} {x : Int32} (z : Nat) (hk : lv[z]? = some ((j : Nat), .int x)) (d : dk cc pc n (.iload_n j) 1) (k : P → V κ G Q E σ ks n lv (.int x :: st)) : P → V κ G Q E σ ks pc lv st := by
  obtain ⟨p, l, e, R, s, m, args, below, meth, c⟩ := κ
  obtain ⟨hx, hb, hml, hown, hlk, hK, hT, hZ, hG⟩ := C
  obtain ⟨d, rfl⟩ := d
  intro q H locs ls hz hP hS hl
  exact lv_iload_n hx hb d rfl (lv_at hl z hk) (k q H locs ls hz hP hS hl)
theorem R_iload (C : Cx κ G cc own nL) {i : Nat} {x : Int32} (z : Nat) (hk : lv[z]? = some (i, .int x)) (d : dk cc pc n (.iload i) 2) (k : P → V κ G Q E σ ks n lv (.int x :: st)) : P → V κ G Q E σ ks pc lv st := by
  obtain ⟨p, l, e, R, s, m, args, below, meth, c⟩ := κ
  obtain ⟨hx, hb, hml, hown, hlk, hK, hT, hZ, hG⟩ := C
  obtain ⟨d, rfl⟩ := d
  intro q H locs ls hz hP hS hl
  exact lv_iload hx hb d (lv_at hl z hk) (k q H locs ls hz hP hS hl)
theorem R_lload_n (C : Cx κ G cc own nL) {j : Fin 4} {x : Int64} (z : Nat) (hk : lv[z]? = some ((j : Nat), .long x)) (d : dk cc pc n (.lload_n j) 1) (k : P → V κ G Q E σ ks n lv (.long x :: st)) : P → V κ G Q E σ ks pc lv st := by
  obtain ⟨p, l, e, R, s, m, args, below, meth, c⟩ := κ
  obtain ⟨hx, hb, hml, hown, hlk, hK, hT, hZ, hG⟩ := C
  obtain ⟨d, rfl⟩ := d
  intro q H locs ls hz hP hS hl
  exact lv_lload_n hx hb d rfl (lv_at hl z hk) (k q H locs ls hz hP hS hl)
theorem R_lload (C : Cx κ G cc own nL) {i : Nat} {x : Int64} (z : Nat) (hk : lv[z]? = some (i, .long x)) (d : dk cc pc n (.lload i) 2) (k : P → V κ G Q E σ ks n lv (.long x :: st)) : P → V κ G Q E σ ks pc lv st := by
  obtain ⟨p, l, e, R, s, m, args, below, meth, c⟩ := κ
  obtain ⟨hx, hb, hml, hown, hlk, hK, hT, hZ, hG⟩ := C
  obtain ⟨d, rfl⟩ := d
  intro q H locs ls hz hP hS hl
  exact lv_lload hx hb d (lv_at hl z hk) (k q H locs ls hz hP hS hl)
theorem R_aload_n (C : Cx κ G cc own nL) {j : Fin 4} {x : Nat} (z : Nat) (hk : lv[z]? = some ((j : Nat), .ref x)) (d : dk cc pc n (.aload_n j) 1) (k : P → V κ G Q E σ ks n lv (.ref x :: st)) : P → V κ G Q E σ ks pc lv st := by
  obtain ⟨p, l, e, R, s, m, args, below, meth, c⟩ := κ
  obtain ⟨hx, hb, hml, hown, hlk, hK, hT, hZ, hG⟩ := C
  obtain ⟨d, rfl⟩ := d
  intro q H locs ls hz hP hS hl
  exact lv_aload_n hx hb d rfl (lv_at hl z hk) (k q H locs ls hz hP hS hl)
theorem R_aload (C : Cx κ G cc own nL) {i : Nat} {x : Nat} (z : Nat) (hk : lv[z]? = some (i, .ref x)) (d : dk cc pc n (.aload i) 2) (k : P → V κ G Q E σ ks n lv (.ref x :: st)) : P → V κ G Q E σ ks pc lv st := by
  obtain ⟨p, l, e, R, s, m, args, below, meth, c⟩ := κ
  obtain ⟨hx, hb, hml, hown, hlk, hK, hT, hZ, hG⟩ := C
  obtain ⟨d, rfl⟩ := d
  intro q H locs ls hz hP hS hl
  exact lv_aload hx hb d (lv_at hl z hk) (k q H locs ls hz hP hS hl)
theorem R_istore_n (C : Cx κ G cc own nL) {j : Fin 4} {i : Nat} {x : Int32} {lv2 : List (Nat × Value)} (d : dk cc pc n (.istore_n j) 1) (hi : (j : Nat) = i) (hn : i < nL) (hv : (i, Value.int x) :: lv.filter (fun q => !(q.1 == i) && !(q.1 + 1 == i && q.2.category == 2)) = lv2) (k : P → V κ G Q E σ ks n lv2 st) : P → V κ G Q E σ ks pc lv (.int x :: st) := by
  obtain ⟨p, l, e, R, s, m, args, below, meth, c⟩ := κ
  obtain ⟨hx, hb, hml, hown, hlk, hK, hT, hZ, hG⟩ := C
  obtain ⟨d, rfl⟩ := d
  intro q H locs ls hz hP hS hl
  exact lv_istore_n hx hb d hi hl (by rw [hml]; exact hn) hv (fun ls2 hl2 => k q H locs ls2 hz hP hS hl2)
theorem R_istore (C : Cx κ G cc own nL) {i : Nat} {x : Int32} {lv2 : List (Nat × Value)} (d : dk cc pc n (.istore i) 2) (hn : i < nL) (hv : (i, Value.int x) :: lv.filter (fun q => !(q.1 == i) && !(q.1 + 1 == i && q.2.category == 2)) = lv2) (k : P → V κ G Q E σ ks n lv2 st) : P → V κ G Q E σ ks pc lv (.int x :: st) := by
  obtain ⟨p, l, e, R, s, m, args, below, meth, c⟩ := κ
  obtain ⟨hx, hb, hml, hown, hlk, hK, hT, hZ, hG⟩ := C
  obtain ⟨d, rfl⟩ := d
  intro q H locs ls hz hP hS hl
  exact lv_istore hx hb d hl (by rw [hml]; exact hn) hv (fun ls2 hl2 => k q H locs ls2 hz hP hS hl2)
theorem R_lstore_n (C : Cx κ G cc own nL) {j : Fin 4} {i : Nat} {x : Int64} {lv2 : List (Nat × Value)} (d : dk cc pc n (.lstore_n j) 1) (hi : (j : Nat) = i) (hn : i + 1 < nL) (hv : (i, Value.long x) :: lv.filter (fun q => !(q.1 == i) && (!(q.1 == i + 1) && !(q.1 + 1 == i && q.2.category == 2))) = lv2) (k : P → V κ G Q E σ ks n lv2 st) : P → V κ G Q E σ ks pc lv (.long x :: st) := by
  obtain ⟨p, l, e, R, s, m, args, below, meth, c⟩ := κ
  obtain ⟨hx, hb, hml, hown, hlk, hK, hT, hZ, hG⟩ := C
  obtain ⟨d, rfl⟩ := d
  intro q H locs ls hz hP hS hl
  exact lv_lstore_n hx hb d hi hl (by rw [hml]; exact hn) hv (fun ls2 hl2 => k q H locs ls2 hz hP hS hl2)
theorem R_lstore (C : Cx κ G cc own nL) {i : Nat} {x : Int64} {lv2 : List (Nat × Value)} (d : dk cc pc n (.lstore i) 2) (hn : i + 1 < nL) (hv : (i, Value.long x) :: lv.filter (fun q => !(q.1 == i) && (!(q.1 == i + 1) && !(q.1 + 1 == i && q.2.category == 2))) = lv2) (k : P → V κ G Q E σ ks n lv2 st) : P → V κ G Q E σ ks pc lv (.long x :: st) := by
  obtain ⟨p, l, e, R, s, m, args, below, meth, c⟩ := κ
  obtain ⟨hx, hb, hml, hown, hlk, hK, hT, hZ, hG⟩ := C
  obtain ⟨d, rfl⟩ := d
  intro q H locs ls hz hP hS hl
  exact lv_lstore hx hb d hl (by rw [hml]; exact hn) hv (fun ls2 hl2 => k q H locs ls2 hz hP hS hl2)
theorem R_astore_n (C : Cx κ G cc own nL) {j : Fin 4} {i : Nat} {x : Nat} {lv2 : List (Nat × Value)} (d : dk cc pc n (.astore_n j) 1) (hi : (j : Nat) = i) (hn : i < nL) (hv : (i, Value.ref x) :: lv.filter (fun q => !(q.1 == i) && !(q.1 + 1 == i && q.2.category == 2)) = lv2) (k : P → V κ G Q E σ ks n lv2 st) : P → V κ G Q E σ ks pc lv (.ref x :: st) := by
  obtain ⟨p, l, e, R, s, m, args, below, meth, c⟩ := κ
  obtain ⟨hx, hb, hml, hown, hlk, hK, hT, hZ, hG⟩ := C
  obtain ⟨d, rfl⟩ := d
  intro q H locs ls hz hP hS hl
  exact lv_astore_n hx hb d hi hl (by rw [hml]; exact hn) hv (fun ls2 hl2 => k q H locs ls2 hz hP hS hl2)
theorem R_astore (C : Cx κ G cc own nL) {i : Nat} {x : Nat} {lv2 : List (Nat × Value)} (d : dk cc pc n (.astore i) 2) (hn : i < nL) (hv : (i, Value.ref x) :: lv.filter (fun q => !(q.1 == i) && !(q.1 + 1 == i && q.2.category == 2)) = lv2) (k : P → V κ G Q E σ ks n lv2 st) : P → V κ G Q E σ ks pc lv (.ref x :: st) := by
  obtain ⟨p, l, e, R, s, m, args, below, meth, c⟩ := κ
  obtain ⟨hx, hb, hml, hown, hlk, hK, hT, hZ, hG⟩ := C
  obtain ⟨d, rfl⟩ := d
  intro q H locs ls hz hP hS hl
  exact lv_astore hx hb d hl (by rw [hml]; exact hn) hv (fun ls2 hl2 => k q H locs ls2 hz hP hS hl2)
theorem R_iinc (C : Cx κ G cc own nL) {i : Nat} {j : Int} {x v : Int32} {lv2 : List (Nat × Value)} (z : Nat) (d : dk cc pc n (.iinc i j) 3) (hk : lv[z]? = some (i, .int x)) (hj : Int32.ofInt j = v) (hn : i < nL) (hv : (i, Value.int (x + v)) :: lv.filter (fun q => !(q.1 == i) && !(q.1 + 1 == i && q.2.category == 2)) = lv2) (k : P → V κ G Q E σ ks n lv2 st) : P → V κ G Q E σ ks pc lv st := by
  obtain ⟨p, l, e, R, s, m, args, below, meth, c⟩ := κ
  obtain ⟨hx, hb, hml, hown, hlk, hK, hT, hZ, hG⟩ := C
  obtain ⟨d, rfl⟩ := d
  intro q H locs ls hz hP hS hl
  exact lv_iinc hx hb d hl hk (by rw [hj]) (by rw [hml]; exact hn) hv (fun ls2 hl2 => k q H locs ls2 hz hP hS hl2)
theorem R_dup (C : Cx κ G cc own nL) {v : Value} (d : dk cc pc n .dup 1) (hc : v.category = 1) (k : P → V κ G Q E σ ks n lv (v :: v :: st)) : P → V κ G Q E σ ks pc lv (v :: st) := by
  obtain ⟨p, l, e, R, s, m, args, below, meth, c⟩ := κ
  obtain ⟨hx, hb, hml, hown, hlk, hK, hT, hZ, hG⟩ := C
  obtain ⟨d, rfl⟩ := d
  intro q H locs ls hz hP hS hl
  exact lv_dup hx hb d hc (k q H locs ls hz hP hS hl)
theorem R_pop (C : Cx κ G cc own nL) {v : Value} (d : dk cc pc n .pop 1) (hc : v.category = 1) (k : P → V κ G Q E σ ks n lv st) : P → V κ G Q E σ ks pc lv (v :: st) := by
  obtain ⟨p, l, e, R, s, m, args, below, meth, c⟩ := κ
  obtain ⟨hx, hb, hml, hown, hlk, hK, hT, hZ, hG⟩ := C
  obtain ⟨d, rfl⟩ := d
  intro q H locs ls hz hP hS hl
  exact lv_pop hx hb d hc (k q H locs ls hz hP hS hl)
theorem R_dup2 (C : Cx κ G cc own nL) {v u : Value} (d : dk cc pc n .dup2 1) (hc : v.category = 1) (hc2 : u.category = 1) (k : P → V κ G Q E σ ks n lv (v :: u :: v :: u :: st)) : P → V κ G Q E σ ks pc lv (v :: u :: st) := by
  obtain ⟨p, l, e, R, s, m, args, below, meth, c⟩ := κ
  obtain ⟨hx, hb, hml, hown, hlk, hK, hT, hZ, hG⟩ := C
  obtain ⟨d, rfl⟩ := d
  intro q H locs ls hz hP hS hl
  exact lv_dup2_11 hx hb d hc hc2 (k q H locs ls hz hP hS hl)
theorem R_loc {lv2 : List (Nat × Value)} (z : List Nat) (h : lv_pick lv z = lv2) (k : P → V κ G Q E σ ks pc lv2 st) : P → V κ G Q E σ ks pc lv st := by
  intro q H locs ls hz hP hS hl
  exact k q H locs ls hz hP hS (lv_sub hl z h)
theorem R_goto {t : Nat} {off : Int} (C : Cx κ G cc own nL) (d : bk cc pc n t (.goto off) off) (k : P → V κ G Q E σ ks t lv st) : P → V κ G Q E σ ks pc lv st := by
  obtain ⟨p, l, e, R, s, m, args, below, meth, c⟩ := κ
  obtain ⟨hx, hb, hml, hown, hlk, hK, hT, hZ, hG⟩ := C
  obtain ⟨d, rfl, ht⟩ := d
  intro q H locs ls hz hP hS hl
  exact lv_goto hx hb d ht (k q H locs ls hz hP hS hl)
theorem R_if_eq {t : Nat} {off : Int} {x : Int32} (C : Cx κ G cc own nL) (d : bk cc pc n t (.ifCond .eq off) off) (kt : x = 0 → P → V κ G Q E σ ks t lv st) (kf : ¬ x = 0 → P → V κ G Q E σ ks n lv st) : P → V κ G Q E σ ks pc lv (.int x :: st) := by
  obtain ⟨p, l, e, R, s, m, args, below, meth, c⟩ := κ
  obtain ⟨hx, hb, hml, hown, hlk, hK, hT, hZ, hG⟩ := C
  obtain ⟨d, rfl, ht⟩ := d
  intro q H locs ls hz hP hS hl
  exact lv_if_eq hx hb d ht (fun z => kt z q H locs ls hz hP hS hl) (fun z => kf z q H locs ls hz hP hS hl)
theorem B_if_eq {t : Nat} {off : Int} {x : Int32} {β : Type} {A B : Option β} {o : β} (C : Cx κ G cc own nL) (d : bk cc pc n t (.ifCond .eq off) off) (kt : A = some o → V κ G Q E σ ks t lv st) (kf : B = some o → V κ G Q E σ ks n lv st) : (if x = 0 then A else B) = some o → V κ G Q E σ ks pc lv (.int x :: st) :=
  R_if_eq C d (fun z h => kt (by rw [if_pos z] at h; exact h)) (fun z h => kf (by rw [if_neg (by simpa using z)] at h; exact h))
theorem R_icmp_eq {t : Nat} {off : Int} {x y : Int32} (C : Cx κ G cc own nL) (d : bk cc pc n t (.if_icmp .eq off) off) (kt : x = y → P → V κ G Q E σ ks t lv st) (kf : ¬ x = y → P → V κ G Q E σ ks n lv st) : P → V κ G Q E σ ks pc lv (.int y :: .int x :: st) := by
  obtain ⟨p, l, e, R, s, m, args, below, meth, c⟩ := κ
  obtain ⟨hx, hb, hml, hown, hlk, hK, hT, hZ, hG⟩ := C
  obtain ⟨d, rfl, ht⟩ := d
  intro q H locs ls hz hP hS hl
  exact lv_icmp_eq hx hb d ht (fun z => kt z q H locs ls hz hP hS hl) (fun z => kf z q H locs ls hz hP hS hl)
theorem B_icmp_eq {t : Nat} {off : Int} {x y : Int32} {β : Type} {A B : Option β} {o : β} (C : Cx κ G cc own nL) (d : bk cc pc n t (.if_icmp .eq off) off) (kt : A = some o → V κ G Q E σ ks t lv st) (kf : B = some o → V κ G Q E σ ks n lv st) : (if x = y then A else B) = some o → V κ G Q E σ ks pc lv (.int y :: .int x :: st) :=
  R_icmp_eq C d (fun z h => kt (by rw [if_pos z] at h; exact h)) (fun z h => kf (by rw [if_neg (by simpa using z)] at h; exact h))
theorem R_if_ne {t : Nat} {off : Int} {x : Int32} (C : Cx κ G cc own nL) (d : bk cc pc n t (.ifCond .ne off) off) (kt : ¬ x = 0 → P → V κ G Q E σ ks t lv st) (kf : x = 0 → P → V κ G Q E σ ks n lv st) : P → V κ G Q E σ ks pc lv (.int x :: st) := by
  obtain ⟨p, l, e, R, s, m, args, below, meth, c⟩ := κ
  obtain ⟨hx, hb, hml, hown, hlk, hK, hT, hZ, hG⟩ := C
  obtain ⟨d, rfl, ht⟩ := d
  intro q H locs ls hz hP hS hl
  exact lv_if_ne hx hb d ht (fun z => kt z q H locs ls hz hP hS hl) (fun z => kf z q H locs ls hz hP hS hl)
theorem B_if_ne {t : Nat} {off : Int} {x : Int32} {β : Type} {A B : Option β} {o : β} (C : Cx κ G cc own nL) (d : bk cc pc n t (.ifCond .ne off) off) (kt : A = some o → V κ G Q E σ ks t lv st) (kf : B = some o → V κ G Q E σ ks n lv st) : (if ¬ x = 0 then A else B) = some o → V κ G Q E σ ks pc lv (.int x :: st) :=
  R_if_ne C d (fun z h => kt (by rw [if_pos z] at h; exact h)) (fun z h => kf (by rw [if_neg (by simpa using z)] at h; exact h))
theorem R_icmp_ne {t : Nat} {off : Int} {x y : Int32} (C : Cx κ G cc own nL) (d : bk cc pc n t (.if_icmp .ne off) off) (kt : ¬ x = y → P → V κ G Q E σ ks t lv st) (kf : x = y → P → V κ G Q E σ ks n lv st) : P → V κ G Q E σ ks pc lv (.int y :: .int x :: st) := by
  obtain ⟨p, l, e, R, s, m, args, below, meth, c⟩ := κ
  obtain ⟨hx, hb, hml, hown, hlk, hK, hT, hZ, hG⟩ := C
  obtain ⟨d, rfl, ht⟩ := d
  intro q H locs ls hz hP hS hl
  exact lv_icmp_ne hx hb d ht (fun z => kt z q H locs ls hz hP hS hl) (fun z => kf z q H locs ls hz hP hS hl)
theorem B_icmp_ne {t : Nat} {off : Int} {x y : Int32} {β : Type} {A B : Option β} {o : β} (C : Cx κ G cc own nL) (d : bk cc pc n t (.if_icmp .ne off) off) (kt : A = some o → V κ G Q E σ ks t lv st) (kf : B = some o → V κ G Q E σ ks n lv st) : (if ¬ x = y then A else B) = some o → V κ G Q E σ ks pc lv (.int y :: .int x :: st) :=
  R_icmp_ne C d (fun z h => kt (by rw [if_pos z] at h; exact h)) (fun z h => kf (by rw [if_neg (by simpa using z)] at h; exact h))
theorem R_if_lt {t : Nat} {off : Int} {x : Int32} (C : Cx κ G cc own nL) (d : bk cc pc n t (.ifCond .lt off) off) (kt : x < 0 → P → V κ G Q E σ ks t lv st) (kf : ¬ x < 0 → P → V κ G Q E σ ks n lv st) : P → V κ G Q E σ ks pc lv (.int x :: st) := by
  obtain ⟨p, l, e, R, s, m, args, below, meth, c⟩ := κ
  obtain ⟨hx, hb, hml, hown, hlk, hK, hT, hZ, hG⟩ := C
  obtain ⟨d, rfl, ht⟩ := d
  intro q H locs ls hz hP hS hl
  exact lv_if_lt hx hb d ht (fun z => kt z q H locs ls hz hP hS hl) (fun z => kf z q H locs ls hz hP hS hl)
theorem B_if_lt {t : Nat} {off : Int} {x : Int32} {β : Type} {A B : Option β} {o : β} (C : Cx κ G cc own nL) (d : bk cc pc n t (.ifCond .lt off) off) (kt : A = some o → V κ G Q E σ ks t lv st) (kf : B = some o → V κ G Q E σ ks n lv st) : (if x < 0 then A else B) = some o → V κ G Q E σ ks pc lv (.int x :: st) :=
  R_if_lt C d (fun z h => kt (by rw [if_pos z] at h; exact h)) (fun z h => kf (by rw [if_neg (by simpa using z)] at h; exact h))
theorem R_icmp_lt {t : Nat} {off : Int} {x y : Int32} (C : Cx κ G cc own nL) (d : bk cc pc n t (.if_icmp .lt off) off) (kt : x < y → P → V κ G Q E σ ks t lv st) (kf : ¬ x < y → P → V κ G Q E σ ks n lv st) : P → V κ G Q E σ ks pc lv (.int y :: .int x :: st) := by
  obtain ⟨p, l, e, R, s, m, args, below, meth, c⟩ := κ
  obtain ⟨hx, hb, hml, hown, hlk, hK, hT, hZ, hG⟩ := C
  obtain ⟨d, rfl, ht⟩ := d
  intro q H locs ls hz hP hS hl
  exact lv_icmp_lt hx hb d ht (fun z => kt z q H locs ls hz hP hS hl) (fun z => kf z q H locs ls hz hP hS hl)
theorem B_icmp_lt {t : Nat} {off : Int} {x y : Int32} {β : Type} {A B : Option β} {o : β} (C : Cx κ G cc own nL) (d : bk cc pc n t (.if_icmp .lt off) off) (kt : A = some o → V κ G Q E σ ks t lv st) (kf : B = some o → V κ G Q E σ ks n lv st) : (if x < y then A else B) = some o → V κ G Q E σ ks pc lv (.int y :: .int x :: st) :=
  R_icmp_lt C d (fun z h => kt (by rw [if_pos z] at h; exact h)) (fun z h => kf (by rw [if_neg (by simpa using z)] at h; exact h))
theorem R_if_ge {t : Nat} {off : Int} {x : Int32} (C : Cx κ G cc own nL) (d : bk cc pc n t (.ifCond .ge off) off) (kt : 0 ≤ x → P → V κ G Q E σ ks t lv st) (kf : ¬ 0 ≤ x → P → V κ G Q E σ ks n lv st) : P → V κ G Q E σ ks pc lv (.int x :: st) := by
  obtain ⟨p, l, e, R, s, m, args, below, meth, c⟩ := κ
  obtain ⟨hx, hb, hml, hown, hlk, hK, hT, hZ, hG⟩ := C
  obtain ⟨d, rfl, ht⟩ := d
  intro q H locs ls hz hP hS hl
  exact lv_if_ge hx hb d ht (fun z => kt z q H locs ls hz hP hS hl) (fun z => kf z q H locs ls hz hP hS hl)
theorem B_if_ge {t : Nat} {off : Int} {x : Int32} {β : Type} {A B : Option β} {o : β} (C : Cx κ G cc own nL) (d : bk cc pc n t (.ifCond .ge off) off) (kt : A = some o → V κ G Q E σ ks t lv st) (kf : B = some o → V κ G Q E σ ks n lv st) : (if 0 ≤ x then A else B) = some o → V κ G Q E σ ks pc lv (.int x :: st) :=
  R_if_ge C d (fun z h => kt (by rw [if_pos z] at h; exact h)) (fun z h => kf (by rw [if_neg (by simpa using z)] at h; exact h))
theorem R_icmp_ge {t : Nat} {off : Int} {x y : Int32} (C : Cx κ G cc own nL) (d : bk cc pc n t (.if_icmp .ge off) off) (kt : y ≤ x → P → V κ G Q E σ ks t lv st) (kf : ¬ y ≤ x → P → V κ G Q E σ ks n lv st) : P → V κ G Q E σ ks pc lv (.int y :: .int x :: st) := by
  obtain ⟨p, l, e, R, s, m, args, below, meth, c⟩ := κ
  obtain ⟨hx, hb, hml, hown, hlk, hK, hT, hZ, hG⟩ := C
  obtain ⟨d, rfl, ht⟩ := d
  intro q H locs ls hz hP hS hl
  exact lv_icmp_ge hx hb d ht (fun z => kt z q H locs ls hz hP hS hl) (fun z => kf z q H locs ls hz hP hS hl)
theorem B_icmp_ge {t : Nat} {off : Int} {x y : Int32} {β : Type} {A B : Option β} {o : β} (C : Cx κ G cc own nL) (d : bk cc pc n t (.if_icmp .ge off) off) (kt : A = some o → V κ G Q E σ ks t lv st) (kf : B = some o → V κ G Q E σ ks n lv st) : (if y ≤ x then A else B) = some o → V κ G Q E σ ks pc lv (.int y :: .int x :: st) :=
  R_icmp_ge C d (fun z h => kt (by rw [if_pos z] at h; exact h)) (fun z h => kf (by rw [if_neg (by simpa using z)] at h; exact h))
theorem R_if_gt {t : Nat} {off : Int} {x : Int32} (C : Cx κ G cc own nL) (d : bk cc pc n t (.ifCond .gt off) off) (kt : 0 < x → P → V κ G Q E σ ks t lv st) (kf : ¬ 0 < x → P → V κ G Q E σ ks n lv st) : P → V κ G Q E σ ks pc lv (.int x :: st) := by
  obtain ⟨p, l, e, R, s, m, args, below, meth, c⟩ := κ
  obtain ⟨hx, hb, hml, hown, hlk, hK, hT, hZ, hG⟩ := C
  obtain ⟨d, rfl, ht⟩ := d
  intro q H locs ls hz hP hS hl
  exact lv_if_gt hx hb d ht (fun z => kt z q H locs ls hz hP hS hl) (fun z => kf z q H locs ls hz hP hS hl)
theorem B_if_gt {t : Nat} {off : Int} {x : Int32} {β : Type} {A B : Option β} {o : β} (C : Cx κ G cc own nL) (d : bk cc pc n t (.ifCond .gt off) off) (kt : A = some o → V κ G Q E σ ks t lv st) (kf : B = some o → V κ G Q E σ ks n lv st) : (if 0 < x then A else B) = some o → V κ G Q E σ ks pc lv (.int x :: st) :=
  R_if_gt C d (fun z h => kt (by rw [if_pos z] at h; exact h)) (fun z h => kf (by rw [if_neg (by simpa using z)] at h; exact h))
theorem R_icmp_gt {t : Nat} {off : Int} {x y : Int32} (C : Cx κ G cc own nL) (d : bk cc pc n t (.if_icmp .gt off) off) (kt : y < x → P → V κ G Q E σ ks t lv st) (kf : ¬ y < x → P → V κ G Q E σ ks n lv st) : P → V κ G Q E σ ks pc lv (.int y :: .int x :: st) := by
  obtain ⟨p, l, e, R, s, m, args, below, meth, c⟩ := κ
  obtain ⟨hx, hb, hml, hown, hlk, hK, hT, hZ, hG⟩ := C
  obtain ⟨d, rfl, ht⟩ := d
  intro q H locs ls hz hP hS hl
  exact lv_icmp_gt hx hb d ht (fun z => kt z q H locs ls hz hP hS hl) (fun z => kf z q H locs ls hz hP hS hl)
theorem B_icmp_gt {t : Nat} {off : Int} {x y : Int32} {β : Type} {A B : Option β} {o : β} (C : Cx κ G cc own nL) (d : bk cc pc n t (.if_icmp .gt off) off) (kt : A = some o → V κ G Q E σ ks t lv st) (kf : B = some o → V κ G Q E σ ks n lv st) : (if y < x then A else B) = some o → V κ G Q E σ ks pc lv (.int y :: .int x :: st) :=
  R_icmp_gt C d (fun z h => kt (by rw [if_pos z] at h; exact h)) (fun z h => kf (by rw [if_neg (by simpa using z)] at h; exact h))
theorem R_if_le {t : Nat} {off : Int} {x : Int32} (C : Cx κ G cc own nL) (d : bk cc pc n t (.ifCond .le off) off) (kt : x ≤ 0 → P → V κ G Q E σ ks t lv st) (kf : ¬ x ≤ 0 → P → V κ G Q E σ ks n lv st) : P → V κ G Q E σ ks pc lv (.int x :: st) := by
  obtain ⟨p, l, e, R, s, m, args, below, meth, c⟩ := κ
  obtain ⟨hx, hb, hml, hown, hlk, hK, hT, hZ, hG⟩ := C
  obtain ⟨d, rfl, ht⟩ := d
  intro q H locs ls hz hP hS hl
  exact lv_if_le hx hb d ht (fun z => kt z q H locs ls hz hP hS hl) (fun z => kf z q H locs ls hz hP hS hl)
theorem B_if_le {t : Nat} {off : Int} {x : Int32} {β : Type} {A B : Option β} {o : β} (C : Cx κ G cc own nL) (d : bk cc pc n t (.ifCond .le off) off) (kt : A = some o → V κ G Q E σ ks t lv st) (kf : B = some o → V κ G Q E σ ks n lv st) : (if x ≤ 0 then A else B) = some o → V κ G Q E σ ks pc lv (.int x :: st) :=
  R_if_le C d (fun z h => kt (by rw [if_pos z] at h; exact h)) (fun z h => kf (by rw [if_neg (by simpa using z)] at h; exact h))
theorem R_icmp_le {t : Nat} {off : Int} {x y : Int32} (C : Cx κ G cc own nL) (d : bk cc pc n t (.if_icmp .le off) off) (kt : x ≤ y → P → V κ G Q E σ ks t lv st) (kf : ¬ x ≤ y → P → V κ G Q E σ ks n lv st) : P → V κ G Q E σ ks pc lv (.int y :: .int x :: st) := by
  obtain ⟨p, l, e, R, s, m, args, below, meth, c⟩ := κ
  obtain ⟨hx, hb, hml, hown, hlk, hK, hT, hZ, hG⟩ := C
  obtain ⟨d, rfl, ht⟩ := d
  intro q H locs ls hz hP hS hl
  exact lv_icmp_le hx hb d ht (fun z => kt z q H locs ls hz hP hS hl) (fun z => kf z q H locs ls hz hP hS hl)
theorem B_icmp_le {t : Nat} {off : Int} {x y : Int32} {β : Type} {A B : Option β} {o : β} (C : Cx κ G cc own nL) (d : bk cc pc n t (.if_icmp .le off) off) (kt : A = some o → V κ G Q E σ ks t lv st) (kf : B = some o → V κ G Q E σ ks n lv st) : (if x ≤ y then A else B) = some o → V κ G Q E σ ks pc lv (.int y :: .int x :: st) :=
  R_icmp_le C d (fun z h => kt (by rw [if_pos z] at h; exact h)) (fun z h => kf (by rw [if_neg (by simpa using z)] at h; exact h))
theorem R_geti {idx ci f : Nat} {fin : Bool} {a : Nat} (C : Cx κ G cc own nL) (F : FL own idx ci f fin) (hf : isr (tyc ci f) = false) (ha : cd E a = ci) (d : dk cc pc n (.getfield idx) 3) (k : P → V κ G Q E σ ks n lv (.int (gi σ a f) :: st)) : P → V κ G Q E σ ks pc lv (.ref (G.1 + a) :: st) := by
  obtain ⟨p, l, e, R, s, m, args, below, meth, c⟩ := κ
  obtain ⟨hx, hb, hml, hown, hlk, hK, hT, hZ, hG⟩ := C
  obtain ⟨d, rfl⟩ := d
  obtain ⟨Cn, T, N, ⟨I1, I2, I3, I4, I5, I6, I7⟩, hk, hfi, hw⟩ := F
  intro q H locs ls hz hP hS hl
  have he := el_o (G := G) (σ := σ) ha I6
  have hv : (fvs G.1 E σ ci a)[f]? = some (.int (gi σ a f)) := by rw [fvs_at (by rw [I5]; exact hk)]; simp [fv, hf]
  rcases hw with hw | hw
  · exact va_get hx hb (tb_hts hT _) I2 hown hK hP a he I1 f hk (hT _ hw rfl _) (fun _ h => h) hv d (k q H locs ls hz hP hS hl)
  · exact va_getN hx hb (tb_hts hT _) I2 hown hK hP a he I1 f hk (hT _ hw rfl _) (fun _ h => h) hv d (k q H locs ls hz hP hS hl)
theorem R_getr {idx ci f : Nat} {fin : Bool} {a x : Nat} (C : Cx κ G cc own nL) (F : FL own idx ci f fin) (hf : isr (tyc ci f) = true) (ha : cd E a = ci) (hr : rf E a f = some x) (d : dk cc pc n (.getfield idx) 3) (k : P → V κ G Q E σ ks n lv (.ref (G.1 + x) :: st)) : P → V κ G Q E σ ks pc lv (.ref (G.1 + a) :: st) := by
  obtain ⟨p, l, e, R, s, m, args, below, meth, c⟩ := κ
  obtain ⟨hx, hb, hml, hown, hlk, hK, hT, hZ, hG⟩ := C
  obtain ⟨d, rfl⟩ := d
  obtain ⟨Cn, T, N, ⟨I1, I2, I3, I4, I5, I6, I7⟩, hk, hfi, hw⟩ := F
  intro q H locs ls hz hP hS hl
  have he := el_o (G := G) (σ := σ) ha I6
  have hv : (fvs G.1 E σ ci a)[f]? = some (.ref (G.1 + x)) := by rw [fvs_at (by rw [I5]; exact hk)]; simp [fv, hf, hr, va_rf]
  rcases hw with hw | hw
  · exact va_get hx hb (tb_hts hT _) I2 hown hK hP a he I1 f hk (hT _ hw rfl _) (fun _ h => h) hv d (k q H locs ls hz hP hS hl)
  · exact va_getN hx hb (tb_hts hT _) I2 hown hK hP a he I1 f hk (hT _ hw rfl _) (fun _ h => h) hv d (k q H locs ls hz hP hS hl)
theorem R_puti {idx ci f : Nat} {a : Nat} {v : Int32} (C : Cx κ G cc own nL) (F : FL own idx ci f false) (hf : isr (tyc ci f) = false) (ha : cd E a = ci) (hn : narrow (tyc ci f) (.int v) = .int v) (hft : fits (tyc ci f) (.int v) = true) (d : dk cc pc n (.putfield idx) 3) (k : P → V κ G Q E (si σ a f v) (false, u) n lv st) : P → V κ G Q E σ (false, u) pc lv (.int v :: .ref (G.1 + a) :: st) := by
  obtain ⟨p, l, e, R, s, m, args, below, meth, c⟩ := κ
  obtain ⟨hx, hb, hml, hown, hlk, hK, hT, hZ, hG⟩ := C
  obtain ⟨d, rfl⟩ := d
  obtain ⟨Cn, T, N, ⟨I1, I2, I3, I4, I5, I6, I7⟩, hk, hfi, hw⟩ := F
  intro q H locs ls hz hP hS hl
  have he := el_o (G := G) (σ := σ) ha I6
  have hd := I3 f hk
  rcases hw with hw | hw
  · refine va_put hx hb (tb_hts hT _) I2 (tyc ci) I3 I4 hown hK hP ws_D hS a he I1 f hk (hT _ hw rfl _) (fun _ h => h) hfi hd hn hft (by rw [fvs_len, I5]; exact hk) d (fun H1 locs1 hP1 hD1 hS1 => ?_)
    rw [ws_put ha I6 hf] at hP1
    exact k q H1 locs1 ls (fun h => by cases h) hP1 hS1 hl
  · refine va_putN hx hb (tb_hts hT _) I2 (tyc ci) I3 I4 hown hK hP ws_D hS a he I1 f hk (hT _ hw rfl _) (fun _ h => h) hfi hd hn hft (by rw [fvs_len, I5]; exact hk) d (fun H1 locs1 hP1 hD1 hS1 => ?_)
    rw [ws_put ha I6 hf] at hP1
    exact k q H1 locs1 ls (fun h => by cases h) hP1 hS1 hl
theorem R_iald {a : Nat} {i : Int32} (C : Cx κ G cc own nL) (ha : cd E a = 100) (hi : vp_in i (ln E a)) (d : dk cc pc n .iaload 1) (k : P → V κ G Q E σ ks n lv (.int (gi σ a i.toNatClampNeg) :: st)) : P → V κ G Q E σ ks pc lv (.int i :: .ref (G.1 + a) :: st) := by
  obtain ⟨p, l, e, R, s, m, args, below, meth, c⟩ := κ
  obtain ⟨hx, hb, hml, hown, hlk, hK, hT, hZ, hG⟩ := C
  obtain ⟨d, rfl⟩ := d
  intro q H locs ls hz hP hS hl
  exact va_iald hx hb hK hP a 0 (el_a (G := G) (σ := σ) ha (by omega) (by omega)) rfl hi d (k q H locs ls hz hP hS hl)
theorem R_zald {a : Nat} {i : Int32} (C : Cx κ G cc own nL) (ha : cd E a = 101) (hi : vp_in i (ln E a)) (d : dk cc pc n .baload 1) (k : P → V κ G Q E σ ks n lv (.int (gi σ a i.toNatClampNeg) :: st)) : P → V κ G Q E σ ks pc lv (.int i :: .ref (G.1 + a) :: st) := by
  obtain ⟨p, l, e, R, s, m, args, below, meth, c⟩ := κ
  obtain ⟨hx, hb, hml, hown, hlk, hK, hT, hZ, hG⟩ := C
  obtain ⟨d, rfl⟩ := d
  intro q H locs ls hz hP hS hl
  exact va_zald hx hb hK hP a 1 (el_a (G := G) (σ := σ) ha (by omega) (by omega)) rfl hi d (k q H locs ls hz hP hS hl)
theorem R_bald {a : Nat} {i : Int32} (C : Cx κ G cc own nL) (ha : cd E a = 102) (hi : vp_in i (ln E a)) (d : dk cc pc n .baload 1) (k : P → V κ G Q E σ ks n lv (.int (gi σ a i.toNatClampNeg) :: st)) : P → V κ G Q E σ ks pc lv (.int i :: .ref (G.1 + a) :: st) := by
  obtain ⟨p, l, e, R, s, m, args, below, meth, c⟩ := κ
  obtain ⟨hx, hb, hml, hown, hlk, hK, hT, hZ, hG⟩ := C
  obtain ⟨d, rfl⟩ := d
  intro q H locs ls hz hP hS hl
  exact va_bald hx hb hK hP a 2 (el_a (G := G) (σ := σ) ha (by omega) (by omega)) rfl hi d (k q H locs ls hz hP hS hl)
theorem R_lald {a : Nat} {i : Int32} (C : Cx κ G cc own nL) (ha : cd E a = 103) (hi : vp_in i (ln E a)) (d : dk cc pc n .laload 1) (k : P → V κ G Q E σ ks n lv (.long (gl σ a i.toNatClampNeg) :: st)) : P → V κ G Q E σ ks pc lv (.int i :: .ref (G.1 + a) :: st) := by
  obtain ⟨p, l, e, R, s, m, args, below, meth, c⟩ := κ
  obtain ⟨hx, hb, hml, hown, hlk, hK, hT, hZ, hG⟩ := C
  obtain ⟨d, rfl⟩ := d
  intro q H locs ls hz hP hS hl
  exact va_lald hx hb hK hP a 3 (el_a (G := G) (σ := σ) ha (by omega) (by omega)) rfl hi d (k q H locs ls hz hP hS hl)
theorem R_aald4 {a x : Nat} {i : Int32} (C : Cx κ G cc own nL) (ha : cd E a = 104) (hi : vp_in i (ln E a)) (hr : rf E a i.toNatClampNeg = some x) (d : dk cc pc n .aaload 1) (k : P → V κ G Q E σ ks n lv (.ref (G.1 + x) :: st)) : P → V κ G Q E σ ks pc lv (.int i :: .ref (G.1 + a) :: st) := by
  obtain ⟨p, l, e, R, s, m, args, below, meth, c⟩ := κ
  obtain ⟨hx, hb, hml, hown, hlk, hK, hT, hZ, hG⟩ := C
  obtain ⟨d, rfl⟩ := d
  intro q H locs ls hz hP hS hl
  refine va_aldq hx hb hK hP a 4 (el_a (G := G) (σ := σ) ha (by omega) (by omega)) rfl hi d ?_
  simp only [hr, Option.map_some, va_rf]
  exact k q H locs ls hz hP hS hl
theorem R_aald5 {a x : Nat} {i : Int32} (C : Cx κ G cc own nL) (ha : cd E a = 105) (hi : vp_in i (ln E a)) (hr : rf E a i.toNatClampNeg = some x) (d : dk cc pc n .aaload 1) (k : P → V κ G Q E σ ks n lv (.ref (G.1 + x) :: st)) : P → V κ G Q E σ ks pc lv (.int i :: .ref (G.1 + a) :: st) := by
  obtain ⟨p, l, e, R, s, m, args, below, meth, c⟩ := κ
  obtain ⟨hx, hb, hml, hown, hlk, hK, hT, hZ, hG⟩ := C
  obtain ⟨d, rfl⟩ := d
  intro q H locs ls hz hP hS hl
  refine va_aldq hx hb hK hP a 5 (el_a (G := G) (σ := σ) ha (by omega) (by omega)) rfl hi d ?_
  simp only [hr, Option.map_some, va_rf]
  exact k q H locs ls hz hP hS hl
theorem R_iast {a : Nat} {i : Int32} {v : Int32} (C : Cx κ G cc own nL) (ha : cd E a = 100) (hi : vp_in i (ln E a)) (d : dk cc pc n .iastore 1) (k : P → V κ G Q E (si σ a i.toNatClampNeg v) (false, u) n lv st) : P → V κ G Q E σ (false, u) pc lv (.int v :: .int i :: .ref (G.1 + a) :: st) := by
  obtain ⟨p, l, e, R, s, m, args, below, meth, c⟩ := κ
  obtain ⟨hx, hb, hml, hown, hlk, hK, hT, hZ, hG⟩ := C
  obtain ⟨d, rfl⟩ := d
  intro q H locs ls hz hP hS hl
  refine va_iast hx hb hK hP ws_D hS a 0 (el_a (G := G) (σ := σ) ha (by omega) (by omega)) rfl hi d (fun H1 locs1 hP1 hD1 hS1 => ?_)
  have e := ws_arr (G := G) (σ := σ) (σ' := si σ a i.toNatClampNeg v) ha (by omega) (by omega) (fun x hx => by simp [si, hx])
  have e2 : ars G.1 E (si σ a i.toNatClampNeg v) 100 a = .inl (upd (σ.1 a) i.toNatClampNeg v) := by simp [ars, si]
  rw [e2] at e
  rw [e] at hP1
  exact k q H1 locs1 ls (fun h => by cases h) hP1 hS1 hl
theorem R_zast {a : Nat} {i : Int32} {v : Int32} (C : Cx κ G cc own nL) (ha : cd E a = 101) (hi : vp_in i (ln E a)) (d : dk cc pc n .bastore 1) (k : P → V κ G Q E (si σ a i.toNatClampNeg (vp_nar .boolean v)) (false, u) n lv st) : P → V κ G Q E σ (false, u) pc lv (.int v :: .int i :: .ref (G.1 + a) :: st) := by
  obtain ⟨p, l, e, R, s, m, args, below, meth, c⟩ := κ
  obtain ⟨hx, hb, hml, hown, hlk, hK, hT, hZ, hG⟩ := C
  obtain ⟨d, rfl⟩ := d
  intro q H locs ls hz hP hS hl
  refine va_zast hx hb hK hP ws_D hS a 1 (el_a (G := G) (σ := σ) ha (by omega) (by omega)) rfl hi d (fun H1 locs1 hP1 hD1 hS1 => ?_)
  have e := ws_arr (G := G) (σ := σ) (σ' := si σ a i.toNatClampNeg (vp_nar .boolean v)) ha (by omega) (by omega) (fun x hx => by simp [si, hx])
  have e2 : ars G.1 E (si σ a i.toNatClampNeg (vp_nar .boolean v)) 101 a = .inl (upd (σ.1 a) i.toNatClampNeg (vp_nar .boolean v)) := by simp [ars, si]
  rw [e2] at e
  rw [e] at hP1
  exact k q H1 locs1 ls (fun h => by cases h) hP1 hS1 hl
theorem R_bast {a : Nat} {i : Int32} {v : Int32} (C : Cx κ G cc own nL) (ha : cd E a = 102) (hi : vp_in i (ln E a)) (d : dk cc pc n .bastore 1) (k : P → V κ G Q E (si σ a i.toNatClampNeg (vp_nar .byte v)) (false, u) n lv st) : P → V κ G Q E σ (false, u) pc lv (.int v :: .int i :: .ref (G.1 + a) :: st) := by
  obtain ⟨p, l, e, R, s, m, args, below, meth, c⟩ := κ
  obtain ⟨hx, hb, hml, hown, hlk, hK, hT, hZ, hG⟩ := C
  obtain ⟨d, rfl⟩ := d
  intro q H locs ls hz hP hS hl
  refine va_bast hx hb hK hP ws_D hS a 2 (el_a (G := G) (σ := σ) ha (by omega) (by omega)) rfl hi d (fun H1 locs1 hP1 hD1 hS1 => ?_)
  have e := ws_arr (G := G) (σ := σ) (σ' := si σ a i.toNatClampNeg (vp_nar .byte v)) ha (by omega) (by omega) (fun x hx => by simp [si, hx])
  have e2 : ars G.1 E (si σ a i.toNatClampNeg (vp_nar .byte v)) 102 a = .inl (upd (σ.1 a) i.toNatClampNeg (vp_nar .byte v)) := by simp [ars, si]
  rw [e2] at e
  rw [e] at hP1
  exact k q H1 locs1 ls (fun h => by cases h) hP1 hS1 hl
theorem R_last {a : Nat} {i : Int32} {v : Int64} (C : Cx κ G cc own nL) (ha : cd E a = 103) (hi : vp_in i (ln E a)) (d : dk cc pc n .lastore 1) (k : P → V κ G Q E (sl σ a i.toNatClampNeg v) (false, u) n lv st) : P → V κ G Q E σ (false, u) pc lv (.long v :: .int i :: .ref (G.1 + a) :: st) := by
  obtain ⟨p, l, e, R, s, m, args, below, meth, c⟩ := κ
  obtain ⟨hx, hb, hml, hown, hlk, hK, hT, hZ, hG⟩ := C
  obtain ⟨d, rfl⟩ := d
  intro q H locs ls hz hP hS hl
  refine va_last hx hb hK hP ws_D hS a 3 (el_a (G := G) (σ := σ) ha (by omega) (by omega)) rfl hi d (fun H1 locs1 hP1 hD1 hS1 => ?_)
  have e := ws_arr (G := G) (σ := σ) (σ' := sl σ a i.toNatClampNeg v) ha (by omega) (by omega) (fun x hx => by simp [sl, hx])
  have e2 : ars G.1 E (sl σ a i.toNatClampNeg v) 103 a = .inr (.inl (vp_updL (σ.2 a) i.toNatClampNeg v)) := by simp [ars, sl]
  rw [e2] at e
  rw [e] at hP1
  exact k q H1 locs1 ls (fun h => by cases h) hP1 hS1 hl
theorem R_alen {a c2 : Nat} (C : Cx κ G cc own nL) (ha : cd E a = c2) (hc : 100 ≤ c2) (hc2 : c2 < 106) (d : dk cc pc n .arraylength 1) (k : P → V κ G Q E σ ks n lv (.int (nI (ln E a)) :: st)) : P → V κ G Q E σ ks pc lv (.ref (G.1 + a) :: st) := by
  obtain ⟨p, l, e, R, s, m, args, below, meth, c⟩ := κ
  obtain ⟨hx, hb, hml, hown, hlk, hK, hT, hZ, hG⟩ := C
  obtain ⟨d, rfl⟩ := d
  intro q H locs ls hz hP hS hl
  have hh := el_a (G := G) (σ := σ) ha (by omega) (by omega)
  have ht : ∃ (t0 : Nat) (ty : FieldType), (tyL G.2.2.2.1)[t0]? = some (G.2.2.2.1 (c2 - 100), ty) := by
    rcases (show c2 = 100 ∨ c2 = 101 ∨ c2 = 102 ∨ c2 = 103 ∨ c2 = 104 ∨ c2 = 105 by omega) with rfl | rfl | rfl | rfl | rfl | rfl
    · exact ⟨0, _, rfl⟩
    · exact ⟨1, _, rfl⟩
    · exact ⟨2, _, rfl⟩
    · exact ⟨3, _, rfl⟩
    · exact ⟨4, _, rfl⟩
    · exact ⟨5, _, rfl⟩
  obtain ⟨t0, ty, ht⟩ := ht
  exact va_alen hx hb hK hP a t0 hh ht rfl d (k q H locs ls hz hP hS hl)
theorem R_acopy {idx a b : Nat} {sp dp m0 : Int32} (C : Cx κ G cc own nL) (hw : Cond.methodLink own idx arraycopyName ∈ lw_tbl) (ha : cd E a = 100) (hb2 : cd E b = 100) (hh : (0 ≤ sp ∧ 0 ≤ dp ∧ 0 ≤ m0) ∧ sp.toNatClampNeg + m0.toNatClampNeg ≤ ln E a ∧ dp.toNatClampNeg + m0.toNatClampNeg ≤ ln E b) (hR : 1 ≤ (kR κ).frames ∧ (st.map fun v => v.category).sum + (nativeFrameWords "java/lang/System" "arraycopy" 5 + 11) ≤ (kR κ).locals) (d : dk cc pc n (.invokestatic idx) 3) (k : P → V κ G Q E (sc σ a b sp.toNatClampNeg dp.toNatClampNeg m0.toNatClampNeg) (false, u) n lv st) : P → V κ G Q E σ (false, u) pc lv (.int m0 :: .int dp :: .ref (G.1 + b) :: .int sp :: .ref (G.1 + a) :: st) := by
  obtain ⟨p, l, e, R, s, m, args, below, meth, c⟩ := κ
  obtain ⟨hx, hb, hml, hown, hlk, hK, hT, hZ, hG⟩ := C
  obtain ⟨d, rfl⟩ := d
  obtain ⟨⟨h1, h2, h3⟩, h4, h5⟩ := hh
  intro q H locs ls hz hP hS hl
  refine va_copyi hx hb hl.1.symm hown (hT _ hw rfl _) (hT _ (by decide +kernel) rfl _) (hT _ (by decide +kernel) rfl _) (hT _ (by decide +kernel) rfl _) hK hP ws_D hS a b 0 0 (el_a (G := G) (σ := σ) ha (by omega) (by omega)) (el_a (G := G) (σ := σ) hb2 (by omega) (by omega)) rfl rfl rfl (Int32.not_lt.mpr h1) (Int32.not_lt.mpr h2) (Int32.not_lt.mpr h3) h4 h5 (fun _ _ => rfl) hR.1 hR.2 d (fun H1 locs1 hP1 hD1 hS1 => ?_)
  have e := ws_arr (G := G) (σ := σ) (σ' := sc σ a b sp.toNatClampNeg dp.toNatClampNeg m0.toNatClampNeg) hb2 (by omega) (by omega) (fun x hx => by simp [sc, hx])
  have e2 : ars G.1 E (sc σ a b sp.toNatClampNeg dp.toNatClampNeg m0.toNatClampNeg) 100 b = .inl (va_cpy (σ.1 a) (σ.1 b) sp.toNatClampNeg dp.toNatClampNeg m0.toNatClampNeg) := by simp [ars, sc]
  rw [e2] at e
  rw [e] at hP1
  exact k q H1 locs1 ls (fun h => by cases h) hP1 hS1 hl
theorem R_mmax {idx : Nat} {x y : Int32} (C : Cx κ G cc own nL) (hw : Cond.methodLink own idx Lib.Math.max.name ∈ lw_tbl) (hR : 1 ≤ (kR κ).frames ∧ (st.map fun v => v.category).sum + 13 ≤ (kR κ).locals ∧ ks.2.1 ≤ (kR κ).cells ∧ ks.2.2 ≤ (kR κ).slots) (d : dk cc pc n (.invokestatic idx) 3) (k : P → V κ G Q E σ ks n lv (.int (imax x y) :: st)) : P → V κ G Q E σ ks pc lv (.int y :: .int x :: st) := by
  obtain ⟨p, l, e, R, s, m, args, below, meth, c⟩ := κ
  obtain ⟨hx, hb, hml, hown, hlk, hK, hT, hZ, hG⟩ := C
  obtain ⟨d, rfl⟩ := d
  intro q H locs ls hz hP hS hl
  exact va_mmax hx hb hl.1.symm hown (hT _ hw rfl _) (hT _ (by decide +kernel) rfl _) (hT _ (by decide +kernel) rfl _) (hT _ (by decide +kernel) rfl _) hR.1 hR.2.1 hR.2.2.1 hR.2.2.2 d (k q H locs ls hz hP hS hl)
theorem R_mmin {idx : Nat} {x y : Int32} (C : Cx κ G cc own nL) (hw : Cond.methodLink own idx Lib.Math.min.name ∈ lw_tbl) (hR : 1 ≤ (kR κ).frames ∧ (st.map fun v => v.category).sum + 13 ≤ (kR κ).locals ∧ ks.2.1 ≤ (kR κ).cells ∧ ks.2.2 ≤ (kR κ).slots) (d : dk cc pc n (.invokestatic idx) 3) (k : P → V κ G Q E σ ks n lv (.int (imin x y) :: st)) : P → V κ G Q E σ ks pc lv (.int y :: .int x :: st) := by
  obtain ⟨p, l, e, R, s, m, args, below, meth, c⟩ := κ
  obtain ⟨hx, hb, hml, hown, hlk, hK, hT, hZ, hG⟩ := C
  obtain ⟨d, rfl⟩ := d
  intro q H locs ls hz hP hS hl
  exact va_mmin hx hb hl.1.symm hown (hT _ hw rfl _) (hT _ (by decide +kernel) rfl _) (hT _ (by decide +kernel) rfl _) (hT _ (by decide +kernel) rfl _) hR.1 hR.2.1 hR.2.2.1 hR.2.2.2 d (k q H locs ls hz hP hS hl)
theorem stt_moved {s U : State} {H : Heap} {locs : List Loc} (h : Stt G s s.heap) (hvm : s.vm.Alike U.vm) (hS : va_S (GA G) s.heap H locs) : Stt G U H := fun j hj => ⟨((h j hj).1.moved hvm).kept hS.2.1, ((h j hj).2.moved hvm).kept hS.2.1⟩
theorem rep_of {s U : State} {H : Heap} {locs : List Loc} (hG : G.1 ≤ s.heap.size) (hK : va_K (GD G) vwCl (tyL G.2.2.2.1) s) (hT : TbAll s) (hZ : Stt G s s.heap) (hP : va_P (GD G) vwCl (wsOf G E σ) H) (hS : va_S (GA G) s.heap H locs) (hU : U.heap = H) (hW : s.WarmedH U.vm) : RepS G E σ U :=
  ⟨by rw [hU]; exact Nat.le_trans hG hS.1, by rw [hU]; exact hP, va_K.moved hW.alike hK, tb_warm hT hW, by rw [hU]; exact stt_moved hZ hW.alike hS⟩
theorem R_iret {σ1 : Sg} {r r1 : Int32} (C : Cx κ G cc own nL) (hr : (kT κ).sig.returnType = some .int) (d : dk cc pc n .ireturn 1) : some (r, σ) = some (r1, σ1) → V κ G (MQ (kB κ) (QC G E (some (.int r1)) σ1) (kA κ) (kS κ) ks.2.1 ks.2.2 (GA G)) E σ ks pc lv [.int r] := by
  obtain ⟨p, l, e, R, s, m, args, below, meth, c⟩ := κ
  obtain ⟨hx, hb, hml, hown, hlk, hK, hT, hZ, hG⟩ := C
  obtain ⟨d, -⟩ := d
  intro q
  cases q
  intro H locs ls hz hP hS hl
  exact W.iret hx hb hr (fun t ht hW => ⟨rfl, rep_of hG hK hT hZ hP hS ht hW, hS.F ht⟩) hS.2.2 d hlk
theorem R_zret {σ1 : Sg} {r r1 : Int32} (C : Cx κ G cc own nL) (hr : (kT κ).sig.returnType = some .boolean) (hb0 : r = 0 ∨ r = 1) (d : dk cc pc n .ireturn 1) : some (r, σ) = some (r1, σ1) → V κ G (MQ (kB κ) (QC G E (some (.int r1)) σ1) (kA κ) (kS κ) ks.2.1 ks.2.2 (GA G)) E σ ks pc lv [.int r] := by
  obtain ⟨p, l, e, R, s, m, args, below, meth, c⟩ := κ
  obtain ⟨hx, hb, hml, hown, hlk, hK, hT, hZ, hG⟩ := C
  obtain ⟨d, -⟩ := d
  intro q
  cases q
  intro H locs ls hz hP hS hl
  exact W.zret hx hb hr (by rcases hb0 with rfl | rfl <;> rfl) (fun t ht hW => ⟨rfl, rep_of hG hK hT hZ hP hS ht hW, hS.F ht⟩) hS.2.2 d hlk
theorem R_lret {σ1 : Sg} {r r1 : Int64} (C : Cx κ G cc own nL) (hr : (kT κ).sig.returnType = some .long) (d : dk cc pc n .lreturn 1) : some (r, σ) = some (r1, σ1) → V κ G (MQ (kB κ) (QC G E (some (.long r1)) σ1) (kA κ) (kS κ) ks.2.1 ks.2.2 (GA G)) E σ ks pc lv [.long r] := by
  obtain ⟨p, l, e, R, s, m, args, below, meth, c⟩ := κ
  obtain ⟨hx, hb, hml, hown, hlk, hK, hT, hZ, hG⟩ := C
  obtain ⟨d, -⟩ := d
  intro q
  cases q
  intro H locs ls hz hP hS hl
  exact W.lret hx hb hr (fun t ht hW => ⟨rfl, rep_of hG hK hT hZ hP hS ht hW, hS.F ht⟩) hS.2.2 d hlk
theorem R_vret {σ1 : Sg} (C : Cx κ G cc own nL) (hr : (kT κ).sig.returnType = none) (d : dk cc pc n .return_ 1) : some σ = some σ1 → V κ G (MQ (kB κ) (QC G E none σ1) (kA κ) (kS κ) ks.2.1 ks.2.2 (GA G)) E σ ks pc lv [] := by
  obtain ⟨p, l, e, R, s, m, args, below, meth, c⟩ := κ
  obtain ⟨hx, hb, hml, hown, hlk, hK, hT, hZ, hG⟩ := C
  obtain ⟨d, -⟩ := d
  intro q
  cases q
  intro H locs ls hz hP hS hl
  exact W.vret hx hb hr (fun t ht hW => ⟨rfl, rep_of hG hK hT hZ hP hS ht hW, hS.F ht⟩) hS.2.2 d hlk
theorem rep_blind {av : List Value} : FrameBlind (va_Pc av (RepS G E σ)) := by
  intro a U g mk h
  obtain ⟨h1, h0, h2, h3, h4, h5⟩ := h
  exact ⟨h1, h0, h2, va_K.moved (u := U) (U := U.calling g mk a) (Vm.Alike.refl U.vm) h3, tb_warm (s := U) (U := U.calling g mk a) h4 (State.WarmedH.refl U), fun j hj => ⟨(h5 j hj).1.moved (Vm.Alike.refl U.vm), (h5 j hj).2.moved (Vm.Alike.refl U.vm)⟩⟩
theorem V_run {rv : Option Value} {σ1 : Sg} {rest : List Value} (hG : G.1 ≤ (kS κ).heap.size) (hx : (kP κ).tables.exec = Jvm.exec)
    (run : ∀ (H : Heap) (locs : List Loc) (ls : Array Slot), va_P (GD G) vwCl (wsOf G E σ) H → va_S (GA G) (kS κ).heap H locs → ls.size = (kC κ).maxLocals → ∃ a0 : Array Value, va_Run (kP κ) (kL κ) (kE κ) (kR κ) (kS κ) (kM κ) (kA κ) (kB κ) (kT κ) (kC κ) H locs u.1 u.2 0 0 (F0 (kM κ) pc ls st) rest (QC G E rv σ1 a0) (GA G))
    (hn : n = pc + 3) (k : V κ G Q E σ1 (false, u) n lv (rv.toList ++ rest)) : V κ G Q E σ (false, u) pc lv st := by
  subst hn
  intro H locs ls hz hP hS hl T hT X
  obtain ⟨a0, hrun⟩ := run H locs ls hP hS hl.1
  obtain ⟨v, st0, t, T1, L, h0, X1, hL, e1, e2, ⟨hv, hrep, hF⟩, go⟩ := hrun T hT X
  cases hv
  have hP1 : va_P (GD G) vwCl (wsOf G E σ1) T1.heap := by rw [e1]; exact hrep.2.1
  have hS1 : va_S (GA G) (kS κ).heap T1.heap (locs ++ L) := by
    refine ⟨?_, fun q h1 h2 => ?_, fun q hq => ?_⟩
    · rw [e1]; exact Nat.le_trans hS.1 (by rw [← h0]; exact hF.1)
    · rw [e1, hF.2 q (by rw [h0]; exact Nat.lt_of_lt_of_le h1 hS.1) h2, h0]; exact hS.2.1 q h1 h2
    · rcases List.mem_append.mp hq with h | h
      · exact hS.2.2 q h
      · exact hL q h
  obtain ⟨t2, a1, b1⟩ := k T1.heap (locs ++ L) ls (fun h => by cases h) hP1 hS1 hl T1 rfl X1
  exact ⟨t2, go t2 a1, b1⟩
theorem mb_ws {y : MethodName} {bytes : ByteArray} {maxL n0 : Nat} {ret : Option FieldType} {s : State} (hT : TbAll s) (M : MB y bytes maxL ret n0) : ∀ w ∈ [Cond.code y bytes maxL ret], ∀ (a' : Array Value) (U : State), s.WarmedH U.vm → w.before a' U = true := by
  intro w hw a' U hW
  have e : w = Cond.code y bytes maxL ret := by simpa using hw
  subst e
  exact tb_warm hT hW _ M.2.1 rfl a'
theorem R_callV {idx ci a n0 maxL : Nat} {y : MethodName} {bytes : ByteArray} {ret : Option FieldType} {rm : Room} {rv : Option Value} {σ1 : Sg} (As rest : List Value) (C : Cx κ G cc own nL) (M : MV own idx ci y bytes maxL ret n0) (hM : CT (kL κ) y bytes maxL ret rm (.ref (G.1 + a) :: As) G E σ rv σ1) (hrm : rm.cells = 0 ∧ rm.slots = 0 ∧ rm.frames + 1 ≤ (kR κ).frames ∧ 8 + (maxL + 11) + rm.locals ≤ (kR κ).locals ∧ u.1 ≤ (kR κ).cells ∧ u.2 ≤ (kR κ).slots) (ha : cd E a = ci) (hn0 : As.length = n0) (hst : st = As.reverse ++ .ref (G.1 + a) :: rest) (hW : (rest.map fun v => v.category).sum ≤ 8) (d : dk cc pc n (.invokevirtual idx) 3) (k : P → V κ G Q E σ1 (false, u) n lv (rv.toList ++ rest)) : P → V κ G Q E σ (false, u) pc lv st := by
  obtain ⟨p, l, e, R, s, m, args, below, meth, c⟩ := κ
  obtain ⟨hx, hb, hml, hown, hlk, hK, hT, hZ, hG⟩ := C
  obtain ⟨d, rfl⟩ := d
  obtain ⟨M0, ⟨T, N, I1, I2, I3, I4, I5, I6, I7⟩, hins, hsel, hlink⟩ := M
  obtain ⟨r1, r2, r3, r4, r5, r6⟩ := hrm
  intro q
  refine V_run hG hx (fun H locs ls hP hS hsz => ⟨(Value.ref (G.1 + a) :: As).toArray, ?_⟩) rfl (k q)
  have he := el_o (G := G) (σ := σ) ha I6
  have hPre : PreV s H y.cls (G.1 + a) (va_Pc (.ref (G.1 + a) :: As) (RepS G E σ)) As := ⟨rep_blind, va_recv hK hP I1 he, fun U hU hW => ⟨rfl, rep_of hG hK hT hZ hP hS hU hW⟩⟩
  have hlen : ∀ sig, parseMethodDescriptor y.desc = some sig → n0 = sig.parameters.length := fun sig h => by
    have h2 := M0.2.2.2
    rw [h] at h2
    exact (Option.some.inj h2).symm
  rcases hlink with hlink | hlink
  · exact va_runV (Ts := lw_tbl.filter wk) (own := own) ⟨hx, hb, hml, hown, tb_hts hT _⟩ hM ⟨⟨r1, r2, r3, r4, mb_ws hT M0, List.mem_cons_self, hT _ M0.2.1 rfl _, hT _ M0.1 rfl _, M0.2.2.1, hlen, hT _ hlink rfl _⟩, hT _ hins rfl _, hT _ hsel rfl _⟩ hPre rfl hn0 (hsz.trans hml) hst (lv_room hW) d ⟨r5, r6⟩
  · exact va_runVN (Ts := lw_tbl.filter wk) (own := own) ⟨hx, hb, hml, hown, tb_hts hT _⟩ hM ⟨⟨⟨r1, r2, r3, r4, mb_ws hT M0, List.mem_cons_self⟩, hT _ M0.2.1 rfl _, hT _ M0.1 rfl _, M0.2.2.1, hlen, hT _ hlink rfl _⟩, hT _ hins rfl _, hT _ hsel rfl _⟩ hPre rfl hn0 (hsz.trans hml) hst (lv_room hW) d ⟨r5, r6⟩
theorem R_callS {idx n0 maxL : Nat} {y : MethodName} {bytes : ByteArray} {ret : Option FieldType} {rm : Room} {rv : Option Value} {σ1 : Sg} (As rest : List Value) (C : Cx κ G cc own nL) (M : MS own idx y bytes maxL ret n0) (hM : CT (kL κ) y bytes maxL ret rm As G E σ rv σ1) (hrm : rm.cells = 0 ∧ rm.slots = 0 ∧ rm.frames + 1 ≤ (kR κ).frames ∧ 8 + (maxL + 11) + rm.locals ≤ (kR κ).locals ∧ u.1 ≤ (kR κ).cells ∧ u.2 ≤ (kR κ).slots) (hn0 : As.length = n0) (hst : st = As.reverse ++ rest) (hW : (rest.map fun v => v.category).sum ≤ 8) (d : dk cc pc n (.invokestatic idx) 3) (k : P → V κ G Q E σ1 (false, u) n lv (rv.toList ++ rest)) : P → V κ G Q E σ (false, u) pc lv st := by
  obtain ⟨p, l, e, R, s, m, args, below, meth, c⟩ := κ
  obtain ⟨hx, hb, hml, hown, hlk, hK, hT, hZ, hG⟩ := C
  obtain ⟨d, rfl⟩ := d
  obtain ⟨M0, hsta, hlink⟩ := M
  obtain ⟨r1, r2, r3, r4, r5, r6⟩ := hrm
  intro q
  refine V_run hG hx (fun H locs ls hP hS hsz => ⟨As.toArray, ?_⟩) rfl (k q)
  have hPre : PreS s H (va_Pc As (RepS G E σ)) As := ⟨rep_blind, fun U hU hW => ⟨rfl, rep_of hG hK hT hZ hP hS hU hW⟩⟩
  have hlen : ∀ sig, parseMethodDescriptor y.desc = some sig → n0 = sig.parameters.length := fun sig h => by
    have h2 := M0.2.2.2
    rw [h] at h2
    exact (Option.some.inj h2).symm
  exact va_runS (Ts := lw_tbl.filter wk) (own := own) ⟨hx, hb, hml, hown, tb_hts hT _⟩ hM ⟨⟨r1, r2, r3, r4, mb_ws hT M0, List.mem_cons_self, hT _ M0.2.1 rfl _, hT _ M0.1 rfl _, M0.2.2.1, hlen, hT _ hlink rfl _⟩, hT _ hsta rfl _⟩ hPre rfl hn0 (hsz.trans hml) hst (lv_room hW) d ⟨r5, r6⟩
theorem CT_of {l : Launch} {y : MethodName} {maxL : Nat} {ret : Option FieldType} {rm : Room} {av : List Value} {rv : Option Value} {σ1 : Sg} (hy : plainName y.cls = true) (hl : (lg_sl av).length ≤ maxL) {lv0 : List (Nat × Value)} (hlv : lv_args 0 av = lv0)
    (body : ∀ κ : KT, kL κ = l → kR κ = rm → (kT κ).sig.returnType = ret → Cx κ G cc y.cls maxL → V κ G (MQ (kB κ) (QC G E rv σ1) (kA κ) (kS κ) 0 0 (GA G)) E σ (false, 0, 0) 0 lv0 []) : CT l y cc maxL ret rm av G E σ rv σ1 := by
  refine Met.ofW (cc := cc) (maxL := maxL) (ret := ret) hy rfl ?_
  intro p e s m args below meth c s₁ B hml hv
  obtain ⟨rfl, hle, hP, hK, hT, hZ⟩ := hv
  have hll := lv_entry av (n := maxL) hl
  rw [lg_entry_eq]
  have h := body (p, l, e, (headSpec [Cond.code y cc maxL ret] rm).room, s, m, av.toArray, below, meth, c) rfl rfl B.returns ⟨B.exec, B.bytes, hml, findClass_of_methodNamed B.named, B.notSynchronized, hK, hT, hZ, hle⟩
  rw [← hlv] at h
  exact h s.heap [] _ (fun h => by cases h) hP va_S.rf (by rw [hml]; exact hll)
end RW
end
section
theorem iw0 : ∀ w ∈ u_ws RX0 TX0 6, w ∈ lw_tbl.filter wk := by decide +kernel
theorem ci0 : CI 0 RX0 TX0 6 := ⟨rfl, iw0, tyX0_ok, nmX0, rfl, by omega, by decide +kernel⟩
theorem iw1 : ∀ w ∈ u_ws RX1 TX1 19, w ∈ lw_tbl.filter wk := by decide +kernel
theorem ci1 : CI 1 RX1 TX1 19 := ⟨rfl, iw1, tyX1_ok, nmX1, rfl, by omega, by decide +kernel⟩
theorem iw2 : ∀ w ∈ u_ws RX2 TX2 3, w ∈ lw_tbl.filter wk := by decide +kernel
theorem ci2 : CI 2 RX2 TX2 3 := ⟨rfl, iw2, tyX2_ok, nmX2, rfl, by omega, by decide +kernel⟩
theorem iw3 : ∀ w ∈ u_ws RX3 TX3 4, w ∈ lw_tbl.filter wk := by decide +kernel
theorem ci3 : CI 3 RX3 TX3 4 := ⟨rfl, iw3, tyX3_ok, nmX3, rfl, by omega, by decide +kernel⟩
theorem iw4 : ∀ w ∈ u_ws RX4 TX4 7, w ∈ lw_tbl.filter wk := by decide +kernel
theorem ci4 : CI 4 RX4 TX4 7 := ⟨rfl, iw4, tyX4_ok, nmX4, rfl, by omega, by decide +kernel⟩
theorem iw5 : ∀ w ∈ u_ws RX5 TX5 3, w ∈ lw_tbl.filter wk := by decide +kernel
theorem ci5 : CI 5 RX5 TX5 3 := ⟨rfl, iw5, tyX5_ok, nmX5, rfl, by omega, by decide +kernel⟩
theorem iw6 : ∀ w ∈ u_ws RX6 TX6 14, w ∈ lw_tbl.filter wk := by decide +kernel
theorem ci6 : CI 6 RX6 TX6 14 := ⟨rfl, iw6, tyX6_ok, nmX6, rfl, by omega, by decide +kernel⟩
theorem iw7 : ∀ w ∈ u_ws RX7 TX7 30, w ∈ lw_tbl.filter wk := by decide +kernel
theorem ci7 : CI 7 RX7 TX7 30 := ⟨rfl, iw7, tyX7_ok, nmX7, rfl, by omega, by decide +kernel⟩
theorem fl3_9 : FL RX3 9 3 0 true := ⟨_, _, _, ci3, by omega, rfl, Or.inl (List.mem_of_getElem? (i := 168) (by decide +kernel))⟩
theorem fl6_143 : FL RX6 143 3 0 true := ⟨_, _, _, ci3, by omega, rfl, Or.inr (List.mem_of_getElem? (i := 169) (by decide +kernel))⟩
theorem fl3_15 : FL RX3 15 3 1 true := ⟨_, _, _, ci3, by omega, rfl, Or.inl (List.mem_of_getElem? (i := 170) (by decide +kernel))⟩
theorem fl6_203 : FL RX6 203 3 1 true := ⟨_, _, _, ci3, by omega, rfl, Or.inr (List.mem_of_getElem? (i := 171) (by decide +kernel))⟩
theorem fl3_18 : FL RX3 18 3 2 false := ⟨_, _, _, ci3, by omega, rfl, Or.inl (List.mem_of_getElem? (i := 172) (by decide +kernel))⟩
theorem fl4_66 : FL RX4 66 3 2 false := ⟨_, _, _, ci3, by omega, rfl, Or.inr (List.mem_of_getElem? (i := 173) (by decide +kernel))⟩
theorem fl0_41 : FL RX0 41 3 2 false := ⟨_, _, _, ci3, by omega, rfl, Or.inr (List.mem_of_getElem? (i := 174) (by decide +kernel))⟩
theorem fl6_68 : FL RX6 68 3 2 false := ⟨_, _, _, ci3, by omega, rfl, Or.inr (List.mem_of_getElem? (i := 175) (by decide +kernel))⟩
theorem fl3_22 : FL RX3 22 3 3 false := ⟨_, _, _, ci3, by omega, rfl, Or.inl (List.mem_of_getElem? (i := 176) (by decide +kernel))⟩
theorem fl6_284 : FL RX6 284 3 3 false := ⟨_, _, _, ci3, by omega, rfl, Or.inr (List.mem_of_getElem? (i := 177) (by decide +kernel))⟩
theorem fl0_9 : FL RX0 9 0 0 true := ⟨_, _, _, ci0, by omega, rfl, Or.inl (List.mem_of_getElem? (i := 203) (by decide +kernel))⟩
theorem fl4_119 : FL RX4 119 0 0 true := ⟨_, _, _, ci0, by omega, rfl, Or.inr (List.mem_of_getElem? (i := 204) (by decide +kernel))⟩
theorem fl6_146 : FL RX6 146 0 0 true := ⟨_, _, _, ci0, by omega, rfl, Or.inr (List.mem_of_getElem? (i := 205) (by decide +kernel))⟩
theorem fl0_15 : FL RX0 15 0 1 true := ⟨_, _, _, ci0, by omega, rfl, Or.inl (List.mem_of_getElem? (i := 206) (by decide +kernel))⟩
theorem fl4_90 : FL RX4 90 0 1 true := ⟨_, _, _, ci0, by omega, rfl, Or.inr (List.mem_of_getElem? (i := 207) (by decide +kernel))⟩
theorem fl6_156 : FL RX6 156 0 1 true := ⟨_, _, _, ci0, by omega, rfl, Or.inr (List.mem_of_getElem? (i := 208) (by decide +kernel))⟩
theorem fl0_21 : FL RX0 21 0 2 false := ⟨_, _, _, ci0, by omega, rfl, Or.inl (List.mem_of_getElem? (i := 209) (by decide +kernel))⟩
theorem fl4_75 : FL RX4 75 0 2 false := ⟨_, _, _, ci0, by omega, rfl, Or.inr (List.mem_of_getElem? (i := 210) (by decide +kernel))⟩
theorem fl6_119 : FL RX6 119 0 2 false := ⟨_, _, _, ci0, by omega, rfl, Or.inr (List.mem_of_getElem? (i := 211) (by decide +kernel))⟩
theorem fl0_25 : FL RX0 25 0 3 false := ⟨_, _, _, ci0, by omega, rfl, Or.inl (List.mem_of_getElem? (i := 212) (by decide +kernel))⟩
theorem fl0_18 : FL RX0 18 0 4 true := ⟨_, _, _, ci0, by omega, rfl, Or.inl (List.mem_of_getElem? (i := 213) (by decide +kernel))⟩
theorem fl0_44 : FL RX0 44 0 5 false := ⟨_, _, _, ci0, by omega, rfl, Or.inl (List.mem_of_getElem? (i := 214) (by decide +kernel))⟩
theorem fl2_9 : FL RX2 9 2 0 true := ⟨_, _, _, ci2, by omega, rfl, Or.inl (List.mem_of_getElem? (i := 242) (by decide +kernel))⟩
theorem fl1_127 : FL RX1 127 2 0 true := ⟨_, _, _, ci2, by omega, rfl, Or.inr (List.mem_of_getElem? (i := 243) (by decide +kernel))⟩
theorem fl6_213 : FL RX6 213 2 0 true := ⟨_, _, _, ci2, by omega, rfl, Or.inr (List.mem_of_getElem? (i := 244) (by decide +kernel))⟩
theorem fl2_24 : FL RX2 24 2 1 false := ⟨_, _, _, ci2, by omega, rfl, Or.inl (List.mem_of_getElem? (i := 245) (by decide +kernel))⟩
theorem fl2_28 : FL RX2 28 2 2 false := ⟨_, _, _, ci2, by omega, rfl, Or.inl (List.mem_of_getElem? (i := 246) (by decide +kernel))⟩
theorem fl1_118 : FL RX1 118 2 2 false := ⟨_, _, _, ci2, by omega, rfl, Or.inr (List.mem_of_getElem? (i := 247) (by decide +kernel))⟩
theorem fl5_9 : FL RX5 9 5 0 true := ⟨_, _, _, ci5, by omega, rfl, Or.inl (List.mem_of_getElem? (i := 264) (by decide +kernel))⟩
theorem fl5_15 : FL RX5 15 5 1 false := ⟨_, _, _, ci5, by omega, rfl, Or.inl (List.mem_of_getElem? (i := 265) (by decide +kernel))⟩
theorem fl5_19 : FL RX5 19 5 2 false := ⟨_, _, _, ci5, by omega, rfl, Or.inl (List.mem_of_getElem? (i := 266) (by decide +kernel))⟩
theorem fl1_55 : FL RX1 55 1 0 false := ⟨_, _, _, ci1, by omega, rfl, Or.inl (List.mem_of_getElem? (i := 274) (by decide +kernel))⟩
theorem fl1_58 : FL RX1 58 1 1 false := ⟨_, _, _, ci1, by omega, rfl, Or.inl (List.mem_of_getElem? (i := 275) (by decide +kernel))⟩
theorem fl6_183 : FL RX6 183 1 1 false := ⟨_, _, _, ci1, by omega, rfl, Or.inr (List.mem_of_getElem? (i := 276) (by decide +kernel))⟩
theorem fl1_9 : FL RX1 9 1 2 false := ⟨_, _, _, ci1, by omega, rfl, Or.inl (List.mem_of_getElem? (i := 277) (by decide +kernel))⟩
theorem fl1_61 : FL RX1 61 1 3 false := ⟨_, _, _, ci1, by omega, rfl, Or.inl (List.mem_of_getElem? (i := 278) (by decide +kernel))⟩
theorem fl6_186 : FL RX6 186 1 3 false := ⟨_, _, _, ci1, by omega, rfl, Or.inr (List.mem_of_getElem? (i := 279) (by decide +kernel))⟩
theorem fl1_17 : FL RX1 17 1 4 true := ⟨_, _, _, ci1, by omega, rfl, Or.inl (List.mem_of_getElem? (i := 280) (by decide +kernel))⟩
theorem fl6_166 : FL RX6 166 1 4 true := ⟨_, _, _, ci1, by omega, rfl, Or.inr (List.mem_of_getElem? (i := 281) (by decide +kernel))⟩
theorem fl1_48 : FL RX1 48 1 5 true := ⟨_, _, _, ci1, by omega, rfl, Or.inl (List.mem_of_getElem? (i := 282) (by decide +kernel))⟩
theorem fl1_51 : FL RX1 51 1 6 true := ⟨_, _, _, ci1, by omega, rfl, Or.inl (List.mem_of_getElem? (i := 283) (by decide +kernel))⟩
theorem fl1_65 : FL RX1 65 1 7 false := ⟨_, _, _, ci1, by omega, rfl, Or.inl (List.mem_of_getElem? (i := 284) (by decide +kernel))⟩
theorem fl1_71 : FL RX1 71 1 8 false := ⟨_, _, _, ci1, by omega, rfl, Or.inl (List.mem_of_getElem? (i := 285) (by decide +kernel))⟩
theorem fl4_87 : FL RX4 87 1 8 false := ⟨_, _, _, ci1, by omega, rfl, Or.inr (List.mem_of_getElem? (i := 286) (by decide +kernel))⟩
theorem fl6_241 : FL RX6 241 1 8 false := ⟨_, _, _, ci1, by omega, rfl, Or.inr (List.mem_of_getElem? (i := 287) (by decide +kernel))⟩
theorem fl1_74 : FL RX1 74 1 9 false := ⟨_, _, _, ci1, by omega, rfl, Or.inl (List.mem_of_getElem? (i := 288) (by decide +kernel))⟩
theorem fl6_180 : FL RX6 180 1 9 false := ⟨_, _, _, ci1, by omega, rfl, Or.inr (List.mem_of_getElem? (i := 289) (by decide +kernel))⟩
theorem fl1_21 : FL RX1 21 1 10 true := ⟨_, _, _, ci1, by omega, rfl, Or.inl (List.mem_of_getElem? (i := 290) (by decide +kernel))⟩
theorem fl1_77 : FL RX1 77 1 11 false := ⟨_, _, _, ci1, by omega, rfl, Or.inl (List.mem_of_getElem? (i := 291) (by decide +kernel))⟩
theorem fl1_25 : FL RX1 25 1 12 true := ⟨_, _, _, ci1, by omega, rfl, Or.inl (List.mem_of_getElem? (i := 292) (by decide +kernel))⟩
theorem fl6_132 : FL RX6 132 1 12 true := ⟨_, _, _, ci1, by omega, rfl, Or.inr (List.mem_of_getElem? (i := 293) (by decide +kernel))⟩
theorem fl1_29 : FL RX1 29 1 13 true := ⟨_, _, _, ci1, by omega, rfl, Or.inl (List.mem_of_getElem? (i := 294) (by decide +kernel))⟩
theorem fl4_136 : FL RX4 136 1 13 true := ⟨_, _, _, ci1, by omega, rfl, Or.inr (List.mem_of_getElem? (i := 295) (by decide +kernel))⟩
theorem fl1_139 : FL RX1 139 1 14 false := ⟨_, _, _, ci1, by omega, rfl, Or.inl (List.mem_of_getElem? (i := 296) (by decide +kernel))⟩
theorem fl4_128 : FL RX4 128 1 15 false := ⟨_, _, _, ci1, by omega, rfl, Or.inr (List.mem_of_getElem? (i := 297) (by decide +kernel))⟩
theorem fl1_152 : FL RX1 152 1 15 false := ⟨_, _, _, ci1, by omega, rfl, Or.inl (List.mem_of_getElem? (i := 298) (by decide +kernel))⟩
theorem fl4_112 : FL RX4 112 1 16 false := ⟨_, _, _, ci1, by omega, rfl, Or.inr (List.mem_of_getElem? (i := 299) (by decide +kernel))⟩
theorem fl1_165 : FL RX1 165 1 16 false := ⟨_, _, _, ci1, by omega, rfl, Or.inl (List.mem_of_getElem? (i := 300) (by decide +kernel))⟩
theorem fl6_250 : FL RX6 250 1 16 false := ⟨_, _, _, ci1, by omega, rfl, Or.inr (List.mem_of_getElem? (i := 301) (by decide +kernel))⟩
theorem fl1_35 : FL RX1 35 1 17 true := ⟨_, _, _, ci1, by omega, rfl, Or.inl (List.mem_of_getElem? (i := 302) (by decide +kernel))⟩
theorem fl1_39 : FL RX1 39 1 18 true := ⟨_, _, _, ci1, by omega, rfl, Or.inl (List.mem_of_getElem? (i := 303) (by decide +kernel))⟩
theorem fl4_12 : FL RX4 12 4 0 true := ⟨_, _, _, ci4, by omega, rfl, Or.inl (List.mem_of_getElem? (i := 343) (by decide +kernel))⟩
theorem fl6_64 : FL RX6 64 4 0 true := ⟨_, _, _, ci4, by omega, rfl, Or.inr (List.mem_of_getElem? (i := 344) (by decide +kernel))⟩
theorem fl4_27 : FL RX4 27 4 1 true := ⟨_, _, _, ci4, by omega, rfl, Or.inl (List.mem_of_getElem? (i := 345) (by decide +kernel))⟩
theorem fl6_103 : FL RX6 103 4 1 true := ⟨_, _, _, ci4, by omega, rfl, Or.inr (List.mem_of_getElem? (i := 346) (by decide +kernel))⟩
theorem fl4_62 : FL RX4 62 4 2 false := ⟨_, _, _, ci4, by omega, rfl, Or.inl (List.mem_of_getElem? (i := 347) (by decide +kernel))⟩
theorem fl6_79 : FL RX6 79 4 2 false := ⟨_, _, _, ci4, by omega, rfl, Or.inr (List.mem_of_getElem? (i := 348) (by decide +kernel))⟩
theorem fl4_33 : FL RX4 33 4 3 true := ⟨_, _, _, ci4, by omega, rfl, Or.inl (List.mem_of_getElem? (i := 349) (by decide +kernel))⟩
theorem fl6_115 : FL RX6 115 4 3 true := ⟨_, _, _, ci4, by omega, rfl, Or.inr (List.mem_of_getElem? (i := 350) (by decide +kernel))⟩
theorem fl4_42 : FL RX4 42 4 4 true := ⟨_, _, _, ci4, by omega, rfl, Or.inl (List.mem_of_getElem? (i := 351) (by decide +kernel))⟩
theorem fl6_129 : FL RX6 129 4 4 true := ⟨_, _, _, ci4, by omega, rfl, Or.inr (List.mem_of_getElem? (i := 352) (by decide +kernel))⟩
theorem fl4_46 : FL RX4 46 4 5 true := ⟨_, _, _, ci4, by omega, rfl, Or.inl (List.mem_of_getElem? (i := 353) (by decide +kernel))⟩
theorem fl4_49 : FL RX4 49 4 6 true := ⟨_, _, _, ci4, by omega, rfl, Or.inl (List.mem_of_getElem? (i := 354) (by decide +kernel))⟩
theorem fl6_9 : FL RX6 9 6 0 true := ⟨_, _, _, ci6, by omega, rfl, Or.inl (List.mem_of_getElem? (i := 375) (by decide +kernel))⟩
theorem fl6_57 : FL RX6 57 6 1 false := ⟨_, _, _, ci6, by omega, rfl, Or.inl (List.mem_of_getElem? (i := 376) (by decide +kernel))⟩
theorem fl6_86 : FL RX6 86 6 2 false := ⟨_, _, _, ci6, by omega, rfl, Or.inl (List.mem_of_getElem? (i := 377) (by decide +kernel))⟩
theorem fl6_16 : FL RX6 16 6 3 true := ⟨_, _, _, ci6, by omega, rfl, Or.inl (List.mem_of_getElem? (i := 378) (by decide +kernel))⟩
theorem fl6_20 : FL RX6 20 6 4 true := ⟨_, _, _, ci6, by omega, rfl, Or.inl (List.mem_of_getElem? (i := 379) (by decide +kernel))⟩
theorem fl6_24 : FL RX6 24 6 5 true := ⟨_, _, _, ci6, by omega, rfl, Or.inl (List.mem_of_getElem? (i := 380) (by decide +kernel))⟩
theorem fl6_308 : FL RX6 308 6 6 false := ⟨_, _, _, ci6, by omega, rfl, Or.inl (List.mem_of_getElem? (i := 381) (by decide +kernel))⟩
theorem fl6_302 : FL RX6 302 6 7 false := ⟨_, _, _, ci6, by omega, rfl, Or.inl (List.mem_of_getElem? (i := 382) (by decide +kernel))⟩
theorem fl6_27 : FL RX6 27 6 8 true := ⟨_, _, _, ci6, by omega, rfl, Or.inl (List.mem_of_getElem? (i := 383) (by decide +kernel))⟩
theorem fl6_30 : FL RX6 30 6 9 true := ⟨_, _, _, ci6, by omega, rfl, Or.inl (List.mem_of_getElem? (i := 384) (by decide +kernel))⟩
theorem fl6_39 : FL RX6 39 6 10 true := ⟨_, _, _, ci6, by omega, rfl, Or.inl (List.mem_of_getElem? (i := 385) (by decide +kernel))⟩
theorem fl6_46 : FL RX6 46 6 11 true := ⟨_, _, _, ci6, by omega, rfl, Or.inl (List.mem_of_getElem? (i := 386) (by decide +kernel))⟩
theorem fl6_50 : FL RX6 50 6 12 true := ⟨_, _, _, ci6, by omega, rfl, Or.inl (List.mem_of_getElem? (i := 387) (by decide +kernel))⟩
theorem fl6_53 : FL RX6 53 6 13 true := ⟨_, _, _, ci6, by omega, rfl, Or.inl (List.mem_of_getElem? (i := 388) (by decide +kernel))⟩
theorem mlL_13 : MV RL 13 6 yX6_feed cX6_feed 6 (some .int) 5 := ⟨⟨(List.mem_of_getElem? (i := 138) (by decide +kernel)), (List.mem_of_getElem? (i := 422) (by decide +kernel)), by decide +kernel, by decide +kernel⟩, ⟨_, _, ci6⟩, (List.mem_of_getElem? (i := 420) (by decide +kernel)), (List.mem_of_getElem? (i := 421) (by decide +kernel)), Or.inl (List.mem_of_getElem? (i := 419) (by decide +kernel))⟩
theorem ml6_61 : MV RX6 61 6 yX6_takeBytes cX6_takeBytes 3 none 1 := ⟨⟨(List.mem_of_getElem? (i := 138) (by decide +kernel)), (List.mem_of_getElem? (i := 426) (by decide +kernel)), by decide +kernel, by decide +kernel⟩, ⟨_, _, ci6⟩, (List.mem_of_getElem? (i := 425) (by decide +kernel)), (List.mem_of_getElem? (i := 0) (by decide +kernel)), Or.inl (List.mem_of_getElem? (i := 423) (by decide +kernel))⟩
theorem mlL_18 : MV RL 18 6 yX6_end cX6_end 2 (some .int) 1 := ⟨⟨(List.mem_of_getElem? (i := 138) (by decide +kernel)), (List.mem_of_getElem? (i := 430) (by decide +kernel)), by decide +kernel, by decide +kernel⟩, ⟨_, _, ci6⟩, (List.mem_of_getElem? (i := 428) (by decide +kernel)), (List.mem_of_getElem? (i := 429) (by decide +kernel)), Or.inl (List.mem_of_getElem? (i := 427) (by decide +kernel))⟩
theorem mlL_23 : MV RL 23 6 yX6_tell cX6_tell 2 (some .int) 0 := ⟨⟨(List.mem_of_getElem? (i := 138) (by decide +kernel)), (List.mem_of_getElem? (i := 434) (by decide +kernel)), by decide +kernel, by decide +kernel⟩, ⟨_, _, ci6⟩, (List.mem_of_getElem? (i := 432) (by decide +kernel)), (List.mem_of_getElem? (i := 433) (by decide +kernel)), Or.inl (List.mem_of_getElem? (i := 431) (by decide +kernel))⟩
theorem ml6_73 : MV RX6 73 6 yX6_remember cX6_remember 1 none 0 := ⟨⟨(List.mem_of_getElem? (i := 138) (by decide +kernel)), (List.mem_of_getElem? (i := 438) (by decide +kernel)), by decide +kernel, by decide +kernel⟩, ⟨_, _, ci6⟩, (List.mem_of_getElem? (i := 437) (by decide +kernel)), (List.mem_of_getElem? (i := 1) (by decide +kernel)), Or.inl (List.mem_of_getElem? (i := 435) (by decide +kernel))⟩
theorem ml6_305 : MV RX6 305 4 yX4_copyFrom cX4_copyFrom 2 none 1 := ⟨⟨(List.mem_of_getElem? (i := 139) (by decide +kernel)), (List.mem_of_getElem? (i := 442) (by decide +kernel)), by decide +kernel, by decide +kernel⟩, ⟨_, _, ci4⟩, (List.mem_of_getElem? (i := 441) (by decide +kernel)), (List.mem_of_getElem? (i := 2) (by decide +kernel)), Or.inr (List.mem_of_getElem? (i := 439) (by decide +kernel))⟩
theorem ml4_52 : MV RX4 52 3 yX3_copyFrom cX3_copyFrom 2 none 1 := ⟨⟨(List.mem_of_getElem? (i := 140) (by decide +kernel)), (List.mem_of_getElem? (i := 446) (by decide +kernel)), by decide +kernel, by decide +kernel⟩, ⟨_, _, ci3⟩, (List.mem_of_getElem? (i := 445) (by decide +kernel)), (List.mem_of_getElem? (i := 3) (by decide +kernel)), Or.inr (List.mem_of_getElem? (i := 443) (by decide +kernel))⟩
theorem ml4_69 : MV RX4 69 0 yX0_copyFrom cX0_copyFrom 3 none 2 := ⟨⟨(List.mem_of_getElem? (i := 141) (by decide +kernel)), (List.mem_of_getElem? (i := 454) (by decide +kernel)), by decide +kernel, by decide +kernel⟩, ⟨_, _, ci0⟩, (List.mem_of_getElem? (i := 453) (by decide +kernel)), (List.mem_of_getElem? (i := 4) (by decide +kernel)), Or.inr (List.mem_of_getElem? (i := 451) (by decide +kernel))⟩
theorem ml4_72 : MV RX4 72 1 yX1_copyFrom cX1_copyFrom 3 none 1 := ⟨⟨(List.mem_of_getElem? (i := 142) (by decide +kernel)), (List.mem_of_getElem? (i := 459) (by decide +kernel)), by decide +kernel, by decide +kernel⟩, ⟨_, _, ci1⟩, (List.mem_of_getElem? (i := 458) (by decide +kernel)), (List.mem_of_getElem? (i := 5) (by decide +kernel)), Or.inr (List.mem_of_getElem? (i := 456) (by decide +kernel))⟩
theorem ml1_86 : MV RX1 86 5 yX5_copyFrom cX5_copyFrom 2 none 1 := ⟨⟨(List.mem_of_getElem? (i := 145) (by decide +kernel)), (List.mem_of_getElem? (i := 467) (by decide +kernel)), by decide +kernel, by decide +kernel⟩, ⟨_, _, ci5⟩, (List.mem_of_getElem? (i := 466) (by decide +kernel)), (List.mem_of_getElem? (i := 6) (by decide +kernel)), Or.inr (List.mem_of_getElem? (i := 464) (by decide +kernel))⟩
theorem ml6_76 : MV RX6 76 3 yX3_add cX3_add 3 none 1 := ⟨⟨(List.mem_of_getElem? (i := 140) (by decide +kernel)), (List.mem_of_getElem? (i := 473) (by decide +kernel)), by decide +kernel, by decide +kernel⟩, ⟨_, _, ci3⟩, (List.mem_of_getElem? (i := 472) (by decide +kernel)), (List.mem_of_getElem? (i := 7) (by decide +kernel)), Or.inr (List.mem_of_getElem? (i := 470) (by decide +kernel))⟩
theorem mlL_28 : MV RL 28 6 yX6_drawn cX6_drawn 4 (some .int) 2 := ⟨⟨(List.mem_of_getElem? (i := 138) (by decide +kernel)), (List.mem_of_getElem? (i := 477) (by decide +kernel)), by decide +kernel, by decide +kernel⟩, ⟨_, _, ci6⟩, (List.mem_of_getElem? (i := 475) (by decide +kernel)), (List.mem_of_getElem? (i := 476) (by decide +kernel)), Or.inl (List.mem_of_getElem? (i := 474) (by decide +kernel))⟩
theorem ml6_82 : MV RX6 82 6 yX6_drawOf cX6_drawOf 2 (some .int) 1 := ⟨⟨(List.mem_of_getElem? (i := 138) (by decide +kernel)), (List.mem_of_getElem? (i := 481) (by decide +kernel)), by decide +kernel, by decide +kernel⟩, ⟨_, _, ci6⟩, (List.mem_of_getElem? (i := 480) (by decide +kernel)), (List.mem_of_getElem? (i := 8) (by decide +kernel)), Or.inl (List.mem_of_getElem? (i := 478) (by decide +kernel))⟩
theorem mlL_33 : MV RL 33 6 yX6_draws cX6_draws 3 (some .int) 1 := ⟨⟨(List.mem_of_getElem? (i := 138) (by decide +kernel)), (List.mem_of_getElem? (i := 489) (by decide +kernel)), by decide +kernel, by decide +kernel⟩, ⟨_, _, ci6⟩, (List.mem_of_getElem? (i := 487) (by decide +kernel)), (List.mem_of_getElem? (i := 488) (by decide +kernel)), Or.inl (List.mem_of_getElem? (i := 486) (by decide +kernel))⟩
theorem mlL_37 : MV RL 37 6 yX6_clear cX6_clear 2 (some .int) 0 := ⟨⟨(List.mem_of_getElem? (i := 138) (by decide +kernel)), (List.mem_of_getElem? (i := 493) (by decide +kernel)), by decide +kernel, by decide +kernel⟩, ⟨_, _, ci6⟩, (List.mem_of_getElem? (i := 491) (by decide +kernel)), (List.mem_of_getElem? (i := 492) (by decide +kernel)), Or.inl (List.mem_of_getElem? (i := 490) (by decide +kernel))⟩
theorem ml6_96 : MV RX6 96 3 yX3_wipe cX3_wipe 1 none 0 := ⟨⟨(List.mem_of_getElem? (i := 140) (by decide +kernel)), (List.mem_of_getElem? (i := 497) (by decide +kernel)), by decide +kernel, by decide +kernel⟩, ⟨_, _, ci3⟩, (List.mem_of_getElem? (i := 496) (by decide +kernel)), (List.mem_of_getElem? (i := 9) (by decide +kernel)), Or.inr (List.mem_of_getElem? (i := 494) (by decide +kernel))⟩
theorem mlL_41 : MV RL 41 6 yX6_settle cX6_settle 4 (some .int) 2 := ⟨⟨(List.mem_of_getElem? (i := 138) (by decide +kernel)), (List.mem_of_getElem? (i := 501) (by decide +kernel)), by decide +kernel, by decide +kernel⟩, ⟨_, _, ci6⟩, (List.mem_of_getElem? (i := 499) (by decide +kernel)), (List.mem_of_getElem? (i := 500) (by decide +kernel)), Or.inl (List.mem_of_getElem? (i := 498) (by decide +kernel))⟩
theorem ml6_99 : MS RX6 99 yX6_fits cX6_fits 2 (some .boolean) 2 := ⟨⟨(List.mem_of_getElem? (i := 138) (by decide +kernel)), (List.mem_of_getElem? (i := 504) (by decide +kernel)), by decide +kernel, by decide +kernel⟩, (List.mem_of_getElem? (i := 503) (by decide +kernel)), (List.mem_of_getElem? (i := 502) (by decide +kernel))⟩
theorem mlL_45 : MV RL 45 6 yX6_grow cX6_grow 1 (some .int) 0 := ⟨⟨(List.mem_of_getElem? (i := 138) (by decide +kernel)), (List.mem_of_getElem? (i := 512) (by decide +kernel)), by decide +kernel, by decide +kernel⟩, ⟨_, _, ci6⟩, (List.mem_of_getElem? (i := 510) (by decide +kernel)), (List.mem_of_getElem? (i := 511) (by decide +kernel)), Or.inl (List.mem_of_getElem? (i := 509) (by decide +kernel))⟩
theorem ml6_112 : MV RX6 112 4 yX4_growRuns cX4_growRuns 1 none 0 := ⟨⟨(List.mem_of_getElem? (i := 139) (by decide +kernel)), (List.mem_of_getElem? (i := 516) (by decide +kernel)), by decide +kernel, by decide +kernel⟩, ⟨_, _, ci4⟩, (List.mem_of_getElem? (i := 515) (by decide +kernel)), (List.mem_of_getElem? (i := 10) (by decide +kernel)), Or.inr (List.mem_of_getElem? (i := 513) (by decide +kernel))⟩
theorem ml4_76 : MV RX4 76 0 yX0_growFrom cX0_growFrom 7 none 3 := ⟨⟨(List.mem_of_getElem? (i := 141) (by decide +kernel)), (List.mem_of_getElem? (i := 520) (by decide +kernel)), by decide +kernel, by decide +kernel⟩, ⟨_, _, ci0⟩, (List.mem_of_getElem? (i := 519) (by decide +kernel)), (List.mem_of_getElem? (i := 11) (by decide +kernel)), Or.inr (List.mem_of_getElem? (i := 517) (by decide +kernel))⟩
theorem ml0_47 : MV RX0 47 0 yX0_nextOut cX0_nextOut 5 (some .int) 2 := ⟨⟨(List.mem_of_getElem? (i := 141) (by decide +kernel)), (List.mem_of_getElem? (i := 525) (by decide +kernel)), by decide +kernel, by decide +kernel⟩, ⟨_, _, ci0⟩, (List.mem_of_getElem? (i := 524) (by decide +kernel)), (List.mem_of_getElem? (i := 12) (by decide +kernel)), Or.inl (List.mem_of_getElem? (i := 522) (by decide +kernel))⟩
theorem ml0_55 : MV RX0 55 3 yX3_isLess cX3_isLess 3 (some .boolean) 2 := ⟨⟨(List.mem_of_getElem? (i := 140) (by decide +kernel)), (List.mem_of_getElem? (i := 529) (by decide +kernel)), by decide +kernel, by decide +kernel⟩, ⟨_, _, ci3⟩, (List.mem_of_getElem? (i := 528) (by decide +kernel)), (List.mem_of_getElem? (i := 13) (by decide +kernel)), Or.inr (List.mem_of_getElem? (i := 526) (by decide +kernel))⟩
theorem ml0_59 : MV RX0 59 0 yX0_falls cX0_falls 2 (some .boolean) 1 := ⟨⟨(List.mem_of_getElem? (i := 141) (by decide +kernel)), (List.mem_of_getElem? (i := 533) (by decide +kernel)), by decide +kernel, by decide +kernel⟩, ⟨_, _, ci0⟩, (List.mem_of_getElem? (i := 532) (by decide +kernel)), (List.mem_of_getElem? (i := 14) (by decide +kernel)), Or.inl (List.mem_of_getElem? (i := 530) (by decide +kernel))⟩
theorem ml0_51 : MV RX0 51 0 yX0_goesOn cX0_goesOn 4 (some .boolean) 3 := ⟨⟨(List.mem_of_getElem? (i := 141) (by decide +kernel)), (List.mem_of_getElem? (i := 537) (by decide +kernel)), by decide +kernel, by decide +kernel⟩, ⟨_, _, ci0⟩, (List.mem_of_getElem? (i := 536) (by decide +kernel)), (List.mem_of_getElem? (i := 15) (by decide +kernel)), Or.inl (List.mem_of_getElem? (i := 534) (by decide +kernel))⟩
theorem mlL_49 : MV RL 49 6 yX6_spread cX6_spread 1 (some .int) 0 := ⟨⟨(List.mem_of_getElem? (i := 138) (by decide +kernel)), (List.mem_of_getElem? (i := 541) (by decide +kernel)), by decide +kernel, by decide +kernel⟩, ⟨_, _, ci6⟩, (List.mem_of_getElem? (i := 539) (by decide +kernel)), (List.mem_of_getElem? (i := 540) (by decide +kernel)), Or.inl (List.mem_of_getElem? (i := 538) (by decide +kernel))⟩
theorem ml6_122 : MV RX6 122 6 yX6_canPlan cX6_canPlan 1 (some .boolean) 0 := ⟨⟨(List.mem_of_getElem? (i := 138) (by decide +kernel)), (List.mem_of_getElem? (i := 545) (by decide +kernel)), by decide +kernel, by decide +kernel⟩, ⟨_, _, ci6⟩, (List.mem_of_getElem? (i := 544) (by decide +kernel)), (List.mem_of_getElem? (i := 16) (by decide +kernel)), Or.inl (List.mem_of_getElem? (i := 542) (by decide +kernel))⟩
theorem ml6_221 : MS RX6 221 yX6_canSpread cX6_canSpread 2 (some .boolean) 2 := ⟨⟨(List.mem_of_getElem? (i := 138) (by decide +kernel)), (List.mem_of_getElem? (i := 548) (by decide +kernel)), by decide +kernel, by decide +kernel⟩, (List.mem_of_getElem? (i := 547) (by decide +kernel)), (List.mem_of_getElem? (i := 546) (by decide +kernel))⟩
theorem ml6_126 : MV RX6 126 4 yX4_spreadRuns cX4_spreadRuns 2 none 0 := ⟨⟨(List.mem_of_getElem? (i := 139) (by decide +kernel)), (List.mem_of_getElem? (i := 552) (by decide +kernel)), by decide +kernel, by decide +kernel⟩, ⟨_, _, ci4⟩, (List.mem_of_getElem? (i := 551) (by decide +kernel)), (List.mem_of_getElem? (i := 17) (by decide +kernel)), Or.inr (List.mem_of_getElem? (i := 549) (by decide +kernel))⟩
theorem ml4_80 : MV RX4 80 1 yX1_begin cX1_begin 5 none 3 := ⟨⟨(List.mem_of_getElem? (i := 142) (by decide +kernel)), (List.mem_of_getElem? (i := 556) (by decide +kernel)), by decide +kernel, by decide +kernel⟩, ⟨_, _, ci1⟩, (List.mem_of_getElem? (i := 555) (by decide +kernel)), (List.mem_of_getElem? (i := 18) (by decide +kernel)), Or.inr (List.mem_of_getElem? (i := 553) (by decide +kernel))⟩
theorem ml1_90 : MV RX1 90 5 yX5_wipe cX5_wipe 1 none 0 := ⟨⟨(List.mem_of_getElem? (i := 145) (by decide +kernel)), (List.mem_of_getElem? (i := 560) (by decide +kernel)), by decide +kernel, by decide +kernel⟩, ⟨_, _, ci5⟩, (List.mem_of_getElem? (i := 559) (by decide +kernel)), (List.mem_of_getElem? (i := 19) (by decide +kernel)), Or.inr (List.mem_of_getElem? (i := 557) (by decide +kernel))⟩
theorem ml4_84 : MV RX4 84 4 yX4_layRuns cX4_layRuns 3 none 1 := ⟨⟨(List.mem_of_getElem? (i := 139) (by decide +kernel)), (List.mem_of_getElem? (i := 564) (by decide +kernel)), by decide +kernel, by decide +kernel⟩, ⟨_, _, ci4⟩, (List.mem_of_getElem? (i := 563) (by decide +kernel)), (List.mem_of_getElem? (i := 20) (by decide +kernel)), Or.inl (List.mem_of_getElem? (i := 561) (by decide +kernel))⟩
theorem ml4_93 : MV RX4 93 0 yX0_falls cX0_falls 2 (some .boolean) 1 := ⟨⟨(List.mem_of_getElem? (i := 141) (by decide +kernel)), (List.mem_of_getElem? (i := 533) (by decide +kernel)), by decide +kernel, by decide +kernel⟩, ⟨_, _, ci0⟩, (List.mem_of_getElem? (i := 532) (by decide +kernel)), (List.mem_of_getElem? (i := 14) (by decide +kernel)), Or.inr (List.mem_of_getElem? (i := 565) (by decide +kernel))⟩
theorem ml4_97 : MV RX4 97 1 yX1_load cX1_load 3 none 2 := ⟨⟨(List.mem_of_getElem? (i := 142) (by decide +kernel)), (List.mem_of_getElem? (i := 569) (by decide +kernel)), by decide +kernel, by decide +kernel⟩, ⟨_, _, ci1⟩, (List.mem_of_getElem? (i := 568) (by decide +kernel)), (List.mem_of_getElem? (i := 21) (by decide +kernel)), Or.inr (List.mem_of_getElem? (i := 566) (by decide +kernel))⟩
theorem ml4_101 : MV RX4 101 1 yX1_layOut cX1_layOut 2 none 1 := ⟨⟨(List.mem_of_getElem? (i := 142) (by decide +kernel)), (List.mem_of_getElem? (i := 573) (by decide +kernel)), by decide +kernel, by decide +kernel⟩, ⟨_, _, ci1⟩, (List.mem_of_getElem? (i := 572) (by decide +kernel)), (List.mem_of_getElem? (i := 22) (by decide +kernel)), Or.inr (List.mem_of_getElem? (i := 570) (by decide +kernel))⟩
theorem ml1_93 : MV RX1 93 1 yX1_dealByTurns cX1_dealByTurns 2 none 0 := ⟨⟨(List.mem_of_getElem? (i := 142) (by decide +kernel)), (List.mem_of_getElem? (i := 577) (by decide +kernel)), by decide +kernel, by decide +kernel⟩, ⟨_, _, ci1⟩, (List.mem_of_getElem? (i := 576) (by decide +kernel)), (List.mem_of_getElem? (i := 23) (by decide +kernel)), Or.inl (List.mem_of_getElem? (i := 574) (by decide +kernel))⟩
theorem ml1_110 : MV RX1 110 5 yX5_write cX5_write 2 none 1 := ⟨⟨(List.mem_of_getElem? (i := 145) (by decide +kernel)), (List.mem_of_getElem? (i := 581) (by decide +kernel)), by decide +kernel, by decide +kernel⟩, ⟨_, _, ci5⟩, (List.mem_of_getElem? (i := 580) (by decide +kernel)), (List.mem_of_getElem? (i := 24) (by decide +kernel)), Or.inr (List.mem_of_getElem? (i := 578) (by decide +kernel))⟩
theorem ml1_96 : MV RX1 96 2 yX2_climbFor cX2_climbFor 5 none 3 := ⟨⟨(List.mem_of_getElem? (i := 143) (by decide +kernel)), (List.mem_of_getElem? (i := 585) (by decide +kernel)), by decide +kernel, by decide +kernel⟩, ⟨_, _, ci2⟩, (List.mem_of_getElem? (i := 584) (by decide +kernel)), (List.mem_of_getElem? (i := 25) (by decide +kernel)), Or.inr (List.mem_of_getElem? (i := 582) (by decide +kernel))⟩
theorem ml2_34 : MV RX2 34 2 yX2_ground cX2_ground 3 none 1 := ⟨⟨(List.mem_of_getElem? (i := 143) (by decide +kernel)), (List.mem_of_getElem? (i := 589) (by decide +kernel)), by decide +kernel, by decide +kernel⟩, ⟨_, _, ci2⟩, (List.mem_of_getElem? (i := 588) (by decide +kernel)), (List.mem_of_getElem? (i := 26) (by decide +kernel)), Or.inl (List.mem_of_getElem? (i := 586) (by decide +kernel))⟩
theorem ml2_41 : MV RX2 41 2 yX2_together cX2_together 3 (some .int) 0 := ⟨⟨(List.mem_of_getElem? (i := 143) (by decide +kernel)), (List.mem_of_getElem? (i := 595) (by decide +kernel)), by decide +kernel, by decide +kernel⟩, ⟨_, _, ci2⟩, (List.mem_of_getElem? (i := 594) (by decide +kernel)), (List.mem_of_getElem? (i := 27) (by decide +kernel)), Or.inl (List.mem_of_getElem? (i := 592) (by decide +kernel))⟩
theorem ml2_38 : MV RX2 38 2 yX2_climb cX2_climb 4 none 1 := ⟨⟨(List.mem_of_getElem? (i := 143) (by decide +kernel)), (List.mem_of_getElem? (i := 599) (by decide +kernel)), by decide +kernel, by decide +kernel⟩, ⟨_, _, ci2⟩, (List.mem_of_getElem? (i := 598) (by decide +kernel)), (List.mem_of_getElem? (i := 28) (by decide +kernel)), Or.inl (List.mem_of_getElem? (i := 596) (by decide +kernel))⟩
theorem ml2_31 : MV RX2 31 2 yX2_climbCascade cX2_climbCascade 3 none 0 := ⟨⟨(List.mem_of_getElem? (i := 143) (by decide +kernel)), (List.mem_of_getElem? (i := 603) (by decide +kernel)), by decide +kernel, by decide +kernel⟩, ⟨_, _, ci2⟩, (List.mem_of_getElem? (i := 602) (by decide +kernel)), (List.mem_of_getElem? (i := 29) (by decide +kernel)), Or.inl (List.mem_of_getElem? (i := 600) (by decide +kernel))⟩
theorem ml1_100 : MV RX1 100 1 yX1_dealByNumbers cX1_dealByNumbers 4 none 1 := ⟨⟨(List.mem_of_getElem? (i := 142) (by decide +kernel)), (List.mem_of_getElem? (i := 607) (by decide +kernel)), by decide +kernel, by decide +kernel⟩, ⟨_, _, ci1⟩, (List.mem_of_getElem? (i := 606) (by decide +kernel)), (List.mem_of_getElem? (i := 30) (by decide +kernel)), Or.inl (List.mem_of_getElem? (i := 604) (by decide +kernel))⟩
theorem ml1_114 : MV RX1 114 2 yX2_together cX2_together 3 (some .int) 0 := ⟨⟨(List.mem_of_getElem? (i := 143) (by decide +kernel)), (List.mem_of_getElem? (i := 595) (by decide +kernel)), by decide +kernel, by decide +kernel⟩, ⟨_, _, ci2⟩, (List.mem_of_getElem? (i := 594) (by decide +kernel)), (List.mem_of_getElem? (i := 27) (by decide +kernel)), Or.inr (List.mem_of_getElem? (i := 608) (by decide +kernel))⟩
theorem ml1_121 : MV RX1 121 1 yX1_firstPlace cX1_firstPlace 2 (some .int) 0 := ⟨⟨(List.mem_of_getElem? (i := 142) (by decide +kernel)), (List.mem_of_getElem? (i := 612) (by decide +kernel)), by decide +kernel, by decide +kernel⟩, ⟨_, _, ci1⟩, (List.mem_of_getElem? (i := 611) (by decide +kernel)), (List.mem_of_getElem? (i := 31) (by decide +kernel)), Or.inl (List.mem_of_getElem? (i := 609) (by decide +kernel))⟩
theorem ml1_124 : MV RX1 124 1 yX1_fewestBlanks cX1_fewestBlanks 3 (some .int) 0 := ⟨⟨(List.mem_of_getElem? (i := 142) (by decide +kernel)), (List.mem_of_getElem? (i := 616) (by decide +kernel)), by decide +kernel, by decide +kernel⟩, ⟨_, _, ci1⟩, (List.mem_of_getElem? (i := 615) (by decide +kernel)), (List.mem_of_getElem? (i := 32) (by decide +kernel)), Or.inl (List.mem_of_getElem? (i := 613) (by decide +kernel))⟩
theorem ml1_130 : MV RX1 130 1 yX1_writeBlanks cX1_writeBlanks 3 none 0 := ⟨⟨(List.mem_of_getElem? (i := 142) (by decide +kernel)), (List.mem_of_getElem? (i := 620) (by decide +kernel)), by decide +kernel, by decide +kernel⟩, ⟨_, _, ci1⟩, (List.mem_of_getElem? (i := 619) (by decide +kernel)), (List.mem_of_getElem? (i := 33) (by decide +kernel)), Or.inl (List.mem_of_getElem? (i := 617) (by decide +kernel))⟩
theorem ml1_133 : MV RX1 133 1 yX1_mostPlaces cX1_mostPlaces 3 (some .int) 0 := ⟨⟨(List.mem_of_getElem? (i := 142) (by decide +kernel)), (List.mem_of_getElem? (i := 624) (by decide +kernel)), by decide +kernel, by decide +kernel⟩, ⟨_, _, ci1⟩, (List.mem_of_getElem? (i := 623) (by decide +kernel)), (List.mem_of_getElem? (i := 34) (by decide +kernel)), Or.inl (List.mem_of_getElem? (i := 621) (by decide +kernel))⟩
theorem ml1_104 : MV RX1 104 1 yX1_openPass cX1_openPass 2 none 0 := ⟨⟨(List.mem_of_getElem? (i := 142) (by decide +kernel)), (List.mem_of_getElem? (i := 628) (by decide +kernel)), by decide +kernel, by decide +kernel⟩, ⟨_, _, ci1⟩, (List.mem_of_getElem? (i := 627) (by decide +kernel)), (List.mem_of_getElem? (i := 35) (by decide +kernel)), Or.inl (List.mem_of_getElem? (i := 625) (by decide +kernel))⟩
theorem ml1_136 : MV RX1 136 5 yX5_size cX5_size 1 (some .int) 0 := ⟨⟨(List.mem_of_getElem? (i := 145) (by decide +kernel)), (List.mem_of_getElem? (i := 632) (by decide +kernel)), by decide +kernel, by decide +kernel⟩, ⟨_, _, ci5⟩, (List.mem_of_getElem? (i := 631) (by decide +kernel)), (List.mem_of_getElem? (i := 36) (by decide +kernel)), Or.inr (List.mem_of_getElem? (i := 629) (by decide +kernel))⟩
theorem ml1_107 : MV RX1 107 1 yX1_turnLast cX1_turnLast 3 none 0 := ⟨⟨(List.mem_of_getElem? (i := 142) (by decide +kernel)), (List.mem_of_getElem? (i := 636) (by decide +kernel)), by decide +kernel, by decide +kernel⟩, ⟨_, _, ci1⟩, (List.mem_of_getElem? (i := 635) (by decide +kernel)), (List.mem_of_getElem? (i := 37) (by decide +kernel)), Or.inl (List.mem_of_getElem? (i := 633) (by decide +kernel))⟩
theorem ml1_146 : MV RX1 146 5 yX5_at cX5_at 3 (some .int) 2 := ⟨⟨(List.mem_of_getElem? (i := 145) (by decide +kernel)), (List.mem_of_getElem? (i := 640) (by decide +kernel)), by decide +kernel, by decide +kernel⟩, ⟨_, _, ci5⟩, (List.mem_of_getElem? (i := 639) (by decide +kernel)), (List.mem_of_getElem? (i := 38) (by decide +kernel)), Or.inr (List.mem_of_getElem? (i := 637) (by decide +kernel))⟩
theorem ml5_28 : MV RX5 28 5 yX5_size cX5_size 1 (some .int) 0 := ⟨⟨(List.mem_of_getElem? (i := 145) (by decide +kernel)), (List.mem_of_getElem? (i := 632) (by decide +kernel)), by decide +kernel, by decide +kernel⟩, ⟨_, _, ci5⟩, (List.mem_of_getElem? (i := 631) (by decide +kernel)), (List.mem_of_getElem? (i := 36) (by decide +kernel)), Or.inl (List.mem_of_getElem? (i := 641) (by decide +kernel))⟩
theorem ml1_149 : MV RX1 149 1 yX1_isDown cX1_isDown 2 (some .boolean) 1 := ⟨⟨(List.mem_of_getElem? (i := 142) (by decide +kernel)), (List.mem_of_getElem? (i := 645) (by decide +kernel)), by decide +kernel, by decide +kernel⟩, ⟨_, _, ci1⟩, (List.mem_of_getElem? (i := 644) (by decide +kernel)), (List.mem_of_getElem? (i := 39) (by decide +kernel)), Or.inl (List.mem_of_getElem? (i := 642) (by decide +kernel))⟩
theorem mlL_53 : MV RL 53 6 yX6_step cX6_step 3 (some .int) 0 := ⟨⟨(List.mem_of_getElem? (i := 138) (by decide +kernel)), (List.mem_of_getElem? (i := 649) (by decide +kernel)), by decide +kernel, by decide +kernel⟩, ⟨_, _, ci6⟩, (List.mem_of_getElem? (i := 647) (by decide +kernel)), (List.mem_of_getElem? (i := 648) (by decide +kernel)), Or.inl (List.mem_of_getElem? (i := 646) (by decide +kernel))⟩
theorem ml6_135 : MV RX6 135 6 yX6_whyNoStep cX6_whyNoStep 1 (some .int) 0 := ⟨⟨(List.mem_of_getElem? (i := 138) (by decide +kernel)), (List.mem_of_getElem? (i := 653) (by decide +kernel)), by decide +kernel, by decide +kernel⟩, ⟨_, _, ci6⟩, (List.mem_of_getElem? (i := 652) (by decide +kernel)), (List.mem_of_getElem? (i := 40) (by decide +kernel)), Or.inl (List.mem_of_getElem? (i := 650) (by decide +kernel))⟩
theorem ml6_139 : MV RX6 139 4 yX4_mergeOnce cX4_mergeOnce 2 none 0 := ⟨⟨(List.mem_of_getElem? (i := 139) (by decide +kernel)), (List.mem_of_getElem? (i := 657) (by decide +kernel)), by decide +kernel, by decide +kernel⟩, ⟨_, _, ci4⟩, (List.mem_of_getElem? (i := 656) (by decide +kernel)), (List.mem_of_getElem? (i := 41) (by decide +kernel)), Or.inr (List.mem_of_getElem? (i := 654) (by decide +kernel))⟩
theorem ml4_105 : MV RX4 105 1 yX1_advance cX1_advance 4 none 0 := ⟨⟨(List.mem_of_getElem? (i := 142) (by decide +kernel)), (List.mem_of_getElem? (i := 661) (by decide +kernel)), by decide +kernel, by decide +kernel⟩, ⟨_, _, ci1⟩, (List.mem_of_getElem? (i := 660) (by decide +kernel)), (List.mem_of_getElem? (i := 42) (by decide +kernel)), Or.inr (List.mem_of_getElem? (i := 658) (by decide +kernel))⟩
theorem ml1_155 : MV RX1 155 1 yX1_look cX1_look 2 none 0 := ⟨⟨(List.mem_of_getElem? (i := 142) (by decide +kernel)), (List.mem_of_getElem? (i := 665) (by decide +kernel)), by decide +kernel, by decide +kernel⟩, ⟨_, _, ci1⟩, (List.mem_of_getElem? (i := 664) (by decide +kernel)), (List.mem_of_getElem? (i := 43) (by decide +kernel)), Or.inl (List.mem_of_getElem? (i := 662) (by decide +kernel))⟩
theorem ml1_142 : MV RX1 142 1 yX1_gives cX1_gives 2 (some .boolean) 1 := ⟨⟨(List.mem_of_getElem? (i := 142) (by decide +kernel)), (List.mem_of_getElem? (i := 669) (by decide +kernel)), by decide +kernel, by decide +kernel⟩, ⟨_, _, ci1⟩, (List.mem_of_getElem? (i := 668) (by decide +kernel)), (List.mem_of_getElem? (i := 44) (by decide +kernel)), Or.inl (List.mem_of_getElem? (i := 666) (by decide +kernel))⟩
theorem ml1_158 : MV RX1 158 5 yX5_drop cX5_drop 2 none 1 := ⟨⟨(List.mem_of_getElem? (i := 145) (by decide +kernel)), (List.mem_of_getElem? (i := 673) (by decide +kernel)), by decide +kernel, by decide +kernel⟩, ⟨_, _, ci5⟩, (List.mem_of_getElem? (i := 672) (by decide +kernel)), (List.mem_of_getElem? (i := 45) (by decide +kernel)), Or.inr (List.mem_of_getElem? (i := 670) (by decide +kernel))⟩
theorem ml5_32 : MV RX5 32 5 yX5_wipe cX5_wipe 1 none 0 := ⟨⟨(List.mem_of_getElem? (i := 145) (by decide +kernel)), (List.mem_of_getElem? (i := 560) (by decide +kernel)), by decide +kernel, by decide +kernel⟩, ⟨_, _, ci5⟩, (List.mem_of_getElem? (i := 559) (by decide +kernel)), (List.mem_of_getElem? (i := 19) (by decide +kernel)), Or.inl (List.mem_of_getElem? (i := 674) (by decide +kernel))⟩
theorem ml1_161 : MV RX1 161 1 yX1_sizeOf cX1_sizeOf 2 (some .int) 1 := ⟨⟨(List.mem_of_getElem? (i := 142) (by decide +kernel)), (List.mem_of_getElem? (i := 678) (by decide +kernel)), by decide +kernel, by decide +kernel⟩, ⟨_, _, ci1⟩, (List.mem_of_getElem? (i := 677) (by decide +kernel)), (List.mem_of_getElem? (i := 46) (by decide +kernel)), Or.inl (List.mem_of_getElem? (i := 675) (by decide +kernel))⟩
theorem ml1_168 : MV RX1 168 1 yX1_endBalancedPhase cX1_endBalancedPhase 2 none 0 := ⟨⟨(List.mem_of_getElem? (i := 142) (by decide +kernel)), (List.mem_of_getElem? (i := 682) (by decide +kernel)), by decide +kernel, by decide +kernel⟩, ⟨_, _, ci1⟩, (List.mem_of_getElem? (i := 681) (by decide +kernel)), (List.mem_of_getElem? (i := 47) (by decide +kernel)), Or.inl (List.mem_of_getElem? (i := 679) (by decide +kernel))⟩
theorem ml1_177 : MV RX1 177 1 yX1_givers cX1_givers 3 (some .int) 0 := ⟨⟨(List.mem_of_getElem? (i := 142) (by decide +kernel)), (List.mem_of_getElem? (i := 686) (by decide +kernel)), by decide +kernel, by decide +kernel⟩, ⟨_, _, ci1⟩, (List.mem_of_getElem? (i := 685) (by decide +kernel)), (List.mem_of_getElem? (i := 48) (by decide +kernel)), Or.inl (List.mem_of_getElem? (i := 683) (by decide +kernel))⟩
theorem ml1_180 : MV RX1 180 1 yX1_firstToWrite cX1_firstToWrite 1 (some .int) 0 := ⟨⟨(List.mem_of_getElem? (i := 142) (by decide +kernel)), (List.mem_of_getElem? (i := 690) (by decide +kernel)), by decide +kernel, by decide +kernel⟩, ⟨_, _, ci1⟩, (List.mem_of_getElem? (i := 689) (by decide +kernel)), (List.mem_of_getElem? (i := 49) (by decide +kernel)), Or.inl (List.mem_of_getElem? (i := 687) (by decide +kernel))⟩
theorem ml1_171 : MV RX1 171 1 yX1_endNumberedPhase cX1_endNumberedPhase 2 none 0 := ⟨⟨(List.mem_of_getElem? (i := 142) (by decide +kernel)), (List.mem_of_getElem? (i := 694) (by decide +kernel)), by decide +kernel, by decide +kernel⟩, ⟨_, _, ci1⟩, (List.mem_of_getElem? (i := 693) (by decide +kernel)), (List.mem_of_getElem? (i := 50) (by decide +kernel)), Or.inl (List.mem_of_getElem? (i := 691) (by decide +kernel))⟩
theorem ml1_174 : MV RX1 174 1 yX1_emptiedTape cX1_emptiedTape 2 (some .int) 0 := ⟨⟨(List.mem_of_getElem? (i := 142) (by decide +kernel)), (List.mem_of_getElem? (i := 698) (by decide +kernel)), by decide +kernel, by decide +kernel⟩, ⟨_, _, ci1⟩, (List.mem_of_getElem? (i := 697) (by decide +kernel)), (List.mem_of_getElem? (i := 51) (by decide +kernel)), Or.inl (List.mem_of_getElem? (i := 695) (by decide +kernel))⟩
theorem ml4_108 : MV RX4 108 1 yX1_takenFrom cX1_takenFrom 3 (some .int) 1 := ⟨⟨(List.mem_of_getElem? (i := 142) (by decide +kernel)), (List.mem_of_getElem? (i := 702) (by decide +kernel)), by decide +kernel, by decide +kernel⟩, ⟨_, _, ci1⟩, (List.mem_of_getElem? (i := 701) (by decide +kernel)), (List.mem_of_getElem? (i := 52) (by decide +kernel)), Or.inr (List.mem_of_getElem? (i := 699) (by decide +kernel))⟩
theorem mlL_57 : MV RL 57 6 yX6_phase cX6_phase 5 (some .int) 0 := ⟨⟨(List.mem_of_getElem? (i := 138) (by decide +kernel)), (List.mem_of_getElem? (i := 706) (by decide +kernel)), by decide +kernel, by decide +kernel⟩, ⟨_, _, ci6⟩, (List.mem_of_getElem? (i := 704) (by decide +kernel)), (List.mem_of_getElem? (i := 705) (by decide +kernel)), Or.inl (List.mem_of_getElem? (i := 703) (by decide +kernel))⟩
theorem mlL_61 : MV RL 61 6 yX6_all cX6_all 4 (some .int) 0 := ⟨⟨(List.mem_of_getElem? (i := 138) (by decide +kernel)), (List.mem_of_getElem? (i := 711) (by decide +kernel)), by decide +kernel, by decide +kernel⟩, ⟨_, _, ci6⟩, (List.mem_of_getElem? (i := 709) (by decide +kernel)), (List.mem_of_getElem? (i := 710) (by decide +kernel)), Or.inl (List.mem_of_getElem? (i := 708) (by decide +kernel))⟩
theorem mlL_65 : MV RL 65 6 yX6_record cX6_record 3 (some .int) 2 := ⟨⟨(List.mem_of_getElem? (i := 138) (by decide +kernel)), (List.mem_of_getElem? (i := 715) (by decide +kernel)), by decide +kernel, by decide +kernel⟩, ⟨_, _, ci6⟩, (List.mem_of_getElem? (i := 713) (by decide +kernel)), (List.mem_of_getElem? (i := 714) (by decide +kernel)), Or.inl (List.mem_of_getElem? (i := 712) (by decide +kernel))⟩
theorem mlL_69 : MV RL 69 6 yX6_run cX6_run 4 (some .int) 2 := ⟨⟨(List.mem_of_getElem? (i := 138) (by decide +kernel)), (List.mem_of_getElem? (i := 719) (by decide +kernel)), by decide +kernel, by decide +kernel⟩, ⟨_, _, ci6⟩, (List.mem_of_getElem? (i := 717) (by decide +kernel)), (List.mem_of_getElem? (i := 718) (by decide +kernel)), Or.inl (List.mem_of_getElem? (i := 716) (by decide +kernel))⟩
theorem ml6_149 : MV RX6 149 6 yX6_isRun cX6_isRun 2 (some .boolean) 1 := ⟨⟨(List.mem_of_getElem? (i := 138) (by decide +kernel)), (List.mem_of_getElem? (i := 723) (by decide +kernel)), by decide +kernel, by decide +kernel⟩, ⟨_, _, ci6⟩, (List.mem_of_getElem? (i := 722) (by decide +kernel)), (List.mem_of_getElem? (i := 53) (by decide +kernel)), Or.inl (List.mem_of_getElem? (i := 720) (by decide +kernel))⟩
theorem ml6_153 : MV RX6 153 0 yX0_falls cX0_falls 2 (some .boolean) 1 := ⟨⟨(List.mem_of_getElem? (i := 141) (by decide +kernel)), (List.mem_of_getElem? (i := 533) (by decide +kernel)), by decide +kernel, by decide +kernel⟩, ⟨_, _, ci0⟩, (List.mem_of_getElem? (i := 532) (by decide +kernel)), (List.mem_of_getElem? (i := 14) (by decide +kernel)), Or.inr (List.mem_of_getElem? (i := 724) (by decide +kernel))⟩
theorem ml6_159 : MV RX6 159 4 yX4_grownRecord cX4_grownRecord 6 (some .int) 2 := ⟨⟨(List.mem_of_getElem? (i := 139) (by decide +kernel)), (List.mem_of_getElem? (i := 728) (by decide +kernel)), by decide +kernel, by decide +kernel⟩, ⟨_, _, ci4⟩, (List.mem_of_getElem? (i := 727) (by decide +kernel)), (List.mem_of_getElem? (i := 54) (by decide +kernel)), Or.inr (List.mem_of_getElem? (i := 725) (by decide +kernel))⟩
theorem ml4_115 : MV RX4 115 3 yX3_ranked cX3_ranked 3 (some .int) 2 := ⟨⟨(List.mem_of_getElem? (i := 140) (by decide +kernel)), (List.mem_of_getElem? (i := 732) (by decide +kernel)), by decide +kernel, by decide +kernel⟩, ⟨_, _, ci3⟩, (List.mem_of_getElem? (i := 731) (by decide +kernel)), (List.mem_of_getElem? (i := 55) (by decide +kernel)), Or.inr (List.mem_of_getElem? (i := 729) (by decide +kernel))⟩
theorem mlL_73 : MV RL 73 6 yX6_tape cX6_tape 4 (some .int) 2 := ⟨⟨(List.mem_of_getElem? (i := 138) (by decide +kernel)), (List.mem_of_getElem? (i := 736) (by decide +kernel)), by decide +kernel, by decide +kernel⟩, ⟨_, _, ci6⟩, (List.mem_of_getElem? (i := 734) (by decide +kernel)), (List.mem_of_getElem? (i := 735) (by decide +kernel)), Or.inl (List.mem_of_getElem? (i := 733) (by decide +kernel))⟩
theorem ml6_163 : MV RX6 163 6 yX6_isTape cX6_isTape 2 (some .boolean) 1 := ⟨⟨(List.mem_of_getElem? (i := 138) (by decide +kernel)), (List.mem_of_getElem? (i := 740) (by decide +kernel)), by decide +kernel, by decide +kernel⟩, ⟨_, _, ci6⟩, (List.mem_of_getElem? (i := 739) (by decide +kernel)), (List.mem_of_getElem? (i := 56) (by decide +kernel)), Or.inl (List.mem_of_getElem? (i := 737) (by decide +kernel))⟩
theorem ml6_170 : MV RX6 170 5 yX5_size cX5_size 1 (some .int) 0 := ⟨⟨(List.mem_of_getElem? (i := 145) (by decide +kernel)), (List.mem_of_getElem? (i := 632) (by decide +kernel)), by decide +kernel, by decide +kernel⟩, ⟨_, _, ci5⟩, (List.mem_of_getElem? (i := 631) (by decide +kernel)), (List.mem_of_getElem? (i := 36) (by decide +kernel)), Or.inr (List.mem_of_getElem? (i := 741) (by decide +kernel))⟩
theorem ml6_174 : MV RX6 174 5 yX5_dummies cX5_dummies 3 (some .int) 0 := ⟨⟨(List.mem_of_getElem? (i := 145) (by decide +kernel)), (List.mem_of_getElem? (i := 745) (by decide +kernel)), by decide +kernel, by decide +kernel⟩, ⟨_, _, ci5⟩, (List.mem_of_getElem? (i := 744) (by decide +kernel)), (List.mem_of_getElem? (i := 57) (by decide +kernel)), Or.inr (List.mem_of_getElem? (i := 742) (by decide +kernel))⟩
theorem ml6_177 : MV RX6 177 1 yX1_recordsOn cX1_recordsOn 4 (some .int) 1 := ⟨⟨(List.mem_of_getElem? (i := 142) (by decide +kernel)), (List.mem_of_getElem? (i := 749) (by decide +kernel)), by decide +kernel, by decide +kernel⟩, ⟨_, _, ci1⟩, (List.mem_of_getElem? (i := 748) (by decide +kernel)), (List.mem_of_getElem? (i := 58) (by decide +kernel)), Or.inr (List.mem_of_getElem? (i := 746) (by decide +kernel))⟩
theorem mlL_77 : MV RL 77 6 yX6_on cX6_on 6 (some .int) 3 := ⟨⟨(List.mem_of_getElem? (i := 138) (by decide +kernel)), (List.mem_of_getElem? (i := 753) (by decide +kernel)), by decide +kernel, by decide +kernel⟩, ⟨_, _, ci6⟩, (List.mem_of_getElem? (i := 751) (by decide +kernel)), (List.mem_of_getElem? (i := 752) (by decide +kernel)), Or.inl (List.mem_of_getElem? (i := 750) (by decide +kernel))⟩
theorem ml6_190 : MV RX6 190 5 yX5_at cX5_at 3 (some .int) 2 := ⟨⟨(List.mem_of_getElem? (i := 145) (by decide +kernel)), (List.mem_of_getElem? (i := 640) (by decide +kernel)), by decide +kernel, by decide +kernel⟩, ⟨_, _, ci5⟩, (List.mem_of_getElem? (i := 639) (by decide +kernel)), (List.mem_of_getElem? (i := 38) (by decide +kernel)), Or.inr (List.mem_of_getElem? (i := 754) (by decide +kernel))⟩
theorem ml6_194 : MV RX6 194 1 yX1_sizeOf cX1_sizeOf 2 (some .int) 1 := ⟨⟨(List.mem_of_getElem? (i := 142) (by decide +kernel)), (List.mem_of_getElem? (i := 678) (by decide +kernel)), by decide +kernel, by decide +kernel⟩, ⟨_, _, ci1⟩, (List.mem_of_getElem? (i := 677) (by decide +kernel)), (List.mem_of_getElem? (i := 46) (by decide +kernel)), Or.inr (List.mem_of_getElem? (i := 755) (by decide +kernel))⟩
theorem ml6_197 : MV RX6 197 1 yX1_isDown cX1_isDown 2 (some .boolean) 1 := ⟨⟨(List.mem_of_getElem? (i := 142) (by decide +kernel)), (List.mem_of_getElem? (i := 645) (by decide +kernel)), by decide +kernel, by decide +kernel⟩, ⟨_, _, ci1⟩, (List.mem_of_getElem? (i := 644) (by decide +kernel)), (List.mem_of_getElem? (i := 39) (by decide +kernel)), Or.inr (List.mem_of_getElem? (i := 756) (by decide +kernel))⟩
theorem ml6_200 : MV RX6 200 4 yX4_tapeRecord cX4_tapeRecord 6 (some .int) 2 := ⟨⟨(List.mem_of_getElem? (i := 139) (by decide +kernel)), (List.mem_of_getElem? (i := 760) (by decide +kernel)), by decide +kernel, by decide +kernel⟩, ⟨_, _, ci4⟩, (List.mem_of_getElem? (i := 759) (by decide +kernel)), (List.mem_of_getElem? (i := 59) (by decide +kernel)), Or.inr (List.mem_of_getElem? (i := 757) (by decide +kernel))⟩
theorem ml4_122 : MV RX4 122 1 yX1_isDown cX1_isDown 2 (some .boolean) 1 := ⟨⟨(List.mem_of_getElem? (i := 142) (by decide +kernel)), (List.mem_of_getElem? (i := 645) (by decide +kernel)), by decide +kernel, by decide +kernel⟩, ⟨_, _, ci1⟩, (List.mem_of_getElem? (i := 644) (by decide +kernel)), (List.mem_of_getElem? (i := 39) (by decide +kernel)), Or.inr (List.mem_of_getElem? (i := 761) (by decide +kernel))⟩
theorem mlL_82 : MV RL 82 6 yX6_sorted cX6_sorted 2 (some .int) 1 := ⟨⟨(List.mem_of_getElem? (i := 138) (by decide +kernel)), (List.mem_of_getElem? (i := 765) (by decide +kernel)), by decide +kernel, by decide +kernel⟩, ⟨_, _, ci6⟩, (List.mem_of_getElem? (i := 763) (by decide +kernel)), (List.mem_of_getElem? (i := 764) (by decide +kernel)), Or.inl (List.mem_of_getElem? (i := 762) (by decide +kernel))⟩
theorem mlL_86 : MV RL 86 6 yX6_perfect cX6_perfect 4 (some .int) 2 := ⟨⟨(List.mem_of_getElem? (i := 138) (by decide +kernel)), (List.mem_of_getElem? (i := 769) (by decide +kernel)), by decide +kernel, by decide +kernel⟩, ⟨_, _, ci6⟩, (List.mem_of_getElem? (i := 767) (by decide +kernel)), (List.mem_of_getElem? (i := 768) (by decide +kernel)), Or.inl (List.mem_of_getElem? (i := 766) (by decide +kernel))⟩
theorem ml6_206 : MV RX6 206 2 yX2_climbTo cX2_climbTo 5 none 3 := ⟨⟨(List.mem_of_getElem? (i := 143) (by decide +kernel)), (List.mem_of_getElem? (i := 773) (by decide +kernel)), by decide +kernel, by decide +kernel⟩, ⟨_, _, ci2⟩, (List.mem_of_getElem? (i := 772) (by decide +kernel)), (List.mem_of_getElem? (i := 60) (by decide +kernel)), Or.inr (List.mem_of_getElem? (i := 770) (by decide +kernel))⟩
theorem ml6_210 : MV RX6 210 2 yX2_together cX2_together 3 (some .int) 0 := ⟨⟨(List.mem_of_getElem? (i := 143) (by decide +kernel)), (List.mem_of_getElem? (i := 595) (by decide +kernel)), by decide +kernel, by decide +kernel⟩, ⟨_, _, ci2⟩, (List.mem_of_getElem? (i := 594) (by decide +kernel)), (List.mem_of_getElem? (i := 27) (by decide +kernel)), Or.inr (List.mem_of_getElem? (i := 774) (by decide +kernel))⟩
theorem mlL_90 : MV RL 90 6 yX6_plan cX6_plan 2 (some .int) 1 := ⟨⟨(List.mem_of_getElem? (i := 138) (by decide +kernel)), (List.mem_of_getElem? (i := 778) (by decide +kernel)), by decide +kernel, by decide +kernel⟩, ⟨_, _, ci6⟩, (List.mem_of_getElem? (i := 776) (by decide +kernel)), (List.mem_of_getElem? (i := 777) (by decide +kernel)), Or.inl (List.mem_of_getElem? (i := 775) (by decide +kernel))⟩
theorem ml6_215 : MV RX6 215 6 yX6_beginPlan cX6_beginPlan 1 none 0 := ⟨⟨(List.mem_of_getElem? (i := 138) (by decide +kernel)), (List.mem_of_getElem? (i := 782) (by decide +kernel)), by decide +kernel, by decide +kernel⟩, ⟨_, _, ci6⟩, (List.mem_of_getElem? (i := 781) (by decide +kernel)), (List.mem_of_getElem? (i := 61) (by decide +kernel)), Or.inl (List.mem_of_getElem? (i := 779) (by decide +kernel))⟩
theorem ml6_224 : MV RX6 224 1 yX1_begin cX1_begin 5 none 3 := ⟨⟨(List.mem_of_getElem? (i := 142) (by decide +kernel)), (List.mem_of_getElem? (i := 556) (by decide +kernel)), by decide +kernel, by decide +kernel⟩, ⟨_, _, ci1⟩, (List.mem_of_getElem? (i := 555) (by decide +kernel)), (List.mem_of_getElem? (i := 18) (by decide +kernel)), Or.inr (List.mem_of_getElem? (i := 783) (by decide +kernel))⟩
theorem ml6_228 : MV RX6 228 4 yX4_layRuns cX4_layRuns 3 none 1 := ⟨⟨(List.mem_of_getElem? (i := 139) (by decide +kernel)), (List.mem_of_getElem? (i := 564) (by decide +kernel)), by decide +kernel, by decide +kernel⟩, ⟨_, _, ci4⟩, (List.mem_of_getElem? (i := 563) (by decide +kernel)), (List.mem_of_getElem? (i := 20) (by decide +kernel)), Or.inr (List.mem_of_getElem? (i := 784) (by decide +kernel))⟩
theorem ml6_218 : MV RX6 218 1 yX1_mergeAll cX1_mergeAll 2 none 0 := ⟨⟨(List.mem_of_getElem? (i := 142) (by decide +kernel)), (List.mem_of_getElem? (i := 788) (by decide +kernel)), by decide +kernel, by decide +kernel⟩, ⟨_, _, ci1⟩, (List.mem_of_getElem? (i := 787) (by decide +kernel)), (List.mem_of_getElem? (i := 62) (by decide +kernel)), Or.inr (List.mem_of_getElem? (i := 785) (by decide +kernel))⟩
theorem ml1_184 : MV RX1 184 1 yX1_advance cX1_advance 4 none 0 := ⟨⟨(List.mem_of_getElem? (i := 142) (by decide +kernel)), (List.mem_of_getElem? (i := 661) (by decide +kernel)), by decide +kernel, by decide +kernel⟩, ⟨_, _, ci1⟩, (List.mem_of_getElem? (i := 660) (by decide +kernel)), (List.mem_of_getElem? (i := 42) (by decide +kernel)), Or.inl (List.mem_of_getElem? (i := 790) (by decide +kernel))⟩
theorem mlL_94 : MV RL 94 6 yX6_planned cX6_planned 5 (some .int) 3 := ⟨⟨(List.mem_of_getElem? (i := 138) (by decide +kernel)), (List.mem_of_getElem? (i := 794) (by decide +kernel)), by decide +kernel, by decide +kernel⟩, ⟨_, _, ci6⟩, (List.mem_of_getElem? (i := 792) (by decide +kernel)), (List.mem_of_getElem? (i := 793) (by decide +kernel)), Or.inl (List.mem_of_getElem? (i := 791) (by decide +kernel))⟩
theorem mlL_98 : MV RL 98 6 yX6_least cX6_least 9 (some .int) 1 := ⟨⟨(List.mem_of_getElem? (i := 138) (by decide +kernel)), (List.mem_of_getElem? (i := 798) (by decide +kernel)), by decide +kernel, by decide +kernel⟩, ⟨_, _, ci6⟩, (List.mem_of_getElem? (i := 796) (by decide +kernel)), (List.mem_of_getElem? (i := 797) (by decide +kernel)), Or.inl (List.mem_of_getElem? (i := 795) (by decide +kernel))⟩
theorem ml6_238 : MV RX6 238 6 yX6_takeLightest cX6_takeLightest 4 (some .int) 1 := ⟨⟨(List.mem_of_getElem? (i := 138) (by decide +kernel)), (List.mem_of_getElem? (i := 803) (by decide +kernel)), by decide +kernel, by decide +kernel⟩, ⟨_, _, ci6⟩, (List.mem_of_getElem? (i := 802) (by decide +kernel)), (List.mem_of_getElem? (i := 63) (by decide +kernel)), Or.inl (List.mem_of_getElem? (i := 800) (by decide +kernel))⟩
theorem mlL_102 : MV RL 102 6 yX6_depth cX6_depth 5 (some .int) 1 := ⟨⟨(List.mem_of_getElem? (i := 138) (by decide +kernel)), (List.mem_of_getElem? (i := 807) (by decide +kernel)), by decide +kernel, by decide +kernel⟩, ⟨_, _, ci6⟩, (List.mem_of_getElem? (i := 805) (by decide +kernel)), (List.mem_of_getElem? (i := 806) (by decide +kernel)), Or.inl (List.mem_of_getElem? (i := 804) (by decide +kernel))⟩
theorem ml6_244 : MV RX6 244 1 yX1_advance cX1_advance 4 none 0 := ⟨⟨(List.mem_of_getElem? (i := 142) (by decide +kernel)), (List.mem_of_getElem? (i := 661) (by decide +kernel)), by decide +kernel, by decide +kernel⟩, ⟨_, _, ci1⟩, (List.mem_of_getElem? (i := 660) (by decide +kernel)), (List.mem_of_getElem? (i := 42) (by decide +kernel)), Or.inr (List.mem_of_getElem? (i := 808) (by decide +kernel))⟩
theorem ml6_247 : MV RX6 247 1 yX1_takenFrom cX1_takenFrom 3 (some .int) 1 := ⟨⟨(List.mem_of_getElem? (i := 142) (by decide +kernel)), (List.mem_of_getElem? (i := 702) (by decide +kernel)), by decide +kernel, by decide +kernel⟩, ⟨_, _, ci1⟩, (List.mem_of_getElem? (i := 701) (by decide +kernel)), (List.mem_of_getElem? (i := 52) (by decide +kernel)), Or.inr (List.mem_of_getElem? (i := 809) (by decide +kernel))⟩
theorem mlL_106 : MV RL 106 6 yX6_units cX6_units 5 (some .int) 1 := ⟨⟨(List.mem_of_getElem? (i := 138) (by decide +kernel)), (List.mem_of_getElem? (i := 813) (by decide +kernel)), by decide +kernel, by decide +kernel⟩, ⟨_, _, ci6⟩, (List.mem_of_getElem? (i := 811) (by decide +kernel)), (List.mem_of_getElem? (i := 812) (by decide +kernel)), Or.inl (List.mem_of_getElem? (i := 810) (by decide +kernel))⟩
theorem ml6_253 : MV RX6 253 1 yX1_load cX1_load 3 none 2 := ⟨⟨(List.mem_of_getElem? (i := 142) (by decide +kernel)), (List.mem_of_getElem? (i := 569) (by decide +kernel)), by decide +kernel, by decide +kernel⟩, ⟨_, _, ci1⟩, (List.mem_of_getElem? (i := 568) (by decide +kernel)), (List.mem_of_getElem? (i := 21) (by decide +kernel)), Or.inr (List.mem_of_getElem? (i := 814) (by decide +kernel))⟩
theorem ml6_257 : MV RX6 257 1 yX1_layOut cX1_layOut 2 none 1 := ⟨⟨(List.mem_of_getElem? (i := 142) (by decide +kernel)), (List.mem_of_getElem? (i := 573) (by decide +kernel)), by decide +kernel, by decide +kernel⟩, ⟨_, _, ci1⟩, (List.mem_of_getElem? (i := 572) (by decide +kernel)), (List.mem_of_getElem? (i := 22) (by decide +kernel)), Or.inr (List.mem_of_getElem? (i := 815) (by decide +kernel))⟩
theorem mlL_110 : MV RL 110 6 yX6_stands cX6_stands 7 (some .int) 0 := ⟨⟨(List.mem_of_getElem? (i := 138) (by decide +kernel)), (List.mem_of_getElem? (i := 819) (by decide +kernel)), by decide +kernel, by decide +kernel⟩, ⟨_, _, ci6⟩, (List.mem_of_getElem? (i := 817) (by decide +kernel)), (List.mem_of_getElem? (i := 818) (by decide +kernel)), Or.inl (List.mem_of_getElem? (i := 816) (by decide +kernel))⟩
theorem ml6_261 : MV RX6 261 1 yX1_stand cX1_stand 4 (some .long) 0 := ⟨⟨(List.mem_of_getElem? (i := 142) (by decide +kernel)), (List.mem_of_getElem? (i := 823) (by decide +kernel)), by decide +kernel, by decide +kernel⟩, ⟨_, _, ci1⟩, (List.mem_of_getElem? (i := 822) (by decide +kernel)), (List.mem_of_getElem? (i := 64) (by decide +kernel)), Or.inr (List.mem_of_getElem? (i := 820) (by decide +kernel))⟩
theorem ml6_265 : MV RX6 265 6 yX6_isAmongLikeStands cX6_isAmongLikeStands 5 (some .boolean) 2 := ⟨⟨(List.mem_of_getElem? (i := 138) (by decide +kernel)), (List.mem_of_getElem? (i := 828) (by decide +kernel)), by decide +kernel, by decide +kernel⟩, ⟨_, _, ci6⟩, (List.mem_of_getElem? (i := 827) (by decide +kernel)), (List.mem_of_getElem? (i := 65) (by decide +kernel)), Or.inl (List.mem_of_getElem? (i := 825) (by decide +kernel))⟩
theorem mlL_114 : MV RL 114 6 yX6_key cX6_key 3 (some .int) 2 := ⟨⟨(List.mem_of_getElem? (i := 138) (by decide +kernel)), (List.mem_of_getElem? (i := 832) (by decide +kernel)), by decide +kernel, by decide +kernel⟩, ⟨_, _, ci6⟩, (List.mem_of_getElem? (i := 830) (by decide +kernel)), (List.mem_of_getElem? (i := 831) (by decide +kernel)), Or.inl (List.mem_of_getElem? (i := 829) (by decide +kernel))⟩
theorem ml6_269 : MV RX6 269 3 yX3_howOften cX3_howOften 4 (some .int) 1 := ⟨⟨(List.mem_of_getElem? (i := 140) (by decide +kernel)), (List.mem_of_getElem? (i := 836) (by decide +kernel)), by decide +kernel, by decide +kernel⟩, ⟨_, _, ci3⟩, (List.mem_of_getElem? (i := 835) (by decide +kernel)), (List.mem_of_getElem? (i := 66) (by decide +kernel)), Or.inr (List.mem_of_getElem? (i := 833) (by decide +kernel))⟩
theorem ml6_272 : MV RX6 272 3 yX3_firstOf cX3_firstOf 3 (some .int) 1 := ⟨⟨(List.mem_of_getElem? (i := 140) (by decide +kernel)), (List.mem_of_getElem? (i := 840) (by decide +kernel)), by decide +kernel, by decide +kernel⟩, ⟨_, _, ci3⟩, (List.mem_of_getElem? (i := 839) (by decide +kernel)), (List.mem_of_getElem? (i := 67) (by decide +kernel)), Or.inr (List.mem_of_getElem? (i := 837) (by decide +kernel))⟩
theorem ml6_275 : MV RX6 275 3 yX3_lastOf cX3_lastOf 3 (some .int) 1 := ⟨⟨(List.mem_of_getElem? (i := 140) (by decide +kernel)), (List.mem_of_getElem? (i := 844) (by decide +kernel)), by decide +kernel, by decide +kernel⟩, ⟨_, _, ci3⟩, (List.mem_of_getElem? (i := 843) (by decide +kernel)), (List.mem_of_getElem? (i := 68) (by decide +kernel)), Or.inr (List.mem_of_getElem? (i := 841) (by decide +kernel))⟩
theorem mlL_118 : MV RL 118 6 yX6_keys cX6_keys 3 (some .int) 1 := ⟨⟨(List.mem_of_getElem? (i := 138) (by decide +kernel)), (List.mem_of_getElem? (i := 848) (by decide +kernel)), by decide +kernel, by decide +kernel⟩, ⟨_, _, ci6⟩, (List.mem_of_getElem? (i := 846) (by decide +kernel)), (List.mem_of_getElem? (i := 847) (by decide +kernel)), Or.inl (List.mem_of_getElem? (i := 845) (by decide +kernel))⟩
theorem ml6_278 : MV RX6 278 3 yX3_unlikeKeys cX3_unlikeKeys 3 (some .int) 0 := ⟨⟨(List.mem_of_getElem? (i := 140) (by decide +kernel)), (List.mem_of_getElem? (i := 852) (by decide +kernel)), by decide +kernel, by decide +kernel⟩, ⟨_, _, ci3⟩, (List.mem_of_getElem? (i := 851) (by decide +kernel)), (List.mem_of_getElem? (i := 69) (by decide +kernel)), Or.inr (List.mem_of_getElem? (i := 849) (by decide +kernel))⟩
theorem ml3_31 : MV RX3 31 3 yX3_beginsKey cX3_beginsKey 2 (some .boolean) 1 := ⟨⟨(List.mem_of_getElem? (i := 140) (by decide +kernel)), (List.mem_of_getElem? (i := 856) (by decide +kernel)), by decide +kernel, by decide +kernel⟩, ⟨_, _, ci3⟩, (List.mem_of_getElem? (i := 855) (by decide +kernel)), (List.mem_of_getElem? (i := 70) (by decide +kernel)), Or.inl (List.mem_of_getElem? (i := 853) (by decide +kernel))⟩
theorem ml6_281 : MV RX6 281 3 yX3_keyMostOften cX3_keyMostOften 7 (some .int) 0 := ⟨⟨(List.mem_of_getElem? (i := 140) (by decide +kernel)), (List.mem_of_getElem? (i := 860) (by decide +kernel)), by decide +kernel, by decide +kernel⟩, ⟨_, _, ci3⟩, (List.mem_of_getElem? (i := 859) (by decide +kernel)), (List.mem_of_getElem? (i := 71) (by decide +kernel)), Or.inr (List.mem_of_getElem? (i := 857) (by decide +kernel))⟩
theorem mlL_122 : MV RL 122 6 yX6_about cX6_about 3 (some .int) 1 := ⟨⟨(List.mem_of_getElem? (i := 138) (by decide +kernel)), (List.mem_of_getElem? (i := 864) (by decide +kernel)), by decide +kernel, by decide +kernel⟩, ⟨_, _, ci6⟩, (List.mem_of_getElem? (i := 862) (by decide +kernel)), (List.mem_of_getElem? (i := 863) (by decide +kernel)), Or.inl (List.mem_of_getElem? (i := 861) (by decide +kernel))⟩
theorem ml6_287 : MV RX6 287 3 yX3_naturalRuns cX3_naturalRuns 3 (some .int) 0 := ⟨⟨(List.mem_of_getElem? (i := 140) (by decide +kernel)), (List.mem_of_getElem? (i := 868) (by decide +kernel)), by decide +kernel, by decide +kernel⟩, ⟨_, _, ci3⟩, (List.mem_of_getElem? (i := 867) (by decide +kernel)), (List.mem_of_getElem? (i := 72) (by decide +kernel)), Or.inr (List.mem_of_getElem? (i := 865) (by decide +kernel))⟩
theorem mlL_126 : MV RL 126 6 yX6_forecast cX6_forecast 3 (some .int) 2 := ⟨⟨(List.mem_of_getElem? (i := 138) (by decide +kernel)), (List.mem_of_getElem? (i := 872) (by decide +kernel)), by decide +kernel, by decide +kernel⟩, ⟨_, _, ci6⟩, (List.mem_of_getElem? (i := 870) (by decide +kernel)), (List.mem_of_getElem? (i := 871) (by decide +kernel)), Or.inl (List.mem_of_getElem? (i := 869) (by decide +kernel))⟩
theorem ml6_290 : MV RX6 290 4 yX4_fetchedTape cX4_fetchedTape 7 (some .int) 2 := ⟨⟨(List.mem_of_getElem? (i := 139) (by decide +kernel)), (List.mem_of_getElem? (i := 876) (by decide +kernel)), by decide +kernel, by decide +kernel⟩, ⟨_, _, ci4⟩, (List.mem_of_getElem? (i := 875) (by decide +kernel)), (List.mem_of_getElem? (i := 73) (by decide +kernel)), Or.inr (List.mem_of_getElem? (i := 873) (by decide +kernel))⟩
theorem ml4_125 : MV RX4 125 1 yX1_look cX1_look 2 none 0 := ⟨⟨(List.mem_of_getElem? (i := 142) (by decide +kernel)), (List.mem_of_getElem? (i := 665) (by decide +kernel)), by decide +kernel, by decide +kernel⟩, ⟨_, _, ci1⟩, (List.mem_of_getElem? (i := 664) (by decide +kernel)), (List.mem_of_getElem? (i := 43) (by decide +kernel)), Or.inr (List.mem_of_getElem? (i := 877) (by decide +kernel))⟩
theorem ml4_132 : MV RX4 132 4 yX4_isFetchedBehindNext cX4_isFetchedBehindNext 3 (some .boolean) 2 := ⟨⟨(List.mem_of_getElem? (i := 139) (by decide +kernel)), (List.mem_of_getElem? (i := 881) (by decide +kernel)), by decide +kernel, by decide +kernel⟩, ⟨_, _, ci4⟩, (List.mem_of_getElem? (i := 880) (by decide +kernel)), (List.mem_of_getElem? (i := 74) (by decide +kernel)), Or.inl (List.mem_of_getElem? (i := 878) (by decide +kernel))⟩
theorem ml4_139 : MV RX4 139 1 yX1_sizeOf cX1_sizeOf 2 (some .int) 1 := ⟨⟨(List.mem_of_getElem? (i := 142) (by decide +kernel)), (List.mem_of_getElem? (i := 678) (by decide +kernel)), by decide +kernel, by decide +kernel⟩, ⟨_, _, ci1⟩, (List.mem_of_getElem? (i := 677) (by decide +kernel)), (List.mem_of_getElem? (i := 46) (by decide +kernel)), Or.inr (List.mem_of_getElem? (i := 882) (by decide +kernel))⟩
theorem mlL_130 : MV RL 130 6 yX6_needs cX6_needs 4 (some .int) 1 := ⟨⟨(List.mem_of_getElem? (i := 138) (by decide +kernel)), (List.mem_of_getElem? (i := 886) (by decide +kernel)), by decide +kernel, by decide +kernel⟩, ⟨_, _, ci6⟩, (List.mem_of_getElem? (i := 884) (by decide +kernel)), (List.mem_of_getElem? (i := 885) (by decide +kernel)), Or.inl (List.mem_of_getElem? (i := 883) (by decide +kernel))⟩
theorem ml6_293 : MV RX6 293 1 yX1_copyFrom cX1_copyFrom 3 none 1 := ⟨⟨(List.mem_of_getElem? (i := 142) (by decide +kernel)), (List.mem_of_getElem? (i := 459) (by decide +kernel)), by decide +kernel, by decide +kernel⟩, ⟨_, _, ci1⟩, (List.mem_of_getElem? (i := 458) (by decide +kernel)), (List.mem_of_getElem? (i := 5) (by decide +kernel)), Or.inr (List.mem_of_getElem? (i := 887) (by decide +kernel))⟩
theorem ml6_296 : MV RX6 296 1 yX1_look cX1_look 2 none 0 := ⟨⟨(List.mem_of_getElem? (i := 142) (by decide +kernel)), (List.mem_of_getElem? (i := 665) (by decide +kernel)), by decide +kernel, by decide +kernel⟩, ⟨_, _, ci1⟩, (List.mem_of_getElem? (i := 664) (by decide +kernel)), (List.mem_of_getElem? (i := 43) (by decide +kernel)), Or.inr (List.mem_of_getElem? (i := 888) (by decide +kernel))⟩
theorem ml6_299 : MV RX6 299 1 yX1_blocksTaken cX1_blocksTaken 4 (some .int) 1 := ⟨⟨(List.mem_of_getElem? (i := 142) (by decide +kernel)), (List.mem_of_getElem? (i := 892) (by decide +kernel)), by decide +kernel, by decide +kernel⟩, ⟨_, _, ci1⟩, (List.mem_of_getElem? (i := 891) (by decide +kernel)), (List.mem_of_getElem? (i := 75) (by decide +kernel)), Or.inr (List.mem_of_getElem? (i := 889) (by decide +kernel))⟩
theorem mlL_134 : MV RL 134 6 yX6_undo cX6_undo 1 (some .int) 0 := ⟨⟨(List.mem_of_getElem? (i := 138) (by decide +kernel)), (List.mem_of_getElem? (i := 896) (by decide +kernel)), by decide +kernel, by decide +kernel⟩, ⟨_, _, ci6⟩, (List.mem_of_getElem? (i := 894) (by decide +kernel)), (List.mem_of_getElem? (i := 895) (by decide +kernel)), Or.inl (List.mem_of_getElem? (i := 893) (by decide +kernel))⟩
theorem mlL_138 : MV RL 138 6 yX6_keep cX6_keep 2 (some .int) 1 := ⟨⟨(List.mem_of_getElem? (i := 138) (by decide +kernel)), (List.mem_of_getElem? (i := 900) (by decide +kernel)), by decide +kernel, by decide +kernel⟩, ⟨_, _, ci6⟩, (List.mem_of_getElem? (i := 898) (by decide +kernel)), (List.mem_of_getElem? (i := 899) (by decide +kernel)), Or.inl (List.mem_of_getElem? (i := 897) (by decide +kernel))⟩
theorem mlL_142 : MV RL 142 6 yX6_back cX6_back 2 (some .int) 1 := ⟨⟨(List.mem_of_getElem? (i := 138) (by decide +kernel)), (List.mem_of_getElem? (i := 904) (by decide +kernel)), by decide +kernel, by decide +kernel⟩, ⟨_, _, ci6⟩, (List.mem_of_getElem? (i := 902) (by decide +kernel)), (List.mem_of_getElem? (i := 903) (by decide +kernel)), Or.inl (List.mem_of_getElem? (i := 901) (by decide +kernel))⟩
theorem mlL_146 : MV RL 146 6 yX6_count cX6_count 2 (some .int) 1 := ⟨⟨(List.mem_of_getElem? (i := 138) (by decide +kernel)), (List.mem_of_getElem? (i := 908) (by decide +kernel)), by decide +kernel, by decide +kernel⟩, ⟨_, _, ci6⟩, (List.mem_of_getElem? (i := 906) (by decide +kernel)), (List.mem_of_getElem? (i := 907) (by decide +kernel)), Or.inl (List.mem_of_getElem? (i := 905) (by decide +kernel))⟩
theorem fl7_9 : FL RX7 9 7 0 true := ⟨_, _, _, ci7, by omega, rfl, Or.inl (List.mem_of_getElem? (i := 916) (by decide +kernel))⟩
theorem fl7_13 : FL RX7 13 7 1 true := ⟨_, _, _, ci7, by omega, rfl, Or.inl (List.mem_of_getElem? (i := 917) (by decide +kernel))⟩
theorem fl7_17 : FL RX7 17 7 2 true := ⟨_, _, _, ci7, by omega, rfl, Or.inl (List.mem_of_getElem? (i := 918) (by decide +kernel))⟩
theorem fl7_20 : FL RX7 20 7 3 true := ⟨_, _, _, ci7, by omega, rfl, Or.inl (List.mem_of_getElem? (i := 919) (by decide +kernel))⟩
theorem fl7_75 : FL RX7 75 7 4 false := ⟨_, _, _, ci7, by omega, rfl, Or.inl (List.mem_of_getElem? (i := 920) (by decide +kernel))⟩
theorem fl7_324 : FL RX7 324 7 5 false := ⟨_, _, _, ci7, by omega, rfl, Or.inl (List.mem_of_getElem? (i := 921) (by decide +kernel))⟩
theorem fl7_23 : FL RX7 23 7 6 true := ⟨_, _, _, ci7, by omega, rfl, Or.inl (List.mem_of_getElem? (i := 922) (by decide +kernel))⟩
theorem fl7_86 : FL RX7 86 7 7 false := ⟨_, _, _, ci7, by omega, rfl, Or.inl (List.mem_of_getElem? (i := 923) (by decide +kernel))⟩
theorem fl7_27 : FL RX7 27 7 8 true := ⟨_, _, _, ci7, by omega, rfl, Or.inl (List.mem_of_getElem? (i := 924) (by decide +kernel))⟩
theorem fl7_30 : FL RX7 30 7 9 true := ⟨_, _, _, ci7, by omega, rfl, Or.inl (List.mem_of_getElem? (i := 925) (by decide +kernel))⟩
theorem fl7_128 : FL RX7 128 7 10 false := ⟨_, _, _, ci7, by omega, rfl, Or.inl (List.mem_of_getElem? (i := 926) (by decide +kernel))⟩
theorem fl7_33 : FL RX7 33 7 11 true := ⟨_, _, _, ci7, by omega, rfl, Or.inl (List.mem_of_getElem? (i := 927) (by decide +kernel))⟩
theorem fl7_36 : FL RX7 36 7 12 true := ⟨_, _, _, ci7, by omega, rfl, Or.inl (List.mem_of_getElem? (i := 928) (by decide +kernel))⟩
theorem fl7_39 : FL RX7 39 7 13 true := ⟨_, _, _, ci7, by omega, rfl, Or.inl (List.mem_of_getElem? (i := 929) (by decide +kernel))⟩
theorem fl7_42 : FL RX7 42 7 14 true := ⟨_, _, _, ci7, by omega, rfl, Or.inl (List.mem_of_getElem? (i := 930) (by decide +kernel))⟩
theorem fl7_172 : FL RX7 172 7 15 false := ⟨_, _, _, ci7, by omega, rfl, Or.inl (List.mem_of_getElem? (i := 931) (by decide +kernel))⟩
theorem fl7_45 : FL RX7 45 7 16 true := ⟨_, _, _, ci7, by omega, rfl, Or.inl (List.mem_of_getElem? (i := 932) (by decide +kernel))⟩
theorem fl7_48 : FL RX7 48 7 17 true := ⟨_, _, _, ci7, by omega, rfl, Or.inl (List.mem_of_getElem? (i := 933) (by decide +kernel))⟩
theorem fl7_51 : FL RX7 51 7 18 true := ⟨_, _, _, ci7, by omega, rfl, Or.inl (List.mem_of_getElem? (i := 934) (by decide +kernel))⟩
theorem fl7_54 : FL RX7 54 7 19 true := ⟨_, _, _, ci7, by omega, rfl, Or.inl (List.mem_of_getElem? (i := 935) (by decide +kernel))⟩
theorem fl7_264 : FL RX7 264 7 20 false := ⟨_, _, _, ci7, by omega, rfl, Or.inl (List.mem_of_getElem? (i := 936) (by decide +kernel))⟩
theorem fl7_57 : FL RX7 57 7 21 true := ⟨_, _, _, ci7, by omega, rfl, Or.inl (List.mem_of_getElem? (i := 937) (by decide +kernel))⟩
theorem fl7_60 : FL RX7 60 7 22 true := ⟨_, _, _, ci7, by omega, rfl, Or.inl (List.mem_of_getElem? (i := 938) (by decide +kernel))⟩
theorem fl7_274 : FL RX7 274 7 23 false := ⟨_, _, _, ci7, by omega, rfl, Or.inl (List.mem_of_getElem? (i := 939) (by decide +kernel))⟩
theorem fl7_277 : FL RX7 277 7 24 false := ⟨_, _, _, ci7, by omega, rfl, Or.inl (List.mem_of_getElem? (i := 940) (by decide +kernel))⟩
theorem fl7_280 : FL RX7 280 7 25 false := ⟨_, _, _, ci7, by omega, rfl, Or.inl (List.mem_of_getElem? (i := 941) (by decide +kernel))⟩
theorem fl7_63 : FL RX7 63 7 26 true := ⟨_, _, _, ci7, by omega, rfl, Or.inl (List.mem_of_getElem? (i := 942) (by decide +kernel))⟩
theorem fl7_66 : FL RX7 66 7 27 true := ⟨_, _, _, ci7, by omega, rfl, Or.inl (List.mem_of_getElem? (i := 943) (by decide +kernel))⟩
theorem fl7_69 : FL RX7 69 7 28 true := ⟨_, _, _, ci7, by omega, rfl, Or.inl (List.mem_of_getElem? (i := 944) (by decide +kernel))⟩
theorem fl7_72 : FL RX7 72 7 29 true := ⟨_, _, _, ci7, by omega, rfl, Or.inl (List.mem_of_getElem? (i := 945) (by decide +kernel))⟩
theorem mlL_137 : MV RL 137 7 yX7_undo cX7_undo 1 (some .int) 0 := ⟨⟨(List.mem_of_getElem? (i := 146) (by decide +kernel)), (List.mem_of_getElem? (i := 1011) (by decide +kernel)), by decide +kernel, by decide +kernel⟩, ⟨_, _, ci7⟩, (List.mem_of_getElem? (i := 1009) (by decide +kernel)), (List.mem_of_getElem? (i := 1010) (by decide +kernel)), Or.inl (List.mem_of_getElem? (i := 1008) (by decide +kernel))⟩
theorem ml7_83 : MV RX7 83 7 yX7_laysFrom cX7_laysFrom 4 none 2 := ⟨⟨(List.mem_of_getElem? (i := 146) (by decide +kernel)), (List.mem_of_getElem? (i := 1015) (by decide +kernel)), by decide +kernel, by decide +kernel⟩, ⟨_, _, ci7⟩, (List.mem_of_getElem? (i := 1014) (by decide +kernel)), (List.mem_of_getElem? (i := 76) (by decide +kernel)), Or.inl (List.mem_of_getElem? (i := 1012) (by decide +kernel))⟩
theorem mlL_17 : MV RL 17 7 yX7_feed cX7_feed 6 (some .int) 5 := ⟨⟨(List.mem_of_getElem? (i := 146) (by decide +kernel)), (List.mem_of_getElem? (i := 1019) (by decide +kernel)), by decide +kernel, by decide +kernel⟩, ⟨_, _, ci7⟩, (List.mem_of_getElem? (i := 1017) (by decide +kernel)), (List.mem_of_getElem? (i := 1018) (by decide +kernel)), Or.inl (List.mem_of_getElem? (i := 1016) (by decide +kernel))⟩
theorem ml7_89 : MV RX7 89 7 yX7_puts cX7_puts 3 none 1 := ⟨⟨(List.mem_of_getElem? (i := 146) (by decide +kernel)), (List.mem_of_getElem? (i := 1023) (by decide +kernel)), by decide +kernel, by decide +kernel⟩, ⟨_, _, ci7⟩, (List.mem_of_getElem? (i := 1022) (by decide +kernel)), (List.mem_of_getElem? (i := 77) (by decide +kernel)), Or.inl (List.mem_of_getElem? (i := 1020) (by decide +kernel))⟩
theorem mlL_22 : MV RL 22 7 yX7_end cX7_end 2 (some .int) 1 := ⟨⟨(List.mem_of_getElem? (i := 146) (by decide +kernel)), (List.mem_of_getElem? (i := 1027) (by decide +kernel)), by decide +kernel, by decide +kernel⟩, ⟨_, _, ci7⟩, (List.mem_of_getElem? (i := 1025) (by decide +kernel)), (List.mem_of_getElem? (i := 1026) (by decide +kernel)), Or.inl (List.mem_of_getElem? (i := 1024) (by decide +kernel))⟩
theorem mlL_27 : MV RL 27 7 yX7_tell cX7_tell 2 (some .int) 0 := ⟨⟨(List.mem_of_getElem? (i := 146) (by decide +kernel)), (List.mem_of_getElem? (i := 1031) (by decide +kernel)), by decide +kernel, by decide +kernel⟩, ⟨_, _, ci7⟩, (List.mem_of_getElem? (i := 1029) (by decide +kernel)), (List.mem_of_getElem? (i := 1030) (by decide +kernel)), Or.inl (List.mem_of_getElem? (i := 1028) (by decide +kernel))⟩
theorem ml7_93 : MV RX7 93 7 yX7_many cX7_many 1 (some .int) 0 := ⟨⟨(List.mem_of_getElem? (i := 146) (by decide +kernel)), (List.mem_of_getElem? (i := 1035) (by decide +kernel)), by decide +kernel, by decide +kernel⟩, ⟨_, _, ci7⟩, (List.mem_of_getElem? (i := 1034) (by decide +kernel)), (List.mem_of_getElem? (i := 78) (by decide +kernel)), Or.inl (List.mem_of_getElem? (i := 1032) (by decide +kernel))⟩
theorem ml7_100 : MV RX7 100 7 yX7_remembers cX7_remembers 2 none 0 := ⟨⟨(List.mem_of_getElem? (i := 146) (by decide +kernel)), (List.mem_of_getElem? (i := 1039) (by decide +kernel)), by decide +kernel, by decide +kernel⟩, ⟨_, _, ci7⟩, (List.mem_of_getElem? (i := 1038) (by decide +kernel)), (List.mem_of_getElem? (i := 79) (by decide +kernel)), Or.inl (List.mem_of_getElem? (i := 1036) (by decide +kernel))⟩
theorem ml7_79 : MV RX7 79 7 yX7_keepsIn cX7_keepsIn 4 none 2 := ⟨⟨(List.mem_of_getElem? (i := 146) (by decide +kernel)), (List.mem_of_getElem? (i := 1043) (by decide +kernel)), by decide +kernel, by decide +kernel⟩, ⟨_, _, ci7⟩, (List.mem_of_getElem? (i := 1042) (by decide +kernel)), (List.mem_of_getElem? (i := 80) (by decide +kernel)), Or.inl (List.mem_of_getElem? (i := 1040) (by decide +kernel))⟩
theorem ml7_103 : MV RX7 103 7 yX7_comes cX7_comes 2 none 1 := ⟨⟨(List.mem_of_getElem? (i := 146) (by decide +kernel)), (List.mem_of_getElem? (i := 1047) (by decide +kernel)), by decide +kernel, by decide +kernel⟩, ⟨_, _, ci7⟩, (List.mem_of_getElem? (i := 1046) (by decide +kernel)), (List.mem_of_getElem? (i := 81) (by decide +kernel)), Or.inl (List.mem_of_getElem? (i := 1044) (by decide +kernel))⟩
theorem ml7_106 : MV RX7 106 7 yX7_begins cX7_begins 1 none 0 := ⟨⟨(List.mem_of_getElem? (i := 146) (by decide +kernel)), (List.mem_of_getElem? (i := 1051) (by decide +kernel)), by decide +kernel, by decide +kernel⟩, ⟨_, _, ci7⟩, (List.mem_of_getElem? (i := 1050) (by decide +kernel)), (List.mem_of_getElem? (i := 82) (by decide +kernel)), Or.inl (List.mem_of_getElem? (i := 1048) (by decide +kernel))⟩
theorem ml7_97 : MV RX7 97 7 yX7_clearsCounts cX7_clearsCounts 1 none 0 := ⟨⟨(List.mem_of_getElem? (i := 146) (by decide +kernel)), (List.mem_of_getElem? (i := 1055) (by decide +kernel)), by decide +kernel, by decide +kernel⟩, ⟨_, _, ci7⟩, (List.mem_of_getElem? (i := 1054) (by decide +kernel)), (List.mem_of_getElem? (i := 83) (by decide +kernel)), Or.inl (List.mem_of_getElem? (i := 1052) (by decide +kernel))⟩
theorem mlL_32 : MV RL 32 7 yX7_drawn cX7_drawn 4 (some .int) 2 := ⟨⟨(List.mem_of_getElem? (i := 146) (by decide +kernel)), (List.mem_of_getElem? (i := 1059) (by decide +kernel)), by decide +kernel, by decide +kernel⟩, ⟨_, _, ci7⟩, (List.mem_of_getElem? (i := 1057) (by decide +kernel)), (List.mem_of_getElem? (i := 1058) (by decide +kernel)), Or.inl (List.mem_of_getElem? (i := 1056) (by decide +kernel))⟩
theorem ml7_116 : MS RX7 116 yX7_in cX7_in 3 (some .boolean) 3 := ⟨⟨(List.mem_of_getElem? (i := 146) (by decide +kernel)), (List.mem_of_getElem? (i := 1062) (by decide +kernel)), by decide +kernel, by decide +kernel⟩, (List.mem_of_getElem? (i := 1061) (by decide +kernel)), (List.mem_of_getElem? (i := 1060) (by decide +kernel))⟩
theorem ml7_120 : MV RX7 120 7 yX7_drawnOf cX7_drawnOf 2 (some .int) 1 := ⟨⟨(List.mem_of_getElem? (i := 146) (by decide +kernel)), (List.mem_of_getElem? (i := 1066) (by decide +kernel)), by decide +kernel, by decide +kernel⟩, ⟨_, _, ci7⟩, (List.mem_of_getElem? (i := 1065) (by decide +kernel)), (List.mem_of_getElem? (i := 84) (by decide +kernel)), Or.inl (List.mem_of_getElem? (i := 1063) (by decide +kernel))⟩
theorem mlL_36 : MV RL 36 7 yX7_draws cX7_draws 3 (some .int) 1 := ⟨⟨(List.mem_of_getElem? (i := 146) (by decide +kernel)), (List.mem_of_getElem? (i := 1074) (by decide +kernel)), by decide +kernel, by decide +kernel⟩, ⟨_, _, ci7⟩, (List.mem_of_getElem? (i := 1072) (by decide +kernel)), (List.mem_of_getElem? (i := 1073) (by decide +kernel)), Or.inl (List.mem_of_getElem? (i := 1071) (by decide +kernel))⟩
theorem mlL_40 : MV RL 40 7 yX7_clear cX7_clear 2 (some .int) 0 := ⟨⟨(List.mem_of_getElem? (i := 146) (by decide +kernel)), (List.mem_of_getElem? (i := 1078) (by decide +kernel)), by decide +kernel, by decide +kernel⟩, ⟨_, _, ci7⟩, (List.mem_of_getElem? (i := 1076) (by decide +kernel)), (List.mem_of_getElem? (i := 1077) (by decide +kernel)), Or.inl (List.mem_of_getElem? (i := 1075) (by decide +kernel))⟩
theorem mlL_44 : MV RL 44 7 yX7_settle cX7_settle 4 (some .int) 2 := ⟨⟨(List.mem_of_getElem? (i := 146) (by decide +kernel)), (List.mem_of_getElem? (i := 1082) (by decide +kernel)), by decide +kernel, by decide +kernel⟩, ⟨_, _, ci7⟩, (List.mem_of_getElem? (i := 1080) (by decide +kernel)), (List.mem_of_getElem? (i := 1081) (by decide +kernel)), Or.inl (List.mem_of_getElem? (i := 1079) (by decide +kernel))⟩
theorem ml7_124 : MS RX7 124 yX7_canSet cX7_canSet 2 (some .boolean) 2 := ⟨⟨(List.mem_of_getElem? (i := 146) (by decide +kernel)), (List.mem_of_getElem? (i := 1085) (by decide +kernel)), by decide +kernel, by decide +kernel⟩, (List.mem_of_getElem? (i := 1084) (by decide +kernel)), (List.mem_of_getElem? (i := 1083) (by decide +kernel))⟩
theorem mlL_48 : MV RL 48 7 yX7_grow cX7_grow 1 (some .int) 0 := ⟨⟨(List.mem_of_getElem? (i := 146) (by decide +kernel)), (List.mem_of_getElem? (i := 1089) (by decide +kernel)), by decide +kernel, by decide +kernel⟩, ⟨_, _, ci7⟩, (List.mem_of_getElem? (i := 1087) (by decide +kernel)), (List.mem_of_getElem? (i := 1088) (by decide +kernel)), Or.inl (List.mem_of_getElem? (i := 1086) (by decide +kernel))⟩
theorem ml7_148 : MV RX7 148 7 yX7_laysRuns cX7_laysRuns 6 none 0 := ⟨⟨(List.mem_of_getElem? (i := 146) (by decide +kernel)), (List.mem_of_getElem? (i := 1093) (by decide +kernel)), by decide +kernel, by decide +kernel⟩, ⟨_, _, ci7⟩, (List.mem_of_getElem? (i := 1092) (by decide +kernel)), (List.mem_of_getElem? (i := 85) (by decide +kernel)), Or.inl (List.mem_of_getElem? (i := 1090) (by decide +kernel))⟩
theorem ml7_138 : MV RX7 138 7 yX7_room cX7_room 1 (some .int) 0 := ⟨⟨(List.mem_of_getElem? (i := 146) (by decide +kernel)), (List.mem_of_getElem? (i := 1097) (by decide +kernel)), by decide +kernel, by decide +kernel⟩, ⟨_, _, ci7⟩, (List.mem_of_getElem? (i := 1096) (by decide +kernel)), (List.mem_of_getElem? (i := 86) (by decide +kernel)), Or.inl (List.mem_of_getElem? (i := 1094) (by decide +kernel))⟩
theorem ml7_141 : MV RX7 141 7 yX7_comesIn cX7_comesIn 3 none 2 := ⟨⟨(List.mem_of_getElem? (i := 146) (by decide +kernel)), (List.mem_of_getElem? (i := 1101) (by decide +kernel)), by decide +kernel, by decide +kernel⟩, ⟨_, _, ci7⟩, (List.mem_of_getElem? (i := 1100) (by decide +kernel)), (List.mem_of_getElem? (i := 87) (by decide +kernel)), Or.inl (List.mem_of_getElem? (i := 1098) (by decide +kernel))⟩
theorem ml7_145 : MV RX7 145 7 yX7_firstOf cX7_firstOf 4 (some .int) 1 := ⟨⟨(List.mem_of_getElem? (i := 146) (by decide +kernel)), (List.mem_of_getElem? (i := 1105) (by decide +kernel)), by decide +kernel, by decide +kernel⟩, ⟨_, _, ci7⟩, (List.mem_of_getElem? (i := 1104) (by decide +kernel)), (List.mem_of_getElem? (i := 88) (by decide +kernel)), Or.inl (List.mem_of_getElem? (i := 1102) (by decide +kernel))⟩
theorem ml7_131 : MV RX7 131 7 yX7_isLess cX7_isLess 3 (some .boolean) 2 := ⟨⟨(List.mem_of_getElem? (i := 146) (by decide +kernel)), (List.mem_of_getElem? (i := 1109) (by decide +kernel)), by decide +kernel, by decide +kernel⟩, ⟨_, _, ci7⟩, (List.mem_of_getElem? (i := 1108) (by decide +kernel)), (List.mem_of_getElem? (i := 89) (by decide +kernel)), Or.inl (List.mem_of_getElem? (i := 1106) (by decide +kernel))⟩
theorem ml7_134 : MV RX7 134 7 yX7_doesFall cX7_doesFall 2 (some .boolean) 1 := ⟨⟨(List.mem_of_getElem? (i := 146) (by decide +kernel)), (List.mem_of_getElem? (i := 1113) (by decide +kernel)), by decide +kernel, by decide +kernel⟩, ⟨_, _, ci7⟩, (List.mem_of_getElem? (i := 1112) (by decide +kernel)), (List.mem_of_getElem? (i := 90) (by decide +kernel)), Or.inl (List.mem_of_getElem? (i := 1110) (by decide +kernel))⟩
theorem mlL_89 : MV RL 89 7 yX7_perfect cX7_perfect 4 (some .int) 2 := ⟨⟨(List.mem_of_getElem? (i := 146) (by decide +kernel)), (List.mem_of_getElem? (i := 1117) (by decide +kernel)), by decide +kernel, by decide +kernel⟩, ⟨_, _, ci7⟩, (List.mem_of_getElem? (i := 1115) (by decide +kernel)), (List.mem_of_getElem? (i := 1116) (by decide +kernel)), Or.inl (List.mem_of_getElem? (i := 1114) (by decide +kernel))⟩
theorem ml7_155 : MV RX7 155 7 yX7_tapes cX7_tapes 1 (some .int) 0 := ⟨⟨(List.mem_of_getElem? (i := 146) (by decide +kernel)), (List.mem_of_getElem? (i := 1121) (by decide +kernel)), by decide +kernel, by decide +kernel⟩, ⟨_, _, ci7⟩, (List.mem_of_getElem? (i := 1120) (by decide +kernel)), (List.mem_of_getElem? (i := 91) (by decide +kernel)), Or.inl (List.mem_of_getElem? (i := 1118) (by decide +kernel))⟩
theorem ml7_158 : MV RX7 158 7 yX7_way cX7_way 1 (some .int) 0 := ⟨⟨(List.mem_of_getElem? (i := 146) (by decide +kernel)), (List.mem_of_getElem? (i := 1125) (by decide +kernel)), by decide +kernel, by decide +kernel⟩, ⟨_, _, ci7⟩, (List.mem_of_getElem? (i := 1124) (by decide +kernel)), (List.mem_of_getElem? (i := 92) (by decide +kernel)), Or.inl (List.mem_of_getElem? (i := 1122) (by decide +kernel))⟩
theorem ml7_161 : MV RX7 161 7 yX7_laysPerfect cX7_laysPerfect 7 none 3 := ⟨⟨(List.mem_of_getElem? (i := 146) (by decide +kernel)), (List.mem_of_getElem? (i := 1129) (by decide +kernel)), by decide +kernel, by decide +kernel⟩, ⟨_, _, ci7⟩, (List.mem_of_getElem? (i := 1128) (by decide +kernel)), (List.mem_of_getElem? (i := 93) (by decide +kernel)), Or.inl (List.mem_of_getElem? (i := 1126) (by decide +kernel))⟩
theorem ml7_151 : MS RX7 151 yX7_truth cX7_truth 1 (some .int) 1 := ⟨⟨(List.mem_of_getElem? (i := 146) (by decide +kernel)), (List.mem_of_getElem? (i := 1132) (by decide +kernel)), by decide +kernel, by decide +kernel⟩, (List.mem_of_getElem? (i := 1131) (by decide +kernel)), (List.mem_of_getElem? (i := 1130) (by decide +kernel))⟩
theorem ml7_165 : MV RX7 165 7 yX7_allPerfect cX7_allPerfect 4 (some .int) 1 := ⟨⟨(List.mem_of_getElem? (i := 146) (by decide +kernel)), (List.mem_of_getElem? (i := 1136) (by decide +kernel)), by decide +kernel, by decide +kernel⟩, ⟨_, _, ci7⟩, (List.mem_of_getElem? (i := 1135) (by decide +kernel)), (List.mem_of_getElem? (i := 94) (by decide +kernel)), Or.inl (List.mem_of_getElem? (i := 1133) (by decide +kernel))⟩
theorem mlL_52 : MV RL 52 7 yX7_spread cX7_spread 1 (some .int) 0 := ⟨⟨(List.mem_of_getElem? (i := 146) (by decide +kernel)), (List.mem_of_getElem? (i := 1140) (by decide +kernel)), by decide +kernel, by decide +kernel⟩, ⟨_, _, ci7⟩, (List.mem_of_getElem? (i := 1138) (by decide +kernel)), (List.mem_of_getElem? (i := 1139) (by decide +kernel)), Or.inl (List.mem_of_getElem? (i := 1137) (by decide +kernel))⟩
theorem ml7_216 : MV RX7 216 7 yX7_canSpread cX7_canSpread 1 (some .boolean) 0 := ⟨⟨(List.mem_of_getElem? (i := 146) (by decide +kernel)), (List.mem_of_getElem? (i := 1144) (by decide +kernel)), by decide +kernel, by decide +kernel⟩, ⟨_, _, ci7⟩, (List.mem_of_getElem? (i := 1143) (by decide +kernel)), (List.mem_of_getElem? (i := 95) (by decide +kernel)), Or.inl (List.mem_of_getElem? (i := 1141) (by decide +kernel))⟩
theorem ml7_219 : MV RX7 219 7 yX7_spreads cX7_spreads 3 none 0 := ⟨⟨(List.mem_of_getElem? (i := 146) (by decide +kernel)), (List.mem_of_getElem? (i := 1148) (by decide +kernel)), by decide +kernel, by decide +kernel⟩, ⟨_, _, ci7⟩, (List.mem_of_getElem? (i := 1147) (by decide +kernel)), (List.mem_of_getElem? (i := 96) (by decide +kernel)), Or.inl (List.mem_of_getElem? (i := 1145) (by decide +kernel))⟩
theorem ml7_197 : MV RX7 197 7 yX7_dealsRun cX7_dealsRun 6 none 2 := ⟨⟨(List.mem_of_getElem? (i := 146) (by decide +kernel)), (List.mem_of_getElem? (i := 1152) (by decide +kernel)), by decide +kernel, by decide +kernel⟩, ⟨_, _, ci7⟩, (List.mem_of_getElem? (i := 1151) (by decide +kernel)), (List.mem_of_getElem? (i := 97) (by decide +kernel)), Or.inl (List.mem_of_getElem? (i := 1149) (by decide +kernel))⟩
theorem ml7_185 : MV RX7 185 7 yX7_runSize cX7_runSize 2 (some .int) 1 := ⟨⟨(List.mem_of_getElem? (i := 146) (by decide +kernel)), (List.mem_of_getElem? (i := 1156) (by decide +kernel)), by decide +kernel, by decide +kernel⟩, ⟨_, _, ci7⟩, (List.mem_of_getElem? (i := 1155) (by decide +kernel)), (List.mem_of_getElem? (i := 98) (by decide +kernel)), Or.inl (List.mem_of_getElem? (i := 1153) (by decide +kernel))⟩
theorem ml7_179 : MV RX7 179 7 yX7_makesRun cX7_makesRun 3 (some .int) 2 := ⟨⟨(List.mem_of_getElem? (i := 146) (by decide +kernel)), (List.mem_of_getElem? (i := 1160) (by decide +kernel)), by decide +kernel, by decide +kernel⟩, ⟨_, _, ci7⟩, (List.mem_of_getElem? (i := 1159) (by decide +kernel)), (List.mem_of_getElem? (i := 99) (by decide +kernel)), Or.inl (List.mem_of_getElem? (i := 1157) (by decide +kernel))⟩
theorem ml7_188 : MV RX7 188 7 yX7_isBack cX7_isBack 1 (some .boolean) 0 := ⟨⟨(List.mem_of_getElem? (i := 146) (by decide +kernel)), (List.mem_of_getElem? (i := 1164) (by decide +kernel)), by decide +kernel, by decide +kernel⟩, ⟨_, _, ci7⟩, (List.mem_of_getElem? (i := 1163) (by decide +kernel)), (List.mem_of_getElem? (i := 100) (by decide +kernel)), Or.inl (List.mem_of_getElem? (i := 1161) (by decide +kernel))⟩
theorem ml7_182 : MV RX7 182 7 yX7_comesLast cX7_comesLast 3 none 2 := ⟨⟨(List.mem_of_getElem? (i := 146) (by decide +kernel)), (List.mem_of_getElem? (i := 1168) (by decide +kernel)), by decide +kernel, by decide +kernel⟩, ⟨_, _, ci7⟩, (List.mem_of_getElem? (i := 1167) (by decide +kernel)), (List.mem_of_getElem? (i := 101) (by decide +kernel)), Or.inl (List.mem_of_getElem? (i := 1165) (by decide +kernel))⟩
theorem ml7_200 : MV RX7 200 7 yX7_spreadsPerfectly cX7_spreadsPerfectly 7 none 0 := ⟨⟨(List.mem_of_getElem? (i := 146) (by decide +kernel)), (List.mem_of_getElem? (i := 1172) (by decide +kernel)), by decide +kernel, by decide +kernel⟩, ⟨_, _, ci7⟩, (List.mem_of_getElem? (i := 1171) (by decide +kernel)), (List.mem_of_getElem? (i := 102) (by decide +kernel)), Or.inl (List.mem_of_getElem? (i := 1169) (by decide +kernel))⟩
theorem ml7_191 : MV RX7 191 7 yX7_dealsDummies cX7_dealsDummies 7 none 2 := ⟨⟨(List.mem_of_getElem? (i := 146) (by decide +kernel)), (List.mem_of_getElem? (i := 1176) (by decide +kernel)), by decide +kernel, by decide +kernel⟩, ⟨_, _, ci7⟩, (List.mem_of_getElem? (i := 1175) (by decide +kernel)), (List.mem_of_getElem? (i := 103) (by decide +kernel)), Or.inl (List.mem_of_getElem? (i := 1173) (by decide +kernel))⟩
theorem ml7_175 : MV RX7 175 7 yX7_isFront cX7_isFront 1 (some .boolean) 0 := ⟨⟨(List.mem_of_getElem? (i := 146) (by decide +kernel)), (List.mem_of_getElem? (i := 1180) (by decide +kernel)), by decide +kernel, by decide +kernel⟩, ⟨_, _, ci7⟩, (List.mem_of_getElem? (i := 1179) (by decide +kernel)), (List.mem_of_getElem? (i := 104) (by decide +kernel)), Or.inl (List.mem_of_getElem? (i := 1177) (by decide +kernel))⟩
theorem ml7_194 : MV RX7 194 7 yX7_placesLeft cX7_placesLeft 2 (some .int) 1 := ⟨⟨(List.mem_of_getElem? (i := 146) (by decide +kernel)), (List.mem_of_getElem? (i := 1184) (by decide +kernel)), by decide +kernel, by decide +kernel⟩, ⟨_, _, ci7⟩, (List.mem_of_getElem? (i := 1183) (by decide +kernel)), (List.mem_of_getElem? (i := 105) (by decide +kernel)), Or.inl (List.mem_of_getElem? (i := 1181) (by decide +kernel))⟩
theorem ml7_203 : MV RX7 203 7 yX7_beginsPass cX7_beginsPass 2 none 0 := ⟨⟨(List.mem_of_getElem? (i := 146) (by decide +kernel)), (List.mem_of_getElem? (i := 1188) (by decide +kernel)), by decide +kernel, by decide +kernel⟩, ⟨_, _, ci7⟩, (List.mem_of_getElem? (i := 1187) (by decide +kernel)), (List.mem_of_getElem? (i := 106) (by decide +kernel)), Or.inl (List.mem_of_getElem? (i := 1185) (by decide +kernel))⟩
theorem ml7_206 : MV RX7 206 7 yX7_looksWhetherMerged cX7_looksWhetherMerged 3 none 0 := ⟨⟨(List.mem_of_getElem? (i := 146) (by decide +kernel)), (List.mem_of_getElem? (i := 1192) (by decide +kernel)), by decide +kernel, by decide +kernel⟩, ⟨_, _, ci7⟩, (List.mem_of_getElem? (i := 1191) (by decide +kernel)), (List.mem_of_getElem? (i := 107) (by decide +kernel)), Or.inl (List.mem_of_getElem? (i := 1189) (by decide +kernel))⟩
theorem ml7_209 : MV RX7 209 7 yX7_onAll cX7_onAll 3 (some .int) 0 := ⟨⟨(List.mem_of_getElem? (i := 146) (by decide +kernel)), (List.mem_of_getElem? (i := 1196) (by decide +kernel)), by decide +kernel, by decide +kernel⟩, ⟨_, _, ci7⟩, (List.mem_of_getElem? (i := 1195) (by decide +kernel)), (List.mem_of_getElem? (i := 108) (by decide +kernel)), Or.inl (List.mem_of_getElem? (i := 1193) (by decide +kernel))⟩
theorem ml7_168 : MV RX7 168 7 yX7_runAt cX7_runAt 3 (some .int) 2 := ⟨⟨(List.mem_of_getElem? (i := 146) (by decide +kernel)), (List.mem_of_getElem? (i := 1200) (by decide +kernel)), by decide +kernel, by decide +kernel⟩, ⟨_, _, ci7⟩, (List.mem_of_getElem? (i := 1199) (by decide +kernel)), (List.mem_of_getElem? (i := 109) (by decide +kernel)), Or.inl (List.mem_of_getElem? (i := 1197) (by decide +kernel))⟩
theorem ml7_212 : MV RX7 212 7 yX7_sorts cX7_sorts 7 none 3 := ⟨⟨(List.mem_of_getElem? (i := 146) (by decide +kernel)), (List.mem_of_getElem? (i := 1204) (by decide +kernel)), by decide +kernel, by decide +kernel⟩, ⟨_, _, ci7⟩, (List.mem_of_getElem? (i := 1203) (by decide +kernel)), (List.mem_of_getElem? (i := 110) (by decide +kernel)), Or.inl (List.mem_of_getElem? (i := 1201) (by decide +kernel))⟩
theorem mlL_56 : MV RL 56 7 yX7_step cX7_step 1 (some .int) 0 := ⟨⟨(List.mem_of_getElem? (i := 146) (by decide +kernel)), (List.mem_of_getElem? (i := 1208) (by decide +kernel)), by decide +kernel, by decide +kernel⟩, ⟨_, _, ci7⟩, (List.mem_of_getElem? (i := 1206) (by decide +kernel)), (List.mem_of_getElem? (i := 1207) (by decide +kernel)), Or.inl (List.mem_of_getElem? (i := 1205) (by decide +kernel))⟩
theorem ml7_258 : MV RX7 258 7 yX7_refused cX7_refused 1 (some .int) 0 := ⟨⟨(List.mem_of_getElem? (i := 146) (by decide +kernel)), (List.mem_of_getElem? (i := 1212) (by decide +kernel)), by decide +kernel, by decide +kernel⟩, ⟨_, _, ci7⟩, (List.mem_of_getElem? (i := 1211) (by decide +kernel)), (List.mem_of_getElem? (i := 111) (by decide +kernel)), Or.inl (List.mem_of_getElem? (i := 1209) (by decide +kernel))⟩
theorem ml7_255 : MV RX7 255 7 yX7_isSpread cX7_isSpread 1 (some .boolean) 0 := ⟨⟨(List.mem_of_getElem? (i := 146) (by decide +kernel)), (List.mem_of_getElem? (i := 1216) (by decide +kernel)), by decide +kernel, by decide +kernel⟩, ⟨_, _, ci7⟩, (List.mem_of_getElem? (i := 1215) (by decide +kernel)), (List.mem_of_getElem? (i := 112) (by decide +kernel)), Or.inl (List.mem_of_getElem? (i := 1213) (by decide +kernel))⟩
theorem ml7_261 : MV RX7 261 7 yX7_steps cX7_steps 6 (some .int) 0 := ⟨⟨(List.mem_of_getElem? (i := 146) (by decide +kernel)), (List.mem_of_getElem? (i := 1220) (by decide +kernel)), by decide +kernel, by decide +kernel⟩, ⟨_, _, ci7⟩, (List.mem_of_getElem? (i := 1219) (by decide +kernel)), (List.mem_of_getElem? (i := 113) (by decide +kernel)), Or.inl (List.mem_of_getElem? (i := 1217) (by decide +kernel))⟩
theorem ml7_234 : MV RX7 234 7 yX7_laysTaken cX7_laysTaken 4 (some .boolean) 0 := ⟨⟨(List.mem_of_getElem? (i := 146) (by decide +kernel)), (List.mem_of_getElem? (i := 1224) (by decide +kernel)), by decide +kernel, by decide +kernel⟩, ⟨_, _, ci7⟩, (List.mem_of_getElem? (i := 1223) (by decide +kernel)), (List.mem_of_getElem? (i := 114) (by decide +kernel)), Or.inl (List.mem_of_getElem? (i := 1221) (by decide +kernel))⟩
theorem ml7_225 : MV RX7 225 7 yX7_doesGive cX7_doesGive 2 (some .boolean) 1 := ⟨⟨(List.mem_of_getElem? (i := 146) (by decide +kernel)), (List.mem_of_getElem? (i := 1228) (by decide +kernel)), by decide +kernel, by decide +kernel⟩, ⟨_, _, ci7⟩, (List.mem_of_getElem? (i := 1227) (by decide +kernel)), (List.mem_of_getElem? (i := 115) (by decide +kernel)), Or.inl (List.mem_of_getElem? (i := 1225) (by decide +kernel))⟩
theorem ml7_222 : MV RX7 222 7 yX7_isInHalf cX7_isInHalf 3 (some .boolean) 2 := ⟨⟨(List.mem_of_getElem? (i := 146) (by decide +kernel)), (List.mem_of_getElem? (i := 1232) (by decide +kernel)), by decide +kernel, by decide +kernel⟩, ⟨_, _, ci7⟩, (List.mem_of_getElem? (i := 1231) (by decide +kernel)), (List.mem_of_getElem? (i := 116) (by decide +kernel)), Or.inl (List.mem_of_getElem? (i := 1229) (by decide +kernel))⟩
theorem ml7_237 : MV RX7 237 7 yX7_takesFirst cX7_takesFirst 4 (some .int) 1 := ⟨⟨(List.mem_of_getElem? (i := 146) (by decide +kernel)), (List.mem_of_getElem? (i := 1236) (by decide +kernel)), by decide +kernel, by decide +kernel⟩, ⟨_, _, ci7⟩, (List.mem_of_getElem? (i := 1235) (by decide +kernel)), (List.mem_of_getElem? (i := 117) (by decide +kernel)), Or.inl (List.mem_of_getElem? (i := 1233) (by decide +kernel))⟩
theorem ml7_240 : MV RX7 240 7 yX7_gathers cX7_gathers 6 (some .int) 0 := ⟨⟨(List.mem_of_getElem? (i := 146) (by decide +kernel)), (List.mem_of_getElem? (i := 1240) (by decide +kernel)), by decide +kernel, by decide +kernel⟩, ⟨_, _, ci7⟩, (List.mem_of_getElem? (i := 1239) (by decide +kernel)), (List.mem_of_getElem? (i := 118) (by decide +kernel)), Or.inl (List.mem_of_getElem? (i := 1237) (by decide +kernel))⟩
theorem ml7_228 : MV RX7 228 7 yX7_isInTaken cX7_isInTaken 3 (some .boolean) 1 := ⟨⟨(List.mem_of_getElem? (i := 146) (by decide +kernel)), (List.mem_of_getElem? (i := 1244) (by decide +kernel)), by decide +kernel, by decide +kernel⟩, ⟨_, _, ci7⟩, (List.mem_of_getElem? (i := 1243) (by decide +kernel)), (List.mem_of_getElem? (i := 119) (by decide +kernel)), Or.inl (List.mem_of_getElem? (i := 1241) (by decide +kernel))⟩
theorem ml7_231 : MV RX7 231 7 yX7_shiftsRuns cX7_shiftsRuns 6 none 0 := ⟨⟨(List.mem_of_getElem? (i := 146) (by decide +kernel)), (List.mem_of_getElem? (i := 1248) (by decide +kernel)), by decide +kernel, by decide +kernel⟩, ⟨_, _, ci7⟩, (List.mem_of_getElem? (i := 1247) (by decide +kernel)), (List.mem_of_getElem? (i := 120) (by decide +kernel)), Or.inl (List.mem_of_getElem? (i := 1245) (by decide +kernel))⟩
theorem ml7_243 : MV RX7 243 7 yX7_comesFirst cX7_comesFirst 4 none 2 := ⟨⟨(List.mem_of_getElem? (i := 146) (by decide +kernel)), (List.mem_of_getElem? (i := 1252) (by decide +kernel)), by decide +kernel, by decide +kernel⟩, ⟨_, _, ci7⟩, (List.mem_of_getElem? (i := 1251) (by decide +kernel)), (List.mem_of_getElem? (i := 121) (by decide +kernel)), Or.inl (List.mem_of_getElem? (i := 1249) (by decide +kernel))⟩
theorem ml7_246 : MV RX7 246 7 yX7_goesOn cX7_goesOn 4 none 0 := ⟨⟨(List.mem_of_getElem? (i := 146) (by decide +kernel)), (List.mem_of_getElem? (i := 1256) (by decide +kernel)), by decide +kernel, by decide +kernel⟩, ⟨_, _, ci7⟩, (List.mem_of_getElem? (i := 1255) (by decide +kernel)), (List.mem_of_getElem? (i := 122) (by decide +kernel)), Or.inl (List.mem_of_getElem? (i := 1253) (by decide +kernel))⟩
theorem ml7_249 : MV RX7 249 7 yX7_goesOnBalanced cX7_goesOnBalanced 4 none 0 := ⟨⟨(List.mem_of_getElem? (i := 146) (by decide +kernel)), (List.mem_of_getElem? (i := 1260) (by decide +kernel)), by decide +kernel, by decide +kernel⟩, ⟨_, _, ci7⟩, (List.mem_of_getElem? (i := 1259) (by decide +kernel)), (List.mem_of_getElem? (i := 123) (by decide +kernel)), Or.inl (List.mem_of_getElem? (i := 1257) (by decide +kernel))⟩
theorem ml7_252 : MV RX7 252 7 yX7_emptied cX7_emptied 2 (some .int) 0 := ⟨⟨(List.mem_of_getElem? (i := 146) (by decide +kernel)), (List.mem_of_getElem? (i := 1264) (by decide +kernel)), by decide +kernel, by decide +kernel⟩, ⟨_, _, ci7⟩, (List.mem_of_getElem? (i := 1263) (by decide +kernel)), (List.mem_of_getElem? (i := 124) (by decide +kernel)), Or.inl (List.mem_of_getElem? (i := 1261) (by decide +kernel))⟩
theorem mlL_60 : MV RL 60 7 yX7_phase cX7_phase 3 (some .int) 0 := ⟨⟨(List.mem_of_getElem? (i := 146) (by decide +kernel)), (List.mem_of_getElem? (i := 1268) (by decide +kernel)), by decide +kernel, by decide +kernel⟩, ⟨_, _, ci7⟩, (List.mem_of_getElem? (i := 1266) (by decide +kernel)), (List.mem_of_getElem? (i := 1267) (by decide +kernel)), Or.inl (List.mem_of_getElem? (i := 1265) (by decide +kernel))⟩
theorem mlL_64 : MV RL 64 7 yX7_all cX7_all 2 (some .int) 0 := ⟨⟨(List.mem_of_getElem? (i := 146) (by decide +kernel)), (List.mem_of_getElem? (i := 1272) (by decide +kernel)), by decide +kernel, by decide +kernel⟩, ⟨_, _, ci7⟩, (List.mem_of_getElem? (i := 1270) (by decide +kernel)), (List.mem_of_getElem? (i := 1271) (by decide +kernel)), Or.inl (List.mem_of_getElem? (i := 1269) (by decide +kernel))⟩
theorem mlL_68 : MV RL 68 7 yX7_record cX7_record 3 (some .int) 2 := ⟨⟨(List.mem_of_getElem? (i := 146) (by decide +kernel)), (List.mem_of_getElem? (i := 1276) (by decide +kernel)), by decide +kernel, by decide +kernel⟩, ⟨_, _, ci7⟩, (List.mem_of_getElem? (i := 1274) (by decide +kernel)), (List.mem_of_getElem? (i := 1275) (by decide +kernel)), Or.inl (List.mem_of_getElem? (i := 1273) (by decide +kernel))⟩
theorem mlL_72 : MV RL 72 7 yX7_run cX7_run 3 (some .int) 2 := ⟨⟨(List.mem_of_getElem? (i := 146) (by decide +kernel)), (List.mem_of_getElem? (i := 1280) (by decide +kernel)), by decide +kernel, by decide +kernel⟩, ⟨_, _, ci7⟩, (List.mem_of_getElem? (i := 1278) (by decide +kernel)), (List.mem_of_getElem? (i := 1279) (by decide +kernel)), Or.inl (List.mem_of_getElem? (i := 1277) (by decide +kernel))⟩
theorem mlL_76 : MV RL 76 7 yX7_tape cX7_tape 6 (some .int) 2 := ⟨⟨(List.mem_of_getElem? (i := 146) (by decide +kernel)), (List.mem_of_getElem? (i := 1284) (by decide +kernel)), by decide +kernel, by decide +kernel⟩, ⟨_, _, ci7⟩, (List.mem_of_getElem? (i := 1282) (by decide +kernel)), (List.mem_of_getElem? (i := 1283) (by decide +kernel)), Or.inl (List.mem_of_getElem? (i := 1281) (by decide +kernel))⟩
theorem mlL_81 : MV RL 81 7 yX7_on cX7_on 5 (some .int) 3 := ⟨⟨(List.mem_of_getElem? (i := 146) (by decide +kernel)), (List.mem_of_getElem? (i := 1288) (by decide +kernel)), by decide +kernel, by decide +kernel⟩, ⟨_, _, ci7⟩, (List.mem_of_getElem? (i := 1286) (by decide +kernel)), (List.mem_of_getElem? (i := 1287) (by decide +kernel)), Or.inl (List.mem_of_getElem? (i := 1285) (by decide +kernel))⟩
theorem mlL_85 : MV RL 85 7 yX7_sorted cX7_sorted 2 (some .int) 1 := ⟨⟨(List.mem_of_getElem? (i := 146) (by decide +kernel)), (List.mem_of_getElem? (i := 1292) (by decide +kernel)), by decide +kernel, by decide +kernel⟩, ⟨_, _, ci7⟩, (List.mem_of_getElem? (i := 1290) (by decide +kernel)), (List.mem_of_getElem? (i := 1291) (by decide +kernel)), Or.inl (List.mem_of_getElem? (i := 1289) (by decide +kernel))⟩
theorem mlL_93 : MV RL 93 7 yX7_plan cX7_plan 2 (some .int) 1 := ⟨⟨(List.mem_of_getElem? (i := 146) (by decide +kernel)), (List.mem_of_getElem? (i := 1296) (by decide +kernel)), by decide +kernel, by decide +kernel⟩, ⟨_, _, ci7⟩, (List.mem_of_getElem? (i := 1294) (by decide +kernel)), (List.mem_of_getElem? (i := 1295) (by decide +kernel)), Or.inl (List.mem_of_getElem? (i := 1293) (by decide +kernel))⟩
theorem ml7_270 : MV RX7 270 7 yX7_goesThrough cX7_goesThrough 6 (some .int) 4 := ⟨⟨(List.mem_of_getElem? (i := 146) (by decide +kernel)), (List.mem_of_getElem? (i := 1300) (by decide +kernel)), by decide +kernel, by decide +kernel⟩, ⟨_, _, ci7⟩, (List.mem_of_getElem? (i := 1299) (by decide +kernel)), (List.mem_of_getElem? (i := 125) (by decide +kernel)), Or.inl (List.mem_of_getElem? (i := 1297) (by decide +kernel))⟩
theorem ml7_267 : MV RX7 267 7 yX7_notesStand cX7_notesStand 4 none 0 := ⟨⟨(List.mem_of_getElem? (i := 146) (by decide +kernel)), (List.mem_of_getElem? (i := 1304) (by decide +kernel)), by decide +kernel, by decide +kernel⟩, ⟨_, _, ci7⟩, (List.mem_of_getElem? (i := 1303) (by decide +kernel)), (List.mem_of_getElem? (i := 126) (by decide +kernel)), Or.inl (List.mem_of_getElem? (i := 1301) (by decide +kernel))⟩
theorem mlL_97 : MV RL 97 7 yX7_planned cX7_planned 4 (some .int) 3 := ⟨⟨(List.mem_of_getElem? (i := 146) (by decide +kernel)), (List.mem_of_getElem? (i := 1308) (by decide +kernel)), by decide +kernel, by decide +kernel⟩, ⟨_, _, ci7⟩, (List.mem_of_getElem? (i := 1306) (by decide +kernel)), (List.mem_of_getElem? (i := 1307) (by decide +kernel)), Or.inl (List.mem_of_getElem? (i := 1305) (by decide +kernel))⟩
theorem mlL_113 : MV RL 113 7 yX7_stands cX7_stands 1 (some .int) 0 := ⟨⟨(List.mem_of_getElem? (i := 146) (by decide +kernel)), (List.mem_of_getElem? (i := 1312) (by decide +kernel)), by decide +kernel, by decide +kernel⟩, ⟨_, _, ci7⟩, (List.mem_of_getElem? (i := 1310) (by decide +kernel)), (List.mem_of_getElem? (i := 1311) (by decide +kernel)), Or.inl (List.mem_of_getElem? (i := 1309) (by decide +kernel))⟩
theorem mlL_105 : MV RL 105 7 yX7_depth cX7_depth 5 (some .int) 1 := ⟨⟨(List.mem_of_getElem? (i := 146) (by decide +kernel)), (List.mem_of_getElem? (i := 1316) (by decide +kernel)), by decide +kernel, by decide +kernel⟩, ⟨_, _, ci7⟩, (List.mem_of_getElem? (i := 1314) (by decide +kernel)), (List.mem_of_getElem? (i := 1315) (by decide +kernel)), Or.inl (List.mem_of_getElem? (i := 1313) (by decide +kernel))⟩
theorem mlL_109 : MV RL 109 7 yX7_units cX7_units 4 (some .int) 1 := ⟨⟨(List.mem_of_getElem? (i := 146) (by decide +kernel)), (List.mem_of_getElem? (i := 1320) (by decide +kernel)), by decide +kernel, by decide +kernel⟩, ⟨_, _, ci7⟩, (List.mem_of_getElem? (i := 1318) (by decide +kernel)), (List.mem_of_getElem? (i := 1319) (by decide +kernel)), Or.inl (List.mem_of_getElem? (i := 1317) (by decide +kernel))⟩
theorem ml7_294 : MV RX7 294 7 yX7_beginsUnits cX7_beginsUnits 2 none 0 := ⟨⟨(List.mem_of_getElem? (i := 146) (by decide +kernel)), (List.mem_of_getElem? (i := 1324) (by decide +kernel)), by decide +kernel, by decide +kernel⟩, ⟨_, _, ci7⟩, (List.mem_of_getElem? (i := 1323) (by decide +kernel)), (List.mem_of_getElem? (i := 127) (by decide +kernel)), Or.inl (List.mem_of_getElem? (i := 1321) (by decide +kernel))⟩
theorem ml7_297 : MV RX7 297 7 yX7_isMoreThanOne cX7_isMoreThanOne 3 (some .boolean) 0 := ⟨⟨(List.mem_of_getElem? (i := 146) (by decide +kernel)), (List.mem_of_getElem? (i := 1328) (by decide +kernel)), by decide +kernel, by decide +kernel⟩, ⟨_, _, ci7⟩, (List.mem_of_getElem? (i := 1327) (by decide +kernel)), (List.mem_of_getElem? (i := 128) (by decide +kernel)), Or.inl (List.mem_of_getElem? (i := 1325) (by decide +kernel))⟩
theorem ml7_300 : MV RX7 300 7 yX7_goesUnits cX7_goesUnits 7 (some .int) 0 := ⟨⟨(List.mem_of_getElem? (i := 146) (by decide +kernel)), (List.mem_of_getElem? (i := 1332) (by decide +kernel)), by decide +kernel, by decide +kernel⟩, ⟨_, _, ci7⟩, (List.mem_of_getElem? (i := 1331) (by decide +kernel)), (List.mem_of_getElem? (i := 129) (by decide +kernel)), Or.inl (List.mem_of_getElem? (i := 1329) (by decide +kernel))⟩
theorem ml7_286 : MV RX7 286 7 yX7_givesUnits cX7_givesUnits 3 (some .boolean) 1 := ⟨⟨(List.mem_of_getElem? (i := 146) (by decide +kernel)), (List.mem_of_getElem? (i := 1337) (by decide +kernel)), by decide +kernel, by decide +kernel⟩, ⟨_, _, ci7⟩, (List.mem_of_getElem? (i := 1336) (by decide +kernel)), (List.mem_of_getElem? (i := 130) (by decide +kernel)), Or.inl (List.mem_of_getElem? (i := 1334) (by decide +kernel))⟩
theorem mlL_101 : MV RL 101 7 yX7_least cX7_least 6 (some .int) 1 := ⟨⟨(List.mem_of_getElem? (i := 146) (by decide +kernel)), (List.mem_of_getElem? (i := 1342) (by decide +kernel)), by decide +kernel, by decide +kernel⟩, ⟨_, _, ci7⟩, (List.mem_of_getElem? (i := 1340) (by decide +kernel)), (List.mem_of_getElem? (i := 1341) (by decide +kernel)), Or.inl (List.mem_of_getElem? (i := 1339) (by decide +kernel))⟩
theorem ml7_303 : MV RX7 303 7 yX7_takesLeast cX7_takesLeast 4 (some .int) 1 := ⟨⟨(List.mem_of_getElem? (i := 146) (by decide +kernel)), (List.mem_of_getElem? (i := 1346) (by decide +kernel)), by decide +kernel, by decide +kernel⟩, ⟨_, _, ci7⟩, (List.mem_of_getElem? (i := 1345) (by decide +kernel)), (List.mem_of_getElem? (i := 131) (by decide +kernel)), Or.inl (List.mem_of_getElem? (i := 1343) (by decide +kernel))⟩
theorem mlL_117 : MV RL 117 7 yX7_key cX7_key 6 (some .int) 2 := ⟨⟨(List.mem_of_getElem? (i := 146) (by decide +kernel)), (List.mem_of_getElem? (i := 1350) (by decide +kernel)), by decide +kernel, by decide +kernel⟩, ⟨_, _, ci7⟩, (List.mem_of_getElem? (i := 1348) (by decide +kernel)), (List.mem_of_getElem? (i := 1349) (by decide +kernel)), Or.inl (List.mem_of_getElem? (i := 1347) (by decide +kernel))⟩
theorem ml7_306 : MV RX7 306 7 yX7_oftenOf cX7_oftenOf 4 (some .int) 1 := ⟨⟨(List.mem_of_getElem? (i := 146) (by decide +kernel)), (List.mem_of_getElem? (i := 1354) (by decide +kernel)), by decide +kernel, by decide +kernel⟩, ⟨_, _, ci7⟩, (List.mem_of_getElem? (i := 1353) (by decide +kernel)), (List.mem_of_getElem? (i := 132) (by decide +kernel)), Or.inl (List.mem_of_getElem? (i := 1351) (by decide +kernel))⟩
theorem mlL_121 : MV RL 121 7 yX7_keys cX7_keys 9 (some .int) 1 := ⟨⟨(List.mem_of_getElem? (i := 146) (by decide +kernel)), (List.mem_of_getElem? (i := 1358) (by decide +kernel)), by decide +kernel, by decide +kernel⟩, ⟨_, _, ci7⟩, (List.mem_of_getElem? (i := 1356) (by decide +kernel)), (List.mem_of_getElem? (i := 1357) (by decide +kernel)), Or.inl (List.mem_of_getElem? (i := 1355) (by decide +kernel))⟩
theorem mlL_125 : MV RL 125 7 yX7_about cX7_about 2 (some .int) 1 := ⟨⟨(List.mem_of_getElem? (i := 146) (by decide +kernel)), (List.mem_of_getElem? (i := 1363) (by decide +kernel)), by decide +kernel, by decide +kernel⟩, ⟨_, _, ci7⟩, (List.mem_of_getElem? (i := 1361) (by decide +kernel)), (List.mem_of_getElem? (i := 1362) (by decide +kernel)), Or.inl (List.mem_of_getElem? (i := 1360) (by decide +kernel))⟩
theorem ml7_312 : MV RX7 312 7 yX7_inversions cX7_inversions 4 (some .int) 0 := ⟨⟨(List.mem_of_getElem? (i := 146) (by decide +kernel)), (List.mem_of_getElem? (i := 1367) (by decide +kernel)), by decide +kernel, by decide +kernel⟩, ⟨_, _, ci7⟩, (List.mem_of_getElem? (i := 1366) (by decide +kernel)), (List.mem_of_getElem? (i := 133) (by decide +kernel)), Or.inl (List.mem_of_getElem? (i := 1364) (by decide +kernel))⟩
theorem ml7_315 : MV RX7 315 7 yX7_naturalRuns cX7_naturalRuns 3 (some .int) 0 := ⟨⟨(List.mem_of_getElem? (i := 146) (by decide +kernel)), (List.mem_of_getElem? (i := 1371) (by decide +kernel)), by decide +kernel, by decide +kernel⟩, ⟨_, _, ci7⟩, (List.mem_of_getElem? (i := 1370) (by decide +kernel)), (List.mem_of_getElem? (i := 134) (by decide +kernel)), Or.inl (List.mem_of_getElem? (i := 1368) (by decide +kernel))⟩
theorem ml7_318 : MV RX7 318 7 yX7_midst cX7_midst 4 (some .int) 0 := ⟨⟨(List.mem_of_getElem? (i := 146) (by decide +kernel)), (List.mem_of_getElem? (i := 1375) (by decide +kernel)), by decide +kernel, by decide +kernel⟩, ⟨_, _, ci7⟩, (List.mem_of_getElem? (i := 1374) (by decide +kernel)), (List.mem_of_getElem? (i := 135) (by decide +kernel)), Or.inl (List.mem_of_getElem? (i := 1372) (by decide +kernel))⟩
theorem mlL_129 : MV RL 129 7 yX7_forecast cX7_forecast 7 (some .int) 2 := ⟨⟨(List.mem_of_getElem? (i := 146) (by decide +kernel)), (List.mem_of_getElem? (i := 1379) (by decide +kernel)), by decide +kernel, by decide +kernel⟩, ⟨_, _, ci7⟩, (List.mem_of_getElem? (i := 1377) (by decide +kernel)), (List.mem_of_getElem? (i := 1378) (by decide +kernel)), Or.inl (List.mem_of_getElem? (i := 1376) (by decide +kernel))⟩
theorem ml7_321 : MV RX7 321 7 yX7_laysWrites cX7_laysWrites 7 (some .int) 0 := ⟨⟨(List.mem_of_getElem? (i := 146) (by decide +kernel)), (List.mem_of_getElem? (i := 1383) (by decide +kernel)), by decide +kernel, by decide +kernel⟩, ⟨_, _, ci7⟩, (List.mem_of_getElem? (i := 1382) (by decide +kernel)), (List.mem_of_getElem? (i := 136) (by decide +kernel)), Or.inl (List.mem_of_getElem? (i := 1380) (by decide +kernel))⟩
theorem mlL_133 : MV RL 133 7 yX7_needs cX7_needs 4 (some .int) 1 := ⟨⟨(List.mem_of_getElem? (i := 146) (by decide +kernel)), (List.mem_of_getElem? (i := 1387) (by decide +kernel)), by decide +kernel, by decide +kernel⟩, ⟨_, _, ci7⟩, (List.mem_of_getElem? (i := 1385) (by decide +kernel)), (List.mem_of_getElem? (i := 1386) (by decide +kernel)), Or.inl (List.mem_of_getElem? (i := 1384) (by decide +kernel))⟩
theorem mlL_141 : MV RL 141 7 yX7_keep cX7_keep 2 (some .int) 1 := ⟨⟨(List.mem_of_getElem? (i := 146) (by decide +kernel)), (List.mem_of_getElem? (i := 1391) (by decide +kernel)), by decide +kernel, by decide +kernel⟩, ⟨_, _, ci7⟩, (List.mem_of_getElem? (i := 1389) (by decide +kernel)), (List.mem_of_getElem? (i := 1390) (by decide +kernel)), Or.inl (List.mem_of_getElem? (i := 1388) (by decide +kernel))⟩
theorem mlL_145 : MV RL 145 7 yX7_back cX7_back 3 (some .int) 1 := ⟨⟨(List.mem_of_getElem? (i := 146) (by decide +kernel)), (List.mem_of_getElem? (i := 1395) (by decide +kernel)), by decide +kernel, by decide +kernel⟩, ⟨_, _, ci7⟩, (List.mem_of_getElem? (i := 1393) (by decide +kernel)), (List.mem_of_getElem? (i := 1394) (by decide +kernel)), Or.inl (List.mem_of_getElem? (i := 1392) (by decide +kernel))⟩
theorem mlL_149 : MV RL 149 7 yX7_count cX7_count 2 (some .int) 1 := ⟨⟨(List.mem_of_getElem? (i := 146) (by decide +kernel)), (List.mem_of_getElem? (i := 1399) (by decide +kernel)), by decide +kernel, by decide +kernel⟩, ⟨_, _, ci7⟩, (List.mem_of_getElem? (i := 1397) (by decide +kernel)), (List.mem_of_getElem? (i := 1398) (by decide +kernel)), Or.inl (List.mem_of_getElem? (i := 1396) (by decide +kernel))⟩
theorem cs6_89 : Cond.constantLong RX6 89 (1103515245) ∈ lw_tbl := (List.mem_of_getElem? (i := 482) (by decide +kernel))
theorem cs6_91 : Cond.constantLong RX6 91 (12345) ∈ lw_tbl := (List.mem_of_getElem? (i := 483) (by decide +kernel))
theorem cs6_93 : Cond.constantLong RX6 93 (2147483647) ∈ lw_tbl := (List.mem_of_getElem? (i := 484) (by decide +kernel))
theorem cs6_95 : Cond.constant RX6 95 (65536) ∈ lw_tbl := (List.mem_of_getElem? (i := 485) (by decide +kernel))
theorem cs6_142 : Cond.constant RX6 142 (100000) ∈ lw_tbl := (List.mem_of_getElem? (i := 707) (by decide +kernel))
theorem cs1_183 : Cond.constant RX1 183 (100000) ∈ lw_tbl := (List.mem_of_getElem? (i := 789) (by decide +kernel))
theorem cs1_187 : Cond.constantLong RX1 187 (1024) ∈ lw_tbl := (List.mem_of_getElem? (i := 824) (by decide +kernel))
theorem cs7_16 : Cond.constant RX7 16 (62616) ∈ lw_tbl := (List.mem_of_getElem? (i := 915) (by decide +kernel))
theorem cs7_109 : Cond.constantLong RX7 109 (1103515245) ∈ lw_tbl := (List.mem_of_getElem? (i := 1067) (by decide +kernel))
theorem cs7_111 : Cond.constantLong RX7 111 (12345) ∈ lw_tbl := (List.mem_of_getElem? (i := 1068) (by decide +kernel))
theorem cs7_113 : Cond.constantLong RX7 113 (2147483648) ∈ lw_tbl := (List.mem_of_getElem? (i := 1069) (by decide +kernel))
theorem cs7_115 : Cond.constant RX7 115 (65536) ∈ lw_tbl := (List.mem_of_getElem? (i := 1070) (by decide +kernel))
theorem cs7_285 : Cond.constant RX7 285 (2147483647) ∈ lw_tbl := (List.mem_of_getElem? (i := 1333) (by decide +kernel))
theorem jd1_42 : Cond.methodLink RX1 42 Lib.Math.max.name ∈ lw_tbl := (List.mem_of_getElem? (i := 256) (by decide +kernel))
theorem jd3_25 : Cond.methodLink RX3 25 arraycopyName ∈ lw_tbl := (List.mem_of_getElem? (i := 447) (by decide +kernel))
theorem jd4_56 : Cond.methodLink RX4 56 arraycopyName ∈ lw_tbl := (List.mem_of_getElem? (i := 450) (by decide +kernel))
theorem jd0_29 : Cond.methodLink RX0 29 arraycopyName ∈ lw_tbl := (List.mem_of_getElem? (i := 455) (by decide +kernel))
theorem jd1_68 : Cond.methodLink RX1 68 Lib.Math.min.name ∈ lw_tbl := (List.mem_of_getElem? (i := 460) (by decide +kernel))
theorem jd1_80 : Cond.methodLink RX1 80 arraycopyName ∈ lw_tbl := (List.mem_of_getElem? (i := 463) (by decide +kernel))
theorem jd5_22 : Cond.methodLink RX5 22 arraycopyName ∈ lw_tbl := (List.mem_of_getElem? (i := 468) (by decide +kernel))
theorem jd6_311 : Cond.methodLink RX6 311 Lib.Math.min.name ∈ lw_tbl := (List.mem_of_getElem? (i := 469) (by decide +kernel))
theorem jd0_35 : Cond.methodLink RX0 35 Lib.Math.min.name ∈ lw_tbl := (List.mem_of_getElem? (i := 521) (by decide +kernel))
theorem jd2_15 : Cond.methodLink RX2 15 Lib.Math.min.name ∈ lw_tbl := (List.mem_of_getElem? (i := 590) (by decide +kernel))
theorem jd2_21 : Cond.methodLink RX2 21 Lib.Math.max.name ∈ lw_tbl := (List.mem_of_getElem? (i := 591) (by decide +kernel))
theorem jd6_232 : Cond.methodLink RX6 232 arraycopyName ∈ lw_tbl := (List.mem_of_getElem? (i := 799) (by decide +kernel))
theorem jd7_289 : Cond.methodLink RX7 289 Lib.Math.min.name ∈ lw_tbl := (List.mem_of_getElem? (i := 1338) (by decide +kernel))
theorem jd7_309 : Cond.methodLink RX7 309 Lib.Math.max.name ∈ lw_tbl := (List.mem_of_getElem? (i := 1359) (by decide +kernel))
end
section
section RX
variable {κ : KT} {G : Gl} {Q : State → Prop} {E : En} {σ : Sg} {ks : Bool × Nat × Nat} {u : Nat × Nat} {cc : ByteArray} {own : String} {nL pc n : Nat} {lv : List (Nat × Value)} {st : List Value} {P : Prop} {β : Type} {o : β}
abbrev QQ (κ : KT) (G : Gl) (E : En) (rv : Option Value) (s : Sg) : State → Prop := MQ (kB κ) (QC G E rv s) (kA κ) (kS κ) 0 0 (GA G)
def ss {β : Type} (x : Sg) (f : Sg → Option β) : Option β := f x
def lt {α β : Type} (x : α) (f : α → Option β) : Option β := f x
def sm {α β γ : Type} (x : α ⊕ β) (f : α → γ) (g : β → γ) : γ := match x with
  | .inl a => f a
  | .inr b => g b
theorem R_lt {α : Type} {x : α} {f : α → Option β} {W : α → Prop} (h : ∀ v, f v = some o → W v) : lt x f = some o → W x := h x
theorem R_inr {α γ : Type} {v : α} {b : γ} {s sb : Sg} {W : Prop} {VX : γ → Sg → Prop} {i : α → γ} (K : VX b sb) (h : VX (i v) s → W) : some (i v, s) = some (b, sb) → W := by
  intro q; cases q; exact h K
theorem nb {v : Int32} (h : v = 0 ∨ v = 1) : narrow .boolean (.int v) = .int v := by rcases h with rfl | rfl <;> rfl
theorem fb {v : Int32} (h : v = 0 ∨ v = 1) : fits .boolean (.int v) = true := by rcases h with rfl | rfl <;> rfl
theorem S_puti {idx ci f : Nat} {a : Nat} {v : Int32} {g : Sg → Option β} (C : Cx κ G cc own nL) (F : FL own idx ci f false) (hf : isr (tyc ci f) = false) (ha : cd E a = ci) (hn : narrow (tyc ci f) (.int v) = .int v) (hft : fits (tyc ci f) (.int v) = true) (d : dk cc pc n (.putfield idx) 3) (k : ∀ s, g s = some o → V κ G Q E s (false, u) n lv st) : ss (si σ a f v) g = some o → V κ G Q E σ (false, u) pc lv (.int v :: .ref (G.1 + a) :: st) :=
  R_puti C F hf ha hn hft d (k _)
theorem S_iast {a : Nat} {i : Int32} {v : Int32} {g : Sg → Option β} (C : Cx κ G cc own nL) (ha : cd E a = 100) (hi : vp_in i (ln E a)) (d : dk cc pc n .iastore 1) (k : ∀ s, g s = some o → V κ G Q E s (false, u) n lv st) : ss (si σ a i.toNatClampNeg v) g = some o → V κ G Q E σ (false, u) pc lv (.int v :: .int i :: .ref (G.1 + a) :: st) :=
  R_iast C ha hi d (k _)
theorem S_zast {a : Nat} {i : Int32} {v : Int32} {g : Sg → Option β} (C : Cx κ G cc own nL) (ha : cd E a = 101) (hi : vp_in i (ln E a)) (d : dk cc pc n .bastore 1) (k : ∀ s, g s = some o → V κ G Q E s (false, u) n lv st) : ss (si σ a i.toNatClampNeg (vp_nar .boolean v)) g = some o → V κ G Q E σ (false, u) pc lv (.int v :: .int i :: .ref (G.1 + a) :: st) :=
  R_zast C ha hi d (k _)
theorem S_bast {a : Nat} {i : Int32} {v : Int32} {g : Sg → Option β} (C : Cx κ G cc own nL) (ha : cd E a = 102) (hi : vp_in i (ln E a)) (d : dk cc pc n .bastore 1) (k : ∀ s, g s = some o → V κ G Q E s (false, u) n lv st) : ss (si σ a i.toNatClampNeg (vp_nar .byte v)) g = some o → V κ G Q E σ (false, u) pc lv (.int v :: .int i :: .ref (G.1 + a) :: st) :=
  R_bast C ha hi d (k _)
theorem S_last {a : Nat} {i : Int32} {v : Int64} {g : Sg → Option β} (C : Cx κ G cc own nL) (ha : cd E a = 103) (hi : vp_in i (ln E a)) (d : dk cc pc n .lastore 1) (k : ∀ s, g s = some o → V κ G Q E s (false, u) n lv st) : ss (sl σ a i.toNatClampNeg v) g = some o → V κ G Q E σ (false, u) pc lv (.long v :: .int i :: .ref (G.1 + a) :: st) :=
  R_last C ha hi d (k _)
theorem S_acopy {idx a b : Nat} {sp dp m0 : Int32} {g : Sg → Option β} (C : Cx κ G cc own nL) (hw : Cond.methodLink own idx arraycopyName ∈ lw_tbl) (ha : cd E a = 100) (hb2 : cd E b = 100) (hR : 1 ≤ (kR κ).frames ∧ (st.map fun v => v.category).sum + (nativeFrameWords "java/lang/System" "arraycopy" 5 + 11) ≤ (kR κ).locals) (d : dk cc pc n (.invokestatic idx) 3) (k : ∀ s, g s = some o → V κ G Q E s (false, u) n lv st) : acp E σ a sp b dp m0 g = some o → V κ G Q E σ (false, u) pc lv (.int m0 :: .int dp :: .ref (G.1 + b) :: .int sp :: .ref (G.1 + a) :: st) :=
  R_acp (fun h => R_acopy C hw ha hb2 h hR d (k _))
theorem S_istore_n (C : Cx κ G cc own nL) {j : Fin 4} {i : Nat} {x : Int32} (d : dk cc pc n (.istore_n j) 1) (hi : (j : Nat) = i) {g : Int32 → Option β} (lv2 : Int32 → List (Nat × Value)) (hn : i < nL) (hv : ∀ x, (i, Value.int x) :: lv.filter (fun q => !(q.1 == i) && !(q.1 + 1 == i && q.2.category == 2)) = lv2 x) (k : ∀ x, g x = some o → V κ G Q E σ ks n (lv2 x) st) : lt x g = some o → V κ G Q E σ ks pc lv (.int x :: st) :=
  R_istore_n C d hi hn (hv x) (k x)
theorem S_istore (C : Cx κ G cc own nL) {i : Nat} {x : Int32} (d : dk cc pc n (.istore i) 2) {g : Int32 → Option β} (lv2 : Int32 → List (Nat × Value)) (hn : i < nL) (hv : ∀ x, (i, Value.int x) :: lv.filter (fun q => !(q.1 == i) && !(q.1 + 1 == i && q.2.category == 2)) = lv2 x) (k : ∀ x, g x = some o → V κ G Q E σ ks n (lv2 x) st) : lt x g = some o → V κ G Q E σ ks pc lv (.int x :: st) :=
  R_istore C d hn (hv x) (k x)
theorem S_lstore_n (C : Cx κ G cc own nL) {j : Fin 4} {i : Nat} {x : Int64} (d : dk cc pc n (.lstore_n j) 1) (hi : (j : Nat) = i) {g : Int64 → Option β} (lv2 : Int64 → List (Nat × Value)) (hn : i + 1 < nL) (hv : ∀ x, (i, Value.long x) :: lv.filter (fun q => !(q.1 == i) && (!(q.1 == i + 1) && !(q.1 + 1 == i && q.2.category == 2))) = lv2 x) (k : ∀ x, g x = some o → V κ G Q E σ ks n (lv2 x) st) : lt x g = some o → V κ G Q E σ ks pc lv (.long x :: st) :=
  R_lstore_n C d hi hn (hv x) (k x)
theorem S_lstore (C : Cx κ G cc own nL) {i : Nat} {x : Int64} (d : dk cc pc n (.lstore i) 2) {g : Int64 → Option β} (lv2 : Int64 → List (Nat × Value)) (hn : i + 1 < nL) (hv : ∀ x, (i, Value.long x) :: lv.filter (fun q => !(q.1 == i) && (!(q.1 == i + 1) && !(q.1 + 1 == i && q.2.category == 2))) = lv2 x) (k : ∀ x, g x = some o → V κ G Q E σ ks n (lv2 x) st) : lt x g = some o → V κ G Q E σ ks pc lv (.long x :: st) :=
  R_lstore C d hn (hv x) (k x)
theorem S_iinc {i : Nat} {j : Int} {x v : Int32} {g : Int32 → Option β} (lv2 : Int32 → List (Nat × Value)) (z : Nat) (C : Cx κ G cc own nL) (d : dk cc pc n (.iinc i j) 3) (hk : lv[z]? = some (i, .int x)) (hj : Int32.ofInt j = v) (hn : i < nL) (hv : ∀ x, (i, Value.int x) :: lv.filter (fun q => !(q.1 == i) && !(q.1 + 1 == i && q.2.category == 2)) = lv2 x) (k : ∀ x, g x = some o → V κ G Q E σ ks n (lv2 x) st) : lt (x + v) g = some o → V κ G Q E σ ks pc lv st :=
  R_iinc C z d hk hj hn (hv (x + v)) (k (x + v))
theorem R_callVi {idx ci a n0 maxL : Nat} {y : MethodName} {bytes : ByteArray} {ret : Option FieldType} {rm : Room} {r : Int32} {σ1 : Sg} (As rest : List Value) (C : Cx κ G cc own nL) (M : MV own idx ci y bytes maxL ret n0) (hM : CT (kL κ) y bytes maxL ret rm (.ref (G.1 + a) :: As) G E σ (some (.int r)) σ1) (hrm : rm.cells = 0 ∧ rm.slots = 0 ∧ rm.frames + 1 ≤ (kR κ).frames ∧ 8 + (maxL + 11) + rm.locals ≤ (kR κ).locals ∧ u.1 ≤ (kR κ).cells ∧ u.2 ≤ (kR κ).slots) (ha : cd E a = ci) (hn0 : As.length = n0) (hst : st = As.reverse ++ .ref (G.1 + a) :: rest) (hW : (rest.map fun v => v.category).sum ≤ 8) (d : dk cc pc n (.invokevirtual idx) 3) (k : P → V κ G Q E σ1 (false, u) n lv (.int r :: rest)) : P → V κ G Q E σ (false, u) pc lv st :=
  R_callV As rest C M hM hrm ha hn0 hst hW d k
theorem R_callSi {idx n0 maxL : Nat} {y : MethodName} {bytes : ByteArray} {ret : Option FieldType} {rm : Room} {r : Int32} {σ1 : Sg} (As rest : List Value) (C : Cx κ G cc own nL) (M : MS own idx y bytes maxL ret n0) (hM : CT (kL κ) y bytes maxL ret rm As G E σ (some (.int r)) σ1) (hrm : rm.cells = 0 ∧ rm.slots = 0 ∧ rm.frames + 1 ≤ (kR κ).frames ∧ 8 + (maxL + 11) + rm.locals ≤ (kR κ).locals ∧ u.1 ≤ (kR κ).cells ∧ u.2 ≤ (kR κ).slots) (hn0 : As.length = n0) (hst : st = As.reverse ++ rest) (hW : (rest.map fun v => v.category).sum ≤ 8) (d : dk cc pc n (.invokestatic idx) 3) (k : P → V κ G Q E σ1 (false, u) n lv (.int r :: rest)) : P → V κ G Q E σ (false, u) pc lv st :=
  R_callS As rest C M hM hrm hn0 hst hW d k
theorem R_callVl {idx ci a n0 maxL : Nat} {y : MethodName} {bytes : ByteArray} {ret : Option FieldType} {rm : Room} {r : Int64} {σ1 : Sg} (As rest : List Value) (C : Cx κ G cc own nL) (M : MV own idx ci y bytes maxL ret n0) (hM : CT (kL κ) y bytes maxL ret rm (.ref (G.1 + a) :: As) G E σ (some (.long r)) σ1) (hrm : rm.cells = 0 ∧ rm.slots = 0 ∧ rm.frames + 1 ≤ (kR κ).frames ∧ 8 + (maxL + 11) + rm.locals ≤ (kR κ).locals ∧ u.1 ≤ (kR κ).cells ∧ u.2 ≤ (kR κ).slots) (ha : cd E a = ci) (hn0 : As.length = n0) (hst : st = As.reverse ++ .ref (G.1 + a) :: rest) (hW : (rest.map fun v => v.category).sum ≤ 8) (d : dk cc pc n (.invokevirtual idx) 3) (k : P → V κ G Q E σ1 (false, u) n lv (.long r :: rest)) : P → V κ G Q E σ (false, u) pc lv st :=
  R_callV As rest C M hM hrm ha hn0 hst hW d k
theorem R_callSl {idx n0 maxL : Nat} {y : MethodName} {bytes : ByteArray} {ret : Option FieldType} {rm : Room} {r : Int64} {σ1 : Sg} (As rest : List Value) (C : Cx κ G cc own nL) (M : MS own idx y bytes maxL ret n0) (hM : CT (kL κ) y bytes maxL ret rm As G E σ (some (.long r)) σ1) (hrm : rm.cells = 0 ∧ rm.slots = 0 ∧ rm.frames + 1 ≤ (kR κ).frames ∧ 8 + (maxL + 11) + rm.locals ≤ (kR κ).locals ∧ u.1 ≤ (kR κ).cells ∧ u.2 ≤ (kR κ).slots) (hn0 : As.length = n0) (hst : st = As.reverse ++ rest) (hW : (rest.map fun v => v.category).sum ≤ 8) (d : dk cc pc n (.invokestatic idx) 3) (k : P → V κ G Q E σ1 (false, u) n lv (.long r :: rest)) : P → V κ G Q E σ (false, u) pc lv st :=
  R_callS As rest C M hM hrm hn0 hst hW d k
theorem R_callVv {idx ci a n0 maxL : Nat} {y : MethodName} {bytes : ByteArray} {ret : Option FieldType} {rm : Room}  {σ1 : Sg} (As rest : List Value) (C : Cx κ G cc own nL) (M : MV own idx ci y bytes maxL ret n0) (hM : CT (kL κ) y bytes maxL ret rm (.ref (G.1 + a) :: As) G E σ none σ1) (hrm : rm.cells = 0 ∧ rm.slots = 0 ∧ rm.frames + 1 ≤ (kR κ).frames ∧ 8 + (maxL + 11) + rm.locals ≤ (kR κ).locals ∧ u.1 ≤ (kR κ).cells ∧ u.2 ≤ (kR κ).slots) (ha : cd E a = ci) (hn0 : As.length = n0) (hst : st = As.reverse ++ .ref (G.1 + a) :: rest) (hW : (rest.map fun v => v.category).sum ≤ 8) (d : dk cc pc n (.invokevirtual idx) 3) (k : P → V κ G Q E σ1 (false, u) n lv rest) : P → V κ G Q E σ (false, u) pc lv st :=
  R_callV As rest C M hM hrm ha hn0 hst hW d k
theorem R_callSv {idx n0 maxL : Nat} {y : MethodName} {bytes : ByteArray} {ret : Option FieldType} {rm : Room}  {σ1 : Sg} (As rest : List Value) (C : Cx κ G cc own nL) (M : MS own idx y bytes maxL ret n0) (hM : CT (kL κ) y bytes maxL ret rm As G E σ none σ1) (hrm : rm.cells = 0 ∧ rm.slots = 0 ∧ rm.frames + 1 ≤ (kR κ).frames ∧ 8 + (maxL + 11) + rm.locals ≤ (kR κ).locals ∧ u.1 ≤ (kR κ).cells ∧ u.2 ≤ (kR κ).slots) (hn0 : As.length = n0) (hst : st = As.reverse ++ rest) (hW : (rest.map fun v => v.category).sum ≤ 8) (d : dk cc pc n (.invokestatic idx) 3) (k : P → V κ G Q E σ1 (false, u) n lv rest) : P → V κ G Q E σ (false, u) pc lv st :=
  R_callS As rest C M hM hrm hn0 hst hW d k
theorem R_gets {idx : Nat} (t : Nat) (ht : t < 3) (C : Cx κ G cc own nL) (hw : Cond.fieldLink own idx "RunTapes" (stn t) "[I" ∈ lw_tbl) (d : dk cc pc n (.getstatic idx) 3) (k : P → V κ G Q E σ ks n lv (.ref (G.2.2.2.2 t) :: st)) : P → V κ G Q E σ ks pc lv st := by
  obtain ⟨p, l, e, R, s, m, args, below, meth, c⟩ := κ
  obtain ⟨hx, hb, hml, hown, hlk, hK, hT, hZ, hG⟩ := C
  obtain ⟨d, rfl⟩ := d
  intro q H locs ls hz hP hS hl
  exact va_gets hx hb (hZ t ht).1 hS hown (hT _ hw rfl _) (fun _ h => h) d (k q H locs ls hz hP hS hl)
theorem R_tld {i : Int32} (t : Nat) (ht : t < 3) (C : Cx κ G cc own nL) (hi : vp_in i 6) (d : dk cc pc n .iaload 1) (k : P → V κ G Q E σ ks n lv (.int (stv t i.toNatClampNeg) :: st)) : P → V κ G Q E σ ks pc lv (.int i :: .ref (G.2.2.2.2 t) :: st) := by
  obtain ⟨p, l, e, R, s, m, args, below, meth, c⟩ := κ
  obtain ⟨hx, hb, hml, hown, hlk, hK, hT, hZ, hG⟩ := C
  obtain ⟨d, rfl⟩ := d
  intro q H locs ls hz hP hS hl
  exact va_ti hx hb (hZ t ht).2 hS hi rfl d (k q H locs ls hz hP hS hl)
theorem R_tsOut {dflt lo hi : Int} {offs : Array Int} {len : Nat} {x : Int32} {t : Nat} (C : Cx κ G cc own nL) (d : dk cc pc n (.tableswitch dflt lo hi offs) len) (h : x.toInt < lo ∨ hi < x.toInt) (ht : (pc : Int) + dflt = (t : Int)) (k : P → V κ G Q E σ ks t lv st) : P → V κ G Q E σ ks pc lv (.int x :: st) := by
  obtain ⟨p, l, e, R, s, m, args, below, meth, c⟩ := κ
  obtain ⟨hx, hb, hml, hown, hlk, hK, hT, hZ, hG⟩ := C
  obtain ⟨d, rfl⟩ := d
  intro q H locs ls hz hP hS hl
  exact lv_tableOut hx hb d h ht (k q H locs ls hz hP hS hl)
theorem R_tsIn {dflt lo hi off : Int} {offs : Array Int} {len : Nat} {x v : Int32} {t : Nat} (C : Cx κ G cc own nL) (d : dk cc pc n (.tableswitch dflt lo hi offs) len) (hx0 : x = v) (h : ¬ v.toInt < lo ∧ ¬ hi < v.toInt ∧ offs[(v.toInt - lo).toNat]? = some off ∧ (pc : Int) + off = (t : Int)) (k : P → V κ G Q E σ ks t lv st) : P → V κ G Q E σ ks pc lv (.int x :: st) := by
  subst hx0
  obtain ⟨p, l, e, R, s, m, args, below, meth, c⟩ := κ
  obtain ⟨hx, hb, hml, hown, hlk, hK, hT, hZ, hG⟩ := C
  obtain ⟨d, rfl⟩ := d
  intro q H locs ls hz hP hS hl
  exact lv_tableIn hx hb d h.1 h.2.1 h.2.2.1 h.2.2.2 (k q H locs ls hz hP hS hl)
theorem R_lks {dflt off : Int} {ps : Array (Int × Int)} {len : Nat} {x : Int32} {t : Nat} (C : Cx κ G cc own nL) (d : dk cc pc n (.lookupswitch dflt ps) len) (hp : (ps.toList.zip (ps.toList.drop 1)).all (fun (a, next) => a.1 < next.1) = true) (ho : Op.lookupswitch.offset ps.toList dflt x.toInt = off) (ht : (pc : Int) + off = (t : Int)) (k : P → V κ G Q E σ ks t lv st) : P → V κ G Q E σ ks pc lv (.int x :: st) := by
  obtain ⟨p, l, e, R, s, m, args, below, meth, c⟩ := κ
  obtain ⟨hx, hb, hml, hown, hlk, hK, hT, hZ, hG⟩ := C
  obtain ⟨d, rfl⟩ := d
  intro q H locs ls hz hP hS hl
  exact lv_lookup hx hb d hp ho ht (k q H locs ls hz hP hS hl)
end RX
end
section
theorem dX5_copyFrom_0 : dk cX5_copyFrom 0 1 (.aload_n 0) 1 := by unfold dk; decide +kernel
theorem dX5_copyFrom_1 : dk cX5_copyFrom 1 2 (.aload_n 1) 1 := by unfold dk; decide +kernel
theorem dX5_copyFrom_2 : dk cX5_copyFrom 2 5 (.getfield 15) 3 := by unfold dk; decide +kernel
theorem dX5_copyFrom_5 : dk cX5_copyFrom 5 8 (.putfield 15) 3 := by unfold dk; decide +kernel
theorem dX5_copyFrom_8 : dk cX5_copyFrom 8 9 (.aload_n 0) 1 := by unfold dk; decide +kernel
theorem dX5_copyFrom_9 : dk cX5_copyFrom 9 10 (.aload_n 1) 1 := by unfold dk; decide +kernel
theorem dX5_copyFrom_10 : dk cX5_copyFrom 10 13 (.getfield 19) 3 := by unfold dk; decide +kernel
theorem dX5_copyFrom_13 : dk cX5_copyFrom 13 16 (.putfield 19) 3 := by unfold dk; decide +kernel
theorem dX5_copyFrom_16 : dk cX5_copyFrom 16 17 (.aload_n 1) 1 := by unfold dk; decide +kernel
theorem dX5_copyFrom_17 : dk cX5_copyFrom 17 20 (.getfield 9) 3 := by unfold dk; decide +kernel
theorem dX5_copyFrom_20 : dk cX5_copyFrom 20 21 (.aload_n 0) 1 := by unfold dk; decide +kernel
theorem dX5_copyFrom_21 : dk cX5_copyFrom 21 24 (.getfield 15) 3 := by unfold dk; decide +kernel
theorem dX5_copyFrom_24 : dk cX5_copyFrom 24 25 (.aload_n 0) 1 := by unfold dk; decide +kernel
theorem dX5_copyFrom_25 : dk cX5_copyFrom 25 28 (.getfield 9) 3 := by unfold dk; decide +kernel
theorem dX5_copyFrom_28 : dk cX5_copyFrom 28 29 (.aload_n 0) 1 := by unfold dk; decide +kernel
theorem dX5_copyFrom_29 : dk cX5_copyFrom 29 32 (.getfield 15) 3 := by unfold dk; decide +kernel
theorem dX5_copyFrom_32 : dk cX5_copyFrom 32 33 (.aload_n 0) 1 := by unfold dk; decide +kernel
theorem dX5_copyFrom_33 : dk cX5_copyFrom 33 36 (.getfield 19) 3 := by unfold dk; decide +kernel
theorem dX5_copyFrom_36 : dk cX5_copyFrom 36 37 (.aload_n 0) 1 := by unfold dk; decide +kernel
theorem dX5_copyFrom_37 : dk cX5_copyFrom 37 40 (.getfield 15) 3 := by unfold dk; decide +kernel
theorem dX5_copyFrom_40 : dk cX5_copyFrom 40 41 (.isub) 1 := by unfold dk; decide +kernel
theorem dX5_copyFrom_41 : dk cX5_copyFrom 41 44 (.invokestatic 22) 3 := by unfold dk; decide +kernel
theorem dX5_copyFrom_44 : dk cX5_copyFrom 44 45 (.return_) 1 := by unfold dk; decide +kernel
def fX5_copyFrom (E : En) (a0 : Nat) (a1 : Nat) (σ : Sg) : Option (Sg) := tk (cd E a0) 5 (tk (cd E a1) 5 (ss (si σ a0 1 (gi σ a1 1)) (fun s1 => ss (si s1 a0 2 (gi s1 a1 2)) (fun s2 => dr (rf E a1 0) E 100 (fun x3 => dr (rf E a0 0) E 100 (fun x4 => acp E s2 x3 (gi s2 a0 1) x4 (gi s2 a0 1) ((gi s2 a0 2) - (gi s2 a0 1)) (fun s5 => some s5)))))))
set_option maxHeartbeats 4000000 in
set_option maxRecDepth 100000 in
theorem kX5_copyFrom {l : Launch} {G : Gl} {E : En} {a0 : Nat} {a1 : Nat} {σ σ' : Sg} : fX5_copyFrom E a0 a1 σ = some σ' → CT l yX5_copyFrom cX5_copyFrom 2 none ({ frames := 1, cells := 0, slots := 0, locals := 60 } : Room) [.ref (G.1 + a0), .ref (G.1 + a1)] G E σ none σ' := by
  intro h
  refine CT_of (lv0 := [(0, .ref (G.1 + a0)), (1, .ref (G.1 + a1))]) (by decide) (Nat.le_of_ble_eq_true rfl) rfl (fun κ hl hR hr C => ?_)
  have C : Cx κ G cX5_copyFrom RX5 2 := C
  revert h
  unfold fX5_copyFrom
  refine R_tk (fun ha0 => ?_)
  refine R_tk (fun ha1 => ?_)
  refine R_aload_n C 0 rfl dX5_copyFrom_0 ?_
  refine R_aload_n C 1 rfl dX5_copyFrom_1 ?_
  refine R_geti C fl5_15 rfl ha1 dX5_copyFrom_2 ?_
  refine S_puti C fl5_15 rfl ha0 rfl rfl dX5_copyFrom_5 (fun s1 => ?_)
  refine R_aload_n C 0 rfl dX5_copyFrom_8 ?_
  refine R_aload_n C 1 rfl dX5_copyFrom_9 ?_
  refine R_geti C fl5_19 rfl ha1 dX5_copyFrom_10 ?_
  refine S_puti C fl5_19 rfl ha0 rfl rfl dX5_copyFrom_13 (fun s2 => ?_)
  refine R_aload_n C 1 rfl dX5_copyFrom_16 ?_
  refine R_dr (fun x3 rx3 cx3 => ?_)
  refine R_getr C fl5_9 rfl ha1 rx3 dX5_copyFrom_17 ?_
  refine R_aload_n C 0 rfl dX5_copyFrom_20 ?_
  refine R_geti C fl5_15 rfl ha0 dX5_copyFrom_21 ?_
  refine R_aload_n C 0 rfl dX5_copyFrom_24 ?_
  refine R_dr (fun x4 rx4 cx4 => ?_)
  refine R_getr C fl5_9 rfl ha0 rx4 dX5_copyFrom_25 ?_
  refine R_aload_n C 0 rfl dX5_copyFrom_28 ?_
  refine R_geti C fl5_15 rfl ha0 dX5_copyFrom_29 ?_
  refine R_aload_n C 0 rfl dX5_copyFrom_32 ?_
  refine R_geti C fl5_19 rfl ha0 dX5_copyFrom_33 ?_
  refine R_aload_n C 0 rfl dX5_copyFrom_36 ?_
  refine R_geti C fl5_15 rfl ha0 dX5_copyFrom_37 ?_
  refine R_isub C dX5_copyFrom_40 ?_
  refine S_acopy C jd5_22 cx3 cx4 (by rw [hR]; exact ⟨Nat.le_of_ble_eq_true rfl, Nat.le_of_ble_eq_true rfl⟩) dX5_copyFrom_41 (fun s5 => ?_)
  exact R_vret C hr dX5_copyFrom_44
theorem dX5_wipe_0 : dk cX5_wipe 0 1 (.aload_n 0) 1 := by unfold dk; decide +kernel
theorem dX5_wipe_1 : dk cX5_wipe 1 2 (.iconst 0) 1 := by unfold dk; decide +kernel
theorem dX5_wipe_2 : dk cX5_wipe 2 5 (.putfield 15) 3 := by unfold dk; decide +kernel
theorem dX5_wipe_5 : dk cX5_wipe 5 6 (.aload_n 0) 1 := by unfold dk; decide +kernel
theorem dX5_wipe_6 : dk cX5_wipe 6 7 (.iconst 0) 1 := by unfold dk; decide +kernel
theorem dX5_wipe_7 : dk cX5_wipe 7 10 (.putfield 19) 3 := by unfold dk; decide +kernel
theorem dX5_wipe_10 : dk cX5_wipe 10 11 (.return_) 1 := by unfold dk; decide +kernel
def fX5_wipe (E : En) (a0 : Nat) (σ : Sg) : Option (Sg) := tk (cd E a0) 5 (ss (si σ a0 1 (0 : Int32)) (fun s1 => ss (si s1 a0 2 (0 : Int32)) (fun s2 => some s2)))
set_option maxHeartbeats 4000000 in
set_option maxRecDepth 100000 in
theorem kX5_wipe {l : Launch} {G : Gl} {E : En} {a0 : Nat} {σ σ' : Sg} : fX5_wipe E a0 σ = some σ' → CT l yX5_wipe cX5_wipe 1 none ({ frames := 0, cells := 0, slots := 0, locals := 0 } : Room) [.ref (G.1 + a0)] G E σ none σ' := by
  intro h
  refine CT_of (lv0 := [(0, .ref (G.1 + a0))]) (by decide) (Nat.le_of_ble_eq_true rfl) rfl (fun κ hl hR hr C => ?_)
  have C : Cx κ G cX5_wipe RX5 1 := C
  revert h
  unfold fX5_wipe
  refine R_tk (fun ha0 => ?_)
  refine R_aload_n C 0 rfl dX5_wipe_0 ?_
  refine R_iconst C (0) dX5_wipe_1 (by decide) ?_
  refine S_puti C fl5_15 rfl ha0 rfl rfl dX5_wipe_2 (fun s1 => ?_)
  refine R_aload_n C 0 rfl dX5_wipe_5 ?_
  refine R_iconst C (0) dX5_wipe_6 (by decide) ?_
  refine S_puti C fl5_19 rfl ha0 rfl rfl dX5_wipe_7 (fun s2 => ?_)
  exact R_vret C hr dX5_wipe_10
theorem dX5_size_0 : dk cX5_size 0 1 (.aload_n 0) 1 := by unfold dk; decide +kernel
theorem dX5_size_1 : dk cX5_size 1 4 (.getfield 19) 3 := by unfold dk; decide +kernel
theorem dX5_size_4 : dk cX5_size 4 5 (.aload_n 0) 1 := by unfold dk; decide +kernel
theorem dX5_size_5 : dk cX5_size 5 8 (.getfield 15) 3 := by unfold dk; decide +kernel
theorem dX5_size_8 : dk cX5_size 8 9 (.isub) 1 := by unfold dk; decide +kernel
theorem dX5_size_9 : dk cX5_size 9 10 (.ireturn) 1 := by unfold dk; decide +kernel
def fX5_size (E : En) (a0 : Nat) (σ : Sg) : Option (Int32 × Sg) := tk (cd E a0) 5 (some (((gi σ a0 2) - (gi σ a0 1)), σ))
set_option maxHeartbeats 4000000 in
set_option maxRecDepth 100000 in
theorem kX5_size {l : Launch} {G : Gl} {E : En} {a0 : Nat} {σ σ' : Sg} {r : Int32} : fX5_size E a0 σ = some (r, σ') → CT l yX5_size cX5_size 1 (some .int) ({ frames := 0, cells := 0, slots := 0, locals := 0 } : Room) [.ref (G.1 + a0)] G E σ (some (.int r)) σ' := by
  intro h
  refine CT_of (lv0 := [(0, .ref (G.1 + a0))]) (by decide) (Nat.le_of_ble_eq_true rfl) rfl (fun κ hl hR hr C => ?_)
  have C : Cx κ G cX5_size RX5 1 := C
  revert h
  unfold fX5_size
  refine R_tk (fun ha0 => ?_)
  refine R_aload_n C 0 rfl dX5_size_0 ?_
  refine R_geti C fl5_19 rfl ha0 dX5_size_1 ?_
  refine R_aload_n C 0 rfl dX5_size_4 ?_
  refine R_geti C fl5_15 rfl ha0 dX5_size_5 ?_
  refine R_isub C dX5_size_8 ?_
  exact R_iret C hr dX5_size_9
theorem dX5_dummies_0 : dk cX5_dummies 0 1 (.iconst 0) 1 := by unfold dk; decide +kernel
theorem dX5_dummies_1 : dk cX5_dummies 1 2 (.istore_n 1) 1 := by unfold dk; decide +kernel
theorem dX5_dummies_2 : dk cX5_dummies 2 3 (.aload_n 0) 1 := by unfold dk; decide +kernel
theorem dX5_dummies_3 : dk cX5_dummies 3 6 (.getfield 15) 3 := by unfold dk; decide +kernel
theorem dX5_dummies_6 : dk cX5_dummies 6 7 (.istore_n 2) 1 := by unfold dk; decide +kernel
theorem dX5_dummies_7 : dk cX5_dummies 7 8 (.iload_n 2) 1 := by unfold dk; decide +kernel
theorem dX5_dummies_8 : dk cX5_dummies 8 9 (.aload_n 0) 1 := by unfold dk; decide +kernel
theorem dX5_dummies_9 : dk cX5_dummies 9 12 (.getfield 19) 3 := by unfold dk; decide +kernel
theorem dX5_dummies_15 : dk cX5_dummies 15 16 (.aload_n 0) 1 := by unfold dk; decide +kernel
theorem dX5_dummies_16 : dk cX5_dummies 16 19 (.getfield 9) 3 := by unfold dk; decide +kernel
theorem dX5_dummies_19 : dk cX5_dummies 19 20 (.iload_n 2) 1 := by unfold dk; decide +kernel
theorem dX5_dummies_20 : dk cX5_dummies 20 21 (.iaload) 1 := by unfold dk; decide +kernel
theorem dX5_dummies_21 : dk cX5_dummies 21 22 (.iconst (-1)) 1 := by unfold dk; decide +kernel
theorem dX5_dummies_22 : bk cX5_dummies 22 25 28 (.if_icmp .ne 6) (6) := by unfold bk; decide +kernel
theorem dX5_dummies_25 : dk cX5_dummies 25 28 (.iinc 1 1) 3 := by unfold dk; decide +kernel
theorem dX5_dummies_28 : dk cX5_dummies 28 31 (.iinc 2 1) 3 := by unfold dk; decide +kernel
theorem dX5_dummies_31 : bk cX5_dummies 31 34 7 (.goto (-24)) (-24) := by unfold bk; decide +kernel
theorem dX5_dummies_12 : bk cX5_dummies 12 15 34 (.if_icmp .ge 22) (22) := by unfold bk; decide +kernel
theorem dX5_dummies_34 : dk cX5_dummies 34 35 (.iload_n 1) 1 := by unfold dk; decide +kernel
theorem dX5_dummies_35 : dk cX5_dummies 35 36 (.ireturn) 1 := by unfold dk; decide +kernel
def bX5_dummies_7 (E : En) (a0 : Nat) (rec : Int32 → Int32 → Sg → Option ((Int32 × Int32) × Sg)) (v2 : Int32) (v3 : Int32) (s4 : Sg) : Option ((Int32 × Int32) × Sg) := if (gi s4 a0 2) ≤ v3 then (some ((v2, v3), s4)) else (dr (rf E a0 0) E 100 (fun x9 => ck v3 (ln E x9) (bd (if ¬ (gi s4 x9 v3.toNatClampNeg) = (-1 : Int32) then (some (v2, s4)) else (lt (v2 + (1 : Int32)) (fun v13 => some (v13, s4)))) (fun w11 s12 => lt (v3 + (1 : Int32)) (fun v14 => rec w11 v14 s12)))))
def fX5_dummies (E : En) (a0 : Nat) (σ : Sg) : Option (Int32 × Sg) := tk (cd E a0) 5 (lt (gi σ a0 1) (fun v1 => bd (fx (fun rec a => bX5_dummies_7 E a0 (fun u0 u1 t => rec ((u0, u1), t)) a.1.1 a.1.2 a.2) FU (((0 : Int32), v1), σ)) (fun o15 s16 => some (o15.1, s16))))
set_option maxHeartbeats 4000000 in
set_option maxRecDepth 100000 in
theorem kX5_dummies {l : Launch} {G : Gl} {E : En} {a0 : Nat} {σ σ' : Sg} {r : Int32} : fX5_dummies E a0 σ = some (r, σ') → CT l yX5_dummies cX5_dummies 3 (some .int) ({ frames := 0, cells := 0, slots := 0, locals := 0 } : Room) [.ref (G.1 + a0)] G E σ (some (.int r)) σ' := by
  intro h
  refine CT_of (lv0 := [(0, .ref (G.1 + a0))]) (by decide) (Nat.le_of_ble_eq_true rfl) rfl (fun κ hl hR hr C => ?_)
  have C : Cx κ G cX5_dummies RX5 3 := C
  revert h
  unfold fX5_dummies
  refine R_tk (fun ha0 => ?_)
  refine R_iconst C (0) dX5_dummies_0 (by decide) ?_
  refine R_istore_n (lv2 := [(1, .int (0 : Int32)), (0, .ref (G.1 + a0))]) C dX5_dummies_1 rfl (by decide) rfl ?_
  refine R_aload_n C 1 rfl dX5_dummies_2 ?_
  refine R_geti C fl5_15 rfl ha0 dX5_dummies_3 ?_
  refine S_istore_n C dX5_dummies_6 rfl (fun v1 => [(2, .int v1), (1, .int (0 : Int32)), (0, .ref (G.1 + a0))]) (by decide) (fun _ => rfl) (fun v1 => ?_)
  refine R_loc (lv2 := [(0, .ref (G.1 + a0)), (1, .int (0 : Int32)), (2, .int v1)]) [2, 1, 0] rfl ?_
  refine R_loop (fun (a : (Int32 × Int32) × Sg) => V κ G (QQ κ G E (some (.int r)) σ') E a.2 (false, 0, 0) 7 [(0, .ref (G.1 + a0)), (1, .int a.1.1), (2, .int a.1.2)] []) (fun (o : (Int32 × Int32)) (s : Sg) => V κ G (QQ κ G E (some (.int r)) σ') E s (false, 0, 0) 34 [(1, .int o.1)] []) (((0 : Int32), v1), σ) (fun o15 s16 => ?_) (fun rec I8 a b6 s7 K5 => ?_)
  · refine R_iload_n C 0 rfl dX5_dummies_34 ?_
    exact R_iret C hr dX5_dummies_35
  · obtain ⟨⟨v2, v3⟩, s4⟩ := a
    show bX5_dummies_7 E a0 (fun u0 u1 t => rec ((u0, u1), t)) v2 v3 s4 = some (b6, s7) → V κ G (QQ κ G E (some (.int r)) σ') E s4 (false, 0, 0) 7 [(0, .ref (G.1 + a0)), (1, .int v2), (2, .int v3)] []
    unfold bX5_dummies_7
    refine R_iload_n C 2 rfl dX5_dummies_7 ?_
    refine R_aload_n C 0 rfl dX5_dummies_8 ?_
    refine R_geti C fl5_19 rfl ha0 dX5_dummies_9 ?_
    refine B_icmp_ge C dX5_dummies_12 ?_ ?_
    · refine R_loc (lv2 := [(1, .int v2)]) [1] rfl ?_
      exact R_end (fun (o : (Int32 × Int32)) (s : Sg) => V κ G (QQ κ G E (some (.int r)) σ') E s (false, 0, 0) 34 [(1, .int o.1)] []) K5
    · refine R_aload_n C 0 rfl dX5_dummies_15 ?_
      refine R_dr (fun x9 rx9 cx9 => ?_)
      refine R_getr C fl5_9 rfl ha0 rx9 dX5_dummies_16 ?_
      refine R_iload_n C 2 rfl dX5_dummies_19 ?_
      refine R_ck (fun h10 => ?_)
      refine R_iald C cx9 h10 dX5_dummies_20 ?_
      refine R_iconst C (-1) dX5_dummies_21 (by decide) ?_
      refine R_bdK (fun (w : Int32) (s : Sg) => V κ G (QQ κ G E (some (.int r)) σ') E s (false, 0, 0) 28 [(0, .ref (G.1 + a0)), (2, .int v3), (1, .int w)] []) (fun w11 s12 => ?_) (fun w11 s12 Kw11 => ?_)
      · refine S_iinc (fun v14 => [(2, .int v14), (0, .ref (G.1 + a0)), (1, .int w11)]) 1 C dX5_dummies_28 rfl (by decide) (by decide) (fun _ => rfl) (fun v14 => ?_)
        refine R_goto C dX5_dummies_31 ?_
        refine R_loc (lv2 := [(0, .ref (G.1 + a0)), (1, .int w11), (2, .int v14)]) [1, 2, 0] rfl ?_
        exact I8 ((w11, v14), s12) b6 s7 K5
      · refine B_icmp_ne C dX5_dummies_22 ?_ ?_
        · refine R_loc (lv2 := [(0, .ref (G.1 + a0)), (2, .int v3), (1, .int v2)]) [0, 2, 1] rfl ?_
          exact R_end (fun (w : Int32) (s : Sg) => V κ G (QQ κ G E (some (.int r)) σ') E s (false, 0, 0) 28 [(0, .ref (G.1 + a0)), (2, .int v3), (1, .int w)] []) Kw11
        · refine S_iinc (fun v13 => [(1, .int v13), (0, .ref (G.1 + a0)), (2, .int v3)]) 1 C dX5_dummies_25 rfl (by decide) (by decide) (fun _ => rfl) (fun v13 => ?_)
          refine R_loc (lv2 := [(0, .ref (G.1 + a0)), (2, .int v3), (1, .int v13)]) [1, 2, 0] rfl ?_
          exact R_end (fun (w : Int32) (s : Sg) => V κ G (QQ κ G E (some (.int r)) σ') E s (false, 0, 0) 28 [(0, .ref (G.1 + a0)), (2, .int v3), (1, .int w)] []) Kw11
theorem dX5_at_0 : dk cX5_at 0 1 (.iload_n 1) 1 := by unfold dk; decide +kernel
theorem dX5_at_12 : dk cX5_at 12 14 (.bipush (-2)) 2 := by unfold dk; decide +kernel
theorem dX5_at_14 : dk cX5_at 14 15 (.ireturn) 1 := by unfold dk; decide +kernel
theorem dX5_at_4 : dk cX5_at 4 5 (.iload_n 1) 1 := by unfold dk; decide +kernel
theorem dX5_at_5 : dk cX5_at 5 6 (.aload_n 0) 1 := by unfold dk; decide +kernel
theorem dX5_at_6 : dk cX5_at 6 9 (.invokevirtual 28) 3 := by unfold dk; decide +kernel
theorem dX5_at_15 : dk cX5_at 15 16 (.aload_n 0) 1 := by unfold dk; decide +kernel
theorem dX5_at_16 : dk cX5_at 16 19 (.getfield 9) 3 := by unfold dk; decide +kernel
theorem dX5_at_19 : dk cX5_at 19 20 (.iload_n 2) 1 := by unfold dk; decide +kernel
theorem dX5_at_20 : bk cX5_at 20 23 34 (.ifCond .eq 14) (14) := by unfold bk; decide +kernel
theorem dX5_at_34 : dk cX5_at 34 35 (.aload_n 0) 1 := by unfold dk; decide +kernel
theorem dX5_at_35 : dk cX5_at 35 38 (.getfield 15) 3 := by unfold dk; decide +kernel
theorem dX5_at_38 : dk cX5_at 38 39 (.iload_n 1) 1 := by unfold dk; decide +kernel
theorem dX5_at_39 : dk cX5_at 39 40 (.iadd) 1 := by unfold dk; decide +kernel
theorem dX5_at_23 : dk cX5_at 23 24 (.aload_n 0) 1 := by unfold dk; decide +kernel
theorem dX5_at_24 : dk cX5_at 24 27 (.getfield 19) 3 := by unfold dk; decide +kernel
theorem dX5_at_27 : dk cX5_at 27 28 (.iconst 1) 1 := by unfold dk; decide +kernel
theorem dX5_at_28 : dk cX5_at 28 29 (.isub) 1 := by unfold dk; decide +kernel
theorem dX5_at_29 : dk cX5_at 29 30 (.iload_n 1) 1 := by unfold dk; decide +kernel
theorem dX5_at_30 : dk cX5_at 30 31 (.isub) 1 := by unfold dk; decide +kernel
theorem dX5_at_31 : bk cX5_at 31 34 40 (.goto 9) (9) := by unfold bk; decide +kernel
theorem dX5_at_40 : dk cX5_at 40 41 (.iaload) 1 := by unfold dk; decide +kernel
theorem dX5_at_41 : dk cX5_at 41 42 (.ireturn) 1 := by unfold dk; decide +kernel
theorem dX5_at_9 : bk cX5_at 9 12 15 (.if_icmp .lt 6) (6) := by unfold bk; decide +kernel
theorem dX5_at_1 : bk cX5_at 1 4 12 (.ifCond .lt 11) (11) := by unfold bk; decide +kernel
def fX5_at (E : En) (a0 : Nat) (a1 : Int32) (a2 : Int32) (σ : Sg) : Option (Int32 × Sg) := tk (cd E a0) 5 (if a1 < 0 then (some ((-2 : Int32), σ)) else (bd (fX5_size E a0 σ) (fun r3 s1 => if a1 < r3 then (dr (rf E a0 0) E 100 (fun x4 => bd (if a2 = 0 then (some (((gi s1 a0 1) + a1), s1)) else (some ((((gi s1 a0 2) - (1 : Int32)) - a1), s1))) (fun w5 s6 => ck w5 (ln E x4) (some ((gi s6 x4 w5.toNatClampNeg), s6))))) else (some ((-2 : Int32), s1)))))
set_option maxHeartbeats 4000000 in
set_option maxRecDepth 100000 in
theorem kX5_at {l : Launch} {G : Gl} {E : En} {a0 : Nat} {a1 : Int32} {a2 : Int32} {σ σ' : Sg} {r : Int32} : fX5_at E a0 a1 a2 σ = some (r, σ') → CT l yX5_at cX5_at 3 (some .int) ({ frames := 1, cells := 0, slots := 0, locals := 20 } : Room) [.ref (G.1 + a0), .int a1, .int a2] G E σ (some (.int r)) σ' := by
  intro h
  refine CT_of (lv0 := [(0, .ref (G.1 + a0)), (1, .int a1), (2, .int a2)]) (by decide) (Nat.le_of_ble_eq_true rfl) rfl (fun κ hl hR hr C => ?_)
  have C : Cx κ G cX5_at RX5 3 := C
  revert h
  unfold fX5_at
  refine R_tk (fun ha0 => ?_)
  refine R_iload_n C 1 rfl dX5_at_0 ?_
  refine B_if_lt C dX5_at_1 ?_ ?_
  · refine R_bipush C (-2) dX5_at_12 (by decide) ?_
    exact R_iret C hr dX5_at_14
  · refine R_iload_n C 1 rfl dX5_at_4 ?_
    refine R_aload_n C 0 rfl dX5_at_5 ?_
    refine R_bd (fun r3 s1 q2 => ?_)
    refine R_callVi [] [.int a1] C ml5_28 (kX5_size q2) (by rw [hR]; exact ⟨rfl, rfl, Nat.le_of_ble_eq_true rfl, Nat.le_of_ble_eq_true rfl, Nat.zero_le _, Nat.zero_le _⟩) ha0 rfl rfl (Nat.le_of_ble_eq_true rfl) dX5_at_6 ?_
    refine B_icmp_lt C dX5_at_9 ?_ ?_
    · refine R_aload_n C 0 rfl dX5_at_15 ?_
      refine R_dr (fun x4 rx4 cx4 => ?_)
      refine R_getr C fl5_9 rfl ha0 rx4 dX5_at_16 ?_
      refine R_iload_n C 2 rfl dX5_at_19 ?_
      refine R_bdK (fun (w : Int32) (s : Sg) => V κ G (QQ κ G E (some (.int r)) σ') E s (false, 0, 0) 40 [] [.int w, .ref (G.1 + x4)]) (fun w5 s6 => ?_) (fun w5 s6 Kw5 => ?_)
      · refine R_ck (fun h7 => ?_)
        refine R_iald C cx4 h7 dX5_at_40 ?_
        exact R_iret C hr dX5_at_41
      · refine B_if_eq C dX5_at_20 ?_ ?_
        · refine R_aload_n C 0 rfl dX5_at_34 ?_
          refine R_geti C fl5_15 rfl ha0 dX5_at_35 ?_
          refine R_iload_n C 1 rfl dX5_at_38 ?_
          refine R_iadd C dX5_at_39 ?_
          refine R_loc (lv2 := []) [] rfl ?_
          exact R_end (fun (w : Int32) (s : Sg) => V κ G (QQ κ G E (some (.int r)) σ') E s (false, 0, 0) 40 [] [.int w, .ref (G.1 + x4)]) Kw5
        · refine R_aload_n C 0 rfl dX5_at_23 ?_
          refine R_geti C fl5_19 rfl ha0 dX5_at_24 ?_
          refine R_iconst C (1) dX5_at_27 (by decide) ?_
          refine R_isub C dX5_at_28 ?_
          refine R_iload_n C 1 rfl dX5_at_29 ?_
          refine R_isub C dX5_at_30 ?_
          refine R_goto C dX5_at_31 ?_
          refine R_loc (lv2 := []) [] rfl ?_
          exact R_end (fun (w : Int32) (s : Sg) => V κ G (QQ κ G E (some (.int r)) σ') E s (false, 0, 0) 40 [] [.int w, .ref (G.1 + x4)]) Kw5
    · refine R_bipush C (-2) dX5_at_12 (by decide) ?_
      exact R_iret C hr dX5_at_14
theorem dX5_write_0 : dk cX5_write 0 1 (.aload_n 0) 1 := by unfold dk; decide +kernel
theorem dX5_write_1 : dk cX5_write 1 4 (.getfield 19) 3 := by unfold dk; decide +kernel
theorem dX5_write_4 : dk cX5_write 4 7 (.sipush 256) 3 := by unfold dk; decide +kernel
theorem dX5_write_7 : bk cX5_write 7 10 30 (.if_icmp .ge 23) (23) := by unfold bk; decide +kernel
theorem dX5_write_10 : dk cX5_write 10 11 (.aload_n 0) 1 := by unfold dk; decide +kernel
theorem dX5_write_11 : dk cX5_write 11 14 (.getfield 9) 3 := by unfold dk; decide +kernel
theorem dX5_write_14 : dk cX5_write 14 15 (.aload_n 0) 1 := by unfold dk; decide +kernel
theorem dX5_write_15 : dk cX5_write 15 18 (.getfield 19) 3 := by unfold dk; decide +kernel
theorem dX5_write_18 : dk cX5_write 18 19 (.iload_n 1) 1 := by unfold dk; decide +kernel
theorem dX5_write_19 : dk cX5_write 19 20 (.iastore) 1 := by unfold dk; decide +kernel
theorem dX5_write_20 : dk cX5_write 20 21 (.aload_n 0) 1 := by unfold dk; decide +kernel
theorem dX5_write_21 : dk cX5_write 21 22 (.dup) 1 := by unfold dk; decide +kernel
theorem dX5_write_22 : dk cX5_write 22 25 (.getfield 19) 3 := by unfold dk; decide +kernel
theorem dX5_write_25 : dk cX5_write 25 26 (.iconst 1) 1 := by unfold dk; decide +kernel
theorem dX5_write_26 : dk cX5_write 26 27 (.iadd) 1 := by unfold dk; decide +kernel
theorem dX5_write_27 : dk cX5_write 27 30 (.putfield 19) 3 := by unfold dk; decide +kernel
theorem dX5_write_30 : dk cX5_write 30 31 (.return_) 1 := by unfold dk; decide +kernel
def fX5_write (E : En) (a0 : Nat) (a1 : Int32) (σ : Sg) : Option (Sg) := tk (cd E a0) 5 (bd (if (256 : Int32) ≤ (gi σ a0 2) then (some ((), σ)) else (dr (rf E a0 0) E 100 (fun x3 => ck (gi σ a0 2) (ln E x3) (ss (si σ x3 (gi σ a0 2).toNatClampNeg a1) (fun s5 => ss (si s5 a0 2 ((gi s5 a0 2) + (1 : Int32))) (fun s6 => some ((), s6))))))) (fun w1 s2 => some s2))
set_option maxHeartbeats 4000000 in
set_option maxRecDepth 100000 in
theorem kX5_write {l : Launch} {G : Gl} {E : En} {a0 : Nat} {a1 : Int32} {σ σ' : Sg} : fX5_write E a0 a1 σ = some σ' → CT l yX5_write cX5_write 2 none ({ frames := 0, cells := 0, slots := 0, locals := 0 } : Room) [.ref (G.1 + a0), .int a1] G E σ none σ' := by
  intro h
  refine CT_of (lv0 := [(0, .ref (G.1 + a0)), (1, .int a1)]) (by decide) (Nat.le_of_ble_eq_true rfl) rfl (fun κ hl hR hr C => ?_)
  have C : Cx κ G cX5_write RX5 2 := C
  revert h
  unfold fX5_write
  refine R_tk (fun ha0 => ?_)
  refine R_aload_n C 0 rfl dX5_write_0 ?_
  refine R_geti C fl5_19 rfl ha0 dX5_write_1 ?_
  refine R_sipush C (256) dX5_write_4 (by decide) ?_
  refine R_bdK (fun (w : Unit) (s : Sg) => V κ G (QQ κ G E none σ') E s (false, 0, 0) 30 [] []) (fun w1 s2 => ?_) (fun w1 s2 Kw1 => ?_)
  · exact R_vret C hr dX5_write_30
  · refine B_icmp_ge C dX5_write_7 ?_ ?_
    · refine R_loc (lv2 := []) [] rfl ?_
      exact R_end (fun (w : Unit) (s : Sg) => V κ G (QQ κ G E none σ') E s (false, 0, 0) 30 [] []) Kw1
    · refine R_aload_n C 0 rfl dX5_write_10 ?_
      refine R_dr (fun x3 rx3 cx3 => ?_)
      refine R_getr C fl5_9 rfl ha0 rx3 dX5_write_11 ?_
      refine R_aload_n C 0 rfl dX5_write_14 ?_
      refine R_geti C fl5_19 rfl ha0 dX5_write_15 ?_
      refine R_iload_n C 1 rfl dX5_write_18 ?_
      refine R_ck (fun h4 => ?_)
      refine S_iast C cx3 h4 dX5_write_19 (fun s5 => ?_)
      refine R_aload_n C 0 rfl dX5_write_20 ?_
      refine R_dup C dX5_write_21 rfl ?_
      refine R_geti C fl5_19 rfl ha0 dX5_write_22 ?_
      refine R_iconst C (1) dX5_write_25 (by decide) ?_
      refine R_iadd C dX5_write_26 ?_
      refine S_puti C fl5_19 rfl ha0 rfl rfl dX5_write_27 (fun s6 => ?_)
      refine R_loc (lv2 := []) [] rfl ?_
      exact R_end (fun (w : Unit) (s : Sg) => V κ G (QQ κ G E none σ') E s (false, 0, 0) 30 [] []) Kw1
theorem dX5_drop_0 : dk cX5_drop 0 1 (.aload_n 0) 1 := by unfold dk; decide +kernel
theorem dX5_drop_1 : dk cX5_drop 1 4 (.getfield 15) 3 := by unfold dk; decide +kernel
theorem dX5_drop_4 : dk cX5_drop 4 5 (.aload_n 0) 1 := by unfold dk; decide +kernel
theorem dX5_drop_5 : dk cX5_drop 5 8 (.getfield 19) 3 := by unfold dk; decide +kernel
theorem dX5_drop_12 : dk cX5_drop 12 13 (.iload_n 1) 1 := by unfold dk; decide +kernel
theorem dX5_drop_13 : bk cX5_drop 13 16 29 (.ifCond .eq 16) (16) := by unfold bk; decide +kernel
theorem dX5_drop_29 : dk cX5_drop 29 30 (.aload_n 0) 1 := by unfold dk; decide +kernel
theorem dX5_drop_30 : dk cX5_drop 30 31 (.dup) 1 := by unfold dk; decide +kernel
theorem dX5_drop_31 : dk cX5_drop 31 34 (.getfield 15) 3 := by unfold dk; decide +kernel
theorem dX5_drop_34 : dk cX5_drop 34 35 (.iconst 1) 1 := by unfold dk; decide +kernel
theorem dX5_drop_35 : dk cX5_drop 35 36 (.iadd) 1 := by unfold dk; decide +kernel
theorem dX5_drop_36 : dk cX5_drop 36 39 (.putfield 15) 3 := by unfold dk; decide +kernel
theorem dX5_drop_16 : dk cX5_drop 16 17 (.aload_n 0) 1 := by unfold dk; decide +kernel
theorem dX5_drop_17 : dk cX5_drop 17 18 (.dup) 1 := by unfold dk; decide +kernel
theorem dX5_drop_18 : dk cX5_drop 18 21 (.getfield 19) 3 := by unfold dk; decide +kernel
theorem dX5_drop_21 : dk cX5_drop 21 22 (.iconst 1) 1 := by unfold dk; decide +kernel
theorem dX5_drop_22 : dk cX5_drop 22 23 (.isub) 1 := by unfold dk; decide +kernel
theorem dX5_drop_23 : dk cX5_drop 23 26 (.putfield 19) 3 := by unfold dk; decide +kernel
theorem dX5_drop_26 : bk cX5_drop 26 29 39 (.goto 13) (13) := by unfold bk; decide +kernel
theorem dX5_drop_39 : dk cX5_drop 39 40 (.aload_n 0) 1 := by unfold dk; decide +kernel
theorem dX5_drop_40 : dk cX5_drop 40 43 (.getfield 15) 3 := by unfold dk; decide +kernel
theorem dX5_drop_43 : dk cX5_drop 43 44 (.aload_n 0) 1 := by unfold dk; decide +kernel
theorem dX5_drop_44 : dk cX5_drop 44 47 (.getfield 19) 3 := by unfold dk; decide +kernel
theorem dX5_drop_47 : bk cX5_drop 47 50 54 (.if_icmp .ne 7) (7) := by unfold bk; decide +kernel
theorem dX5_drop_50 : dk cX5_drop 50 51 (.aload_n 0) 1 := by unfold dk; decide +kernel
theorem dX5_drop_51 : dk cX5_drop 51 54 (.invokevirtual 32) 3 := by unfold dk; decide +kernel
theorem dX5_drop_54 : dk cX5_drop 54 55 (.return_) 1 := by unfold dk; decide +kernel
theorem dX5_drop_11 : dk cX5_drop 11 12 (.return_) 1 := by unfold dk; decide +kernel
theorem dX5_drop_8 : bk cX5_drop 8 11 12 (.if_icmp .lt 4) (4) := by unfold bk; decide +kernel
def fX5_drop (E : En) (a0 : Nat) (a1 : Int32) (σ : Sg) : Option (Sg) := tk (cd E a0) 5 (if (gi σ a0 1) < (gi σ a0 2) then (bd (if a1 = 0 then (ss (si σ a0 1 ((gi σ a0 1) + (1 : Int32))) (fun s3 => some ((), s3))) else (ss (si σ a0 2 ((gi σ a0 2) - (1 : Int32))) (fun s4 => some ((), s4)))) (fun w1 s2 => bd (if ¬ (gi s2 a0 1) = (gi s2 a0 2) then (some ((), s2)) else (bv (fX5_wipe E a0 s2) (fun s7 => some ((), s7)))) (fun w5 s6 => some s6))) else (some σ))
set_option maxHeartbeats 4000000 in
set_option maxRecDepth 100000 in
theorem kX5_drop {l : Launch} {G : Gl} {E : En} {a0 : Nat} {a1 : Int32} {σ σ' : Sg} : fX5_drop E a0 a1 σ = some σ' → CT l yX5_drop cX5_drop 2 none ({ frames := 1, cells := 0, slots := 0, locals := 20 } : Room) [.ref (G.1 + a0), .int a1] G E σ none σ' := by
  intro h
  refine CT_of (lv0 := [(0, .ref (G.1 + a0)), (1, .int a1)]) (by decide) (Nat.le_of_ble_eq_true rfl) rfl (fun κ hl hR hr C => ?_)
  have C : Cx κ G cX5_drop RX5 2 := C
  revert h
  unfold fX5_drop
  refine R_tk (fun ha0 => ?_)
  refine R_aload_n C 0 rfl dX5_drop_0 ?_
  refine R_geti C fl5_15 rfl ha0 dX5_drop_1 ?_
  refine R_aload_n C 0 rfl dX5_drop_4 ?_
  refine R_geti C fl5_19 rfl ha0 dX5_drop_5 ?_
  refine B_icmp_lt C dX5_drop_8 ?_ ?_
  · refine R_iload_n C 1 rfl dX5_drop_12 ?_
    refine R_bdK (fun (w : Unit) (s : Sg) => V κ G (QQ κ G E none σ') E s (false, 0, 0) 39 [(0, .ref (G.1 + a0))] []) (fun w1 s2 => ?_) (fun w1 s2 Kw1 => ?_)
    · refine R_aload_n C 0 rfl dX5_drop_39 ?_
      refine R_geti C fl5_15 rfl ha0 dX5_drop_40 ?_
      refine R_aload_n C 0 rfl dX5_drop_43 ?_
      refine R_geti C fl5_19 rfl ha0 dX5_drop_44 ?_
      refine R_bdK (fun (w : Unit) (s : Sg) => V κ G (QQ κ G E none σ') E s (false, 0, 0) 54 [] []) (fun w5 s6 => ?_) (fun w5 s6 Kw5 => ?_)
      · exact R_vret C hr dX5_drop_54
      · refine B_icmp_ne C dX5_drop_47 ?_ ?_
        · refine R_loc (lv2 := []) [] rfl ?_
          exact R_end (fun (w : Unit) (s : Sg) => V κ G (QQ κ G E none σ') E s (false, 0, 0) 54 [] []) Kw5
        · refine R_aload_n C 0 rfl dX5_drop_50 ?_
          refine R_bv (fun s7 q8 => ?_)
          refine R_callVv [] [] C ml5_32 (kX5_wipe q8) (by rw [hR]; exact ⟨rfl, rfl, Nat.le_of_ble_eq_true rfl, Nat.le_of_ble_eq_true rfl, Nat.zero_le _, Nat.zero_le _⟩) ha0 rfl rfl (Nat.le_of_ble_eq_true rfl) dX5_drop_51 ?_
          refine R_loc (lv2 := []) [] rfl ?_
          exact R_end (fun (w : Unit) (s : Sg) => V κ G (QQ κ G E none σ') E s (false, 0, 0) 54 [] []) Kw5
    · refine B_if_eq C dX5_drop_13 ?_ ?_
      · refine R_aload_n C 0 rfl dX5_drop_29 ?_
        refine R_dup C dX5_drop_30 rfl ?_
        refine R_geti C fl5_15 rfl ha0 dX5_drop_31 ?_
        refine R_iconst C (1) dX5_drop_34 (by decide) ?_
        refine R_iadd C dX5_drop_35 ?_
        refine S_puti C fl5_15 rfl ha0 rfl rfl dX5_drop_36 (fun s3 => ?_)
        refine R_loc (lv2 := [(0, .ref (G.1 + a0))]) [0] rfl ?_
        exact R_end (fun (w : Unit) (s : Sg) => V κ G (QQ κ G E none σ') E s (false, 0, 0) 39 [(0, .ref (G.1 + a0))] []) Kw1
      · refine R_aload_n C 0 rfl dX5_drop_16 ?_
        refine R_dup C dX5_drop_17 rfl ?_
        refine R_geti C fl5_19 rfl ha0 dX5_drop_18 ?_
        refine R_iconst C (1) dX5_drop_21 (by decide) ?_
        refine R_isub C dX5_drop_22 ?_
        refine S_puti C fl5_19 rfl ha0 rfl rfl dX5_drop_23 (fun s4 => ?_)
        refine R_goto C dX5_drop_26 ?_
        refine R_loc (lv2 := [(0, .ref (G.1 + a0))]) [0] rfl ?_
        exact R_end (fun (w : Unit) (s : Sg) => V κ G (QQ κ G E none σ') E s (false, 0, 0) 39 [(0, .ref (G.1 + a0))] []) Kw1
  · exact R_vret C hr dX5_drop_11
end
section
theorem dX2_ground_0 : dk cX2_ground 0 1 (.aload_n 0) 1 := by unfold dk; decide +kernel
theorem dX2_ground_1 : dk cX2_ground 1 2 (.iconst 1) 1 := by unfold dk; decide +kernel
theorem dX2_ground_2 : dk cX2_ground 2 3 (.iload_n 1) 1 := by unfold dk; decide +kernel
theorem dX2_ground_3 : dk cX2_ground 3 4 (.iconst 5) 1 := by unfold dk; decide +kernel
theorem dX2_ground_4 : dk cX2_ground 4 7 (.invokestatic 15) 3 := by unfold dk; decide +kernel
theorem dX2_ground_7 : dk cX2_ground 7 10 (.invokestatic 21) 3 := by unfold dk; decide +kernel
theorem dX2_ground_10 : dk cX2_ground 10 13 (.putfield 24) 3 := by unfold dk; decide +kernel
theorem dX2_ground_13 : dk cX2_ground 13 14 (.aload_n 0) 1 := by unfold dk; decide +kernel
theorem dX2_ground_14 : dk cX2_ground 14 15 (.iconst 0) 1 := by unfold dk; decide +kernel
theorem dX2_ground_15 : dk cX2_ground 15 18 (.putfield 28) 3 := by unfold dk; decide +kernel
theorem dX2_ground_18 : dk cX2_ground 18 19 (.iconst 0) 1 := by unfold dk; decide +kernel
theorem dX2_ground_19 : dk cX2_ground 19 20 (.istore_n 2) 1 := by unfold dk; decide +kernel
theorem dX2_ground_20 : dk cX2_ground 20 21 (.iload_n 2) 1 := by unfold dk; decide +kernel
theorem dX2_ground_21 : dk cX2_ground 21 22 (.aload_n 0) 1 := by unfold dk; decide +kernel
theorem dX2_ground_22 : dk cX2_ground 22 25 (.getfield 24) 3 := by unfold dk; decide +kernel
theorem dX2_ground_28 : dk cX2_ground 28 29 (.aload_n 0) 1 := by unfold dk; decide +kernel
theorem dX2_ground_29 : dk cX2_ground 29 32 (.getfield 9) 3 := by unfold dk; decide +kernel
theorem dX2_ground_32 : dk cX2_ground 32 33 (.iload_n 2) 1 := by unfold dk; decide +kernel
theorem dX2_ground_33 : dk cX2_ground 33 34 (.iload_n 2) 1 := by unfold dk; decide +kernel
theorem dX2_ground_34 : bk cX2_ground 34 37 41 (.ifCond .ne 7) (7) := by unfold bk; decide +kernel
theorem dX2_ground_41 : dk cX2_ground 41 42 (.iconst 0) 1 := by unfold dk; decide +kernel
theorem dX2_ground_37 : dk cX2_ground 37 38 (.iconst 1) 1 := by unfold dk; decide +kernel
theorem dX2_ground_38 : bk cX2_ground 38 41 42 (.goto 4) (4) := by unfold bk; decide +kernel
theorem dX2_ground_42 : dk cX2_ground 42 43 (.iastore) 1 := by unfold dk; decide +kernel
theorem dX2_ground_43 : dk cX2_ground 43 46 (.iinc 2 1) 3 := by unfold dk; decide +kernel
theorem dX2_ground_46 : bk cX2_ground 46 49 20 (.goto (-26)) (-26) := by unfold bk; decide +kernel
theorem dX2_ground_25 : bk cX2_ground 25 28 49 (.if_icmp .ge 24) (24) := by unfold bk; decide +kernel
theorem dX2_ground_49 : dk cX2_ground 49 50 (.return_) 1 := by unfold dk; decide +kernel
def bX2_ground_20 (E : En) (a0 : Nat) (rec : Int32 → Sg → Option ((Int32) × Sg)) (v3 : Int32) (s4 : Sg) : Option ((Int32) × Sg) := if (gi s4 a0 1) ≤ v3 then (some (v3, s4)) else (dr (rf E a0 0) E 100 (fun x9 => bd (if ¬ v3 = 0 then (some ((0 : Int32), s4)) else (some ((1 : Int32), s4))) (fun w10 s11 => ck v3 (ln E x9) (ss (si s11 x9 v3.toNatClampNeg w10) (fun s13 => lt (v3 + (1 : Int32)) (fun v14 => rec v14 s13))))))
def fX2_ground (E : En) (a0 : Nat) (a1 : Int32) (σ : Sg) : Option (Sg) := tk (cd E a0) 2 (ss (si σ a0 1 (imax (1 : Int32) (imin a1 (5 : Int32)))) (fun s1 => ss (si s1 a0 2 (0 : Int32)) (fun s2 => bd (fx (fun rec a => bX2_ground_20 E a0 (fun u0 t => rec (u0, t)) a.1 a.2) FU ((0 : Int32), s2)) (fun o15 s16 => some s16))))
set_option maxHeartbeats 4000000 in
set_option maxRecDepth 100000 in
theorem kX2_ground {l : Launch} {G : Gl} {E : En} {a0 : Nat} {a1 : Int32} {σ σ' : Sg} : fX2_ground E a0 a1 σ = some σ' → CT l yX2_ground cX2_ground 3 none ({ frames := 1, cells := 0, slots := 0, locals := 21 } : Room) [.ref (G.1 + a0), .int a1] G E σ none σ' := by
  intro h
  refine CT_of (lv0 := [(0, .ref (G.1 + a0)), (1, .int a1)]) (by decide) (Nat.le_of_ble_eq_true rfl) rfl (fun κ hl hR hr C => ?_)
  have C : Cx κ G cX2_ground RX2 3 := C
  revert h
  unfold fX2_ground
  refine R_tk (fun ha0 => ?_)
  refine R_aload_n C 0 rfl dX2_ground_0 ?_
  refine R_iconst C (1) dX2_ground_1 (by decide) ?_
  refine R_iload_n C 1 rfl dX2_ground_2 ?_
  refine R_iconst C (5) dX2_ground_3 (by decide) ?_
  refine R_mmin C jd2_15 (by rw [hR]; exact ⟨Nat.le_of_ble_eq_true rfl, Nat.le_of_ble_eq_true rfl, Nat.zero_le _, Nat.zero_le _⟩) dX2_ground_4 ?_
  refine R_mmax C jd2_21 (by rw [hR]; exact ⟨Nat.le_of_ble_eq_true rfl, Nat.le_of_ble_eq_true rfl, Nat.zero_le _, Nat.zero_le _⟩) dX2_ground_7 ?_
  refine S_puti C fl2_24 rfl ha0 rfl rfl dX2_ground_10 (fun s1 => ?_)
  refine R_aload_n C 0 rfl dX2_ground_13 ?_
  refine R_iconst C (0) dX2_ground_14 (by decide) ?_
  refine S_puti C fl2_28 rfl ha0 rfl rfl dX2_ground_15 (fun s2 => ?_)
  refine R_iconst C (0) dX2_ground_18 (by decide) ?_
  refine R_istore_n (lv2 := [(2, .int (0 : Int32)), (0, .ref (G.1 + a0)), (1, .int a1)]) C dX2_ground_19 rfl (by decide) rfl ?_
  refine R_loc (lv2 := [(0, .ref (G.1 + a0)), (2, .int (0 : Int32))]) [1, 0] rfl ?_
  refine R_loop (fun (a : (Int32) × Sg) => V κ G (QQ κ G E none σ') E a.2 (false, 0, 0) 20 [(0, .ref (G.1 + a0)), (2, .int a.1)] []) (fun (o : (Int32)) (s : Sg) => V κ G (QQ κ G E none σ') E s (false, 0, 0) 49 [] []) ((0 : Int32), s2) (fun o15 s16 => ?_) (fun rec I8 a b6 s7 K5 => ?_)
  · exact R_vret C hr dX2_ground_49
  · obtain ⟨v3, s4⟩ := a
    show bX2_ground_20 E a0 (fun u0 t => rec (u0, t)) v3 s4 = some (b6, s7) → V κ G (QQ κ G E none σ') E s4 (false, 0, 0) 20 [(0, .ref (G.1 + a0)), (2, .int v3)] []
    unfold bX2_ground_20
    refine R_iload_n C 1 rfl dX2_ground_20 ?_
    refine R_aload_n C 0 rfl dX2_ground_21 ?_
    refine R_geti C fl2_24 rfl ha0 dX2_ground_22 ?_
    refine B_icmp_ge C dX2_ground_25 ?_ ?_
    · refine R_loc (lv2 := []) [] rfl ?_
      exact R_end (fun (o : (Int32)) (s : Sg) => V κ G (QQ κ G E none σ') E s (false, 0, 0) 49 [] []) K5
    · refine R_aload_n C 0 rfl dX2_ground_28 ?_
      refine R_dr (fun x9 rx9 cx9 => ?_)
      refine R_getr C fl2_9 rfl ha0 rx9 dX2_ground_29 ?_
      refine R_iload_n C 1 rfl dX2_ground_32 ?_
      refine R_iload_n C 1 rfl dX2_ground_33 ?_
      refine R_bdK (fun (w : Int32) (s : Sg) => V κ G (QQ κ G E none σ') E s (false, 0, 0) 42 [(0, .ref (G.1 + a0)), (2, .int v3)] [.int w, .int v3, .ref (G.1 + x9)]) (fun w10 s11 => ?_) (fun w10 s11 Kw10 => ?_)
      · refine R_ck (fun h12 => ?_)
        refine S_iast C cx9 h12 dX2_ground_42 (fun s13 => ?_)
        refine S_iinc (fun v14 => [(2, .int v14), (0, .ref (G.1 + a0))]) 1 C dX2_ground_43 rfl (by decide) (by decide) (fun _ => rfl) (fun v14 => ?_)
        refine R_goto C dX2_ground_46 ?_
        refine R_loc (lv2 := [(0, .ref (G.1 + a0)), (2, .int v14)]) [1, 0] rfl ?_
        exact I8 (v14, s13) b6 s7 K5
      · refine B_if_ne C dX2_ground_34 ?_ ?_
        · refine R_iconst C (0) dX2_ground_41 (by decide) ?_
          exact R_end (fun (w : Int32) (s : Sg) => V κ G (QQ κ G E none σ') E s (false, 0, 0) 42 [(0, .ref (G.1 + a0)), (2, .int v3)] [.int w, .int v3, .ref (G.1 + x9)]) Kw10
        · refine R_iconst C (1) dX2_ground_37 (by decide) ?_
          refine R_goto C dX2_ground_38 ?_
          exact R_end (fun (w : Int32) (s : Sg) => V κ G (QQ κ G E none σ') E s (false, 0, 0) 42 [(0, .ref (G.1 + a0)), (2, .int v3)] [.int w, .int v3, .ref (G.1 + x9)]) Kw10
theorem dX2_climbCascade_0 : dk cX2_climbCascade 0 1 (.iconst 1) 1 := by unfold dk; decide +kernel
theorem dX2_climbCascade_1 : dk cX2_climbCascade 1 2 (.istore_n 1) 1 := by unfold dk; decide +kernel
theorem dX2_climbCascade_2 : dk cX2_climbCascade 2 3 (.iload_n 1) 1 := by unfold dk; decide +kernel
theorem dX2_climbCascade_3 : dk cX2_climbCascade 3 4 (.aload_n 0) 1 := by unfold dk; decide +kernel
theorem dX2_climbCascade_4 : dk cX2_climbCascade 4 7 (.getfield 24) 3 := by unfold dk; decide +kernel
theorem dX2_climbCascade_10 : dk cX2_climbCascade 10 11 (.aload_n 0) 1 := by unfold dk; decide +kernel
theorem dX2_climbCascade_11 : dk cX2_climbCascade 11 14 (.getfield 9) 3 := by unfold dk; decide +kernel
theorem dX2_climbCascade_14 : dk cX2_climbCascade 14 15 (.iload_n 1) 1 := by unfold dk; decide +kernel
theorem dX2_climbCascade_15 : dk cX2_climbCascade 15 16 (.dup2) 1 := by unfold dk; decide +kernel
theorem dX2_climbCascade_16 : dk cX2_climbCascade 16 17 (.iaload) 1 := by unfold dk; decide +kernel
theorem dX2_climbCascade_17 : dk cX2_climbCascade 17 18 (.aload_n 0) 1 := by unfold dk; decide +kernel
theorem dX2_climbCascade_18 : dk cX2_climbCascade 18 21 (.getfield 9) 3 := by unfold dk; decide +kernel
theorem dX2_climbCascade_21 : dk cX2_climbCascade 21 22 (.iload_n 1) 1 := by unfold dk; decide +kernel
theorem dX2_climbCascade_22 : dk cX2_climbCascade 22 23 (.iconst 1) 1 := by unfold dk; decide +kernel
theorem dX2_climbCascade_23 : dk cX2_climbCascade 23 24 (.isub) 1 := by unfold dk; decide +kernel
theorem dX2_climbCascade_24 : dk cX2_climbCascade 24 25 (.iaload) 1 := by unfold dk; decide +kernel
theorem dX2_climbCascade_25 : dk cX2_climbCascade 25 26 (.iadd) 1 := by unfold dk; decide +kernel
theorem dX2_climbCascade_26 : dk cX2_climbCascade 26 27 (.iastore) 1 := by unfold dk; decide +kernel
theorem dX2_climbCascade_27 : dk cX2_climbCascade 27 30 (.iinc 1 1) 3 := by unfold dk; decide +kernel
theorem dX2_climbCascade_30 : bk cX2_climbCascade 30 33 2 (.goto (-28)) (-28) := by unfold bk; decide +kernel
theorem dX2_climbCascade_7 : bk cX2_climbCascade 7 10 33 (.if_icmp .ge 26) (26) := by unfold bk; decide +kernel
theorem dX2_climbCascade_33 : dk cX2_climbCascade 33 34 (.iconst 0) 1 := by unfold dk; decide +kernel
theorem dX2_climbCascade_34 : dk cX2_climbCascade 34 35 (.istore_n 1) 1 := by unfold dk; decide +kernel
theorem dX2_climbCascade_35 : dk cX2_climbCascade 35 36 (.iload_n 1) 1 := by unfold dk; decide +kernel
theorem dX2_climbCascade_36 : dk cX2_climbCascade 36 37 (.aload_n 0) 1 := by unfold dk; decide +kernel
theorem dX2_climbCascade_37 : dk cX2_climbCascade 37 40 (.getfield 24) 3 := by unfold dk; decide +kernel
theorem dX2_climbCascade_40 : dk cX2_climbCascade 40 41 (.iconst 2) 1 := by unfold dk; decide +kernel
theorem dX2_climbCascade_41 : dk cX2_climbCascade 41 42 (.idiv) 1 := by unfold dk; decide +kernel
theorem dX2_climbCascade_45 : dk cX2_climbCascade 45 46 (.aload_n 0) 1 := by unfold dk; decide +kernel
theorem dX2_climbCascade_46 : dk cX2_climbCascade 46 49 (.getfield 9) 3 := by unfold dk; decide +kernel
theorem dX2_climbCascade_49 : dk cX2_climbCascade 49 50 (.aload_n 0) 1 := by unfold dk; decide +kernel
theorem dX2_climbCascade_50 : dk cX2_climbCascade 50 53 (.getfield 24) 3 := by unfold dk; decide +kernel
theorem dX2_climbCascade_53 : dk cX2_climbCascade 53 54 (.iconst 1) 1 := by unfold dk; decide +kernel
theorem dX2_climbCascade_54 : dk cX2_climbCascade 54 55 (.isub) 1 := by unfold dk; decide +kernel
theorem dX2_climbCascade_55 : dk cX2_climbCascade 55 56 (.iload_n 1) 1 := by unfold dk; decide +kernel
theorem dX2_climbCascade_56 : dk cX2_climbCascade 56 57 (.isub) 1 := by unfold dk; decide +kernel
theorem dX2_climbCascade_57 : dk cX2_climbCascade 57 58 (.iaload) 1 := by unfold dk; decide +kernel
theorem dX2_climbCascade_58 : dk cX2_climbCascade 58 59 (.istore_n 2) 1 := by unfold dk; decide +kernel
theorem dX2_climbCascade_59 : dk cX2_climbCascade 59 60 (.aload_n 0) 1 := by unfold dk; decide +kernel
theorem dX2_climbCascade_60 : dk cX2_climbCascade 60 63 (.getfield 9) 3 := by unfold dk; decide +kernel
theorem dX2_climbCascade_63 : dk cX2_climbCascade 63 64 (.aload_n 0) 1 := by unfold dk; decide +kernel
theorem dX2_climbCascade_64 : dk cX2_climbCascade 64 67 (.getfield 24) 3 := by unfold dk; decide +kernel
theorem dX2_climbCascade_67 : dk cX2_climbCascade 67 68 (.iconst 1) 1 := by unfold dk; decide +kernel
theorem dX2_climbCascade_68 : dk cX2_climbCascade 68 69 (.isub) 1 := by unfold dk; decide +kernel
theorem dX2_climbCascade_69 : dk cX2_climbCascade 69 70 (.iload_n 1) 1 := by unfold dk; decide +kernel
theorem dX2_climbCascade_70 : dk cX2_climbCascade 70 71 (.isub) 1 := by unfold dk; decide +kernel
theorem dX2_climbCascade_71 : dk cX2_climbCascade 71 72 (.aload_n 0) 1 := by unfold dk; decide +kernel
theorem dX2_climbCascade_72 : dk cX2_climbCascade 72 75 (.getfield 9) 3 := by unfold dk; decide +kernel
theorem dX2_climbCascade_75 : dk cX2_climbCascade 75 76 (.iload_n 1) 1 := by unfold dk; decide +kernel
theorem dX2_climbCascade_76 : dk cX2_climbCascade 76 77 (.iaload) 1 := by unfold dk; decide +kernel
theorem dX2_climbCascade_77 : dk cX2_climbCascade 77 78 (.iastore) 1 := by unfold dk; decide +kernel
theorem dX2_climbCascade_78 : dk cX2_climbCascade 78 79 (.aload_n 0) 1 := by unfold dk; decide +kernel
theorem dX2_climbCascade_79 : dk cX2_climbCascade 79 82 (.getfield 9) 3 := by unfold dk; decide +kernel
theorem dX2_climbCascade_82 : dk cX2_climbCascade 82 83 (.iload_n 1) 1 := by unfold dk; decide +kernel
theorem dX2_climbCascade_83 : dk cX2_climbCascade 83 84 (.iload_n 2) 1 := by unfold dk; decide +kernel
theorem dX2_climbCascade_84 : dk cX2_climbCascade 84 85 (.iastore) 1 := by unfold dk; decide +kernel
theorem dX2_climbCascade_85 : dk cX2_climbCascade 85 88 (.iinc 1 1) 3 := by unfold dk; decide +kernel
theorem dX2_climbCascade_88 : bk cX2_climbCascade 88 91 35 (.goto (-53)) (-53) := by unfold bk; decide +kernel
theorem dX2_climbCascade_42 : bk cX2_climbCascade 42 45 91 (.if_icmp .ge 49) (49) := by unfold bk; decide +kernel
theorem dX2_climbCascade_91 : dk cX2_climbCascade 91 92 (.return_) 1 := by unfold dk; decide +kernel
def bX2_climbCascade_2 (E : En) (a0 : Nat) (rec : Int32 → Sg → Option ((Int32) × Sg)) (v1 : Int32) (s2 : Sg) : Option ((Int32) × Sg) := if (gi s2 a0 1) ≤ v1 then (some (v1, s2)) else (dr (rf E a0 0) E 100 (fun x7 => ck v1 (ln E x7) (ck (v1 - (1 : Int32)) (ln E x7) (ck v1 (ln E x7) (ss (si s2 x7 v1.toNatClampNeg ((gi s2 x7 v1.toNatClampNeg) + (gi s2 x7 (v1 - (1 : Int32)).toNatClampNeg))) (fun s11 => lt (v1 + (1 : Int32)) (fun v12 => rec v12 s11)))))))
def bX2_climbCascade_35 (E : En) (a0 : Nat) (rec : Int32 → Sg → Option ((Int32) × Sg)) (v15 : Int32) (s16 : Sg) : Option ((Int32) × Sg) := if ((gi s16 a0 1) / (2 : Int32)) ≤ v15 then (some (v15, s16)) else (dr (rf E a0 0) E 100 (fun x21 => ck (((gi s16 a0 1) - (1 : Int32)) - v15) (ln E x21) (lt (gi s16 x21 (((gi s16 a0 1) - (1 : Int32)) - v15).toNatClampNeg) (fun v23 => ck v15 (ln E x21) (ck (((gi s16 a0 1) - (1 : Int32)) - v15) (ln E x21) (ss (si s16 x21 (((gi s16 a0 1) - (1 : Int32)) - v15).toNatClampNeg (gi s16 x21 v15.toNatClampNeg)) (fun s26 => ck v15 (ln E x21) (ss (si s26 x21 v15.toNatClampNeg v23) (fun s28 => lt (v15 + (1 : Int32)) (fun v29 => rec v29 s28))))))))))
def fX2_climbCascade (E : En) (a0 : Nat) (σ : Sg) : Option (Sg) := tk (cd E a0) 2 (bd (fx (fun rec a => bX2_climbCascade_2 E a0 (fun u0 t => rec (u0, t)) a.1 a.2) FU ((1 : Int32), σ)) (fun o13 s14 => bd (fx (fun rec a => bX2_climbCascade_35 E a0 (fun u0 t => rec (u0, t)) a.1 a.2) FU ((0 : Int32), s14)) (fun o30 s31 => some s31)))
set_option maxHeartbeats 4000000 in
set_option maxRecDepth 100000 in
theorem kX2_climbCascade {l : Launch} {G : Gl} {E : En} {a0 : Nat} {σ σ' : Sg} : fX2_climbCascade E a0 σ = some σ' → CT l yX2_climbCascade cX2_climbCascade 3 none ({ frames := 0, cells := 0, slots := 0, locals := 0 } : Room) [.ref (G.1 + a0)] G E σ none σ' := by
  intro h
  refine CT_of (lv0 := [(0, .ref (G.1 + a0))]) (by decide) (Nat.le_of_ble_eq_true rfl) rfl (fun κ hl hR hr C => ?_)
  have C : Cx κ G cX2_climbCascade RX2 3 := C
  revert h
  unfold fX2_climbCascade
  refine R_tk (fun ha0 => ?_)
  refine R_iconst C (1) dX2_climbCascade_0 (by decide) ?_
  refine R_istore_n (lv2 := [(1, .int (1 : Int32)), (0, .ref (G.1 + a0))]) C dX2_climbCascade_1 rfl (by decide) rfl ?_
  refine R_loc (lv2 := [(0, .ref (G.1 + a0)), (1, .int (1 : Int32))]) [1, 0] rfl ?_
  refine R_loop (fun (a : (Int32) × Sg) => V κ G (QQ κ G E none σ') E a.2 (false, 0, 0) 2 [(0, .ref (G.1 + a0)), (1, .int a.1)] []) (fun (o : (Int32)) (s : Sg) => V κ G (QQ κ G E none σ') E s (false, 0, 0) 33 [(0, .ref (G.1 + a0))] []) ((1 : Int32), σ) (fun o13 s14 => ?_) (fun rec I6 a b4 s5 K3 => ?_)
  · refine R_iconst C (0) dX2_climbCascade_33 (by decide) ?_
    refine R_istore_n (lv2 := [(1, .int (0 : Int32)), (0, .ref (G.1 + a0))]) C dX2_climbCascade_34 rfl (by decide) rfl ?_
    refine R_loc (lv2 := [(0, .ref (G.1 + a0)), (1, .int (0 : Int32))]) [1, 0] rfl ?_
    refine R_loop (fun (a : (Int32) × Sg) => V κ G (QQ κ G E none σ') E a.2 (false, 0, 0) 35 [(0, .ref (G.1 + a0)), (1, .int a.1)] []) (fun (o : (Int32)) (s : Sg) => V κ G (QQ κ G E none σ') E s (false, 0, 0) 91 [] []) ((0 : Int32), s14) (fun o30 s31 => ?_) (fun rec I20 a b18 s19 K17 => ?_)
    · exact R_vret C hr dX2_climbCascade_91
    · obtain ⟨v15, s16⟩ := a
      show bX2_climbCascade_35 E a0 (fun u0 t => rec (u0, t)) v15 s16 = some (b18, s19) → V κ G (QQ κ G E none σ') E s16 (false, 0, 0) 35 [(0, .ref (G.1 + a0)), (1, .int v15)] []
      unfold bX2_climbCascade_35
      refine R_iload_n C 1 rfl dX2_climbCascade_35 ?_
      refine R_aload_n C 0 rfl dX2_climbCascade_36 ?_
      refine R_geti C fl2_24 rfl ha0 dX2_climbCascade_37 ?_
      refine R_iconst C (2) dX2_climbCascade_40 (by decide) ?_
      refine R_idiv C dX2_climbCascade_41 (by decide) ?_
      refine B_icmp_ge C dX2_climbCascade_42 ?_ ?_
      · refine R_loc (lv2 := []) [] rfl ?_
        exact R_end (fun (o : (Int32)) (s : Sg) => V κ G (QQ κ G E none σ') E s (false, 0, 0) 91 [] []) K17
      · refine R_aload_n C 0 rfl dX2_climbCascade_45 ?_
        refine R_dr (fun x21 rx21 cx21 => ?_)
        refine R_getr C fl2_9 rfl ha0 rx21 dX2_climbCascade_46 ?_
        refine R_aload_n C 0 rfl dX2_climbCascade_49 ?_
        refine R_geti C fl2_24 rfl ha0 dX2_climbCascade_50 ?_
        refine R_iconst C (1) dX2_climbCascade_53 (by decide) ?_
        refine R_isub C dX2_climbCascade_54 ?_
        refine R_iload_n C 1 rfl dX2_climbCascade_55 ?_
        refine R_isub C dX2_climbCascade_56 ?_
        refine R_ck (fun h22 => ?_)
        refine R_iald C cx21 h22 dX2_climbCascade_57 ?_
        refine S_istore_n C dX2_climbCascade_58 rfl (fun v23 => [(2, .int v23), (0, .ref (G.1 + a0)), (1, .int v15)]) (by decide) (fun _ => rfl) (fun v23 => ?_)
        refine R_aload_n C 1 rfl dX2_climbCascade_59 ?_
        refine R_getr C fl2_9 rfl ha0 rx21 dX2_climbCascade_60 ?_
        refine R_aload_n C 1 rfl dX2_climbCascade_63 ?_
        refine R_geti C fl2_24 rfl ha0 dX2_climbCascade_64 ?_
        refine R_iconst C (1) dX2_climbCascade_67 (by decide) ?_
        refine R_isub C dX2_climbCascade_68 ?_
        refine R_iload_n C 2 rfl dX2_climbCascade_69 ?_
        refine R_isub C dX2_climbCascade_70 ?_
        refine R_aload_n C 1 rfl dX2_climbCascade_71 ?_
        refine R_getr C fl2_9 rfl ha0 rx21 dX2_climbCascade_72 ?_
        refine R_iload_n C 2 rfl dX2_climbCascade_75 ?_
        refine R_ck (fun h24 => ?_)
        refine R_iald C cx21 h24 dX2_climbCascade_76 ?_
        refine R_ck (fun h25 => ?_)
        refine S_iast C cx21 h25 dX2_climbCascade_77 (fun s26 => ?_)
        refine R_aload_n C 1 rfl dX2_climbCascade_78 ?_
        refine R_getr C fl2_9 rfl ha0 rx21 dX2_climbCascade_79 ?_
        refine R_iload_n C 2 rfl dX2_climbCascade_82 ?_
        refine R_iload_n C 0 rfl dX2_climbCascade_83 ?_
        refine R_ck (fun h27 => ?_)
        refine S_iast C cx21 h27 dX2_climbCascade_84 (fun s28 => ?_)
        refine S_iinc (fun v29 => [(1, .int v29), (2, .int v23), (0, .ref (G.1 + a0))]) 2 C dX2_climbCascade_85 rfl (by decide) (by decide) (fun _ => rfl) (fun v29 => ?_)
        refine R_goto C dX2_climbCascade_88 ?_
        refine R_loc (lv2 := [(0, .ref (G.1 + a0)), (1, .int v29)]) [2, 0] rfl ?_
        exact I20 (v29, s28) b18 s19 K17
  · obtain ⟨v1, s2⟩ := a
    show bX2_climbCascade_2 E a0 (fun u0 t => rec (u0, t)) v1 s2 = some (b4, s5) → V κ G (QQ κ G E none σ') E s2 (false, 0, 0) 2 [(0, .ref (G.1 + a0)), (1, .int v1)] []
    unfold bX2_climbCascade_2
    refine R_iload_n C 1 rfl dX2_climbCascade_2 ?_
    refine R_aload_n C 0 rfl dX2_climbCascade_3 ?_
    refine R_geti C fl2_24 rfl ha0 dX2_climbCascade_4 ?_
    refine B_icmp_ge C dX2_climbCascade_7 ?_ ?_
    · refine R_loc (lv2 := [(0, .ref (G.1 + a0))]) [0] rfl ?_
      exact R_end (fun (o : (Int32)) (s : Sg) => V κ G (QQ κ G E none σ') E s (false, 0, 0) 33 [(0, .ref (G.1 + a0))] []) K3
    · refine R_aload_n C 0 rfl dX2_climbCascade_10 ?_
      refine R_dr (fun x7 rx7 cx7 => ?_)
      refine R_getr C fl2_9 rfl ha0 rx7 dX2_climbCascade_11 ?_
      refine R_iload_n C 1 rfl dX2_climbCascade_14 ?_
      refine R_dup2 C dX2_climbCascade_15 rfl rfl ?_
      refine R_ck (fun h8 => ?_)
      refine R_iald C cx7 h8 dX2_climbCascade_16 ?_
      refine R_aload_n C 0 rfl dX2_climbCascade_17 ?_
      refine R_getr C fl2_9 rfl ha0 rx7 dX2_climbCascade_18 ?_
      refine R_iload_n C 1 rfl dX2_climbCascade_21 ?_
      refine R_iconst C (1) dX2_climbCascade_22 (by decide) ?_
      refine R_isub C dX2_climbCascade_23 ?_
      refine R_ck (fun h9 => ?_)
      refine R_iald C cx7 h9 dX2_climbCascade_24 ?_
      refine R_iadd C dX2_climbCascade_25 ?_
      refine R_ck (fun h10 => ?_)
      refine S_iast C cx7 h10 dX2_climbCascade_26 (fun s11 => ?_)
      refine S_iinc (fun v12 => [(1, .int v12), (0, .ref (G.1 + a0))]) 1 C dX2_climbCascade_27 rfl (by decide) (by decide) (fun _ => rfl) (fun v12 => ?_)
      refine R_goto C dX2_climbCascade_30 ?_
      refine R_loc (lv2 := [(0, .ref (G.1 + a0)), (1, .int v12)]) [1, 0] rfl ?_
      exact I6 (v12, s11) b4 s5 K3
theorem dX2_climb_0 : dk cX2_climb 0 1 (.aload_n 0) 1 := by unfold dk; decide +kernel
theorem dX2_climb_1 : dk cX2_climb 1 2 (.dup) 1 := by unfold dk; decide +kernel
theorem dX2_climb_2 : dk cX2_climb 2 5 (.getfield 28) 3 := by unfold dk; decide +kernel
theorem dX2_climb_5 : dk cX2_climb 5 6 (.iconst 1) 1 := by unfold dk; decide +kernel
theorem dX2_climb_6 : dk cX2_climb 6 7 (.iadd) 1 := by unfold dk; decide +kernel
theorem dX2_climb_7 : dk cX2_climb 7 10 (.putfield 28) 3 := by unfold dk; decide +kernel
theorem dX2_climb_10 : dk cX2_climb 10 11 (.iload_n 1) 1 := by unfold dk; decide +kernel
theorem dX2_climb_11 : dk cX2_climb 11 12 (.iconst 2) 1 := by unfold dk; decide +kernel
theorem dX2_climb_20 : dk cX2_climb 20 21 (.aload_n 0) 1 := by unfold dk; decide +kernel
theorem dX2_climb_21 : dk cX2_climb 21 24 (.getfield 9) 3 := by unfold dk; decide +kernel
theorem dX2_climb_24 : dk cX2_climb 24 25 (.iconst 0) 1 := by unfold dk; decide +kernel
theorem dX2_climb_25 : dk cX2_climb 25 26 (.iaload) 1 := by unfold dk; decide +kernel
theorem dX2_climb_26 : dk cX2_climb 26 27 (.istore_n 2) 1 := by unfold dk; decide +kernel
theorem dX2_climb_27 : dk cX2_climb 27 28 (.iconst 0) 1 := by unfold dk; decide +kernel
theorem dX2_climb_28 : dk cX2_climb 28 29 (.istore_n 3) 1 := by unfold dk; decide +kernel
theorem dX2_climb_29 : dk cX2_climb 29 30 (.iload_n 3) 1 := by unfold dk; decide +kernel
theorem dX2_climb_30 : dk cX2_climb 30 31 (.iconst 1) 1 := by unfold dk; decide +kernel
theorem dX2_climb_31 : dk cX2_climb 31 32 (.iadd) 1 := by unfold dk; decide +kernel
theorem dX2_climb_32 : dk cX2_climb 32 33 (.aload_n 0) 1 := by unfold dk; decide +kernel
theorem dX2_climb_33 : dk cX2_climb 33 36 (.getfield 24) 3 := by unfold dk; decide +kernel
theorem dX2_climb_39 : dk cX2_climb 39 40 (.aload_n 0) 1 := by unfold dk; decide +kernel
theorem dX2_climb_40 : dk cX2_climb 40 43 (.getfield 9) 3 := by unfold dk; decide +kernel
theorem dX2_climb_43 : dk cX2_climb 43 44 (.iload_n 3) 1 := by unfold dk; decide +kernel
theorem dX2_climb_44 : dk cX2_climb 44 45 (.iload_n 2) 1 := by unfold dk; decide +kernel
theorem dX2_climb_45 : dk cX2_climb 45 46 (.aload_n 0) 1 := by unfold dk; decide +kernel
theorem dX2_climb_46 : dk cX2_climb 46 49 (.getfield 9) 3 := by unfold dk; decide +kernel
theorem dX2_climb_49 : dk cX2_climb 49 50 (.iload_n 3) 1 := by unfold dk; decide +kernel
theorem dX2_climb_50 : dk cX2_climb 50 51 (.iconst 1) 1 := by unfold dk; decide +kernel
theorem dX2_climb_51 : dk cX2_climb 51 52 (.iadd) 1 := by unfold dk; decide +kernel
theorem dX2_climb_52 : dk cX2_climb 52 53 (.iaload) 1 := by unfold dk; decide +kernel
theorem dX2_climb_53 : dk cX2_climb 53 54 (.iadd) 1 := by unfold dk; decide +kernel
theorem dX2_climb_54 : dk cX2_climb 54 55 (.iastore) 1 := by unfold dk; decide +kernel
theorem dX2_climb_55 : dk cX2_climb 55 58 (.iinc 3 1) 3 := by unfold dk; decide +kernel
theorem dX2_climb_58 : bk cX2_climb 58 61 29 (.goto (-29)) (-29) := by unfold bk; decide +kernel
theorem dX2_climb_36 : bk cX2_climb 36 39 61 (.if_icmp .ge 25) (25) := by unfold bk; decide +kernel
theorem dX2_climb_61 : dk cX2_climb 61 62 (.aload_n 0) 1 := by unfold dk; decide +kernel
theorem dX2_climb_62 : dk cX2_climb 62 65 (.getfield 9) 3 := by unfold dk; decide +kernel
theorem dX2_climb_65 : dk cX2_climb 65 66 (.aload_n 0) 1 := by unfold dk; decide +kernel
theorem dX2_climb_66 : dk cX2_climb 66 69 (.getfield 24) 3 := by unfold dk; decide +kernel
theorem dX2_climb_69 : dk cX2_climb 69 70 (.iconst 1) 1 := by unfold dk; decide +kernel
theorem dX2_climb_70 : dk cX2_climb 70 71 (.isub) 1 := by unfold dk; decide +kernel
theorem dX2_climb_71 : dk cX2_climb 71 72 (.iload_n 2) 1 := by unfold dk; decide +kernel
theorem dX2_climb_72 : dk cX2_climb 72 73 (.iastore) 1 := by unfold dk; decide +kernel
theorem dX2_climb_73 : dk cX2_climb 73 74 (.return_) 1 := by unfold dk; decide +kernel
theorem dX2_climb_15 : dk cX2_climb 15 16 (.aload_n 0) 1 := by unfold dk; decide +kernel
theorem dX2_climb_16 : dk cX2_climb 16 19 (.invokevirtual 31) 3 := by unfold dk; decide +kernel
theorem dX2_climb_19 : dk cX2_climb 19 20 (.return_) 1 := by unfold dk; decide +kernel
theorem dX2_climb_12 : bk cX2_climb 12 15 20 (.if_icmp .ne 8) (8) := by unfold bk; decide +kernel
def bX2_climb_29 (E : En) (a0 : Nat) (x2 : Nat) (v4 : Int32) (rec : Int32 → Sg → Option ((Int32) × Sg)) (v5 : Int32) (s6 : Sg) : Option ((Int32) × Sg) := if (gi s6 a0 1) ≤ (v5 + (1 : Int32)) then (some (v5, s6)) else (ck (v5 + (1 : Int32)) (ln E x2) (ck v5 (ln E x2) (ss (si s6 x2 v5.toNatClampNeg (v4 + (gi s6 x2 (v5 + (1 : Int32)).toNatClampNeg))) (fun s13 => lt (v5 + (1 : Int32)) (fun v14 => rec v14 s13)))))
def fX2_climb (E : En) (a0 : Nat) (a1 : Int32) (σ : Sg) : Option (Sg) := tk (cd E a0) 2 (ss (si σ a0 2 ((gi σ a0 2) + (1 : Int32))) (fun s1 => if ¬ a1 = (2 : Int32) then (dr (rf E a0 0) E 100 (fun x2 => ck (0 : Int32) (ln E x2) (lt (gi s1 x2 (0 : Int32).toNatClampNeg) (fun v4 => bd (fx (fun rec a => bX2_climb_29 E a0 x2 v4 (fun u0 t => rec (u0, t)) a.1 a.2) FU ((0 : Int32), s1)) (fun o15 s16 => ck ((gi s16 a0 1) - (1 : Int32)) (ln E x2) (ss (si s16 x2 ((gi s16 a0 1) - (1 : Int32)).toNatClampNeg v4) (fun s18 => some s18))))))) else (bv (fX2_climbCascade E a0 s1) (fun s19 => some s19))))
set_option maxHeartbeats 4000000 in
set_option maxRecDepth 100000 in
theorem kX2_climb {l : Launch} {G : Gl} {E : En} {a0 : Nat} {a1 : Int32} {σ σ' : Sg} : fX2_climb E a0 a1 σ = some σ' → CT l yX2_climb cX2_climb 4 none ({ frames := 1, cells := 0, slots := 0, locals := 22 } : Room) [.ref (G.1 + a0), .int a1] G E σ none σ' := by
  intro h
  refine CT_of (lv0 := [(0, .ref (G.1 + a0)), (1, .int a1)]) (by decide) (Nat.le_of_ble_eq_true rfl) rfl (fun κ hl hR hr C => ?_)
  have C : Cx κ G cX2_climb RX2 4 := C
  revert h
  unfold fX2_climb
  refine R_tk (fun ha0 => ?_)
  refine R_aload_n C 0 rfl dX2_climb_0 ?_
  refine R_dup C dX2_climb_1 rfl ?_
  refine R_geti C fl2_28 rfl ha0 dX2_climb_2 ?_
  refine R_iconst C (1) dX2_climb_5 (by decide) ?_
  refine R_iadd C dX2_climb_6 ?_
  refine S_puti C fl2_28 rfl ha0 rfl rfl dX2_climb_7 (fun s1 => ?_)
  refine R_iload_n C 1 rfl dX2_climb_10 ?_
  refine R_iconst C (2) dX2_climb_11 (by decide) ?_
  refine B_icmp_ne C dX2_climb_12 ?_ ?_
  · refine R_aload_n C 0 rfl dX2_climb_20 ?_
    refine R_dr (fun x2 rx2 cx2 => ?_)
    refine R_getr C fl2_9 rfl ha0 rx2 dX2_climb_21 ?_
    refine R_iconst C (0) dX2_climb_24 (by decide) ?_
    refine R_ck (fun h3 => ?_)
    refine R_iald C cx2 h3 dX2_climb_25 ?_
    refine S_istore_n C dX2_climb_26 rfl (fun v4 => [(2, .int v4), (0, .ref (G.1 + a0)), (1, .int a1)]) (by decide) (fun _ => rfl) (fun v4 => ?_)
    refine R_iconst C (0) dX2_climb_27 (by decide) ?_
    refine R_istore_n (lv2 := [(3, .int (0 : Int32)), (2, .int v4), (0, .ref (G.1 + a0)), (1, .int a1)]) C dX2_climb_28 rfl (by decide) rfl ?_
    refine R_loc (lv2 := [(2, .int v4), (0, .ref (G.1 + a0)), (3, .int (0 : Int32))]) [1, 2, 0] rfl ?_
    refine R_loop (fun (a : (Int32) × Sg) => V κ G (QQ κ G E none σ') E a.2 (false, 0, 0) 29 [(2, .int v4), (0, .ref (G.1 + a0)), (3, .int a.1)] []) (fun (o : (Int32)) (s : Sg) => V κ G (QQ κ G E none σ') E s (false, 0, 0) 61 [(2, .int v4), (0, .ref (G.1 + a0))] []) ((0 : Int32), s1) (fun o15 s16 => ?_) (fun rec I10 a b8 s9 K7 => ?_)
    · refine R_aload_n C 1 rfl dX2_climb_61 ?_
      refine R_getr C fl2_9 rfl ha0 rx2 dX2_climb_62 ?_
      refine R_aload_n C 1 rfl dX2_climb_65 ?_
      refine R_geti C fl2_24 rfl ha0 dX2_climb_66 ?_
      refine R_iconst C (1) dX2_climb_69 (by decide) ?_
      refine R_isub C dX2_climb_70 ?_
      refine R_iload_n C 0 rfl dX2_climb_71 ?_
      refine R_ck (fun h17 => ?_)
      refine S_iast C cx2 h17 dX2_climb_72 (fun s18 => ?_)
      exact R_vret C hr dX2_climb_73
    · obtain ⟨v5, s6⟩ := a
      show bX2_climb_29 E a0 x2 v4 (fun u0 t => rec (u0, t)) v5 s6 = some (b8, s9) → V κ G (QQ κ G E none σ') E s6 (false, 0, 0) 29 [(2, .int v4), (0, .ref (G.1 + a0)), (3, .int v5)] []
      unfold bX2_climb_29
      refine R_iload_n C 2 rfl dX2_climb_29 ?_
      refine R_iconst C (1) dX2_climb_30 (by decide) ?_
      refine R_iadd C dX2_climb_31 ?_
      refine R_aload_n C 1 rfl dX2_climb_32 ?_
      refine R_geti C fl2_24 rfl ha0 dX2_climb_33 ?_
      refine B_icmp_ge C dX2_climb_36 ?_ ?_
      · refine R_loc (lv2 := [(2, .int v4), (0, .ref (G.1 + a0))]) [0, 1] rfl ?_
        exact R_end (fun (o : (Int32)) (s : Sg) => V κ G (QQ κ G E none σ') E s (false, 0, 0) 61 [(2, .int v4), (0, .ref (G.1 + a0))] []) K7
      · refine R_aload_n C 1 rfl dX2_climb_39 ?_
        refine R_getr C fl2_9 rfl ha0 rx2 dX2_climb_40 ?_
        refine R_iload_n C 2 rfl dX2_climb_43 ?_
        refine R_iload_n C 0 rfl dX2_climb_44 ?_
        refine R_aload_n C 1 rfl dX2_climb_45 ?_
        refine R_getr C fl2_9 rfl ha0 rx2 dX2_climb_46 ?_
        refine R_iload_n C 2 rfl dX2_climb_49 ?_
        refine R_iconst C (1) dX2_climb_50 (by decide) ?_
        refine R_iadd C dX2_climb_51 ?_
        refine R_ck (fun h11 => ?_)
        refine R_iald C cx2 h11 dX2_climb_52 ?_
        refine R_iadd C dX2_climb_53 ?_
        refine R_ck (fun h12 => ?_)
        refine S_iast C cx2 h12 dX2_climb_54 (fun s13 => ?_)
        refine S_iinc (fun v14 => [(3, .int v14), (2, .int v4), (0, .ref (G.1 + a0))]) 2 C dX2_climb_55 rfl (by decide) (by decide) (fun _ => rfl) (fun v14 => ?_)
        refine R_goto C dX2_climb_58 ?_
        refine R_loc (lv2 := [(2, .int v4), (0, .ref (G.1 + a0)), (3, .int v14)]) [1, 2, 0] rfl ?_
        exact I10 (v14, s13) b8 s9 K7
  · refine R_aload_n C 0 rfl dX2_climb_15 ?_
    refine R_bv (fun s19 q20 => ?_)
    refine R_callVv [] [] C ml2_31 (kX2_climbCascade q20) (by rw [hR]; exact ⟨rfl, rfl, Nat.le_of_ble_eq_true rfl, Nat.le_of_ble_eq_true rfl, Nat.zero_le _, Nat.zero_le _⟩) ha0 rfl rfl (Nat.le_of_ble_eq_true rfl) dX2_climb_16 ?_
    exact R_vret C hr dX2_climb_19
theorem dX2_climbTo_0 : dk cX2_climbTo 0 1 (.aload_n 0) 1 := by unfold dk; decide +kernel
theorem dX2_climbTo_1 : dk cX2_climbTo 1 2 (.iload_n 3) 1 := by unfold dk; decide +kernel
theorem dX2_climbTo_2 : dk cX2_climbTo 2 5 (.invokevirtual 34) 3 := by unfold dk; decide +kernel
theorem dX2_climbTo_5 : dk cX2_climbTo 5 6 (.iconst 0) 1 := by unfold dk; decide +kernel
theorem dX2_climbTo_6 : dk cX2_climbTo 6 8 (.istore 4) 2 := by unfold dk; decide +kernel
theorem dX2_climbTo_8 : dk cX2_climbTo 8 10 (.iload 4) 2 := by unfold dk; decide +kernel
theorem dX2_climbTo_10 : dk cX2_climbTo 10 11 (.iload_n 1) 1 := by unfold dk; decide +kernel
theorem dX2_climbTo_14 : dk cX2_climbTo 14 15 (.aload_n 0) 1 := by unfold dk; decide +kernel
theorem dX2_climbTo_15 : dk cX2_climbTo 15 16 (.iload_n 2) 1 := by unfold dk; decide +kernel
theorem dX2_climbTo_16 : dk cX2_climbTo 16 19 (.invokevirtual 38) 3 := by unfold dk; decide +kernel
theorem dX2_climbTo_19 : dk cX2_climbTo 19 22 (.iinc 4 1) 3 := by unfold dk; decide +kernel
theorem dX2_climbTo_22 : bk cX2_climbTo 22 25 8 (.goto (-14)) (-14) := by unfold bk; decide +kernel
theorem dX2_climbTo_11 : bk cX2_climbTo 11 14 25 (.if_icmp .ge 14) (14) := by unfold bk; decide +kernel
theorem dX2_climbTo_25 : dk cX2_climbTo 25 26 (.return_) 1 := by unfold dk; decide +kernel
def bX2_climbTo_8 (E : En) (a1 : Int32) (a0 : Nat) (a2 : Int32) (rec : Int32 → Sg → Option ((Int32) × Sg)) (v3 : Int32) (s4 : Sg) : Option ((Int32) × Sg) := if a1 ≤ v3 then (some (v3, s4)) else (bv (fX2_climb E a0 a2 s4) (fun s9 => lt (v3 + (1 : Int32)) (fun v11 => rec v11 s9)))
def fX2_climbTo (E : En) (a0 : Nat) (a1 : Int32) (a2 : Int32) (a3 : Int32) (σ : Sg) : Option (Sg) := tk (cd E a0) 2 (bv (fX2_ground E a0 a3 σ) (fun s1 => bd (fx (fun rec a => bX2_climbTo_8 E a1 a0 a2 (fun u0 t => rec (u0, t)) a.1 a.2) FU ((0 : Int32), s1)) (fun o12 s13 => some s13)))
set_option maxHeartbeats 4000000 in
set_option maxRecDepth 100000 in
theorem kX2_climbTo {l : Launch} {G : Gl} {E : En} {a0 : Nat} {a1 : Int32} {a2 : Int32} {a3 : Int32} {σ σ' : Sg} : fX2_climbTo E a0 a1 a2 a3 σ = some σ' → CT l yX2_climbTo cX2_climbTo 5 none ({ frames := 2, cells := 0, slots := 0, locals := 45 } : Room) [.ref (G.1 + a0), .int a1, .int a2, .int a3] G E σ none σ' := by
  intro h
  refine CT_of (lv0 := [(0, .ref (G.1 + a0)), (1, .int a1), (2, .int a2), (3, .int a3)]) (by decide) (Nat.le_of_ble_eq_true rfl) rfl (fun κ hl hR hr C => ?_)
  have C : Cx κ G cX2_climbTo RX2 5 := C
  revert h
  unfold fX2_climbTo
  refine R_tk (fun ha0 => ?_)
  refine R_aload_n C 0 rfl dX2_climbTo_0 ?_
  refine R_iload_n C 3 rfl dX2_climbTo_1 ?_
  refine R_bv (fun s1 q2 => ?_)
  refine R_callVv [.int a3] [] C ml2_34 (kX2_ground q2) (by rw [hR]; exact ⟨rfl, rfl, Nat.le_of_ble_eq_true rfl, Nat.le_of_ble_eq_true rfl, Nat.zero_le _, Nat.zero_le _⟩) ha0 rfl rfl (Nat.le_of_ble_eq_true rfl) dX2_climbTo_2 ?_
  refine R_iconst C (0) dX2_climbTo_5 (by decide) ?_
  refine R_istore (lv2 := [(4, .int (0 : Int32)), (0, .ref (G.1 + a0)), (1, .int a1), (2, .int a2), (3, .int a3)]) C dX2_climbTo_6 (by decide) rfl ?_
  refine R_loc (lv2 := [(0, .ref (G.1 + a0)), (1, .int a1), (2, .int a2), (4, .int (0 : Int32))]) [1, 2, 3, 0] rfl ?_
  refine R_loop (fun (a : (Int32) × Sg) => V κ G (QQ κ G E none σ') E a.2 (false, 0, 0) 8 [(0, .ref (G.1 + a0)), (1, .int a1), (2, .int a2), (4, .int a.1)] []) (fun (o : (Int32)) (s : Sg) => V κ G (QQ κ G E none σ') E s (false, 0, 0) 25 [] []) ((0 : Int32), s1) (fun o12 s13 => ?_) (fun rec I8 a b6 s7 K5 => ?_)
  · exact R_vret C hr dX2_climbTo_25
  · obtain ⟨v3, s4⟩ := a
    show bX2_climbTo_8 E a1 a0 a2 (fun u0 t => rec (u0, t)) v3 s4 = some (b6, s7) → V κ G (QQ κ G E none σ') E s4 (false, 0, 0) 8 [(0, .ref (G.1 + a0)), (1, .int a1), (2, .int a2), (4, .int v3)] []
    unfold bX2_climbTo_8
    refine R_iload C 3 rfl dX2_climbTo_8 ?_
    refine R_iload_n C 1 rfl dX2_climbTo_10 ?_
    refine B_icmp_ge C dX2_climbTo_11 ?_ ?_
    · refine R_loc (lv2 := []) [] rfl ?_
      exact R_end (fun (o : (Int32)) (s : Sg) => V κ G (QQ κ G E none σ') E s (false, 0, 0) 25 [] []) K5
    · refine R_aload_n C 0 rfl dX2_climbTo_14 ?_
      refine R_iload_n C 2 rfl dX2_climbTo_15 ?_
      refine R_bv (fun s9 q10 => ?_)
      refine R_callVv [.int a2] [] C ml2_38 (kX2_climb q10) (by rw [hR]; exact ⟨rfl, rfl, Nat.le_of_ble_eq_true rfl, Nat.le_of_ble_eq_true rfl, Nat.zero_le _, Nat.zero_le _⟩) ha0 rfl rfl (Nat.le_of_ble_eq_true rfl) dX2_climbTo_16 ?_
      refine S_iinc (fun v11 => [(4, .int v11), (0, .ref (G.1 + a0)), (1, .int a1), (2, .int a2)]) 3 C dX2_climbTo_19 rfl (by decide) (by decide) (fun _ => rfl) (fun v11 => ?_)
      refine R_goto C dX2_climbTo_22 ?_
      refine R_loc (lv2 := [(0, .ref (G.1 + a0)), (1, .int a1), (2, .int a2), (4, .int v11)]) [1, 2, 3, 0] rfl ?_
      exact I8 (v11, s9) b6 s7 K5
theorem dX2_together_0 : dk cX2_together 0 1 (.iconst 0) 1 := by unfold dk; decide +kernel
theorem dX2_together_1 : dk cX2_together 1 2 (.istore_n 1) 1 := by unfold dk; decide +kernel
theorem dX2_together_2 : dk cX2_together 2 3 (.iconst 0) 1 := by unfold dk; decide +kernel
theorem dX2_together_3 : dk cX2_together 3 4 (.istore_n 2) 1 := by unfold dk; decide +kernel
theorem dX2_together_4 : dk cX2_together 4 5 (.iload_n 2) 1 := by unfold dk; decide +kernel
theorem dX2_together_5 : dk cX2_together 5 6 (.aload_n 0) 1 := by unfold dk; decide +kernel
theorem dX2_together_6 : dk cX2_together 6 9 (.getfield 24) 3 := by unfold dk; decide +kernel
theorem dX2_together_12 : dk cX2_together 12 13 (.iload_n 1) 1 := by unfold dk; decide +kernel
theorem dX2_together_13 : dk cX2_together 13 14 (.aload_n 0) 1 := by unfold dk; decide +kernel
theorem dX2_together_14 : dk cX2_together 14 17 (.getfield 9) 3 := by unfold dk; decide +kernel
theorem dX2_together_17 : dk cX2_together 17 18 (.iload_n 2) 1 := by unfold dk; decide +kernel
theorem dX2_together_18 : dk cX2_together 18 19 (.iaload) 1 := by unfold dk; decide +kernel
theorem dX2_together_19 : dk cX2_together 19 20 (.iadd) 1 := by unfold dk; decide +kernel
theorem dX2_together_20 : dk cX2_together 20 21 (.istore_n 1) 1 := by unfold dk; decide +kernel
theorem dX2_together_21 : dk cX2_together 21 24 (.iinc 2 1) 3 := by unfold dk; decide +kernel
theorem dX2_together_24 : bk cX2_together 24 27 4 (.goto (-20)) (-20) := by unfold bk; decide +kernel
theorem dX2_together_9 : bk cX2_together 9 12 27 (.if_icmp .ge 18) (18) := by unfold bk; decide +kernel
theorem dX2_together_27 : dk cX2_together 27 28 (.iload_n 1) 1 := by unfold dk; decide +kernel
theorem dX2_together_28 : dk cX2_together 28 29 (.ireturn) 1 := by unfold dk; decide +kernel
def bX2_together_4 (E : En) (a0 : Nat) (rec : Int32 → Int32 → Sg → Option ((Int32 × Int32) × Sg)) (v1 : Int32) (v2 : Int32) (s3 : Sg) : Option ((Int32 × Int32) × Sg) := if (gi s3 a0 1) ≤ v2 then (some ((v1, v2), s3)) else (dr (rf E a0 0) E 100 (fun x8 => ck v2 (ln E x8) (lt (v1 + (gi s3 x8 v2.toNatClampNeg)) (fun v10 => lt (v2 + (1 : Int32)) (fun v11 => rec v10 v11 s3)))))
def fX2_together (E : En) (a0 : Nat) (σ : Sg) : Option (Int32 × Sg) := tk (cd E a0) 2 (bd (fx (fun rec a => bX2_together_4 E a0 (fun u0 u1 t => rec ((u0, u1), t)) a.1.1 a.1.2 a.2) FU (((0 : Int32), (0 : Int32)), σ)) (fun o12 s13 => some (o12.1, s13)))
set_option maxHeartbeats 4000000 in
set_option maxRecDepth 100000 in
theorem kX2_together {l : Launch} {G : Gl} {E : En} {a0 : Nat} {σ σ' : Sg} {r : Int32} : fX2_together E a0 σ = some (r, σ') → CT l yX2_together cX2_together 3 (some .int) ({ frames := 0, cells := 0, slots := 0, locals := 0 } : Room) [.ref (G.1 + a0)] G E σ (some (.int r)) σ' := by
  intro h
  refine CT_of (lv0 := [(0, .ref (G.1 + a0))]) (by decide) (Nat.le_of_ble_eq_true rfl) rfl (fun κ hl hR hr C => ?_)
  have C : Cx κ G cX2_together RX2 3 := C
  revert h
  unfold fX2_together
  refine R_tk (fun ha0 => ?_)
  refine R_iconst C (0) dX2_together_0 (by decide) ?_
  refine R_istore_n (lv2 := [(1, .int (0 : Int32)), (0, .ref (G.1 + a0))]) C dX2_together_1 rfl (by decide) rfl ?_
  refine R_iconst C (0) dX2_together_2 (by decide) ?_
  refine R_istore_n (lv2 := [(2, .int (0 : Int32)), (1, .int (0 : Int32)), (0, .ref (G.1 + a0))]) C dX2_together_3 rfl (by decide) rfl ?_
  refine R_loc (lv2 := [(0, .ref (G.1 + a0)), (1, .int (0 : Int32)), (2, .int (0 : Int32))]) [2, 1, 0] rfl ?_
  refine R_loop (fun (a : (Int32 × Int32) × Sg) => V κ G (QQ κ G E (some (.int r)) σ') E a.2 (false, 0, 0) 4 [(0, .ref (G.1 + a0)), (1, .int a.1.1), (2, .int a.1.2)] []) (fun (o : (Int32 × Int32)) (s : Sg) => V κ G (QQ κ G E (some (.int r)) σ') E s (false, 0, 0) 27 [(1, .int o.1)] []) (((0 : Int32), (0 : Int32)), σ) (fun o12 s13 => ?_) (fun rec I7 a b5 s6 K4 => ?_)
  · refine R_iload_n C 0 rfl dX2_together_27 ?_
    exact R_iret C hr dX2_together_28
  · obtain ⟨⟨v1, v2⟩, s3⟩ := a
    show bX2_together_4 E a0 (fun u0 u1 t => rec ((u0, u1), t)) v1 v2 s3 = some (b5, s6) → V κ G (QQ κ G E (some (.int r)) σ') E s3 (false, 0, 0) 4 [(0, .ref (G.1 + a0)), (1, .int v1), (2, .int v2)] []
    unfold bX2_together_4
    refine R_iload_n C 2 rfl dX2_together_4 ?_
    refine R_aload_n C 0 rfl dX2_together_5 ?_
    refine R_geti C fl2_24 rfl ha0 dX2_together_6 ?_
    refine B_icmp_ge C dX2_together_9 ?_ ?_
    · refine R_loc (lv2 := [(1, .int v1)]) [1] rfl ?_
      exact R_end (fun (o : (Int32 × Int32)) (s : Sg) => V κ G (QQ κ G E (some (.int r)) σ') E s (false, 0, 0) 27 [(1, .int o.1)] []) K4
    · refine R_iload_n C 1 rfl dX2_together_12 ?_
      refine R_aload_n C 0 rfl dX2_together_13 ?_
      refine R_dr (fun x8 rx8 cx8 => ?_)
      refine R_getr C fl2_9 rfl ha0 rx8 dX2_together_14 ?_
      refine R_iload_n C 2 rfl dX2_together_17 ?_
      refine R_ck (fun h9 => ?_)
      refine R_iald C cx8 h9 dX2_together_18 ?_
      refine R_iadd C dX2_together_19 ?_
      refine S_istore_n C dX2_together_20 rfl (fun v10 => [(1, .int v10), (0, .ref (G.1 + a0)), (2, .int v2)]) (by decide) (fun _ => rfl) (fun v10 => ?_)
      refine S_iinc (fun v11 => [(2, .int v11), (1, .int v10), (0, .ref (G.1 + a0))]) 2 C dX2_together_21 rfl (by decide) (by decide) (fun _ => rfl) (fun v11 => ?_)
      refine R_goto C dX2_together_24 ?_
      refine R_loc (lv2 := [(0, .ref (G.1 + a0)), (1, .int v10), (2, .int v11)]) [2, 1, 0] rfl ?_
      exact I7 ((v10, v11), s3) b5 s6 K4
theorem dX2_climbFor_0 : dk cX2_climbFor 0 1 (.aload_n 0) 1 := by unfold dk; decide +kernel
theorem dX2_climbFor_1 : dk cX2_climbFor 1 2 (.iload_n 3) 1 := by unfold dk; decide +kernel
theorem dX2_climbFor_2 : dk cX2_climbFor 2 5 (.invokevirtual 34) 3 := by unfold dk; decide +kernel
theorem dX2_climbFor_5 : dk cX2_climbFor 5 6 (.iconst 0) 1 := by unfold dk; decide +kernel
theorem dX2_climbFor_6 : dk cX2_climbFor 6 8 (.istore 4) 2 := by unfold dk; decide +kernel
theorem dX2_climbFor_8 : dk cX2_climbFor 8 10 (.iload 4) 2 := by unfold dk; decide +kernel
theorem dX2_climbFor_10 : dk cX2_climbFor 10 13 (.sipush 700) 3 := by unfold dk; decide +kernel
theorem dX2_climbFor_16 : dk cX2_climbFor 16 17 (.aload_n 0) 1 := by unfold dk; decide +kernel
theorem dX2_climbFor_17 : dk cX2_climbFor 17 20 (.invokevirtual 41) 3 := by unfold dk; decide +kernel
theorem dX2_climbFor_20 : dk cX2_climbFor 20 21 (.iload_n 1) 1 := by unfold dk; decide +kernel
theorem dX2_climbFor_24 : dk cX2_climbFor 24 25 (.aload_n 0) 1 := by unfold dk; decide +kernel
theorem dX2_climbFor_25 : dk cX2_climbFor 25 26 (.iload_n 2) 1 := by unfold dk; decide +kernel
theorem dX2_climbFor_26 : dk cX2_climbFor 26 29 (.invokevirtual 38) 3 := by unfold dk; decide +kernel
theorem dX2_climbFor_29 : dk cX2_climbFor 29 32 (.iinc 4 1) 3 := by unfold dk; decide +kernel
theorem dX2_climbFor_32 : bk cX2_climbFor 32 35 8 (.goto (-24)) (-24) := by unfold bk; decide +kernel
theorem dX2_climbFor_21 : bk cX2_climbFor 21 24 35 (.if_icmp .ge 14) (14) := by unfold bk; decide +kernel
theorem dX2_climbFor_13 : bk cX2_climbFor 13 16 35 (.if_icmp .ge 22) (22) := by unfold bk; decide +kernel
theorem dX2_climbFor_35 : dk cX2_climbFor 35 36 (.return_) 1 := by unfold dk; decide +kernel
def bX2_climbFor_8 (E : En) (a0 : Nat) (a1 : Int32) (a2 : Int32) (rec : Int32 → Sg → Option ((Int32) × Sg)) (v3 : Int32) (s4 : Sg) : Option ((Int32) × Sg) := if (700 : Int32) ≤ v3 then (some (v3, s4)) else (bd (fX2_together E a0 s4) (fun r11 s9 => if a1 ≤ r11 then (some (v3, s9)) else (bv (fX2_climb E a0 a2 s9) (fun s12 => lt (v3 + (1 : Int32)) (fun v14 => rec v14 s12)))))
def fX2_climbFor (E : En) (a0 : Nat) (a1 : Int32) (a2 : Int32) (a3 : Int32) (σ : Sg) : Option (Sg) := tk (cd E a0) 2 (bv (fX2_ground E a0 a3 σ) (fun s1 => bd (fx (fun rec a => bX2_climbFor_8 E a0 a1 a2 (fun u0 t => rec (u0, t)) a.1 a.2) FU ((0 : Int32), s1)) (fun o15 s16 => some s16)))
set_option maxHeartbeats 4000000 in
set_option maxRecDepth 100000 in
theorem kX2_climbFor {l : Launch} {G : Gl} {E : En} {a0 : Nat} {a1 : Int32} {a2 : Int32} {a3 : Int32} {σ σ' : Sg} : fX2_climbFor E a0 a1 a2 a3 σ = some σ' → CT l yX2_climbFor cX2_climbFor 5 none ({ frames := 2, cells := 0, slots := 0, locals := 45 } : Room) [.ref (G.1 + a0), .int a1, .int a2, .int a3] G E σ none σ' := by
  intro h
  refine CT_of (lv0 := [(0, .ref (G.1 + a0)), (1, .int a1), (2, .int a2), (3, .int a3)]) (by decide) (Nat.le_of_ble_eq_true rfl) rfl (fun κ hl hR hr C => ?_)
  have C : Cx κ G cX2_climbFor RX2 5 := C
  revert h
  unfold fX2_climbFor
  refine R_tk (fun ha0 => ?_)
  refine R_aload_n C 0 rfl dX2_climbFor_0 ?_
  refine R_iload_n C 3 rfl dX2_climbFor_1 ?_
  refine R_bv (fun s1 q2 => ?_)
  refine R_callVv [.int a3] [] C ml2_34 (kX2_ground q2) (by rw [hR]; exact ⟨rfl, rfl, Nat.le_of_ble_eq_true rfl, Nat.le_of_ble_eq_true rfl, Nat.zero_le _, Nat.zero_le _⟩) ha0 rfl rfl (Nat.le_of_ble_eq_true rfl) dX2_climbFor_2 ?_
  refine R_iconst C (0) dX2_climbFor_5 (by decide) ?_
  refine R_istore (lv2 := [(4, .int (0 : Int32)), (0, .ref (G.1 + a0)), (1, .int a1), (2, .int a2), (3, .int a3)]) C dX2_climbFor_6 (by decide) rfl ?_
  refine R_loc (lv2 := [(0, .ref (G.1 + a0)), (1, .int a1), (2, .int a2), (4, .int (0 : Int32))]) [1, 2, 3, 0] rfl ?_
  refine R_loop (fun (a : (Int32) × Sg) => V κ G (QQ κ G E none σ') E a.2 (false, 0, 0) 8 [(0, .ref (G.1 + a0)), (1, .int a1), (2, .int a2), (4, .int a.1)] []) (fun (o : (Int32)) (s : Sg) => V κ G (QQ κ G E none σ') E s (false, 0, 0) 35 [] []) ((0 : Int32), s1) (fun o15 s16 => ?_) (fun rec I8 a b6 s7 K5 => ?_)
  · exact R_vret C hr dX2_climbFor_35
  · obtain ⟨v3, s4⟩ := a
    show bX2_climbFor_8 E a0 a1 a2 (fun u0 t => rec (u0, t)) v3 s4 = some (b6, s7) → V κ G (QQ κ G E none σ') E s4 (false, 0, 0) 8 [(0, .ref (G.1 + a0)), (1, .int a1), (2, .int a2), (4, .int v3)] []
    unfold bX2_climbFor_8
    refine R_iload C 3 rfl dX2_climbFor_8 ?_
    refine R_sipush C (700) dX2_climbFor_10 (by decide) ?_
    refine B_icmp_ge C dX2_climbFor_13 ?_ ?_
    · refine R_loc (lv2 := []) [] rfl ?_
      exact R_end (fun (o : (Int32)) (s : Sg) => V κ G (QQ κ G E none σ') E s (false, 0, 0) 35 [] []) K5
    · refine R_aload_n C 0 rfl dX2_climbFor_16 ?_
      refine R_bd (fun r11 s9 q10 => ?_)
      refine R_callVi [] [] C ml2_41 (kX2_together q10) (by rw [hR]; exact ⟨rfl, rfl, Nat.le_of_ble_eq_true rfl, Nat.le_of_ble_eq_true rfl, Nat.zero_le _, Nat.zero_le _⟩) ha0 rfl rfl (Nat.le_of_ble_eq_true rfl) dX2_climbFor_17 ?_
      refine R_iload_n C 1 rfl dX2_climbFor_20 ?_
      refine B_icmp_ge C dX2_climbFor_21 ?_ ?_
      · refine R_loc (lv2 := []) [] rfl ?_
        exact R_end (fun (o : (Int32)) (s : Sg) => V κ G (QQ κ G E none σ') E s (false, 0, 0) 35 [] []) K5
      · refine R_aload_n C 0 rfl dX2_climbFor_24 ?_
        refine R_iload_n C 2 rfl dX2_climbFor_25 ?_
        refine R_bv (fun s12 q13 => ?_)
        refine R_callVv [.int a2] [] C ml2_38 (kX2_climb q13) (by rw [hR]; exact ⟨rfl, rfl, Nat.le_of_ble_eq_true rfl, Nat.le_of_ble_eq_true rfl, Nat.zero_le _, Nat.zero_le _⟩) ha0 rfl rfl (Nat.le_of_ble_eq_true rfl) dX2_climbFor_26 ?_
        refine S_iinc (fun v14 => [(4, .int v14), (0, .ref (G.1 + a0)), (1, .int a1), (2, .int a2)]) 3 C dX2_climbFor_29 rfl (by decide) (by decide) (fun _ => rfl) (fun v14 => ?_)
        refine R_goto C dX2_climbFor_32 ?_
        refine R_loc (lv2 := [(0, .ref (G.1 + a0)), (1, .int a1), (2, .int a2), (4, .int v14)]) [1, 2, 3, 0] rfl ?_
        exact I8 (v14, s12) b6 s7 K5
end
section
theorem dX3_copyFrom_0 : dk cX3_copyFrom 0 1 (.aload_n 0) 1 := by unfold dk; decide +kernel
theorem dX3_copyFrom_1 : dk cX3_copyFrom 1 2 (.aload_n 1) 1 := by unfold dk; decide +kernel
theorem dX3_copyFrom_2 : dk cX3_copyFrom 2 5 (.getfield 18) 3 := by unfold dk; decide +kernel
theorem dX3_copyFrom_5 : dk cX3_copyFrom 5 8 (.putfield 18) 3 := by unfold dk; decide +kernel
theorem dX3_copyFrom_8 : dk cX3_copyFrom 8 9 (.aload_n 0) 1 := by unfold dk; decide +kernel
theorem dX3_copyFrom_9 : dk cX3_copyFrom 9 10 (.aload_n 1) 1 := by unfold dk; decide +kernel
theorem dX3_copyFrom_10 : dk cX3_copyFrom 10 13 (.getfield 22) 3 := by unfold dk; decide +kernel
theorem dX3_copyFrom_13 : dk cX3_copyFrom 13 16 (.putfield 22) 3 := by unfold dk; decide +kernel
theorem dX3_copyFrom_16 : dk cX3_copyFrom 16 17 (.aload_n 1) 1 := by unfold dk; decide +kernel
theorem dX3_copyFrom_17 : dk cX3_copyFrom 17 20 (.getfield 9) 3 := by unfold dk; decide +kernel
theorem dX3_copyFrom_20 : dk cX3_copyFrom 20 21 (.iconst 0) 1 := by unfold dk; decide +kernel
theorem dX3_copyFrom_21 : dk cX3_copyFrom 21 22 (.aload_n 0) 1 := by unfold dk; decide +kernel
theorem dX3_copyFrom_22 : dk cX3_copyFrom 22 25 (.getfield 9) 3 := by unfold dk; decide +kernel
theorem dX3_copyFrom_25 : dk cX3_copyFrom 25 26 (.iconst 0) 1 := by unfold dk; decide +kernel
theorem dX3_copyFrom_26 : dk cX3_copyFrom 26 27 (.aload_n 0) 1 := by unfold dk; decide +kernel
theorem dX3_copyFrom_27 : dk cX3_copyFrom 27 30 (.getfield 18) 3 := by unfold dk; decide +kernel
theorem dX3_copyFrom_30 : dk cX3_copyFrom 30 33 (.invokestatic 25) 3 := by unfold dk; decide +kernel
theorem dX3_copyFrom_33 : dk cX3_copyFrom 33 34 (.aload_n 1) 1 := by unfold dk; decide +kernel
theorem dX3_copyFrom_34 : dk cX3_copyFrom 34 37 (.getfield 15) 3 := by unfold dk; decide +kernel
theorem dX3_copyFrom_37 : dk cX3_copyFrom 37 38 (.iconst 0) 1 := by unfold dk; decide +kernel
theorem dX3_copyFrom_38 : dk cX3_copyFrom 38 39 (.aload_n 0) 1 := by unfold dk; decide +kernel
theorem dX3_copyFrom_39 : dk cX3_copyFrom 39 42 (.getfield 15) 3 := by unfold dk; decide +kernel
theorem dX3_copyFrom_42 : dk cX3_copyFrom 42 43 (.iconst 0) 1 := by unfold dk; decide +kernel
theorem dX3_copyFrom_43 : dk cX3_copyFrom 43 44 (.aload_n 0) 1 := by unfold dk; decide +kernel
theorem dX3_copyFrom_44 : dk cX3_copyFrom 44 47 (.getfield 18) 3 := by unfold dk; decide +kernel
theorem dX3_copyFrom_47 : dk cX3_copyFrom 47 50 (.invokestatic 25) 3 := by unfold dk; decide +kernel
theorem dX3_copyFrom_50 : dk cX3_copyFrom 50 51 (.return_) 1 := by unfold dk; decide +kernel
def fX3_copyFrom (E : En) (a0 : Nat) (a1 : Nat) (σ : Sg) : Option (Sg) := tk (cd E a0) 3 (tk (cd E a1) 3 (ss (si σ a0 2 (gi σ a1 2)) (fun s1 => ss (si s1 a0 3 (gi s1 a1 3)) (fun s2 => dr (rf E a1 0) E 100 (fun x3 => dr (rf E a0 0) E 100 (fun x4 => acp E s2 x3 (0 : Int32) x4 (0 : Int32) (gi s2 a0 2) (fun s5 => dr (rf E a1 1) E 100 (fun x6 => dr (rf E a0 1) E 100 (fun x7 => acp E s5 x6 (0 : Int32) x7 (0 : Int32) (gi s5 a0 2) (fun s8 => some s8))))))))))
set_option maxHeartbeats 4000000 in
set_option maxRecDepth 100000 in
theorem kX3_copyFrom {l : Launch} {G : Gl} {E : En} {a0 : Nat} {a1 : Nat} {σ σ' : Sg} : fX3_copyFrom E a0 a1 σ = some σ' → CT l yX3_copyFrom cX3_copyFrom 2 none ({ frames := 1, cells := 0, slots := 0, locals := 60 } : Room) [.ref (G.1 + a0), .ref (G.1 + a1)] G E σ none σ' := by
  intro h
  refine CT_of (lv0 := [(0, .ref (G.1 + a0)), (1, .ref (G.1 + a1))]) (by decide) (Nat.le_of_ble_eq_true rfl) rfl (fun κ hl hR hr C => ?_)
  have C : Cx κ G cX3_copyFrom RX3 2 := C
  revert h
  unfold fX3_copyFrom
  refine R_tk (fun ha0 => ?_)
  refine R_tk (fun ha1 => ?_)
  refine R_aload_n C 0 rfl dX3_copyFrom_0 ?_
  refine R_aload_n C 1 rfl dX3_copyFrom_1 ?_
  refine R_geti C fl3_18 rfl ha1 dX3_copyFrom_2 ?_
  refine S_puti C fl3_18 rfl ha0 rfl rfl dX3_copyFrom_5 (fun s1 => ?_)
  refine R_aload_n C 0 rfl dX3_copyFrom_8 ?_
  refine R_aload_n C 1 rfl dX3_copyFrom_9 ?_
  refine R_geti C fl3_22 rfl ha1 dX3_copyFrom_10 ?_
  refine S_puti C fl3_22 rfl ha0 rfl rfl dX3_copyFrom_13 (fun s2 => ?_)
  refine R_aload_n C 1 rfl dX3_copyFrom_16 ?_
  refine R_dr (fun x3 rx3 cx3 => ?_)
  refine R_getr C fl3_9 rfl ha1 rx3 dX3_copyFrom_17 ?_
  refine R_iconst C (0) dX3_copyFrom_20 (by decide) ?_
  refine R_aload_n C 0 rfl dX3_copyFrom_21 ?_
  refine R_dr (fun x4 rx4 cx4 => ?_)
  refine R_getr C fl3_9 rfl ha0 rx4 dX3_copyFrom_22 ?_
  refine R_iconst C (0) dX3_copyFrom_25 (by decide) ?_
  refine R_aload_n C 0 rfl dX3_copyFrom_26 ?_
  refine R_geti C fl3_18 rfl ha0 dX3_copyFrom_27 ?_
  refine S_acopy C jd3_25 cx3 cx4 (by rw [hR]; exact ⟨Nat.le_of_ble_eq_true rfl, Nat.le_of_ble_eq_true rfl⟩) dX3_copyFrom_30 (fun s5 => ?_)
  refine R_aload_n C 1 rfl dX3_copyFrom_33 ?_
  refine R_dr (fun x6 rx6 cx6 => ?_)
  refine R_getr C fl3_15 rfl ha1 rx6 dX3_copyFrom_34 ?_
  refine R_iconst C (0) dX3_copyFrom_37 (by decide) ?_
  refine R_aload_n C 0 rfl dX3_copyFrom_38 ?_
  refine R_dr (fun x7 rx7 cx7 => ?_)
  refine R_getr C fl3_15 rfl ha0 rx7 dX3_copyFrom_39 ?_
  refine R_iconst C (0) dX3_copyFrom_42 (by decide) ?_
  refine R_aload_n C 0 rfl dX3_copyFrom_43 ?_
  refine R_geti C fl3_18 rfl ha0 dX3_copyFrom_44 ?_
  refine S_acopy C jd3_25 cx6 cx7 (by rw [hR]; exact ⟨Nat.le_of_ble_eq_true rfl, Nat.le_of_ble_eq_true rfl⟩) dX3_copyFrom_47 (fun s8 => ?_)
  exact R_vret C hr dX3_copyFrom_50
theorem dX3_wipe_0 : dk cX3_wipe 0 1 (.aload_n 0) 1 := by unfold dk; decide +kernel
theorem dX3_wipe_1 : dk cX3_wipe 1 2 (.iconst 0) 1 := by unfold dk; decide +kernel
theorem dX3_wipe_2 : dk cX3_wipe 2 5 (.putfield 18) 3 := by unfold dk; decide +kernel
theorem dX3_wipe_5 : dk cX3_wipe 5 6 (.aload_n 0) 1 := by unfold dk; decide +kernel
theorem dX3_wipe_6 : dk cX3_wipe 6 7 (.iconst 0) 1 := by unfold dk; decide +kernel
theorem dX3_wipe_7 : dk cX3_wipe 7 10 (.putfield 22) 3 := by unfold dk; decide +kernel
theorem dX3_wipe_10 : dk cX3_wipe 10 11 (.return_) 1 := by unfold dk; decide +kernel
def fX3_wipe (E : En) (a0 : Nat) (σ : Sg) : Option (Sg) := tk (cd E a0) 3 (ss (si σ a0 2 (0 : Int32)) (fun s1 => ss (si s1 a0 3 (0 : Int32)) (fun s2 => some s2)))
set_option maxHeartbeats 4000000 in
set_option maxRecDepth 100000 in
theorem kX3_wipe {l : Launch} {G : Gl} {E : En} {a0 : Nat} {σ σ' : Sg} : fX3_wipe E a0 σ = some σ' → CT l yX3_wipe cX3_wipe 1 none ({ frames := 0, cells := 0, slots := 0, locals := 0 } : Room) [.ref (G.1 + a0)] G E σ none σ' := by
  intro h
  refine CT_of (lv0 := [(0, .ref (G.1 + a0))]) (by decide) (Nat.le_of_ble_eq_true rfl) rfl (fun κ hl hR hr C => ?_)
  have C : Cx κ G cX3_wipe RX3 1 := C
  revert h
  unfold fX3_wipe
  refine R_tk (fun ha0 => ?_)
  refine R_aload_n C 0 rfl dX3_wipe_0 ?_
  refine R_iconst C (0) dX3_wipe_1 (by decide) ?_
  refine S_puti C fl3_18 rfl ha0 rfl rfl dX3_wipe_2 (fun s1 => ?_)
  refine R_aload_n C 0 rfl dX3_wipe_5 ?_
  refine R_iconst C (0) dX3_wipe_6 (by decide) ?_
  refine S_puti C fl3_22 rfl ha0 rfl rfl dX3_wipe_7 (fun s2 => ?_)
  exact R_vret C hr dX3_wipe_10
theorem dX3_add_0 : dk cX3_add 0 1 (.aload_n 0) 1 := by unfold dk; decide +kernel
theorem dX3_add_1 : dk cX3_add 1 4 (.getfield 18) 3 := by unfold dk; decide +kernel
theorem dX3_add_4 : dk cX3_add 4 7 (.sipush 300) 3 := by unfold dk; decide +kernel
theorem dX3_add_11 : dk cX3_add 11 12 (.aload_n 0) 1 := by unfold dk; decide +kernel
theorem dX3_add_12 : dk cX3_add 12 15 (.getfield 18) 3 := by unfold dk; decide +kernel
theorem dX3_add_15 : dk cX3_add 15 16 (.istore_n 2) 1 := by unfold dk; decide +kernel
theorem dX3_add_16 : dk cX3_add 16 17 (.iload_n 2) 1 := by unfold dk; decide +kernel
theorem dX3_add_20 : dk cX3_add 20 21 (.aload_n 0) 1 := by unfold dk; decide +kernel
theorem dX3_add_21 : dk cX3_add 21 24 (.getfield 9) 3 := by unfold dk; decide +kernel
theorem dX3_add_24 : dk cX3_add 24 25 (.aload_n 0) 1 := by unfold dk; decide +kernel
theorem dX3_add_25 : dk cX3_add 25 28 (.getfield 15) 3 := by unfold dk; decide +kernel
theorem dX3_add_28 : dk cX3_add 28 29 (.iload_n 2) 1 := by unfold dk; decide +kernel
theorem dX3_add_29 : dk cX3_add 29 30 (.iconst 1) 1 := by unfold dk; decide +kernel
theorem dX3_add_30 : dk cX3_add 30 31 (.isub) 1 := by unfold dk; decide +kernel
theorem dX3_add_31 : dk cX3_add 31 32 (.iaload) 1 := by unfold dk; decide +kernel
theorem dX3_add_32 : dk cX3_add 32 33 (.iaload) 1 := by unfold dk; decide +kernel
theorem dX3_add_33 : dk cX3_add 33 34 (.iload_n 1) 1 := by unfold dk; decide +kernel
theorem dX3_add_37 : dk cX3_add 37 38 (.aload_n 0) 1 := by unfold dk; decide +kernel
theorem dX3_add_38 : dk cX3_add 38 41 (.getfield 15) 3 := by unfold dk; decide +kernel
theorem dX3_add_41 : dk cX3_add 41 42 (.iload_n 2) 1 := by unfold dk; decide +kernel
theorem dX3_add_42 : dk cX3_add 42 43 (.aload_n 0) 1 := by unfold dk; decide +kernel
theorem dX3_add_43 : dk cX3_add 43 46 (.getfield 15) 3 := by unfold dk; decide +kernel
theorem dX3_add_46 : dk cX3_add 46 47 (.iload_n 2) 1 := by unfold dk; decide +kernel
theorem dX3_add_47 : dk cX3_add 47 48 (.iconst 1) 1 := by unfold dk; decide +kernel
theorem dX3_add_48 : dk cX3_add 48 49 (.isub) 1 := by unfold dk; decide +kernel
theorem dX3_add_49 : dk cX3_add 49 50 (.iaload) 1 := by unfold dk; decide +kernel
theorem dX3_add_50 : dk cX3_add 50 51 (.iastore) 1 := by unfold dk; decide +kernel
theorem dX3_add_51 : dk cX3_add 51 54 (.iinc 2 (-1)) 3 := by unfold dk; decide +kernel
theorem dX3_add_54 : bk cX3_add 54 57 16 (.goto (-38)) (-38) := by unfold bk; decide +kernel
theorem dX3_add_34 : bk cX3_add 34 37 57 (.if_icmp .le 23) (23) := by unfold bk; decide +kernel
theorem dX3_add_17 : bk cX3_add 17 20 57 (.ifCond .le 40) (40) := by unfold bk; decide +kernel
theorem dX3_add_57 : dk cX3_add 57 58 (.aload_n 0) 1 := by unfold dk; decide +kernel
theorem dX3_add_58 : dk cX3_add 58 61 (.getfield 15) 3 := by unfold dk; decide +kernel
theorem dX3_add_61 : dk cX3_add 61 62 (.iload_n 2) 1 := by unfold dk; decide +kernel
theorem dX3_add_62 : dk cX3_add 62 63 (.aload_n 0) 1 := by unfold dk; decide +kernel
theorem dX3_add_63 : dk cX3_add 63 66 (.getfield 18) 3 := by unfold dk; decide +kernel
theorem dX3_add_66 : dk cX3_add 66 67 (.iastore) 1 := by unfold dk; decide +kernel
theorem dX3_add_67 : dk cX3_add 67 68 (.aload_n 0) 1 := by unfold dk; decide +kernel
theorem dX3_add_68 : dk cX3_add 68 69 (.dup) 1 := by unfold dk; decide +kernel
theorem dX3_add_69 : dk cX3_add 69 72 (.getfield 22) 3 := by unfold dk; decide +kernel
theorem dX3_add_72 : dk cX3_add 72 73 (.aload_n 0) 1 := by unfold dk; decide +kernel
theorem dX3_add_73 : dk cX3_add 73 76 (.getfield 18) 3 := by unfold dk; decide +kernel
theorem dX3_add_76 : dk cX3_add 76 77 (.iload_n 2) 1 := by unfold dk; decide +kernel
theorem dX3_add_77 : dk cX3_add 77 78 (.isub) 1 := by unfold dk; decide +kernel
theorem dX3_add_78 : dk cX3_add 78 79 (.iadd) 1 := by unfold dk; decide +kernel
theorem dX3_add_79 : dk cX3_add 79 82 (.putfield 22) 3 := by unfold dk; decide +kernel
theorem dX3_add_82 : dk cX3_add 82 83 (.aload_n 0) 1 := by unfold dk; decide +kernel
theorem dX3_add_83 : dk cX3_add 83 86 (.getfield 9) 3 := by unfold dk; decide +kernel
theorem dX3_add_86 : dk cX3_add 86 87 (.aload_n 0) 1 := by unfold dk; decide +kernel
theorem dX3_add_87 : dk cX3_add 87 90 (.getfield 18) 3 := by unfold dk; decide +kernel
theorem dX3_add_90 : dk cX3_add 90 91 (.iload_n 1) 1 := by unfold dk; decide +kernel
theorem dX3_add_91 : dk cX3_add 91 92 (.iastore) 1 := by unfold dk; decide +kernel
theorem dX3_add_92 : dk cX3_add 92 93 (.aload_n 0) 1 := by unfold dk; decide +kernel
theorem dX3_add_93 : dk cX3_add 93 94 (.dup) 1 := by unfold dk; decide +kernel
theorem dX3_add_94 : dk cX3_add 94 97 (.getfield 18) 3 := by unfold dk; decide +kernel
theorem dX3_add_97 : dk cX3_add 97 98 (.iconst 1) 1 := by unfold dk; decide +kernel
theorem dX3_add_98 : dk cX3_add 98 99 (.iadd) 1 := by unfold dk; decide +kernel
theorem dX3_add_99 : dk cX3_add 99 102 (.putfield 18) 3 := by unfold dk; decide +kernel
theorem dX3_add_102 : dk cX3_add 102 103 (.return_) 1 := by unfold dk; decide +kernel
theorem dX3_add_10 : dk cX3_add 10 11 (.return_) 1 := by unfold dk; decide +kernel
theorem dX3_add_7 : bk cX3_add 7 10 11 (.if_icmp .lt 4) (4) := by unfold bk; decide +kernel
def bX3_add_16 (E : En) (a0 : Nat) (a1 : Int32) (rec : Int32 → Sg → Option ((Int32) × Sg)) (v2 : Int32) (s3 : Sg) : Option ((Int32) × Sg) := if v2 ≤ 0 then (some (v2, s3)) else (dr (rf E a0 0) E 100 (fun x8 => dr (rf E a0 1) E 100 (fun x9 => ck (v2 - (1 : Int32)) (ln E x9) (ck (gi s3 x9 (v2 - (1 : Int32)).toNatClampNeg) (ln E x8) (if (gi s3 x8 (gi s3 x9 (v2 - (1 : Int32)).toNatClampNeg).toNatClampNeg) ≤ a1 then (some (v2, s3)) else (ck (v2 - (1 : Int32)) (ln E x9) (ck v2 (ln E x9) (ss (si s3 x9 v2.toNatClampNeg (gi s3 x9 (v2 - (1 : Int32)).toNatClampNeg)) (fun s14 => lt (v2 + (-1 : Int32)) (fun v15 => rec v15 s14))))))))))
def fX3_add (E : En) (a0 : Nat) (a1 : Int32) (σ : Sg) : Option (Sg) := tk (cd E a0) 3 (if (gi σ a0 2) < (300 : Int32) then (lt (gi σ a0 2) (fun v1 => bd (fx (fun rec a => bX3_add_16 E a0 a1 (fun u0 t => rec (u0, t)) a.1 a.2) FU (v1, σ)) (fun o16 s17 => dr (rf E a0 1) E 100 (fun x18 => ck o16 (ln E x18) (ss (si s17 x18 o16.toNatClampNeg (gi s17 a0 2)) (fun s20 => ss (si s20 a0 3 ((gi s20 a0 3) + ((gi s20 a0 2) - o16))) (fun s21 => dr (rf E a0 0) E 100 (fun x22 => ck (gi s21 a0 2) (ln E x22) (ss (si s21 x22 (gi s21 a0 2).toNatClampNeg a1) (fun s24 => ss (si s24 a0 2 ((gi s24 a0 2) + (1 : Int32))) (fun s25 => some s25))))))))))) else (some σ))
set_option maxHeartbeats 4000000 in
set_option maxRecDepth 100000 in
theorem kX3_add {l : Launch} {G : Gl} {E : En} {a0 : Nat} {a1 : Int32} {σ σ' : Sg} : fX3_add E a0 a1 σ = some σ' → CT l yX3_add cX3_add 3 none ({ frames := 0, cells := 0, slots := 0, locals := 0 } : Room) [.ref (G.1 + a0), .int a1] G E σ none σ' := by
  intro h
  refine CT_of (lv0 := [(0, .ref (G.1 + a0)), (1, .int a1)]) (by decide) (Nat.le_of_ble_eq_true rfl) rfl (fun κ hl hR hr C => ?_)
  have C : Cx κ G cX3_add RX3 3 := C
  revert h
  unfold fX3_add
  refine R_tk (fun ha0 => ?_)
  refine R_aload_n C 0 rfl dX3_add_0 ?_
  refine R_geti C fl3_18 rfl ha0 dX3_add_1 ?_
  refine R_sipush C (300) dX3_add_4 (by decide) ?_
  refine B_icmp_lt C dX3_add_7 ?_ ?_
  · refine R_aload_n C 0 rfl dX3_add_11 ?_
    refine R_geti C fl3_18 rfl ha0 dX3_add_12 ?_
    refine S_istore_n C dX3_add_15 rfl (fun v1 => [(2, .int v1), (0, .ref (G.1 + a0)), (1, .int a1)]) (by decide) (fun _ => rfl) (fun v1 => ?_)
    refine R_loc (lv2 := [(0, .ref (G.1 + a0)), (1, .int a1), (2, .int v1)]) [1, 2, 0] rfl ?_
    refine R_loop (fun (a : (Int32) × Sg) => V κ G (QQ κ G E none σ') E a.2 (false, 0, 0) 16 [(0, .ref (G.1 + a0)), (1, .int a1), (2, .int a.1)] []) (fun (o : (Int32)) (s : Sg) => V κ G (QQ κ G E none σ') E s (false, 0, 0) 57 [(0, .ref (G.1 + a0)), (1, .int a1), (2, .int o)] []) (v1, σ) (fun o16 s17 => ?_) (fun rec I7 a b5 s6 K4 => ?_)
    · refine R_aload_n C 0 rfl dX3_add_57 ?_
      refine R_dr (fun x18 rx18 cx18 => ?_)
      refine R_getr C fl3_15 rfl ha0 rx18 dX3_add_58 ?_
      refine R_iload_n C 2 rfl dX3_add_61 ?_
      refine R_aload_n C 0 rfl dX3_add_62 ?_
      refine R_geti C fl3_18 rfl ha0 dX3_add_63 ?_
      refine R_ck (fun h19 => ?_)
      refine S_iast C cx18 h19 dX3_add_66 (fun s20 => ?_)
      refine R_aload_n C 0 rfl dX3_add_67 ?_
      refine R_dup C dX3_add_68 rfl ?_
      refine R_geti C fl3_22 rfl ha0 dX3_add_69 ?_
      refine R_aload_n C 0 rfl dX3_add_72 ?_
      refine R_geti C fl3_18 rfl ha0 dX3_add_73 ?_
      refine R_iload_n C 2 rfl dX3_add_76 ?_
      refine R_isub C dX3_add_77 ?_
      refine R_iadd C dX3_add_78 ?_
      refine S_puti C fl3_22 rfl ha0 rfl rfl dX3_add_79 (fun s21 => ?_)
      refine R_aload_n C 0 rfl dX3_add_82 ?_
      refine R_dr (fun x22 rx22 cx22 => ?_)
      refine R_getr C fl3_9 rfl ha0 rx22 dX3_add_83 ?_
      refine R_aload_n C 0 rfl dX3_add_86 ?_
      refine R_geti C fl3_18 rfl ha0 dX3_add_87 ?_
      refine R_iload_n C 1 rfl dX3_add_90 ?_
      refine R_ck (fun h23 => ?_)
      refine S_iast C cx22 h23 dX3_add_91 (fun s24 => ?_)
      refine R_aload_n C 0 rfl dX3_add_92 ?_
      refine R_dup C dX3_add_93 rfl ?_
      refine R_geti C fl3_18 rfl ha0 dX3_add_94 ?_
      refine R_iconst C (1) dX3_add_97 (by decide) ?_
      refine R_iadd C dX3_add_98 ?_
      refine S_puti C fl3_18 rfl ha0 rfl rfl dX3_add_99 (fun s25 => ?_)
      exact R_vret C hr dX3_add_102
    · obtain ⟨v2, s3⟩ := a
      show bX3_add_16 E a0 a1 (fun u0 t => rec (u0, t)) v2 s3 = some (b5, s6) → V κ G (QQ κ G E none σ') E s3 (false, 0, 0) 16 [(0, .ref (G.1 + a0)), (1, .int a1), (2, .int v2)] []
      unfold bX3_add_16
      refine R_iload_n C 2 rfl dX3_add_16 ?_
      refine B_if_le C dX3_add_17 ?_ ?_
      · exact R_end (fun (o : (Int32)) (s : Sg) => V κ G (QQ κ G E none σ') E s (false, 0, 0) 57 [(0, .ref (G.1 + a0)), (1, .int a1), (2, .int o)] []) K4
      · refine R_aload_n C 0 rfl dX3_add_20 ?_
        refine R_dr (fun x8 rx8 cx8 => ?_)
        refine R_getr C fl3_9 rfl ha0 rx8 dX3_add_21 ?_
        refine R_aload_n C 0 rfl dX3_add_24 ?_
        refine R_dr (fun x9 rx9 cx9 => ?_)
        refine R_getr C fl3_15 rfl ha0 rx9 dX3_add_25 ?_
        refine R_iload_n C 2 rfl dX3_add_28 ?_
        refine R_iconst C (1) dX3_add_29 (by decide) ?_
        refine R_isub C dX3_add_30 ?_
        refine R_ck (fun h10 => ?_)
        refine R_iald C cx9 h10 dX3_add_31 ?_
        refine R_ck (fun h11 => ?_)
        refine R_iald C cx8 h11 dX3_add_32 ?_
        refine R_iload_n C 1 rfl dX3_add_33 ?_
        refine B_icmp_le C dX3_add_34 ?_ ?_
        · exact R_end (fun (o : (Int32)) (s : Sg) => V κ G (QQ κ G E none σ') E s (false, 0, 0) 57 [(0, .ref (G.1 + a0)), (1, .int a1), (2, .int o)] []) K4
        · refine R_aload_n C 0 rfl dX3_add_37 ?_
          refine R_getr C fl3_15 rfl ha0 rx9 dX3_add_38 ?_
          refine R_iload_n C 2 rfl dX3_add_41 ?_
          refine R_aload_n C 0 rfl dX3_add_42 ?_
          refine R_getr C fl3_15 rfl ha0 rx9 dX3_add_43 ?_
          refine R_iload_n C 2 rfl dX3_add_46 ?_
          refine R_iconst C (1) dX3_add_47 (by decide) ?_
          refine R_isub C dX3_add_48 ?_
          refine R_ck (fun h12 => ?_)
          refine R_iald C cx9 h12 dX3_add_49 ?_
          refine R_ck (fun h13 => ?_)
          refine S_iast C cx9 h13 dX3_add_50 (fun s14 => ?_)
          refine S_iinc (fun v15 => [(2, .int v15), (0, .ref (G.1 + a0)), (1, .int a1)]) 2 C dX3_add_51 rfl (by decide) (by decide) (fun _ => rfl) (fun v15 => ?_)
          refine R_goto C dX3_add_54 ?_
          refine R_loc (lv2 := [(0, .ref (G.1 + a0)), (1, .int a1), (2, .int v15)]) [1, 2, 0] rfl ?_
          exact I7 (v15, s14) b5 s6 K4
  · exact R_vret C hr dX3_add_10
theorem dX3_isLess_0 : dk cX3_isLess 0 1 (.aload_n 0) 1 := by unfold dk; decide +kernel
theorem dX3_isLess_1 : dk cX3_isLess 1 4 (.getfield 9) 3 := by unfold dk; decide +kernel
theorem dX3_isLess_4 : dk cX3_isLess 4 5 (.iload_n 1) 1 := by unfold dk; decide +kernel
theorem dX3_isLess_5 : dk cX3_isLess 5 6 (.iaload) 1 := by unfold dk; decide +kernel
theorem dX3_isLess_6 : dk cX3_isLess 6 7 (.aload_n 0) 1 := by unfold dk; decide +kernel
theorem dX3_isLess_7 : dk cX3_isLess 7 10 (.getfield 9) 3 := by unfold dk; decide +kernel
theorem dX3_isLess_10 : dk cX3_isLess 10 11 (.iload_n 2) 1 := by unfold dk; decide +kernel
theorem dX3_isLess_11 : dk cX3_isLess 11 12 (.iaload) 1 := by unfold dk; decide +kernel
theorem dX3_isLess_12 : bk cX3_isLess 12 15 35 (.if_icmp .lt 23) (23) := by unfold bk; decide +kernel
theorem dX3_isLess_35 : dk cX3_isLess 35 36 (.iconst 1) 1 := by unfold dk; decide +kernel
theorem dX3_isLess_36 : bk cX3_isLess 36 39 40 (.goto 4) (4) := by unfold bk; decide +kernel
theorem dX3_isLess_15 : dk cX3_isLess 15 16 (.aload_n 0) 1 := by unfold dk; decide +kernel
theorem dX3_isLess_16 : dk cX3_isLess 16 19 (.getfield 9) 3 := by unfold dk; decide +kernel
theorem dX3_isLess_19 : dk cX3_isLess 19 20 (.iload_n 1) 1 := by unfold dk; decide +kernel
theorem dX3_isLess_20 : dk cX3_isLess 20 21 (.iaload) 1 := by unfold dk; decide +kernel
theorem dX3_isLess_21 : dk cX3_isLess 21 22 (.aload_n 0) 1 := by unfold dk; decide +kernel
theorem dX3_isLess_22 : dk cX3_isLess 22 25 (.getfield 9) 3 := by unfold dk; decide +kernel
theorem dX3_isLess_25 : dk cX3_isLess 25 26 (.iload_n 2) 1 := by unfold dk; decide +kernel
theorem dX3_isLess_26 : dk cX3_isLess 26 27 (.iaload) 1 := by unfold dk; decide +kernel
theorem dX3_isLess_39 : dk cX3_isLess 39 40 (.iconst 0) 1 := by unfold dk; decide +kernel
theorem dX3_isLess_30 : dk cX3_isLess 30 31 (.iload_n 1) 1 := by unfold dk; decide +kernel
theorem dX3_isLess_31 : dk cX3_isLess 31 32 (.iload_n 2) 1 := by unfold dk; decide +kernel
theorem dX3_isLess_32 : bk cX3_isLess 32 35 39 (.if_icmp .ge 7) (7) := by unfold bk; decide +kernel
theorem dX3_isLess_27 : bk cX3_isLess 27 30 39 (.if_icmp .ne 12) (12) := by unfold bk; decide +kernel
theorem dX3_isLess_40 : dk cX3_isLess 40 41 (.ireturn) 1 := by unfold dk; decide +kernel
def fX3_isLess (E : En) (a0 : Nat) (a1 : Int32) (a2 : Int32) (σ : Sg) : Option (Int32 × Sg) := tk (cd E a0) 3 (dr (rf E a0 0) E 100 (fun x1 => ck a1 (ln E x1) (ck a2 (ln E x1) (bd (if (gi σ x1 a1.toNatClampNeg) < (gi σ x1 a2.toNatClampNeg) then (some ((1 : Int32), σ)) else (ck a1 (ln E x1) (ck a2 (ln E x1) (if ¬ (gi σ x1 a1.toNatClampNeg) = (gi σ x1 a2.toNatClampNeg) then (some ((0 : Int32), σ)) else (if a2 ≤ a1 then (some ((0 : Int32), σ)) else (some ((1 : Int32), σ))))))) (fun w4 s5 => kb w4 (some (w4, s5)))))))
set_option maxHeartbeats 4000000 in
set_option maxRecDepth 100000 in
theorem kX3_isLess {l : Launch} {G : Gl} {E : En} {a0 : Nat} {a1 : Int32} {a2 : Int32} {σ σ' : Sg} {r : Int32} : fX3_isLess E a0 a1 a2 σ = some (r, σ') → CT l yX3_isLess cX3_isLess 3 (some .boolean) ({ frames := 0, cells := 0, slots := 0, locals := 0 } : Room) [.ref (G.1 + a0), .int a1, .int a2] G E σ (some (.int r)) σ' := by
  intro h
  refine CT_of (lv0 := [(0, .ref (G.1 + a0)), (1, .int a1), (2, .int a2)]) (by decide) (Nat.le_of_ble_eq_true rfl) rfl (fun κ hl hR hr C => ?_)
  have C : Cx κ G cX3_isLess RX3 3 := C
  revert h
  unfold fX3_isLess
  refine R_tk (fun ha0 => ?_)
  refine R_aload_n C 0 rfl dX3_isLess_0 ?_
  refine R_dr (fun x1 rx1 cx1 => ?_)
  refine R_getr C fl3_9 rfl ha0 rx1 dX3_isLess_1 ?_
  refine R_iload_n C 1 rfl dX3_isLess_4 ?_
  refine R_ck (fun h2 => ?_)
  refine R_iald C cx1 h2 dX3_isLess_5 ?_
  refine R_aload_n C 0 rfl dX3_isLess_6 ?_
  refine R_getr C fl3_9 rfl ha0 rx1 dX3_isLess_7 ?_
  refine R_iload_n C 2 rfl dX3_isLess_10 ?_
  refine R_ck (fun h3 => ?_)
  refine R_iald C cx1 h3 dX3_isLess_11 ?_
  refine R_bdK (fun (w : Int32) (s : Sg) => V κ G (QQ κ G E (some (.int r)) σ') E s (false, 0, 0) 40 [] [.int w]) (fun w4 s5 => ?_) (fun w4 s5 Kw4 => ?_)
  · refine R_kb (fun h8 => ?_)
    exact R_zret C hr h8 dX3_isLess_40
  · refine B_icmp_lt C dX3_isLess_12 ?_ ?_
    · refine R_iconst C (1) dX3_isLess_35 (by decide) ?_
      refine R_goto C dX3_isLess_36 ?_
      refine R_loc (lv2 := []) [] rfl ?_
      exact R_end (fun (w : Int32) (s : Sg) => V κ G (QQ κ G E (some (.int r)) σ') E s (false, 0, 0) 40 [] [.int w]) Kw4
    · refine R_aload_n C 0 rfl dX3_isLess_15 ?_
      refine R_getr C fl3_9 rfl ha0 rx1 dX3_isLess_16 ?_
      refine R_iload_n C 1 rfl dX3_isLess_19 ?_
      refine R_ck (fun h6 => ?_)
      refine R_iald C cx1 h6 dX3_isLess_20 ?_
      refine R_aload_n C 0 rfl dX3_isLess_21 ?_
      refine R_getr C fl3_9 rfl ha0 rx1 dX3_isLess_22 ?_
      refine R_iload_n C 2 rfl dX3_isLess_25 ?_
      refine R_ck (fun h7 => ?_)
      refine R_iald C cx1 h7 dX3_isLess_26 ?_
      refine B_icmp_ne C dX3_isLess_27 ?_ ?_
      · refine R_iconst C (0) dX3_isLess_39 (by decide) ?_
        refine R_loc (lv2 := []) [] rfl ?_
        exact R_end (fun (w : Int32) (s : Sg) => V κ G (QQ κ G E (some (.int r)) σ') E s (false, 0, 0) 40 [] [.int w]) Kw4
      · refine R_iload_n C 1 rfl dX3_isLess_30 ?_
        refine R_iload_n C 2 rfl dX3_isLess_31 ?_
        refine B_icmp_ge C dX3_isLess_32 ?_ ?_
        · refine R_iconst C (0) dX3_isLess_39 (by decide) ?_
          refine R_loc (lv2 := []) [] rfl ?_
          exact R_end (fun (w : Int32) (s : Sg) => V κ G (QQ κ G E (some (.int r)) σ') E s (false, 0, 0) 40 [] [.int w]) Kw4
        · refine R_iconst C (1) dX3_isLess_35 (by decide) ?_
          refine R_goto C dX3_isLess_36 ?_
          refine R_loc (lv2 := []) [] rfl ?_
          exact R_end (fun (w : Int32) (s : Sg) => V κ G (QQ κ G E (some (.int r)) σ') E s (false, 0, 0) 40 [] [.int w]) Kw4
theorem dX3_ranked_0 : dk cX3_ranked 0 1 (.aload_n 0) 1 := by unfold dk; decide +kernel
theorem dX3_ranked_1 : dk cX3_ranked 1 4 (.getfield 15) 3 := by unfold dk; decide +kernel
theorem dX3_ranked_4 : dk cX3_ranked 4 5 (.iload_n 2) 1 := by unfold dk; decide +kernel
theorem dX3_ranked_5 : bk cX3_ranked 5 8 19 (.ifCond .eq 14) (14) := by unfold bk; decide +kernel
theorem dX3_ranked_19 : dk cX3_ranked 19 20 (.iload_n 1) 1 := by unfold dk; decide +kernel
theorem dX3_ranked_8 : dk cX3_ranked 8 9 (.aload_n 0) 1 := by unfold dk; decide +kernel
theorem dX3_ranked_9 : dk cX3_ranked 9 12 (.getfield 18) 3 := by unfold dk; decide +kernel
theorem dX3_ranked_12 : dk cX3_ranked 12 13 (.iconst 1) 1 := by unfold dk; decide +kernel
theorem dX3_ranked_13 : dk cX3_ranked 13 14 (.isub) 1 := by unfold dk; decide +kernel
theorem dX3_ranked_14 : dk cX3_ranked 14 15 (.iload_n 1) 1 := by unfold dk; decide +kernel
theorem dX3_ranked_15 : dk cX3_ranked 15 16 (.isub) 1 := by unfold dk; decide +kernel
theorem dX3_ranked_16 : bk cX3_ranked 16 19 20 (.goto 4) (4) := by unfold bk; decide +kernel
theorem dX3_ranked_20 : dk cX3_ranked 20 21 (.iaload) 1 := by unfold dk; decide +kernel
theorem dX3_ranked_21 : dk cX3_ranked 21 22 (.ireturn) 1 := by unfold dk; decide +kernel
def fX3_ranked (E : En) (a0 : Nat) (a1 : Int32) (a2 : Int32) (σ : Sg) : Option (Int32 × Sg) := tk (cd E a0) 3 (dr (rf E a0 1) E 100 (fun x1 => bd (if a2 = 0 then (some (a1, σ)) else (some ((((gi σ a0 2) - (1 : Int32)) - a1), σ))) (fun w2 s3 => ck w2 (ln E x1) (some ((gi s3 x1 w2.toNatClampNeg), s3)))))
set_option maxHeartbeats 4000000 in
set_option maxRecDepth 100000 in
theorem kX3_ranked {l : Launch} {G : Gl} {E : En} {a0 : Nat} {a1 : Int32} {a2 : Int32} {σ σ' : Sg} {r : Int32} : fX3_ranked E a0 a1 a2 σ = some (r, σ') → CT l yX3_ranked cX3_ranked 3 (some .int) ({ frames := 0, cells := 0, slots := 0, locals := 0 } : Room) [.ref (G.1 + a0), .int a1, .int a2] G E σ (some (.int r)) σ' := by
  intro h
  refine CT_of (lv0 := [(0, .ref (G.1 + a0)), (1, .int a1), (2, .int a2)]) (by decide) (Nat.le_of_ble_eq_true rfl) rfl (fun κ hl hR hr C => ?_)
  have C : Cx κ G cX3_ranked RX3 3 := C
  revert h
  unfold fX3_ranked
  refine R_tk (fun ha0 => ?_)
  refine R_aload_n C 0 rfl dX3_ranked_0 ?_
  refine R_dr (fun x1 rx1 cx1 => ?_)
  refine R_getr C fl3_15 rfl ha0 rx1 dX3_ranked_1 ?_
  refine R_iload_n C 2 rfl dX3_ranked_4 ?_
  refine R_bdK (fun (w : Int32) (s : Sg) => V κ G (QQ κ G E (some (.int r)) σ') E s (false, 0, 0) 20 [] [.int w, .ref (G.1 + x1)]) (fun w2 s3 => ?_) (fun w2 s3 Kw2 => ?_)
  · refine R_ck (fun h4 => ?_)
    refine R_iald C cx1 h4 dX3_ranked_20 ?_
    exact R_iret C hr dX3_ranked_21
  · refine B_if_eq C dX3_ranked_5 ?_ ?_
    · refine R_iload_n C 1 rfl dX3_ranked_19 ?_
      refine R_loc (lv2 := []) [] rfl ?_
      exact R_end (fun (w : Int32) (s : Sg) => V κ G (QQ κ G E (some (.int r)) σ') E s (false, 0, 0) 20 [] [.int w, .ref (G.1 + x1)]) Kw2
    · refine R_aload_n C 0 rfl dX3_ranked_8 ?_
      refine R_geti C fl3_18 rfl ha0 dX3_ranked_9 ?_
      refine R_iconst C (1) dX3_ranked_12 (by decide) ?_
      refine R_isub C dX3_ranked_13 ?_
      refine R_iload_n C 1 rfl dX3_ranked_14 ?_
      refine R_isub C dX3_ranked_15 ?_
      refine R_goto C dX3_ranked_16 ?_
      refine R_loc (lv2 := []) [] rfl ?_
      exact R_end (fun (w : Int32) (s : Sg) => V κ G (QQ κ G E (some (.int r)) σ') E s (false, 0, 0) 20 [] [.int w, .ref (G.1 + x1)]) Kw2
theorem dX3_howOften_0 : dk cX3_howOften 0 1 (.iconst 0) 1 := by unfold dk; decide +kernel
theorem dX3_howOften_1 : dk cX3_howOften 1 2 (.istore_n 2) 1 := by unfold dk; decide +kernel
theorem dX3_howOften_2 : dk cX3_howOften 2 3 (.iconst 0) 1 := by unfold dk; decide +kernel
theorem dX3_howOften_3 : dk cX3_howOften 3 4 (.istore_n 3) 1 := by unfold dk; decide +kernel
theorem dX3_howOften_4 : dk cX3_howOften 4 5 (.iload_n 3) 1 := by unfold dk; decide +kernel
theorem dX3_howOften_5 : dk cX3_howOften 5 6 (.aload_n 0) 1 := by unfold dk; decide +kernel
theorem dX3_howOften_6 : dk cX3_howOften 6 9 (.getfield 18) 3 := by unfold dk; decide +kernel
theorem dX3_howOften_12 : dk cX3_howOften 12 13 (.aload_n 0) 1 := by unfold dk; decide +kernel
theorem dX3_howOften_13 : dk cX3_howOften 13 16 (.getfield 9) 3 := by unfold dk; decide +kernel
theorem dX3_howOften_16 : dk cX3_howOften 16 17 (.iload_n 3) 1 := by unfold dk; decide +kernel
theorem dX3_howOften_17 : dk cX3_howOften 17 18 (.iaload) 1 := by unfold dk; decide +kernel
theorem dX3_howOften_18 : dk cX3_howOften 18 19 (.iload_n 1) 1 := by unfold dk; decide +kernel
theorem dX3_howOften_19 : bk cX3_howOften 19 22 25 (.if_icmp .ne 6) (6) := by unfold bk; decide +kernel
theorem dX3_howOften_22 : dk cX3_howOften 22 25 (.iinc 2 1) 3 := by unfold dk; decide +kernel
theorem dX3_howOften_25 : dk cX3_howOften 25 28 (.iinc 3 1) 3 := by unfold dk; decide +kernel
theorem dX3_howOften_28 : bk cX3_howOften 28 31 4 (.goto (-24)) (-24) := by unfold bk; decide +kernel
theorem dX3_howOften_9 : bk cX3_howOften 9 12 31 (.if_icmp .ge 22) (22) := by unfold bk; decide +kernel
theorem dX3_howOften_31 : dk cX3_howOften 31 32 (.iload_n 2) 1 := by unfold dk; decide +kernel
theorem dX3_howOften_32 : dk cX3_howOften 32 33 (.ireturn) 1 := by unfold dk; decide +kernel
def bX3_howOften_4 (E : En) (a0 : Nat) (a1 : Int32) (rec : Int32 → Int32 → Sg → Option ((Int32 × Int32) × Sg)) (v1 : Int32) (v2 : Int32) (s3 : Sg) : Option ((Int32 × Int32) × Sg) := if (gi s3 a0 2) ≤ v2 then (some ((v1, v2), s3)) else (dr (rf E a0 0) E 100 (fun x8 => ck v2 (ln E x8) (bd (if ¬ (gi s3 x8 v2.toNatClampNeg) = a1 then (some (v1, s3)) else (lt (v1 + (1 : Int32)) (fun v12 => some (v12, s3)))) (fun w10 s11 => lt (v2 + (1 : Int32)) (fun v13 => rec w10 v13 s11)))))
def fX3_howOften (E : En) (a0 : Nat) (a1 : Int32) (σ : Sg) : Option (Int32 × Sg) := tk (cd E a0) 3 (bd (fx (fun rec a => bX3_howOften_4 E a0 a1 (fun u0 u1 t => rec ((u0, u1), t)) a.1.1 a.1.2 a.2) FU (((0 : Int32), (0 : Int32)), σ)) (fun o14 s15 => some (o14.1, s15)))
set_option maxHeartbeats 4000000 in
set_option maxRecDepth 100000 in
theorem kX3_howOften {l : Launch} {G : Gl} {E : En} {a0 : Nat} {a1 : Int32} {σ σ' : Sg} {r : Int32} : fX3_howOften E a0 a1 σ = some (r, σ') → CT l yX3_howOften cX3_howOften 4 (some .int) ({ frames := 0, cells := 0, slots := 0, locals := 0 } : Room) [.ref (G.1 + a0), .int a1] G E σ (some (.int r)) σ' := by
  intro h
  refine CT_of (lv0 := [(0, .ref (G.1 + a0)), (1, .int a1)]) (by decide) (Nat.le_of_ble_eq_true rfl) rfl (fun κ hl hR hr C => ?_)
  have C : Cx κ G cX3_howOften RX3 4 := C
  revert h
  unfold fX3_howOften
  refine R_tk (fun ha0 => ?_)
  refine R_iconst C (0) dX3_howOften_0 (by decide) ?_
  refine R_istore_n (lv2 := [(2, .int (0 : Int32)), (0, .ref (G.1 + a0)), (1, .int a1)]) C dX3_howOften_1 rfl (by decide) rfl ?_
  refine R_iconst C (0) dX3_howOften_2 (by decide) ?_
  refine R_istore_n (lv2 := [(3, .int (0 : Int32)), (2, .int (0 : Int32)), (0, .ref (G.1 + a0)), (1, .int a1)]) C dX3_howOften_3 rfl (by decide) rfl ?_
  refine R_loc (lv2 := [(0, .ref (G.1 + a0)), (1, .int a1), (2, .int (0 : Int32)), (3, .int (0 : Int32))]) [2, 3, 1, 0] rfl ?_
  refine R_loop (fun (a : (Int32 × Int32) × Sg) => V κ G (QQ κ G E (some (.int r)) σ') E a.2 (false, 0, 0) 4 [(0, .ref (G.1 + a0)), (1, .int a1), (2, .int a.1.1), (3, .int a.1.2)] []) (fun (o : (Int32 × Int32)) (s : Sg) => V κ G (QQ κ G E (some (.int r)) σ') E s (false, 0, 0) 31 [(2, .int o.1)] []) (((0 : Int32), (0 : Int32)), σ) (fun o14 s15 => ?_) (fun rec I7 a b5 s6 K4 => ?_)
  · refine R_iload_n C 0 rfl dX3_howOften_31 ?_
    exact R_iret C hr dX3_howOften_32
  · obtain ⟨⟨v1, v2⟩, s3⟩ := a
    show bX3_howOften_4 E a0 a1 (fun u0 u1 t => rec ((u0, u1), t)) v1 v2 s3 = some (b5, s6) → V κ G (QQ κ G E (some (.int r)) σ') E s3 (false, 0, 0) 4 [(0, .ref (G.1 + a0)), (1, .int a1), (2, .int v1), (3, .int v2)] []
    unfold bX3_howOften_4
    refine R_iload_n C 3 rfl dX3_howOften_4 ?_
    refine R_aload_n C 0 rfl dX3_howOften_5 ?_
    refine R_geti C fl3_18 rfl ha0 dX3_howOften_6 ?_
    refine B_icmp_ge C dX3_howOften_9 ?_ ?_
    · refine R_loc (lv2 := [(2, .int v1)]) [2] rfl ?_
      exact R_end (fun (o : (Int32 × Int32)) (s : Sg) => V κ G (QQ κ G E (some (.int r)) σ') E s (false, 0, 0) 31 [(2, .int o.1)] []) K4
    · refine R_aload_n C 0 rfl dX3_howOften_12 ?_
      refine R_dr (fun x8 rx8 cx8 => ?_)
      refine R_getr C fl3_9 rfl ha0 rx8 dX3_howOften_13 ?_
      refine R_iload_n C 3 rfl dX3_howOften_16 ?_
      refine R_ck (fun h9 => ?_)
      refine R_iald C cx8 h9 dX3_howOften_17 ?_
      refine R_iload_n C 1 rfl dX3_howOften_18 ?_
      refine R_bdK (fun (w : Int32) (s : Sg) => V κ G (QQ κ G E (some (.int r)) σ') E s (false, 0, 0) 25 [(0, .ref (G.1 + a0)), (1, .int a1), (3, .int v2), (2, .int w)] []) (fun w10 s11 => ?_) (fun w10 s11 Kw10 => ?_)
      · refine S_iinc (fun v13 => [(3, .int v13), (0, .ref (G.1 + a0)), (1, .int a1), (2, .int w10)]) 2 C dX3_howOften_25 rfl (by decide) (by decide) (fun _ => rfl) (fun v13 => ?_)
        refine R_goto C dX3_howOften_28 ?_
        refine R_loc (lv2 := [(0, .ref (G.1 + a0)), (1, .int a1), (2, .int w10), (3, .int v13)]) [1, 2, 3, 0] rfl ?_
        exact I7 ((w10, v13), s11) b5 s6 K4
      · refine B_icmp_ne C dX3_howOften_19 ?_ ?_
        · refine R_loc (lv2 := [(0, .ref (G.1 + a0)), (1, .int a1), (3, .int v2), (2, .int v1)]) [0, 1, 3, 2] rfl ?_
          exact R_end (fun (w : Int32) (s : Sg) => V κ G (QQ κ G E (some (.int r)) σ') E s (false, 0, 0) 25 [(0, .ref (G.1 + a0)), (1, .int a1), (3, .int v2), (2, .int w)] []) Kw10
        · refine S_iinc (fun v12 => [(2, .int v12), (0, .ref (G.1 + a0)), (1, .int a1), (3, .int v2)]) 2 C dX3_howOften_22 rfl (by decide) (by decide) (fun _ => rfl) (fun v12 => ?_)
          refine R_loc (lv2 := [(0, .ref (G.1 + a0)), (1, .int a1), (3, .int v2), (2, .int v12)]) [1, 2, 3, 0] rfl ?_
          exact R_end (fun (w : Int32) (s : Sg) => V κ G (QQ κ G E (some (.int r)) σ') E s (false, 0, 0) 25 [(0, .ref (G.1 + a0)), (1, .int a1), (3, .int v2), (2, .int w)] []) Kw10
theorem dX3_firstOf_0 : dk cX3_firstOf 0 1 (.iconst 0) 1 := by unfold dk; decide +kernel
theorem dX3_firstOf_1 : dk cX3_firstOf 1 2 (.istore_n 2) 1 := by unfold dk; decide +kernel
theorem dX3_firstOf_2 : dk cX3_firstOf 2 3 (.iload_n 2) 1 := by unfold dk; decide +kernel
theorem dX3_firstOf_3 : dk cX3_firstOf 3 4 (.aload_n 0) 1 := by unfold dk; decide +kernel
theorem dX3_firstOf_4 : dk cX3_firstOf 4 7 (.getfield 18) 3 := by unfold dk; decide +kernel
theorem dX3_firstOf_10 : dk cX3_firstOf 10 11 (.aload_n 0) 1 := by unfold dk; decide +kernel
theorem dX3_firstOf_11 : dk cX3_firstOf 11 14 (.getfield 9) 3 := by unfold dk; decide +kernel
theorem dX3_firstOf_14 : dk cX3_firstOf 14 15 (.iload_n 2) 1 := by unfold dk; decide +kernel
theorem dX3_firstOf_15 : dk cX3_firstOf 15 16 (.iaload) 1 := by unfold dk; decide +kernel
theorem dX3_firstOf_16 : dk cX3_firstOf 16 17 (.iload_n 1) 1 := by unfold dk; decide +kernel
theorem dX3_firstOf_22 : dk cX3_firstOf 22 25 (.iinc 2 1) 3 := by unfold dk; decide +kernel
theorem dX3_firstOf_25 : bk cX3_firstOf 25 28 2 (.goto (-23)) (-23) := by unfold bk; decide +kernel
theorem dX3_firstOf_20 : dk cX3_firstOf 20 21 (.iload_n 2) 1 := by unfold dk; decide +kernel
theorem dX3_firstOf_21 : dk cX3_firstOf 21 22 (.ireturn) 1 := by unfold dk; decide +kernel
theorem dX3_firstOf_17 : bk cX3_firstOf 17 20 22 (.if_icmp .ne 5) (5) := by unfold bk; decide +kernel
theorem dX3_firstOf_7 : bk cX3_firstOf 7 10 28 (.if_icmp .ge 21) (21) := by unfold bk; decide +kernel
theorem dX3_firstOf_28 : dk cX3_firstOf 28 30 (.bipush (-2)) 2 := by unfold dk; decide +kernel
theorem dX3_firstOf_30 : dk cX3_firstOf 30 31 (.ireturn) 1 := by unfold dk; decide +kernel
def bX3_firstOf_2 (E : En) (a0 : Nat) (a1 : Int32) (rec : Int32 → Sg → Option (((Int32) ⊕ Int32) × Sg)) (v1 : Int32) (s2 : Sg) : Option (((Int32) ⊕ Int32) × Sg) := if (gi s2 a0 2) ≤ v1 then (some (.inl v1, s2)) else (dr (rf E a0 0) E 100 (fun x7 => ck v1 (ln E x7) (if ¬ (gi s2 x7 v1.toNatClampNeg) = a1 then (lt (v1 + (1 : Int32)) (fun v9 => rec v9 s2)) else (some (.inr v1, s2)))))
def fX3_firstOf (E : En) (a0 : Nat) (a1 : Int32) (σ : Sg) : Option (Int32 × Sg) := tk (cd E a0) 3 (bd (fx (fun rec a => bX3_firstOf_2 E a0 a1 (fun u0 t => rec (u0, t)) a.1 a.2) FU ((0 : Int32), σ)) (fun o10 s11 => sm o10 (fun vo10 => some ((-2 : Int32), s11)) (fun rr => some (rr, s11))))
set_option maxHeartbeats 4000000 in
set_option maxRecDepth 100000 in
theorem kX3_firstOf {l : Launch} {G : Gl} {E : En} {a0 : Nat} {a1 : Int32} {σ σ' : Sg} {r : Int32} : fX3_firstOf E a0 a1 σ = some (r, σ') → CT l yX3_firstOf cX3_firstOf 3 (some .int) ({ frames := 0, cells := 0, slots := 0, locals := 0 } : Room) [.ref (G.1 + a0), .int a1] G E σ (some (.int r)) σ' := by
  intro h
  refine CT_of (lv0 := [(0, .ref (G.1 + a0)), (1, .int a1)]) (by decide) (Nat.le_of_ble_eq_true rfl) rfl (fun κ hl hR hr C => ?_)
  have C : Cx κ G cX3_firstOf RX3 3 := C
  revert h
  unfold fX3_firstOf
  refine R_tk (fun ha0 => ?_)
  refine R_iconst C (0) dX3_firstOf_0 (by decide) ?_
  refine R_istore_n (lv2 := [(2, .int (0 : Int32)), (0, .ref (G.1 + a0)), (1, .int a1)]) C dX3_firstOf_1 rfl (by decide) rfl ?_
  refine R_loc (lv2 := [(0, .ref (G.1 + a0)), (1, .int a1), (2, .int (0 : Int32))]) [1, 2, 0] rfl ?_
  refine R_loop (fun (a : (Int32) × Sg) => V κ G (QQ κ G E (some (.int r)) σ') E a.2 (false, 0, 0) 2 [(0, .ref (G.1 + a0)), (1, .int a1), (2, .int a.1)] []) (fun (o : ((Int32) ⊕ Int32)) (s : Sg) => sm o (fun o => V κ G (QQ κ G E (some (.int r)) σ') E s (false, 0, 0) 28 [] []) (fun rr => some (rr, s) = some (r, σ'))) ((0 : Int32), σ) (fun o10 s11 => ?_) (fun rec I6 a b4 s5 K3 => ?_)
  · rcases o10 with vo10 | ro10
    · refine R_bipush C (-2) dX3_firstOf_28 (by decide) ?_
      exact R_iret C hr dX3_firstOf_30
    · exact fun h => h
  · obtain ⟨v1, s2⟩ := a
    show bX3_firstOf_2 E a0 a1 (fun u0 t => rec (u0, t)) v1 s2 = some (b4, s5) → V κ G (QQ κ G E (some (.int r)) σ') E s2 (false, 0, 0) 2 [(0, .ref (G.1 + a0)), (1, .int a1), (2, .int v1)] []
    unfold bX3_firstOf_2
    refine R_iload_n C 2 rfl dX3_firstOf_2 ?_
    refine R_aload_n C 0 rfl dX3_firstOf_3 ?_
    refine R_geti C fl3_18 rfl ha0 dX3_firstOf_4 ?_
    refine B_icmp_ge C dX3_firstOf_7 ?_ ?_
    · refine R_loc (lv2 := []) [] rfl ?_
      exact R_inr (VX := (fun (o : ((Int32) ⊕ Int32)) (s : Sg) => sm o (fun o => V κ G (QQ κ G E (some (.int r)) σ') E s (false, 0, 0) 28 [] []) (fun rr => some (rr, s) = some (r, σ')))) (i := .inl) K3 (fun h => h)
    · refine R_aload_n C 0 rfl dX3_firstOf_10 ?_
      refine R_dr (fun x7 rx7 cx7 => ?_)
      refine R_getr C fl3_9 rfl ha0 rx7 dX3_firstOf_11 ?_
      refine R_iload_n C 2 rfl dX3_firstOf_14 ?_
      refine R_ck (fun h8 => ?_)
      refine R_iald C cx7 h8 dX3_firstOf_15 ?_
      refine R_iload_n C 1 rfl dX3_firstOf_16 ?_
      refine B_icmp_ne C dX3_firstOf_17 ?_ ?_
      · refine S_iinc (fun v9 => [(2, .int v9), (0, .ref (G.1 + a0)), (1, .int a1)]) 2 C dX3_firstOf_22 rfl (by decide) (by decide) (fun _ => rfl) (fun v9 => ?_)
        refine R_goto C dX3_firstOf_25 ?_
        refine R_loc (lv2 := [(0, .ref (G.1 + a0)), (1, .int a1), (2, .int v9)]) [1, 2, 0] rfl ?_
        exact I6 (v9, s2) b4 s5 K3
      · refine R_iload_n C 2 rfl dX3_firstOf_20 ?_
        exact R_inr (VX := (fun (o : ((Int32) ⊕ Int32)) (s : Sg) => sm o (fun o => V κ G (QQ κ G E (some (.int r)) σ') E s (false, 0, 0) 28 [] []) (fun rr => some (rr, s) = some (r, σ')))) (i := .inr) K3 (R_iret C hr dX3_firstOf_21)
theorem dX3_lastOf_0 : dk cX3_lastOf 0 1 (.aload_n 0) 1 := by unfold dk; decide +kernel
theorem dX3_lastOf_1 : dk cX3_lastOf 1 4 (.getfield 18) 3 := by unfold dk; decide +kernel
theorem dX3_lastOf_4 : dk cX3_lastOf 4 5 (.iconst 1) 1 := by unfold dk; decide +kernel
theorem dX3_lastOf_5 : dk cX3_lastOf 5 6 (.isub) 1 := by unfold dk; decide +kernel
theorem dX3_lastOf_6 : dk cX3_lastOf 6 7 (.istore_n 2) 1 := by unfold dk; decide +kernel
theorem dX3_lastOf_7 : dk cX3_lastOf 7 8 (.iload_n 2) 1 := by unfold dk; decide +kernel
theorem dX3_lastOf_11 : dk cX3_lastOf 11 12 (.aload_n 0) 1 := by unfold dk; decide +kernel
theorem dX3_lastOf_12 : dk cX3_lastOf 12 15 (.getfield 9) 3 := by unfold dk; decide +kernel
theorem dX3_lastOf_15 : dk cX3_lastOf 15 16 (.iload_n 2) 1 := by unfold dk; decide +kernel
theorem dX3_lastOf_16 : dk cX3_lastOf 16 17 (.iaload) 1 := by unfold dk; decide +kernel
theorem dX3_lastOf_17 : dk cX3_lastOf 17 18 (.iload_n 1) 1 := by unfold dk; decide +kernel
theorem dX3_lastOf_23 : dk cX3_lastOf 23 26 (.iinc 2 (-1)) 3 := by unfold dk; decide +kernel
theorem dX3_lastOf_26 : bk cX3_lastOf 26 29 7 (.goto (-19)) (-19) := by unfold bk; decide +kernel
theorem dX3_lastOf_21 : dk cX3_lastOf 21 22 (.iload_n 2) 1 := by unfold dk; decide +kernel
theorem dX3_lastOf_22 : dk cX3_lastOf 22 23 (.ireturn) 1 := by unfold dk; decide +kernel
theorem dX3_lastOf_18 : bk cX3_lastOf 18 21 23 (.if_icmp .ne 5) (5) := by unfold bk; decide +kernel
theorem dX3_lastOf_8 : bk cX3_lastOf 8 11 29 (.ifCond .lt 21) (21) := by unfold bk; decide +kernel
theorem dX3_lastOf_29 : dk cX3_lastOf 29 31 (.bipush (-2)) 2 := by unfold dk; decide +kernel
theorem dX3_lastOf_31 : dk cX3_lastOf 31 32 (.ireturn) 1 := by unfold dk; decide +kernel
def bX3_lastOf_7 (E : En) (a0 : Nat) (a1 : Int32) (rec : Int32 → Sg → Option (((Int32) ⊕ Int32) × Sg)) (v2 : Int32) (s3 : Sg) : Option (((Int32) ⊕ Int32) × Sg) := if v2 < 0 then (some (.inl v2, s3)) else (dr (rf E a0 0) E 100 (fun x8 => ck v2 (ln E x8) (if ¬ (gi s3 x8 v2.toNatClampNeg) = a1 then (lt (v2 + (-1 : Int32)) (fun v10 => rec v10 s3)) else (some (.inr v2, s3)))))
def fX3_lastOf (E : En) (a0 : Nat) (a1 : Int32) (σ : Sg) : Option (Int32 × Sg) := tk (cd E a0) 3 (lt ((gi σ a0 2) - (1 : Int32)) (fun v1 => bd (fx (fun rec a => bX3_lastOf_7 E a0 a1 (fun u0 t => rec (u0, t)) a.1 a.2) FU (v1, σ)) (fun o11 s12 => sm o11 (fun vo11 => some ((-2 : Int32), s12)) (fun rr => some (rr, s12)))))
set_option maxHeartbeats 4000000 in
set_option maxRecDepth 100000 in
theorem kX3_lastOf {l : Launch} {G : Gl} {E : En} {a0 : Nat} {a1 : Int32} {σ σ' : Sg} {r : Int32} : fX3_lastOf E a0 a1 σ = some (r, σ') → CT l yX3_lastOf cX3_lastOf 3 (some .int) ({ frames := 0, cells := 0, slots := 0, locals := 0 } : Room) [.ref (G.1 + a0), .int a1] G E σ (some (.int r)) σ' := by
  intro h
  refine CT_of (lv0 := [(0, .ref (G.1 + a0)), (1, .int a1)]) (by decide) (Nat.le_of_ble_eq_true rfl) rfl (fun κ hl hR hr C => ?_)
  have C : Cx κ G cX3_lastOf RX3 3 := C
  revert h
  unfold fX3_lastOf
  refine R_tk (fun ha0 => ?_)
  refine R_aload_n C 0 rfl dX3_lastOf_0 ?_
  refine R_geti C fl3_18 rfl ha0 dX3_lastOf_1 ?_
  refine R_iconst C (1) dX3_lastOf_4 (by decide) ?_
  refine R_isub C dX3_lastOf_5 ?_
  refine S_istore_n C dX3_lastOf_6 rfl (fun v1 => [(2, .int v1), (0, .ref (G.1 + a0)), (1, .int a1)]) (by decide) (fun _ => rfl) (fun v1 => ?_)
  refine R_loc (lv2 := [(0, .ref (G.1 + a0)), (1, .int a1), (2, .int v1)]) [1, 2, 0] rfl ?_
  refine R_loop (fun (a : (Int32) × Sg) => V κ G (QQ κ G E (some (.int r)) σ') E a.2 (false, 0, 0) 7 [(0, .ref (G.1 + a0)), (1, .int a1), (2, .int a.1)] []) (fun (o : ((Int32) ⊕ Int32)) (s : Sg) => sm o (fun o => V κ G (QQ κ G E (some (.int r)) σ') E s (false, 0, 0) 29 [] []) (fun rr => some (rr, s) = some (r, σ'))) (v1, σ) (fun o11 s12 => ?_) (fun rec I7 a b5 s6 K4 => ?_)
  · rcases o11 with vo11 | ro11
    · refine R_bipush C (-2) dX3_lastOf_29 (by decide) ?_
      exact R_iret C hr dX3_lastOf_31
    · exact fun h => h
  · obtain ⟨v2, s3⟩ := a
    show bX3_lastOf_7 E a0 a1 (fun u0 t => rec (u0, t)) v2 s3 = some (b5, s6) → V κ G (QQ κ G E (some (.int r)) σ') E s3 (false, 0, 0) 7 [(0, .ref (G.1 + a0)), (1, .int a1), (2, .int v2)] []
    unfold bX3_lastOf_7
    refine R_iload_n C 2 rfl dX3_lastOf_7 ?_
    refine B_if_lt C dX3_lastOf_8 ?_ ?_
    · refine R_loc (lv2 := []) [] rfl ?_
      exact R_inr (VX := (fun (o : ((Int32) ⊕ Int32)) (s : Sg) => sm o (fun o => V κ G (QQ κ G E (some (.int r)) σ') E s (false, 0, 0) 29 [] []) (fun rr => some (rr, s) = some (r, σ')))) (i := .inl) K4 (fun h => h)
    · refine R_aload_n C 0 rfl dX3_lastOf_11 ?_
      refine R_dr (fun x8 rx8 cx8 => ?_)
      refine R_getr C fl3_9 rfl ha0 rx8 dX3_lastOf_12 ?_
      refine R_iload_n C 2 rfl dX3_lastOf_15 ?_
      refine R_ck (fun h9 => ?_)
      refine R_iald C cx8 h9 dX3_lastOf_16 ?_
      refine R_iload_n C 1 rfl dX3_lastOf_17 ?_
      refine B_icmp_ne C dX3_lastOf_18 ?_ ?_
      · refine S_iinc (fun v10 => [(2, .int v10), (0, .ref (G.1 + a0)), (1, .int a1)]) 2 C dX3_lastOf_23 rfl (by decide) (by decide) (fun _ => rfl) (fun v10 => ?_)
        refine R_goto C dX3_lastOf_26 ?_
        refine R_loc (lv2 := [(0, .ref (G.1 + a0)), (1, .int a1), (2, .int v10)]) [1, 2, 0] rfl ?_
        exact I7 (v10, s3) b5 s6 K4
      · refine R_iload_n C 2 rfl dX3_lastOf_21 ?_
        exact R_inr (VX := (fun (o : ((Int32) ⊕ Int32)) (s : Sg) => sm o (fun o => V κ G (QQ κ G E (some (.int r)) σ') E s (false, 0, 0) 29 [] []) (fun rr => some (rr, s) = some (r, σ')))) (i := .inr) K4 (R_iret C hr dX3_lastOf_22)
theorem dX3_beginsKey_0 : dk cX3_beginsKey 0 1 (.iload_n 1) 1 := by unfold dk; decide +kernel
theorem dX3_beginsKey_1 : bk cX3_beginsKey 1 4 31 (.ifCond .eq 30) (30) := by unfold bk; decide +kernel
theorem dX3_beginsKey_31 : dk cX3_beginsKey 31 32 (.iconst 1) 1 := by unfold dk; decide +kernel
theorem dX3_beginsKey_32 : bk cX3_beginsKey 32 35 36 (.goto 4) (4) := by unfold bk; decide +kernel
theorem dX3_beginsKey_4 : dk cX3_beginsKey 4 5 (.aload_n 0) 1 := by unfold dk; decide +kernel
theorem dX3_beginsKey_5 : dk cX3_beginsKey 5 8 (.getfield 9) 3 := by unfold dk; decide +kernel
theorem dX3_beginsKey_8 : dk cX3_beginsKey 8 9 (.aload_n 0) 1 := by unfold dk; decide +kernel
theorem dX3_beginsKey_9 : dk cX3_beginsKey 9 12 (.getfield 15) 3 := by unfold dk; decide +kernel
theorem dX3_beginsKey_12 : dk cX3_beginsKey 12 13 (.iload_n 1) 1 := by unfold dk; decide +kernel
theorem dX3_beginsKey_13 : dk cX3_beginsKey 13 14 (.iaload) 1 := by unfold dk; decide +kernel
theorem dX3_beginsKey_14 : dk cX3_beginsKey 14 15 (.iaload) 1 := by unfold dk; decide +kernel
theorem dX3_beginsKey_15 : dk cX3_beginsKey 15 16 (.aload_n 0) 1 := by unfold dk; decide +kernel
theorem dX3_beginsKey_16 : dk cX3_beginsKey 16 19 (.getfield 9) 3 := by unfold dk; decide +kernel
theorem dX3_beginsKey_19 : dk cX3_beginsKey 19 20 (.aload_n 0) 1 := by unfold dk; decide +kernel
theorem dX3_beginsKey_20 : dk cX3_beginsKey 20 23 (.getfield 15) 3 := by unfold dk; decide +kernel
theorem dX3_beginsKey_23 : dk cX3_beginsKey 23 24 (.iload_n 1) 1 := by unfold dk; decide +kernel
theorem dX3_beginsKey_24 : dk cX3_beginsKey 24 25 (.iconst 1) 1 := by unfold dk; decide +kernel
theorem dX3_beginsKey_25 : dk cX3_beginsKey 25 26 (.isub) 1 := by unfold dk; decide +kernel
theorem dX3_beginsKey_26 : dk cX3_beginsKey 26 27 (.iaload) 1 := by unfold dk; decide +kernel
theorem dX3_beginsKey_27 : dk cX3_beginsKey 27 28 (.iaload) 1 := by unfold dk; decide +kernel
theorem dX3_beginsKey_35 : dk cX3_beginsKey 35 36 (.iconst 0) 1 := by unfold dk; decide +kernel
theorem dX3_beginsKey_28 : bk cX3_beginsKey 28 31 35 (.if_icmp .eq 7) (7) := by unfold bk; decide +kernel
theorem dX3_beginsKey_36 : dk cX3_beginsKey 36 37 (.ireturn) 1 := by unfold dk; decide +kernel
def fX3_beginsKey (E : En) (a0 : Nat) (a1 : Int32) (σ : Sg) : Option (Int32 × Sg) := tk (cd E a0) 3 (bd (if a1 = 0 then (some ((1 : Int32), σ)) else (dr (rf E a0 0) E 100 (fun x3 => dr (rf E a0 1) E 100 (fun x4 => ck a1 (ln E x4) (ck (gi σ x4 a1.toNatClampNeg) (ln E x3) (ck (a1 - (1 : Int32)) (ln E x4) (ck (gi σ x4 (a1 - (1 : Int32)).toNatClampNeg) (ln E x3) (if (gi σ x3 (gi σ x4 a1.toNatClampNeg).toNatClampNeg) = (gi σ x3 (gi σ x4 (a1 - (1 : Int32)).toNatClampNeg).toNatClampNeg) then (some ((0 : Int32), σ)) else (some ((1 : Int32), σ)))))))))) (fun w1 s2 => kb w1 (some (w1, s2))))
set_option maxHeartbeats 4000000 in
set_option maxRecDepth 100000 in
theorem kX3_beginsKey {l : Launch} {G : Gl} {E : En} {a0 : Nat} {a1 : Int32} {σ σ' : Sg} {r : Int32} : fX3_beginsKey E a0 a1 σ = some (r, σ') → CT l yX3_beginsKey cX3_beginsKey 2 (some .boolean) ({ frames := 0, cells := 0, slots := 0, locals := 0 } : Room) [.ref (G.1 + a0), .int a1] G E σ (some (.int r)) σ' := by
  intro h
  refine CT_of (lv0 := [(0, .ref (G.1 + a0)), (1, .int a1)]) (by decide) (Nat.le_of_ble_eq_true rfl) rfl (fun κ hl hR hr C => ?_)
  have C : Cx κ G cX3_beginsKey RX3 2 := C
  revert h
  unfold fX3_beginsKey
  refine R_tk (fun ha0 => ?_)
  refine R_iload_n C 1 rfl dX3_beginsKey_0 ?_
  refine R_bdK (fun (w : Int32) (s : Sg) => V κ G (QQ κ G E (some (.int r)) σ') E s (false, 0, 0) 36 [] [.int w]) (fun w1 s2 => ?_) (fun w1 s2 Kw1 => ?_)
  · refine R_kb (fun h9 => ?_)
    exact R_zret C hr h9 dX3_beginsKey_36
  · refine B_if_eq C dX3_beginsKey_1 ?_ ?_
    · refine R_iconst C (1) dX3_beginsKey_31 (by decide) ?_
      refine R_goto C dX3_beginsKey_32 ?_
      refine R_loc (lv2 := []) [] rfl ?_
      exact R_end (fun (w : Int32) (s : Sg) => V κ G (QQ κ G E (some (.int r)) σ') E s (false, 0, 0) 36 [] [.int w]) Kw1
    · refine R_aload_n C 0 rfl dX3_beginsKey_4 ?_
      refine R_dr (fun x3 rx3 cx3 => ?_)
      refine R_getr C fl3_9 rfl ha0 rx3 dX3_beginsKey_5 ?_
      refine R_aload_n C 0 rfl dX3_beginsKey_8 ?_
      refine R_dr (fun x4 rx4 cx4 => ?_)
      refine R_getr C fl3_15 rfl ha0 rx4 dX3_beginsKey_9 ?_
      refine R_iload_n C 1 rfl dX3_beginsKey_12 ?_
      refine R_ck (fun h5 => ?_)
      refine R_iald C cx4 h5 dX3_beginsKey_13 ?_
      refine R_ck (fun h6 => ?_)
      refine R_iald C cx3 h6 dX3_beginsKey_14 ?_
      refine R_aload_n C 0 rfl dX3_beginsKey_15 ?_
      refine R_getr C fl3_9 rfl ha0 rx3 dX3_beginsKey_16 ?_
      refine R_aload_n C 0 rfl dX3_beginsKey_19 ?_
      refine R_getr C fl3_15 rfl ha0 rx4 dX3_beginsKey_20 ?_
      refine R_iload_n C 1 rfl dX3_beginsKey_23 ?_
      refine R_iconst C (1) dX3_beginsKey_24 (by decide) ?_
      refine R_isub C dX3_beginsKey_25 ?_
      refine R_ck (fun h7 => ?_)
      refine R_iald C cx4 h7 dX3_beginsKey_26 ?_
      refine R_ck (fun h8 => ?_)
      refine R_iald C cx3 h8 dX3_beginsKey_27 ?_
      refine B_icmp_eq C dX3_beginsKey_28 ?_ ?_
      · refine R_iconst C (0) dX3_beginsKey_35 (by decide) ?_
        refine R_loc (lv2 := []) [] rfl ?_
        exact R_end (fun (w : Int32) (s : Sg) => V κ G (QQ κ G E (some (.int r)) σ') E s (false, 0, 0) 36 [] [.int w]) Kw1
      · refine R_iconst C (1) dX3_beginsKey_31 (by decide) ?_
        refine R_goto C dX3_beginsKey_32 ?_
        refine R_loc (lv2 := []) [] rfl ?_
        exact R_end (fun (w : Int32) (s : Sg) => V κ G (QQ κ G E (some (.int r)) σ') E s (false, 0, 0) 36 [] [.int w]) Kw1
theorem dX3_unlikeKeys_0 : dk cX3_unlikeKeys 0 1 (.iconst 0) 1 := by unfold dk; decide +kernel
theorem dX3_unlikeKeys_1 : dk cX3_unlikeKeys 1 2 (.istore_n 1) 1 := by unfold dk; decide +kernel
theorem dX3_unlikeKeys_2 : dk cX3_unlikeKeys 2 3 (.iconst 0) 1 := by unfold dk; decide +kernel
theorem dX3_unlikeKeys_3 : dk cX3_unlikeKeys 3 4 (.istore_n 2) 1 := by unfold dk; decide +kernel
theorem dX3_unlikeKeys_4 : dk cX3_unlikeKeys 4 5 (.iload_n 2) 1 := by unfold dk; decide +kernel
theorem dX3_unlikeKeys_5 : dk cX3_unlikeKeys 5 6 (.aload_n 0) 1 := by unfold dk; decide +kernel
theorem dX3_unlikeKeys_6 : dk cX3_unlikeKeys 6 9 (.getfield 18) 3 := by unfold dk; decide +kernel
theorem dX3_unlikeKeys_12 : dk cX3_unlikeKeys 12 13 (.aload_n 0) 1 := by unfold dk; decide +kernel
theorem dX3_unlikeKeys_13 : dk cX3_unlikeKeys 13 14 (.iload_n 2) 1 := by unfold dk; decide +kernel
theorem dX3_unlikeKeys_14 : dk cX3_unlikeKeys 14 17 (.invokevirtual 31) 3 := by unfold dk; decide +kernel
theorem dX3_unlikeKeys_17 : bk cX3_unlikeKeys 17 20 23 (.ifCond .eq 6) (6) := by unfold bk; decide +kernel
theorem dX3_unlikeKeys_20 : dk cX3_unlikeKeys 20 23 (.iinc 1 1) 3 := by unfold dk; decide +kernel
theorem dX3_unlikeKeys_23 : dk cX3_unlikeKeys 23 26 (.iinc 2 1) 3 := by unfold dk; decide +kernel
theorem dX3_unlikeKeys_26 : bk cX3_unlikeKeys 26 29 4 (.goto (-22)) (-22) := by unfold bk; decide +kernel
theorem dX3_unlikeKeys_9 : bk cX3_unlikeKeys 9 12 29 (.if_icmp .ge 20) (20) := by unfold bk; decide +kernel
theorem dX3_unlikeKeys_29 : dk cX3_unlikeKeys 29 30 (.iload_n 1) 1 := by unfold dk; decide +kernel
theorem dX3_unlikeKeys_30 : dk cX3_unlikeKeys 30 31 (.ireturn) 1 := by unfold dk; decide +kernel
def bX3_unlikeKeys_4 (E : En) (a0 : Nat) (rec : Int32 → Int32 → Sg → Option ((Int32 × Int32) × Sg)) (v1 : Int32) (v2 : Int32) (s3 : Sg) : Option ((Int32 × Int32) × Sg) := if (gi s3 a0 2) ≤ v2 then (some ((v1, v2), s3)) else (bd (fX3_beginsKey E a0 v2 s3) (fun r10 s8 => bd (if r10 = 0 then (some (v1, s8)) else (lt (v1 + (1 : Int32)) (fun v13 => some (v13, s8)))) (fun w11 s12 => lt (v2 + (1 : Int32)) (fun v14 => rec w11 v14 s12))))
def fX3_unlikeKeys (E : En) (a0 : Nat) (σ : Sg) : Option (Int32 × Sg) := tk (cd E a0) 3 (bd (fx (fun rec a => bX3_unlikeKeys_4 E a0 (fun u0 u1 t => rec ((u0, u1), t)) a.1.1 a.1.2 a.2) FU (((0 : Int32), (0 : Int32)), σ)) (fun o15 s16 => some (o15.1, s16)))
set_option maxHeartbeats 4000000 in
set_option maxRecDepth 100000 in
theorem kX3_unlikeKeys {l : Launch} {G : Gl} {E : En} {a0 : Nat} {σ σ' : Sg} {r : Int32} : fX3_unlikeKeys E a0 σ = some (r, σ') → CT l yX3_unlikeKeys cX3_unlikeKeys 3 (some .int) ({ frames := 1, cells := 0, slots := 0, locals := 21 } : Room) [.ref (G.1 + a0)] G E σ (some (.int r)) σ' := by
  intro h
  refine CT_of (lv0 := [(0, .ref (G.1 + a0))]) (by decide) (Nat.le_of_ble_eq_true rfl) rfl (fun κ hl hR hr C => ?_)
  have C : Cx κ G cX3_unlikeKeys RX3 3 := C
  revert h
  unfold fX3_unlikeKeys
  refine R_tk (fun ha0 => ?_)
  refine R_iconst C (0) dX3_unlikeKeys_0 (by decide) ?_
  refine R_istore_n (lv2 := [(1, .int (0 : Int32)), (0, .ref (G.1 + a0))]) C dX3_unlikeKeys_1 rfl (by decide) rfl ?_
  refine R_iconst C (0) dX3_unlikeKeys_2 (by decide) ?_
  refine R_istore_n (lv2 := [(2, .int (0 : Int32)), (1, .int (0 : Int32)), (0, .ref (G.1 + a0))]) C dX3_unlikeKeys_3 rfl (by decide) rfl ?_
  refine R_loc (lv2 := [(0, .ref (G.1 + a0)), (1, .int (0 : Int32)), (2, .int (0 : Int32))]) [2, 1, 0] rfl ?_
  refine R_loop (fun (a : (Int32 × Int32) × Sg) => V κ G (QQ κ G E (some (.int r)) σ') E a.2 (false, 0, 0) 4 [(0, .ref (G.1 + a0)), (1, .int a.1.1), (2, .int a.1.2)] []) (fun (o : (Int32 × Int32)) (s : Sg) => V κ G (QQ κ G E (some (.int r)) σ') E s (false, 0, 0) 29 [(1, .int o.1)] []) (((0 : Int32), (0 : Int32)), σ) (fun o15 s16 => ?_) (fun rec I7 a b5 s6 K4 => ?_)
  · refine R_iload_n C 0 rfl dX3_unlikeKeys_29 ?_
    exact R_iret C hr dX3_unlikeKeys_30
  · obtain ⟨⟨v1, v2⟩, s3⟩ := a
    show bX3_unlikeKeys_4 E a0 (fun u0 u1 t => rec ((u0, u1), t)) v1 v2 s3 = some (b5, s6) → V κ G (QQ κ G E (some (.int r)) σ') E s3 (false, 0, 0) 4 [(0, .ref (G.1 + a0)), (1, .int v1), (2, .int v2)] []
    unfold bX3_unlikeKeys_4
    refine R_iload_n C 2 rfl dX3_unlikeKeys_4 ?_
    refine R_aload_n C 0 rfl dX3_unlikeKeys_5 ?_
    refine R_geti C fl3_18 rfl ha0 dX3_unlikeKeys_6 ?_
    refine B_icmp_ge C dX3_unlikeKeys_9 ?_ ?_
    · refine R_loc (lv2 := [(1, .int v1)]) [1] rfl ?_
      exact R_end (fun (o : (Int32 × Int32)) (s : Sg) => V κ G (QQ κ G E (some (.int r)) σ') E s (false, 0, 0) 29 [(1, .int o.1)] []) K4
    · refine R_aload_n C 0 rfl dX3_unlikeKeys_12 ?_
      refine R_iload_n C 2 rfl dX3_unlikeKeys_13 ?_
      refine R_bd (fun r10 s8 q9 => ?_)
      refine R_callVi [.int v2] [] C ml3_31 (kX3_beginsKey q9) (by rw [hR]; exact ⟨rfl, rfl, Nat.le_of_ble_eq_true rfl, Nat.le_of_ble_eq_true rfl, Nat.zero_le _, Nat.zero_le _⟩) ha0 rfl rfl (Nat.le_of_ble_eq_true rfl) dX3_unlikeKeys_14 ?_
      refine R_bdK (fun (w : Int32) (s : Sg) => V κ G (QQ κ G E (some (.int r)) σ') E s (false, 0, 0) 23 [(0, .ref (G.1 + a0)), (2, .int v2), (1, .int w)] []) (fun w11 s12 => ?_) (fun w11 s12 Kw11 => ?_)
      · refine S_iinc (fun v14 => [(2, .int v14), (0, .ref (G.1 + a0)), (1, .int w11)]) 1 C dX3_unlikeKeys_23 rfl (by decide) (by decide) (fun _ => rfl) (fun v14 => ?_)
        refine R_goto C dX3_unlikeKeys_26 ?_
        refine R_loc (lv2 := [(0, .ref (G.1 + a0)), (1, .int w11), (2, .int v14)]) [1, 2, 0] rfl ?_
        exact I7 ((w11, v14), s12) b5 s6 K4
      · refine B_if_eq C dX3_unlikeKeys_17 ?_ ?_
        · refine R_loc (lv2 := [(0, .ref (G.1 + a0)), (2, .int v2), (1, .int v1)]) [0, 2, 1] rfl ?_
          exact R_end (fun (w : Int32) (s : Sg) => V κ G (QQ κ G E (some (.int r)) σ') E s (false, 0, 0) 23 [(0, .ref (G.1 + a0)), (2, .int v2), (1, .int w)] []) Kw11
        · refine S_iinc (fun v13 => [(1, .int v13), (0, .ref (G.1 + a0)), (2, .int v2)]) 1 C dX3_unlikeKeys_20 rfl (by decide) (by decide) (fun _ => rfl) (fun v13 => ?_)
          refine R_loc (lv2 := [(0, .ref (G.1 + a0)), (2, .int v2), (1, .int v13)]) [1, 2, 0] rfl ?_
          exact R_end (fun (w : Int32) (s : Sg) => V κ G (QQ κ G E (some (.int r)) σ') E s (false, 0, 0) 23 [(0, .ref (G.1 + a0)), (2, .int v2), (1, .int w)] []) Kw11
theorem dX3_keyMostOften_0 : dk cX3_keyMostOften 0 1 (.iconst (-1)) 1 := by unfold dk; decide +kernel
theorem dX3_keyMostOften_1 : dk cX3_keyMostOften 1 2 (.istore_n 1) 1 := by unfold dk; decide +kernel
theorem dX3_keyMostOften_2 : dk cX3_keyMostOften 2 3 (.iconst 0) 1 := by unfold dk; decide +kernel
theorem dX3_keyMostOften_3 : dk cX3_keyMostOften 3 4 (.istore_n 2) 1 := by unfold dk; decide +kernel
theorem dX3_keyMostOften_4 : dk cX3_keyMostOften 4 5 (.iconst 0) 1 := by unfold dk; decide +kernel
theorem dX3_keyMostOften_5 : dk cX3_keyMostOften 5 6 (.istore_n 3) 1 := by unfold dk; decide +kernel
theorem dX3_keyMostOften_6 : dk cX3_keyMostOften 6 7 (.iconst 0) 1 := by unfold dk; decide +kernel
theorem dX3_keyMostOften_7 : dk cX3_keyMostOften 7 9 (.istore 4) 2 := by unfold dk; decide +kernel
theorem dX3_keyMostOften_9 : dk cX3_keyMostOften 9 11 (.iload 4) 2 := by unfold dk; decide +kernel
theorem dX3_keyMostOften_11 : dk cX3_keyMostOften 11 12 (.aload_n 0) 1 := by unfold dk; decide +kernel
theorem dX3_keyMostOften_12 : dk cX3_keyMostOften 12 15 (.getfield 18) 3 := by unfold dk; decide +kernel
theorem dX3_keyMostOften_18 : dk cX3_keyMostOften 18 19 (.aload_n 0) 1 := by unfold dk; decide +kernel
theorem dX3_keyMostOften_19 : dk cX3_keyMostOften 19 21 (.iload 4) 2 := by unfold dk; decide +kernel
theorem dX3_keyMostOften_21 : dk cX3_keyMostOften 21 24 (.invokevirtual 31) 3 := by unfold dk; decide +kernel
theorem dX3_keyMostOften_24 : bk cX3_keyMostOften 24 27 30 (.ifCond .eq 6) (6) := by unfold bk; decide +kernel
theorem dX3_keyMostOften_27 : dk cX3_keyMostOften 27 29 (.iload 4) 2 := by unfold dk; decide +kernel
theorem dX3_keyMostOften_29 : dk cX3_keyMostOften 29 30 (.istore_n 3) 1 := by unfold dk; decide +kernel
theorem dX3_keyMostOften_30 : dk cX3_keyMostOften 30 32 (.iload 4) 2 := by unfold dk; decide +kernel
theorem dX3_keyMostOften_32 : dk cX3_keyMostOften 32 33 (.iload_n 3) 1 := by unfold dk; decide +kernel
theorem dX3_keyMostOften_33 : dk cX3_keyMostOften 33 34 (.isub) 1 := by unfold dk; decide +kernel
theorem dX3_keyMostOften_34 : dk cX3_keyMostOften 34 35 (.iconst 1) 1 := by unfold dk; decide +kernel
theorem dX3_keyMostOften_35 : dk cX3_keyMostOften 35 36 (.iadd) 1 := by unfold dk; decide +kernel
theorem dX3_keyMostOften_36 : dk cX3_keyMostOften 36 38 (.istore 5) 2 := by unfold dk; decide +kernel
theorem dX3_keyMostOften_38 : dk cX3_keyMostOften 38 39 (.aload_n 0) 1 := by unfold dk; decide +kernel
theorem dX3_keyMostOften_39 : dk cX3_keyMostOften 39 42 (.getfield 15) 3 := by unfold dk; decide +kernel
theorem dX3_keyMostOften_42 : dk cX3_keyMostOften 42 43 (.iload_n 3) 1 := by unfold dk; decide +kernel
theorem dX3_keyMostOften_43 : dk cX3_keyMostOften 43 44 (.iaload) 1 := by unfold dk; decide +kernel
theorem dX3_keyMostOften_44 : dk cX3_keyMostOften 44 46 (.istore 6) 2 := by unfold dk; decide +kernel
theorem dX3_keyMostOften_46 : dk cX3_keyMostOften 46 48 (.iload 5) 2 := by unfold dk; decide +kernel
theorem dX3_keyMostOften_48 : dk cX3_keyMostOften 48 49 (.iload_n 2) 1 := by unfold dk; decide +kernel
theorem dX3_keyMostOften_49 : bk cX3_keyMostOften 49 52 64 (.if_icmp .gt 15) (15) := by unfold bk; decide +kernel
theorem dX3_keyMostOften_64 : dk cX3_keyMostOften 64 66 (.iload 6) 2 := by unfold dk; decide +kernel
theorem dX3_keyMostOften_66 : dk cX3_keyMostOften 66 67 (.istore_n 1) 1 := by unfold dk; decide +kernel
theorem dX3_keyMostOften_67 : dk cX3_keyMostOften 67 69 (.iload 5) 2 := by unfold dk; decide +kernel
theorem dX3_keyMostOften_69 : dk cX3_keyMostOften 69 70 (.istore_n 2) 1 := by unfold dk; decide +kernel
theorem dX3_keyMostOften_52 : dk cX3_keyMostOften 52 54 (.iload 5) 2 := by unfold dk; decide +kernel
theorem dX3_keyMostOften_54 : dk cX3_keyMostOften 54 55 (.iload_n 2) 1 := by unfold dk; decide +kernel
theorem dX3_keyMostOften_58 : dk cX3_keyMostOften 58 60 (.iload 6) 2 := by unfold dk; decide +kernel
theorem dX3_keyMostOften_60 : dk cX3_keyMostOften 60 61 (.iload_n 1) 1 := by unfold dk; decide +kernel
theorem dX3_keyMostOften_61 : bk cX3_keyMostOften 61 64 70 (.if_icmp .ge 9) (9) := by unfold bk; decide +kernel
theorem dX3_keyMostOften_55 : bk cX3_keyMostOften 55 58 70 (.if_icmp .ne 15) (15) := by unfold bk; decide +kernel
theorem dX3_keyMostOften_70 : dk cX3_keyMostOften 70 73 (.iinc 4 1) 3 := by unfold dk; decide +kernel
theorem dX3_keyMostOften_73 : bk cX3_keyMostOften 73 76 9 (.goto (-64)) (-64) := by unfold bk; decide +kernel
theorem dX3_keyMostOften_15 : bk cX3_keyMostOften 15 18 76 (.if_icmp .ge 61) (61) := by unfold bk; decide +kernel
theorem dX3_keyMostOften_76 : dk cX3_keyMostOften 76 77 (.iload_n 1) 1 := by unfold dk; decide +kernel
theorem dX3_keyMostOften_77 : dk cX3_keyMostOften 77 78 (.iconst (-1)) 1 := by unfold dk; decide +kernel
theorem dX3_keyMostOften_78 : bk cX3_keyMostOften 78 81 85 (.if_icmp .ne 7) (7) := by unfold bk; decide +kernel
theorem dX3_keyMostOften_85 : dk cX3_keyMostOften 85 86 (.aload_n 0) 1 := by unfold dk; decide +kernel
theorem dX3_keyMostOften_86 : dk cX3_keyMostOften 86 89 (.getfield 9) 3 := by unfold dk; decide +kernel
theorem dX3_keyMostOften_89 : dk cX3_keyMostOften 89 90 (.iload_n 1) 1 := by unfold dk; decide +kernel
theorem dX3_keyMostOften_90 : dk cX3_keyMostOften 90 91 (.iaload) 1 := by unfold dk; decide +kernel
theorem dX3_keyMostOften_81 : dk cX3_keyMostOften 81 82 (.iconst (-1)) 1 := by unfold dk; decide +kernel
theorem dX3_keyMostOften_82 : bk cX3_keyMostOften 82 85 91 (.goto 9) (9) := by unfold bk; decide +kernel
theorem dX3_keyMostOften_91 : dk cX3_keyMostOften 91 92 (.ireturn) 1 := by unfold dk; decide +kernel
def bX3_keyMostOften_9 (E : En) (a0 : Nat) (rec : Int32 → Int32 → Int32 → Int32 → Sg → Option ((Int32 × Int32 × Int32 × Int32) × Sg)) (v1 : Int32) (v2 : Int32) (v3 : Int32) (v4 : Int32) (s5 : Sg) : Option ((Int32 × Int32 × Int32 × Int32) × Sg) := if (gi s5 a0 2) ≤ v4 then (some ((v1, v2, v3, v4), s5)) else (bd (fX3_beginsKey E a0 v4 s5) (fun r12 s10 => bd (if r12 = 0 then (some (v3, s10)) else (some (v4, s10))) (fun w13 s14 => lt ((v4 - w13) + (1 : Int32)) (fun v15 => dr (rf E a0 1) E 100 (fun x16 => ck w13 (ln E x16) (lt (gi s14 x16 w13.toNatClampNeg) (fun v18 => bd (if v2 < v15 then (some ((v18, v15), s14)) else (if ¬ v15 = v2 then (some ((v1, v2), s14)) else (if v1 ≤ v18 then (some ((v1, v2), s14)) else (some ((v18, v15), s14))))) (fun w19 s20 => lt (v4 + (1 : Int32)) (fun v21 => rec w19.1 w19.2 w13 v21 s20)))))))))
def fX3_keyMostOften (E : En) (a0 : Nat) (σ : Sg) : Option (Int32 × Sg) := tk (cd E a0) 3 (bd (fx (fun rec a => bX3_keyMostOften_9 E a0 (fun u0 u1 u2 u3 t => rec ((u0, u1, u2, u3), t)) a.1.1 a.1.2.1 a.1.2.2.1 a.1.2.2.2 a.2) FU (((-1 : Int32), (0 : Int32), (0 : Int32), (0 : Int32)), σ)) (fun o22 s23 => bd (if ¬ o22.1 = (-1 : Int32) then (dr (rf E a0 0) E 100 (fun x26 => ck o22.1 (ln E x26) (some ((gi s23 x26 o22.1.toNatClampNeg), s23)))) else (some ((-1 : Int32), s23))) (fun w24 s25 => some (w24, s25))))
set_option maxHeartbeats 4000000 in
set_option maxRecDepth 100000 in
theorem kX3_keyMostOften {l : Launch} {G : Gl} {E : En} {a0 : Nat} {σ σ' : Sg} {r : Int32} : fX3_keyMostOften E a0 σ = some (r, σ') → CT l yX3_keyMostOften cX3_keyMostOften 7 (some .int) ({ frames := 1, cells := 0, slots := 0, locals := 21 } : Room) [.ref (G.1 + a0)] G E σ (some (.int r)) σ' := by
  intro h
  refine CT_of (lv0 := [(0, .ref (G.1 + a0))]) (by decide) (Nat.le_of_ble_eq_true rfl) rfl (fun κ hl hR hr C => ?_)
  have C : Cx κ G cX3_keyMostOften RX3 7 := C
  revert h
  unfold fX3_keyMostOften
  refine R_tk (fun ha0 => ?_)
  refine R_iconst C (-1) dX3_keyMostOften_0 (by decide) ?_
  refine R_istore_n (lv2 := [(1, .int (-1 : Int32)), (0, .ref (G.1 + a0))]) C dX3_keyMostOften_1 rfl (by decide) rfl ?_
  refine R_iconst C (0) dX3_keyMostOften_2 (by decide) ?_
  refine R_istore_n (lv2 := [(2, .int (0 : Int32)), (1, .int (-1 : Int32)), (0, .ref (G.1 + a0))]) C dX3_keyMostOften_3 rfl (by decide) rfl ?_
  refine R_iconst C (0) dX3_keyMostOften_4 (by decide) ?_
  refine R_istore_n (lv2 := [(3, .int (0 : Int32)), (2, .int (0 : Int32)), (1, .int (-1 : Int32)), (0, .ref (G.1 + a0))]) C dX3_keyMostOften_5 rfl (by decide) rfl ?_
  refine R_iconst C (0) dX3_keyMostOften_6 (by decide) ?_
  refine R_istore (lv2 := [(4, .int (0 : Int32)), (3, .int (0 : Int32)), (2, .int (0 : Int32)), (1, .int (-1 : Int32)), (0, .ref (G.1 + a0))]) C dX3_keyMostOften_7 (by decide) rfl ?_
  refine R_loc (lv2 := [(0, .ref (G.1 + a0)), (1, .int (-1 : Int32)), (2, .int (0 : Int32)), (3, .int (0 : Int32)), (4, .int (0 : Int32))]) [4, 3, 2, 1, 0] rfl ?_
  refine R_loop (fun (a : (Int32 × Int32 × Int32 × Int32) × Sg) => V κ G (QQ κ G E (some (.int r)) σ') E a.2 (false, 0, 0) 9 [(0, .ref (G.1 + a0)), (1, .int a.1.1), (2, .int a.1.2.1), (3, .int a.1.2.2.1), (4, .int a.1.2.2.2)] []) (fun (o : (Int32 × Int32 × Int32 × Int32)) (s : Sg) => V κ G (QQ κ G E (some (.int r)) σ') E s (false, 0, 0) 76 [(0, .ref (G.1 + a0)), (1, .int o.1)] []) (((-1 : Int32), (0 : Int32), (0 : Int32), (0 : Int32)), σ) (fun o22 s23 => ?_) (fun rec I9 a b7 s8 K6 => ?_)
  · refine R_iload_n C 1 rfl dX3_keyMostOften_76 ?_
    refine R_iconst C (-1) dX3_keyMostOften_77 (by decide) ?_
    refine R_bdK (fun (w : Int32) (s : Sg) => V κ G (QQ κ G E (some (.int r)) σ') E s (false, 0, 0) 91 [] [.int w]) (fun w24 s25 => ?_) (fun w24 s25 Kw24 => ?_)
    · exact R_iret C hr dX3_keyMostOften_91
    · refine B_icmp_ne C dX3_keyMostOften_78 ?_ ?_
      · refine R_aload_n C 0 rfl dX3_keyMostOften_85 ?_
        refine R_dr (fun x26 rx26 cx26 => ?_)
        refine R_getr C fl3_9 rfl ha0 rx26 dX3_keyMostOften_86 ?_
        refine R_iload_n C 1 rfl dX3_keyMostOften_89 ?_
        refine R_ck (fun h27 => ?_)
        refine R_iald C cx26 h27 dX3_keyMostOften_90 ?_
        refine R_loc (lv2 := []) [] rfl ?_
        exact R_end (fun (w : Int32) (s : Sg) => V κ G (QQ κ G E (some (.int r)) σ') E s (false, 0, 0) 91 [] [.int w]) Kw24
      · refine R_iconst C (-1) dX3_keyMostOften_81 (by decide) ?_
        refine R_goto C dX3_keyMostOften_82 ?_
        refine R_loc (lv2 := []) [] rfl ?_
        exact R_end (fun (w : Int32) (s : Sg) => V κ G (QQ κ G E (some (.int r)) σ') E s (false, 0, 0) 91 [] [.int w]) Kw24
  · obtain ⟨⟨v1, v2, v3, v4⟩, s5⟩ := a
    show bX3_keyMostOften_9 E a0 (fun u0 u1 u2 u3 t => rec ((u0, u1, u2, u3), t)) v1 v2 v3 v4 s5 = some (b7, s8) → V κ G (QQ κ G E (some (.int r)) σ') E s5 (false, 0, 0) 9 [(0, .ref (G.1 + a0)), (1, .int v1), (2, .int v2), (3, .int v3), (4, .int v4)] []
    unfold bX3_keyMostOften_9
    refine R_iload C 4 rfl dX3_keyMostOften_9 ?_
    refine R_aload_n C 0 rfl dX3_keyMostOften_11 ?_
    refine R_geti C fl3_18 rfl ha0 dX3_keyMostOften_12 ?_
    refine B_icmp_ge C dX3_keyMostOften_15 ?_ ?_
    · refine R_loc (lv2 := [(0, .ref (G.1 + a0)), (1, .int v1)]) [0, 1] rfl ?_
      exact R_end (fun (o : (Int32 × Int32 × Int32 × Int32)) (s : Sg) => V κ G (QQ κ G E (some (.int r)) σ') E s (false, 0, 0) 76 [(0, .ref (G.1 + a0)), (1, .int o.1)] []) K6
    · refine R_aload_n C 0 rfl dX3_keyMostOften_18 ?_
      refine R_iload C 4 rfl dX3_keyMostOften_19 ?_
      refine R_bd (fun r12 s10 q11 => ?_)
      refine R_callVi [.int v4] [] C ml3_31 (kX3_beginsKey q11) (by rw [hR]; exact ⟨rfl, rfl, Nat.le_of_ble_eq_true rfl, Nat.le_of_ble_eq_true rfl, Nat.zero_le _, Nat.zero_le _⟩) ha0 rfl rfl (Nat.le_of_ble_eq_true rfl) dX3_keyMostOften_21 ?_
      refine R_bdK (fun (w : Int32) (s : Sg) => V κ G (QQ κ G E (some (.int r)) σ') E s (false, 0, 0) 30 [(0, .ref (G.1 + a0)), (1, .int v1), (2, .int v2), (4, .int v4), (3, .int w)] []) (fun w13 s14 => ?_) (fun w13 s14 Kw13 => ?_)
      · refine R_iload C 3 rfl dX3_keyMostOften_30 ?_
        refine R_iload_n C 4 rfl dX3_keyMostOften_32 ?_
        refine R_isub C dX3_keyMostOften_33 ?_
        refine R_iconst C (1) dX3_keyMostOften_34 (by decide) ?_
        refine R_iadd C dX3_keyMostOften_35 ?_
        refine S_istore C dX3_keyMostOften_36 (fun v15 => [(5, .int v15), (0, .ref (G.1 + a0)), (1, .int v1), (2, .int v2), (4, .int v4), (3, .int w13)]) (by decide) (fun _ => rfl) (fun v15 => ?_)
        refine R_aload_n C 1 rfl dX3_keyMostOften_38 ?_
        refine R_dr (fun x16 rx16 cx16 => ?_)
        refine R_getr C fl3_15 rfl ha0 rx16 dX3_keyMostOften_39 ?_
        refine R_iload_n C 5 rfl dX3_keyMostOften_42 ?_
        refine R_ck (fun h17 => ?_)
        refine R_iald C cx16 h17 dX3_keyMostOften_43 ?_
        refine S_istore C dX3_keyMostOften_44 (fun v18 => [(6, .int v18), (5, .int v15), (0, .ref (G.1 + a0)), (1, .int v1), (2, .int v2), (4, .int v4), (3, .int w13)]) (by decide) (fun _ => rfl) (fun v18 => ?_)
        refine R_iload C 1 rfl dX3_keyMostOften_46 ?_
        refine R_iload_n C 4 rfl dX3_keyMostOften_48 ?_
        refine R_bdK (fun (w : Int32 × Int32) (s : Sg) => V κ G (QQ κ G E (some (.int r)) σ') E s (false, 0, 0) 70 [(0, .ref (G.1 + a0)), (4, .int v4), (3, .int w13), (1, .int w.1), (2, .int w.2)] []) (fun w19 s20 => ?_) (fun w19 s20 Kw19 => ?_)
        · refine S_iinc (fun v21 => [(4, .int v21), (0, .ref (G.1 + a0)), (3, .int w13), (1, .int w19.1), (2, .int w19.2)]) 1 C dX3_keyMostOften_70 rfl (by decide) (by decide) (fun _ => rfl) (fun v21 => ?_)
          refine R_goto C dX3_keyMostOften_73 ?_
          refine R_loc (lv2 := [(0, .ref (G.1 + a0)), (1, .int w19.1), (2, .int w19.2), (3, .int w13), (4, .int v21)]) [1, 3, 4, 2, 0] rfl ?_
          exact I9 ((w19.1, w19.2, w13, v21), s20) b7 s8 K6
        · refine B_icmp_gt C dX3_keyMostOften_49 ?_ ?_
          · refine R_iload C 0 rfl dX3_keyMostOften_64 ?_
            refine R_istore_n (lv2 := [(1, .int v18), (6, .int v18), (5, .int v15), (0, .ref (G.1 + a0)), (2, .int v2), (4, .int v4), (3, .int w13)]) C dX3_keyMostOften_66 rfl (by decide) rfl ?_
            refine R_iload C 2 rfl dX3_keyMostOften_67 ?_
            refine R_istore_n (lv2 := [(2, .int v15), (1, .int v18), (6, .int v18), (5, .int v15), (0, .ref (G.1 + a0)), (4, .int v4), (3, .int w13)]) C dX3_keyMostOften_69 rfl (by decide) rfl ?_
            refine R_loc (lv2 := [(0, .ref (G.1 + a0)), (4, .int v4), (3, .int w13), (1, .int v18), (2, .int v15)]) [4, 5, 6, 1, 0] rfl ?_
            exact R_end (fun (w : Int32 × Int32) (s : Sg) => V κ G (QQ κ G E (some (.int r)) σ') E s (false, 0, 0) 70 [(0, .ref (G.1 + a0)), (4, .int v4), (3, .int w13), (1, .int w.1), (2, .int w.2)] []) Kw19
          · refine R_iload C 1 rfl dX3_keyMostOften_52 ?_
            refine R_iload_n C 4 rfl dX3_keyMostOften_54 ?_
            refine B_icmp_ne C dX3_keyMostOften_55 ?_ ?_
            · refine R_loc (lv2 := [(0, .ref (G.1 + a0)), (4, .int v4), (3, .int w13), (1, .int v1), (2, .int v2)]) [2, 5, 6, 3, 4] rfl ?_
              exact R_end (fun (w : Int32 × Int32) (s : Sg) => V κ G (QQ κ G E (some (.int r)) σ') E s (false, 0, 0) 70 [(0, .ref (G.1 + a0)), (4, .int v4), (3, .int w13), (1, .int w.1), (2, .int w.2)] []) Kw19
            · refine R_iload C 0 rfl dX3_keyMostOften_58 ?_
              refine R_iload_n C 3 rfl dX3_keyMostOften_60 ?_
              refine B_icmp_ge C dX3_keyMostOften_61 ?_ ?_
              · refine R_loc (lv2 := [(0, .ref (G.1 + a0)), (4, .int v4), (3, .int w13), (1, .int v1), (2, .int v2)]) [2, 5, 6, 3, 4] rfl ?_
                exact R_end (fun (w : Int32 × Int32) (s : Sg) => V κ G (QQ κ G E (some (.int r)) σ') E s (false, 0, 0) 70 [(0, .ref (G.1 + a0)), (4, .int v4), (3, .int w13), (1, .int w.1), (2, .int w.2)] []) Kw19
              · refine R_iload C 0 rfl dX3_keyMostOften_64 ?_
                refine R_istore_n (lv2 := [(1, .int v18), (6, .int v18), (5, .int v15), (0, .ref (G.1 + a0)), (2, .int v2), (4, .int v4), (3, .int w13)]) C dX3_keyMostOften_66 rfl (by decide) rfl ?_
                refine R_iload C 2 rfl dX3_keyMostOften_67 ?_
                refine R_istore_n (lv2 := [(2, .int v15), (1, .int v18), (6, .int v18), (5, .int v15), (0, .ref (G.1 + a0)), (4, .int v4), (3, .int w13)]) C dX3_keyMostOften_69 rfl (by decide) rfl ?_
                refine R_loc (lv2 := [(0, .ref (G.1 + a0)), (4, .int v4), (3, .int w13), (1, .int v18), (2, .int v15)]) [4, 5, 6, 1, 0] rfl ?_
                exact R_end (fun (w : Int32 × Int32) (s : Sg) => V κ G (QQ κ G E (some (.int r)) σ') E s (false, 0, 0) 70 [(0, .ref (G.1 + a0)), (4, .int v4), (3, .int w13), (1, .int w.1), (2, .int w.2)] []) Kw19
      · refine B_if_eq C dX3_keyMostOften_24 ?_ ?_
        · refine R_loc (lv2 := [(0, .ref (G.1 + a0)), (1, .int v1), (2, .int v2), (4, .int v4), (3, .int v3)]) [0, 1, 2, 4, 3] rfl ?_
          exact R_end (fun (w : Int32) (s : Sg) => V κ G (QQ κ G E (some (.int r)) σ') E s (false, 0, 0) 30 [(0, .ref (G.1 + a0)), (1, .int v1), (2, .int v2), (4, .int v4), (3, .int w)] []) Kw13
        · refine R_iload C 4 rfl dX3_keyMostOften_27 ?_
          refine R_istore_n (lv2 := [(3, .int v4), (0, .ref (G.1 + a0)), (1, .int v1), (2, .int v2), (4, .int v4)]) C dX3_keyMostOften_29 rfl (by decide) rfl ?_
          refine R_loc (lv2 := [(0, .ref (G.1 + a0)), (1, .int v1), (2, .int v2), (4, .int v4), (3, .int v4)]) [1, 2, 3, 4, 0] rfl ?_
          exact R_end (fun (w : Int32) (s : Sg) => V κ G (QQ κ G E (some (.int r)) σ') E s (false, 0, 0) 30 [(0, .ref (G.1 + a0)), (1, .int v1), (2, .int v2), (4, .int v4), (3, .int w)] []) Kw13
theorem dX3_naturalRuns_0 : dk cX3_naturalRuns 0 1 (.iconst 0) 1 := by unfold dk; decide +kernel
theorem dX3_naturalRuns_1 : dk cX3_naturalRuns 1 2 (.istore_n 1) 1 := by unfold dk; decide +kernel
theorem dX3_naturalRuns_2 : dk cX3_naturalRuns 2 3 (.iconst 0) 1 := by unfold dk; decide +kernel
theorem dX3_naturalRuns_3 : dk cX3_naturalRuns 3 4 (.istore_n 2) 1 := by unfold dk; decide +kernel
theorem dX3_naturalRuns_4 : dk cX3_naturalRuns 4 5 (.iload_n 2) 1 := by unfold dk; decide +kernel
theorem dX3_naturalRuns_5 : dk cX3_naturalRuns 5 6 (.aload_n 0) 1 := by unfold dk; decide +kernel
theorem dX3_naturalRuns_6 : dk cX3_naturalRuns 6 9 (.getfield 18) 3 := by unfold dk; decide +kernel
theorem dX3_naturalRuns_12 : dk cX3_naturalRuns 12 13 (.iload_n 2) 1 := by unfold dk; decide +kernel
theorem dX3_naturalRuns_13 : bk cX3_naturalRuns 13 16 33 (.ifCond .eq 20) (20) := by unfold bk; decide +kernel
theorem dX3_naturalRuns_33 : dk cX3_naturalRuns 33 36 (.iinc 1 1) 3 := by unfold dk; decide +kernel
theorem dX3_naturalRuns_16 : dk cX3_naturalRuns 16 17 (.aload_n 0) 1 := by unfold dk; decide +kernel
theorem dX3_naturalRuns_17 : dk cX3_naturalRuns 17 20 (.getfield 9) 3 := by unfold dk; decide +kernel
theorem dX3_naturalRuns_20 : dk cX3_naturalRuns 20 21 (.iload_n 2) 1 := by unfold dk; decide +kernel
theorem dX3_naturalRuns_21 : dk cX3_naturalRuns 21 22 (.iaload) 1 := by unfold dk; decide +kernel
theorem dX3_naturalRuns_22 : dk cX3_naturalRuns 22 23 (.aload_n 0) 1 := by unfold dk; decide +kernel
theorem dX3_naturalRuns_23 : dk cX3_naturalRuns 23 26 (.getfield 9) 3 := by unfold dk; decide +kernel
theorem dX3_naturalRuns_26 : dk cX3_naturalRuns 26 27 (.iload_n 2) 1 := by unfold dk; decide +kernel
theorem dX3_naturalRuns_27 : dk cX3_naturalRuns 27 28 (.iconst 1) 1 := by unfold dk; decide +kernel
theorem dX3_naturalRuns_28 : dk cX3_naturalRuns 28 29 (.isub) 1 := by unfold dk; decide +kernel
theorem dX3_naturalRuns_29 : dk cX3_naturalRuns 29 30 (.iaload) 1 := by unfold dk; decide +kernel
theorem dX3_naturalRuns_30 : bk cX3_naturalRuns 30 33 36 (.if_icmp .ge 6) (6) := by unfold bk; decide +kernel
theorem dX3_naturalRuns_36 : dk cX3_naturalRuns 36 39 (.iinc 2 1) 3 := by unfold dk; decide +kernel
theorem dX3_naturalRuns_39 : bk cX3_naturalRuns 39 42 4 (.goto (-35)) (-35) := by unfold bk; decide +kernel
theorem dX3_naturalRuns_9 : bk cX3_naturalRuns 9 12 42 (.if_icmp .ge 33) (33) := by unfold bk; decide +kernel
theorem dX3_naturalRuns_42 : dk cX3_naturalRuns 42 43 (.iload_n 1) 1 := by unfold dk; decide +kernel
theorem dX3_naturalRuns_43 : dk cX3_naturalRuns 43 44 (.ireturn) 1 := by unfold dk; decide +kernel
def bX3_naturalRuns_4 (E : En) (a0 : Nat) (rec : Int32 → Int32 → Sg → Option ((Int32 × Int32) × Sg)) (v1 : Int32) (v2 : Int32) (s3 : Sg) : Option ((Int32 × Int32) × Sg) := if (gi s3 a0 2) ≤ v2 then (some ((v1, v2), s3)) else (bd (if v2 = 0 then (lt (v1 + (1 : Int32)) (fun v10 => some (v10, s3))) else (dr (rf E a0 0) E 100 (fun x11 => ck v2 (ln E x11) (ck (v2 - (1 : Int32)) (ln E x11) (if (gi s3 x11 (v2 - (1 : Int32)).toNatClampNeg) ≤ (gi s3 x11 v2.toNatClampNeg) then (some (v1, s3)) else (lt (v1 + (1 : Int32)) (fun v14 => some (v14, s3)))))))) (fun w8 s9 => lt (v2 + (1 : Int32)) (fun v15 => rec w8 v15 s9)))
def fX3_naturalRuns (E : En) (a0 : Nat) (σ : Sg) : Option (Int32 × Sg) := tk (cd E a0) 3 (bd (fx (fun rec a => bX3_naturalRuns_4 E a0 (fun u0 u1 t => rec ((u0, u1), t)) a.1.1 a.1.2 a.2) FU (((0 : Int32), (0 : Int32)), σ)) (fun o16 s17 => some (o16.1, s17)))
set_option maxHeartbeats 4000000 in
set_option maxRecDepth 100000 in
theorem kX3_naturalRuns {l : Launch} {G : Gl} {E : En} {a0 : Nat} {σ σ' : Sg} {r : Int32} : fX3_naturalRuns E a0 σ = some (r, σ') → CT l yX3_naturalRuns cX3_naturalRuns 3 (some .int) ({ frames := 0, cells := 0, slots := 0, locals := 0 } : Room) [.ref (G.1 + a0)] G E σ (some (.int r)) σ' := by
  intro h
  refine CT_of (lv0 := [(0, .ref (G.1 + a0))]) (by decide) (Nat.le_of_ble_eq_true rfl) rfl (fun κ hl hR hr C => ?_)
  have C : Cx κ G cX3_naturalRuns RX3 3 := C
  revert h
  unfold fX3_naturalRuns
  refine R_tk (fun ha0 => ?_)
  refine R_iconst C (0) dX3_naturalRuns_0 (by decide) ?_
  refine R_istore_n (lv2 := [(1, .int (0 : Int32)), (0, .ref (G.1 + a0))]) C dX3_naturalRuns_1 rfl (by decide) rfl ?_
  refine R_iconst C (0) dX3_naturalRuns_2 (by decide) ?_
  refine R_istore_n (lv2 := [(2, .int (0 : Int32)), (1, .int (0 : Int32)), (0, .ref (G.1 + a0))]) C dX3_naturalRuns_3 rfl (by decide) rfl ?_
  refine R_loc (lv2 := [(0, .ref (G.1 + a0)), (1, .int (0 : Int32)), (2, .int (0 : Int32))]) [2, 1, 0] rfl ?_
  refine R_loop (fun (a : (Int32 × Int32) × Sg) => V κ G (QQ κ G E (some (.int r)) σ') E a.2 (false, 0, 0) 4 [(0, .ref (G.1 + a0)), (1, .int a.1.1), (2, .int a.1.2)] []) (fun (o : (Int32 × Int32)) (s : Sg) => V κ G (QQ κ G E (some (.int r)) σ') E s (false, 0, 0) 42 [(1, .int o.1)] []) (((0 : Int32), (0 : Int32)), σ) (fun o16 s17 => ?_) (fun rec I7 a b5 s6 K4 => ?_)
  · refine R_iload_n C 0 rfl dX3_naturalRuns_42 ?_
    exact R_iret C hr dX3_naturalRuns_43
  · obtain ⟨⟨v1, v2⟩, s3⟩ := a
    show bX3_naturalRuns_4 E a0 (fun u0 u1 t => rec ((u0, u1), t)) v1 v2 s3 = some (b5, s6) → V κ G (QQ κ G E (some (.int r)) σ') E s3 (false, 0, 0) 4 [(0, .ref (G.1 + a0)), (1, .int v1), (2, .int v2)] []
    unfold bX3_naturalRuns_4
    refine R_iload_n C 2 rfl dX3_naturalRuns_4 ?_
    refine R_aload_n C 0 rfl dX3_naturalRuns_5 ?_
    refine R_geti C fl3_18 rfl ha0 dX3_naturalRuns_6 ?_
    refine B_icmp_ge C dX3_naturalRuns_9 ?_ ?_
    · refine R_loc (lv2 := [(1, .int v1)]) [1] rfl ?_
      exact R_end (fun (o : (Int32 × Int32)) (s : Sg) => V κ G (QQ κ G E (some (.int r)) σ') E s (false, 0, 0) 42 [(1, .int o.1)] []) K4
    · refine R_iload_n C 2 rfl dX3_naturalRuns_12 ?_
      refine R_bdK (fun (w : Int32) (s : Sg) => V κ G (QQ κ G E (some (.int r)) σ') E s (false, 0, 0) 36 [(0, .ref (G.1 + a0)), (2, .int v2), (1, .int w)] []) (fun w8 s9 => ?_) (fun w8 s9 Kw8 => ?_)
      · refine S_iinc (fun v15 => [(2, .int v15), (0, .ref (G.1 + a0)), (1, .int w8)]) 1 C dX3_naturalRuns_36 rfl (by decide) (by decide) (fun _ => rfl) (fun v15 => ?_)
        refine R_goto C dX3_naturalRuns_39 ?_
        refine R_loc (lv2 := [(0, .ref (G.1 + a0)), (1, .int w8), (2, .int v15)]) [1, 2, 0] rfl ?_
        exact I7 ((w8, v15), s9) b5 s6 K4
      · refine B_if_eq C dX3_naturalRuns_13 ?_ ?_
        · refine S_iinc (fun v10 => [(1, .int v10), (0, .ref (G.1 + a0)), (2, .int v2)]) 1 C dX3_naturalRuns_33 rfl (by decide) (by decide) (fun _ => rfl) (fun v10 => ?_)
          refine R_loc (lv2 := [(0, .ref (G.1 + a0)), (2, .int v2), (1, .int v10)]) [1, 2, 0] rfl ?_
          exact R_end (fun (w : Int32) (s : Sg) => V κ G (QQ κ G E (some (.int r)) σ') E s (false, 0, 0) 36 [(0, .ref (G.1 + a0)), (2, .int v2), (1, .int w)] []) Kw8
        · refine R_aload_n C 0 rfl dX3_naturalRuns_16 ?_
          refine R_dr (fun x11 rx11 cx11 => ?_)
          refine R_getr C fl3_9 rfl ha0 rx11 dX3_naturalRuns_17 ?_
          refine R_iload_n C 2 rfl dX3_naturalRuns_20 ?_
          refine R_ck (fun h12 => ?_)
          refine R_iald C cx11 h12 dX3_naturalRuns_21 ?_
          refine R_aload_n C 0 rfl dX3_naturalRuns_22 ?_
          refine R_getr C fl3_9 rfl ha0 rx11 dX3_naturalRuns_23 ?_
          refine R_iload_n C 2 rfl dX3_naturalRuns_26 ?_
          refine R_iconst C (1) dX3_naturalRuns_27 (by decide) ?_
          refine R_isub C dX3_naturalRuns_28 ?_
          refine R_ck (fun h13 => ?_)
          refine R_iald C cx11 h13 dX3_naturalRuns_29 ?_
          refine B_icmp_ge C dX3_naturalRuns_30 ?_ ?_
          · refine R_loc (lv2 := [(0, .ref (G.1 + a0)), (2, .int v2), (1, .int v1)]) [0, 2, 1] rfl ?_
            exact R_end (fun (w : Int32) (s : Sg) => V κ G (QQ κ G E (some (.int r)) σ') E s (false, 0, 0) 36 [(0, .ref (G.1 + a0)), (2, .int v2), (1, .int w)] []) Kw8
          · refine S_iinc (fun v14 => [(1, .int v14), (0, .ref (G.1 + a0)), (2, .int v2)]) 1 C dX3_naturalRuns_33 rfl (by decide) (by decide) (fun _ => rfl) (fun v14 => ?_)
            refine R_loc (lv2 := [(0, .ref (G.1 + a0)), (2, .int v2), (1, .int v14)]) [1, 2, 0] rfl ?_
            exact R_end (fun (w : Int32) (s : Sg) => V κ G (QQ κ G E (some (.int r)) σ') E s (false, 0, 0) 36 [(0, .ref (G.1 + a0)), (2, .int v2), (1, .int w)] []) Kw8
end
section
theorem dX0_copyFrom_0 : dk cX0_copyFrom 0 1 (.aload_n 0) 1 := by unfold dk; decide +kernel
theorem dX0_copyFrom_1 : dk cX0_copyFrom 1 2 (.aload_n 1) 1 := by unfold dk; decide +kernel
theorem dX0_copyFrom_2 : dk cX0_copyFrom 2 5 (.getfield 21) 3 := by unfold dk; decide +kernel
theorem dX0_copyFrom_5 : dk cX0_copyFrom 5 8 (.putfield 21) 3 := by unfold dk; decide +kernel
theorem dX0_copyFrom_8 : dk cX0_copyFrom 8 9 (.aload_n 0) 1 := by unfold dk; decide +kernel
theorem dX0_copyFrom_9 : dk cX0_copyFrom 9 10 (.aload_n 1) 1 := by unfold dk; decide +kernel
theorem dX0_copyFrom_10 : dk cX0_copyFrom 10 13 (.getfield 25) 3 := by unfold dk; decide +kernel
theorem dX0_copyFrom_13 : dk cX0_copyFrom 13 16 (.putfield 25) 3 := by unfold dk; decide +kernel
theorem dX0_copyFrom_16 : dk cX0_copyFrom 16 17 (.aload_n 1) 1 := by unfold dk; decide +kernel
theorem dX0_copyFrom_17 : dk cX0_copyFrom 17 20 (.getfield 9) 3 := by unfold dk; decide +kernel
theorem dX0_copyFrom_20 : dk cX0_copyFrom 20 21 (.iconst 0) 1 := by unfold dk; decide +kernel
theorem dX0_copyFrom_21 : dk cX0_copyFrom 21 22 (.aload_n 0) 1 := by unfold dk; decide +kernel
theorem dX0_copyFrom_22 : dk cX0_copyFrom 22 25 (.getfield 9) 3 := by unfold dk; decide +kernel
theorem dX0_copyFrom_25 : dk cX0_copyFrom 25 26 (.iconst 0) 1 := by unfold dk; decide +kernel
theorem dX0_copyFrom_26 : dk cX0_copyFrom 26 27 (.iload_n 2) 1 := by unfold dk; decide +kernel
theorem dX0_copyFrom_27 : dk cX0_copyFrom 27 30 (.invokestatic 29) 3 := by unfold dk; decide +kernel
theorem dX0_copyFrom_30 : dk cX0_copyFrom 30 31 (.aload_n 1) 1 := by unfold dk; decide +kernel
theorem dX0_copyFrom_31 : dk cX0_copyFrom 31 34 (.getfield 15) 3 := by unfold dk; decide +kernel
theorem dX0_copyFrom_34 : dk cX0_copyFrom 34 35 (.iconst 0) 1 := by unfold dk; decide +kernel
theorem dX0_copyFrom_35 : dk cX0_copyFrom 35 36 (.aload_n 0) 1 := by unfold dk; decide +kernel
theorem dX0_copyFrom_36 : dk cX0_copyFrom 36 39 (.getfield 15) 3 := by unfold dk; decide +kernel
theorem dX0_copyFrom_39 : dk cX0_copyFrom 39 40 (.iconst 0) 1 := by unfold dk; decide +kernel
theorem dX0_copyFrom_40 : dk cX0_copyFrom 40 41 (.aload_n 0) 1 := by unfold dk; decide +kernel
theorem dX0_copyFrom_41 : dk cX0_copyFrom 41 44 (.getfield 21) 3 := by unfold dk; decide +kernel
theorem dX0_copyFrom_44 : dk cX0_copyFrom 44 47 (.invokestatic 29) 3 := by unfold dk; decide +kernel
theorem dX0_copyFrom_47 : dk cX0_copyFrom 47 48 (.return_) 1 := by unfold dk; decide +kernel
def fX0_copyFrom (E : En) (a0 : Nat) (a1 : Nat) (a2 : Int32) (σ : Sg) : Option (Sg) := tk (cd E a0) 0 (tk (cd E a1) 0 (ss (si σ a0 2 (gi σ a1 2)) (fun s1 => kb (gi s1 a1 3) (ss (si s1 a0 3 (gi s1 a1 3)) (fun s3 => dr (rf E a1 0) E 100 (fun x4 => dr (rf E a0 0) E 100 (fun x5 => acp E s3 x4 (0 : Int32) x5 (0 : Int32) a2 (fun s6 => dr (rf E a1 1) E 100 (fun x7 => dr (rf E a0 1) E 100 (fun x8 => acp E s6 x7 (0 : Int32) x8 (0 : Int32) (gi s6 a0 2) (fun s9 => some s9)))))))))))
set_option maxHeartbeats 4000000 in
set_option maxRecDepth 100000 in
theorem kX0_copyFrom {l : Launch} {G : Gl} {E : En} {a0 : Nat} {a1 : Nat} {a2 : Int32} {σ σ' : Sg} : fX0_copyFrom E a0 a1 a2 σ = some σ' → CT l yX0_copyFrom cX0_copyFrom 3 none ({ frames := 1, cells := 0, slots := 0, locals := 60 } : Room) [.ref (G.1 + a0), .ref (G.1 + a1), .int a2] G E σ none σ' := by
  intro h
  refine CT_of (lv0 := [(0, .ref (G.1 + a0)), (1, .ref (G.1 + a1)), (2, .int a2)]) (by decide) (Nat.le_of_ble_eq_true rfl) rfl (fun κ hl hR hr C => ?_)
  have C : Cx κ G cX0_copyFrom RX0 3 := C
  revert h
  unfold fX0_copyFrom
  refine R_tk (fun ha0 => ?_)
  refine R_tk (fun ha1 => ?_)
  refine R_aload_n C 0 rfl dX0_copyFrom_0 ?_
  refine R_aload_n C 1 rfl dX0_copyFrom_1 ?_
  refine R_geti C fl0_21 rfl ha1 dX0_copyFrom_2 ?_
  refine S_puti C fl0_21 rfl ha0 rfl rfl dX0_copyFrom_5 (fun s1 => ?_)
  refine R_aload_n C 0 rfl dX0_copyFrom_8 ?_
  refine R_aload_n C 1 rfl dX0_copyFrom_9 ?_
  refine R_geti C fl0_25 rfl ha1 dX0_copyFrom_10 ?_
  refine R_kb (fun h2 => ?_)
  refine S_puti C fl0_25 rfl ha0 (nb h2) (fb h2) dX0_copyFrom_13 (fun s3 => ?_)
  refine R_aload_n C 1 rfl dX0_copyFrom_16 ?_
  refine R_dr (fun x4 rx4 cx4 => ?_)
  refine R_getr C fl0_9 rfl ha1 rx4 dX0_copyFrom_17 ?_
  refine R_iconst C (0) dX0_copyFrom_20 (by decide) ?_
  refine R_aload_n C 0 rfl dX0_copyFrom_21 ?_
  refine R_dr (fun x5 rx5 cx5 => ?_)
  refine R_getr C fl0_9 rfl ha0 rx5 dX0_copyFrom_22 ?_
  refine R_iconst C (0) dX0_copyFrom_25 (by decide) ?_
  refine R_iload_n C 2 rfl dX0_copyFrom_26 ?_
  refine S_acopy C jd0_29 cx4 cx5 (by rw [hR]; exact ⟨Nat.le_of_ble_eq_true rfl, Nat.le_of_ble_eq_true rfl⟩) dX0_copyFrom_27 (fun s6 => ?_)
  refine R_aload_n C 1 rfl dX0_copyFrom_30 ?_
  refine R_dr (fun x7 rx7 cx7 => ?_)
  refine R_getr C fl0_15 rfl ha1 rx7 dX0_copyFrom_31 ?_
  refine R_iconst C (0) dX0_copyFrom_34 (by decide) ?_
  refine R_aload_n C 0 rfl dX0_copyFrom_35 ?_
  refine R_dr (fun x8 rx8 cx8 => ?_)
  refine R_getr C fl0_15 rfl ha0 rx8 dX0_copyFrom_36 ?_
  refine R_iconst C (0) dX0_copyFrom_39 (by decide) ?_
  refine R_aload_n C 0 rfl dX0_copyFrom_40 ?_
  refine R_geti C fl0_21 rfl ha0 dX0_copyFrom_41 ?_
  refine S_acopy C jd0_29 cx7 cx8 (by rw [hR]; exact ⟨Nat.le_of_ble_eq_true rfl, Nat.le_of_ble_eq_true rfl⟩) dX0_copyFrom_44 (fun s9 => ?_)
  exact R_vret C hr dX0_copyFrom_47
theorem dX0_falls_0 : dk cX0_falls 0 1 (.aload_n 0) 1 := by unfold dk; decide +kernel
theorem dX0_falls_1 : dk cX0_falls 1 4 (.getfield 25) 3 := by unfold dk; decide +kernel
theorem dX0_falls_4 : bk cX0_falls 4 7 18 (.ifCond .eq 14) (14) := by unfold bk; decide +kernel
theorem dX0_falls_18 : dk cX0_falls 18 19 (.iconst 0) 1 := by unfold dk; decide +kernel
theorem dX0_falls_7 : dk cX0_falls 7 8 (.iload_n 1) 1 := by unfold dk; decide +kernel
theorem dX0_falls_8 : dk cX0_falls 8 9 (.iconst 2) 1 := by unfold dk; decide +kernel
theorem dX0_falls_9 : dk cX0_falls 9 10 (.irem) 1 := by unfold dk; decide +kernel
theorem dX0_falls_10 : dk cX0_falls 10 11 (.iconst 1) 1 := by unfold dk; decide +kernel
theorem dX0_falls_14 : dk cX0_falls 14 15 (.iconst 1) 1 := by unfold dk; decide +kernel
theorem dX0_falls_15 : bk cX0_falls 15 18 19 (.goto 4) (4) := by unfold bk; decide +kernel
theorem dX0_falls_11 : bk cX0_falls 11 14 18 (.if_icmp .ne 7) (7) := by unfold bk; decide +kernel
theorem dX0_falls_19 : dk cX0_falls 19 20 (.ireturn) 1 := by unfold dk; decide +kernel
def fX0_falls (E : En) (a0 : Nat) (a1 : Int32) (σ : Sg) : Option (Int32 × Sg) := tk (cd E a0) 0 (bd (if (gi σ a0 3) = 0 then (some ((0 : Int32), σ)) else (if ¬ (im a1 (2 : Int32)) = (1 : Int32) then (some ((0 : Int32), σ)) else (some ((1 : Int32), σ)))) (fun w1 s2 => kb w1 (some (w1, s2))))
set_option maxHeartbeats 4000000 in
set_option maxRecDepth 100000 in
theorem kX0_falls {l : Launch} {G : Gl} {E : En} {a0 : Nat} {a1 : Int32} {σ σ' : Sg} {r : Int32} : fX0_falls E a0 a1 σ = some (r, σ') → CT l yX0_falls cX0_falls 2 (some .boolean) ({ frames := 0, cells := 0, slots := 0, locals := 0 } : Room) [.ref (G.1 + a0), .int a1] G E σ (some (.int r)) σ' := by
  intro h
  refine CT_of (lv0 := [(0, .ref (G.1 + a0)), (1, .int a1)]) (by decide) (Nat.le_of_ble_eq_true rfl) rfl (fun κ hl hR hr C => ?_)
  have C : Cx κ G cX0_falls RX0 2 := C
  revert h
  unfold fX0_falls
  refine R_tk (fun ha0 => ?_)
  refine R_aload_n C 0 rfl dX0_falls_0 ?_
  refine R_geti C fl0_25 rfl ha0 dX0_falls_1 ?_
  refine R_bdK (fun (w : Int32) (s : Sg) => V κ G (QQ κ G E (some (.int r)) σ') E s (false, 0, 0) 19 [] [.int w]) (fun w1 s2 => ?_) (fun w1 s2 Kw1 => ?_)
  · refine R_kb (fun h3 => ?_)
    exact R_zret C hr h3 dX0_falls_19
  · refine B_if_eq C dX0_falls_4 ?_ ?_
    · refine R_iconst C (0) dX0_falls_18 (by decide) ?_
      refine R_loc (lv2 := []) [] rfl ?_
      exact R_end (fun (w : Int32) (s : Sg) => V κ G (QQ κ G E (some (.int r)) σ') E s (false, 0, 0) 19 [] [.int w]) Kw1
    · refine R_iload_n C 1 rfl dX0_falls_7 ?_
      refine R_iconst C (2) dX0_falls_8 (by decide) ?_
      refine R_irem C dX0_falls_9 (by decide) ?_
      refine R_iconst C (1) dX0_falls_10 (by decide) ?_
      refine B_icmp_ne C dX0_falls_11 ?_ ?_
      · refine R_iconst C (0) dX0_falls_18 (by decide) ?_
        refine R_loc (lv2 := []) [] rfl ?_
        exact R_end (fun (w : Int32) (s : Sg) => V κ G (QQ κ G E (some (.int r)) σ') E s (false, 0, 0) 19 [] [.int w]) Kw1
      · refine R_iconst C (1) dX0_falls_14 (by decide) ?_
        refine R_goto C dX0_falls_15 ?_
        refine R_loc (lv2 := []) [] rfl ?_
        exact R_end (fun (w : Int32) (s : Sg) => V κ G (QQ κ G E (some (.int r)) σ') E s (false, 0, 0) 19 [] [.int w]) Kw1
theorem dX0_nextOut_0 : dk cX0_nextOut 0 1 (.iconst (-1)) 1 := by unfold dk; decide +kernel
theorem dX0_nextOut_1 : dk cX0_nextOut 1 2 (.istore_n 3) 1 := by unfold dk; decide +kernel
theorem dX0_nextOut_2 : dk cX0_nextOut 2 3 (.iconst 0) 1 := by unfold dk; decide +kernel
theorem dX0_nextOut_3 : dk cX0_nextOut 3 5 (.istore 4) 2 := by unfold dk; decide +kernel
theorem dX0_nextOut_5 : dk cX0_nextOut 5 7 (.iload 4) 2 := by unfold dk; decide +kernel
theorem dX0_nextOut_7 : dk cX0_nextOut 7 8 (.aload_n 0) 1 := by unfold dk; decide +kernel
theorem dX0_nextOut_8 : dk cX0_nextOut 8 11 (.getfield 44) 3 := by unfold dk; decide +kernel
theorem dX0_nextOut_14 : dk cX0_nextOut 14 15 (.aload_n 0) 1 := by unfold dk; decide +kernel
theorem dX0_nextOut_15 : dk cX0_nextOut 15 18 (.getfield 9) 3 := by unfold dk; decide +kernel
theorem dX0_nextOut_18 : dk cX0_nextOut 18 19 (.aload_n 0) 1 := by unfold dk; decide +kernel
theorem dX0_nextOut_19 : dk cX0_nextOut 19 22 (.getfield 18) 3 := by unfold dk; decide +kernel
theorem dX0_nextOut_22 : dk cX0_nextOut 22 24 (.iload 4) 2 := by unfold dk; decide +kernel
theorem dX0_nextOut_24 : dk cX0_nextOut 24 25 (.iaload) 1 := by unfold dk; decide +kernel
theorem dX0_nextOut_25 : dk cX0_nextOut 25 26 (.iaload) 1 := by unfold dk; decide +kernel
theorem dX0_nextOut_26 : dk cX0_nextOut 26 27 (.iload_n 2) 1 := by unfold dk; decide +kernel
theorem dX0_nextOut_27 : bk cX0_nextOut 27 30 33 (.if_icmp .eq 6) (6) := by unfold bk; decide +kernel
theorem dX0_nextOut_33 : dk cX0_nextOut 33 34 (.iload_n 3) 1 := by unfold dk; decide +kernel
theorem dX0_nextOut_34 : dk cX0_nextOut 34 35 (.iconst (-1)) 1 := by unfold dk; decide +kernel
theorem dX0_nextOut_63 : dk cX0_nextOut 63 65 (.iload 4) 2 := by unfold dk; decide +kernel
theorem dX0_nextOut_65 : dk cX0_nextOut 65 66 (.istore_n 3) 1 := by unfold dk; decide +kernel
theorem dX0_nextOut_38 : dk cX0_nextOut 38 39 (.aload_n 1) 1 := by unfold dk; decide +kernel
theorem dX0_nextOut_39 : dk cX0_nextOut 39 40 (.aload_n 0) 1 := by unfold dk; decide +kernel
theorem dX0_nextOut_40 : dk cX0_nextOut 40 43 (.getfield 18) 3 := by unfold dk; decide +kernel
theorem dX0_nextOut_43 : dk cX0_nextOut 43 45 (.iload 4) 2 := by unfold dk; decide +kernel
theorem dX0_nextOut_45 : dk cX0_nextOut 45 46 (.iaload) 1 := by unfold dk; decide +kernel
theorem dX0_nextOut_46 : dk cX0_nextOut 46 47 (.aload_n 0) 1 := by unfold dk; decide +kernel
theorem dX0_nextOut_47 : dk cX0_nextOut 47 50 (.getfield 18) 3 := by unfold dk; decide +kernel
theorem dX0_nextOut_50 : dk cX0_nextOut 50 51 (.iload_n 3) 1 := by unfold dk; decide +kernel
theorem dX0_nextOut_51 : dk cX0_nextOut 51 52 (.iaload) 1 := by unfold dk; decide +kernel
theorem dX0_nextOut_52 : dk cX0_nextOut 52 55 (.invokevirtual 55) 3 := by unfold dk; decide +kernel
theorem dX0_nextOut_55 : dk cX0_nextOut 55 56 (.aload_n 0) 1 := by unfold dk; decide +kernel
theorem dX0_nextOut_56 : dk cX0_nextOut 56 57 (.iload_n 2) 1 := by unfold dk; decide +kernel
theorem dX0_nextOut_57 : dk cX0_nextOut 57 60 (.invokevirtual 59) 3 := by unfold dk; decide +kernel
theorem dX0_nextOut_60 : bk cX0_nextOut 60 63 66 (.if_icmp .eq 6) (6) := by unfold bk; decide +kernel
theorem dX0_nextOut_35 : bk cX0_nextOut 35 38 63 (.if_icmp .eq 28) (28) := by unfold bk; decide +kernel
theorem dX0_nextOut_30 : bk cX0_nextOut 30 33 66 (.goto 36) (36) := by unfold bk; decide +kernel
theorem dX0_nextOut_66 : dk cX0_nextOut 66 69 (.iinc 4 1) 3 := by unfold dk; decide +kernel
theorem dX0_nextOut_69 : bk cX0_nextOut 69 72 5 (.goto (-64)) (-64) := by unfold bk; decide +kernel
theorem dX0_nextOut_11 : bk cX0_nextOut 11 14 72 (.if_icmp .ge 61) (61) := by unfold bk; decide +kernel
theorem dX0_nextOut_72 : dk cX0_nextOut 72 73 (.iload_n 3) 1 := by unfold dk; decide +kernel
theorem dX0_nextOut_73 : dk cX0_nextOut 73 74 (.ireturn) 1 := by unfold dk; decide +kernel
def bX0_nextOut_5 (E : En) (a0 : Nat) (a2 : Int32) (a1 : Nat) (rec : Int32 → Int32 → Sg → Option ((Int32 × Int32) × Sg)) (v1 : Int32) (v2 : Int32) (s3 : Sg) : Option ((Int32 × Int32) × Sg) := if (gi s3 a0 5) ≤ v2 then (some ((v1, v2), s3)) else (dr (rf E a0 0) E 100 (fun x8 => dr (rf E a0 4) E 100 (fun x9 => ck v2 (ln E x9) (ck (gi s3 x9 v2.toNatClampNeg) (ln E x8) (bd (if (gi s3 x8 (gi s3 x9 v2.toNatClampNeg).toNatClampNeg) = a2 then (if v1 = (-1 : Int32) then (some (v2, s3)) else (ck v2 (ln E x9) (ck v1 (ln E x9) (bd (fX3_isLess E a1 (gi s3 x9 v2.toNatClampNeg) (gi s3 x9 v1.toNatClampNeg) s3) (fun r18 s16 => bd (fX0_falls E a0 a2 s16) (fun r21 s19 => if r18 = r21 then (some (v1, s19)) else (some (v2, s19)))))))) else (some (v1, s3))) (fun w12 s13 => lt (v2 + (1 : Int32)) (fun v22 => rec w12 v22 s13)))))))
def fX0_nextOut (E : En) (a0 : Nat) (a1 : Nat) (a2 : Int32) (σ : Sg) : Option (Int32 × Sg) := tk (cd E a0) 0 (tk (cd E a1) 3 (bd (fx (fun rec a => bX0_nextOut_5 E a0 a2 a1 (fun u0 u1 t => rec ((u0, u1), t)) a.1.1 a.1.2 a.2) FU (((-1 : Int32), (0 : Int32)), σ)) (fun o23 s24 => some (o23.1, s24))))
set_option maxHeartbeats 4000000 in
set_option maxRecDepth 100000 in
theorem kX0_nextOut {l : Launch} {G : Gl} {E : En} {a0 : Nat} {a1 : Nat} {a2 : Int32} {σ σ' : Sg} {r : Int32} : fX0_nextOut E a0 a1 a2 σ = some (r, σ') → CT l yX0_nextOut cX0_nextOut 5 (some .int) ({ frames := 1, cells := 0, slots := 0, locals := 22 } : Room) [.ref (G.1 + a0), .ref (G.1 + a1), .int a2] G E σ (some (.int r)) σ' := by
  intro h
  refine CT_of (lv0 := [(0, .ref (G.1 + a0)), (1, .ref (G.1 + a1)), (2, .int a2)]) (by decide) (Nat.le_of_ble_eq_true rfl) rfl (fun κ hl hR hr C => ?_)
  have C : Cx κ G cX0_nextOut RX0 5 := C
  revert h
  unfold fX0_nextOut
  refine R_tk (fun ha0 => ?_)
  refine R_tk (fun ha1 => ?_)
  refine R_iconst C (-1) dX0_nextOut_0 (by decide) ?_
  refine R_istore_n (lv2 := [(3, .int (-1 : Int32)), (0, .ref (G.1 + a0)), (1, .ref (G.1 + a1)), (2, .int a2)]) C dX0_nextOut_1 rfl (by decide) rfl ?_
  refine R_iconst C (0) dX0_nextOut_2 (by decide) ?_
  refine R_istore (lv2 := [(4, .int (0 : Int32)), (3, .int (-1 : Int32)), (0, .ref (G.1 + a0)), (1, .ref (G.1 + a1)), (2, .int a2)]) C dX0_nextOut_3 (by decide) rfl ?_
  refine R_loc (lv2 := [(0, .ref (G.1 + a0)), (1, .ref (G.1 + a1)), (2, .int a2), (3, .int (-1 : Int32)), (4, .int (0 : Int32))]) [2, 3, 4, 1, 0] rfl ?_
  refine R_loop (fun (a : (Int32 × Int32) × Sg) => V κ G (QQ κ G E (some (.int r)) σ') E a.2 (false, 0, 0) 5 [(0, .ref (G.1 + a0)), (1, .ref (G.1 + a1)), (2, .int a2), (3, .int a.1.1), (4, .int a.1.2)] []) (fun (o : (Int32 × Int32)) (s : Sg) => V κ G (QQ κ G E (some (.int r)) σ') E s (false, 0, 0) 72 [(3, .int o.1)] []) (((-1 : Int32), (0 : Int32)), σ) (fun o23 s24 => ?_) (fun rec I7 a b5 s6 K4 => ?_)
  · refine R_iload_n C 0 rfl dX0_nextOut_72 ?_
    exact R_iret C hr dX0_nextOut_73
  · obtain ⟨⟨v1, v2⟩, s3⟩ := a
    show bX0_nextOut_5 E a0 a2 a1 (fun u0 u1 t => rec ((u0, u1), t)) v1 v2 s3 = some (b5, s6) → V κ G (QQ κ G E (some (.int r)) σ') E s3 (false, 0, 0) 5 [(0, .ref (G.1 + a0)), (1, .ref (G.1 + a1)), (2, .int a2), (3, .int v1), (4, .int v2)] []
    unfold bX0_nextOut_5
    refine R_iload C 4 rfl dX0_nextOut_5 ?_
    refine R_aload_n C 0 rfl dX0_nextOut_7 ?_
    refine R_geti C fl0_44 rfl ha0 dX0_nextOut_8 ?_
    refine B_icmp_ge C dX0_nextOut_11 ?_ ?_
    · refine R_loc (lv2 := [(3, .int v1)]) [3] rfl ?_
      exact R_end (fun (o : (Int32 × Int32)) (s : Sg) => V κ G (QQ κ G E (some (.int r)) σ') E s (false, 0, 0) 72 [(3, .int o.1)] []) K4
    · refine R_aload_n C 0 rfl dX0_nextOut_14 ?_
      refine R_dr (fun x8 rx8 cx8 => ?_)
      refine R_getr C fl0_9 rfl ha0 rx8 dX0_nextOut_15 ?_
      refine R_aload_n C 0 rfl dX0_nextOut_18 ?_
      refine R_dr (fun x9 rx9 cx9 => ?_)
      refine R_getr C fl0_18 rfl ha0 rx9 dX0_nextOut_19 ?_
      refine R_iload C 4 rfl dX0_nextOut_22 ?_
      refine R_ck (fun h10 => ?_)
      refine R_iald C cx9 h10 dX0_nextOut_24 ?_
      refine R_ck (fun h11 => ?_)
      refine R_iald C cx8 h11 dX0_nextOut_25 ?_
      refine R_iload_n C 2 rfl dX0_nextOut_26 ?_
      refine R_bdK (fun (w : Int32) (s : Sg) => V κ G (QQ κ G E (some (.int r)) σ') E s (false, 0, 0) 66 [(0, .ref (G.1 + a0)), (1, .ref (G.1 + a1)), (2, .int a2), (4, .int v2), (3, .int w)] []) (fun w12 s13 => ?_) (fun w12 s13 Kw12 => ?_)
      · refine S_iinc (fun v22 => [(4, .int v22), (0, .ref (G.1 + a0)), (1, .ref (G.1 + a1)), (2, .int a2), (3, .int w12)]) 3 C dX0_nextOut_66 rfl (by decide) (by decide) (fun _ => rfl) (fun v22 => ?_)
        refine R_goto C dX0_nextOut_69 ?_
        refine R_loc (lv2 := [(0, .ref (G.1 + a0)), (1, .ref (G.1 + a1)), (2, .int a2), (3, .int w12), (4, .int v22)]) [1, 2, 3, 4, 0] rfl ?_
        exact I7 ((w12, v22), s13) b5 s6 K4
      · refine B_icmp_eq C dX0_nextOut_27 ?_ ?_
        · refine R_iload_n C 3 rfl dX0_nextOut_33 ?_
          refine R_iconst C (-1) dX0_nextOut_34 (by decide) ?_
          refine B_icmp_eq C dX0_nextOut_35 ?_ ?_
          · refine R_iload C 4 rfl dX0_nextOut_63 ?_
            refine R_istore_n (lv2 := [(3, .int v2), (0, .ref (G.1 + a0)), (1, .ref (G.1 + a1)), (2, .int a2), (4, .int v2)]) C dX0_nextOut_65 rfl (by decide) rfl ?_
            refine R_loc (lv2 := [(0, .ref (G.1 + a0)), (1, .ref (G.1 + a1)), (2, .int a2), (4, .int v2), (3, .int v2)]) [1, 2, 3, 4, 0] rfl ?_
            exact R_end (fun (w : Int32) (s : Sg) => V κ G (QQ κ G E (some (.int r)) σ') E s (false, 0, 0) 66 [(0, .ref (G.1 + a0)), (1, .ref (G.1 + a1)), (2, .int a2), (4, .int v2), (3, .int w)] []) Kw12
          · refine R_aload_n C 1 rfl dX0_nextOut_38 ?_
            refine R_aload_n C 0 rfl dX0_nextOut_39 ?_
            refine R_getr C fl0_18 rfl ha0 rx9 dX0_nextOut_40 ?_
            refine R_iload C 4 rfl dX0_nextOut_43 ?_
            refine R_ck (fun h14 => ?_)
            refine R_iald C cx9 h14 dX0_nextOut_45 ?_
            refine R_aload_n C 0 rfl dX0_nextOut_46 ?_
            refine R_getr C fl0_18 rfl ha0 rx9 dX0_nextOut_47 ?_
            refine R_iload_n C 3 rfl dX0_nextOut_50 ?_
            refine R_ck (fun h15 => ?_)
            refine R_iald C cx9 h15 dX0_nextOut_51 ?_
            refine R_bd (fun r18 s16 q17 => ?_)
            refine R_callVi [.int (gi s3 x9 v2.toNatClampNeg), .int (gi s3 x9 v1.toNatClampNeg)] [] C ml0_55 (kX3_isLess q17) (by rw [hR]; exact ⟨rfl, rfl, Nat.le_of_ble_eq_true rfl, Nat.le_of_ble_eq_true rfl, Nat.zero_le _, Nat.zero_le _⟩) ha1 rfl rfl (Nat.le_of_ble_eq_true rfl) dX0_nextOut_52 ?_
            refine R_aload_n C 0 rfl dX0_nextOut_55 ?_
            refine R_iload_n C 2 rfl dX0_nextOut_56 ?_
            refine R_bd (fun r21 s19 q20 => ?_)
            refine R_callVi [.int a2] [.int r18] C ml0_59 (kX0_falls q20) (by rw [hR]; exact ⟨rfl, rfl, Nat.le_of_ble_eq_true rfl, Nat.le_of_ble_eq_true rfl, Nat.zero_le _, Nat.zero_le _⟩) ha0 rfl rfl (Nat.le_of_ble_eq_true rfl) dX0_nextOut_57 ?_
            refine B_icmp_eq C dX0_nextOut_60 ?_ ?_
            · refine R_loc (lv2 := [(0, .ref (G.1 + a0)), (1, .ref (G.1 + a1)), (2, .int a2), (4, .int v2), (3, .int v1)]) [0, 1, 2, 4, 3] rfl ?_
              exact R_end (fun (w : Int32) (s : Sg) => V κ G (QQ κ G E (some (.int r)) σ') E s (false, 0, 0) 66 [(0, .ref (G.1 + a0)), (1, .ref (G.1 + a1)), (2, .int a2), (4, .int v2), (3, .int w)] []) Kw12
            · refine R_iload C 4 rfl dX0_nextOut_63 ?_
              refine R_istore_n (lv2 := [(3, .int v2), (0, .ref (G.1 + a0)), (1, .ref (G.1 + a1)), (2, .int a2), (4, .int v2)]) C dX0_nextOut_65 rfl (by decide) rfl ?_
              refine R_loc (lv2 := [(0, .ref (G.1 + a0)), (1, .ref (G.1 + a1)), (2, .int a2), (4, .int v2), (3, .int v2)]) [1, 2, 3, 4, 0] rfl ?_
              exact R_end (fun (w : Int32) (s : Sg) => V κ G (QQ κ G E (some (.int r)) σ') E s (false, 0, 0) 66 [(0, .ref (G.1 + a0)), (1, .ref (G.1 + a1)), (2, .int a2), (4, .int v2), (3, .int w)] []) Kw12
        · refine R_goto C dX0_nextOut_30 ?_
          refine R_loc (lv2 := [(0, .ref (G.1 + a0)), (1, .ref (G.1 + a1)), (2, .int a2), (4, .int v2), (3, .int v1)]) [0, 1, 2, 4, 3] rfl ?_
          exact R_end (fun (w : Int32) (s : Sg) => V κ G (QQ κ G E (some (.int r)) σ') E s (false, 0, 0) 66 [(0, .ref (G.1 + a0)), (1, .ref (G.1 + a1)), (2, .int a2), (4, .int v2), (3, .int w)] []) Kw12
theorem dX0_goesOn_0 : dk cX0_goesOn 0 1 (.aload_n 1) 1 := by unfold dk; decide +kernel
theorem dX0_goesOn_1 : dk cX0_goesOn 1 2 (.iload_n 2) 1 := by unfold dk; decide +kernel
theorem dX0_goesOn_2 : dk cX0_goesOn 2 3 (.iload_n 3) 1 := by unfold dk; decide +kernel
theorem dX0_goesOn_3 : dk cX0_goesOn 3 6 (.invokevirtual 55) 3 := by unfold dk; decide +kernel
theorem dX0_goesOn_6 : dk cX0_goesOn 6 7 (.aload_n 0) 1 := by unfold dk; decide +kernel
theorem dX0_goesOn_7 : dk cX0_goesOn 7 8 (.aload_n 0) 1 := by unfold dk; decide +kernel
theorem dX0_goesOn_8 : dk cX0_goesOn 8 11 (.getfield 21) 3 := by unfold dk; decide +kernel
theorem dX0_goesOn_11 : dk cX0_goesOn 11 12 (.iconst 1) 1 := by unfold dk; decide +kernel
theorem dX0_goesOn_12 : dk cX0_goesOn 12 13 (.isub) 1 := by unfold dk; decide +kernel
theorem dX0_goesOn_13 : dk cX0_goesOn 13 16 (.invokevirtual 59) 3 := by unfold dk; decide +kernel
theorem dX0_goesOn_16 : bk cX0_goesOn 16 19 23 (.if_icmp .ne 7) (7) := by unfold bk; decide +kernel
theorem dX0_goesOn_23 : dk cX0_goesOn 23 24 (.iconst 0) 1 := by unfold dk; decide +kernel
theorem dX0_goesOn_19 : dk cX0_goesOn 19 20 (.iconst 1) 1 := by unfold dk; decide +kernel
theorem dX0_goesOn_20 : bk cX0_goesOn 20 23 24 (.goto 4) (4) := by unfold bk; decide +kernel
theorem dX0_goesOn_24 : dk cX0_goesOn 24 25 (.ireturn) 1 := by unfold dk; decide +kernel
def fX0_goesOn (E : En) (a0 : Nat) (a1 : Nat) (a2 : Int32) (a3 : Int32) (σ : Sg) : Option (Int32 × Sg) := tk (cd E a0) 0 (tk (cd E a1) 3 (bd (fX3_isLess E a1 a2 a3 σ) (fun r3 s1 => bd (fX0_falls E a0 ((gi s1 a0 2) - (1 : Int32)) s1) (fun r6 s4 => bd (if ¬ r3 = r6 then (some ((0 : Int32), s4)) else (some ((1 : Int32), s4))) (fun w7 s8 => kb w7 (some (w7, s8)))))))
set_option maxHeartbeats 4000000 in
set_option maxRecDepth 100000 in
theorem kX0_goesOn {l : Launch} {G : Gl} {E : En} {a0 : Nat} {a1 : Nat} {a2 : Int32} {a3 : Int32} {σ σ' : Sg} {r : Int32} : fX0_goesOn E a0 a1 a2 a3 σ = some (r, σ') → CT l yX0_goesOn cX0_goesOn 4 (some .boolean) ({ frames := 1, cells := 0, slots := 0, locals := 22 } : Room) [.ref (G.1 + a0), .ref (G.1 + a1), .int a2, .int a3] G E σ (some (.int r)) σ' := by
  intro h
  refine CT_of (lv0 := [(0, .ref (G.1 + a0)), (1, .ref (G.1 + a1)), (2, .int a2), (3, .int a3)]) (by decide) (Nat.le_of_ble_eq_true rfl) rfl (fun κ hl hR hr C => ?_)
  have C : Cx κ G cX0_goesOn RX0 4 := C
  revert h
  unfold fX0_goesOn
  refine R_tk (fun ha0 => ?_)
  refine R_tk (fun ha1 => ?_)
  refine R_aload_n C 1 rfl dX0_goesOn_0 ?_
  refine R_iload_n C 2 rfl dX0_goesOn_1 ?_
  refine R_iload_n C 3 rfl dX0_goesOn_2 ?_
  refine R_bd (fun r3 s1 q2 => ?_)
  refine R_callVi [.int a2, .int a3] [] C ml0_55 (kX3_isLess q2) (by rw [hR]; exact ⟨rfl, rfl, Nat.le_of_ble_eq_true rfl, Nat.le_of_ble_eq_true rfl, Nat.zero_le _, Nat.zero_le _⟩) ha1 rfl rfl (Nat.le_of_ble_eq_true rfl) dX0_goesOn_3 ?_
  refine R_aload_n C 0 rfl dX0_goesOn_6 ?_
  refine R_aload_n C 0 rfl dX0_goesOn_7 ?_
  refine R_geti C fl0_21 rfl ha0 dX0_goesOn_8 ?_
  refine R_iconst C (1) dX0_goesOn_11 (by decide) ?_
  refine R_isub C dX0_goesOn_12 ?_
  refine R_bd (fun r6 s4 q5 => ?_)
  refine R_callVi [.int ((gi s1 a0 2) - (1 : Int32))] [.int r3] C ml0_59 (kX0_falls q5) (by rw [hR]; exact ⟨rfl, rfl, Nat.le_of_ble_eq_true rfl, Nat.le_of_ble_eq_true rfl, Nat.zero_le _, Nat.zero_le _⟩) ha0 rfl rfl (Nat.le_of_ble_eq_true rfl) dX0_goesOn_13 ?_
  refine R_bdK (fun (w : Int32) (s : Sg) => V κ G (QQ κ G E (some (.int r)) σ') E s (false, 0, 0) 24 [] [.int w]) (fun w7 s8 => ?_) (fun w7 s8 Kw7 => ?_)
  · refine R_kb (fun h9 => ?_)
    exact R_zret C hr h9 dX0_goesOn_24
  · refine B_icmp_ne C dX0_goesOn_16 ?_ ?_
    · refine R_iconst C (0) dX0_goesOn_23 (by decide) ?_
      refine R_loc (lv2 := []) [] rfl ?_
      exact R_end (fun (w : Int32) (s : Sg) => V κ G (QQ κ G E (some (.int r)) σ') E s (false, 0, 0) 24 [] [.int w]) Kw7
    · refine R_iconst C (1) dX0_goesOn_19 (by decide) ?_
      refine R_goto C dX0_goesOn_20 ?_
      refine R_loc (lv2 := []) [] rfl ?_
      exact R_end (fun (w : Int32) (s : Sg) => V κ G (QQ κ G E (some (.int r)) σ') E s (false, 0, 0) 24 [] [.int w]) Kw7
theorem dX0_growFrom_0 : dk cX0_growFrom 0 1 (.aload_n 0) 1 := by unfold dk; decide +kernel
theorem dX0_growFrom_1 : dk cX0_growFrom 1 2 (.iload_n 3) 1 := by unfold dk; decide +kernel
theorem dX0_growFrom_2 : dk cX0_growFrom 2 5 (.putfield 25) 3 := by unfold dk; decide +kernel
theorem dX0_growFrom_5 : dk cX0_growFrom 5 6 (.iload_n 2) 1 := by unfold dk; decide +kernel
theorem dX0_growFrom_6 : dk cX0_growFrom 6 8 (.bipush 16) 2 := by unfold dk; decide +kernel
theorem dX0_growFrom_8 : dk cX0_growFrom 8 11 (.invokestatic 35) 3 := by unfold dk; decide +kernel
theorem dX0_growFrom_11 : dk cX0_growFrom 11 12 (.aload_n 1) 1 := by unfold dk; decide +kernel
theorem dX0_growFrom_12 : dk cX0_growFrom 12 15 (.getfield 41) 3 := by unfold dk; decide +kernel
theorem dX0_growFrom_15 : dk cX0_growFrom 15 18 (.invokestatic 35) 3 := by unfold dk; decide +kernel
theorem dX0_growFrom_18 : dk cX0_growFrom 18 20 (.istore 4) 2 := by unfold dk; decide +kernel
theorem dX0_growFrom_20 : dk cX0_growFrom 20 21 (.aload_n 0) 1 := by unfold dk; decide +kernel
theorem dX0_growFrom_21 : dk cX0_growFrom 21 22 (.iconst 0) 1 := by unfold dk; decide +kernel
theorem dX0_growFrom_22 : dk cX0_growFrom 22 25 (.putfield 44) 3 := by unfold dk; decide +kernel
theorem dX0_growFrom_25 : dk cX0_growFrom 25 26 (.aload_n 0) 1 := by unfold dk; decide +kernel
theorem dX0_growFrom_26 : dk cX0_growFrom 26 29 (.getfield 44) 3 := by unfold dk; decide +kernel
theorem dX0_growFrom_29 : dk cX0_growFrom 29 31 (.iload 4) 2 := by unfold dk; decide +kernel
theorem dX0_growFrom_34 : dk cX0_growFrom 34 35 (.aload_n 0) 1 := by unfold dk; decide +kernel
theorem dX0_growFrom_35 : dk cX0_growFrom 35 38 (.getfield 18) 3 := by unfold dk; decide +kernel
theorem dX0_growFrom_38 : dk cX0_growFrom 38 39 (.aload_n 0) 1 := by unfold dk; decide +kernel
theorem dX0_growFrom_39 : dk cX0_growFrom 39 42 (.getfield 44) 3 := by unfold dk; decide +kernel
theorem dX0_growFrom_42 : dk cX0_growFrom 42 43 (.aload_n 0) 1 := by unfold dk; decide +kernel
theorem dX0_growFrom_43 : dk cX0_growFrom 43 46 (.getfield 44) 3 := by unfold dk; decide +kernel
theorem dX0_growFrom_46 : dk cX0_growFrom 46 47 (.iastore) 1 := by unfold dk; decide +kernel
theorem dX0_growFrom_47 : dk cX0_growFrom 47 48 (.aload_n 0) 1 := by unfold dk; decide +kernel
theorem dX0_growFrom_48 : dk cX0_growFrom 48 51 (.getfield 9) 3 := by unfold dk; decide +kernel
theorem dX0_growFrom_51 : dk cX0_growFrom 51 52 (.aload_n 0) 1 := by unfold dk; decide +kernel
theorem dX0_growFrom_52 : dk cX0_growFrom 52 55 (.getfield 44) 3 := by unfold dk; decide +kernel
theorem dX0_growFrom_55 : dk cX0_growFrom 55 56 (.iconst 0) 1 := by unfold dk; decide +kernel
theorem dX0_growFrom_56 : dk cX0_growFrom 56 57 (.iastore) 1 := by unfold dk; decide +kernel
theorem dX0_growFrom_57 : dk cX0_growFrom 57 58 (.aload_n 0) 1 := by unfold dk; decide +kernel
theorem dX0_growFrom_58 : dk cX0_growFrom 58 59 (.dup) 1 := by unfold dk; decide +kernel
theorem dX0_growFrom_59 : dk cX0_growFrom 59 62 (.getfield 44) 3 := by unfold dk; decide +kernel
theorem dX0_growFrom_62 : dk cX0_growFrom 62 63 (.iconst 1) 1 := by unfold dk; decide +kernel
theorem dX0_growFrom_63 : dk cX0_growFrom 63 64 (.iadd) 1 := by unfold dk; decide +kernel
theorem dX0_growFrom_64 : dk cX0_growFrom 64 67 (.putfield 44) 3 := by unfold dk; decide +kernel
theorem dX0_growFrom_67 : bk cX0_growFrom 67 70 25 (.goto (-42)) (-42) := by unfold bk; decide +kernel
theorem dX0_growFrom_31 : bk cX0_growFrom 31 34 70 (.if_icmp .ge 39) (39) := by unfold bk; decide +kernel
theorem dX0_growFrom_70 : dk cX0_growFrom 70 71 (.aload_n 0) 1 := by unfold dk; decide +kernel
theorem dX0_growFrom_71 : dk cX0_growFrom 71 72 (.iconst 0) 1 := by unfold dk; decide +kernel
theorem dX0_growFrom_72 : dk cX0_growFrom 72 75 (.putfield 21) 3 := by unfold dk; decide +kernel
theorem dX0_growFrom_75 : dk cX0_growFrom 75 76 (.iconst 0) 1 := by unfold dk; decide +kernel
theorem dX0_growFrom_76 : dk cX0_growFrom 76 78 (.istore 5) 2 := by unfold dk; decide +kernel
theorem dX0_growFrom_78 : dk cX0_growFrom 78 80 (.iload 5) 2 := by unfold dk; decide +kernel
theorem dX0_growFrom_80 : dk cX0_growFrom 80 81 (.aload_n 1) 1 := by unfold dk; decide +kernel
theorem dX0_growFrom_81 : dk cX0_growFrom 81 84 (.getfield 41) 3 := by unfold dk; decide +kernel
theorem dX0_growFrom_87 : dk cX0_growFrom 87 88 (.aload_n 0) 1 := by unfold dk; decide +kernel
theorem dX0_growFrom_88 : dk cX0_growFrom 88 91 (.getfield 21) 3 := by unfold dk; decide +kernel
theorem dX0_growFrom_91 : bk cX0_growFrom 91 94 98 (.ifCond .ne 7) (7) := by unfold bk; decide +kernel
theorem dX0_growFrom_98 : dk cX0_growFrom 98 99 (.aload_n 0) 1 := by unfold dk; decide +kernel
theorem dX0_growFrom_99 : dk cX0_growFrom 99 100 (.aload_n 1) 1 := by unfold dk; decide +kernel
theorem dX0_growFrom_100 : dk cX0_growFrom 100 101 (.aload_n 0) 1 := by unfold dk; decide +kernel
theorem dX0_growFrom_101 : dk cX0_growFrom 101 104 (.getfield 21) 3 := by unfold dk; decide +kernel
theorem dX0_growFrom_104 : dk cX0_growFrom 104 105 (.iconst 1) 1 := by unfold dk; decide +kernel
theorem dX0_growFrom_105 : dk cX0_growFrom 105 106 (.isub) 1 := by unfold dk; decide +kernel
theorem dX0_growFrom_106 : dk cX0_growFrom 106 109 (.invokevirtual 47) 3 := by unfold dk; decide +kernel
theorem dX0_growFrom_94 : dk cX0_growFrom 94 95 (.iconst (-1)) 1 := by unfold dk; decide +kernel
theorem dX0_growFrom_95 : bk cX0_growFrom 95 98 109 (.goto 14) (14) := by unfold bk; decide +kernel
theorem dX0_growFrom_109 : dk cX0_growFrom 109 111 (.istore 6) 2 := by unfold dk; decide +kernel
theorem dX0_growFrom_111 : dk cX0_growFrom 111 113 (.iload 6) 2 := by unfold dk; decide +kernel
theorem dX0_growFrom_113 : dk cX0_growFrom 113 114 (.iconst (-1)) 1 := by unfold dk; decide +kernel
theorem dX0_growFrom_114 : bk cX0_growFrom 114 117 148 (.if_icmp .ne 34) (34) := by unfold bk; decide +kernel
theorem dX0_growFrom_117 : dk cX0_growFrom 117 118 (.aload_n 0) 1 := by unfold dk; decide +kernel
theorem dX0_growFrom_118 : dk cX0_growFrom 118 121 (.getfield 15) 3 := by unfold dk; decide +kernel
theorem dX0_growFrom_121 : dk cX0_growFrom 121 122 (.aload_n 0) 1 := by unfold dk; decide +kernel
theorem dX0_growFrom_122 : dk cX0_growFrom 122 125 (.getfield 21) 3 := by unfold dk; decide +kernel
theorem dX0_growFrom_125 : dk cX0_growFrom 125 126 (.iconst 0) 1 := by unfold dk; decide +kernel
theorem dX0_growFrom_126 : dk cX0_growFrom 126 127 (.iastore) 1 := by unfold dk; decide +kernel
theorem dX0_growFrom_127 : dk cX0_growFrom 127 128 (.aload_n 0) 1 := by unfold dk; decide +kernel
theorem dX0_growFrom_128 : dk cX0_growFrom 128 129 (.aload_n 1) 1 := by unfold dk; decide +kernel
theorem dX0_growFrom_129 : dk cX0_growFrom 129 130 (.aload_n 0) 1 := by unfold dk; decide +kernel
theorem dX0_growFrom_130 : dk cX0_growFrom 130 133 (.getfield 21) 3 := by unfold dk; decide +kernel
theorem dX0_growFrom_133 : dk cX0_growFrom 133 136 (.invokevirtual 47) 3 := by unfold dk; decide +kernel
theorem dX0_growFrom_136 : dk cX0_growFrom 136 138 (.istore 6) 2 := by unfold dk; decide +kernel
theorem dX0_growFrom_138 : dk cX0_growFrom 138 139 (.aload_n 0) 1 := by unfold dk; decide +kernel
theorem dX0_growFrom_139 : dk cX0_growFrom 139 140 (.dup) 1 := by unfold dk; decide +kernel
theorem dX0_growFrom_140 : dk cX0_growFrom 140 143 (.getfield 21) 3 := by unfold dk; decide +kernel
theorem dX0_growFrom_143 : dk cX0_growFrom 143 144 (.iconst 1) 1 := by unfold dk; decide +kernel
theorem dX0_growFrom_144 : dk cX0_growFrom 144 145 (.iadd) 1 := by unfold dk; decide +kernel
theorem dX0_growFrom_145 : dk cX0_growFrom 145 148 (.putfield 21) 3 := by unfold dk; decide +kernel
theorem dX0_growFrom_148 : dk cX0_growFrom 148 150 (.iload 6) 2 := by unfold dk; decide +kernel
theorem dX0_growFrom_150 : dk cX0_growFrom 150 151 (.iconst (-1)) 1 := by unfold dk; decide +kernel
theorem dX0_growFrom_155 : dk cX0_growFrom 155 156 (.aload_n 0) 1 := by unfold dk; decide +kernel
theorem dX0_growFrom_156 : dk cX0_growFrom 156 159 (.getfield 15) 3 := by unfold dk; decide +kernel
theorem dX0_growFrom_159 : dk cX0_growFrom 159 160 (.aload_n 0) 1 := by unfold dk; decide +kernel
theorem dX0_growFrom_160 : dk cX0_growFrom 160 163 (.getfield 21) 3 := by unfold dk; decide +kernel
theorem dX0_growFrom_163 : dk cX0_growFrom 163 164 (.iconst 1) 1 := by unfold dk; decide +kernel
theorem dX0_growFrom_164 : dk cX0_growFrom 164 165 (.isub) 1 := by unfold dk; decide +kernel
theorem dX0_growFrom_165 : dk cX0_growFrom 165 166 (.dup2) 1 := by unfold dk; decide +kernel
theorem dX0_growFrom_166 : dk cX0_growFrom 166 167 (.iaload) 1 := by unfold dk; decide +kernel
theorem dX0_growFrom_167 : dk cX0_growFrom 167 168 (.iconst 1) 1 := by unfold dk; decide +kernel
theorem dX0_growFrom_168 : dk cX0_growFrom 168 169 (.iadd) 1 := by unfold dk; decide +kernel
theorem dX0_growFrom_169 : dk cX0_growFrom 169 170 (.iastore) 1 := by unfold dk; decide +kernel
theorem dX0_growFrom_170 : dk cX0_growFrom 170 172 (.iload 4) 2 := by unfold dk; decide +kernel
theorem dX0_growFrom_172 : dk cX0_growFrom 172 173 (.aload_n 1) 1 := by unfold dk; decide +kernel
theorem dX0_growFrom_173 : dk cX0_growFrom 173 176 (.getfield 41) 3 := by unfold dk; decide +kernel
theorem dX0_growFrom_176 : bk cX0_growFrom 176 179 231 (.if_icmp .ge 55) (55) := by unfold bk; decide +kernel
theorem dX0_growFrom_231 : dk cX0_growFrom 231 232 (.aload_n 0) 1 := by unfold dk; decide +kernel
theorem dX0_growFrom_232 : dk cX0_growFrom 232 233 (.dup) 1 := by unfold dk; decide +kernel
theorem dX0_growFrom_233 : dk cX0_growFrom 233 236 (.getfield 44) 3 := by unfold dk; decide +kernel
theorem dX0_growFrom_236 : dk cX0_growFrom 236 237 (.iconst 1) 1 := by unfold dk; decide +kernel
theorem dX0_growFrom_237 : dk cX0_growFrom 237 238 (.isub) 1 := by unfold dk; decide +kernel
theorem dX0_growFrom_238 : dk cX0_growFrom 238 241 (.putfield 44) 3 := by unfold dk; decide +kernel
theorem dX0_growFrom_241 : dk cX0_growFrom 241 242 (.aload_n 0) 1 := by unfold dk; decide +kernel
theorem dX0_growFrom_242 : dk cX0_growFrom 242 245 (.getfield 18) 3 := by unfold dk; decide +kernel
theorem dX0_growFrom_245 : dk cX0_growFrom 245 247 (.iload 6) 2 := by unfold dk; decide +kernel
theorem dX0_growFrom_247 : dk cX0_growFrom 247 248 (.aload_n 0) 1 := by unfold dk; decide +kernel
theorem dX0_growFrom_248 : dk cX0_growFrom 248 251 (.getfield 18) 3 := by unfold dk; decide +kernel
theorem dX0_growFrom_251 : dk cX0_growFrom 251 252 (.aload_n 0) 1 := by unfold dk; decide +kernel
theorem dX0_growFrom_252 : dk cX0_growFrom 252 255 (.getfield 44) 3 := by unfold dk; decide +kernel
theorem dX0_growFrom_255 : dk cX0_growFrom 255 256 (.iaload) 1 := by unfold dk; decide +kernel
theorem dX0_growFrom_256 : dk cX0_growFrom 256 257 (.iastore) 1 := by unfold dk; decide +kernel
theorem dX0_growFrom_179 : dk cX0_growFrom 179 180 (.aload_n 0) 1 := by unfold dk; decide +kernel
theorem dX0_growFrom_180 : dk cX0_growFrom 180 183 (.getfield 9) 3 := by unfold dk; decide +kernel
theorem dX0_growFrom_183 : dk cX0_growFrom 183 185 (.iload 4) 2 := by unfold dk; decide +kernel
theorem dX0_growFrom_185 : dk cX0_growFrom 185 186 (.aload_n 0) 1 := by unfold dk; decide +kernel
theorem dX0_growFrom_186 : dk cX0_growFrom 186 187 (.aload_n 1) 1 := by unfold dk; decide +kernel
theorem dX0_growFrom_187 : dk cX0_growFrom 187 189 (.iload 4) 2 := by unfold dk; decide +kernel
theorem dX0_growFrom_189 : dk cX0_growFrom 189 190 (.aload_n 0) 1 := by unfold dk; decide +kernel
theorem dX0_growFrom_190 : dk cX0_growFrom 190 193 (.getfield 18) 3 := by unfold dk; decide +kernel
theorem dX0_growFrom_193 : dk cX0_growFrom 193 195 (.iload 6) 2 := by unfold dk; decide +kernel
theorem dX0_growFrom_195 : dk cX0_growFrom 195 196 (.iaload) 1 := by unfold dk; decide +kernel
theorem dX0_growFrom_196 : dk cX0_growFrom 196 199 (.invokevirtual 51) 3 := by unfold dk; decide +kernel
theorem dX0_growFrom_199 : bk cX0_growFrom 199 202 211 (.ifCond .eq 12) (12) := by unfold bk; decide +kernel
theorem dX0_growFrom_211 : dk cX0_growFrom 211 212 (.aload_n 0) 1 := by unfold dk; decide +kernel
theorem dX0_growFrom_212 : dk cX0_growFrom 212 215 (.getfield 21) 3 := by unfold dk; decide +kernel
theorem dX0_growFrom_202 : dk cX0_growFrom 202 203 (.aload_n 0) 1 := by unfold dk; decide +kernel
theorem dX0_growFrom_203 : dk cX0_growFrom 203 206 (.getfield 21) 3 := by unfold dk; decide +kernel
theorem dX0_growFrom_206 : dk cX0_growFrom 206 207 (.iconst 1) 1 := by unfold dk; decide +kernel
theorem dX0_growFrom_207 : dk cX0_growFrom 207 208 (.isub) 1 := by unfold dk; decide +kernel
theorem dX0_growFrom_208 : bk cX0_growFrom 208 211 215 (.goto 7) (7) := by unfold bk; decide +kernel
theorem dX0_growFrom_215 : dk cX0_growFrom 215 216 (.iastore) 1 := by unfold dk; decide +kernel
theorem dX0_growFrom_216 : dk cX0_growFrom 216 217 (.aload_n 0) 1 := by unfold dk; decide +kernel
theorem dX0_growFrom_217 : dk cX0_growFrom 217 220 (.getfield 18) 3 := by unfold dk; decide +kernel
theorem dX0_growFrom_220 : dk cX0_growFrom 220 222 (.iload 6) 2 := by unfold dk; decide +kernel
theorem dX0_growFrom_222 : dk cX0_growFrom 222 224 (.iload 4) 2 := by unfold dk; decide +kernel
theorem dX0_growFrom_224 : dk cX0_growFrom 224 225 (.iastore) 1 := by unfold dk; decide +kernel
theorem dX0_growFrom_225 : dk cX0_growFrom 225 228 (.iinc 4 1) 3 := by unfold dk; decide +kernel
theorem dX0_growFrom_228 : bk cX0_growFrom 228 231 257 (.goto 29) (29) := by unfold bk; decide +kernel
theorem dX0_growFrom_257 : dk cX0_growFrom 257 260 (.iinc 5 1) 3 := by unfold dk; decide +kernel
theorem dX0_growFrom_260 : bk cX0_growFrom 260 263 78 (.goto (-182)) (-182) := by unfold bk; decide +kernel
theorem dX0_growFrom_154 : dk cX0_growFrom 154 155 (.return_) 1 := by unfold dk; decide +kernel
theorem dX0_growFrom_151 : bk cX0_growFrom 151 154 155 (.if_icmp .ne 4) (4) := by unfold bk; decide +kernel
theorem dX0_growFrom_84 : bk cX0_growFrom 84 87 263 (.if_icmp .ge 179) (179) := by unfold bk; decide +kernel
theorem dX0_growFrom_263 : dk cX0_growFrom 263 264 (.return_) 1 := by unfold dk; decide +kernel
def bX0_growFrom_25 (E : En) (v3 : Int32) (a0 : Nat) (rec : Sg → Option ((Unit) × Sg))  (s5 : Sg) : Option ((Unit) × Sg) := if v3 ≤ (gi s5 a0 5) then (some ((), s5)) else (dr (rf E a0 4) E 100 (fun x10 => ck (gi s5 a0 5) (ln E x10) (ss (si s5 x10 (gi s5 a0 5).toNatClampNeg (gi s5 a0 5)) (fun s12 => dr (rf E a0 0) E 100 (fun x13 => ck (gi s12 a0 5) (ln E x13) (ss (si s12 x13 (gi s12 a0 5).toNatClampNeg (0 : Int32)) (fun s15 => ss (si s15 a0 5 ((gi s15 a0 5) + (1 : Int32))) (fun s16 => rec s16))))))))
def bX0_growFrom_78 (E : En) (a1 : Nat) (a0 : Nat) (rec : Int32 → Int32 → Sg → Option (((Int32 × Int32) ⊕ Unit) × Sg)) (v20 : Int32) (v21 : Int32) (s22 : Sg) : Option (((Int32 × Int32) ⊕ Unit) × Sg) := if (gi s22 a1 2) ≤ v21 then (some (.inl (v20, v21), s22)) else (bd (if ¬ (gi s22 a0 2) = 0 then (bd (fX0_nextOut E a0 a1 ((gi s22 a0 2) - (1 : Int32)) s22) (fun r31 s29 => some (r31, s29))) else (some ((-1 : Int32), s22))) (fun w27 s28 => bd (if ¬ w27 = (-1 : Int32) then (some (w27, s28)) else (dr (rf E a0 1) E 100 (fun x34 => ck (gi s28 a0 2) (ln E x34) (ss (si s28 x34 (gi s28 a0 2).toNatClampNeg (0 : Int32)) (fun s36 => bd (fX0_nextOut E a0 a1 (gi s36 a0 2) s36) (fun r39 s37 => ss (si s37 a0 2 ((gi s37 a0 2) + (1 : Int32))) (fun s40 => some (r39, s40)))))))) (fun w32 s33 => if ¬ w32 = (-1 : Int32) then (dr (rf E a0 1) E 100 (fun x41 => ck ((gi s33 a0 2) - (1 : Int32)) (ln E x41) (ck ((gi s33 a0 2) - (1 : Int32)) (ln E x41) (ss (si s33 x41 ((gi s33 a0 2) - (1 : Int32)).toNatClampNeg ((gi s33 x41 ((gi s33 a0 2) - (1 : Int32)).toNatClampNeg) + (1 : Int32))) (fun s44 => bd (if (gi s44 a1 2) ≤ v20 then (ss (si s44 a0 5 ((gi s44 a0 5) - (1 : Int32))) (fun s47 => dr (rf E a0 4) E 100 (fun x48 => ck (gi s47 a0 5) (ln E x48) (ck w32 (ln E x48) (ss (si s47 x48 w32.toNatClampNeg (gi s47 x48 (gi s47 a0 5).toNatClampNeg)) (fun s51 => some (v20, s51))))))) else (dr (rf E a0 0) E 100 (fun x52 => dr (rf E a0 4) E 100 (fun x53 => ck w32 (ln E x53) (bd (fX0_goesOn E a0 a1 v20 (gi s44 x53 w32.toNatClampNeg) s44) (fun r57 s55 => bd (if r57 = 0 then (some ((gi s55 a0 2), s55)) else (some (((gi s55 a0 2) - (1 : Int32)), s55))) (fun w58 s59 => ck v20 (ln E x52) (ss (si s59 x52 v20.toNatClampNeg w58) (fun s61 => ck w32 (ln E x53) (ss (si s61 x53 w32.toNatClampNeg v20) (fun s63 => lt (v20 + (1 : Int32)) (fun v64 => some (v64, s63))))))))))))) (fun w45 s46 => lt (v21 + (1 : Int32)) (fun v65 => rec w45 v65 s46))))))) else (some (.inr (), s33)))))
def fX0_growFrom (E : En) (a0 : Nat) (a1 : Nat) (a2 : Int32) (a3 : Int32) (σ : Sg) : Option (Sg) := tk (cd E a0) 0 (tk (cd E a1) 3 (kb a3 (ss (si σ a0 3 a3) (fun s2 => lt (imin (imin a2 (16 : Int32)) (gi s2 a1 2)) (fun v3 => ss (si s2 a0 5 (0 : Int32)) (fun s4 => bd (fx (fun rec a => bX0_growFrom_25 E v3 a0 (fun t => rec ((), t))  a.2) FU ((), s4)) (fun o17 s18 => ss (si s18 a0 2 (0 : Int32)) (fun s19 => bd (fx (fun rec a => bX0_growFrom_78 E a1 a0 (fun u0 u1 t => rec ((u0, u1), t)) a.1.1 a.1.2 a.2) FU ((v3, (0 : Int32)), s19)) (fun o66 s67 => sm o66 (fun vo66 => some s67) (fun rr => some s67))))))))))
set_option maxHeartbeats 4000000 in
set_option maxRecDepth 100000 in
theorem kX0_growFrom {l : Launch} {G : Gl} {E : En} {a0 : Nat} {a1 : Nat} {a2 : Int32} {a3 : Int32} {σ σ' : Sg} : fX0_growFrom E a0 a1 a2 a3 σ = some σ' → CT l yX0_growFrom cX0_growFrom 7 none ({ frames := 2, cells := 0, slots := 0, locals := 46 } : Room) [.ref (G.1 + a0), .ref (G.1 + a1), .int a2, .int a3] G E σ none σ' := by
  intro h
  refine CT_of (lv0 := [(0, .ref (G.1 + a0)), (1, .ref (G.1 + a1)), (2, .int a2), (3, .int a3)]) (by decide) (Nat.le_of_ble_eq_true rfl) rfl (fun κ hl hR hr C => ?_)
  have C : Cx κ G cX0_growFrom RX0 7 := C
  revert h
  unfold fX0_growFrom
  refine R_tk (fun ha0 => ?_)
  refine R_tk (fun ha1 => ?_)
  refine R_aload_n C 0 rfl dX0_growFrom_0 ?_
  refine R_iload_n C 3 rfl dX0_growFrom_1 ?_
  refine R_kb (fun h1 => ?_)
  refine S_puti C fl0_25 rfl ha0 (nb h1) (fb h1) dX0_growFrom_2 (fun s2 => ?_)
  refine R_iload_n C 2 rfl dX0_growFrom_5 ?_
  refine R_bipush C (16) dX0_growFrom_6 (by decide) ?_
  refine R_mmin C jd0_35 (by rw [hR]; exact ⟨Nat.le_of_ble_eq_true rfl, Nat.le_of_ble_eq_true rfl, Nat.zero_le _, Nat.zero_le _⟩) dX0_growFrom_8 ?_
  refine R_aload_n C 1 rfl dX0_growFrom_11 ?_
  refine R_geti C fl0_41 rfl ha1 dX0_growFrom_12 ?_
  refine R_mmin C jd0_35 (by rw [hR]; exact ⟨Nat.le_of_ble_eq_true rfl, Nat.le_of_ble_eq_true rfl, Nat.zero_le _, Nat.zero_le _⟩) dX0_growFrom_15 ?_
  refine S_istore C dX0_growFrom_18 (fun v3 => [(4, .int v3), (0, .ref (G.1 + a0)), (1, .ref (G.1 + a1)), (2, .int a2), (3, .int a3)]) (by decide) (fun _ => rfl) (fun v3 => ?_)
  refine R_aload_n C 1 rfl dX0_growFrom_20 ?_
  refine R_iconst C (0) dX0_growFrom_21 (by decide) ?_
  refine S_puti C fl0_44 rfl ha0 rfl rfl dX0_growFrom_22 (fun s4 => ?_)
  refine R_loc (lv2 := [(4, .int v3), (0, .ref (G.1 + a0)), (1, .ref (G.1 + a1))]) [0, 1, 2] rfl ?_
  refine R_loop (fun (a : (Unit) × Sg) => V κ G (QQ κ G E none σ') E a.2 (false, 0, 0) 25 [(4, .int v3), (0, .ref (G.1 + a0)), (1, .ref (G.1 + a1))] []) (fun (o : (Unit)) (s : Sg) => V κ G (QQ κ G E none σ') E s (false, 0, 0) 70 [(4, .int v3), (0, .ref (G.1 + a0)), (1, .ref (G.1 + a1))] []) ((), s4) (fun o17 s18 => ?_) (fun rec I9 a b7 s8 K6 => ?_)
  · refine R_aload_n C 1 rfl dX0_growFrom_70 ?_
    refine R_iconst C (0) dX0_growFrom_71 (by decide) ?_
    refine S_puti C fl0_21 rfl ha0 rfl rfl dX0_growFrom_72 (fun s19 => ?_)
    refine R_iconst C (0) dX0_growFrom_75 (by decide) ?_
    refine R_istore (lv2 := [(5, .int (0 : Int32)), (4, .int v3), (0, .ref (G.1 + a0)), (1, .ref (G.1 + a1))]) C dX0_growFrom_76 (by decide) rfl ?_
    refine R_loc (lv2 := [(0, .ref (G.1 + a0)), (1, .ref (G.1 + a1)), (4, .int v3), (5, .int (0 : Int32))]) [2, 3, 1, 0] rfl ?_
    refine R_loop (fun (a : (Int32 × Int32) × Sg) => V κ G (QQ κ G E none σ') E a.2 (false, 0, 0) 78 [(0, .ref (G.1 + a0)), (1, .ref (G.1 + a1)), (4, .int a.1.1), (5, .int a.1.2)] []) (fun (o : ((Int32 × Int32) ⊕ Unit)) (s : Sg) => sm o (fun o => V κ G (QQ κ G E none σ') E s (false, 0, 0) 263 [] []) (fun rr => some s = some σ')) ((v3, (0 : Int32)), s19) (fun o66 s67 => ?_) (fun rec I26 a b24 s25 K23 => ?_)
    · rcases o66 with vo66 | ro66
      · exact R_vret C hr dX0_growFrom_263
      · exact fun h => h
    · obtain ⟨⟨v20, v21⟩, s22⟩ := a
      show bX0_growFrom_78 E a1 a0 (fun u0 u1 t => rec ((u0, u1), t)) v20 v21 s22 = some (b24, s25) → V κ G (QQ κ G E none σ') E s22 (false, 0, 0) 78 [(0, .ref (G.1 + a0)), (1, .ref (G.1 + a1)), (4, .int v20), (5, .int v21)] []
      unfold bX0_growFrom_78
      refine R_iload C 3 rfl dX0_growFrom_78 ?_
      refine R_aload_n C 1 rfl dX0_growFrom_80 ?_
      refine R_geti C fl0_41 rfl ha1 dX0_growFrom_81 ?_
      refine B_icmp_ge C dX0_growFrom_84 ?_ ?_
      · refine R_loc (lv2 := []) [] rfl ?_
        exact R_inr (VX := (fun (o : ((Int32 × Int32) ⊕ Unit)) (s : Sg) => sm o (fun o => V κ G (QQ κ G E none σ') E s (false, 0, 0) 263 [] []) (fun rr => some s = some σ'))) (i := .inl) K23 (fun h => h)
      · refine R_aload_n C 0 rfl dX0_growFrom_87 ?_
        refine R_geti C fl0_21 rfl ha0 dX0_growFrom_88 ?_
        refine R_bdK (fun (w : Int32) (s : Sg) => V κ G (QQ κ G E none σ') E s (false, 0, 0) 109 [(0, .ref (G.1 + a0)), (1, .ref (G.1 + a1)), (4, .int v20), (5, .int v21)] [.int w]) (fun w27 s28 => ?_) (fun w27 s28 Kw27 => ?_)
        · refine R_istore (lv2 := [(6, .int w27), (0, .ref (G.1 + a0)), (1, .ref (G.1 + a1)), (4, .int v20), (5, .int v21)]) C dX0_growFrom_109 (by decide) rfl ?_
          refine R_iload C 0 rfl dX0_growFrom_111 ?_
          refine R_iconst C (-1) dX0_growFrom_113 (by decide) ?_
          refine R_bdK (fun (w : Int32) (s : Sg) => V κ G (QQ κ G E none σ') E s (false, 0, 0) 148 [(0, .ref (G.1 + a0)), (1, .ref (G.1 + a1)), (4, .int v20), (5, .int v21), (6, .int w)] []) (fun w32 s33 => ?_) (fun w32 s33 Kw32 => ?_)
          · refine R_iload C 4 rfl dX0_growFrom_148 ?_
            refine R_iconst C (-1) dX0_growFrom_150 (by decide) ?_
            refine B_icmp_ne C dX0_growFrom_151 ?_ ?_
            · refine R_aload_n C 0 rfl dX0_growFrom_155 ?_
              refine R_dr (fun x41 rx41 cx41 => ?_)
              refine R_getr C fl0_15 rfl ha0 rx41 dX0_growFrom_156 ?_
              refine R_aload_n C 0 rfl dX0_growFrom_159 ?_
              refine R_geti C fl0_21 rfl ha0 dX0_growFrom_160 ?_
              refine R_iconst C (1) dX0_growFrom_163 (by decide) ?_
              refine R_isub C dX0_growFrom_164 ?_
              refine R_dup2 C dX0_growFrom_165 rfl rfl ?_
              refine R_ck (fun h42 => ?_)
              refine R_iald C cx41 h42 dX0_growFrom_166 ?_
              refine R_iconst C (1) dX0_growFrom_167 (by decide) ?_
              refine R_iadd C dX0_growFrom_168 ?_
              refine R_ck (fun h43 => ?_)
              refine S_iast C cx41 h43 dX0_growFrom_169 (fun s44 => ?_)
              refine R_iload C 2 rfl dX0_growFrom_170 ?_
              refine R_aload_n C 1 rfl dX0_growFrom_172 ?_
              refine R_geti C fl0_41 rfl ha1 dX0_growFrom_173 ?_
              refine R_bdK (fun (w : Int32) (s : Sg) => V κ G (QQ κ G E none σ') E s (false, 0, 0) 257 [(0, .ref (G.1 + a0)), (1, .ref (G.1 + a1)), (5, .int v21), (4, .int w)] []) (fun w45 s46 => ?_) (fun w45 s46 Kw45 => ?_)
              · refine S_iinc (fun v65 => [(5, .int v65), (0, .ref (G.1 + a0)), (1, .ref (G.1 + a1)), (4, .int w45)]) 2 C dX0_growFrom_257 rfl (by decide) (by decide) (fun _ => rfl) (fun v65 => ?_)
                refine R_goto C dX0_growFrom_260 ?_
                refine R_loc (lv2 := [(0, .ref (G.1 + a0)), (1, .ref (G.1 + a1)), (4, .int w45), (5, .int v65)]) [1, 2, 3, 0] rfl ?_
                exact I26 ((w45, v65), s46) b24 s25 K23
              · refine B_icmp_ge C dX0_growFrom_176 ?_ ?_
                · refine R_aload_n C 0 rfl dX0_growFrom_231 ?_
                  refine R_dup C dX0_growFrom_232 rfl ?_
                  refine R_geti C fl0_44 rfl ha0 dX0_growFrom_233 ?_
                  refine R_iconst C (1) dX0_growFrom_236 (by decide) ?_
                  refine R_isub C dX0_growFrom_237 ?_
                  refine S_puti C fl0_44 rfl ha0 rfl rfl dX0_growFrom_238 (fun s47 => ?_)
                  refine R_aload_n C 0 rfl dX0_growFrom_241 ?_
                  refine R_dr (fun x48 rx48 cx48 => ?_)
                  refine R_getr C fl0_18 rfl ha0 rx48 dX0_growFrom_242 ?_
                  refine R_iload C 4 rfl dX0_growFrom_245 ?_
                  refine R_aload_n C 0 rfl dX0_growFrom_247 ?_
                  refine R_getr C fl0_18 rfl ha0 rx48 dX0_growFrom_248 ?_
                  refine R_aload_n C 0 rfl dX0_growFrom_251 ?_
                  refine R_geti C fl0_44 rfl ha0 dX0_growFrom_252 ?_
                  refine R_ck (fun h49 => ?_)
                  refine R_iald C cx48 h49 dX0_growFrom_255 ?_
                  refine R_ck (fun h50 => ?_)
                  refine S_iast C cx48 h50 dX0_growFrom_256 (fun s51 => ?_)
                  refine R_loc (lv2 := [(0, .ref (G.1 + a0)), (1, .ref (G.1 + a1)), (5, .int v21), (4, .int v20)]) [0, 1, 3, 2] rfl ?_
                  exact R_end (fun (w : Int32) (s : Sg) => V κ G (QQ κ G E none σ') E s (false, 0, 0) 257 [(0, .ref (G.1 + a0)), (1, .ref (G.1 + a1)), (5, .int v21), (4, .int w)] []) Kw45
                · refine R_aload_n C 0 rfl dX0_growFrom_179 ?_
                  refine R_dr (fun x52 rx52 cx52 => ?_)
                  refine R_getr C fl0_9 rfl ha0 rx52 dX0_growFrom_180 ?_
                  refine R_iload C 2 rfl dX0_growFrom_183 ?_
                  refine R_aload_n C 0 rfl dX0_growFrom_185 ?_
                  refine R_aload_n C 1 rfl dX0_growFrom_186 ?_
                  refine R_iload C 2 rfl dX0_growFrom_187 ?_
                  refine R_aload_n C 0 rfl dX0_growFrom_189 ?_
                  refine R_dr (fun x53 rx53 cx53 => ?_)
                  refine R_getr C fl0_18 rfl ha0 rx53 dX0_growFrom_190 ?_
                  refine R_iload C 4 rfl dX0_growFrom_193 ?_
                  refine R_ck (fun h54 => ?_)
                  refine R_iald C cx53 h54 dX0_growFrom_195 ?_
                  refine R_bd (fun r57 s55 q56 => ?_)
                  refine R_callVi [.ref (G.1 + a1), .int v20, .int (gi s44 x53 w32.toNatClampNeg)] [.int v20, .ref (G.1 + x52)] C ml0_51 (kX0_goesOn q56) (by rw [hR]; exact ⟨rfl, rfl, Nat.le_of_ble_eq_true rfl, Nat.le_of_ble_eq_true rfl, Nat.zero_le _, Nat.zero_le _⟩) ha0 rfl rfl (Nat.le_of_ble_eq_true rfl) dX0_growFrom_196 ?_
                  refine R_bdK (fun (w : Int32) (s : Sg) => V κ G (QQ κ G E none σ') E s (false, 0, 0) 215 [(0, .ref (G.1 + a0)), (1, .ref (G.1 + a1)), (4, .int v20), (5, .int v21), (6, .int w32)] [.int w, .int v20, .ref (G.1 + x52)]) (fun w58 s59 => ?_) (fun w58 s59 Kw58 => ?_)
                  · refine R_ck (fun h60 => ?_)
                    refine S_iast C cx52 h60 dX0_growFrom_215 (fun s61 => ?_)
                    refine R_aload_n C 0 rfl dX0_growFrom_216 ?_
                    refine R_getr C fl0_18 rfl ha0 rx53 dX0_growFrom_217 ?_
                    refine R_iload C 4 rfl dX0_growFrom_220 ?_
                    refine R_iload C 2 rfl dX0_growFrom_222 ?_
                    refine R_ck (fun h62 => ?_)
                    refine S_iast C cx53 h62 dX0_growFrom_224 (fun s63 => ?_)
                    refine S_iinc (fun v64 => [(4, .int v64), (0, .ref (G.1 + a0)), (1, .ref (G.1 + a1)), (5, .int v21), (6, .int w32)]) 2 C dX0_growFrom_225 rfl (by decide) (by decide) (fun _ => rfl) (fun v64 => ?_)
                    refine R_goto C dX0_growFrom_228 ?_
                    refine R_loc (lv2 := [(0, .ref (G.1 + a0)), (1, .ref (G.1 + a1)), (5, .int v21), (4, .int v64)]) [1, 2, 3, 0] rfl ?_
                    exact R_end (fun (w : Int32) (s : Sg) => V κ G (QQ κ G E none σ') E s (false, 0, 0) 257 [(0, .ref (G.1 + a0)), (1, .ref (G.1 + a1)), (5, .int v21), (4, .int w)] []) Kw45
                  · refine B_if_eq C dX0_growFrom_199 ?_ ?_
                    · refine R_aload_n C 0 rfl dX0_growFrom_211 ?_
                      refine R_geti C fl0_21 rfl ha0 dX0_growFrom_212 ?_
                      exact R_end (fun (w : Int32) (s : Sg) => V κ G (QQ κ G E none σ') E s (false, 0, 0) 215 [(0, .ref (G.1 + a0)), (1, .ref (G.1 + a1)), (4, .int v20), (5, .int v21), (6, .int w32)] [.int w, .int v20, .ref (G.1 + x52)]) Kw58
                    · refine R_aload_n C 0 rfl dX0_growFrom_202 ?_
                      refine R_geti C fl0_21 rfl ha0 dX0_growFrom_203 ?_
                      refine R_iconst C (1) dX0_growFrom_206 (by decide) ?_
                      refine R_isub C dX0_growFrom_207 ?_
                      refine R_goto C dX0_growFrom_208 ?_
                      exact R_end (fun (w : Int32) (s : Sg) => V κ G (QQ κ G E none σ') E s (false, 0, 0) 215 [(0, .ref (G.1 + a0)), (1, .ref (G.1 + a1)), (4, .int v20), (5, .int v21), (6, .int w32)] [.int w, .int v20, .ref (G.1 + x52)]) Kw58
            · exact R_inr (VX := (fun (o : ((Int32 × Int32) ⊕ Unit)) (s : Sg) => sm o (fun o => V κ G (QQ κ G E none σ') E s (false, 0, 0) 263 [] []) (fun rr => some s = some σ'))) (i := .inr) K23 (R_vret C hr dX0_growFrom_154)
          · refine B_icmp_ne C dX0_growFrom_114 ?_ ?_
            · refine R_loc (lv2 := [(0, .ref (G.1 + a0)), (1, .ref (G.1 + a1)), (4, .int v20), (5, .int v21), (6, .int w27)]) [1, 2, 3, 4, 0] rfl ?_
              exact R_end (fun (w : Int32) (s : Sg) => V κ G (QQ κ G E none σ') E s (false, 0, 0) 148 [(0, .ref (G.1 + a0)), (1, .ref (G.1 + a1)), (4, .int v20), (5, .int v21), (6, .int w)] []) Kw32
            · refine R_aload_n C 1 rfl dX0_growFrom_117 ?_
              refine R_dr (fun x34 rx34 cx34 => ?_)
              refine R_getr C fl0_15 rfl ha0 rx34 dX0_growFrom_118 ?_
              refine R_aload_n C 1 rfl dX0_growFrom_121 ?_
              refine R_geti C fl0_21 rfl ha0 dX0_growFrom_122 ?_
              refine R_iconst C (0) dX0_growFrom_125 (by decide) ?_
              refine R_ck (fun h35 => ?_)
              refine S_iast C cx34 h35 dX0_growFrom_126 (fun s36 => ?_)
              refine R_aload_n C 1 rfl dX0_growFrom_127 ?_
              refine R_aload_n C 2 rfl dX0_growFrom_128 ?_
              refine R_aload_n C 1 rfl dX0_growFrom_129 ?_
              refine R_geti C fl0_21 rfl ha0 dX0_growFrom_130 ?_
              refine R_bd (fun r39 s37 q38 => ?_)
              refine R_callVi [.ref (G.1 + a1), .int (gi s36 a0 2)] [] C ml0_47 (kX0_nextOut q38) (by rw [hR]; exact ⟨rfl, rfl, Nat.le_of_ble_eq_true rfl, Nat.le_of_ble_eq_true rfl, Nat.zero_le _, Nat.zero_le _⟩) ha0 rfl rfl (Nat.le_of_ble_eq_true rfl) dX0_growFrom_133 ?_
              refine R_istore (lv2 := [(6, .int r39), (0, .ref (G.1 + a0)), (1, .ref (G.1 + a1)), (4, .int v20), (5, .int v21)]) C dX0_growFrom_136 (by decide) rfl ?_
              refine R_aload_n C 1 rfl dX0_growFrom_138 ?_
              refine R_dup C dX0_growFrom_139 rfl ?_
              refine R_geti C fl0_21 rfl ha0 dX0_growFrom_140 ?_
              refine R_iconst C (1) dX0_growFrom_143 (by decide) ?_
              refine R_iadd C dX0_growFrom_144 ?_
              refine S_puti C fl0_21 rfl ha0 rfl rfl dX0_growFrom_145 (fun s40 => ?_)
              refine R_loc (lv2 := [(0, .ref (G.1 + a0)), (1, .ref (G.1 + a1)), (4, .int v20), (5, .int v21), (6, .int r39)]) [1, 2, 3, 4, 0] rfl ?_
              exact R_end (fun (w : Int32) (s : Sg) => V κ G (QQ κ G E none σ') E s (false, 0, 0) 148 [(0, .ref (G.1 + a0)), (1, .ref (G.1 + a1)), (4, .int v20), (5, .int v21), (6, .int w)] []) Kw32
        · refine B_if_ne C dX0_growFrom_91 ?_ ?_
          · refine R_aload_n C 0 rfl dX0_growFrom_98 ?_
            refine R_aload_n C 1 rfl dX0_growFrom_99 ?_
            refine R_aload_n C 0 rfl dX0_growFrom_100 ?_
            refine R_geti C fl0_21 rfl ha0 dX0_growFrom_101 ?_
            refine R_iconst C (1) dX0_growFrom_104 (by decide) ?_
            refine R_isub C dX0_growFrom_105 ?_
            refine R_bd (fun r31 s29 q30 => ?_)
            refine R_callVi [.ref (G.1 + a1), .int ((gi s22 a0 2) - (1 : Int32))] [] C ml0_47 (kX0_nextOut q30) (by rw [hR]; exact ⟨rfl, rfl, Nat.le_of_ble_eq_true rfl, Nat.le_of_ble_eq_true rfl, Nat.zero_le _, Nat.zero_le _⟩) ha0 rfl rfl (Nat.le_of_ble_eq_true rfl) dX0_growFrom_106 ?_
            exact R_end (fun (w : Int32) (s : Sg) => V κ G (QQ κ G E none σ') E s (false, 0, 0) 109 [(0, .ref (G.1 + a0)), (1, .ref (G.1 + a1)), (4, .int v20), (5, .int v21)] [.int w]) Kw27
          · refine R_iconst C (-1) dX0_growFrom_94 (by decide) ?_
            refine R_goto C dX0_growFrom_95 ?_
            exact R_end (fun (w : Int32) (s : Sg) => V κ G (QQ κ G E none σ') E s (false, 0, 0) 109 [(0, .ref (G.1 + a0)), (1, .ref (G.1 + a1)), (4, .int v20), (5, .int v21)] [.int w]) Kw27
  · obtain ⟨_, s5⟩ := a
    show bX0_growFrom_25 E v3 a0 (fun t => rec ((), t))  s5 = some (b7, s8) → V κ G (QQ κ G E none σ') E s5 (false, 0, 0) 25 [(4, .int v3), (0, .ref (G.1 + a0)), (1, .ref (G.1 + a1))] []
    unfold bX0_growFrom_25
    refine R_aload_n C 1 rfl dX0_growFrom_25 ?_
    refine R_geti C fl0_44 rfl ha0 dX0_growFrom_26 ?_
    refine R_iload C 0 rfl dX0_growFrom_29 ?_
    refine B_icmp_ge C dX0_growFrom_31 ?_ ?_
    · exact R_end (fun (o : (Unit)) (s : Sg) => V κ G (QQ κ G E none σ') E s (false, 0, 0) 70 [(4, .int v3), (0, .ref (G.1 + a0)), (1, .ref (G.1 + a1))] []) K6
    · refine R_aload_n C 1 rfl dX0_growFrom_34 ?_
      refine R_dr (fun x10 rx10 cx10 => ?_)
      refine R_getr C fl0_18 rfl ha0 rx10 dX0_growFrom_35 ?_
      refine R_aload_n C 1 rfl dX0_growFrom_38 ?_
      refine R_geti C fl0_44 rfl ha0 dX0_growFrom_39 ?_
      refine R_aload_n C 1 rfl dX0_growFrom_42 ?_
      refine R_geti C fl0_44 rfl ha0 dX0_growFrom_43 ?_
      refine R_ck (fun h11 => ?_)
      refine S_iast C cx10 h11 dX0_growFrom_46 (fun s12 => ?_)
      refine R_aload_n C 1 rfl dX0_growFrom_47 ?_
      refine R_dr (fun x13 rx13 cx13 => ?_)
      refine R_getr C fl0_9 rfl ha0 rx13 dX0_growFrom_48 ?_
      refine R_aload_n C 1 rfl dX0_growFrom_51 ?_
      refine R_geti C fl0_44 rfl ha0 dX0_growFrom_52 ?_
      refine R_iconst C (0) dX0_growFrom_55 (by decide) ?_
      refine R_ck (fun h14 => ?_)
      refine S_iast C cx13 h14 dX0_growFrom_56 (fun s15 => ?_)
      refine R_aload_n C 1 rfl dX0_growFrom_57 ?_
      refine R_dup C dX0_growFrom_58 rfl ?_
      refine R_geti C fl0_44 rfl ha0 dX0_growFrom_59 ?_
      refine R_iconst C (1) dX0_growFrom_62 (by decide) ?_
      refine R_iadd C dX0_growFrom_63 ?_
      refine S_puti C fl0_44 rfl ha0 rfl rfl dX0_growFrom_64 (fun s16 => ?_)
      refine R_goto C dX0_growFrom_67 ?_
      exact I9 ((), s16) b7 s8 K6
end
section
theorem dX1_copyFrom_0 : dk cX1_copyFrom 0 1 (.aload_n 0) 1 := by unfold dk; decide +kernel
theorem dX1_copyFrom_1 : dk cX1_copyFrom 1 2 (.aload_n 1) 1 := by unfold dk; decide +kernel
theorem dX1_copyFrom_2 : dk cX1_copyFrom 2 5 (.getfield 55) 3 := by unfold dk; decide +kernel
theorem dX1_copyFrom_5 : dk cX1_copyFrom 5 8 (.putfield 55) 3 := by unfold dk; decide +kernel
theorem dX1_copyFrom_8 : dk cX1_copyFrom 8 9 (.aload_n 0) 1 := by unfold dk; decide +kernel
theorem dX1_copyFrom_9 : dk cX1_copyFrom 9 10 (.aload_n 1) 1 := by unfold dk; decide +kernel
theorem dX1_copyFrom_10 : dk cX1_copyFrom 10 13 (.getfield 58) 3 := by unfold dk; decide +kernel
theorem dX1_copyFrom_13 : dk cX1_copyFrom 13 16 (.putfield 58) 3 := by unfold dk; decide +kernel
theorem dX1_copyFrom_16 : dk cX1_copyFrom 16 17 (.aload_n 0) 1 := by unfold dk; decide +kernel
theorem dX1_copyFrom_17 : dk cX1_copyFrom 17 18 (.aload_n 1) 1 := by unfold dk; decide +kernel
theorem dX1_copyFrom_18 : dk cX1_copyFrom 18 21 (.getfield 9) 3 := by unfold dk; decide +kernel
theorem dX1_copyFrom_21 : dk cX1_copyFrom 21 24 (.putfield 9) 3 := by unfold dk; decide +kernel
theorem dX1_copyFrom_24 : dk cX1_copyFrom 24 25 (.aload_n 0) 1 := by unfold dk; decide +kernel
theorem dX1_copyFrom_25 : dk cX1_copyFrom 25 26 (.aload_n 1) 1 := by unfold dk; decide +kernel
theorem dX1_copyFrom_26 : dk cX1_copyFrom 26 29 (.getfield 61) 3 := by unfold dk; decide +kernel
theorem dX1_copyFrom_29 : dk cX1_copyFrom 29 32 (.putfield 61) 3 := by unfold dk; decide +kernel
theorem dX1_copyFrom_32 : dk cX1_copyFrom 32 33 (.aload_n 0) 1 := by unfold dk; decide +kernel
theorem dX1_copyFrom_33 : dk cX1_copyFrom 33 34 (.aload_n 1) 1 := by unfold dk; decide +kernel
theorem dX1_copyFrom_34 : dk cX1_copyFrom 34 37 (.getfield 65) 3 := by unfold dk; decide +kernel
theorem dX1_copyFrom_37 : dk cX1_copyFrom 37 38 (.aload_n 0) 1 := by unfold dk; decide +kernel
theorem dX1_copyFrom_38 : dk cX1_copyFrom 38 41 (.getfield 48) 3 := by unfold dk; decide +kernel
theorem dX1_copyFrom_41 : dk cX1_copyFrom 41 42 (.arraylength) 1 := by unfold dk; decide +kernel
theorem dX1_copyFrom_42 : dk cX1_copyFrom 42 45 (.invokestatic 68) 3 := by unfold dk; decide +kernel
theorem dX1_copyFrom_45 : dk cX1_copyFrom 45 48 (.putfield 65) 3 := by unfold dk; decide +kernel
theorem dX1_copyFrom_48 : dk cX1_copyFrom 48 49 (.aload_n 0) 1 := by unfold dk; decide +kernel
theorem dX1_copyFrom_49 : dk cX1_copyFrom 49 50 (.aload_n 1) 1 := by unfold dk; decide +kernel
theorem dX1_copyFrom_50 : dk cX1_copyFrom 50 53 (.getfield 71) 3 := by unfold dk; decide +kernel
theorem dX1_copyFrom_53 : dk cX1_copyFrom 53 56 (.putfield 71) 3 := by unfold dk; decide +kernel
theorem dX1_copyFrom_56 : dk cX1_copyFrom 56 57 (.aload_n 0) 1 := by unfold dk; decide +kernel
theorem dX1_copyFrom_57 : dk cX1_copyFrom 57 58 (.aload_n 1) 1 := by unfold dk; decide +kernel
theorem dX1_copyFrom_58 : dk cX1_copyFrom 58 61 (.getfield 74) 3 := by unfold dk; decide +kernel
theorem dX1_copyFrom_61 : dk cX1_copyFrom 61 64 (.putfield 74) 3 := by unfold dk; decide +kernel
theorem dX1_copyFrom_64 : dk cX1_copyFrom 64 65 (.aload_n 0) 1 := by unfold dk; decide +kernel
theorem dX1_copyFrom_65 : dk cX1_copyFrom 65 66 (.aload_n 1) 1 := by unfold dk; decide +kernel
theorem dX1_copyFrom_66 : dk cX1_copyFrom 66 69 (.getfield 77) 3 := by unfold dk; decide +kernel
theorem dX1_copyFrom_69 : dk cX1_copyFrom 69 72 (.putfield 77) 3 := by unfold dk; decide +kernel
theorem dX1_copyFrom_72 : dk cX1_copyFrom 72 73 (.aload_n 1) 1 := by unfold dk; decide +kernel
theorem dX1_copyFrom_73 : dk cX1_copyFrom 73 76 (.getfield 48) 3 := by unfold dk; decide +kernel
theorem dX1_copyFrom_76 : dk cX1_copyFrom 76 77 (.iconst 0) 1 := by unfold dk; decide +kernel
theorem dX1_copyFrom_77 : dk cX1_copyFrom 77 78 (.aload_n 0) 1 := by unfold dk; decide +kernel
theorem dX1_copyFrom_78 : dk cX1_copyFrom 78 81 (.getfield 48) 3 := by unfold dk; decide +kernel
theorem dX1_copyFrom_81 : dk cX1_copyFrom 81 82 (.iconst 0) 1 := by unfold dk; decide +kernel
theorem dX1_copyFrom_82 : dk cX1_copyFrom 82 83 (.aload_n 0) 1 := by unfold dk; decide +kernel
theorem dX1_copyFrom_83 : dk cX1_copyFrom 83 86 (.getfield 65) 3 := by unfold dk; decide +kernel
theorem dX1_copyFrom_86 : dk cX1_copyFrom 86 89 (.invokestatic 80) 3 := by unfold dk; decide +kernel
theorem dX1_copyFrom_89 : dk cX1_copyFrom 89 90 (.aload_n 1) 1 := by unfold dk; decide +kernel
theorem dX1_copyFrom_90 : dk cX1_copyFrom 90 93 (.getfield 25) 3 := by unfold dk; decide +kernel
theorem dX1_copyFrom_93 : dk cX1_copyFrom 93 94 (.iconst 0) 1 := by unfold dk; decide +kernel
theorem dX1_copyFrom_94 : dk cX1_copyFrom 94 95 (.aload_n 0) 1 := by unfold dk; decide +kernel
theorem dX1_copyFrom_95 : dk cX1_copyFrom 95 98 (.getfield 25) 3 := by unfold dk; decide +kernel
theorem dX1_copyFrom_98 : dk cX1_copyFrom 98 99 (.iconst 0) 1 := by unfold dk; decide +kernel
theorem dX1_copyFrom_99 : dk cX1_copyFrom 99 101 (.bipush 6) 2 := by unfold dk; decide +kernel
theorem dX1_copyFrom_101 : dk cX1_copyFrom 101 104 (.invokestatic 80) 3 := by unfold dk; decide +kernel
theorem dX1_copyFrom_104 : dk cX1_copyFrom 104 105 (.iconst 0) 1 := by unfold dk; decide +kernel
theorem dX1_copyFrom_105 : dk cX1_copyFrom 105 106 (.istore_n 2) 1 := by unfold dk; decide +kernel
theorem dX1_copyFrom_106 : dk cX1_copyFrom 106 107 (.iload_n 2) 1 := by unfold dk; decide +kernel
theorem dX1_copyFrom_107 : dk cX1_copyFrom 107 108 (.aload_n 0) 1 := by unfold dk; decide +kernel
theorem dX1_copyFrom_108 : dk cX1_copyFrom 108 111 (.getfield 65) 3 := by unfold dk; decide +kernel
theorem dX1_copyFrom_114 : dk cX1_copyFrom 114 115 (.aload_n 0) 1 := by unfold dk; decide +kernel
theorem dX1_copyFrom_115 : dk cX1_copyFrom 115 118 (.getfield 51) 3 := by unfold dk; decide +kernel
theorem dX1_copyFrom_118 : dk cX1_copyFrom 118 119 (.iload_n 2) 1 := by unfold dk; decide +kernel
theorem dX1_copyFrom_119 : dk cX1_copyFrom 119 120 (.aload_n 1) 1 := by unfold dk; decide +kernel
theorem dX1_copyFrom_120 : dk cX1_copyFrom 120 123 (.getfield 51) 3 := by unfold dk; decide +kernel
theorem dX1_copyFrom_123 : dk cX1_copyFrom 123 124 (.iload_n 2) 1 := by unfold dk; decide +kernel
theorem dX1_copyFrom_124 : dk cX1_copyFrom 124 125 (.baload) 1 := by unfold dk; decide +kernel
theorem dX1_copyFrom_125 : dk cX1_copyFrom 125 126 (.bastore) 1 := by unfold dk; decide +kernel
theorem dX1_copyFrom_126 : dk cX1_copyFrom 126 129 (.iinc 2 1) 3 := by unfold dk; decide +kernel
theorem dX1_copyFrom_129 : bk cX1_copyFrom 129 132 106 (.goto (-23)) (-23) := by unfold bk; decide +kernel
theorem dX1_copyFrom_111 : bk cX1_copyFrom 111 114 132 (.if_icmp .ge 21) (21) := by unfold bk; decide +kernel
theorem dX1_copyFrom_132 : dk cX1_copyFrom 132 133 (.iconst 0) 1 := by unfold dk; decide +kernel
theorem dX1_copyFrom_133 : dk cX1_copyFrom 133 134 (.istore_n 2) 1 := by unfold dk; decide +kernel
theorem dX1_copyFrom_134 : dk cX1_copyFrom 134 135 (.iload_n 2) 1 := by unfold dk; decide +kernel
theorem dX1_copyFrom_135 : dk cX1_copyFrom 135 137 (.bipush 6) 2 := by unfold dk; decide +kernel
theorem dX1_copyFrom_140 : dk cX1_copyFrom 140 141 (.aload_n 0) 1 := by unfold dk; decide +kernel
theorem dX1_copyFrom_141 : dk cX1_copyFrom 141 144 (.getfield 17) 3 := by unfold dk; decide +kernel
theorem dX1_copyFrom_144 : dk cX1_copyFrom 144 145 (.iload_n 2) 1 := by unfold dk; decide +kernel
theorem dX1_copyFrom_145 : dk cX1_copyFrom 145 146 (.aaload) 1 := by unfold dk; decide +kernel
theorem dX1_copyFrom_146 : dk cX1_copyFrom 146 147 (.aload_n 1) 1 := by unfold dk; decide +kernel
theorem dX1_copyFrom_147 : dk cX1_copyFrom 147 150 (.getfield 17) 3 := by unfold dk; decide +kernel
theorem dX1_copyFrom_150 : dk cX1_copyFrom 150 151 (.iload_n 2) 1 := by unfold dk; decide +kernel
theorem dX1_copyFrom_151 : dk cX1_copyFrom 151 152 (.aaload) 1 := by unfold dk; decide +kernel
theorem dX1_copyFrom_152 : dk cX1_copyFrom 152 155 (.invokevirtual 86) 3 := by unfold dk; decide +kernel
theorem dX1_copyFrom_155 : dk cX1_copyFrom 155 156 (.aload_n 0) 1 := by unfold dk; decide +kernel
theorem dX1_copyFrom_156 : dk cX1_copyFrom 156 159 (.getfield 21) 3 := by unfold dk; decide +kernel
theorem dX1_copyFrom_159 : dk cX1_copyFrom 159 160 (.iload_n 2) 1 := by unfold dk; decide +kernel
theorem dX1_copyFrom_160 : dk cX1_copyFrom 160 161 (.aload_n 1) 1 := by unfold dk; decide +kernel
theorem dX1_copyFrom_161 : dk cX1_copyFrom 161 164 (.getfield 21) 3 := by unfold dk; decide +kernel
theorem dX1_copyFrom_164 : dk cX1_copyFrom 164 165 (.iload_n 2) 1 := by unfold dk; decide +kernel
theorem dX1_copyFrom_165 : dk cX1_copyFrom 165 166 (.baload) 1 := by unfold dk; decide +kernel
theorem dX1_copyFrom_166 : dk cX1_copyFrom 166 167 (.bastore) 1 := by unfold dk; decide +kernel
theorem dX1_copyFrom_167 : dk cX1_copyFrom 167 170 (.iinc 2 1) 3 := by unfold dk; decide +kernel
theorem dX1_copyFrom_170 : bk cX1_copyFrom 170 173 134 (.goto (-36)) (-36) := by unfold bk; decide +kernel
theorem dX1_copyFrom_137 : bk cX1_copyFrom 137 140 173 (.if_icmp .ge 36) (36) := by unfold bk; decide +kernel
theorem dX1_copyFrom_173 : dk cX1_copyFrom 173 174 (.return_) 1 := by unfold dk; decide +kernel
def bX1_copyFrom_106 (E : En) (a0 : Nat) (a1 : Nat) (rec : Int32 → Sg → Option ((Int32) × Sg)) (v17 : Int32) (s18 : Sg) : Option ((Int32) × Sg) := if (gi s18 a0 7) ≤ v17 then (some (v17, s18)) else (dr (rf E a0 6) E 101 (fun x23 => dr (rf E a1 6) E 101 (fun x24 => ck v17 (ln E x24) (ck v17 (ln E x23) (ss (si s18 x23 v17.toNatClampNeg (vp_nar .boolean (gi s18 x24 v17.toNatClampNeg))) (fun s27 => lt (v17 + (1 : Int32)) (fun v28 => rec v28 s27)))))))
def bX1_copyFrom_134 (E : En) (a0 : Nat) (a1 : Nat) (rec : Int32 → Sg → Option ((Int32) × Sg)) (v31 : Int32) (s32 : Sg) : Option ((Int32) × Sg) := if (6 : Int32) ≤ v31 then (some (v31, s32)) else (dr (rf E a0 4) E 104 (fun x37 => ck v31 (ln E x37) (dr (rf E x37 v31.toNatClampNeg) E 5 (fun x39 => dr (rf E a1 4) E 104 (fun x40 => ck v31 (ln E x40) (dr (rf E x40 v31.toNatClampNeg) E 5 (fun x42 => bv (fX5_copyFrom E x39 x42 s32) (fun s43 => dr (rf E a0 10) E 101 (fun x45 => dr (rf E a1 10) E 101 (fun x46 => ck v31 (ln E x46) (ck v31 (ln E x45) (ss (si s43 x45 v31.toNatClampNeg (vp_nar .boolean (gi s43 x46 v31.toNatClampNeg))) (fun s49 => lt (v31 + (1 : Int32)) (fun v50 => rec v50 s49))))))))))))))
def fX1_copyFrom (E : En) (a0 : Nat) (a1 : Nat) (σ : Sg) : Option (Sg) := tk (cd E a0) 1 (tk (cd E a1) 1 (ss (si σ a0 0 (gi σ a1 0)) (fun s1 => ss (si s1 a0 1 (gi s1 a1 1)) (fun s2 => ss (si s2 a0 2 (gi s2 a1 2)) (fun s3 => kb (gi s3 a1 3) (ss (si s3 a0 3 (gi s3 a1 3)) (fun s5 => dr (rf E a0 5) E 100 (fun x6 => ss (si s5 a0 7 (imin (gi s5 a1 7) (nI (ln E x6)))) (fun s7 => ss (si s7 a0 8 (gi s7 a1 8)) (fun s8 => ss (si s8 a0 9 (gi s8 a1 9)) (fun s9 => kb (gi s9 a1 11) (ss (si s9 a0 11 (gi s9 a1 11)) (fun s11 => dr (rf E a1 5) E 100 (fun x12 => acp E s11 x12 (0 : Int32) x6 (0 : Int32) (gi s11 a0 7) (fun s13 => dr (rf E a1 12) E 100 (fun x14 => dr (rf E a0 12) E 100 (fun x15 => acp E s13 x14 (0 : Int32) x15 (0 : Int32) (6 : Int32) (fun s16 => bd (fx (fun rec a => bX1_copyFrom_106 E a0 a1 (fun u0 t => rec (u0, t)) a.1 a.2) FU ((0 : Int32), s16)) (fun o29 s30 => bd (fx (fun rec a => bX1_copyFrom_134 E a0 a1 (fun u0 t => rec (u0, t)) a.1 a.2) FU ((0 : Int32), s30)) (fun o51 s52 => some s52))))))))))))))))))))
set_option maxHeartbeats 4000000 in
set_option maxRecDepth 100000 in
theorem kX1_copyFrom {l : Launch} {G : Gl} {E : En} {a0 : Nat} {a1 : Nat} {σ σ' : Sg} : fX1_copyFrom E a0 a1 σ = some σ' → CT l yX1_copyFrom cX1_copyFrom 3 none ({ frames := 2, cells := 0, slots := 0, locals := 81 } : Room) [.ref (G.1 + a0), .ref (G.1 + a1)] G E σ none σ' := by
  intro h
  refine CT_of (lv0 := [(0, .ref (G.1 + a0)), (1, .ref (G.1 + a1))]) (by decide) (Nat.le_of_ble_eq_true rfl) rfl (fun κ hl hR hr C => ?_)
  have C : Cx κ G cX1_copyFrom RX1 3 := C
  revert h
  unfold fX1_copyFrom
  refine R_tk (fun ha0 => ?_)
  refine R_tk (fun ha1 => ?_)
  refine R_aload_n C 0 rfl dX1_copyFrom_0 ?_
  refine R_aload_n C 1 rfl dX1_copyFrom_1 ?_
  refine R_geti C fl1_55 rfl ha1 dX1_copyFrom_2 ?_
  refine S_puti C fl1_55 rfl ha0 rfl rfl dX1_copyFrom_5 (fun s1 => ?_)
  refine R_aload_n C 0 rfl dX1_copyFrom_8 ?_
  refine R_aload_n C 1 rfl dX1_copyFrom_9 ?_
  refine R_geti C fl1_58 rfl ha1 dX1_copyFrom_10 ?_
  refine S_puti C fl1_58 rfl ha0 rfl rfl dX1_copyFrom_13 (fun s2 => ?_)
  refine R_aload_n C 0 rfl dX1_copyFrom_16 ?_
  refine R_aload_n C 1 rfl dX1_copyFrom_17 ?_
  refine R_geti C fl1_9 rfl ha1 dX1_copyFrom_18 ?_
  refine S_puti C fl1_9 rfl ha0 rfl rfl dX1_copyFrom_21 (fun s3 => ?_)
  refine R_aload_n C 0 rfl dX1_copyFrom_24 ?_
  refine R_aload_n C 1 rfl dX1_copyFrom_25 ?_
  refine R_geti C fl1_61 rfl ha1 dX1_copyFrom_26 ?_
  refine R_kb (fun h4 => ?_)
  refine S_puti C fl1_61 rfl ha0 (nb h4) (fb h4) dX1_copyFrom_29 (fun s5 => ?_)
  refine R_aload_n C 0 rfl dX1_copyFrom_32 ?_
  refine R_aload_n C 1 rfl dX1_copyFrom_33 ?_
  refine R_geti C fl1_65 rfl ha1 dX1_copyFrom_34 ?_
  refine R_aload_n C 0 rfl dX1_copyFrom_37 ?_
  refine R_dr (fun x6 rx6 cx6 => ?_)
  refine R_getr C fl1_48 rfl ha0 rx6 dX1_copyFrom_38 ?_
  refine R_alen C cx6 (by omega) (by omega) dX1_copyFrom_41 ?_
  refine R_mmin C jd1_68 (by rw [hR]; exact ⟨Nat.le_of_ble_eq_true rfl, Nat.le_of_ble_eq_true rfl, Nat.zero_le _, Nat.zero_le _⟩) dX1_copyFrom_42 ?_
  refine S_puti C fl1_65 rfl ha0 rfl rfl dX1_copyFrom_45 (fun s7 => ?_)
  refine R_aload_n C 0 rfl dX1_copyFrom_48 ?_
  refine R_aload_n C 1 rfl dX1_copyFrom_49 ?_
  refine R_geti C fl1_71 rfl ha1 dX1_copyFrom_50 ?_
  refine S_puti C fl1_71 rfl ha0 rfl rfl dX1_copyFrom_53 (fun s8 => ?_)
  refine R_aload_n C 0 rfl dX1_copyFrom_56 ?_
  refine R_aload_n C 1 rfl dX1_copyFrom_57 ?_
  refine R_geti C fl1_74 rfl ha1 dX1_copyFrom_58 ?_
  refine S_puti C fl1_74 rfl ha0 rfl rfl dX1_copyFrom_61 (fun s9 => ?_)
  refine R_aload_n C 0 rfl dX1_copyFrom_64 ?_
  refine R_aload_n C 1 rfl dX1_copyFrom_65 ?_
  refine R_geti C fl1_77 rfl ha1 dX1_copyFrom_66 ?_
  refine R_kb (fun h10 => ?_)
  refine S_puti C fl1_77 rfl ha0 (nb h10) (fb h10) dX1_copyFrom_69 (fun s11 => ?_)
  refine R_aload_n C 1 rfl dX1_copyFrom_72 ?_
  refine R_dr (fun x12 rx12 cx12 => ?_)
  refine R_getr C fl1_48 rfl ha1 rx12 dX1_copyFrom_73 ?_
  refine R_iconst C (0) dX1_copyFrom_76 (by decide) ?_
  refine R_aload_n C 0 rfl dX1_copyFrom_77 ?_
  refine R_getr C fl1_48 rfl ha0 rx6 dX1_copyFrom_78 ?_
  refine R_iconst C (0) dX1_copyFrom_81 (by decide) ?_
  refine R_aload_n C 0 rfl dX1_copyFrom_82 ?_
  refine R_geti C fl1_65 rfl ha0 dX1_copyFrom_83 ?_
  refine S_acopy C jd1_80 cx12 cx6 (by rw [hR]; exact ⟨Nat.le_of_ble_eq_true rfl, Nat.le_of_ble_eq_true rfl⟩) dX1_copyFrom_86 (fun s13 => ?_)
  refine R_aload_n C 1 rfl dX1_copyFrom_89 ?_
  refine R_dr (fun x14 rx14 cx14 => ?_)
  refine R_getr C fl1_25 rfl ha1 rx14 dX1_copyFrom_90 ?_
  refine R_iconst C (0) dX1_copyFrom_93 (by decide) ?_
  refine R_aload_n C 0 rfl dX1_copyFrom_94 ?_
  refine R_dr (fun x15 rx15 cx15 => ?_)
  refine R_getr C fl1_25 rfl ha0 rx15 dX1_copyFrom_95 ?_
  refine R_iconst C (0) dX1_copyFrom_98 (by decide) ?_
  refine R_bipush C (6) dX1_copyFrom_99 (by decide) ?_
  refine S_acopy C jd1_80 cx14 cx15 (by rw [hR]; exact ⟨Nat.le_of_ble_eq_true rfl, Nat.le_of_ble_eq_true rfl⟩) dX1_copyFrom_101 (fun s16 => ?_)
  refine R_iconst C (0) dX1_copyFrom_104 (by decide) ?_
  refine R_istore_n (lv2 := [(2, .int (0 : Int32)), (0, .ref (G.1 + a0)), (1, .ref (G.1 + a1))]) C dX1_copyFrom_105 rfl (by decide) rfl ?_
  refine R_loc (lv2 := [(0, .ref (G.1 + a0)), (1, .ref (G.1 + a1)), (2, .int (0 : Int32))]) [1, 2, 0] rfl ?_
  refine R_loop (fun (a : (Int32) × Sg) => V κ G (QQ κ G E none σ') E a.2 (false, 0, 0) 106 [(0, .ref (G.1 + a0)), (1, .ref (G.1 + a1)), (2, .int a.1)] []) (fun (o : (Int32)) (s : Sg) => V κ G (QQ κ G E none σ') E s (false, 0, 0) 132 [(0, .ref (G.1 + a0)), (1, .ref (G.1 + a1))] []) ((0 : Int32), s16) (fun o29 s30 => ?_) (fun rec I22 a b20 s21 K19 => ?_)
  · refine R_iconst C (0) dX1_copyFrom_132 (by decide) ?_
    refine R_istore_n (lv2 := [(2, .int (0 : Int32)), (0, .ref (G.1 + a0)), (1, .ref (G.1 + a1))]) C dX1_copyFrom_133 rfl (by decide) rfl ?_
    refine R_loc (lv2 := [(0, .ref (G.1 + a0)), (1, .ref (G.1 + a1)), (2, .int (0 : Int32))]) [1, 2, 0] rfl ?_
    refine R_loop (fun (a : (Int32) × Sg) => V κ G (QQ κ G E none σ') E a.2 (false, 0, 0) 134 [(0, .ref (G.1 + a0)), (1, .ref (G.1 + a1)), (2, .int a.1)] []) (fun (o : (Int32)) (s : Sg) => V κ G (QQ κ G E none σ') E s (false, 0, 0) 173 [] []) ((0 : Int32), s30) (fun o51 s52 => ?_) (fun rec I36 a b34 s35 K33 => ?_)
    · exact R_vret C hr dX1_copyFrom_173
    · obtain ⟨v31, s32⟩ := a
      show bX1_copyFrom_134 E a0 a1 (fun u0 t => rec (u0, t)) v31 s32 = some (b34, s35) → V κ G (QQ κ G E none σ') E s32 (false, 0, 0) 134 [(0, .ref (G.1 + a0)), (1, .ref (G.1 + a1)), (2, .int v31)] []
      unfold bX1_copyFrom_134
      refine R_iload_n C 2 rfl dX1_copyFrom_134 ?_
      refine R_bipush C (6) dX1_copyFrom_135 (by decide) ?_
      refine B_icmp_ge C dX1_copyFrom_137 ?_ ?_
      · refine R_loc (lv2 := []) [] rfl ?_
        exact R_end (fun (o : (Int32)) (s : Sg) => V κ G (QQ κ G E none σ') E s (false, 0, 0) 173 [] []) K33
      · refine R_aload_n C 0 rfl dX1_copyFrom_140 ?_
        refine R_dr (fun x37 rx37 cx37 => ?_)
        refine R_getr C fl1_17 rfl ha0 rx37 dX1_copyFrom_141 ?_
        refine R_iload_n C 2 rfl dX1_copyFrom_144 ?_
        refine R_ck (fun h38 => ?_)
        refine R_dr (fun x39 rx39 cx39 => ?_)
        refine R_aald4 C cx37 h38 rx39 dX1_copyFrom_145 ?_
        refine R_aload_n C 1 rfl dX1_copyFrom_146 ?_
        refine R_dr (fun x40 rx40 cx40 => ?_)
        refine R_getr C fl1_17 rfl ha1 rx40 dX1_copyFrom_147 ?_
        refine R_iload_n C 2 rfl dX1_copyFrom_150 ?_
        refine R_ck (fun h41 => ?_)
        refine R_dr (fun x42 rx42 cx42 => ?_)
        refine R_aald4 C cx40 h41 rx42 dX1_copyFrom_151 ?_
        refine R_bv (fun s43 q44 => ?_)
        refine R_callVv [.ref (G.1 + x42)] [] C ml1_86 (kX5_copyFrom q44) (by rw [hR]; exact ⟨rfl, rfl, Nat.le_of_ble_eq_true rfl, Nat.le_of_ble_eq_true rfl, Nat.zero_le _, Nat.zero_le _⟩) cx39 rfl rfl (Nat.le_of_ble_eq_true rfl) dX1_copyFrom_152 ?_
        refine R_aload_n C 0 rfl dX1_copyFrom_155 ?_
        refine R_dr (fun x45 rx45 cx45 => ?_)
        refine R_getr C fl1_21 rfl ha0 rx45 dX1_copyFrom_156 ?_
        refine R_iload_n C 2 rfl dX1_copyFrom_159 ?_
        refine R_aload_n C 1 rfl dX1_copyFrom_160 ?_
        refine R_dr (fun x46 rx46 cx46 => ?_)
        refine R_getr C fl1_21 rfl ha1 rx46 dX1_copyFrom_161 ?_
        refine R_iload_n C 2 rfl dX1_copyFrom_164 ?_
        refine R_ck (fun h47 => ?_)
        refine R_zald C cx46 h47 dX1_copyFrom_165 ?_
        refine R_ck (fun h48 => ?_)
        refine S_zast C cx45 h48 dX1_copyFrom_166 (fun s49 => ?_)
        refine S_iinc (fun v50 => [(2, .int v50), (0, .ref (G.1 + a0)), (1, .ref (G.1 + a1))]) 2 C dX1_copyFrom_167 rfl (by decide) (by decide) (fun _ => rfl) (fun v50 => ?_)
        refine R_goto C dX1_copyFrom_170 ?_
        refine R_loc (lv2 := [(0, .ref (G.1 + a0)), (1, .ref (G.1 + a1)), (2, .int v50)]) [1, 2, 0] rfl ?_
        exact I36 (v50, s49) b34 s35 K33
  · obtain ⟨v17, s18⟩ := a
    show bX1_copyFrom_106 E a0 a1 (fun u0 t => rec (u0, t)) v17 s18 = some (b20, s21) → V κ G (QQ κ G E none σ') E s18 (false, 0, 0) 106 [(0, .ref (G.1 + a0)), (1, .ref (G.1 + a1)), (2, .int v17)] []
    unfold bX1_copyFrom_106
    refine R_iload_n C 2 rfl dX1_copyFrom_106 ?_
    refine R_aload_n C 0 rfl dX1_copyFrom_107 ?_
    refine R_geti C fl1_65 rfl ha0 dX1_copyFrom_108 ?_
    refine B_icmp_ge C dX1_copyFrom_111 ?_ ?_
    · refine R_loc (lv2 := [(0, .ref (G.1 + a0)), (1, .ref (G.1 + a1))]) [0, 1] rfl ?_
      exact R_end (fun (o : (Int32)) (s : Sg) => V κ G (QQ κ G E none σ') E s (false, 0, 0) 132 [(0, .ref (G.1 + a0)), (1, .ref (G.1 + a1))] []) K19
    · refine R_aload_n C 0 rfl dX1_copyFrom_114 ?_
      refine R_dr (fun x23 rx23 cx23 => ?_)
      refine R_getr C fl1_51 rfl ha0 rx23 dX1_copyFrom_115 ?_
      refine R_iload_n C 2 rfl dX1_copyFrom_118 ?_
      refine R_aload_n C 1 rfl dX1_copyFrom_119 ?_
      refine R_dr (fun x24 rx24 cx24 => ?_)
      refine R_getr C fl1_51 rfl ha1 rx24 dX1_copyFrom_120 ?_
      refine R_iload_n C 2 rfl dX1_copyFrom_123 ?_
      refine R_ck (fun h25 => ?_)
      refine R_zald C cx24 h25 dX1_copyFrom_124 ?_
      refine R_ck (fun h26 => ?_)
      refine S_zast C cx23 h26 dX1_copyFrom_125 (fun s27 => ?_)
      refine S_iinc (fun v28 => [(2, .int v28), (0, .ref (G.1 + a0)), (1, .ref (G.1 + a1))]) 2 C dX1_copyFrom_126 rfl (by decide) (by decide) (fun _ => rfl) (fun v28 => ?_)
      refine R_goto C dX1_copyFrom_129 ?_
      refine R_loc (lv2 := [(0, .ref (G.1 + a0)), (1, .ref (G.1 + a1)), (2, .int v28)]) [1, 2, 0] rfl ?_
      exact I22 (v28, s27) b20 s21 K19
theorem dX1_begin_0 : dk cX1_begin 0 1 (.aload_n 0) 1 := by unfold dk; decide +kernel
theorem dX1_begin_1 : dk cX1_begin 1 2 (.iload_n 1) 1 := by unfold dk; decide +kernel
theorem dX1_begin_2 : dk cX1_begin 2 5 (.putfield 55) 3 := by unfold dk; decide +kernel
theorem dX1_begin_5 : dk cX1_begin 5 6 (.aload_n 0) 1 := by unfold dk; decide +kernel
theorem dX1_begin_6 : dk cX1_begin 6 7 (.iconst 3) 1 := by unfold dk; decide +kernel
theorem dX1_begin_7 : dk cX1_begin 7 8 (.iload_n 2) 1 := by unfold dk; decide +kernel
theorem dX1_begin_8 : dk cX1_begin 8 10 (.bipush 6) 2 := by unfold dk; decide +kernel
theorem dX1_begin_10 : dk cX1_begin 10 13 (.invokestatic 68) 3 := by unfold dk; decide +kernel
theorem dX1_begin_13 : dk cX1_begin 13 16 (.invokestatic 42) 3 := by unfold dk; decide +kernel
theorem dX1_begin_16 : dk cX1_begin 16 19 (.putfield 58) 3 := by unfold dk; decide +kernel
theorem dX1_begin_19 : dk cX1_begin 19 20 (.aload_n 0) 1 := by unfold dk; decide +kernel
theorem dX1_begin_20 : dk cX1_begin 20 21 (.aload_n 0) 1 := by unfold dk; decide +kernel
theorem dX1_begin_21 : dk cX1_begin 21 24 (.getfield 58) 3 := by unfold dk; decide +kernel
theorem dX1_begin_24 : dk cX1_begin 24 25 (.iconst 2) 1 := by unfold dk; decide +kernel
theorem dX1_begin_25 : dk cX1_begin 25 26 (.idiv) 1 := by unfold dk; decide +kernel
theorem dX1_begin_26 : dk cX1_begin 26 29 (.putfield 9) 3 := by unfold dk; decide +kernel
theorem dX1_begin_29 : dk cX1_begin 29 30 (.aload_n 0) 1 := by unfold dk; decide +kernel
theorem dX1_begin_30 : dk cX1_begin 30 31 (.iload_n 3) 1 := by unfold dk; decide +kernel
theorem dX1_begin_31 : dk cX1_begin 31 34 (.putfield 61) 3 := by unfold dk; decide +kernel
theorem dX1_begin_34 : dk cX1_begin 34 35 (.aload_n 0) 1 := by unfold dk; decide +kernel
theorem dX1_begin_35 : dk cX1_begin 35 36 (.iconst 0) 1 := by unfold dk; decide +kernel
theorem dX1_begin_36 : dk cX1_begin 36 39 (.putfield 65) 3 := by unfold dk; decide +kernel
theorem dX1_begin_39 : dk cX1_begin 39 40 (.aload_n 0) 1 := by unfold dk; decide +kernel
theorem dX1_begin_40 : dk cX1_begin 40 41 (.iconst 0) 1 := by unfold dk; decide +kernel
theorem dX1_begin_41 : dk cX1_begin 41 44 (.putfield 71) 3 := by unfold dk; decide +kernel
theorem dX1_begin_44 : dk cX1_begin 44 45 (.iconst 0) 1 := by unfold dk; decide +kernel
theorem dX1_begin_45 : dk cX1_begin 45 47 (.istore 4) 2 := by unfold dk; decide +kernel
theorem dX1_begin_47 : dk cX1_begin 47 49 (.iload 4) 2 := by unfold dk; decide +kernel
theorem dX1_begin_49 : dk cX1_begin 49 51 (.bipush 6) 2 := by unfold dk; decide +kernel
theorem dX1_begin_54 : dk cX1_begin 54 55 (.aload_n 0) 1 := by unfold dk; decide +kernel
theorem dX1_begin_55 : dk cX1_begin 55 58 (.getfield 17) 3 := by unfold dk; decide +kernel
theorem dX1_begin_58 : dk cX1_begin 58 60 (.iload 4) 2 := by unfold dk; decide +kernel
theorem dX1_begin_60 : dk cX1_begin 60 61 (.aaload) 1 := by unfold dk; decide +kernel
theorem dX1_begin_61 : dk cX1_begin 61 64 (.invokevirtual 90) 3 := by unfold dk; decide +kernel
theorem dX1_begin_64 : dk cX1_begin 64 65 (.aload_n 0) 1 := by unfold dk; decide +kernel
theorem dX1_begin_65 : dk cX1_begin 65 68 (.getfield 39) 3 := by unfold dk; decide +kernel
theorem dX1_begin_68 : dk cX1_begin 68 70 (.iload 4) 2 := by unfold dk; decide +kernel
theorem dX1_begin_70 : dk cX1_begin 70 71 (.iconst 0) 1 := by unfold dk; decide +kernel
theorem dX1_begin_71 : dk cX1_begin 71 72 (.iastore) 1 := by unfold dk; decide +kernel
theorem dX1_begin_72 : dk cX1_begin 72 75 (.iinc 4 1) 3 := by unfold dk; decide +kernel
theorem dX1_begin_75 : bk cX1_begin 75 78 47 (.goto (-28)) (-28) := by unfold bk; decide +kernel
theorem dX1_begin_51 : bk cX1_begin 51 54 78 (.if_icmp .ge 27) (27) := by unfold bk; decide +kernel
theorem dX1_begin_78 : dk cX1_begin 78 79 (.iconst 0) 1 := by unfold dk; decide +kernel
theorem dX1_begin_79 : dk cX1_begin 79 81 (.istore 4) 2 := by unfold dk; decide +kernel
theorem dX1_begin_81 : dk cX1_begin 81 83 (.iload 4) 2 := by unfold dk; decide +kernel
theorem dX1_begin_83 : dk cX1_begin 83 85 (.bipush 6) 2 := by unfold dk; decide +kernel
theorem dX1_begin_88 : dk cX1_begin 88 89 (.aload_n 0) 1 := by unfold dk; decide +kernel
theorem dX1_begin_89 : dk cX1_begin 89 92 (.getfield 25) 3 := by unfold dk; decide +kernel
theorem dX1_begin_92 : dk cX1_begin 92 94 (.iload 4) 2 := by unfold dk; decide +kernel
theorem dX1_begin_94 : dk cX1_begin 94 95 (.iconst 0) 1 := by unfold dk; decide +kernel
theorem dX1_begin_95 : dk cX1_begin 95 96 (.iastore) 1 := by unfold dk; decide +kernel
theorem dX1_begin_96 : dk cX1_begin 96 99 (.iinc 4 1) 3 := by unfold dk; decide +kernel
theorem dX1_begin_99 : bk cX1_begin 99 102 81 (.goto (-18)) (-18) := by unfold bk; decide +kernel
theorem dX1_begin_85 : bk cX1_begin 85 88 102 (.if_icmp .ge 17) (17) := by unfold bk; decide +kernel
theorem dX1_begin_102 : dk cX1_begin 102 103 (.return_) 1 := by unfold dk; decide +kernel
def bX1_begin_47 (E : En) (a0 : Nat) (rec : Int32 → Sg → Option ((Int32) × Sg)) (v8 : Int32) (s9 : Sg) : Option ((Int32) × Sg) := if (6 : Int32) ≤ v8 then (some (v8, s9)) else (dr (rf E a0 4) E 104 (fun x14 => ck v8 (ln E x14) (dr (rf E x14 v8.toNatClampNeg) E 5 (fun x16 => bv (fX5_wipe E x16 s9) (fun s17 => dr (rf E a0 18) E 100 (fun x19 => ck v8 (ln E x19) (ss (si s17 x19 v8.toNatClampNeg (0 : Int32)) (fun s21 => lt (v8 + (1 : Int32)) (fun v22 => rec v22 s21)))))))))
def bX1_begin_81 (E : En) (a0 : Nat) (rec : Int32 → Sg → Option ((Int32) × Sg)) (v25 : Int32) (s26 : Sg) : Option ((Int32) × Sg) := if (6 : Int32) ≤ v25 then (some (v25, s26)) else (dr (rf E a0 12) E 100 (fun x31 => ck v25 (ln E x31) (ss (si s26 x31 v25.toNatClampNeg (0 : Int32)) (fun s33 => lt (v25 + (1 : Int32)) (fun v34 => rec v34 s33)))))
def fX1_begin (E : En) (a0 : Nat) (a1 : Int32) (a2 : Int32) (a3 : Int32) (σ : Sg) : Option (Sg) := tk (cd E a0) 1 (ss (si σ a0 0 a1) (fun s1 => ss (si s1 a0 1 (imax (3 : Int32) (imin a2 (6 : Int32)))) (fun s2 => ss (si s2 a0 2 ((gi s2 a0 1) / (2 : Int32))) (fun s3 => kb a3 (ss (si s3 a0 3 a3) (fun s5 => ss (si s5 a0 7 (0 : Int32)) (fun s6 => ss (si s6 a0 8 (0 : Int32)) (fun s7 => bd (fx (fun rec a => bX1_begin_47 E a0 (fun u0 t => rec (u0, t)) a.1 a.2) FU ((0 : Int32), s7)) (fun o23 s24 => bd (fx (fun rec a => bX1_begin_81 E a0 (fun u0 t => rec (u0, t)) a.1 a.2) FU ((0 : Int32), s24)) (fun o35 s36 => some s36))))))))))
set_option maxHeartbeats 4000000 in
set_option maxRecDepth 100000 in
theorem kX1_begin {l : Launch} {G : Gl} {E : En} {a0 : Nat} {a1 : Int32} {a2 : Int32} {a3 : Int32} {σ σ' : Sg} : fX1_begin E a0 a1 a2 a3 σ = some σ' → CT l yX1_begin cX1_begin 5 none ({ frames := 1, cells := 0, slots := 0, locals := 21 } : Room) [.ref (G.1 + a0), .int a1, .int a2, .int a3] G E σ none σ' := by
  intro h
  refine CT_of (lv0 := [(0, .ref (G.1 + a0)), (1, .int a1), (2, .int a2), (3, .int a3)]) (by decide) (Nat.le_of_ble_eq_true rfl) rfl (fun κ hl hR hr C => ?_)
  have C : Cx κ G cX1_begin RX1 5 := C
  revert h
  unfold fX1_begin
  refine R_tk (fun ha0 => ?_)
  refine R_aload_n C 0 rfl dX1_begin_0 ?_
  refine R_iload_n C 1 rfl dX1_begin_1 ?_
  refine S_puti C fl1_55 rfl ha0 rfl rfl dX1_begin_2 (fun s1 => ?_)
  refine R_aload_n C 0 rfl dX1_begin_5 ?_
  refine R_iconst C (3) dX1_begin_6 (by decide) ?_
  refine R_iload_n C 2 rfl dX1_begin_7 ?_
  refine R_bipush C (6) dX1_begin_8 (by decide) ?_
  refine R_mmin C jd1_68 (by rw [hR]; exact ⟨Nat.le_of_ble_eq_true rfl, Nat.le_of_ble_eq_true rfl, Nat.zero_le _, Nat.zero_le _⟩) dX1_begin_10 ?_
  refine R_mmax C jd1_42 (by rw [hR]; exact ⟨Nat.le_of_ble_eq_true rfl, Nat.le_of_ble_eq_true rfl, Nat.zero_le _, Nat.zero_le _⟩) dX1_begin_13 ?_
  refine S_puti C fl1_58 rfl ha0 rfl rfl dX1_begin_16 (fun s2 => ?_)
  refine R_aload_n C 0 rfl dX1_begin_19 ?_
  refine R_aload_n C 0 rfl dX1_begin_20 ?_
  refine R_geti C fl1_58 rfl ha0 dX1_begin_21 ?_
  refine R_iconst C (2) dX1_begin_24 (by decide) ?_
  refine R_idiv C dX1_begin_25 (by decide) ?_
  refine S_puti C fl1_9 rfl ha0 rfl rfl dX1_begin_26 (fun s3 => ?_)
  refine R_aload_n C 0 rfl dX1_begin_29 ?_
  refine R_iload_n C 3 rfl dX1_begin_30 ?_
  refine R_kb (fun h4 => ?_)
  refine S_puti C fl1_61 rfl ha0 (nb h4) (fb h4) dX1_begin_31 (fun s5 => ?_)
  refine R_aload_n C 0 rfl dX1_begin_34 ?_
  refine R_iconst C (0) dX1_begin_35 (by decide) ?_
  refine S_puti C fl1_65 rfl ha0 rfl rfl dX1_begin_36 (fun s6 => ?_)
  refine R_aload_n C 0 rfl dX1_begin_39 ?_
  refine R_iconst C (0) dX1_begin_40 (by decide) ?_
  refine S_puti C fl1_71 rfl ha0 rfl rfl dX1_begin_41 (fun s7 => ?_)
  refine R_iconst C (0) dX1_begin_44 (by decide) ?_
  refine R_istore (lv2 := [(4, .int (0 : Int32)), (0, .ref (G.1 + a0)), (1, .int a1), (2, .int a2), (3, .int a3)]) C dX1_begin_45 (by decide) rfl ?_
  refine R_loc (lv2 := [(0, .ref (G.1 + a0)), (4, .int (0 : Int32))]) [1, 0] rfl ?_
  refine R_loop (fun (a : (Int32) × Sg) => V κ G (QQ κ G E none σ') E a.2 (false, 0, 0) 47 [(0, .ref (G.1 + a0)), (4, .int a.1)] []) (fun (o : (Int32)) (s : Sg) => V κ G (QQ κ G E none σ') E s (false, 0, 0) 78 [(0, .ref (G.1 + a0))] []) ((0 : Int32), s7) (fun o23 s24 => ?_) (fun rec I13 a b11 s12 K10 => ?_)
  · refine R_iconst C (0) dX1_begin_78 (by decide) ?_
    refine R_istore (lv2 := [(4, .int (0 : Int32)), (0, .ref (G.1 + a0))]) C dX1_begin_79 (by decide) rfl ?_
    refine R_loc (lv2 := [(0, .ref (G.1 + a0)), (4, .int (0 : Int32))]) [1, 0] rfl ?_
    refine R_loop (fun (a : (Int32) × Sg) => V κ G (QQ κ G E none σ') E a.2 (false, 0, 0) 81 [(0, .ref (G.1 + a0)), (4, .int a.1)] []) (fun (o : (Int32)) (s : Sg) => V κ G (QQ κ G E none σ') E s (false, 0, 0) 102 [] []) ((0 : Int32), s24) (fun o35 s36 => ?_) (fun rec I30 a b28 s29 K27 => ?_)
    · exact R_vret C hr dX1_begin_102
    · obtain ⟨v25, s26⟩ := a
      show bX1_begin_81 E a0 (fun u0 t => rec (u0, t)) v25 s26 = some (b28, s29) → V κ G (QQ κ G E none σ') E s26 (false, 0, 0) 81 [(0, .ref (G.1 + a0)), (4, .int v25)] []
      unfold bX1_begin_81
      refine R_iload C 1 rfl dX1_begin_81 ?_
      refine R_bipush C (6) dX1_begin_83 (by decide) ?_
      refine B_icmp_ge C dX1_begin_85 ?_ ?_
      · refine R_loc (lv2 := []) [] rfl ?_
        exact R_end (fun (o : (Int32)) (s : Sg) => V κ G (QQ κ G E none σ') E s (false, 0, 0) 102 [] []) K27
      · refine R_aload_n C 0 rfl dX1_begin_88 ?_
        refine R_dr (fun x31 rx31 cx31 => ?_)
        refine R_getr C fl1_25 rfl ha0 rx31 dX1_begin_89 ?_
        refine R_iload C 1 rfl dX1_begin_92 ?_
        refine R_iconst C (0) dX1_begin_94 (by decide) ?_
        refine R_ck (fun h32 => ?_)
        refine S_iast C cx31 h32 dX1_begin_95 (fun s33 => ?_)
        refine S_iinc (fun v34 => [(4, .int v34), (0, .ref (G.1 + a0))]) 1 C dX1_begin_96 rfl (by decide) (by decide) (fun _ => rfl) (fun v34 => ?_)
        refine R_goto C dX1_begin_99 ?_
        refine R_loc (lv2 := [(0, .ref (G.1 + a0)), (4, .int v34)]) [1, 0] rfl ?_
        exact I30 (v34, s33) b28 s29 K27
  · obtain ⟨v8, s9⟩ := a
    show bX1_begin_47 E a0 (fun u0 t => rec (u0, t)) v8 s9 = some (b11, s12) → V κ G (QQ κ G E none σ') E s9 (false, 0, 0) 47 [(0, .ref (G.1 + a0)), (4, .int v8)] []
    unfold bX1_begin_47
    refine R_iload C 1 rfl dX1_begin_47 ?_
    refine R_bipush C (6) dX1_begin_49 (by decide) ?_
    refine B_icmp_ge C dX1_begin_51 ?_ ?_
    · refine R_loc (lv2 := [(0, .ref (G.1 + a0))]) [0] rfl ?_
      exact R_end (fun (o : (Int32)) (s : Sg) => V κ G (QQ κ G E none σ') E s (false, 0, 0) 78 [(0, .ref (G.1 + a0))] []) K10
    · refine R_aload_n C 0 rfl dX1_begin_54 ?_
      refine R_dr (fun x14 rx14 cx14 => ?_)
      refine R_getr C fl1_17 rfl ha0 rx14 dX1_begin_55 ?_
      refine R_iload C 1 rfl dX1_begin_58 ?_
      refine R_ck (fun h15 => ?_)
      refine R_dr (fun x16 rx16 cx16 => ?_)
      refine R_aald4 C cx14 h15 rx16 dX1_begin_60 ?_
      refine R_bv (fun s17 q18 => ?_)
      refine R_callVv [] [] C ml1_90 (kX5_wipe q18) (by rw [hR]; exact ⟨rfl, rfl, Nat.le_of_ble_eq_true rfl, Nat.le_of_ble_eq_true rfl, Nat.zero_le _, Nat.zero_le _⟩) cx16 rfl rfl (Nat.le_of_ble_eq_true rfl) dX1_begin_61 ?_
      refine R_aload_n C 0 rfl dX1_begin_64 ?_
      refine R_dr (fun x19 rx19 cx19 => ?_)
      refine R_getr C fl1_39 rfl ha0 rx19 dX1_begin_65 ?_
      refine R_iload C 1 rfl dX1_begin_68 ?_
      refine R_iconst C (0) dX1_begin_70 (by decide) ?_
      refine R_ck (fun h20 => ?_)
      refine S_iast C cx19 h20 dX1_begin_71 (fun s21 => ?_)
      refine S_iinc (fun v22 => [(4, .int v22), (0, .ref (G.1 + a0))]) 1 C dX1_begin_72 rfl (by decide) (by decide) (fun _ => rfl) (fun v22 => ?_)
      refine R_goto C dX1_begin_75 ?_
      refine R_loc (lv2 := [(0, .ref (G.1 + a0)), (4, .int v22)]) [1, 0] rfl ?_
      exact I13 (v22, s21) b11 s12 K10
theorem dX1_load_0 : dk cX1_load 0 1 (.aload_n 0) 1 := by unfold dk; decide +kernel
theorem dX1_load_1 : dk cX1_load 1 4 (.getfield 65) 3 := by unfold dk; decide +kernel
theorem dX1_load_4 : dk cX1_load 4 5 (.aload_n 0) 1 := by unfold dk; decide +kernel
theorem dX1_load_5 : dk cX1_load 5 8 (.getfield 48) 3 := by unfold dk; decide +kernel
theorem dX1_load_8 : dk cX1_load 8 9 (.arraylength) 1 := by unfold dk; decide +kernel
theorem dX1_load_9 : bk cX1_load 9 12 42 (.if_icmp .ge 33) (33) := by unfold bk; decide +kernel
theorem dX1_load_12 : dk cX1_load 12 13 (.aload_n 0) 1 := by unfold dk; decide +kernel
theorem dX1_load_13 : dk cX1_load 13 16 (.getfield 48) 3 := by unfold dk; decide +kernel
theorem dX1_load_16 : dk cX1_load 16 17 (.aload_n 0) 1 := by unfold dk; decide +kernel
theorem dX1_load_17 : dk cX1_load 17 20 (.getfield 65) 3 := by unfold dk; decide +kernel
theorem dX1_load_20 : dk cX1_load 20 21 (.iload_n 1) 1 := by unfold dk; decide +kernel
theorem dX1_load_21 : dk cX1_load 21 22 (.iastore) 1 := by unfold dk; decide +kernel
theorem dX1_load_22 : dk cX1_load 22 23 (.aload_n 0) 1 := by unfold dk; decide +kernel
theorem dX1_load_23 : dk cX1_load 23 26 (.getfield 51) 3 := by unfold dk; decide +kernel
theorem dX1_load_26 : dk cX1_load 26 27 (.aload_n 0) 1 := by unfold dk; decide +kernel
theorem dX1_load_27 : dk cX1_load 27 30 (.getfield 65) 3 := by unfold dk; decide +kernel
theorem dX1_load_30 : dk cX1_load 30 31 (.iload_n 2) 1 := by unfold dk; decide +kernel
theorem dX1_load_31 : dk cX1_load 31 32 (.bastore) 1 := by unfold dk; decide +kernel
theorem dX1_load_32 : dk cX1_load 32 33 (.aload_n 0) 1 := by unfold dk; decide +kernel
theorem dX1_load_33 : dk cX1_load 33 34 (.dup) 1 := by unfold dk; decide +kernel
theorem dX1_load_34 : dk cX1_load 34 37 (.getfield 65) 3 := by unfold dk; decide +kernel
theorem dX1_load_37 : dk cX1_load 37 38 (.iconst 1) 1 := by unfold dk; decide +kernel
theorem dX1_load_38 : dk cX1_load 38 39 (.iadd) 1 := by unfold dk; decide +kernel
theorem dX1_load_39 : dk cX1_load 39 42 (.putfield 65) 3 := by unfold dk; decide +kernel
theorem dX1_load_42 : dk cX1_load 42 43 (.return_) 1 := by unfold dk; decide +kernel
def fX1_load (E : En) (a0 : Nat) (a1 : Int32) (a2 : Int32) (σ : Sg) : Option (Sg) := tk (cd E a0) 1 (dr (rf E a0 5) E 100 (fun x1 => bd (if (nI (ln E x1)) ≤ (gi σ a0 7) then (some ((), σ)) else (ck (gi σ a0 7) (ln E x1) (ss (si σ x1 (gi σ a0 7).toNatClampNeg a1) (fun s5 => dr (rf E a0 6) E 101 (fun x6 => ck (gi s5 a0 7) (ln E x6) (ss (si s5 x6 (gi s5 a0 7).toNatClampNeg (vp_nar .boolean a2)) (fun s8 => ss (si s8 a0 7 ((gi s8 a0 7) + (1 : Int32))) (fun s9 => some ((), s9))))))))) (fun w2 s3 => some s3)))
set_option maxHeartbeats 4000000 in
set_option maxRecDepth 100000 in
theorem kX1_load {l : Launch} {G : Gl} {E : En} {a0 : Nat} {a1 : Int32} {a2 : Int32} {σ σ' : Sg} : fX1_load E a0 a1 a2 σ = some σ' → CT l yX1_load cX1_load 3 none ({ frames := 0, cells := 0, slots := 0, locals := 0 } : Room) [.ref (G.1 + a0), .int a1, .int a2] G E σ none σ' := by
  intro h
  refine CT_of (lv0 := [(0, .ref (G.1 + a0)), (1, .int a1), (2, .int a2)]) (by decide) (Nat.le_of_ble_eq_true rfl) rfl (fun κ hl hR hr C => ?_)
  have C : Cx κ G cX1_load RX1 3 := C
  revert h
  unfold fX1_load
  refine R_tk (fun ha0 => ?_)
  refine R_aload_n C 0 rfl dX1_load_0 ?_
  refine R_geti C fl1_65 rfl ha0 dX1_load_1 ?_
  refine R_aload_n C 0 rfl dX1_load_4 ?_
  refine R_dr (fun x1 rx1 cx1 => ?_)
  refine R_getr C fl1_48 rfl ha0 rx1 dX1_load_5 ?_
  refine R_alen C cx1 (by omega) (by omega) dX1_load_8 ?_
  refine R_bdK (fun (w : Unit) (s : Sg) => V κ G (QQ κ G E none σ') E s (false, 0, 0) 42 [] []) (fun w2 s3 => ?_) (fun w2 s3 Kw2 => ?_)
  · exact R_vret C hr dX1_load_42
  · refine B_icmp_ge C dX1_load_9 ?_ ?_
    · refine R_loc (lv2 := []) [] rfl ?_
      exact R_end (fun (w : Unit) (s : Sg) => V κ G (QQ κ G E none σ') E s (false, 0, 0) 42 [] []) Kw2
    · refine R_aload_n C 0 rfl dX1_load_12 ?_
      refine R_getr C fl1_48 rfl ha0 rx1 dX1_load_13 ?_
      refine R_aload_n C 0 rfl dX1_load_16 ?_
      refine R_geti C fl1_65 rfl ha0 dX1_load_17 ?_
      refine R_iload_n C 1 rfl dX1_load_20 ?_
      refine R_ck (fun h4 => ?_)
      refine S_iast C cx1 h4 dX1_load_21 (fun s5 => ?_)
      refine R_aload_n C 0 rfl dX1_load_22 ?_
      refine R_dr (fun x6 rx6 cx6 => ?_)
      refine R_getr C fl1_51 rfl ha0 rx6 dX1_load_23 ?_
      refine R_aload_n C 0 rfl dX1_load_26 ?_
      refine R_geti C fl1_65 rfl ha0 dX1_load_27 ?_
      refine R_iload_n C 2 rfl dX1_load_30 ?_
      refine R_ck (fun h7 => ?_)
      refine S_zast C cx6 h7 dX1_load_31 (fun s8 => ?_)
      refine R_aload_n C 0 rfl dX1_load_32 ?_
      refine R_dup C dX1_load_33 rfl ?_
      refine R_geti C fl1_65 rfl ha0 dX1_load_34 ?_
      refine R_iconst C (1) dX1_load_37 (by decide) ?_
      refine R_iadd C dX1_load_38 ?_
      refine S_puti C fl1_65 rfl ha0 rfl rfl dX1_load_39 (fun s9 => ?_)
      refine R_loc (lv2 := []) [] rfl ?_
      exact R_end (fun (w : Unit) (s : Sg) => V κ G (QQ κ G E none σ') E s (false, 0, 0) 42 [] []) Kw2
theorem dX1_dealByTurns_0 : dk cX1_dealByTurns 0 1 (.iconst 0) 1 := by unfold dk; decide +kernel
theorem dX1_dealByTurns_1 : dk cX1_dealByTurns 1 2 (.istore_n 1) 1 := by unfold dk; decide +kernel
theorem dX1_dealByTurns_2 : dk cX1_dealByTurns 2 3 (.iload_n 1) 1 := by unfold dk; decide +kernel
theorem dX1_dealByTurns_3 : dk cX1_dealByTurns 3 4 (.aload_n 0) 1 := by unfold dk; decide +kernel
theorem dX1_dealByTurns_4 : dk cX1_dealByTurns 4 7 (.getfield 65) 3 := by unfold dk; decide +kernel
theorem dX1_dealByTurns_10 : dk cX1_dealByTurns 10 11 (.aload_n 0) 1 := by unfold dk; decide +kernel
theorem dX1_dealByTurns_11 : dk cX1_dealByTurns 11 14 (.getfield 17) 3 := by unfold dk; decide +kernel
theorem dX1_dealByTurns_14 : dk cX1_dealByTurns 14 15 (.iload_n 1) 1 := by unfold dk; decide +kernel
theorem dX1_dealByTurns_15 : dk cX1_dealByTurns 15 16 (.aload_n 0) 1 := by unfold dk; decide +kernel
theorem dX1_dealByTurns_16 : dk cX1_dealByTurns 16 19 (.getfield 9) 3 := by unfold dk; decide +kernel
theorem dX1_dealByTurns_19 : dk cX1_dealByTurns 19 20 (.irem) 1 := by unfold dk; decide +kernel
theorem dX1_dealByTurns_20 : dk cX1_dealByTurns 20 21 (.aaload) 1 := by unfold dk; decide +kernel
theorem dX1_dealByTurns_21 : dk cX1_dealByTurns 21 22 (.iload_n 1) 1 := by unfold dk; decide +kernel
theorem dX1_dealByTurns_22 : dk cX1_dealByTurns 22 25 (.invokevirtual 110) 3 := by unfold dk; decide +kernel
theorem dX1_dealByTurns_25 : dk cX1_dealByTurns 25 28 (.iinc 1 1) 3 := by unfold dk; decide +kernel
theorem dX1_dealByTurns_28 : bk cX1_dealByTurns 28 31 2 (.goto (-26)) (-26) := by unfold bk; decide +kernel
theorem dX1_dealByTurns_7 : bk cX1_dealByTurns 7 10 31 (.if_icmp .ge 24) (24) := by unfold bk; decide +kernel
theorem dX1_dealByTurns_31 : dk cX1_dealByTurns 31 32 (.aload_n 0) 1 := by unfold dk; decide +kernel
theorem dX1_dealByTurns_32 : dk cX1_dealByTurns 32 33 (.aload_n 0) 1 := by unfold dk; decide +kernel
theorem dX1_dealByTurns_33 : dk cX1_dealByTurns 33 36 (.getfield 65) 3 := by unfold dk; decide +kernel
theorem dX1_dealByTurns_36 : dk cX1_dealByTurns 36 39 (.putfield 71) 3 := by unfold dk; decide +kernel
theorem dX1_dealByTurns_39 : dk cX1_dealByTurns 39 40 (.aload_n 0) 1 := by unfold dk; decide +kernel
theorem dX1_dealByTurns_40 : dk cX1_dealByTurns 40 41 (.aload_n 0) 1 := by unfold dk; decide +kernel
theorem dX1_dealByTurns_41 : dk cX1_dealByTurns 41 44 (.getfield 9) 3 := by unfold dk; decide +kernel
theorem dX1_dealByTurns_44 : dk cX1_dealByTurns 44 47 (.putfield 74) 3 := by unfold dk; decide +kernel
theorem dX1_dealByTurns_47 : dk cX1_dealByTurns 47 48 (.aload_n 0) 1 := by unfold dk; decide +kernel
theorem dX1_dealByTurns_48 : dk cX1_dealByTurns 48 51 (.getfield 25) 3 := by unfold dk; decide +kernel
theorem dX1_dealByTurns_51 : dk cX1_dealByTurns 51 52 (.iconst 5) 1 := by unfold dk; decide +kernel
theorem dX1_dealByTurns_52 : dk cX1_dealByTurns 52 53 (.iconst (-1)) 1 := by unfold dk; decide +kernel
theorem dX1_dealByTurns_53 : dk cX1_dealByTurns 53 54 (.iastore) 1 := by unfold dk; decide +kernel
theorem dX1_dealByTurns_54 : dk cX1_dealByTurns 54 55 (.return_) 1 := by unfold dk; decide +kernel
def bX1_dealByTurns_2 (E : En) (a0 : Nat) (rec : Int32 → Sg → Option ((Int32) × Sg)) (v1 : Int32) (s2 : Sg) : Option ((Int32) × Sg) := if (gi s2 a0 7) ≤ v1 then (some (v1, s2)) else (dr (rf E a0 4) E 104 (fun x7 => nz (gi s2 a0 2) (ck (im v1 (gi s2 a0 2)) (ln E x7) (dr (rf E x7 (im v1 (gi s2 a0 2)).toNatClampNeg) E 5 (fun x10 => bv (fX5_write E x10 v1 s2) (fun s11 => lt (v1 + (1 : Int32)) (fun v13 => rec v13 s11)))))))
def fX1_dealByTurns (E : En) (a0 : Nat) (σ : Sg) : Option (Sg) := tk (cd E a0) 1 (bd (fx (fun rec a => bX1_dealByTurns_2 E a0 (fun u0 t => rec (u0, t)) a.1 a.2) FU ((0 : Int32), σ)) (fun o14 s15 => ss (si s15 a0 8 (gi s15 a0 7)) (fun s16 => ss (si s16 a0 9 (gi s16 a0 2)) (fun s17 => dr (rf E a0 12) E 100 (fun x18 => ck (5 : Int32) (ln E x18) (ss (si s17 x18 (5 : Int32).toNatClampNeg (-1 : Int32)) (fun s20 => some s20)))))))
set_option maxHeartbeats 4000000 in
set_option maxRecDepth 100000 in
theorem kX1_dealByTurns {l : Launch} {G : Gl} {E : En} {a0 : Nat} {σ σ' : Sg} : fX1_dealByTurns E a0 σ = some σ' → CT l yX1_dealByTurns cX1_dealByTurns 2 none ({ frames := 1, cells := 0, slots := 0, locals := 21 } : Room) [.ref (G.1 + a0)] G E σ none σ' := by
  intro h
  refine CT_of (lv0 := [(0, .ref (G.1 + a0))]) (by decide) (Nat.le_of_ble_eq_true rfl) rfl (fun κ hl hR hr C => ?_)
  have C : Cx κ G cX1_dealByTurns RX1 2 := C
  revert h
  unfold fX1_dealByTurns
  refine R_tk (fun ha0 => ?_)
  refine R_iconst C (0) dX1_dealByTurns_0 (by decide) ?_
  refine R_istore_n (lv2 := [(1, .int (0 : Int32)), (0, .ref (G.1 + a0))]) C dX1_dealByTurns_1 rfl (by decide) rfl ?_
  refine R_loc (lv2 := [(0, .ref (G.1 + a0)), (1, .int (0 : Int32))]) [1, 0] rfl ?_
  refine R_loop (fun (a : (Int32) × Sg) => V κ G (QQ κ G E none σ') E a.2 (false, 0, 0) 2 [(0, .ref (G.1 + a0)), (1, .int a.1)] []) (fun (o : (Int32)) (s : Sg) => V κ G (QQ κ G E none σ') E s (false, 0, 0) 31 [(0, .ref (G.1 + a0))] []) ((0 : Int32), σ) (fun o14 s15 => ?_) (fun rec I6 a b4 s5 K3 => ?_)
  · refine R_aload_n C 0 rfl dX1_dealByTurns_31 ?_
    refine R_aload_n C 0 rfl dX1_dealByTurns_32 ?_
    refine R_geti C fl1_65 rfl ha0 dX1_dealByTurns_33 ?_
    refine S_puti C fl1_71 rfl ha0 rfl rfl dX1_dealByTurns_36 (fun s16 => ?_)
    refine R_aload_n C 0 rfl dX1_dealByTurns_39 ?_
    refine R_aload_n C 0 rfl dX1_dealByTurns_40 ?_
    refine R_geti C fl1_9 rfl ha0 dX1_dealByTurns_41 ?_
    refine S_puti C fl1_74 rfl ha0 rfl rfl dX1_dealByTurns_44 (fun s17 => ?_)
    refine R_aload_n C 0 rfl dX1_dealByTurns_47 ?_
    refine R_dr (fun x18 rx18 cx18 => ?_)
    refine R_getr C fl1_25 rfl ha0 rx18 dX1_dealByTurns_48 ?_
    refine R_iconst C (5) dX1_dealByTurns_51 (by decide) ?_
    refine R_iconst C (-1) dX1_dealByTurns_52 (by decide) ?_
    refine R_ck (fun h19 => ?_)
    refine S_iast C cx18 h19 dX1_dealByTurns_53 (fun s20 => ?_)
    exact R_vret C hr dX1_dealByTurns_54
  · obtain ⟨v1, s2⟩ := a
    show bX1_dealByTurns_2 E a0 (fun u0 t => rec (u0, t)) v1 s2 = some (b4, s5) → V κ G (QQ κ G E none σ') E s2 (false, 0, 0) 2 [(0, .ref (G.1 + a0)), (1, .int v1)] []
    unfold bX1_dealByTurns_2
    refine R_iload_n C 1 rfl dX1_dealByTurns_2 ?_
    refine R_aload_n C 0 rfl dX1_dealByTurns_3 ?_
    refine R_geti C fl1_65 rfl ha0 dX1_dealByTurns_4 ?_
    refine B_icmp_ge C dX1_dealByTurns_7 ?_ ?_
    · refine R_loc (lv2 := [(0, .ref (G.1 + a0))]) [0] rfl ?_
      exact R_end (fun (o : (Int32)) (s : Sg) => V κ G (QQ κ G E none σ') E s (false, 0, 0) 31 [(0, .ref (G.1 + a0))] []) K3
    · refine R_aload_n C 0 rfl dX1_dealByTurns_10 ?_
      refine R_dr (fun x7 rx7 cx7 => ?_)
      refine R_getr C fl1_17 rfl ha0 rx7 dX1_dealByTurns_11 ?_
      refine R_iload_n C 1 rfl dX1_dealByTurns_14 ?_
      refine R_aload_n C 0 rfl dX1_dealByTurns_15 ?_
      refine R_geti C fl1_9 rfl ha0 dX1_dealByTurns_16 ?_
      refine R_nz (fun h8 => ?_)
      refine R_irem C dX1_dealByTurns_19 h8 ?_
      refine R_ck (fun h9 => ?_)
      refine R_dr (fun x10 rx10 cx10 => ?_)
      refine R_aald4 C cx7 h9 rx10 dX1_dealByTurns_20 ?_
      refine R_iload_n C 1 rfl dX1_dealByTurns_21 ?_
      refine R_bv (fun s11 q12 => ?_)
      refine R_callVv [.int v1] [] C ml1_110 (kX5_write q12) (by rw [hR]; exact ⟨rfl, rfl, Nat.le_of_ble_eq_true rfl, Nat.le_of_ble_eq_true rfl, Nat.zero_le _, Nat.zero_le _⟩) cx10 rfl rfl (Nat.le_of_ble_eq_true rfl) dX1_dealByTurns_22 ?_
      refine S_iinc (fun v13 => [(1, .int v13), (0, .ref (G.1 + a0))]) 1 C dX1_dealByTurns_25 rfl (by decide) (by decide) (fun _ => rfl) (fun v13 => ?_)
      refine R_goto C dX1_dealByTurns_28 ?_
      refine R_loc (lv2 := [(0, .ref (G.1 + a0)), (1, .int v13)]) [1, 0] rfl ?_
      exact I6 (v13, s11) b4 s5 K3
theorem dX1_firstPlace_0 : dk cX1_firstPlace 0 1 (.iconst 0) 1 := by unfold dk; decide +kernel
theorem dX1_firstPlace_1 : dk cX1_firstPlace 1 2 (.istore_n 1) 1 := by unfold dk; decide +kernel
theorem dX1_firstPlace_2 : dk cX1_firstPlace 2 3 (.iload_n 1) 1 := by unfold dk; decide +kernel
theorem dX1_firstPlace_3 : dk cX1_firstPlace 3 4 (.aload_n 0) 1 := by unfold dk; decide +kernel
theorem dX1_firstPlace_4 : dk cX1_firstPlace 4 7 (.getfield 58) 3 := by unfold dk; decide +kernel
theorem dX1_firstPlace_7 : dk cX1_firstPlace 7 8 (.iconst 1) 1 := by unfold dk; decide +kernel
theorem dX1_firstPlace_8 : dk cX1_firstPlace 8 9 (.isub) 1 := by unfold dk; decide +kernel
theorem dX1_firstPlace_12 : dk cX1_firstPlace 12 13 (.aload_n 0) 1 := by unfold dk; decide +kernel
theorem dX1_firstPlace_13 : dk cX1_firstPlace 13 16 (.getfield 35) 3 := by unfold dk; decide +kernel
theorem dX1_firstPlace_16 : dk cX1_firstPlace 16 19 (.getfield 127) 3 := by unfold dk; decide +kernel
theorem dX1_firstPlace_19 : dk cX1_firstPlace 19 20 (.iload_n 1) 1 := by unfold dk; decide +kernel
theorem dX1_firstPlace_20 : dk cX1_firstPlace 20 21 (.iaload) 1 := by unfold dk; decide +kernel
theorem dX1_firstPlace_26 : dk cX1_firstPlace 26 29 (.iinc 1 1) 3 := by unfold dk; decide +kernel
theorem dX1_firstPlace_29 : bk cX1_firstPlace 29 32 2 (.goto (-27)) (-27) := by unfold bk; decide +kernel
theorem dX1_firstPlace_24 : dk cX1_firstPlace 24 25 (.iload_n 1) 1 := by unfold dk; decide +kernel
theorem dX1_firstPlace_25 : dk cX1_firstPlace 25 26 (.ireturn) 1 := by unfold dk; decide +kernel
theorem dX1_firstPlace_21 : bk cX1_firstPlace 21 24 26 (.ifCond .le 5) (5) := by unfold bk; decide +kernel
theorem dX1_firstPlace_9 : bk cX1_firstPlace 9 12 32 (.if_icmp .ge 23) (23) := by unfold bk; decide +kernel
theorem dX1_firstPlace_32 : dk cX1_firstPlace 32 33 (.iconst 0) 1 := by unfold dk; decide +kernel
theorem dX1_firstPlace_33 : dk cX1_firstPlace 33 34 (.ireturn) 1 := by unfold dk; decide +kernel
def bX1_firstPlace_2 (E : En) (a0 : Nat) (rec : Int32 → Sg → Option (((Int32) ⊕ Int32) × Sg)) (v1 : Int32) (s2 : Sg) : Option (((Int32) ⊕ Int32) × Sg) := if ((gi s2 a0 1) - (1 : Int32)) ≤ v1 then (some (.inl v1, s2)) else (dr (rf E a0 17) E 2 (fun x7 => dr (rf E x7 0) E 100 (fun x8 => ck v1 (ln E x8) (if (gi s2 x8 v1.toNatClampNeg) ≤ 0 then (lt (v1 + (1 : Int32)) (fun v10 => rec v10 s2)) else (some (.inr v1, s2))))))
def fX1_firstPlace (E : En) (a0 : Nat) (σ : Sg) : Option (Int32 × Sg) := tk (cd E a0) 1 (bd (fx (fun rec a => bX1_firstPlace_2 E a0 (fun u0 t => rec (u0, t)) a.1 a.2) FU ((0 : Int32), σ)) (fun o11 s12 => sm o11 (fun vo11 => some ((0 : Int32), s12)) (fun rr => some (rr, s12))))
set_option maxHeartbeats 4000000 in
set_option maxRecDepth 100000 in
theorem kX1_firstPlace {l : Launch} {G : Gl} {E : En} {a0 : Nat} {σ σ' : Sg} {r : Int32} : fX1_firstPlace E a0 σ = some (r, σ') → CT l yX1_firstPlace cX1_firstPlace 2 (some .int) ({ frames := 0, cells := 0, slots := 0, locals := 0 } : Room) [.ref (G.1 + a0)] G E σ (some (.int r)) σ' := by
  intro h
  refine CT_of (lv0 := [(0, .ref (G.1 + a0))]) (by decide) (Nat.le_of_ble_eq_true rfl) rfl (fun κ hl hR hr C => ?_)
  have C : Cx κ G cX1_firstPlace RX1 2 := C
  revert h
  unfold fX1_firstPlace
  refine R_tk (fun ha0 => ?_)
  refine R_iconst C (0) dX1_firstPlace_0 (by decide) ?_
  refine R_istore_n (lv2 := [(1, .int (0 : Int32)), (0, .ref (G.1 + a0))]) C dX1_firstPlace_1 rfl (by decide) rfl ?_
  refine R_loc (lv2 := [(0, .ref (G.1 + a0)), (1, .int (0 : Int32))]) [1, 0] rfl ?_
  refine R_loop (fun (a : (Int32) × Sg) => V κ G (QQ κ G E (some (.int r)) σ') E a.2 (false, 0, 0) 2 [(0, .ref (G.1 + a0)), (1, .int a.1)] []) (fun (o : ((Int32) ⊕ Int32)) (s : Sg) => sm o (fun o => V κ G (QQ κ G E (some (.int r)) σ') E s (false, 0, 0) 32 [] []) (fun rr => some (rr, s) = some (r, σ'))) ((0 : Int32), σ) (fun o11 s12 => ?_) (fun rec I6 a b4 s5 K3 => ?_)
  · rcases o11 with vo11 | ro11
    · refine R_iconst C (0) dX1_firstPlace_32 (by decide) ?_
      exact R_iret C hr dX1_firstPlace_33
    · exact fun h => h
  · obtain ⟨v1, s2⟩ := a
    show bX1_firstPlace_2 E a0 (fun u0 t => rec (u0, t)) v1 s2 = some (b4, s5) → V κ G (QQ κ G E (some (.int r)) σ') E s2 (false, 0, 0) 2 [(0, .ref (G.1 + a0)), (1, .int v1)] []
    unfold bX1_firstPlace_2
    refine R_iload_n C 1 rfl dX1_firstPlace_2 ?_
    refine R_aload_n C 0 rfl dX1_firstPlace_3 ?_
    refine R_geti C fl1_58 rfl ha0 dX1_firstPlace_4 ?_
    refine R_iconst C (1) dX1_firstPlace_7 (by decide) ?_
    refine R_isub C dX1_firstPlace_8 ?_
    refine B_icmp_ge C dX1_firstPlace_9 ?_ ?_
    · refine R_loc (lv2 := []) [] rfl ?_
      exact R_inr (VX := (fun (o : ((Int32) ⊕ Int32)) (s : Sg) => sm o (fun o => V κ G (QQ κ G E (some (.int r)) σ') E s (false, 0, 0) 32 [] []) (fun rr => some (rr, s) = some (r, σ')))) (i := .inl) K3 (fun h => h)
    · refine R_aload_n C 0 rfl dX1_firstPlace_12 ?_
      refine R_dr (fun x7 rx7 cx7 => ?_)
      refine R_getr C fl1_35 rfl ha0 rx7 dX1_firstPlace_13 ?_
      refine R_dr (fun x8 rx8 cx8 => ?_)
      refine R_getr C fl1_127 rfl cx7 rx8 dX1_firstPlace_16 ?_
      refine R_iload_n C 1 rfl dX1_firstPlace_19 ?_
      refine R_ck (fun h9 => ?_)
      refine R_iald C cx8 h9 dX1_firstPlace_20 ?_
      refine B_if_le C dX1_firstPlace_21 ?_ ?_
      · refine S_iinc (fun v10 => [(1, .int v10), (0, .ref (G.1 + a0))]) 1 C dX1_firstPlace_26 rfl (by decide) (by decide) (fun _ => rfl) (fun v10 => ?_)
        refine R_goto C dX1_firstPlace_29 ?_
        refine R_loc (lv2 := [(0, .ref (G.1 + a0)), (1, .int v10)]) [1, 0] rfl ?_
        exact I6 (v10, s2) b4 s5 K3
      · refine R_iload_n C 1 rfl dX1_firstPlace_24 ?_
        exact R_inr (VX := (fun (o : ((Int32) ⊕ Int32)) (s : Sg) => sm o (fun o => V κ G (QQ κ G E (some (.int r)) σ') E s (false, 0, 0) 32 [] []) (fun rr => some (rr, s) = some (r, σ')))) (i := .inr) K3 (R_iret C hr dX1_firstPlace_25)
theorem dX1_fewestBlanks_0 : dk cX1_fewestBlanks 0 1 (.aload_n 0) 1 := by unfold dk; decide +kernel
theorem dX1_fewestBlanks_1 : dk cX1_fewestBlanks 1 4 (.invokevirtual 121) 3 := by unfold dk; decide +kernel
theorem dX1_fewestBlanks_4 : dk cX1_fewestBlanks 4 5 (.istore_n 1) 1 := by unfold dk; decide +kernel
theorem dX1_fewestBlanks_5 : dk cX1_fewestBlanks 5 6 (.iload_n 1) 1 := by unfold dk; decide +kernel
theorem dX1_fewestBlanks_6 : dk cX1_fewestBlanks 6 7 (.iconst 1) 1 := by unfold dk; decide +kernel
theorem dX1_fewestBlanks_7 : dk cX1_fewestBlanks 7 8 (.iadd) 1 := by unfold dk; decide +kernel
theorem dX1_fewestBlanks_8 : dk cX1_fewestBlanks 8 9 (.istore_n 2) 1 := by unfold dk; decide +kernel
theorem dX1_fewestBlanks_9 : dk cX1_fewestBlanks 9 10 (.iload_n 2) 1 := by unfold dk; decide +kernel
theorem dX1_fewestBlanks_10 : dk cX1_fewestBlanks 10 11 (.aload_n 0) 1 := by unfold dk; decide +kernel
theorem dX1_fewestBlanks_11 : dk cX1_fewestBlanks 11 14 (.getfield 58) 3 := by unfold dk; decide +kernel
theorem dX1_fewestBlanks_14 : dk cX1_fewestBlanks 14 15 (.iconst 1) 1 := by unfold dk; decide +kernel
theorem dX1_fewestBlanks_15 : dk cX1_fewestBlanks 15 16 (.isub) 1 := by unfold dk; decide +kernel
theorem dX1_fewestBlanks_19 : dk cX1_fewestBlanks 19 20 (.aload_n 0) 1 := by unfold dk; decide +kernel
theorem dX1_fewestBlanks_20 : dk cX1_fewestBlanks 20 23 (.getfield 35) 3 := by unfold dk; decide +kernel
theorem dX1_fewestBlanks_23 : dk cX1_fewestBlanks 23 26 (.getfield 127) 3 := by unfold dk; decide +kernel
theorem dX1_fewestBlanks_26 : dk cX1_fewestBlanks 26 27 (.iload_n 2) 1 := by unfold dk; decide +kernel
theorem dX1_fewestBlanks_27 : dk cX1_fewestBlanks 27 28 (.iaload) 1 := by unfold dk; decide +kernel
theorem dX1_fewestBlanks_28 : bk cX1_fewestBlanks 28 31 48 (.ifCond .le 20) (20) := by unfold bk; decide +kernel
theorem dX1_fewestBlanks_31 : dk cX1_fewestBlanks 31 32 (.aload_n 0) 1 := by unfold dk; decide +kernel
theorem dX1_fewestBlanks_32 : dk cX1_fewestBlanks 32 35 (.getfield 39) 3 := by unfold dk; decide +kernel
theorem dX1_fewestBlanks_35 : dk cX1_fewestBlanks 35 36 (.iload_n 2) 1 := by unfold dk; decide +kernel
theorem dX1_fewestBlanks_36 : dk cX1_fewestBlanks 36 37 (.iaload) 1 := by unfold dk; decide +kernel
theorem dX1_fewestBlanks_37 : dk cX1_fewestBlanks 37 38 (.aload_n 0) 1 := by unfold dk; decide +kernel
theorem dX1_fewestBlanks_38 : dk cX1_fewestBlanks 38 41 (.getfield 39) 3 := by unfold dk; decide +kernel
theorem dX1_fewestBlanks_41 : dk cX1_fewestBlanks 41 42 (.iload_n 1) 1 := by unfold dk; decide +kernel
theorem dX1_fewestBlanks_42 : dk cX1_fewestBlanks 42 43 (.iaload) 1 := by unfold dk; decide +kernel
theorem dX1_fewestBlanks_46 : dk cX1_fewestBlanks 46 47 (.iload_n 2) 1 := by unfold dk; decide +kernel
theorem dX1_fewestBlanks_47 : dk cX1_fewestBlanks 47 48 (.istore_n 1) 1 := by unfold dk; decide +kernel
theorem dX1_fewestBlanks_43 : bk cX1_fewestBlanks 43 46 48 (.if_icmp .ge 5) (5) := by unfold bk; decide +kernel
theorem dX1_fewestBlanks_48 : dk cX1_fewestBlanks 48 51 (.iinc 2 1) 3 := by unfold dk; decide +kernel
theorem dX1_fewestBlanks_51 : bk cX1_fewestBlanks 51 54 9 (.goto (-42)) (-42) := by unfold bk; decide +kernel
theorem dX1_fewestBlanks_16 : bk cX1_fewestBlanks 16 19 54 (.if_icmp .ge 38) (38) := by unfold bk; decide +kernel
theorem dX1_fewestBlanks_54 : dk cX1_fewestBlanks 54 55 (.iload_n 1) 1 := by unfold dk; decide +kernel
theorem dX1_fewestBlanks_55 : dk cX1_fewestBlanks 55 56 (.ireturn) 1 := by unfold dk; decide +kernel
def bX1_fewestBlanks_9 (E : En) (a0 : Nat) (rec : Int32 → Int32 → Sg → Option ((Int32 × Int32) × Sg)) (v5 : Int32) (v6 : Int32) (s7 : Sg) : Option ((Int32 × Int32) × Sg) := if ((gi s7 a0 1) - (1 : Int32)) ≤ v6 then (some ((v5, v6), s7)) else (dr (rf E a0 17) E 2 (fun x12 => dr (rf E x12 0) E 100 (fun x13 => ck v6 (ln E x13) (bd (if (gi s7 x13 v6.toNatClampNeg) ≤ 0 then (some (v5, s7)) else (dr (rf E a0 18) E 100 (fun x17 => ck v6 (ln E x17) (ck v5 (ln E x17) (if (gi s7 x17 v5.toNatClampNeg) ≤ (gi s7 x17 v6.toNatClampNeg) then (some (v5, s7)) else (some (v6, s7))))))) (fun w15 s16 => lt (v6 + (1 : Int32)) (fun v20 => rec w15 v20 s16))))))
def fX1_fewestBlanks (E : En) (a0 : Nat) (σ : Sg) : Option (Int32 × Sg) := tk (cd E a0) 1 (bd (fX1_firstPlace E a0 σ) (fun r3 s1 => lt (r3 + (1 : Int32)) (fun v4 => bd (fx (fun rec a => bX1_fewestBlanks_9 E a0 (fun u0 u1 t => rec ((u0, u1), t)) a.1.1 a.1.2 a.2) FU ((r3, v4), s1)) (fun o21 s22 => some (o21.1, s22)))))
set_option maxHeartbeats 4000000 in
set_option maxRecDepth 100000 in
theorem kX1_fewestBlanks {l : Launch} {G : Gl} {E : En} {a0 : Nat} {σ σ' : Sg} {r : Int32} : fX1_fewestBlanks E a0 σ = some (r, σ') → CT l yX1_fewestBlanks cX1_fewestBlanks 3 (some .int) ({ frames := 1, cells := 0, slots := 0, locals := 21 } : Room) [.ref (G.1 + a0)] G E σ (some (.int r)) σ' := by
  intro h
  refine CT_of (lv0 := [(0, .ref (G.1 + a0))]) (by decide) (Nat.le_of_ble_eq_true rfl) rfl (fun κ hl hR hr C => ?_)
  have C : Cx κ G cX1_fewestBlanks RX1 3 := C
  revert h
  unfold fX1_fewestBlanks
  refine R_tk (fun ha0 => ?_)
  refine R_aload_n C 0 rfl dX1_fewestBlanks_0 ?_
  refine R_bd (fun r3 s1 q2 => ?_)
  refine R_callVi [] [] C ml1_121 (kX1_firstPlace q2) (by rw [hR]; exact ⟨rfl, rfl, Nat.le_of_ble_eq_true rfl, Nat.le_of_ble_eq_true rfl, Nat.zero_le _, Nat.zero_le _⟩) ha0 rfl rfl (Nat.le_of_ble_eq_true rfl) dX1_fewestBlanks_1 ?_
  refine R_istore_n (lv2 := [(1, .int r3), (0, .ref (G.1 + a0))]) C dX1_fewestBlanks_4 rfl (by decide) rfl ?_
  refine R_iload_n C 0 rfl dX1_fewestBlanks_5 ?_
  refine R_iconst C (1) dX1_fewestBlanks_6 (by decide) ?_
  refine R_iadd C dX1_fewestBlanks_7 ?_
  refine S_istore_n C dX1_fewestBlanks_8 rfl (fun v4 => [(2, .int v4), (1, .int r3), (0, .ref (G.1 + a0))]) (by decide) (fun _ => rfl) (fun v4 => ?_)
  refine R_loc (lv2 := [(0, .ref (G.1 + a0)), (1, .int r3), (2, .int v4)]) [2, 1, 0] rfl ?_
  refine R_loop (fun (a : (Int32 × Int32) × Sg) => V κ G (QQ κ G E (some (.int r)) σ') E a.2 (false, 0, 0) 9 [(0, .ref (G.1 + a0)), (1, .int a.1.1), (2, .int a.1.2)] []) (fun (o : (Int32 × Int32)) (s : Sg) => V κ G (QQ κ G E (some (.int r)) σ') E s (false, 0, 0) 54 [(1, .int o.1)] []) ((r3, v4), s1) (fun o21 s22 => ?_) (fun rec I11 a b9 s10 K8 => ?_)
  · refine R_iload_n C 0 rfl dX1_fewestBlanks_54 ?_
    exact R_iret C hr dX1_fewestBlanks_55
  · obtain ⟨⟨v5, v6⟩, s7⟩ := a
    show bX1_fewestBlanks_9 E a0 (fun u0 u1 t => rec ((u0, u1), t)) v5 v6 s7 = some (b9, s10) → V κ G (QQ κ G E (some (.int r)) σ') E s7 (false, 0, 0) 9 [(0, .ref (G.1 + a0)), (1, .int v5), (2, .int v6)] []
    unfold bX1_fewestBlanks_9
    refine R_iload_n C 2 rfl dX1_fewestBlanks_9 ?_
    refine R_aload_n C 0 rfl dX1_fewestBlanks_10 ?_
    refine R_geti C fl1_58 rfl ha0 dX1_fewestBlanks_11 ?_
    refine R_iconst C (1) dX1_fewestBlanks_14 (by decide) ?_
    refine R_isub C dX1_fewestBlanks_15 ?_
    refine B_icmp_ge C dX1_fewestBlanks_16 ?_ ?_
    · refine R_loc (lv2 := [(1, .int v5)]) [1] rfl ?_
      exact R_end (fun (o : (Int32 × Int32)) (s : Sg) => V κ G (QQ κ G E (some (.int r)) σ') E s (false, 0, 0) 54 [(1, .int o.1)] []) K8
    · refine R_aload_n C 0 rfl dX1_fewestBlanks_19 ?_
      refine R_dr (fun x12 rx12 cx12 => ?_)
      refine R_getr C fl1_35 rfl ha0 rx12 dX1_fewestBlanks_20 ?_
      refine R_dr (fun x13 rx13 cx13 => ?_)
      refine R_getr C fl1_127 rfl cx12 rx13 dX1_fewestBlanks_23 ?_
      refine R_iload_n C 2 rfl dX1_fewestBlanks_26 ?_
      refine R_ck (fun h14 => ?_)
      refine R_iald C cx13 h14 dX1_fewestBlanks_27 ?_
      refine R_bdK (fun (w : Int32) (s : Sg) => V κ G (QQ κ G E (some (.int r)) σ') E s (false, 0, 0) 48 [(0, .ref (G.1 + a0)), (2, .int v6), (1, .int w)] []) (fun w15 s16 => ?_) (fun w15 s16 Kw15 => ?_)
      · refine S_iinc (fun v20 => [(2, .int v20), (0, .ref (G.1 + a0)), (1, .int w15)]) 1 C dX1_fewestBlanks_48 rfl (by decide) (by decide) (fun _ => rfl) (fun v20 => ?_)
        refine R_goto C dX1_fewestBlanks_51 ?_
        refine R_loc (lv2 := [(0, .ref (G.1 + a0)), (1, .int w15), (2, .int v20)]) [1, 2, 0] rfl ?_
        exact I11 ((w15, v20), s16) b9 s10 K8
      · refine B_if_le C dX1_fewestBlanks_28 ?_ ?_
        · refine R_loc (lv2 := [(0, .ref (G.1 + a0)), (2, .int v6), (1, .int v5)]) [0, 2, 1] rfl ?_
          exact R_end (fun (w : Int32) (s : Sg) => V κ G (QQ κ G E (some (.int r)) σ') E s (false, 0, 0) 48 [(0, .ref (G.1 + a0)), (2, .int v6), (1, .int w)] []) Kw15
        · refine R_aload_n C 0 rfl dX1_fewestBlanks_31 ?_
          refine R_dr (fun x17 rx17 cx17 => ?_)
          refine R_getr C fl1_39 rfl ha0 rx17 dX1_fewestBlanks_32 ?_
          refine R_iload_n C 2 rfl dX1_fewestBlanks_35 ?_
          refine R_ck (fun h18 => ?_)
          refine R_iald C cx17 h18 dX1_fewestBlanks_36 ?_
          refine R_aload_n C 0 rfl dX1_fewestBlanks_37 ?_
          refine R_getr C fl1_39 rfl ha0 rx17 dX1_fewestBlanks_38 ?_
          refine R_iload_n C 1 rfl dX1_fewestBlanks_41 ?_
          refine R_ck (fun h19 => ?_)
          refine R_iald C cx17 h19 dX1_fewestBlanks_42 ?_
          refine B_icmp_ge C dX1_fewestBlanks_43 ?_ ?_
          · refine R_loc (lv2 := [(0, .ref (G.1 + a0)), (2, .int v6), (1, .int v5)]) [0, 2, 1] rfl ?_
            exact R_end (fun (w : Int32) (s : Sg) => V κ G (QQ κ G E (some (.int r)) σ') E s (false, 0, 0) 48 [(0, .ref (G.1 + a0)), (2, .int v6), (1, .int w)] []) Kw15
          · refine R_iload_n C 2 rfl dX1_fewestBlanks_46 ?_
            refine R_istore_n (lv2 := [(1, .int v6), (0, .ref (G.1 + a0)), (2, .int v6)]) C dX1_fewestBlanks_47 rfl (by decide) rfl ?_
            refine R_loc (lv2 := [(0, .ref (G.1 + a0)), (2, .int v6), (1, .int v6)]) [1, 2, 0] rfl ?_
            exact R_end (fun (w : Int32) (s : Sg) => V κ G (QQ κ G E (some (.int r)) σ') E s (false, 0, 0) 48 [(0, .ref (G.1 + a0)), (2, .int v6), (1, .int w)] []) Kw15
theorem dX1_writeBlanks_0 : dk cX1_writeBlanks 0 1 (.iconst 0) 1 := by unfold dk; decide +kernel
theorem dX1_writeBlanks_1 : dk cX1_writeBlanks 1 2 (.istore_n 1) 1 := by unfold dk; decide +kernel
theorem dX1_writeBlanks_2 : dk cX1_writeBlanks 2 3 (.iload_n 1) 1 := by unfold dk; decide +kernel
theorem dX1_writeBlanks_3 : dk cX1_writeBlanks 3 4 (.aload_n 0) 1 := by unfold dk; decide +kernel
theorem dX1_writeBlanks_4 : dk cX1_writeBlanks 4 7 (.getfield 58) 3 := by unfold dk; decide +kernel
theorem dX1_writeBlanks_7 : dk cX1_writeBlanks 7 8 (.iconst 1) 1 := by unfold dk; decide +kernel
theorem dX1_writeBlanks_8 : dk cX1_writeBlanks 8 9 (.isub) 1 := by unfold dk; decide +kernel
theorem dX1_writeBlanks_12 : dk cX1_writeBlanks 12 13 (.iconst 0) 1 := by unfold dk; decide +kernel
theorem dX1_writeBlanks_13 : dk cX1_writeBlanks 13 14 (.istore_n 2) 1 := by unfold dk; decide +kernel
theorem dX1_writeBlanks_14 : dk cX1_writeBlanks 14 15 (.iload_n 2) 1 := by unfold dk; decide +kernel
theorem dX1_writeBlanks_15 : dk cX1_writeBlanks 15 16 (.aload_n 0) 1 := by unfold dk; decide +kernel
theorem dX1_writeBlanks_16 : dk cX1_writeBlanks 16 19 (.getfield 39) 3 := by unfold dk; decide +kernel
theorem dX1_writeBlanks_19 : dk cX1_writeBlanks 19 20 (.iload_n 1) 1 := by unfold dk; decide +kernel
theorem dX1_writeBlanks_20 : dk cX1_writeBlanks 20 21 (.iaload) 1 := by unfold dk; decide +kernel
theorem dX1_writeBlanks_24 : dk cX1_writeBlanks 24 25 (.aload_n 0) 1 := by unfold dk; decide +kernel
theorem dX1_writeBlanks_25 : dk cX1_writeBlanks 25 28 (.getfield 17) 3 := by unfold dk; decide +kernel
theorem dX1_writeBlanks_28 : dk cX1_writeBlanks 28 29 (.iload_n 1) 1 := by unfold dk; decide +kernel
theorem dX1_writeBlanks_29 : dk cX1_writeBlanks 29 30 (.aaload) 1 := by unfold dk; decide +kernel
theorem dX1_writeBlanks_30 : dk cX1_writeBlanks 30 31 (.iconst (-1)) 1 := by unfold dk; decide +kernel
theorem dX1_writeBlanks_31 : dk cX1_writeBlanks 31 34 (.invokevirtual 110) 3 := by unfold dk; decide +kernel
theorem dX1_writeBlanks_34 : dk cX1_writeBlanks 34 37 (.iinc 2 1) 3 := by unfold dk; decide +kernel
theorem dX1_writeBlanks_37 : bk cX1_writeBlanks 37 40 14 (.goto (-23)) (-23) := by unfold bk; decide +kernel
theorem dX1_writeBlanks_21 : bk cX1_writeBlanks 21 24 40 (.if_icmp .ge 19) (19) := by unfold bk; decide +kernel
theorem dX1_writeBlanks_40 : dk cX1_writeBlanks 40 43 (.iinc 1 1) 3 := by unfold dk; decide +kernel
theorem dX1_writeBlanks_43 : bk cX1_writeBlanks 43 46 2 (.goto (-41)) (-41) := by unfold bk; decide +kernel
theorem dX1_writeBlanks_9 : bk cX1_writeBlanks 9 12 46 (.if_icmp .ge 37) (37) := by unfold bk; decide +kernel
theorem dX1_writeBlanks_46 : dk cX1_writeBlanks 46 47 (.return_) 1 := by unfold dk; decide +kernel
def bX1_writeBlanks_14 (E : En) (a0 : Nat) (v1 : Int32) (rec : Int32 → Sg → Option ((Int32) × Sg)) (v7 : Int32) (s8 : Sg) : Option ((Int32) × Sg) := dr (rf E a0 18) E 100 (fun x13 => ck v1 (ln E x13) (if (gi s8 x13 v1.toNatClampNeg) ≤ v7 then (some (v7, s8)) else (dr (rf E a0 4) E 104 (fun x15 => ck v1 (ln E x15) (dr (rf E x15 v1.toNatClampNeg) E 5 (fun x17 => bv (fX5_write E x17 (-1 : Int32) s8) (fun s18 => lt (v7 + (1 : Int32)) (fun v20 => rec v20 s18))))))))
def bX1_writeBlanks_2 (E : En) (a0 : Nat) (rec : Int32 → Sg → Option ((Int32) × Sg)) (v1 : Int32) (s2 : Sg) : Option ((Int32) × Sg) := if ((gi s2 a0 1) - (1 : Int32)) ≤ v1 then (some (v1, s2)) else (bd (fx (fun rec a => bX1_writeBlanks_14 E a0 v1 (fun u0 t => rec (u0, t)) a.1 a.2) FU ((0 : Int32), s2)) (fun o21 s22 => lt (v1 + (1 : Int32)) (fun v23 => rec v23 s22)))
def fX1_writeBlanks (E : En) (a0 : Nat) (σ : Sg) : Option (Sg) := tk (cd E a0) 1 (bd (fx (fun rec a => bX1_writeBlanks_2 E a0 (fun u0 t => rec (u0, t)) a.1 a.2) FU ((0 : Int32), σ)) (fun o24 s25 => some s25))
set_option maxHeartbeats 4000000 in
set_option maxRecDepth 100000 in
theorem kX1_writeBlanks {l : Launch} {G : Gl} {E : En} {a0 : Nat} {σ σ' : Sg} : fX1_writeBlanks E a0 σ = some σ' → CT l yX1_writeBlanks cX1_writeBlanks 3 none ({ frames := 1, cells := 0, slots := 0, locals := 21 } : Room) [.ref (G.1 + a0)] G E σ none σ' := by
  intro h
  refine CT_of (lv0 := [(0, .ref (G.1 + a0))]) (by decide) (Nat.le_of_ble_eq_true rfl) rfl (fun κ hl hR hr C => ?_)
  have C : Cx κ G cX1_writeBlanks RX1 3 := C
  revert h
  unfold fX1_writeBlanks
  refine R_tk (fun ha0 => ?_)
  refine R_iconst C (0) dX1_writeBlanks_0 (by decide) ?_
  refine R_istore_n (lv2 := [(1, .int (0 : Int32)), (0, .ref (G.1 + a0))]) C dX1_writeBlanks_1 rfl (by decide) rfl ?_
  refine R_loc (lv2 := [(0, .ref (G.1 + a0)), (1, .int (0 : Int32))]) [1, 0] rfl ?_
  refine R_loop (fun (a : (Int32) × Sg) => V κ G (QQ κ G E none σ') E a.2 (false, 0, 0) 2 [(0, .ref (G.1 + a0)), (1, .int a.1)] []) (fun (o : (Int32)) (s : Sg) => V κ G (QQ κ G E none σ') E s (false, 0, 0) 46 [] []) ((0 : Int32), σ) (fun o24 s25 => ?_) (fun rec I6 a b4 s5 K3 => ?_)
  · exact R_vret C hr dX1_writeBlanks_46
  · obtain ⟨v1, s2⟩ := a
    show bX1_writeBlanks_2 E a0 (fun u0 t => rec (u0, t)) v1 s2 = some (b4, s5) → V κ G (QQ κ G E none σ') E s2 (false, 0, 0) 2 [(0, .ref (G.1 + a0)), (1, .int v1)] []
    unfold bX1_writeBlanks_2
    refine R_iload_n C 1 rfl dX1_writeBlanks_2 ?_
    refine R_aload_n C 0 rfl dX1_writeBlanks_3 ?_
    refine R_geti C fl1_58 rfl ha0 dX1_writeBlanks_4 ?_
    refine R_iconst C (1) dX1_writeBlanks_7 (by decide) ?_
    refine R_isub C dX1_writeBlanks_8 ?_
    refine B_icmp_ge C dX1_writeBlanks_9 ?_ ?_
    · refine R_loc (lv2 := []) [] rfl ?_
      exact R_end (fun (o : (Int32)) (s : Sg) => V κ G (QQ κ G E none σ') E s (false, 0, 0) 46 [] []) K3
    · refine R_iconst C (0) dX1_writeBlanks_12 (by decide) ?_
      refine R_istore_n (lv2 := [(2, .int (0 : Int32)), (0, .ref (G.1 + a0)), (1, .int v1)]) C dX1_writeBlanks_13 rfl (by decide) rfl ?_
      refine R_loc (lv2 := [(0, .ref (G.1 + a0)), (1, .int v1), (2, .int (0 : Int32))]) [1, 2, 0] rfl ?_
      refine R_loop (fun (a : (Int32) × Sg) => V κ G (QQ κ G E none σ') E a.2 (false, 0, 0) 14 [(0, .ref (G.1 + a0)), (1, .int v1), (2, .int a.1)] []) (fun (o : (Int32)) (s : Sg) => V κ G (QQ κ G E none σ') E s (false, 0, 0) 40 [(0, .ref (G.1 + a0)), (1, .int v1)] []) ((0 : Int32), s2) (fun o21 s22 => ?_) (fun rec I12 a b10 s11 K9 => ?_)
      · refine S_iinc (fun v23 => [(1, .int v23), (0, .ref (G.1 + a0))]) 1 C dX1_writeBlanks_40 rfl (by decide) (by decide) (fun _ => rfl) (fun v23 => ?_)
        refine R_goto C dX1_writeBlanks_43 ?_
        refine R_loc (lv2 := [(0, .ref (G.1 + a0)), (1, .int v23)]) [1, 0] rfl ?_
        exact I6 (v23, s22) b4 s5 K3
      · obtain ⟨v7, s8⟩ := a
        show bX1_writeBlanks_14 E a0 v1 (fun u0 t => rec (u0, t)) v7 s8 = some (b10, s11) → V κ G (QQ κ G E none σ') E s8 (false, 0, 0) 14 [(0, .ref (G.1 + a0)), (1, .int v1), (2, .int v7)] []
        unfold bX1_writeBlanks_14
        refine R_iload_n C 2 rfl dX1_writeBlanks_14 ?_
        refine R_aload_n C 0 rfl dX1_writeBlanks_15 ?_
        refine R_dr (fun x13 rx13 cx13 => ?_)
        refine R_getr C fl1_39 rfl ha0 rx13 dX1_writeBlanks_16 ?_
        refine R_iload_n C 1 rfl dX1_writeBlanks_19 ?_
        refine R_ck (fun h14 => ?_)
        refine R_iald C cx13 h14 dX1_writeBlanks_20 ?_
        refine B_icmp_ge C dX1_writeBlanks_21 ?_ ?_
        · refine R_loc (lv2 := [(0, .ref (G.1 + a0)), (1, .int v1)]) [0, 1] rfl ?_
          exact R_end (fun (o : (Int32)) (s : Sg) => V κ G (QQ κ G E none σ') E s (false, 0, 0) 40 [(0, .ref (G.1 + a0)), (1, .int v1)] []) K9
        · refine R_aload_n C 0 rfl dX1_writeBlanks_24 ?_
          refine R_dr (fun x15 rx15 cx15 => ?_)
          refine R_getr C fl1_17 rfl ha0 rx15 dX1_writeBlanks_25 ?_
          refine R_iload_n C 1 rfl dX1_writeBlanks_28 ?_
          refine R_ck (fun h16 => ?_)
          refine R_dr (fun x17 rx17 cx17 => ?_)
          refine R_aald4 C cx15 h16 rx17 dX1_writeBlanks_29 ?_
          refine R_iconst C (-1) dX1_writeBlanks_30 (by decide) ?_
          refine R_bv (fun s18 q19 => ?_)
          refine R_callVv [.int (-1 : Int32)] [] C ml1_110 (kX5_write q19) (by rw [hR]; exact ⟨rfl, rfl, Nat.le_of_ble_eq_true rfl, Nat.le_of_ble_eq_true rfl, Nat.zero_le _, Nat.zero_le _⟩) cx17 rfl rfl (Nat.le_of_ble_eq_true rfl) dX1_writeBlanks_31 ?_
          refine S_iinc (fun v20 => [(2, .int v20), (0, .ref (G.1 + a0)), (1, .int v1)]) 2 C dX1_writeBlanks_34 rfl (by decide) (by decide) (fun _ => rfl) (fun v20 => ?_)
          refine R_goto C dX1_writeBlanks_37 ?_
          refine R_loc (lv2 := [(0, .ref (G.1 + a0)), (1, .int v1), (2, .int v20)]) [1, 2, 0] rfl ?_
          exact I12 (v20, s18) b10 s11 K9
theorem dX1_mostPlaces_0 : dk cX1_mostPlaces 0 1 (.iconst 0) 1 := by unfold dk; decide +kernel
theorem dX1_mostPlaces_1 : dk cX1_mostPlaces 1 2 (.istore_n 1) 1 := by unfold dk; decide +kernel
theorem dX1_mostPlaces_2 : dk cX1_mostPlaces 2 3 (.iconst 1) 1 := by unfold dk; decide +kernel
theorem dX1_mostPlaces_3 : dk cX1_mostPlaces 3 4 (.istore_n 2) 1 := by unfold dk; decide +kernel
theorem dX1_mostPlaces_4 : dk cX1_mostPlaces 4 5 (.iload_n 2) 1 := by unfold dk; decide +kernel
theorem dX1_mostPlaces_5 : dk cX1_mostPlaces 5 6 (.aload_n 0) 1 := by unfold dk; decide +kernel
theorem dX1_mostPlaces_6 : dk cX1_mostPlaces 6 9 (.getfield 58) 3 := by unfold dk; decide +kernel
theorem dX1_mostPlaces_9 : dk cX1_mostPlaces 9 10 (.iconst 1) 1 := by unfold dk; decide +kernel
theorem dX1_mostPlaces_10 : dk cX1_mostPlaces 10 11 (.isub) 1 := by unfold dk; decide +kernel
theorem dX1_mostPlaces_14 : dk cX1_mostPlaces 14 15 (.aload_n 0) 1 := by unfold dk; decide +kernel
theorem dX1_mostPlaces_15 : dk cX1_mostPlaces 15 18 (.getfield 35) 3 := by unfold dk; decide +kernel
theorem dX1_mostPlaces_18 : dk cX1_mostPlaces 18 21 (.getfield 127) 3 := by unfold dk; decide +kernel
theorem dX1_mostPlaces_21 : dk cX1_mostPlaces 21 22 (.iload_n 2) 1 := by unfold dk; decide +kernel
theorem dX1_mostPlaces_22 : dk cX1_mostPlaces 22 23 (.iaload) 1 := by unfold dk; decide +kernel
theorem dX1_mostPlaces_23 : dk cX1_mostPlaces 23 24 (.aload_n 0) 1 := by unfold dk; decide +kernel
theorem dX1_mostPlaces_24 : dk cX1_mostPlaces 24 27 (.getfield 35) 3 := by unfold dk; decide +kernel
theorem dX1_mostPlaces_27 : dk cX1_mostPlaces 27 30 (.getfield 127) 3 := by unfold dk; decide +kernel
theorem dX1_mostPlaces_30 : dk cX1_mostPlaces 30 31 (.iload_n 1) 1 := by unfold dk; decide +kernel
theorem dX1_mostPlaces_31 : dk cX1_mostPlaces 31 32 (.iaload) 1 := by unfold dk; decide +kernel
theorem dX1_mostPlaces_32 : bk cX1_mostPlaces 32 35 37 (.if_icmp .le 5) (5) := by unfold bk; decide +kernel
theorem dX1_mostPlaces_35 : dk cX1_mostPlaces 35 36 (.iload_n 2) 1 := by unfold dk; decide +kernel
theorem dX1_mostPlaces_36 : dk cX1_mostPlaces 36 37 (.istore_n 1) 1 := by unfold dk; decide +kernel
theorem dX1_mostPlaces_37 : dk cX1_mostPlaces 37 40 (.iinc 2 1) 3 := by unfold dk; decide +kernel
theorem dX1_mostPlaces_40 : bk cX1_mostPlaces 40 43 4 (.goto (-36)) (-36) := by unfold bk; decide +kernel
theorem dX1_mostPlaces_11 : bk cX1_mostPlaces 11 14 43 (.if_icmp .ge 32) (32) := by unfold bk; decide +kernel
theorem dX1_mostPlaces_43 : dk cX1_mostPlaces 43 44 (.iload_n 1) 1 := by unfold dk; decide +kernel
theorem dX1_mostPlaces_44 : dk cX1_mostPlaces 44 45 (.ireturn) 1 := by unfold dk; decide +kernel
def bX1_mostPlaces_4 (E : En) (a0 : Nat) (rec : Int32 → Int32 → Sg → Option ((Int32 × Int32) × Sg)) (v1 : Int32) (v2 : Int32) (s3 : Sg) : Option ((Int32 × Int32) × Sg) := if ((gi s3 a0 1) - (1 : Int32)) ≤ v2 then (some ((v1, v2), s3)) else (dr (rf E a0 17) E 2 (fun x8 => dr (rf E x8 0) E 100 (fun x9 => ck v2 (ln E x9) (ck v1 (ln E x9) (bd (if (gi s3 x9 v2.toNatClampNeg) ≤ (gi s3 x9 v1.toNatClampNeg) then (some (v1, s3)) else (some (v2, s3))) (fun w12 s13 => lt (v2 + (1 : Int32)) (fun v14 => rec w12 v14 s13)))))))
def fX1_mostPlaces (E : En) (a0 : Nat) (σ : Sg) : Option (Int32 × Sg) := tk (cd E a0) 1 (bd (fx (fun rec a => bX1_mostPlaces_4 E a0 (fun u0 u1 t => rec ((u0, u1), t)) a.1.1 a.1.2 a.2) FU (((0 : Int32), (1 : Int32)), σ)) (fun o15 s16 => some (o15.1, s16)))
set_option maxHeartbeats 4000000 in
set_option maxRecDepth 100000 in
theorem kX1_mostPlaces {l : Launch} {G : Gl} {E : En} {a0 : Nat} {σ σ' : Sg} {r : Int32} : fX1_mostPlaces E a0 σ = some (r, σ') → CT l yX1_mostPlaces cX1_mostPlaces 3 (some .int) ({ frames := 0, cells := 0, slots := 0, locals := 0 } : Room) [.ref (G.1 + a0)] G E σ (some (.int r)) σ' := by
  intro h
  refine CT_of (lv0 := [(0, .ref (G.1 + a0))]) (by decide) (Nat.le_of_ble_eq_true rfl) rfl (fun κ hl hR hr C => ?_)
  have C : Cx κ G cX1_mostPlaces RX1 3 := C
  revert h
  unfold fX1_mostPlaces
  refine R_tk (fun ha0 => ?_)
  refine R_iconst C (0) dX1_mostPlaces_0 (by decide) ?_
  refine R_istore_n (lv2 := [(1, .int (0 : Int32)), (0, .ref (G.1 + a0))]) C dX1_mostPlaces_1 rfl (by decide) rfl ?_
  refine R_iconst C (1) dX1_mostPlaces_2 (by decide) ?_
  refine R_istore_n (lv2 := [(2, .int (1 : Int32)), (1, .int (0 : Int32)), (0, .ref (G.1 + a0))]) C dX1_mostPlaces_3 rfl (by decide) rfl ?_
  refine R_loc (lv2 := [(0, .ref (G.1 + a0)), (1, .int (0 : Int32)), (2, .int (1 : Int32))]) [2, 1, 0] rfl ?_
  refine R_loop (fun (a : (Int32 × Int32) × Sg) => V κ G (QQ κ G E (some (.int r)) σ') E a.2 (false, 0, 0) 4 [(0, .ref (G.1 + a0)), (1, .int a.1.1), (2, .int a.1.2)] []) (fun (o : (Int32 × Int32)) (s : Sg) => V κ G (QQ κ G E (some (.int r)) σ') E s (false, 0, 0) 43 [(1, .int o.1)] []) (((0 : Int32), (1 : Int32)), σ) (fun o15 s16 => ?_) (fun rec I7 a b5 s6 K4 => ?_)
  · refine R_iload_n C 0 rfl dX1_mostPlaces_43 ?_
    exact R_iret C hr dX1_mostPlaces_44
  · obtain ⟨⟨v1, v2⟩, s3⟩ := a
    show bX1_mostPlaces_4 E a0 (fun u0 u1 t => rec ((u0, u1), t)) v1 v2 s3 = some (b5, s6) → V κ G (QQ κ G E (some (.int r)) σ') E s3 (false, 0, 0) 4 [(0, .ref (G.1 + a0)), (1, .int v1), (2, .int v2)] []
    unfold bX1_mostPlaces_4
    refine R_iload_n C 2 rfl dX1_mostPlaces_4 ?_
    refine R_aload_n C 0 rfl dX1_mostPlaces_5 ?_
    refine R_geti C fl1_58 rfl ha0 dX1_mostPlaces_6 ?_
    refine R_iconst C (1) dX1_mostPlaces_9 (by decide) ?_
    refine R_isub C dX1_mostPlaces_10 ?_
    refine B_icmp_ge C dX1_mostPlaces_11 ?_ ?_
    · refine R_loc (lv2 := [(1, .int v1)]) [1] rfl ?_
      exact R_end (fun (o : (Int32 × Int32)) (s : Sg) => V κ G (QQ κ G E (some (.int r)) σ') E s (false, 0, 0) 43 [(1, .int o.1)] []) K4
    · refine R_aload_n C 0 rfl dX1_mostPlaces_14 ?_
      refine R_dr (fun x8 rx8 cx8 => ?_)
      refine R_getr C fl1_35 rfl ha0 rx8 dX1_mostPlaces_15 ?_
      refine R_dr (fun x9 rx9 cx9 => ?_)
      refine R_getr C fl1_127 rfl cx8 rx9 dX1_mostPlaces_18 ?_
      refine R_iload_n C 2 rfl dX1_mostPlaces_21 ?_
      refine R_ck (fun h10 => ?_)
      refine R_iald C cx9 h10 dX1_mostPlaces_22 ?_
      refine R_aload_n C 0 rfl dX1_mostPlaces_23 ?_
      refine R_getr C fl1_35 rfl ha0 rx8 dX1_mostPlaces_24 ?_
      refine R_getr C fl1_127 rfl cx8 rx9 dX1_mostPlaces_27 ?_
      refine R_iload_n C 1 rfl dX1_mostPlaces_30 ?_
      refine R_ck (fun h11 => ?_)
      refine R_iald C cx9 h11 dX1_mostPlaces_31 ?_
      refine R_bdK (fun (w : Int32) (s : Sg) => V κ G (QQ κ G E (some (.int r)) σ') E s (false, 0, 0) 37 [(0, .ref (G.1 + a0)), (2, .int v2), (1, .int w)] []) (fun w12 s13 => ?_) (fun w12 s13 Kw12 => ?_)
      · refine S_iinc (fun v14 => [(2, .int v14), (0, .ref (G.1 + a0)), (1, .int w12)]) 1 C dX1_mostPlaces_37 rfl (by decide) (by decide) (fun _ => rfl) (fun v14 => ?_)
        refine R_goto C dX1_mostPlaces_40 ?_
        refine R_loc (lv2 := [(0, .ref (G.1 + a0)), (1, .int w12), (2, .int v14)]) [1, 2, 0] rfl ?_
        exact I7 ((w12, v14), s13) b5 s6 K4
      · refine B_icmp_le C dX1_mostPlaces_32 ?_ ?_
        · refine R_loc (lv2 := [(0, .ref (G.1 + a0)), (2, .int v2), (1, .int v1)]) [0, 2, 1] rfl ?_
          exact R_end (fun (w : Int32) (s : Sg) => V κ G (QQ κ G E (some (.int r)) σ') E s (false, 0, 0) 37 [(0, .ref (G.1 + a0)), (2, .int v2), (1, .int w)] []) Kw12
        · refine R_iload_n C 2 rfl dX1_mostPlaces_35 ?_
          refine R_istore_n (lv2 := [(1, .int v2), (0, .ref (G.1 + a0)), (2, .int v2)]) C dX1_mostPlaces_36 rfl (by decide) rfl ?_
          refine R_loc (lv2 := [(0, .ref (G.1 + a0)), (2, .int v2), (1, .int v2)]) [1, 2, 0] rfl ?_
          exact R_end (fun (w : Int32) (s : Sg) => V κ G (QQ κ G E (some (.int r)) σ') E s (false, 0, 0) 37 [(0, .ref (G.1 + a0)), (2, .int v2), (1, .int w)] []) Kw12
theorem dX1_dealByNumbers_0 : dk cX1_dealByNumbers 0 1 (.aload_n 0) 1 := by unfold dk; decide +kernel
theorem dX1_dealByNumbers_1 : dk cX1_dealByNumbers 1 2 (.aload_n 0) 1 := by unfold dk; decide +kernel
theorem dX1_dealByNumbers_2 : dk cX1_dealByNumbers 2 5 (.getfield 35) 3 := by unfold dk; decide +kernel
theorem dX1_dealByNumbers_5 : dk cX1_dealByNumbers 5 8 (.invokevirtual 114) 3 := by unfold dk; decide +kernel
theorem dX1_dealByNumbers_8 : dk cX1_dealByNumbers 8 11 (.putfield 71) 3 := by unfold dk; decide +kernel
theorem dX1_dealByNumbers_11 : dk cX1_dealByNumbers 11 12 (.aload_n 0) 1 := by unfold dk; decide +kernel
theorem dX1_dealByNumbers_12 : dk cX1_dealByNumbers 12 15 (.getfield 25) 3 := by unfold dk; decide +kernel
theorem dX1_dealByNumbers_15 : dk cX1_dealByNumbers 15 16 (.iconst 5) 1 := by unfold dk; decide +kernel
theorem dX1_dealByNumbers_16 : dk cX1_dealByNumbers 16 17 (.aload_n 0) 1 := by unfold dk; decide +kernel
theorem dX1_dealByNumbers_17 : dk cX1_dealByNumbers 17 20 (.getfield 35) 3 := by unfold dk; decide +kernel
theorem dX1_dealByNumbers_20 : dk cX1_dealByNumbers 20 23 (.getfield 118) 3 := by unfold dk; decide +kernel
theorem dX1_dealByNumbers_23 : dk cX1_dealByNumbers 23 24 (.iastore) 1 := by unfold dk; decide +kernel
theorem dX1_dealByNumbers_24 : dk cX1_dealByNumbers 24 25 (.aload_n 0) 1 := by unfold dk; decide +kernel
theorem dX1_dealByNumbers_25 : dk cX1_dealByNumbers 25 28 (.getfield 25) 3 := by unfold dk; decide +kernel
theorem dX1_dealByNumbers_28 : dk cX1_dealByNumbers 28 29 (.iconst 4) 1 := by unfold dk; decide +kernel
theorem dX1_dealByNumbers_29 : dk cX1_dealByNumbers 29 30 (.aload_n 0) 1 := by unfold dk; decide +kernel
theorem dX1_dealByNumbers_30 : dk cX1_dealByNumbers 30 33 (.getfield 71) 3 := by unfold dk; decide +kernel
theorem dX1_dealByNumbers_33 : dk cX1_dealByNumbers 33 34 (.aload_n 0) 1 := by unfold dk; decide +kernel
theorem dX1_dealByNumbers_34 : dk cX1_dealByNumbers 34 37 (.getfield 65) 3 := by unfold dk; decide +kernel
theorem dX1_dealByNumbers_37 : dk cX1_dealByNumbers 37 38 (.isub) 1 := by unfold dk; decide +kernel
theorem dX1_dealByNumbers_38 : dk cX1_dealByNumbers 38 39 (.iastore) 1 := by unfold dk; decide +kernel
theorem dX1_dealByNumbers_39 : dk cX1_dealByNumbers 39 40 (.iconst 0) 1 := by unfold dk; decide +kernel
theorem dX1_dealByNumbers_40 : dk cX1_dealByNumbers 40 41 (.istore_n 2) 1 := by unfold dk; decide +kernel
theorem dX1_dealByNumbers_41 : dk cX1_dealByNumbers 41 42 (.iload_n 2) 1 := by unfold dk; decide +kernel
theorem dX1_dealByNumbers_42 : dk cX1_dealByNumbers 42 43 (.aload_n 0) 1 := by unfold dk; decide +kernel
theorem dX1_dealByNumbers_43 : dk cX1_dealByNumbers 43 46 (.getfield 25) 3 := by unfold dk; decide +kernel
theorem dX1_dealByNumbers_46 : dk cX1_dealByNumbers 46 47 (.iconst 4) 1 := by unfold dk; decide +kernel
theorem dX1_dealByNumbers_47 : dk cX1_dealByNumbers 47 48 (.iaload) 1 := by unfold dk; decide +kernel
theorem dX1_dealByNumbers_51 : dk cX1_dealByNumbers 51 52 (.iload_n 1) 1 := by unfold dk; decide +kernel
theorem dX1_dealByNumbers_52 : bk cX1_dealByNumbers 52 55 62 (.ifCond .eq 10) (10) := by unfold bk; decide +kernel
theorem dX1_dealByNumbers_62 : dk cX1_dealByNumbers 62 63 (.aload_n 0) 1 := by unfold dk; decide +kernel
theorem dX1_dealByNumbers_63 : dk cX1_dealByNumbers 63 66 (.invokevirtual 124) 3 := by unfold dk; decide +kernel
theorem dX1_dealByNumbers_55 : dk cX1_dealByNumbers 55 56 (.aload_n 0) 1 := by unfold dk; decide +kernel
theorem dX1_dealByNumbers_56 : dk cX1_dealByNumbers 56 59 (.invokevirtual 121) 3 := by unfold dk; decide +kernel
theorem dX1_dealByNumbers_59 : bk cX1_dealByNumbers 59 62 66 (.goto 7) (7) := by unfold bk; decide +kernel
theorem dX1_dealByNumbers_66 : dk cX1_dealByNumbers 66 67 (.istore_n 3) 1 := by unfold dk; decide +kernel
theorem dX1_dealByNumbers_67 : dk cX1_dealByNumbers 67 68 (.aload_n 0) 1 := by unfold dk; decide +kernel
theorem dX1_dealByNumbers_68 : dk cX1_dealByNumbers 68 71 (.getfield 39) 3 := by unfold dk; decide +kernel
theorem dX1_dealByNumbers_71 : dk cX1_dealByNumbers 71 72 (.iload_n 3) 1 := by unfold dk; decide +kernel
theorem dX1_dealByNumbers_72 : dk cX1_dealByNumbers 72 73 (.dup2) 1 := by unfold dk; decide +kernel
theorem dX1_dealByNumbers_73 : dk cX1_dealByNumbers 73 74 (.iaload) 1 := by unfold dk; decide +kernel
theorem dX1_dealByNumbers_74 : dk cX1_dealByNumbers 74 75 (.iconst 1) 1 := by unfold dk; decide +kernel
theorem dX1_dealByNumbers_75 : dk cX1_dealByNumbers 75 76 (.iadd) 1 := by unfold dk; decide +kernel
theorem dX1_dealByNumbers_76 : dk cX1_dealByNumbers 76 77 (.iastore) 1 := by unfold dk; decide +kernel
theorem dX1_dealByNumbers_77 : dk cX1_dealByNumbers 77 78 (.aload_n 0) 1 := by unfold dk; decide +kernel
theorem dX1_dealByNumbers_78 : dk cX1_dealByNumbers 78 81 (.getfield 35) 3 := by unfold dk; decide +kernel
theorem dX1_dealByNumbers_81 : dk cX1_dealByNumbers 81 84 (.getfield 127) 3 := by unfold dk; decide +kernel
theorem dX1_dealByNumbers_84 : dk cX1_dealByNumbers 84 85 (.iload_n 3) 1 := by unfold dk; decide +kernel
theorem dX1_dealByNumbers_85 : dk cX1_dealByNumbers 85 86 (.dup2) 1 := by unfold dk; decide +kernel
theorem dX1_dealByNumbers_86 : dk cX1_dealByNumbers 86 87 (.iaload) 1 := by unfold dk; decide +kernel
theorem dX1_dealByNumbers_87 : dk cX1_dealByNumbers 87 88 (.iconst 1) 1 := by unfold dk; decide +kernel
theorem dX1_dealByNumbers_88 : dk cX1_dealByNumbers 88 89 (.isub) 1 := by unfold dk; decide +kernel
theorem dX1_dealByNumbers_89 : dk cX1_dealByNumbers 89 90 (.iastore) 1 := by unfold dk; decide +kernel
theorem dX1_dealByNumbers_90 : dk cX1_dealByNumbers 90 93 (.iinc 2 1) 3 := by unfold dk; decide +kernel
theorem dX1_dealByNumbers_93 : bk cX1_dealByNumbers 93 96 41 (.goto (-52)) (-52) := by unfold bk; decide +kernel
theorem dX1_dealByNumbers_48 : bk cX1_dealByNumbers 48 51 96 (.if_icmp .ge 48) (48) := by unfold bk; decide +kernel
theorem dX1_dealByNumbers_96 : dk cX1_dealByNumbers 96 97 (.aload_n 0) 1 := by unfold dk; decide +kernel
theorem dX1_dealByNumbers_97 : dk cX1_dealByNumbers 97 100 (.getfield 61) 3 := by unfold dk; decide +kernel
theorem dX1_dealByNumbers_100 : bk cX1_dealByNumbers 100 103 107 (.ifCond .ne 7) (7) := by unfold bk; decide +kernel
theorem dX1_dealByNumbers_103 : dk cX1_dealByNumbers 103 104 (.aload_n 0) 1 := by unfold dk; decide +kernel
theorem dX1_dealByNumbers_104 : dk cX1_dealByNumbers 104 107 (.invokevirtual 130) 3 := by unfold dk; decide +kernel
theorem dX1_dealByNumbers_107 : dk cX1_dealByNumbers 107 108 (.iconst 0) 1 := by unfold dk; decide +kernel
theorem dX1_dealByNumbers_108 : dk cX1_dealByNumbers 108 109 (.istore_n 2) 1 := by unfold dk; decide +kernel
theorem dX1_dealByNumbers_109 : dk cX1_dealByNumbers 109 110 (.iload_n 2) 1 := by unfold dk; decide +kernel
theorem dX1_dealByNumbers_110 : dk cX1_dealByNumbers 110 111 (.aload_n 0) 1 := by unfold dk; decide +kernel
theorem dX1_dealByNumbers_111 : dk cX1_dealByNumbers 111 114 (.getfield 65) 3 := by unfold dk; decide +kernel
theorem dX1_dealByNumbers_117 : dk cX1_dealByNumbers 117 118 (.aload_n 0) 1 := by unfold dk; decide +kernel
theorem dX1_dealByNumbers_118 : dk cX1_dealByNumbers 118 121 (.invokevirtual 133) 3 := by unfold dk; decide +kernel
theorem dX1_dealByNumbers_121 : dk cX1_dealByNumbers 121 122 (.istore_n 3) 1 := by unfold dk; decide +kernel
theorem dX1_dealByNumbers_122 : dk cX1_dealByNumbers 122 123 (.aload_n 0) 1 := by unfold dk; decide +kernel
theorem dX1_dealByNumbers_123 : dk cX1_dealByNumbers 123 126 (.getfield 17) 3 := by unfold dk; decide +kernel
theorem dX1_dealByNumbers_126 : dk cX1_dealByNumbers 126 127 (.iload_n 3) 1 := by unfold dk; decide +kernel
theorem dX1_dealByNumbers_127 : dk cX1_dealByNumbers 127 128 (.aaload) 1 := by unfold dk; decide +kernel
theorem dX1_dealByNumbers_128 : dk cX1_dealByNumbers 128 129 (.iload_n 2) 1 := by unfold dk; decide +kernel
theorem dX1_dealByNumbers_129 : dk cX1_dealByNumbers 129 132 (.invokevirtual 110) 3 := by unfold dk; decide +kernel
theorem dX1_dealByNumbers_132 : dk cX1_dealByNumbers 132 133 (.aload_n 0) 1 := by unfold dk; decide +kernel
theorem dX1_dealByNumbers_133 : dk cX1_dealByNumbers 133 136 (.getfield 35) 3 := by unfold dk; decide +kernel
theorem dX1_dealByNumbers_136 : dk cX1_dealByNumbers 136 139 (.getfield 127) 3 := by unfold dk; decide +kernel
theorem dX1_dealByNumbers_139 : dk cX1_dealByNumbers 139 140 (.iload_n 3) 1 := by unfold dk; decide +kernel
theorem dX1_dealByNumbers_140 : dk cX1_dealByNumbers 140 141 (.dup2) 1 := by unfold dk; decide +kernel
theorem dX1_dealByNumbers_141 : dk cX1_dealByNumbers 141 142 (.iaload) 1 := by unfold dk; decide +kernel
theorem dX1_dealByNumbers_142 : dk cX1_dealByNumbers 142 143 (.iconst 1) 1 := by unfold dk; decide +kernel
theorem dX1_dealByNumbers_143 : dk cX1_dealByNumbers 143 144 (.isub) 1 := by unfold dk; decide +kernel
theorem dX1_dealByNumbers_144 : dk cX1_dealByNumbers 144 145 (.iastore) 1 := by unfold dk; decide +kernel
theorem dX1_dealByNumbers_145 : dk cX1_dealByNumbers 145 148 (.iinc 2 1) 3 := by unfold dk; decide +kernel
theorem dX1_dealByNumbers_148 : bk cX1_dealByNumbers 148 151 109 (.goto (-39)) (-39) := by unfold bk; decide +kernel
theorem dX1_dealByNumbers_114 : bk cX1_dealByNumbers 114 117 151 (.if_icmp .ge 37) (37) := by unfold bk; decide +kernel
theorem dX1_dealByNumbers_151 : dk cX1_dealByNumbers 151 152 (.aload_n 0) 1 := by unfold dk; decide +kernel
theorem dX1_dealByNumbers_152 : dk cX1_dealByNumbers 152 155 (.getfield 61) 3 := by unfold dk; decide +kernel
theorem dX1_dealByNumbers_155 : bk cX1_dealByNumbers 155 158 162 (.ifCond .eq 7) (7) := by unfold bk; decide +kernel
theorem dX1_dealByNumbers_158 : dk cX1_dealByNumbers 158 159 (.aload_n 0) 1 := by unfold dk; decide +kernel
theorem dX1_dealByNumbers_159 : dk cX1_dealByNumbers 159 162 (.invokevirtual 130) 3 := by unfold dk; decide +kernel
theorem dX1_dealByNumbers_162 : dk cX1_dealByNumbers 162 163 (.aload_n 0) 1 := by unfold dk; decide +kernel
theorem dX1_dealByNumbers_163 : dk cX1_dealByNumbers 163 164 (.aload_n 0) 1 := by unfold dk; decide +kernel
theorem dX1_dealByNumbers_164 : dk cX1_dealByNumbers 164 167 (.getfield 58) 3 := by unfold dk; decide +kernel
theorem dX1_dealByNumbers_167 : dk cX1_dealByNumbers 167 168 (.iconst 1) 1 := by unfold dk; decide +kernel
theorem dX1_dealByNumbers_168 : dk cX1_dealByNumbers 168 169 (.isub) 1 := by unfold dk; decide +kernel
theorem dX1_dealByNumbers_169 : dk cX1_dealByNumbers 169 172 (.putfield 74) 3 := by unfold dk; decide +kernel
theorem dX1_dealByNumbers_172 : dk cX1_dealByNumbers 172 173 (.return_) 1 := by unfold dk; decide +kernel
def bX1_dealByNumbers_41 (E : En) (x6 : Nat) (a1 : Int32) (a0 : Nat) (x1 : Nat) (rec : Int32 → Sg → Option ((Int32) × Sg)) (v11 : Int32) (s12 : Sg) : Option ((Int32) × Sg) := ck (4 : Int32) (ln E x6) (if (gi s12 x6 (4 : Int32).toNatClampNeg) ≤ v11 then (some (v11, s12)) else (bd (if a1 = 0 then (bd (fX1_fewestBlanks E a0 s12) (fun r22 s20 => some (r22, s20))) else (bd (fX1_firstPlace E a0 s12) (fun r25 s23 => some (r25, s23)))) (fun w18 s19 => dr (rf E a0 18) E 100 (fun x26 => ck w18 (ln E x26) (ck w18 (ln E x26) (ss (si s19 x26 w18.toNatClampNeg ((gi s19 x26 w18.toNatClampNeg) + (1 : Int32))) (fun s29 => dr (rf E x1 0) E 100 (fun x30 => ck w18 (ln E x30) (ck w18 (ln E x30) (ss (si s29 x30 w18.toNatClampNeg ((gi s29 x30 w18.toNatClampNeg) - (1 : Int32))) (fun s33 => lt (v11 + (1 : Int32)) (fun v34 => rec v34 s33))))))))))))
def bX1_dealByNumbers_109 (E : En) (a0 : Nat) (x1 : Nat) (rec : Int32 → Sg → Option ((Int32) × Sg)) (v41 : Int32) (s42 : Sg) : Option ((Int32) × Sg) := if (gi s42 a0 7) ≤ v41 then (some (v41, s42)) else (bd (fX1_mostPlaces E a0 s42) (fun r49 s47 => dr (rf E a0 4) E 104 (fun x50 => ck r49 (ln E x50) (dr (rf E x50 r49.toNatClampNeg) E 5 (fun x52 => bv (fX5_write E x52 v41 s47) (fun s53 => dr (rf E x1 0) E 100 (fun x55 => ck r49 (ln E x55) (ck r49 (ln E x55) (ss (si s53 x55 r49.toNatClampNeg ((gi s53 x55 r49.toNatClampNeg) - (1 : Int32))) (fun s58 => lt (v41 + (1 : Int32)) (fun v59 => rec v59 s58)))))))))))
def fX1_dealByNumbers (E : En) (a0 : Nat) (a1 : Int32) (σ : Sg) : Option (Sg) := tk (cd E a0) 1 (dr (rf E a0 17) E 2 (fun x1 => bd (fX2_together E x1 σ) (fun r4 s2 => ss (si s2 a0 8 r4) (fun s5 => dr (rf E a0 12) E 100 (fun x6 => ck (5 : Int32) (ln E x6) (ss (si s5 x6 (5 : Int32).toNatClampNeg (gi s5 x1 2)) (fun s8 => ck (4 : Int32) (ln E x6) (ss (si s8 x6 (4 : Int32).toNatClampNeg ((gi s8 a0 8) - (gi s8 a0 7))) (fun s10 => bd (fx (fun rec a => bX1_dealByNumbers_41 E x6 a1 a0 x1 (fun u0 t => rec (u0, t)) a.1 a.2) FU ((0 : Int32), s10)) (fun o35 s36 => bd (if ¬ (gi s36 a0 3) = 0 then (some ((), s36)) else (bv (fX1_writeBlanks E a0 s36) (fun s39 => some ((), s39)))) (fun w37 s38 => bd (fx (fun rec a => bX1_dealByNumbers_109 E a0 x1 (fun u0 t => rec (u0, t)) a.1 a.2) FU ((0 : Int32), s38)) (fun o60 s61 => bd (if (gi s61 a0 3) = 0 then (some ((), s61)) else (bv (fX1_writeBlanks E a0 s61) (fun s64 => some ((), s64)))) (fun w62 s63 => ss (si s63 a0 9 ((gi s63 a0 1) - (1 : Int32))) (fun s66 => some s66))))))))))))))
set_option maxHeartbeats 4000000 in
set_option maxRecDepth 100000 in
theorem kX1_dealByNumbers {l : Launch} {G : Gl} {E : En} {a0 : Nat} {a1 : Int32} {σ σ' : Sg} : fX1_dealByNumbers E a0 a1 σ = some σ' → CT l yX1_dealByNumbers cX1_dealByNumbers 4 none ({ frames := 2, cells := 0, slots := 0, locals := 43 } : Room) [.ref (G.1 + a0), .int a1] G E σ none σ' := by
  intro h
  refine CT_of (lv0 := [(0, .ref (G.1 + a0)), (1, .int a1)]) (by decide) (Nat.le_of_ble_eq_true rfl) rfl (fun κ hl hR hr C => ?_)
  have C : Cx κ G cX1_dealByNumbers RX1 4 := C
  revert h
  unfold fX1_dealByNumbers
  refine R_tk (fun ha0 => ?_)
  refine R_aload_n C 0 rfl dX1_dealByNumbers_0 ?_
  refine R_aload_n C 0 rfl dX1_dealByNumbers_1 ?_
  refine R_dr (fun x1 rx1 cx1 => ?_)
  refine R_getr C fl1_35 rfl ha0 rx1 dX1_dealByNumbers_2 ?_
  refine R_bd (fun r4 s2 q3 => ?_)
  refine R_callVi [] [.ref (G.1 + a0)] C ml1_114 (kX2_together q3) (by rw [hR]; exact ⟨rfl, rfl, Nat.le_of_ble_eq_true rfl, Nat.le_of_ble_eq_true rfl, Nat.zero_le _, Nat.zero_le _⟩) cx1 rfl rfl (Nat.le_of_ble_eq_true rfl) dX1_dealByNumbers_5 ?_
  refine S_puti C fl1_71 rfl ha0 rfl rfl dX1_dealByNumbers_8 (fun s5 => ?_)
  refine R_aload_n C 0 rfl dX1_dealByNumbers_11 ?_
  refine R_dr (fun x6 rx6 cx6 => ?_)
  refine R_getr C fl1_25 rfl ha0 rx6 dX1_dealByNumbers_12 ?_
  refine R_iconst C (5) dX1_dealByNumbers_15 (by decide) ?_
  refine R_aload_n C 0 rfl dX1_dealByNumbers_16 ?_
  refine R_getr C fl1_35 rfl ha0 rx1 dX1_dealByNumbers_17 ?_
  refine R_geti C fl1_118 rfl cx1 dX1_dealByNumbers_20 ?_
  refine R_ck (fun h7 => ?_)
  refine S_iast C cx6 h7 dX1_dealByNumbers_23 (fun s8 => ?_)
  refine R_aload_n C 0 rfl dX1_dealByNumbers_24 ?_
  refine R_getr C fl1_25 rfl ha0 rx6 dX1_dealByNumbers_25 ?_
  refine R_iconst C (4) dX1_dealByNumbers_28 (by decide) ?_
  refine R_aload_n C 0 rfl dX1_dealByNumbers_29 ?_
  refine R_geti C fl1_71 rfl ha0 dX1_dealByNumbers_30 ?_
  refine R_aload_n C 0 rfl dX1_dealByNumbers_33 ?_
  refine R_geti C fl1_65 rfl ha0 dX1_dealByNumbers_34 ?_
  refine R_isub C dX1_dealByNumbers_37 ?_
  refine R_ck (fun h9 => ?_)
  refine S_iast C cx6 h9 dX1_dealByNumbers_38 (fun s10 => ?_)
  refine R_iconst C (0) dX1_dealByNumbers_39 (by decide) ?_
  refine R_istore_n (lv2 := [(2, .int (0 : Int32)), (0, .ref (G.1 + a0)), (1, .int a1)]) C dX1_dealByNumbers_40 rfl (by decide) rfl ?_
  refine R_loc (lv2 := [(0, .ref (G.1 + a0)), (1, .int a1), (2, .int (0 : Int32))]) [1, 2, 0] rfl ?_
  refine R_loop (fun (a : (Int32) × Sg) => V κ G (QQ κ G E none σ') E a.2 (false, 0, 0) 41 [(0, .ref (G.1 + a0)), (1, .int a1), (2, .int a.1)] []) (fun (o : (Int32)) (s : Sg) => V κ G (QQ κ G E none σ') E s (false, 0, 0) 96 [(0, .ref (G.1 + a0))] []) ((0 : Int32), s10) (fun o35 s36 => ?_) (fun rec I16 a b14 s15 K13 => ?_)
  · refine R_aload_n C 0 rfl dX1_dealByNumbers_96 ?_
    refine R_geti C fl1_61 rfl ha0 dX1_dealByNumbers_97 ?_
    refine R_bdK (fun (w : Unit) (s : Sg) => V κ G (QQ κ G E none σ') E s (false, 0, 0) 107 [(0, .ref (G.1 + a0))] []) (fun w37 s38 => ?_) (fun w37 s38 Kw37 => ?_)
    · refine R_iconst C (0) dX1_dealByNumbers_107 (by decide) ?_
      refine R_istore_n (lv2 := [(2, .int (0 : Int32)), (0, .ref (G.1 + a0))]) C dX1_dealByNumbers_108 rfl (by decide) rfl ?_
      refine R_loc (lv2 := [(0, .ref (G.1 + a0)), (2, .int (0 : Int32))]) [1, 0] rfl ?_
      refine R_loop (fun (a : (Int32) × Sg) => V κ G (QQ κ G E none σ') E a.2 (false, 0, 0) 109 [(0, .ref (G.1 + a0)), (2, .int a.1)] []) (fun (o : (Int32)) (s : Sg) => V κ G (QQ κ G E none σ') E s (false, 0, 0) 151 [(0, .ref (G.1 + a0))] []) ((0 : Int32), s38) (fun o60 s61 => ?_) (fun rec I46 a b44 s45 K43 => ?_)
      · refine R_aload_n C 0 rfl dX1_dealByNumbers_151 ?_
        refine R_geti C fl1_61 rfl ha0 dX1_dealByNumbers_152 ?_
        refine R_bdK (fun (w : Unit) (s : Sg) => V κ G (QQ κ G E none σ') E s (false, 0, 0) 162 [(0, .ref (G.1 + a0))] []) (fun w62 s63 => ?_) (fun w62 s63 Kw62 => ?_)
        · refine R_aload_n C 0 rfl dX1_dealByNumbers_162 ?_
          refine R_aload_n C 0 rfl dX1_dealByNumbers_163 ?_
          refine R_geti C fl1_58 rfl ha0 dX1_dealByNumbers_164 ?_
          refine R_iconst C (1) dX1_dealByNumbers_167 (by decide) ?_
          refine R_isub C dX1_dealByNumbers_168 ?_
          refine S_puti C fl1_74 rfl ha0 rfl rfl dX1_dealByNumbers_169 (fun s66 => ?_)
          exact R_vret C hr dX1_dealByNumbers_172
        · refine B_if_eq C dX1_dealByNumbers_155 ?_ ?_
          · exact R_end (fun (w : Unit) (s : Sg) => V κ G (QQ κ G E none σ') E s (false, 0, 0) 162 [(0, .ref (G.1 + a0))] []) Kw62
          · refine R_aload_n C 0 rfl dX1_dealByNumbers_158 ?_
            refine R_bv (fun s64 q65 => ?_)
            refine R_callVv [] [] C ml1_130 (kX1_writeBlanks q65) (by rw [hR]; exact ⟨rfl, rfl, Nat.le_of_ble_eq_true rfl, Nat.le_of_ble_eq_true rfl, Nat.zero_le _, Nat.zero_le _⟩) ha0 rfl rfl (Nat.le_of_ble_eq_true rfl) dX1_dealByNumbers_159 ?_
            exact R_end (fun (w : Unit) (s : Sg) => V κ G (QQ κ G E none σ') E s (false, 0, 0) 162 [(0, .ref (G.1 + a0))] []) Kw62
      · obtain ⟨v41, s42⟩ := a
        show bX1_dealByNumbers_109 E a0 x1 (fun u0 t => rec (u0, t)) v41 s42 = some (b44, s45) → V κ G (QQ κ G E none σ') E s42 (false, 0, 0) 109 [(0, .ref (G.1 + a0)), (2, .int v41)] []
        unfold bX1_dealByNumbers_109
        refine R_iload_n C 1 rfl dX1_dealByNumbers_109 ?_
        refine R_aload_n C 0 rfl dX1_dealByNumbers_110 ?_
        refine R_geti C fl1_65 rfl ha0 dX1_dealByNumbers_111 ?_
        refine B_icmp_ge C dX1_dealByNumbers_114 ?_ ?_
        · refine R_loc (lv2 := [(0, .ref (G.1 + a0))]) [0] rfl ?_
          exact R_end (fun (o : (Int32)) (s : Sg) => V κ G (QQ κ G E none σ') E s (false, 0, 0) 151 [(0, .ref (G.1 + a0))] []) K43
        · refine R_aload_n C 0 rfl dX1_dealByNumbers_117 ?_
          refine R_bd (fun r49 s47 q48 => ?_)
          refine R_callVi [] [] C ml1_133 (kX1_mostPlaces q48) (by rw [hR]; exact ⟨rfl, rfl, Nat.le_of_ble_eq_true rfl, Nat.le_of_ble_eq_true rfl, Nat.zero_le _, Nat.zero_le _⟩) ha0 rfl rfl (Nat.le_of_ble_eq_true rfl) dX1_dealByNumbers_118 ?_
          refine R_istore_n (lv2 := [(3, .int r49), (0, .ref (G.1 + a0)), (2, .int v41)]) C dX1_dealByNumbers_121 rfl (by decide) rfl ?_
          refine R_aload_n C 1 rfl dX1_dealByNumbers_122 ?_
          refine R_dr (fun x50 rx50 cx50 => ?_)
          refine R_getr C fl1_17 rfl ha0 rx50 dX1_dealByNumbers_123 ?_
          refine R_iload_n C 0 rfl dX1_dealByNumbers_126 ?_
          refine R_ck (fun h51 => ?_)
          refine R_dr (fun x52 rx52 cx52 => ?_)
          refine R_aald4 C cx50 h51 rx52 dX1_dealByNumbers_127 ?_
          refine R_iload_n C 2 rfl dX1_dealByNumbers_128 ?_
          refine R_bv (fun s53 q54 => ?_)
          refine R_callVv [.int v41] [] C ml1_110 (kX5_write q54) (by rw [hR]; exact ⟨rfl, rfl, Nat.le_of_ble_eq_true rfl, Nat.le_of_ble_eq_true rfl, Nat.zero_le _, Nat.zero_le _⟩) cx52 rfl rfl (Nat.le_of_ble_eq_true rfl) dX1_dealByNumbers_129 ?_
          refine R_aload_n C 1 rfl dX1_dealByNumbers_132 ?_
          refine R_getr C fl1_35 rfl ha0 rx1 dX1_dealByNumbers_133 ?_
          refine R_dr (fun x55 rx55 cx55 => ?_)
          refine R_getr C fl1_127 rfl cx1 rx55 dX1_dealByNumbers_136 ?_
          refine R_iload_n C 0 rfl dX1_dealByNumbers_139 ?_
          refine R_dup2 C dX1_dealByNumbers_140 rfl rfl ?_
          refine R_ck (fun h56 => ?_)
          refine R_iald C cx55 h56 dX1_dealByNumbers_141 ?_
          refine R_iconst C (1) dX1_dealByNumbers_142 (by decide) ?_
          refine R_isub C dX1_dealByNumbers_143 ?_
          refine R_ck (fun h57 => ?_)
          refine S_iast C cx55 h57 dX1_dealByNumbers_144 (fun s58 => ?_)
          refine S_iinc (fun v59 => [(2, .int v59), (3, .int r49), (0, .ref (G.1 + a0))]) 2 C dX1_dealByNumbers_145 rfl (by decide) (by decide) (fun _ => rfl) (fun v59 => ?_)
          refine R_goto C dX1_dealByNumbers_148 ?_
          refine R_loc (lv2 := [(0, .ref (G.1 + a0)), (2, .int v59)]) [2, 0] rfl ?_
          exact I46 (v59, s58) b44 s45 K43
    · refine B_if_ne C dX1_dealByNumbers_100 ?_ ?_
      · exact R_end (fun (w : Unit) (s : Sg) => V κ G (QQ κ G E none σ') E s (false, 0, 0) 107 [(0, .ref (G.1 + a0))] []) Kw37
      · refine R_aload_n C 0 rfl dX1_dealByNumbers_103 ?_
        refine R_bv (fun s39 q40 => ?_)
        refine R_callVv [] [] C ml1_130 (kX1_writeBlanks q40) (by rw [hR]; exact ⟨rfl, rfl, Nat.le_of_ble_eq_true rfl, Nat.le_of_ble_eq_true rfl, Nat.zero_le _, Nat.zero_le _⟩) ha0 rfl rfl (Nat.le_of_ble_eq_true rfl) dX1_dealByNumbers_104 ?_
        exact R_end (fun (w : Unit) (s : Sg) => V κ G (QQ κ G E none σ') E s (false, 0, 0) 107 [(0, .ref (G.1 + a0))] []) Kw37
  · obtain ⟨v11, s12⟩ := a
    show bX1_dealByNumbers_41 E x6 a1 a0 x1 (fun u0 t => rec (u0, t)) v11 s12 = some (b14, s15) → V κ G (QQ κ G E none σ') E s12 (false, 0, 0) 41 [(0, .ref (G.1 + a0)), (1, .int a1), (2, .int v11)] []
    unfold bX1_dealByNumbers_41
    refine R_iload_n C 2 rfl dX1_dealByNumbers_41 ?_
    refine R_aload_n C 0 rfl dX1_dealByNumbers_42 ?_
    refine R_getr C fl1_25 rfl ha0 rx6 dX1_dealByNumbers_43 ?_
    refine R_iconst C (4) dX1_dealByNumbers_46 (by decide) ?_
    refine R_ck (fun h17 => ?_)
    refine R_iald C cx6 h17 dX1_dealByNumbers_47 ?_
    refine B_icmp_ge C dX1_dealByNumbers_48 ?_ ?_
    · refine R_loc (lv2 := [(0, .ref (G.1 + a0))]) [0] rfl ?_
      exact R_end (fun (o : (Int32)) (s : Sg) => V κ G (QQ κ G E none σ') E s (false, 0, 0) 96 [(0, .ref (G.1 + a0))] []) K13
    · refine R_iload_n C 1 rfl dX1_dealByNumbers_51 ?_
      refine R_bdK (fun (w : Int32) (s : Sg) => V κ G (QQ κ G E none σ') E s (false, 0, 0) 66 [(0, .ref (G.1 + a0)), (1, .int a1), (2, .int v11)] [.int w]) (fun w18 s19 => ?_) (fun w18 s19 Kw18 => ?_)
      · refine R_istore_n (lv2 := [(3, .int w18), (0, .ref (G.1 + a0)), (1, .int a1), (2, .int v11)]) C dX1_dealByNumbers_66 rfl (by decide) rfl ?_
        refine R_aload_n C 1 rfl dX1_dealByNumbers_67 ?_
        refine R_dr (fun x26 rx26 cx26 => ?_)
        refine R_getr C fl1_39 rfl ha0 rx26 dX1_dealByNumbers_68 ?_
        refine R_iload_n C 0 rfl dX1_dealByNumbers_71 ?_
        refine R_dup2 C dX1_dealByNumbers_72 rfl rfl ?_
        refine R_ck (fun h27 => ?_)
        refine R_iald C cx26 h27 dX1_dealByNumbers_73 ?_
        refine R_iconst C (1) dX1_dealByNumbers_74 (by decide) ?_
        refine R_iadd C dX1_dealByNumbers_75 ?_
        refine R_ck (fun h28 => ?_)
        refine S_iast C cx26 h28 dX1_dealByNumbers_76 (fun s29 => ?_)
        refine R_aload_n C 1 rfl dX1_dealByNumbers_77 ?_
        refine R_getr C fl1_35 rfl ha0 rx1 dX1_dealByNumbers_78 ?_
        refine R_dr (fun x30 rx30 cx30 => ?_)
        refine R_getr C fl1_127 rfl cx1 rx30 dX1_dealByNumbers_81 ?_
        refine R_iload_n C 0 rfl dX1_dealByNumbers_84 ?_
        refine R_dup2 C dX1_dealByNumbers_85 rfl rfl ?_
        refine R_ck (fun h31 => ?_)
        refine R_iald C cx30 h31 dX1_dealByNumbers_86 ?_
        refine R_iconst C (1) dX1_dealByNumbers_87 (by decide) ?_
        refine R_isub C dX1_dealByNumbers_88 ?_
        refine R_ck (fun h32 => ?_)
        refine S_iast C cx30 h32 dX1_dealByNumbers_89 (fun s33 => ?_)
        refine S_iinc (fun v34 => [(2, .int v34), (3, .int w18), (0, .ref (G.1 + a0)), (1, .int a1)]) 3 C dX1_dealByNumbers_90 rfl (by decide) (by decide) (fun _ => rfl) (fun v34 => ?_)
        refine R_goto C dX1_dealByNumbers_93 ?_
        refine R_loc (lv2 := [(0, .ref (G.1 + a0)), (1, .int a1), (2, .int v34)]) [2, 3, 0] rfl ?_
        exact I16 (v34, s33) b14 s15 K13
      · refine B_if_eq C dX1_dealByNumbers_52 ?_ ?_
        · refine R_aload_n C 0 rfl dX1_dealByNumbers_62 ?_
          refine R_bd (fun r22 s20 q21 => ?_)
          refine R_callVi [] [] C ml1_124 (kX1_fewestBlanks q21) (by rw [hR]; exact ⟨rfl, rfl, Nat.le_of_ble_eq_true rfl, Nat.le_of_ble_eq_true rfl, Nat.zero_le _, Nat.zero_le _⟩) ha0 rfl rfl (Nat.le_of_ble_eq_true rfl) dX1_dealByNumbers_63 ?_
          exact R_end (fun (w : Int32) (s : Sg) => V κ G (QQ κ G E none σ') E s (false, 0, 0) 66 [(0, .ref (G.1 + a0)), (1, .int a1), (2, .int v11)] [.int w]) Kw18
        · refine R_aload_n C 0 rfl dX1_dealByNumbers_55 ?_
          refine R_bd (fun r25 s23 q24 => ?_)
          refine R_callVi [] [] C ml1_121 (kX1_firstPlace q24) (by rw [hR]; exact ⟨rfl, rfl, Nat.le_of_ble_eq_true rfl, Nat.le_of_ble_eq_true rfl, Nat.zero_le _, Nat.zero_le _⟩) ha0 rfl rfl (Nat.le_of_ble_eq_true rfl) dX1_dealByNumbers_56 ?_
          refine R_goto C dX1_dealByNumbers_59 ?_
          exact R_end (fun (w : Int32) (s : Sg) => V κ G (QQ κ G E none σ') E s (false, 0, 0) 66 [(0, .ref (G.1 + a0)), (1, .int a1), (2, .int v11)] [.int w]) Kw18
theorem dX1_openPass_0 : dk cX1_openPass 0 1 (.iconst 0) 1 := by unfold dk; decide +kernel
theorem dX1_openPass_1 : dk cX1_openPass 1 2 (.istore_n 1) 1 := by unfold dk; decide +kernel
theorem dX1_openPass_2 : dk cX1_openPass 2 3 (.iload_n 1) 1 := by unfold dk; decide +kernel
theorem dX1_openPass_3 : dk cX1_openPass 3 4 (.aload_n 0) 1 := by unfold dk; decide +kernel
theorem dX1_openPass_4 : dk cX1_openPass 4 7 (.getfield 58) 3 := by unfold dk; decide +kernel
theorem dX1_openPass_10 : dk cX1_openPass 10 11 (.aload_n 0) 1 := by unfold dk; decide +kernel
theorem dX1_openPass_11 : dk cX1_openPass 11 14 (.getfield 21) 3 := by unfold dk; decide +kernel
theorem dX1_openPass_14 : dk cX1_openPass 14 15 (.iload_n 1) 1 := by unfold dk; decide +kernel
theorem dX1_openPass_15 : dk cX1_openPass 15 16 (.aload_n 0) 1 := by unfold dk; decide +kernel
theorem dX1_openPass_16 : dk cX1_openPass 16 19 (.getfield 17) 3 := by unfold dk; decide +kernel
theorem dX1_openPass_19 : dk cX1_openPass 19 20 (.iload_n 1) 1 := by unfold dk; decide +kernel
theorem dX1_openPass_20 : dk cX1_openPass 20 21 (.aaload) 1 := by unfold dk; decide +kernel
theorem dX1_openPass_21 : dk cX1_openPass 21 24 (.invokevirtual 136) 3 := by unfold dk; decide +kernel
theorem dX1_openPass_24 : bk cX1_openPass 24 27 39 (.ifCond .le 15) (15) := by unfold bk; decide +kernel
theorem dX1_openPass_39 : dk cX1_openPass 39 40 (.iconst 0) 1 := by unfold dk; decide +kernel
theorem dX1_openPass_27 : dk cX1_openPass 27 28 (.iload_n 1) 1 := by unfold dk; decide +kernel
theorem dX1_openPass_28 : dk cX1_openPass 28 29 (.aload_n 0) 1 := by unfold dk; decide +kernel
theorem dX1_openPass_29 : dk cX1_openPass 29 32 (.getfield 74) 3 := by unfold dk; decide +kernel
theorem dX1_openPass_35 : dk cX1_openPass 35 36 (.iconst 1) 1 := by unfold dk; decide +kernel
theorem dX1_openPass_36 : bk cX1_openPass 36 39 40 (.goto 4) (4) := by unfold bk; decide +kernel
theorem dX1_openPass_32 : bk cX1_openPass 32 35 39 (.if_icmp .eq 7) (7) := by unfold bk; decide +kernel
theorem dX1_openPass_40 : dk cX1_openPass 40 41 (.bastore) 1 := by unfold dk; decide +kernel
theorem dX1_openPass_41 : dk cX1_openPass 41 44 (.iinc 1 1) 3 := by unfold dk; decide +kernel
theorem dX1_openPass_44 : bk cX1_openPass 44 47 2 (.goto (-42)) (-42) := by unfold bk; decide +kernel
theorem dX1_openPass_7 : bk cX1_openPass 7 10 47 (.if_icmp .ge 40) (40) := by unfold bk; decide +kernel
theorem dX1_openPass_47 : dk cX1_openPass 47 48 (.return_) 1 := by unfold dk; decide +kernel
def bX1_openPass_2 (E : En) (a0 : Nat) (rec : Int32 → Sg → Option ((Int32) × Sg)) (v1 : Int32) (s2 : Sg) : Option ((Int32) × Sg) := if (gi s2 a0 1) ≤ v1 then (some (v1, s2)) else (dr (rf E a0 10) E 101 (fun x7 => dr (rf E a0 4) E 104 (fun x8 => ck v1 (ln E x8) (dr (rf E x8 v1.toNatClampNeg) E 5 (fun x10 => bd (fX5_size E x10 s2) (fun r13 s11 => bd (if r13 ≤ 0 then (some ((0 : Int32), s11)) else (if v1 = (gi s11 a0 9) then (some ((0 : Int32), s11)) else (some ((1 : Int32), s11)))) (fun w14 s15 => ck v1 (ln E x7) (ss (si s15 x7 v1.toNatClampNeg (vp_nar .boolean w14)) (fun s17 => lt (v1 + (1 : Int32)) (fun v18 => rec v18 s17))))))))))
def fX1_openPass (E : En) (a0 : Nat) (σ : Sg) : Option (Sg) := tk (cd E a0) 1 (bd (fx (fun rec a => bX1_openPass_2 E a0 (fun u0 t => rec (u0, t)) a.1 a.2) FU ((0 : Int32), σ)) (fun o19 s20 => some s20))
set_option maxHeartbeats 4000000 in
set_option maxRecDepth 100000 in
theorem kX1_openPass {l : Launch} {G : Gl} {E : En} {a0 : Nat} {σ σ' : Sg} : fX1_openPass E a0 σ = some σ' → CT l yX1_openPass cX1_openPass 2 none ({ frames := 1, cells := 0, slots := 0, locals := 20 } : Room) [.ref (G.1 + a0)] G E σ none σ' := by
  intro h
  refine CT_of (lv0 := [(0, .ref (G.1 + a0))]) (by decide) (Nat.le_of_ble_eq_true rfl) rfl (fun κ hl hR hr C => ?_)
  have C : Cx κ G cX1_openPass RX1 2 := C
  revert h
  unfold fX1_openPass
  refine R_tk (fun ha0 => ?_)
  refine R_iconst C (0) dX1_openPass_0 (by decide) ?_
  refine R_istore_n (lv2 := [(1, .int (0 : Int32)), (0, .ref (G.1 + a0))]) C dX1_openPass_1 rfl (by decide) rfl ?_
  refine R_loc (lv2 := [(0, .ref (G.1 + a0)), (1, .int (0 : Int32))]) [1, 0] rfl ?_
  refine R_loop (fun (a : (Int32) × Sg) => V κ G (QQ κ G E none σ') E a.2 (false, 0, 0) 2 [(0, .ref (G.1 + a0)), (1, .int a.1)] []) (fun (o : (Int32)) (s : Sg) => V κ G (QQ κ G E none σ') E s (false, 0, 0) 47 [] []) ((0 : Int32), σ) (fun o19 s20 => ?_) (fun rec I6 a b4 s5 K3 => ?_)
  · exact R_vret C hr dX1_openPass_47
  · obtain ⟨v1, s2⟩ := a
    show bX1_openPass_2 E a0 (fun u0 t => rec (u0, t)) v1 s2 = some (b4, s5) → V κ G (QQ κ G E none σ') E s2 (false, 0, 0) 2 [(0, .ref (G.1 + a0)), (1, .int v1)] []
    unfold bX1_openPass_2
    refine R_iload_n C 1 rfl dX1_openPass_2 ?_
    refine R_aload_n C 0 rfl dX1_openPass_3 ?_
    refine R_geti C fl1_58 rfl ha0 dX1_openPass_4 ?_
    refine B_icmp_ge C dX1_openPass_7 ?_ ?_
    · refine R_loc (lv2 := []) [] rfl ?_
      exact R_end (fun (o : (Int32)) (s : Sg) => V κ G (QQ κ G E none σ') E s (false, 0, 0) 47 [] []) K3
    · refine R_aload_n C 0 rfl dX1_openPass_10 ?_
      refine R_dr (fun x7 rx7 cx7 => ?_)
      refine R_getr C fl1_21 rfl ha0 rx7 dX1_openPass_11 ?_
      refine R_iload_n C 1 rfl dX1_openPass_14 ?_
      refine R_aload_n C 0 rfl dX1_openPass_15 ?_
      refine R_dr (fun x8 rx8 cx8 => ?_)
      refine R_getr C fl1_17 rfl ha0 rx8 dX1_openPass_16 ?_
      refine R_iload_n C 1 rfl dX1_openPass_19 ?_
      refine R_ck (fun h9 => ?_)
      refine R_dr (fun x10 rx10 cx10 => ?_)
      refine R_aald4 C cx8 h9 rx10 dX1_openPass_20 ?_
      refine R_bd (fun r13 s11 q12 => ?_)
      refine R_callVi [] [.int v1, .ref (G.1 + x7)] C ml1_136 (kX5_size q12) (by rw [hR]; exact ⟨rfl, rfl, Nat.le_of_ble_eq_true rfl, Nat.le_of_ble_eq_true rfl, Nat.zero_le _, Nat.zero_le _⟩) cx10 rfl rfl (Nat.le_of_ble_eq_true rfl) dX1_openPass_21 ?_
      refine R_bdK (fun (w : Int32) (s : Sg) => V κ G (QQ κ G E none σ') E s (false, 0, 0) 40 [(0, .ref (G.1 + a0)), (1, .int v1)] [.int w, .int v1, .ref (G.1 + x7)]) (fun w14 s15 => ?_) (fun w14 s15 Kw14 => ?_)
      · refine R_ck (fun h16 => ?_)
        refine S_zast C cx7 h16 dX1_openPass_40 (fun s17 => ?_)
        refine S_iinc (fun v18 => [(1, .int v18), (0, .ref (G.1 + a0))]) 1 C dX1_openPass_41 rfl (by decide) (by decide) (fun _ => rfl) (fun v18 => ?_)
        refine R_goto C dX1_openPass_44 ?_
        refine R_loc (lv2 := [(0, .ref (G.1 + a0)), (1, .int v18)]) [1, 0] rfl ?_
        exact I6 (v18, s17) b4 s5 K3
      · refine B_if_le C dX1_openPass_24 ?_ ?_
        · refine R_iconst C (0) dX1_openPass_39 (by decide) ?_
          exact R_end (fun (w : Int32) (s : Sg) => V κ G (QQ κ G E none σ') E s (false, 0, 0) 40 [(0, .ref (G.1 + a0)), (1, .int v1)] [.int w, .int v1, .ref (G.1 + x7)]) Kw14
        · refine R_iload_n C 1 rfl dX1_openPass_27 ?_
          refine R_aload_n C 0 rfl dX1_openPass_28 ?_
          refine R_geti C fl1_74 rfl ha0 dX1_openPass_29 ?_
          refine B_icmp_eq C dX1_openPass_32 ?_ ?_
          · refine R_iconst C (0) dX1_openPass_39 (by decide) ?_
            exact R_end (fun (w : Int32) (s : Sg) => V κ G (QQ κ G E none σ') E s (false, 0, 0) 40 [(0, .ref (G.1 + a0)), (1, .int v1)] [.int w, .int v1, .ref (G.1 + x7)]) Kw14
          · refine R_iconst C (1) dX1_openPass_35 (by decide) ?_
            refine R_goto C dX1_openPass_36 ?_
            exact R_end (fun (w : Int32) (s : Sg) => V κ G (QQ κ G E none σ') E s (false, 0, 0) 40 [(0, .ref (G.1 + a0)), (1, .int v1)] [.int w, .int v1, .ref (G.1 + x7)]) Kw14
theorem dX1_isDown_0 : dk cX1_isDown 0 1 (.iload_n 1) 1 := by unfold dk; decide +kernel
theorem dX1_isDown_1 : bk cX1_isDown 1 4 25 (.ifCond .lt 24) (24) := by unfold bk; decide +kernel
theorem dX1_isDown_25 : dk cX1_isDown 25 26 (.iconst 0) 1 := by unfold dk; decide +kernel
theorem dX1_isDown_4 : dk cX1_isDown 4 5 (.iload_n 1) 1 := by unfold dk; decide +kernel
theorem dX1_isDown_5 : dk cX1_isDown 5 6 (.aload_n 0) 1 := by unfold dk; decide +kernel
theorem dX1_isDown_6 : dk cX1_isDown 6 9 (.getfield 65) 3 := by unfold dk; decide +kernel
theorem dX1_isDown_12 : dk cX1_isDown 12 13 (.aload_n 0) 1 := by unfold dk; decide +kernel
theorem dX1_isDown_13 : dk cX1_isDown 13 16 (.getfield 51) 3 := by unfold dk; decide +kernel
theorem dX1_isDown_16 : dk cX1_isDown 16 17 (.iload_n 1) 1 := by unfold dk; decide +kernel
theorem dX1_isDown_17 : dk cX1_isDown 17 18 (.baload) 1 := by unfold dk; decide +kernel
theorem dX1_isDown_21 : dk cX1_isDown 21 22 (.iconst 1) 1 := by unfold dk; decide +kernel
theorem dX1_isDown_22 : bk cX1_isDown 22 25 26 (.goto 4) (4) := by unfold bk; decide +kernel
theorem dX1_isDown_18 : bk cX1_isDown 18 21 25 (.ifCond .eq 7) (7) := by unfold bk; decide +kernel
theorem dX1_isDown_9 : bk cX1_isDown 9 12 25 (.if_icmp .ge 16) (16) := by unfold bk; decide +kernel
theorem dX1_isDown_26 : dk cX1_isDown 26 27 (.ireturn) 1 := by unfold dk; decide +kernel
def fX1_isDown (E : En) (a0 : Nat) (a1 : Int32) (σ : Sg) : Option (Int32 × Sg) := tk (cd E a0) 1 (bd (if a1 < 0 then (some ((0 : Int32), σ)) else (if (gi σ a0 7) ≤ a1 then (some ((0 : Int32), σ)) else (dr (rf E a0 6) E 101 (fun x3 => ck a1 (ln E x3) (if (gi σ x3 a1.toNatClampNeg) = 0 then (some ((0 : Int32), σ)) else (some ((1 : Int32), σ))))))) (fun w1 s2 => kb w1 (some (w1, s2))))
set_option maxHeartbeats 4000000 in
set_option maxRecDepth 100000 in
theorem kX1_isDown {l : Launch} {G : Gl} {E : En} {a0 : Nat} {a1 : Int32} {σ σ' : Sg} {r : Int32} : fX1_isDown E a0 a1 σ = some (r, σ') → CT l yX1_isDown cX1_isDown 2 (some .boolean) ({ frames := 0, cells := 0, slots := 0, locals := 0 } : Room) [.ref (G.1 + a0), .int a1] G E σ (some (.int r)) σ' := by
  intro h
  refine CT_of (lv0 := [(0, .ref (G.1 + a0)), (1, .int a1)]) (by decide) (Nat.le_of_ble_eq_true rfl) rfl (fun κ hl hR hr C => ?_)
  have C : Cx κ G cX1_isDown RX1 2 := C
  revert h
  unfold fX1_isDown
  refine R_tk (fun ha0 => ?_)
  refine R_iload_n C 1 rfl dX1_isDown_0 ?_
  refine R_bdK (fun (w : Int32) (s : Sg) => V κ G (QQ κ G E (some (.int r)) σ') E s (false, 0, 0) 26 [] [.int w]) (fun w1 s2 => ?_) (fun w1 s2 Kw1 => ?_)
  · refine R_kb (fun h5 => ?_)
    exact R_zret C hr h5 dX1_isDown_26
  · refine B_if_lt C dX1_isDown_1 ?_ ?_
    · refine R_iconst C (0) dX1_isDown_25 (by decide) ?_
      refine R_loc (lv2 := []) [] rfl ?_
      exact R_end (fun (w : Int32) (s : Sg) => V κ G (QQ κ G E (some (.int r)) σ') E s (false, 0, 0) 26 [] [.int w]) Kw1
    · refine R_iload_n C 1 rfl dX1_isDown_4 ?_
      refine R_aload_n C 0 rfl dX1_isDown_5 ?_
      refine R_geti C fl1_65 rfl ha0 dX1_isDown_6 ?_
      refine B_icmp_ge C dX1_isDown_9 ?_ ?_
      · refine R_iconst C (0) dX1_isDown_25 (by decide) ?_
        refine R_loc (lv2 := []) [] rfl ?_
        exact R_end (fun (w : Int32) (s : Sg) => V κ G (QQ κ G E (some (.int r)) σ') E s (false, 0, 0) 26 [] [.int w]) Kw1
      · refine R_aload_n C 0 rfl dX1_isDown_12 ?_
        refine R_dr (fun x3 rx3 cx3 => ?_)
        refine R_getr C fl1_51 rfl ha0 rx3 dX1_isDown_13 ?_
        refine R_iload_n C 1 rfl dX1_isDown_16 ?_
        refine R_ck (fun h4 => ?_)
        refine R_zald C cx3 h4 dX1_isDown_17 ?_
        refine B_if_eq C dX1_isDown_18 ?_ ?_
        · refine R_iconst C (0) dX1_isDown_25 (by decide) ?_
          refine R_loc (lv2 := []) [] rfl ?_
          exact R_end (fun (w : Int32) (s : Sg) => V κ G (QQ κ G E (some (.int r)) σ') E s (false, 0, 0) 26 [] [.int w]) Kw1
        · refine R_iconst C (1) dX1_isDown_21 (by decide) ?_
          refine R_goto C dX1_isDown_22 ?_
          refine R_loc (lv2 := []) [] rfl ?_
          exact R_end (fun (w : Int32) (s : Sg) => V κ G (QQ κ G E (some (.int r)) σ') E s (false, 0, 0) 26 [] [.int w]) Kw1
theorem dX1_turnLast_0 : dk cX1_turnLast 0 1 (.aload_n 0) 1 := by unfold dk; decide +kernel
theorem dX1_turnLast_1 : dk cX1_turnLast 1 4 (.getfield 71) 3 := by unfold dk; decide +kernel
theorem dX1_turnLast_4 : dk cX1_turnLast 4 5 (.iconst 1) 1 := by unfold dk; decide +kernel
theorem dX1_turnLast_9 : dk cX1_turnLast 9 10 (.iconst 0) 1 := by unfold dk; decide +kernel
theorem dX1_turnLast_10 : dk cX1_turnLast 10 11 (.istore_n 1) 1 := by unfold dk; decide +kernel
theorem dX1_turnLast_11 : dk cX1_turnLast 11 12 (.iload_n 1) 1 := by unfold dk; decide +kernel
theorem dX1_turnLast_12 : dk cX1_turnLast 12 13 (.aload_n 0) 1 := by unfold dk; decide +kernel
theorem dX1_turnLast_13 : dk cX1_turnLast 13 16 (.getfield 58) 3 := by unfold dk; decide +kernel
theorem dX1_turnLast_19 : dk cX1_turnLast 19 20 (.aload_n 0) 1 := by unfold dk; decide +kernel
theorem dX1_turnLast_20 : dk cX1_turnLast 20 23 (.getfield 17) 3 := by unfold dk; decide +kernel
theorem dX1_turnLast_23 : dk cX1_turnLast 23 24 (.iload_n 1) 1 := by unfold dk; decide +kernel
theorem dX1_turnLast_24 : dk cX1_turnLast 24 25 (.aaload) 1 := by unfold dk; decide +kernel
theorem dX1_turnLast_25 : dk cX1_turnLast 25 26 (.iconst 0) 1 := by unfold dk; decide +kernel
theorem dX1_turnLast_26 : dk cX1_turnLast 26 27 (.aload_n 0) 1 := by unfold dk; decide +kernel
theorem dX1_turnLast_27 : dk cX1_turnLast 27 30 (.getfield 61) 3 := by unfold dk; decide +kernel
theorem dX1_turnLast_30 : dk cX1_turnLast 30 33 (.invokevirtual 146) 3 := by unfold dk; decide +kernel
theorem dX1_turnLast_33 : dk cX1_turnLast 33 34 (.istore_n 2) 1 := by unfold dk; decide +kernel
theorem dX1_turnLast_34 : dk cX1_turnLast 34 35 (.aload_n 0) 1 := by unfold dk; decide +kernel
theorem dX1_turnLast_35 : dk cX1_turnLast 35 36 (.iload_n 2) 1 := by unfold dk; decide +kernel
theorem dX1_turnLast_36 : dk cX1_turnLast 36 39 (.invokevirtual 149) 3 := by unfold dk; decide +kernel
theorem dX1_turnLast_39 : bk cX1_turnLast 39 42 64 (.ifCond .eq 25) (25) := by unfold bk; decide +kernel
theorem dX1_turnLast_42 : dk cX1_turnLast 42 43 (.aload_n 0) 1 := by unfold dk; decide +kernel
theorem dX1_turnLast_43 : dk cX1_turnLast 43 46 (.getfield 25) 3 := by unfold dk; decide +kernel
theorem dX1_turnLast_46 : dk cX1_turnLast 46 47 (.iconst 3) 1 := by unfold dk; decide +kernel
theorem dX1_turnLast_47 : dk cX1_turnLast 47 48 (.dup2) 1 := by unfold dk; decide +kernel
theorem dX1_turnLast_48 : dk cX1_turnLast 48 49 (.iaload) 1 := by unfold dk; decide +kernel
theorem dX1_turnLast_49 : dk cX1_turnLast 49 50 (.aload_n 0) 1 := by unfold dk; decide +kernel
theorem dX1_turnLast_50 : dk cX1_turnLast 50 53 (.getfield 48) 3 := by unfold dk; decide +kernel
theorem dX1_turnLast_53 : dk cX1_turnLast 53 54 (.iload_n 2) 1 := by unfold dk; decide +kernel
theorem dX1_turnLast_54 : dk cX1_turnLast 54 55 (.iaload) 1 := by unfold dk; decide +kernel
theorem dX1_turnLast_55 : dk cX1_turnLast 55 56 (.iadd) 1 := by unfold dk; decide +kernel
theorem dX1_turnLast_56 : dk cX1_turnLast 56 57 (.iastore) 1 := by unfold dk; decide +kernel
theorem dX1_turnLast_57 : dk cX1_turnLast 57 58 (.aload_n 0) 1 := by unfold dk; decide +kernel
theorem dX1_turnLast_58 : dk cX1_turnLast 58 61 (.getfield 51) 3 := by unfold dk; decide +kernel
theorem dX1_turnLast_61 : dk cX1_turnLast 61 62 (.iload_n 2) 1 := by unfold dk; decide +kernel
theorem dX1_turnLast_62 : dk cX1_turnLast 62 63 (.iconst 0) 1 := by unfold dk; decide +kernel
theorem dX1_turnLast_63 : dk cX1_turnLast 63 64 (.bastore) 1 := by unfold dk; decide +kernel
theorem dX1_turnLast_64 : dk cX1_turnLast 64 67 (.iinc 1 1) 3 := by unfold dk; decide +kernel
theorem dX1_turnLast_67 : bk cX1_turnLast 67 70 11 (.goto (-56)) (-56) := by unfold bk; decide +kernel
theorem dX1_turnLast_16 : bk cX1_turnLast 16 19 70 (.if_icmp .ge 54) (54) := by unfold bk; decide +kernel
theorem dX1_turnLast_70 : dk cX1_turnLast 70 71 (.return_) 1 := by unfold dk; decide +kernel
theorem dX1_turnLast_8 : dk cX1_turnLast 8 9 (.return_) 1 := by unfold dk; decide +kernel
theorem dX1_turnLast_5 : bk cX1_turnLast 5 8 9 (.if_icmp .eq 4) (4) := by unfold bk; decide +kernel
def bX1_turnLast_11 (E : En) (a0 : Nat) (rec : Int32 → Sg → Option ((Int32) × Sg)) (v1 : Int32) (s2 : Sg) : Option ((Int32) × Sg) := if (gi s2 a0 1) ≤ v1 then (some (v1, s2)) else (dr (rf E a0 4) E 104 (fun x7 => ck v1 (ln E x7) (dr (rf E x7 v1.toNatClampNeg) E 5 (fun x9 => bd (fX5_at E x9 (0 : Int32) (gi s2 a0 3) s2) (fun r12 s10 => bd (fX1_isDown E a0 r12 s10) (fun r15 s13 => bd (if r15 = 0 then (some ((), s13)) else (dr (rf E a0 12) E 100 (fun x18 => ck (3 : Int32) (ln E x18) (dr (rf E a0 5) E 100 (fun x20 => ck r12 (ln E x20) (ck (3 : Int32) (ln E x18) (ss (si s13 x18 (3 : Int32).toNatClampNeg ((gi s13 x18 (3 : Int32).toNatClampNeg) + (gi s13 x20 r12.toNatClampNeg))) (fun s23 => dr (rf E a0 6) E 101 (fun x24 => ck r12 (ln E x24) (ss (si s23 x24 r12.toNatClampNeg (vp_nar .boolean (0 : Int32))) (fun s26 => some ((), s26)))))))))))) (fun w16 s17 => lt (v1 + (1 : Int32)) (fun v27 => rec v27 s17))))))))
def fX1_turnLast (E : En) (a0 : Nat) (σ : Sg) : Option (Sg) := tk (cd E a0) 1 (if (gi σ a0 8) = (1 : Int32) then (bd (fx (fun rec a => bX1_turnLast_11 E a0 (fun u0 t => rec (u0, t)) a.1 a.2) FU ((0 : Int32), σ)) (fun o28 s29 => some s29)) else (some σ))
set_option maxHeartbeats 4000000 in
set_option maxRecDepth 100000 in
theorem kX1_turnLast {l : Launch} {G : Gl} {E : En} {a0 : Nat} {σ σ' : Sg} : fX1_turnLast E a0 σ = some σ' → CT l yX1_turnLast cX1_turnLast 3 none ({ frames := 2, cells := 0, slots := 0, locals := 42 } : Room) [.ref (G.1 + a0)] G E σ none σ' := by
  intro h
  refine CT_of (lv0 := [(0, .ref (G.1 + a0))]) (by decide) (Nat.le_of_ble_eq_true rfl) rfl (fun κ hl hR hr C => ?_)
  have C : Cx κ G cX1_turnLast RX1 3 := C
  revert h
  unfold fX1_turnLast
  refine R_tk (fun ha0 => ?_)
  refine R_aload_n C 0 rfl dX1_turnLast_0 ?_
  refine R_geti C fl1_71 rfl ha0 dX1_turnLast_1 ?_
  refine R_iconst C (1) dX1_turnLast_4 (by decide) ?_
  refine B_icmp_eq C dX1_turnLast_5 ?_ ?_
  · refine R_iconst C (0) dX1_turnLast_9 (by decide) ?_
    refine R_istore_n (lv2 := [(1, .int (0 : Int32)), (0, .ref (G.1 + a0))]) C dX1_turnLast_10 rfl (by decide) rfl ?_
    refine R_loc (lv2 := [(0, .ref (G.1 + a0)), (1, .int (0 : Int32))]) [1, 0] rfl ?_
    refine R_loop (fun (a : (Int32) × Sg) => V κ G (QQ κ G E none σ') E a.2 (false, 0, 0) 11 [(0, .ref (G.1 + a0)), (1, .int a.1)] []) (fun (o : (Int32)) (s : Sg) => V κ G (QQ κ G E none σ') E s (false, 0, 0) 70 [] []) ((0 : Int32), σ) (fun o28 s29 => ?_) (fun rec I6 a b4 s5 K3 => ?_)
    · exact R_vret C hr dX1_turnLast_70
    · obtain ⟨v1, s2⟩ := a
      show bX1_turnLast_11 E a0 (fun u0 t => rec (u0, t)) v1 s2 = some (b4, s5) → V κ G (QQ κ G E none σ') E s2 (false, 0, 0) 11 [(0, .ref (G.1 + a0)), (1, .int v1)] []
      unfold bX1_turnLast_11
      refine R_iload_n C 1 rfl dX1_turnLast_11 ?_
      refine R_aload_n C 0 rfl dX1_turnLast_12 ?_
      refine R_geti C fl1_58 rfl ha0 dX1_turnLast_13 ?_
      refine B_icmp_ge C dX1_turnLast_16 ?_ ?_
      · refine R_loc (lv2 := []) [] rfl ?_
        exact R_end (fun (o : (Int32)) (s : Sg) => V κ G (QQ κ G E none σ') E s (false, 0, 0) 70 [] []) K3
      · refine R_aload_n C 0 rfl dX1_turnLast_19 ?_
        refine R_dr (fun x7 rx7 cx7 => ?_)
        refine R_getr C fl1_17 rfl ha0 rx7 dX1_turnLast_20 ?_
        refine R_iload_n C 1 rfl dX1_turnLast_23 ?_
        refine R_ck (fun h8 => ?_)
        refine R_dr (fun x9 rx9 cx9 => ?_)
        refine R_aald4 C cx7 h8 rx9 dX1_turnLast_24 ?_
        refine R_iconst C (0) dX1_turnLast_25 (by decide) ?_
        refine R_aload_n C 0 rfl dX1_turnLast_26 ?_
        refine R_geti C fl1_61 rfl ha0 dX1_turnLast_27 ?_
        refine R_bd (fun r12 s10 q11 => ?_)
        refine R_callVi [.int (0 : Int32), .int (gi s2 a0 3)] [] C ml1_146 (kX5_at q11) (by rw [hR]; exact ⟨rfl, rfl, Nat.le_of_ble_eq_true rfl, Nat.le_of_ble_eq_true rfl, Nat.zero_le _, Nat.zero_le _⟩) cx9 rfl rfl (Nat.le_of_ble_eq_true rfl) dX1_turnLast_30 ?_
        refine R_istore_n (lv2 := [(2, .int r12), (0, .ref (G.1 + a0)), (1, .int v1)]) C dX1_turnLast_33 rfl (by decide) rfl ?_
        refine R_aload_n C 1 rfl dX1_turnLast_34 ?_
        refine R_iload_n C 0 rfl dX1_turnLast_35 ?_
        refine R_bd (fun r15 s13 q14 => ?_)
        refine R_callVi [.int r12] [] C ml1_149 (kX1_isDown q14) (by rw [hR]; exact ⟨rfl, rfl, Nat.le_of_ble_eq_true rfl, Nat.le_of_ble_eq_true rfl, Nat.zero_le _, Nat.zero_le _⟩) ha0 rfl rfl (Nat.le_of_ble_eq_true rfl) dX1_turnLast_36 ?_
        refine R_bdK (fun (w : Unit) (s : Sg) => V κ G (QQ κ G E none σ') E s (false, 0, 0) 64 [(0, .ref (G.1 + a0)), (1, .int v1)] []) (fun w16 s17 => ?_) (fun w16 s17 Kw16 => ?_)
        · refine S_iinc (fun v27 => [(1, .int v27), (0, .ref (G.1 + a0))]) 1 C dX1_turnLast_64 rfl (by decide) (by decide) (fun _ => rfl) (fun v27 => ?_)
          refine R_goto C dX1_turnLast_67 ?_
          refine R_loc (lv2 := [(0, .ref (G.1 + a0)), (1, .int v27)]) [1, 0] rfl ?_
          exact I6 (v27, s17) b4 s5 K3
        · refine B_if_eq C dX1_turnLast_39 ?_ ?_
          · refine R_loc (lv2 := [(0, .ref (G.1 + a0)), (1, .int v1)]) [1, 2] rfl ?_
            exact R_end (fun (w : Unit) (s : Sg) => V κ G (QQ κ G E none σ') E s (false, 0, 0) 64 [(0, .ref (G.1 + a0)), (1, .int v1)] []) Kw16
          · refine R_aload_n C 1 rfl dX1_turnLast_42 ?_
            refine R_dr (fun x18 rx18 cx18 => ?_)
            refine R_getr C fl1_25 rfl ha0 rx18 dX1_turnLast_43 ?_
            refine R_iconst C (3) dX1_turnLast_46 (by decide) ?_
            refine R_dup2 C dX1_turnLast_47 rfl rfl ?_
            refine R_ck (fun h19 => ?_)
            refine R_iald C cx18 h19 dX1_turnLast_48 ?_
            refine R_aload_n C 1 rfl dX1_turnLast_49 ?_
            refine R_dr (fun x20 rx20 cx20 => ?_)
            refine R_getr C fl1_48 rfl ha0 rx20 dX1_turnLast_50 ?_
            refine R_iload_n C 0 rfl dX1_turnLast_53 ?_
            refine R_ck (fun h21 => ?_)
            refine R_iald C cx20 h21 dX1_turnLast_54 ?_
            refine R_iadd C dX1_turnLast_55 ?_
            refine R_ck (fun h22 => ?_)
            refine S_iast C cx18 h22 dX1_turnLast_56 (fun s23 => ?_)
            refine R_aload_n C 1 rfl dX1_turnLast_57 ?_
            refine R_dr (fun x24 rx24 cx24 => ?_)
            refine R_getr C fl1_51 rfl ha0 rx24 dX1_turnLast_58 ?_
            refine R_iload_n C 0 rfl dX1_turnLast_61 ?_
            refine R_iconst C (0) dX1_turnLast_62 (by decide) ?_
            refine R_ck (fun h25 => ?_)
            refine S_zast C cx24 h25 dX1_turnLast_63 (fun s26 => ?_)
            refine R_loc (lv2 := [(0, .ref (G.1 + a0)), (1, .int v1)]) [1, 2] rfl ?_
            exact R_end (fun (w : Unit) (s : Sg) => V κ G (QQ κ G E none σ') E s (false, 0, 0) 64 [(0, .ref (G.1 + a0)), (1, .int v1)] []) Kw16
  · exact R_vret C hr dX1_turnLast_8
theorem dX1_layOut_0 : dk cX1_layOut 0 1 (.aload_n 0) 1 := by unfold dk; decide +kernel
theorem dX1_layOut_1 : dk cX1_layOut 1 4 (.getfield 55) 3 := by unfold dk; decide +kernel
theorem dX1_layOut_4 : dk cX1_layOut 4 5 (.iconst 1) 1 := by unfold dk; decide +kernel
theorem dX1_layOut_5 : bk cX1_layOut 5 8 15 (.if_icmp .ne 10) (10) := by unfold bk; decide +kernel
theorem dX1_layOut_15 : dk cX1_layOut 15 16 (.aload_n 0) 1 := by unfold dk; decide +kernel
theorem dX1_layOut_16 : dk cX1_layOut 16 19 (.getfield 35) 3 := by unfold dk; decide +kernel
theorem dX1_layOut_19 : dk cX1_layOut 19 20 (.aload_n 0) 1 := by unfold dk; decide +kernel
theorem dX1_layOut_20 : dk cX1_layOut 20 23 (.getfield 65) 3 := by unfold dk; decide +kernel
theorem dX1_layOut_23 : dk cX1_layOut 23 24 (.aload_n 0) 1 := by unfold dk; decide +kernel
theorem dX1_layOut_24 : dk cX1_layOut 24 27 (.getfield 55) 3 := by unfold dk; decide +kernel
theorem dX1_layOut_27 : dk cX1_layOut 27 28 (.aload_n 0) 1 := by unfold dk; decide +kernel
theorem dX1_layOut_28 : dk cX1_layOut 28 31 (.getfield 58) 3 := by unfold dk; decide +kernel
theorem dX1_layOut_31 : dk cX1_layOut 31 32 (.iconst 1) 1 := by unfold dk; decide +kernel
theorem dX1_layOut_32 : dk cX1_layOut 32 33 (.isub) 1 := by unfold dk; decide +kernel
theorem dX1_layOut_33 : dk cX1_layOut 33 36 (.invokevirtual 96) 3 := by unfold dk; decide +kernel
theorem dX1_layOut_36 : dk cX1_layOut 36 37 (.aload_n 0) 1 := by unfold dk; decide +kernel
theorem dX1_layOut_37 : dk cX1_layOut 37 38 (.iload_n 1) 1 := by unfold dk; decide +kernel
theorem dX1_layOut_38 : dk cX1_layOut 38 41 (.invokevirtual 100) 3 := by unfold dk; decide +kernel
theorem dX1_layOut_8 : dk cX1_layOut 8 9 (.aload_n 0) 1 := by unfold dk; decide +kernel
theorem dX1_layOut_9 : dk cX1_layOut 9 12 (.invokevirtual 93) 3 := by unfold dk; decide +kernel
theorem dX1_layOut_12 : bk cX1_layOut 12 15 41 (.goto 29) (29) := by unfold bk; decide +kernel
theorem dX1_layOut_41 : dk cX1_layOut 41 42 (.aload_n 0) 1 := by unfold dk; decide +kernel
theorem dX1_layOut_42 : dk cX1_layOut 42 43 (.iconst 1) 1 := by unfold dk; decide +kernel
theorem dX1_layOut_43 : dk cX1_layOut 43 46 (.putfield 77) 3 := by unfold dk; decide +kernel
theorem dX1_layOut_46 : dk cX1_layOut 46 47 (.aload_n 0) 1 := by unfold dk; decide +kernel
theorem dX1_layOut_47 : dk cX1_layOut 47 50 (.invokevirtual 104) 3 := by unfold dk; decide +kernel
theorem dX1_layOut_50 : dk cX1_layOut 50 51 (.aload_n 0) 1 := by unfold dk; decide +kernel
theorem dX1_layOut_51 : dk cX1_layOut 51 54 (.invokevirtual 107) 3 := by unfold dk; decide +kernel
theorem dX1_layOut_54 : dk cX1_layOut 54 55 (.return_) 1 := by unfold dk; decide +kernel
def fX1_layOut (E : En) (a0 : Nat) (a1 : Int32) (σ : Sg) : Option (Sg) := tk (cd E a0) 1 (bd (if ¬ (gi σ a0 0) = (1 : Int32) then (dr (rf E a0 17) E 2 (fun x3 => bv (fX2_climbFor E x3 (gi σ a0 7) (gi σ a0 0) ((gi σ a0 1) - (1 : Int32)) σ) (fun s4 => bv (fX1_dealByNumbers E a0 a1 s4) (fun s6 => some ((), s6))))) else (bv (fX1_dealByTurns E a0 σ) (fun s8 => some ((), s8)))) (fun w1 s2 => ss (si s2 a0 11 (1 : Int32)) (fun s10 => bv (fX1_openPass E a0 s10) (fun s11 => bv (fX1_turnLast E a0 s11) (fun s13 => some s13)))))
set_option maxHeartbeats 4000000 in
set_option maxRecDepth 100000 in
theorem kX1_layOut {l : Launch} {G : Gl} {E : En} {a0 : Nat} {a1 : Int32} {σ σ' : Sg} : fX1_layOut E a0 a1 σ = some σ' → CT l yX1_layOut cX1_layOut 2 none ({ frames := 3, cells := 0, slots := 0, locals := 69 } : Room) [.ref (G.1 + a0), .int a1] G E σ none σ' := by
  intro h
  refine CT_of (lv0 := [(0, .ref (G.1 + a0)), (1, .int a1)]) (by decide) (Nat.le_of_ble_eq_true rfl) rfl (fun κ hl hR hr C => ?_)
  have C : Cx κ G cX1_layOut RX1 2 := C
  revert h
  unfold fX1_layOut
  refine R_tk (fun ha0 => ?_)
  refine R_aload_n C 0 rfl dX1_layOut_0 ?_
  refine R_geti C fl1_55 rfl ha0 dX1_layOut_1 ?_
  refine R_iconst C (1) dX1_layOut_4 (by decide) ?_
  refine R_bdK (fun (w : Unit) (s : Sg) => V κ G (QQ κ G E none σ') E s (false, 0, 0) 41 [(0, .ref (G.1 + a0))] []) (fun w1 s2 => ?_) (fun w1 s2 Kw1 => ?_)
  · refine R_aload_n C 0 rfl dX1_layOut_41 ?_
    refine R_iconst C (1) dX1_layOut_42 (by decide) ?_
    refine S_puti C fl1_77 rfl ha0 rfl rfl dX1_layOut_43 (fun s10 => ?_)
    refine R_aload_n C 0 rfl dX1_layOut_46 ?_
    refine R_bv (fun s11 q12 => ?_)
    refine R_callVv [] [] C ml1_104 (kX1_openPass q12) (by rw [hR]; exact ⟨rfl, rfl, Nat.le_of_ble_eq_true rfl, Nat.le_of_ble_eq_true rfl, Nat.zero_le _, Nat.zero_le _⟩) ha0 rfl rfl (Nat.le_of_ble_eq_true rfl) dX1_layOut_47 ?_
    refine R_aload_n C 0 rfl dX1_layOut_50 ?_
    refine R_bv (fun s13 q14 => ?_)
    refine R_callVv [] [] C ml1_107 (kX1_turnLast q14) (by rw [hR]; exact ⟨rfl, rfl, Nat.le_of_ble_eq_true rfl, Nat.le_of_ble_eq_true rfl, Nat.zero_le _, Nat.zero_le _⟩) ha0 rfl rfl (Nat.le_of_ble_eq_true rfl) dX1_layOut_51 ?_
    exact R_vret C hr dX1_layOut_54
  · refine B_icmp_ne C dX1_layOut_5 ?_ ?_
    · refine R_aload_n C 0 rfl dX1_layOut_15 ?_
      refine R_dr (fun x3 rx3 cx3 => ?_)
      refine R_getr C fl1_35 rfl ha0 rx3 dX1_layOut_16 ?_
      refine R_aload_n C 0 rfl dX1_layOut_19 ?_
      refine R_geti C fl1_65 rfl ha0 dX1_layOut_20 ?_
      refine R_aload_n C 0 rfl dX1_layOut_23 ?_
      refine R_geti C fl1_55 rfl ha0 dX1_layOut_24 ?_
      refine R_aload_n C 0 rfl dX1_layOut_27 ?_
      refine R_geti C fl1_58 rfl ha0 dX1_layOut_28 ?_
      refine R_iconst C (1) dX1_layOut_31 (by decide) ?_
      refine R_isub C dX1_layOut_32 ?_
      refine R_bv (fun s4 q5 => ?_)
      refine R_callVv [.int (gi σ a0 7), .int (gi σ a0 0), .int ((gi σ a0 1) - (1 : Int32))] [] C ml1_96 (kX2_climbFor q5) (by rw [hR]; exact ⟨rfl, rfl, Nat.le_of_ble_eq_true rfl, Nat.le_of_ble_eq_true rfl, Nat.zero_le _, Nat.zero_le _⟩) cx3 rfl rfl (Nat.le_of_ble_eq_true rfl) dX1_layOut_33 ?_
      refine R_aload_n C 0 rfl dX1_layOut_36 ?_
      refine R_iload_n C 1 rfl dX1_layOut_37 ?_
      refine R_bv (fun s6 q7 => ?_)
      refine R_callVv [.int a1] [] C ml1_100 (kX1_dealByNumbers q7) (by rw [hR]; exact ⟨rfl, rfl, Nat.le_of_ble_eq_true rfl, Nat.le_of_ble_eq_true rfl, Nat.zero_le _, Nat.zero_le _⟩) ha0 rfl rfl (Nat.le_of_ble_eq_true rfl) dX1_layOut_38 ?_
      refine R_loc (lv2 := [(0, .ref (G.1 + a0))]) [0] rfl ?_
      exact R_end (fun (w : Unit) (s : Sg) => V κ G (QQ κ G E none σ') E s (false, 0, 0) 41 [(0, .ref (G.1 + a0))] []) Kw1
    · refine R_aload_n C 0 rfl dX1_layOut_8 ?_
      refine R_bv (fun s8 q9 => ?_)
      refine R_callVv [] [] C ml1_93 (kX1_dealByTurns q9) (by rw [hR]; exact ⟨rfl, rfl, Nat.le_of_ble_eq_true rfl, Nat.le_of_ble_eq_true rfl, Nat.zero_le _, Nat.zero_le _⟩) ha0 rfl rfl (Nat.le_of_ble_eq_true rfl) dX1_layOut_9 ?_
      refine R_goto C dX1_layOut_12 ?_
      refine R_loc (lv2 := [(0, .ref (G.1 + a0))]) [0] rfl ?_
      exact R_end (fun (w : Unit) (s : Sg) => V κ G (QQ κ G E none σ') E s (false, 0, 0) 41 [(0, .ref (G.1 + a0))] []) Kw1
theorem dX1_gives_0 : dk cX1_gives 0 1 (.aload_n 0) 1 := by unfold dk; decide +kernel
theorem dX1_gives_1 : dk cX1_gives 1 4 (.getfield 17) 3 := by unfold dk; decide +kernel
theorem dX1_gives_4 : dk cX1_gives 4 5 (.iload_n 1) 1 := by unfold dk; decide +kernel
theorem dX1_gives_5 : dk cX1_gives 5 6 (.aaload) 1 := by unfold dk; decide +kernel
theorem dX1_gives_6 : dk cX1_gives 6 9 (.invokevirtual 136) 3 := by unfold dk; decide +kernel
theorem dX1_gives_14 : dk cX1_gives 14 15 (.aload_n 0) 1 := by unfold dk; decide +kernel
theorem dX1_gives_15 : dk cX1_gives 15 18 (.getfield 55) 3 := by unfold dk; decide +kernel
theorem dX1_gives_18 : dk cX1_gives 18 44 (.lookupswitch 66 #[(0, 26), (1, 40)]) 26 := by unfold dk; decide +kernel
theorem dX1_gives_44 : dk cX1_gives 44 45 (.iload_n 1) 1 := by unfold dk; decide +kernel
theorem dX1_gives_45 : dk cX1_gives 45 46 (.aload_n 0) 1 := by unfold dk; decide +kernel
theorem dX1_gives_46 : dk cX1_gives 46 49 (.getfield 74) 3 := by unfold dk; decide +kernel
theorem dX1_gives_49 : bk cX1_gives 49 52 56 (.if_icmp .eq 7) (7) := by unfold bk; decide +kernel
theorem dX1_gives_56 : dk cX1_gives 56 57 (.iconst 0) 1 := by unfold dk; decide +kernel
theorem dX1_gives_52 : dk cX1_gives 52 53 (.iconst 1) 1 := by unfold dk; decide +kernel
theorem dX1_gives_53 : bk cX1_gives 53 56 57 (.goto 4) (4) := by unfold bk; decide +kernel
theorem dX1_gives_57 : dk cX1_gives 57 58 (.ireturn) 1 := by unfold dk; decide +kernel
theorem dX1_gives_58 : dk cX1_gives 58 59 (.iload_n 1) 1 := by unfold dk; decide +kernel
theorem dX1_gives_59 : dk cX1_gives 59 60 (.aload_n 0) 1 := by unfold dk; decide +kernel
theorem dX1_gives_60 : dk cX1_gives 60 63 (.getfield 9) 3 := by unfold dk; decide +kernel
theorem dX1_gives_63 : bk cX1_gives 63 66 70 (.if_icmp .ge 7) (7) := by unfold bk; decide +kernel
theorem dX1_gives_70 : dk cX1_gives 70 71 (.iconst 0) 1 := by unfold dk; decide +kernel
theorem dX1_gives_66 : dk cX1_gives 66 67 (.iconst 1) 1 := by unfold dk; decide +kernel
theorem dX1_gives_67 : bk cX1_gives 67 70 71 (.goto 4) (4) := by unfold bk; decide +kernel
theorem dX1_gives_71 : dk cX1_gives 71 72 (.aload_n 0) 1 := by unfold dk; decide +kernel
theorem dX1_gives_72 : dk cX1_gives 72 75 (.getfield 77) 3 := by unfold dk; decide +kernel
theorem dX1_gives_75 : bk cX1_gives 75 78 82 (.if_icmp .ne 7) (7) := by unfold bk; decide +kernel
theorem dX1_gives_82 : dk cX1_gives 82 83 (.iconst 0) 1 := by unfold dk; decide +kernel
theorem dX1_gives_78 : dk cX1_gives 78 79 (.iconst 1) 1 := by unfold dk; decide +kernel
theorem dX1_gives_79 : bk cX1_gives 79 82 83 (.goto 4) (4) := by unfold bk; decide +kernel
theorem dX1_gives_83 : dk cX1_gives 83 84 (.ireturn) 1 := by unfold dk; decide +kernel
theorem dX1_gives_84 : dk cX1_gives 84 85 (.aload_n 0) 1 := by unfold dk; decide +kernel
theorem dX1_gives_85 : dk cX1_gives 85 88 (.getfield 21) 3 := by unfold dk; decide +kernel
theorem dX1_gives_88 : dk cX1_gives 88 89 (.iload_n 1) 1 := by unfold dk; decide +kernel
theorem dX1_gives_89 : dk cX1_gives 89 90 (.baload) 1 := by unfold dk; decide +kernel
theorem dX1_gives_90 : dk cX1_gives 90 91 (.ireturn) 1 := by unfold dk; decide +kernel
theorem dX1_gives_12 : dk cX1_gives 12 13 (.iconst 0) 1 := by unfold dk; decide +kernel
theorem dX1_gives_13 : dk cX1_gives 13 14 (.ireturn) 1 := by unfold dk; decide +kernel
theorem dX1_gives_9 : bk cX1_gives 9 12 14 (.ifCond .ne 5) (5) := by unfold bk; decide +kernel
def fX1_gives (E : En) (a0 : Nat) (a1 : Int32) (σ : Sg) : Option (Int32 × Sg) := tk (cd E a0) 1 (dr (rf E a0 4) E 104 (fun x1 => ck a1 (ln E x1) (dr (rf E x1 a1.toNatClampNeg) E 5 (fun x3 => bd (fX5_size E x3 σ) (fun r6 s4 => if ¬ r6 = 0 then (if (gi s4 a0 0) = (0 : Int32) then (bd (if a1 = (gi s4 a0 9) then (some ((0 : Int32), s4)) else (some ((1 : Int32), s4))) (fun w8 s9 => kb w8 (some (w8, s9)))) else (if (gi s4 a0 0) = (1 : Int32) then (bd (if (gi s4 a0 2) ≤ a1 then (some ((0 : Int32), s4)) else (some ((1 : Int32), s4))) (fun w12 s13 => bd (if ¬ w12 = (gi s13 a0 11) then (some ((0 : Int32), s13)) else (some ((1 : Int32), s13))) (fun w14 s15 => kb w14 (some (w14, s15))))) else ((dr (rf E a0 10) E 101 (fun x17 => ck a1 (ln E x17) (kb (gi s4 x17 a1.toNatClampNeg) (some ((gi s4 x17 a1.toNatClampNeg), s4)))))))) else (some ((0 : Int32), s4)))))))
set_option maxHeartbeats 4000000 in
set_option maxRecDepth 100000 in
theorem kX1_gives {l : Launch} {G : Gl} {E : En} {a0 : Nat} {a1 : Int32} {σ σ' : Sg} {r : Int32} : fX1_gives E a0 a1 σ = some (r, σ') → CT l yX1_gives cX1_gives 2 (some .boolean) ({ frames := 1, cells := 0, slots := 0, locals := 20 } : Room) [.ref (G.1 + a0), .int a1] G E σ (some (.int r)) σ' := by
  intro h
  refine CT_of (lv0 := [(0, .ref (G.1 + a0)), (1, .int a1)]) (by decide) (Nat.le_of_ble_eq_true rfl) rfl (fun κ hl hR hr C => ?_)
  have C : Cx κ G cX1_gives RX1 2 := C
  revert h
  unfold fX1_gives
  refine R_tk (fun ha0 => ?_)
  refine R_aload_n C 0 rfl dX1_gives_0 ?_
  refine R_dr (fun x1 rx1 cx1 => ?_)
  refine R_getr C fl1_17 rfl ha0 rx1 dX1_gives_1 ?_
  refine R_iload_n C 1 rfl dX1_gives_4 ?_
  refine R_ck (fun h2 => ?_)
  refine R_dr (fun x3 rx3 cx3 => ?_)
  refine R_aald4 C cx1 h2 rx3 dX1_gives_5 ?_
  refine R_bd (fun r6 s4 q5 => ?_)
  refine R_callVi [] [] C ml1_136 (kX5_size q5) (by rw [hR]; exact ⟨rfl, rfl, Nat.le_of_ble_eq_true rfl, Nat.le_of_ble_eq_true rfl, Nat.zero_le _, Nat.zero_le _⟩) cx3 rfl rfl (Nat.le_of_ble_eq_true rfl) dX1_gives_6 ?_
  refine B_if_ne C dX1_gives_9 ?_ ?_
  · refine R_aload_n C 0 rfl dX1_gives_14 ?_
    refine R_geti C fl1_55 rfl ha0 dX1_gives_15 ?_
    refine R_if (fun h7 => ?_) (fun h7 => ?_)
    · refine R_lks (off := 26) C dX1_gives_18 (by decide) (by rw [h7]; decide) (by decide) ?_
      refine R_iload_n C 1 rfl dX1_gives_44 ?_
      refine R_aload_n C 0 rfl dX1_gives_45 ?_
      refine R_geti C fl1_74 rfl ha0 dX1_gives_46 ?_
      refine R_bdK (fun (w : Int32) (s : Sg) => V κ G (QQ κ G E (some (.int r)) σ') E s (false, 0, 0) 57 [] [.int w]) (fun w8 s9 => ?_) (fun w8 s9 Kw8 => ?_)
      · refine R_kb (fun h10 => ?_)
        exact R_zret C hr h10 dX1_gives_57
      · refine B_icmp_eq C dX1_gives_49 ?_ ?_
        · refine R_iconst C (0) dX1_gives_56 (by decide) ?_
          refine R_loc (lv2 := []) [] rfl ?_
          exact R_end (fun (w : Int32) (s : Sg) => V κ G (QQ κ G E (some (.int r)) σ') E s (false, 0, 0) 57 [] [.int w]) Kw8
        · refine R_iconst C (1) dX1_gives_52 (by decide) ?_
          refine R_goto C dX1_gives_53 ?_
          refine R_loc (lv2 := []) [] rfl ?_
          exact R_end (fun (w : Int32) (s : Sg) => V κ G (QQ κ G E (some (.int r)) σ') E s (false, 0, 0) 57 [] [.int w]) Kw8
    refine R_if (fun h11 => ?_) (fun h11 => ?_)
    · refine R_lks (off := 40) C dX1_gives_18 (by decide) (by rw [h11]; decide) (by decide) ?_
      refine R_iload_n C 1 rfl dX1_gives_58 ?_
      refine R_aload_n C 0 rfl dX1_gives_59 ?_
      refine R_geti C fl1_9 rfl ha0 dX1_gives_60 ?_
      refine R_bdK (fun (w : Int32) (s : Sg) => V κ G (QQ κ G E (some (.int r)) σ') E s (false, 0, 0) 71 [(0, .ref (G.1 + a0))] [.int w]) (fun w12 s13 => ?_) (fun w12 s13 Kw12 => ?_)
      · refine R_aload_n C 0 rfl dX1_gives_71 ?_
        refine R_geti C fl1_77 rfl ha0 dX1_gives_72 ?_
        refine R_bdK (fun (w : Int32) (s : Sg) => V κ G (QQ κ G E (some (.int r)) σ') E s (false, 0, 0) 83 [] [.int w]) (fun w14 s15 => ?_) (fun w14 s15 Kw14 => ?_)
        · refine R_kb (fun h16 => ?_)
          exact R_zret C hr h16 dX1_gives_83
        · refine B_icmp_ne C dX1_gives_75 ?_ ?_
          · refine R_iconst C (0) dX1_gives_82 (by decide) ?_
            refine R_loc (lv2 := []) [] rfl ?_
            exact R_end (fun (w : Int32) (s : Sg) => V κ G (QQ κ G E (some (.int r)) σ') E s (false, 0, 0) 83 [] [.int w]) Kw14
          · refine R_iconst C (1) dX1_gives_78 (by decide) ?_
            refine R_goto C dX1_gives_79 ?_
            refine R_loc (lv2 := []) [] rfl ?_
            exact R_end (fun (w : Int32) (s : Sg) => V κ G (QQ κ G E (some (.int r)) σ') E s (false, 0, 0) 83 [] [.int w]) Kw14
      · refine B_icmp_ge C dX1_gives_63 ?_ ?_
        · refine R_iconst C (0) dX1_gives_70 (by decide) ?_
          refine R_loc (lv2 := [(0, .ref (G.1 + a0))]) [0] rfl ?_
          exact R_end (fun (w : Int32) (s : Sg) => V κ G (QQ κ G E (some (.int r)) σ') E s (false, 0, 0) 71 [(0, .ref (G.1 + a0))] [.int w]) Kw12
        · refine R_iconst C (1) dX1_gives_66 (by decide) ?_
          refine R_goto C dX1_gives_67 ?_
          refine R_loc (lv2 := [(0, .ref (G.1 + a0))]) [0] rfl ?_
          exact R_end (fun (w : Int32) (s : Sg) => V κ G (QQ κ G E (some (.int r)) σ') E s (false, 0, 0) 71 [(0, .ref (G.1 + a0))] [.int w]) Kw12
    · refine R_lks (off := 66) C dX1_gives_18 (by decide) (by show Op.lookupswitch.offset [(0, 26), (1, 40)] 66 _ = _; rw [lv_osw h7 (by decide)]; rw [lv_osw h11 (by decide)]; rfl) (by decide) ?_
      refine R_aload_n C 0 rfl dX1_gives_84 ?_
      refine R_dr (fun x17 rx17 cx17 => ?_)
      refine R_getr C fl1_21 rfl ha0 rx17 dX1_gives_85 ?_
      refine R_iload_n C 1 rfl dX1_gives_88 ?_
      refine R_ck (fun h18 => ?_)
      refine R_zald C cx17 h18 dX1_gives_89 ?_
      refine R_kb (fun h19 => ?_)
      exact R_zret C hr h19 dX1_gives_90
  · refine R_iconst C (0) dX1_gives_12 (by decide) ?_
    exact R_zret C hr (Or.inl rfl) dX1_gives_13
theorem dX1_look_0 : dk cX1_look 0 1 (.aload_n 0) 1 := by unfold dk; decide +kernel
theorem dX1_look_1 : dk cX1_look 1 2 (.iconst (-1)) 1 := by unfold dk; decide +kernel
theorem dX1_look_2 : dk cX1_look 2 5 (.putfield 139) 3 := by unfold dk; decide +kernel
theorem dX1_look_5 : dk cX1_look 5 6 (.iconst 0) 1 := by unfold dk; decide +kernel
theorem dX1_look_6 : dk cX1_look 6 7 (.istore_n 1) 1 := by unfold dk; decide +kernel
theorem dX1_look_7 : dk cX1_look 7 8 (.iload_n 1) 1 := by unfold dk; decide +kernel
theorem dX1_look_8 : dk cX1_look 8 9 (.aload_n 0) 1 := by unfold dk; decide +kernel
theorem dX1_look_9 : dk cX1_look 9 12 (.getfield 58) 3 := by unfold dk; decide +kernel
theorem dX1_look_15 : dk cX1_look 15 16 (.aload_n 0) 1 := by unfold dk; decide +kernel
theorem dX1_look_16 : dk cX1_look 16 19 (.getfield 29) 3 := by unfold dk; decide +kernel
theorem dX1_look_19 : dk cX1_look 19 20 (.iload_n 1) 1 := by unfold dk; decide +kernel
theorem dX1_look_20 : dk cX1_look 20 21 (.aload_n 0) 1 := by unfold dk; decide +kernel
theorem dX1_look_21 : dk cX1_look 21 22 (.iload_n 1) 1 := by unfold dk; decide +kernel
theorem dX1_look_22 : dk cX1_look 22 25 (.invokevirtual 142) 3 := by unfold dk; decide +kernel
theorem dX1_look_25 : bk cX1_look 25 28 45 (.ifCond .eq 20) (20) := by unfold bk; decide +kernel
theorem dX1_look_45 : dk cX1_look 45 47 (.bipush (-2)) 2 := by unfold dk; decide +kernel
theorem dX1_look_28 : dk cX1_look 28 29 (.aload_n 0) 1 := by unfold dk; decide +kernel
theorem dX1_look_29 : dk cX1_look 29 32 (.getfield 17) 3 := by unfold dk; decide +kernel
theorem dX1_look_32 : dk cX1_look 32 33 (.iload_n 1) 1 := by unfold dk; decide +kernel
theorem dX1_look_33 : dk cX1_look 33 34 (.aaload) 1 := by unfold dk; decide +kernel
theorem dX1_look_34 : dk cX1_look 34 35 (.iconst 0) 1 := by unfold dk; decide +kernel
theorem dX1_look_35 : dk cX1_look 35 36 (.aload_n 0) 1 := by unfold dk; decide +kernel
theorem dX1_look_36 : dk cX1_look 36 39 (.getfield 61) 3 := by unfold dk; decide +kernel
theorem dX1_look_39 : dk cX1_look 39 42 (.invokevirtual 146) 3 := by unfold dk; decide +kernel
theorem dX1_look_42 : bk cX1_look 42 45 47 (.goto 5) (5) := by unfold bk; decide +kernel
theorem dX1_look_47 : dk cX1_look 47 48 (.iastore) 1 := by unfold dk; decide +kernel
theorem dX1_look_48 : dk cX1_look 48 49 (.aload_n 0) 1 := by unfold dk; decide +kernel
theorem dX1_look_49 : dk cX1_look 49 52 (.getfield 139) 3 := by unfold dk; decide +kernel
theorem dX1_look_52 : dk cX1_look 52 53 (.iconst (-1)) 1 := by unfold dk; decide +kernel
theorem dX1_look_53 : bk cX1_look 53 56 75 (.if_icmp .ne 22) (22) := by unfold bk; decide +kernel
theorem dX1_look_56 : dk cX1_look 56 57 (.aload_n 0) 1 := by unfold dk; decide +kernel
theorem dX1_look_57 : dk cX1_look 57 60 (.getfield 29) 3 := by unfold dk; decide +kernel
theorem dX1_look_60 : dk cX1_look 60 61 (.iload_n 1) 1 := by unfold dk; decide +kernel
theorem dX1_look_61 : dk cX1_look 61 62 (.iaload) 1 := by unfold dk; decide +kernel
theorem dX1_look_65 : dk cX1_look 65 66 (.aload_n 0) 1 := by unfold dk; decide +kernel
theorem dX1_look_66 : dk cX1_look 66 67 (.aload_n 0) 1 := by unfold dk; decide +kernel
theorem dX1_look_67 : dk cX1_look 67 70 (.getfield 29) 3 := by unfold dk; decide +kernel
theorem dX1_look_70 : dk cX1_look 70 71 (.iload_n 1) 1 := by unfold dk; decide +kernel
theorem dX1_look_71 : dk cX1_look 71 72 (.iaload) 1 := by unfold dk; decide +kernel
theorem dX1_look_72 : dk cX1_look 72 75 (.putfield 139) 3 := by unfold dk; decide +kernel
theorem dX1_look_62 : bk cX1_look 62 65 75 (.ifCond .lt 13) (13) := by unfold bk; decide +kernel
theorem dX1_look_75 : dk cX1_look 75 78 (.iinc 1 1) 3 := by unfold dk; decide +kernel
theorem dX1_look_78 : bk cX1_look 78 81 7 (.goto (-71)) (-71) := by unfold bk; decide +kernel
theorem dX1_look_12 : bk cX1_look 12 15 81 (.if_icmp .ge 69) (69) := by unfold bk; decide +kernel
theorem dX1_look_81 : dk cX1_look 81 82 (.aload_n 0) 1 := by unfold dk; decide +kernel
theorem dX1_look_82 : dk cX1_look 82 83 (.aload_n 0) 1 := by unfold dk; decide +kernel
theorem dX1_look_83 : dk cX1_look 83 86 (.getfield 61) 3 := by unfold dk; decide +kernel
theorem dX1_look_86 : bk cX1_look 86 89 112 (.ifCond .eq 26) (26) := by unfold bk; decide +kernel
theorem dX1_look_112 : dk cX1_look 112 113 (.iconst 0) 1 := by unfold dk; decide +kernel
theorem dX1_look_89 : dk cX1_look 89 90 (.aload_n 0) 1 := by unfold dk; decide +kernel
theorem dX1_look_90 : dk cX1_look 90 93 (.getfield 139) 3 := by unfold dk; decide +kernel
theorem dX1_look_93 : dk cX1_look 93 94 (.iconst (-1)) 1 := by unfold dk; decide +kernel
theorem dX1_look_97 : dk cX1_look 97 98 (.aload_n 0) 1 := by unfold dk; decide +kernel
theorem dX1_look_98 : dk cX1_look 98 99 (.aload_n 0) 1 := by unfold dk; decide +kernel
theorem dX1_look_99 : dk cX1_look 99 102 (.getfield 139) 3 := by unfold dk; decide +kernel
theorem dX1_look_102 : dk cX1_look 102 105 (.invokevirtual 149) 3 := by unfold dk; decide +kernel
theorem dX1_look_108 : dk cX1_look 108 109 (.iconst 1) 1 := by unfold dk; decide +kernel
theorem dX1_look_109 : bk cX1_look 109 112 113 (.goto 4) (4) := by unfold bk; decide +kernel
theorem dX1_look_105 : bk cX1_look 105 108 112 (.ifCond .ne 7) (7) := by unfold bk; decide +kernel
theorem dX1_look_94 : bk cX1_look 94 97 112 (.if_icmp .eq 18) (18) := by unfold bk; decide +kernel
theorem dX1_look_113 : dk cX1_look 113 116 (.putfield 152) 3 := by unfold dk; decide +kernel
theorem dX1_look_116 : dk cX1_look 116 117 (.return_) 1 := by unfold dk; decide +kernel
def bX1_look_7 (E : En) (a0 : Nat) (rec : Int32 → Sg → Option ((Int32) × Sg)) (v2 : Int32) (s3 : Sg) : Option ((Int32) × Sg) := if (gi s3 a0 1) ≤ v2 then (some (v2, s3)) else (dr (rf E a0 13) E 100 (fun x8 => bd (fX1_gives E a0 v2 s3) (fun r11 s9 => bd (if r11 = 0 then (some ((-2 : Int32), s9)) else (dr (rf E a0 4) E 104 (fun x14 => ck v2 (ln E x14) (dr (rf E x14 v2.toNatClampNeg) E 5 (fun x16 => bd (fX5_at E x16 (0 : Int32) (gi s9 a0 3) s9) (fun r19 s17 => some (r19, s17))))))) (fun w12 s13 => ck v2 (ln E x8) (ss (si s13 x8 v2.toNatClampNeg w12) (fun s21 => bd (if ¬ (gi s21 a0 14) = (-1 : Int32) then (some ((), s21)) else (ck v2 (ln E x8) (if (gi s21 x8 v2.toNatClampNeg) < 0 then (some ((), s21)) else (ck v2 (ln E x8) (ss (si s21 a0 14 (gi s21 x8 v2.toNatClampNeg)) (fun s26 => some ((), s26))))))) (fun w22 s23 => lt (v2 + (1 : Int32)) (fun v27 => rec v27 s23))))))))
def fX1_look (E : En) (a0 : Nat) (σ : Sg) : Option (Sg) := tk (cd E a0) 1 (ss (si σ a0 14 (-1 : Int32)) (fun s1 => bd (fx (fun rec a => bX1_look_7 E a0 (fun u0 t => rec (u0, t)) a.1 a.2) FU ((0 : Int32), s1)) (fun o28 s29 => bd (if (gi s29 a0 3) = 0 then (some ((0 : Int32), s29)) else (if (gi s29 a0 14) = (-1 : Int32) then (some ((0 : Int32), s29)) else (bd (fX1_isDown E a0 (gi s29 a0 14) s29) (fun r34 s32 => if ¬ r34 = 0 then (some ((0 : Int32), s32)) else (some ((1 : Int32), s32)))))) (fun w30 s31 => kb w30 (ss (si s31 a0 15 w30) (fun s36 => some s36))))))
set_option maxHeartbeats 4000000 in
set_option maxRecDepth 100000 in
theorem kX1_look {l : Launch} {G : Gl} {E : En} {a0 : Nat} {σ σ' : Sg} : fX1_look E a0 σ = some σ' → CT l yX1_look cX1_look 2 none ({ frames := 2, cells := 0, slots := 0, locals := 42 } : Room) [.ref (G.1 + a0)] G E σ none σ' := by
  intro h
  refine CT_of (lv0 := [(0, .ref (G.1 + a0))]) (by decide) (Nat.le_of_ble_eq_true rfl) rfl (fun κ hl hR hr C => ?_)
  have C : Cx κ G cX1_look RX1 2 := C
  revert h
  unfold fX1_look
  refine R_tk (fun ha0 => ?_)
  refine R_aload_n C 0 rfl dX1_look_0 ?_
  refine R_iconst C (-1) dX1_look_1 (by decide) ?_
  refine S_puti C fl1_139 rfl ha0 rfl rfl dX1_look_2 (fun s1 => ?_)
  refine R_iconst C (0) dX1_look_5 (by decide) ?_
  refine R_istore_n (lv2 := [(1, .int (0 : Int32)), (0, .ref (G.1 + a0))]) C dX1_look_6 rfl (by decide) rfl ?_
  refine R_loc (lv2 := [(0, .ref (G.1 + a0)), (1, .int (0 : Int32))]) [1, 0] rfl ?_
  refine R_loop (fun (a : (Int32) × Sg) => V κ G (QQ κ G E none σ') E a.2 (false, 0, 0) 7 [(0, .ref (G.1 + a0)), (1, .int a.1)] []) (fun (o : (Int32)) (s : Sg) => V κ G (QQ κ G E none σ') E s (false, 0, 0) 81 [(0, .ref (G.1 + a0))] []) ((0 : Int32), s1) (fun o28 s29 => ?_) (fun rec I7 a b5 s6 K4 => ?_)
  · refine R_aload_n C 0 rfl dX1_look_81 ?_
    refine R_aload_n C 0 rfl dX1_look_82 ?_
    refine R_geti C fl1_61 rfl ha0 dX1_look_83 ?_
    refine R_bdK (fun (w : Int32) (s : Sg) => V κ G (QQ κ G E none σ') E s (false, 0, 0) 113 [] [.int w, .ref (G.1 + a0)]) (fun w30 s31 => ?_) (fun w30 s31 Kw30 => ?_)
    · refine R_kb (fun h35 => ?_)
      refine S_puti C fl1_152 rfl ha0 (nb h35) (fb h35) dX1_look_113 (fun s36 => ?_)
      exact R_vret C hr dX1_look_116
    · refine B_if_eq C dX1_look_86 ?_ ?_
      · refine R_iconst C (0) dX1_look_112 (by decide) ?_
        refine R_loc (lv2 := []) [] rfl ?_
        exact R_end (fun (w : Int32) (s : Sg) => V κ G (QQ κ G E none σ') E s (false, 0, 0) 113 [] [.int w, .ref (G.1 + a0)]) Kw30
      · refine R_aload_n C 0 rfl dX1_look_89 ?_
        refine R_geti C fl1_139 rfl ha0 dX1_look_90 ?_
        refine R_iconst C (-1) dX1_look_93 (by decide) ?_
        refine B_icmp_eq C dX1_look_94 ?_ ?_
        · refine R_iconst C (0) dX1_look_112 (by decide) ?_
          refine R_loc (lv2 := []) [] rfl ?_
          exact R_end (fun (w : Int32) (s : Sg) => V κ G (QQ κ G E none σ') E s (false, 0, 0) 113 [] [.int w, .ref (G.1 + a0)]) Kw30
        · refine R_aload_n C 0 rfl dX1_look_97 ?_
          refine R_aload_n C 0 rfl dX1_look_98 ?_
          refine R_geti C fl1_139 rfl ha0 dX1_look_99 ?_
          refine R_bd (fun r34 s32 q33 => ?_)
          refine R_callVi [.int (gi s29 a0 14)] [.ref (G.1 + a0)] C ml1_149 (kX1_isDown q33) (by rw [hR]; exact ⟨rfl, rfl, Nat.le_of_ble_eq_true rfl, Nat.le_of_ble_eq_true rfl, Nat.zero_le _, Nat.zero_le _⟩) ha0 rfl rfl (Nat.le_of_ble_eq_true rfl) dX1_look_102 ?_
          refine B_if_ne C dX1_look_105 ?_ ?_
          · refine R_iconst C (0) dX1_look_112 (by decide) ?_
            refine R_loc (lv2 := []) [] rfl ?_
            exact R_end (fun (w : Int32) (s : Sg) => V κ G (QQ κ G E none σ') E s (false, 0, 0) 113 [] [.int w, .ref (G.1 + a0)]) Kw30
          · refine R_iconst C (1) dX1_look_108 (by decide) ?_
            refine R_goto C dX1_look_109 ?_
            refine R_loc (lv2 := []) [] rfl ?_
            exact R_end (fun (w : Int32) (s : Sg) => V κ G (QQ κ G E none σ') E s (false, 0, 0) 113 [] [.int w, .ref (G.1 + a0)]) Kw30
  · obtain ⟨v2, s3⟩ := a
    show bX1_look_7 E a0 (fun u0 t => rec (u0, t)) v2 s3 = some (b5, s6) → V κ G (QQ κ G E none σ') E s3 (false, 0, 0) 7 [(0, .ref (G.1 + a0)), (1, .int v2)] []
    unfold bX1_look_7
    refine R_iload_n C 1 rfl dX1_look_7 ?_
    refine R_aload_n C 0 rfl dX1_look_8 ?_
    refine R_geti C fl1_58 rfl ha0 dX1_look_9 ?_
    refine B_icmp_ge C dX1_look_12 ?_ ?_
    · refine R_loc (lv2 := [(0, .ref (G.1 + a0))]) [0] rfl ?_
      exact R_end (fun (o : (Int32)) (s : Sg) => V κ G (QQ κ G E none σ') E s (false, 0, 0) 81 [(0, .ref (G.1 + a0))] []) K4
    · refine R_aload_n C 0 rfl dX1_look_15 ?_
      refine R_dr (fun x8 rx8 cx8 => ?_)
      refine R_getr C fl1_29 rfl ha0 rx8 dX1_look_16 ?_
      refine R_iload_n C 1 rfl dX1_look_19 ?_
      refine R_aload_n C 0 rfl dX1_look_20 ?_
      refine R_iload_n C 1 rfl dX1_look_21 ?_
      refine R_bd (fun r11 s9 q10 => ?_)
      refine R_callVi [.int v2] [.int v2, .ref (G.1 + x8)] C ml1_142 (kX1_gives q10) (by rw [hR]; exact ⟨rfl, rfl, Nat.le_of_ble_eq_true rfl, Nat.le_of_ble_eq_true rfl, Nat.zero_le _, Nat.zero_le _⟩) ha0 rfl rfl (Nat.le_of_ble_eq_true rfl) dX1_look_22 ?_
      refine R_bdK (fun (w : Int32) (s : Sg) => V κ G (QQ κ G E none σ') E s (false, 0, 0) 47 [(0, .ref (G.1 + a0)), (1, .int v2)] [.int w, .int v2, .ref (G.1 + x8)]) (fun w12 s13 => ?_) (fun w12 s13 Kw12 => ?_)
      · refine R_ck (fun h20 => ?_)
        refine S_iast C cx8 h20 dX1_look_47 (fun s21 => ?_)
        refine R_aload_n C 0 rfl dX1_look_48 ?_
        refine R_geti C fl1_139 rfl ha0 dX1_look_49 ?_
        refine R_iconst C (-1) dX1_look_52 (by decide) ?_
        refine R_bdK (fun (w : Unit) (s : Sg) => V κ G (QQ κ G E none σ') E s (false, 0, 0) 75 [(0, .ref (G.1 + a0)), (1, .int v2)] []) (fun w22 s23 => ?_) (fun w22 s23 Kw22 => ?_)
        · refine S_iinc (fun v27 => [(1, .int v27), (0, .ref (G.1 + a0))]) 1 C dX1_look_75 rfl (by decide) (by decide) (fun _ => rfl) (fun v27 => ?_)
          refine R_goto C dX1_look_78 ?_
          refine R_loc (lv2 := [(0, .ref (G.1 + a0)), (1, .int v27)]) [1, 0] rfl ?_
          exact I7 (v27, s23) b5 s6 K4
        · refine B_icmp_ne C dX1_look_53 ?_ ?_
          · exact R_end (fun (w : Unit) (s : Sg) => V κ G (QQ κ G E none σ') E s (false, 0, 0) 75 [(0, .ref (G.1 + a0)), (1, .int v2)] []) Kw22
          · refine R_aload_n C 0 rfl dX1_look_56 ?_
            refine R_getr C fl1_29 rfl ha0 rx8 dX1_look_57 ?_
            refine R_iload_n C 1 rfl dX1_look_60 ?_
            refine R_ck (fun h24 => ?_)
            refine R_iald C cx8 h24 dX1_look_61 ?_
            refine B_if_lt C dX1_look_62 ?_ ?_
            · exact R_end (fun (w : Unit) (s : Sg) => V κ G (QQ κ G E none σ') E s (false, 0, 0) 75 [(0, .ref (G.1 + a0)), (1, .int v2)] []) Kw22
            · refine R_aload_n C 0 rfl dX1_look_65 ?_
              refine R_aload_n C 0 rfl dX1_look_66 ?_
              refine R_getr C fl1_29 rfl ha0 rx8 dX1_look_67 ?_
              refine R_iload_n C 1 rfl dX1_look_70 ?_
              refine R_ck (fun h25 => ?_)
              refine R_iald C cx8 h25 dX1_look_71 ?_
              refine S_puti C fl1_139 rfl ha0 rfl rfl dX1_look_72 (fun s26 => ?_)
              exact R_end (fun (w : Unit) (s : Sg) => V κ G (QQ κ G E none σ') E s (false, 0, 0) 75 [(0, .ref (G.1 + a0)), (1, .int v2)] []) Kw22
      · refine B_if_eq C dX1_look_25 ?_ ?_
        · refine R_bipush C (-2) dX1_look_45 (by decide) ?_
          exact R_end (fun (w : Int32) (s : Sg) => V κ G (QQ κ G E none σ') E s (false, 0, 0) 47 [(0, .ref (G.1 + a0)), (1, .int v2)] [.int w, .int v2, .ref (G.1 + x8)]) Kw12
        · refine R_aload_n C 0 rfl dX1_look_28 ?_
          refine R_dr (fun x14 rx14 cx14 => ?_)
          refine R_getr C fl1_17 rfl ha0 rx14 dX1_look_29 ?_
          refine R_iload_n C 1 rfl dX1_look_32 ?_
          refine R_ck (fun h15 => ?_)
          refine R_dr (fun x16 rx16 cx16 => ?_)
          refine R_aald4 C cx14 h15 rx16 dX1_look_33 ?_
          refine R_iconst C (0) dX1_look_34 (by decide) ?_
          refine R_aload_n C 0 rfl dX1_look_35 ?_
          refine R_geti C fl1_61 rfl ha0 dX1_look_36 ?_
          refine R_bd (fun r19 s17 q18 => ?_)
          refine R_callVi [.int (0 : Int32), .int (gi s9 a0 3)] [.int v2, .ref (G.1 + x8)] C ml1_146 (kX5_at q18) (by rw [hR]; exact ⟨rfl, rfl, Nat.le_of_ble_eq_true rfl, Nat.le_of_ble_eq_true rfl, Nat.zero_le _, Nat.zero_le _⟩) cx16 rfl rfl (Nat.le_of_ble_eq_true rfl) dX1_look_39 ?_
          refine R_goto C dX1_look_42 ?_
          exact R_end (fun (w : Int32) (s : Sg) => V κ G (QQ κ G E none σ') E s (false, 0, 0) 47 [(0, .ref (G.1 + a0)), (1, .int v2)] [.int w, .int v2, .ref (G.1 + x8)]) Kw12
theorem dX1_sizeOf_0 : dk cX1_sizeOf 0 1 (.iload_n 1) 1 := by unfold dk; decide +kernel
theorem dX1_sizeOf_1 : bk cX1_sizeOf 1 4 21 (.ifCond .lt 20) (20) := by unfold bk; decide +kernel
theorem dX1_sizeOf_21 : dk cX1_sizeOf 21 22 (.iconst 0) 1 := by unfold dk; decide +kernel
theorem dX1_sizeOf_4 : dk cX1_sizeOf 4 5 (.iload_n 1) 1 := by unfold dk; decide +kernel
theorem dX1_sizeOf_5 : dk cX1_sizeOf 5 6 (.aload_n 0) 1 := by unfold dk; decide +kernel
theorem dX1_sizeOf_6 : dk cX1_sizeOf 6 9 (.getfield 65) 3 := by unfold dk; decide +kernel
theorem dX1_sizeOf_12 : dk cX1_sizeOf 12 13 (.aload_n 0) 1 := by unfold dk; decide +kernel
theorem dX1_sizeOf_13 : dk cX1_sizeOf 13 16 (.getfield 48) 3 := by unfold dk; decide +kernel
theorem dX1_sizeOf_16 : dk cX1_sizeOf 16 17 (.iload_n 1) 1 := by unfold dk; decide +kernel
theorem dX1_sizeOf_17 : dk cX1_sizeOf 17 18 (.iaload) 1 := by unfold dk; decide +kernel
theorem dX1_sizeOf_18 : bk cX1_sizeOf 18 21 22 (.goto 4) (4) := by unfold bk; decide +kernel
theorem dX1_sizeOf_9 : bk cX1_sizeOf 9 12 21 (.if_icmp .ge 12) (12) := by unfold bk; decide +kernel
theorem dX1_sizeOf_22 : dk cX1_sizeOf 22 23 (.ireturn) 1 := by unfold dk; decide +kernel
def fX1_sizeOf (E : En) (a0 : Nat) (a1 : Int32) (σ : Sg) : Option (Int32 × Sg) := tk (cd E a0) 1 (bd (if a1 < 0 then (some ((0 : Int32), σ)) else (if (gi σ a0 7) ≤ a1 then (some ((0 : Int32), σ)) else (dr (rf E a0 5) E 100 (fun x3 => ck a1 (ln E x3) (some ((gi σ x3 a1.toNatClampNeg), σ)))))) (fun w1 s2 => some (w1, s2)))
set_option maxHeartbeats 4000000 in
set_option maxRecDepth 100000 in
theorem kX1_sizeOf {l : Launch} {G : Gl} {E : En} {a0 : Nat} {a1 : Int32} {σ σ' : Sg} {r : Int32} : fX1_sizeOf E a0 a1 σ = some (r, σ') → CT l yX1_sizeOf cX1_sizeOf 2 (some .int) ({ frames := 0, cells := 0, slots := 0, locals := 0 } : Room) [.ref (G.1 + a0), .int a1] G E σ (some (.int r)) σ' := by
  intro h
  refine CT_of (lv0 := [(0, .ref (G.1 + a0)), (1, .int a1)]) (by decide) (Nat.le_of_ble_eq_true rfl) rfl (fun κ hl hR hr C => ?_)
  have C : Cx κ G cX1_sizeOf RX1 2 := C
  revert h
  unfold fX1_sizeOf
  refine R_tk (fun ha0 => ?_)
  refine R_iload_n C 1 rfl dX1_sizeOf_0 ?_
  refine R_bdK (fun (w : Int32) (s : Sg) => V κ G (QQ κ G E (some (.int r)) σ') E s (false, 0, 0) 22 [] [.int w]) (fun w1 s2 => ?_) (fun w1 s2 Kw1 => ?_)
  · exact R_iret C hr dX1_sizeOf_22
  · refine B_if_lt C dX1_sizeOf_1 ?_ ?_
    · refine R_iconst C (0) dX1_sizeOf_21 (by decide) ?_
      refine R_loc (lv2 := []) [] rfl ?_
      exact R_end (fun (w : Int32) (s : Sg) => V κ G (QQ κ G E (some (.int r)) σ') E s (false, 0, 0) 22 [] [.int w]) Kw1
    · refine R_iload_n C 1 rfl dX1_sizeOf_4 ?_
      refine R_aload_n C 0 rfl dX1_sizeOf_5 ?_
      refine R_geti C fl1_65 rfl ha0 dX1_sizeOf_6 ?_
      refine B_icmp_ge C dX1_sizeOf_9 ?_ ?_
      · refine R_iconst C (0) dX1_sizeOf_21 (by decide) ?_
        refine R_loc (lv2 := []) [] rfl ?_
        exact R_end (fun (w : Int32) (s : Sg) => V κ G (QQ κ G E (some (.int r)) σ') E s (false, 0, 0) 22 [] [.int w]) Kw1
      · refine R_aload_n C 0 rfl dX1_sizeOf_12 ?_
        refine R_dr (fun x3 rx3 cx3 => ?_)
        refine R_getr C fl1_48 rfl ha0 rx3 dX1_sizeOf_13 ?_
        refine R_iload_n C 1 rfl dX1_sizeOf_16 ?_
        refine R_ck (fun h4 => ?_)
        refine R_iald C cx3 h4 dX1_sizeOf_17 ?_
        refine R_goto C dX1_sizeOf_18 ?_
        refine R_loc (lv2 := []) [] rfl ?_
        exact R_end (fun (w : Int32) (s : Sg) => V κ G (QQ κ G E (some (.int r)) σ') E s (false, 0, 0) 22 [] [.int w]) Kw1
theorem dX1_givers_0 : dk cX1_givers 0 1 (.iconst 0) 1 := by unfold dk; decide +kernel
theorem dX1_givers_1 : dk cX1_givers 1 2 (.istore_n 1) 1 := by unfold dk; decide +kernel
theorem dX1_givers_2 : dk cX1_givers 2 3 (.iconst 0) 1 := by unfold dk; decide +kernel
theorem dX1_givers_3 : dk cX1_givers 3 4 (.istore_n 2) 1 := by unfold dk; decide +kernel
theorem dX1_givers_4 : dk cX1_givers 4 5 (.iload_n 2) 1 := by unfold dk; decide +kernel
theorem dX1_givers_5 : dk cX1_givers 5 6 (.aload_n 0) 1 := by unfold dk; decide +kernel
theorem dX1_givers_6 : dk cX1_givers 6 9 (.getfield 58) 3 := by unfold dk; decide +kernel
theorem dX1_givers_12 : dk cX1_givers 12 13 (.aload_n 0) 1 := by unfold dk; decide +kernel
theorem dX1_givers_13 : dk cX1_givers 13 14 (.iload_n 2) 1 := by unfold dk; decide +kernel
theorem dX1_givers_14 : dk cX1_givers 14 17 (.invokevirtual 142) 3 := by unfold dk; decide +kernel
theorem dX1_givers_17 : bk cX1_givers 17 20 23 (.ifCond .eq 6) (6) := by unfold bk; decide +kernel
theorem dX1_givers_20 : dk cX1_givers 20 23 (.iinc 1 1) 3 := by unfold dk; decide +kernel
theorem dX1_givers_23 : dk cX1_givers 23 26 (.iinc 2 1) 3 := by unfold dk; decide +kernel
theorem dX1_givers_26 : bk cX1_givers 26 29 4 (.goto (-22)) (-22) := by unfold bk; decide +kernel
theorem dX1_givers_9 : bk cX1_givers 9 12 29 (.if_icmp .ge 20) (20) := by unfold bk; decide +kernel
theorem dX1_givers_29 : dk cX1_givers 29 30 (.iload_n 1) 1 := by unfold dk; decide +kernel
theorem dX1_givers_30 : dk cX1_givers 30 31 (.ireturn) 1 := by unfold dk; decide +kernel
def bX1_givers_4 (E : En) (a0 : Nat) (rec : Int32 → Int32 → Sg → Option ((Int32 × Int32) × Sg)) (v1 : Int32) (v2 : Int32) (s3 : Sg) : Option ((Int32 × Int32) × Sg) := if (gi s3 a0 1) ≤ v2 then (some ((v1, v2), s3)) else (bd (fX1_gives E a0 v2 s3) (fun r10 s8 => bd (if r10 = 0 then (some (v1, s8)) else (lt (v1 + (1 : Int32)) (fun v13 => some (v13, s8)))) (fun w11 s12 => lt (v2 + (1 : Int32)) (fun v14 => rec w11 v14 s12))))
def fX1_givers (E : En) (a0 : Nat) (σ : Sg) : Option (Int32 × Sg) := tk (cd E a0) 1 (bd (fx (fun rec a => bX1_givers_4 E a0 (fun u0 u1 t => rec ((u0, u1), t)) a.1.1 a.1.2 a.2) FU (((0 : Int32), (0 : Int32)), σ)) (fun o15 s16 => some (o15.1, s16)))
set_option maxHeartbeats 4000000 in
set_option maxRecDepth 100000 in
theorem kX1_givers {l : Launch} {G : Gl} {E : En} {a0 : Nat} {σ σ' : Sg} {r : Int32} : fX1_givers E a0 σ = some (r, σ') → CT l yX1_givers cX1_givers 3 (some .int) ({ frames := 2, cells := 0, slots := 0, locals := 41 } : Room) [.ref (G.1 + a0)] G E σ (some (.int r)) σ' := by
  intro h
  refine CT_of (lv0 := [(0, .ref (G.1 + a0))]) (by decide) (Nat.le_of_ble_eq_true rfl) rfl (fun κ hl hR hr C => ?_)
  have C : Cx κ G cX1_givers RX1 3 := C
  revert h
  unfold fX1_givers
  refine R_tk (fun ha0 => ?_)
  refine R_iconst C (0) dX1_givers_0 (by decide) ?_
  refine R_istore_n (lv2 := [(1, .int (0 : Int32)), (0, .ref (G.1 + a0))]) C dX1_givers_1 rfl (by decide) rfl ?_
  refine R_iconst C (0) dX1_givers_2 (by decide) ?_
  refine R_istore_n (lv2 := [(2, .int (0 : Int32)), (1, .int (0 : Int32)), (0, .ref (G.1 + a0))]) C dX1_givers_3 rfl (by decide) rfl ?_
  refine R_loc (lv2 := [(0, .ref (G.1 + a0)), (1, .int (0 : Int32)), (2, .int (0 : Int32))]) [2, 1, 0] rfl ?_
  refine R_loop (fun (a : (Int32 × Int32) × Sg) => V κ G (QQ κ G E (some (.int r)) σ') E a.2 (false, 0, 0) 4 [(0, .ref (G.1 + a0)), (1, .int a.1.1), (2, .int a.1.2)] []) (fun (o : (Int32 × Int32)) (s : Sg) => V κ G (QQ κ G E (some (.int r)) σ') E s (false, 0, 0) 29 [(1, .int o.1)] []) (((0 : Int32), (0 : Int32)), σ) (fun o15 s16 => ?_) (fun rec I7 a b5 s6 K4 => ?_)
  · refine R_iload_n C 0 rfl dX1_givers_29 ?_
    exact R_iret C hr dX1_givers_30
  · obtain ⟨⟨v1, v2⟩, s3⟩ := a
    show bX1_givers_4 E a0 (fun u0 u1 t => rec ((u0, u1), t)) v1 v2 s3 = some (b5, s6) → V κ G (QQ κ G E (some (.int r)) σ') E s3 (false, 0, 0) 4 [(0, .ref (G.1 + a0)), (1, .int v1), (2, .int v2)] []
    unfold bX1_givers_4
    refine R_iload_n C 2 rfl dX1_givers_4 ?_
    refine R_aload_n C 0 rfl dX1_givers_5 ?_
    refine R_geti C fl1_58 rfl ha0 dX1_givers_6 ?_
    refine B_icmp_ge C dX1_givers_9 ?_ ?_
    · refine R_loc (lv2 := [(1, .int v1)]) [1] rfl ?_
      exact R_end (fun (o : (Int32 × Int32)) (s : Sg) => V κ G (QQ κ G E (some (.int r)) σ') E s (false, 0, 0) 29 [(1, .int o.1)] []) K4
    · refine R_aload_n C 0 rfl dX1_givers_12 ?_
      refine R_iload_n C 2 rfl dX1_givers_13 ?_
      refine R_bd (fun r10 s8 q9 => ?_)
      refine R_callVi [.int v2] [] C ml1_142 (kX1_gives q9) (by rw [hR]; exact ⟨rfl, rfl, Nat.le_of_ble_eq_true rfl, Nat.le_of_ble_eq_true rfl, Nat.zero_le _, Nat.zero_le _⟩) ha0 rfl rfl (Nat.le_of_ble_eq_true rfl) dX1_givers_14 ?_
      refine R_bdK (fun (w : Int32) (s : Sg) => V κ G (QQ κ G E (some (.int r)) σ') E s (false, 0, 0) 23 [(0, .ref (G.1 + a0)), (2, .int v2), (1, .int w)] []) (fun w11 s12 => ?_) (fun w11 s12 Kw11 => ?_)
      · refine S_iinc (fun v14 => [(2, .int v14), (0, .ref (G.1 + a0)), (1, .int w11)]) 1 C dX1_givers_23 rfl (by decide) (by decide) (fun _ => rfl) (fun v14 => ?_)
        refine R_goto C dX1_givers_26 ?_
        refine R_loc (lv2 := [(0, .ref (G.1 + a0)), (1, .int w11), (2, .int v14)]) [1, 2, 0] rfl ?_
        exact I7 ((w11, v14), s12) b5 s6 K4
      · refine B_if_eq C dX1_givers_17 ?_ ?_
        · refine R_loc (lv2 := [(0, .ref (G.1 + a0)), (2, .int v2), (1, .int v1)]) [0, 2, 1] rfl ?_
          exact R_end (fun (w : Int32) (s : Sg) => V κ G (QQ κ G E (some (.int r)) σ') E s (false, 0, 0) 23 [(0, .ref (G.1 + a0)), (2, .int v2), (1, .int w)] []) Kw11
        · refine S_iinc (fun v13 => [(1, .int v13), (0, .ref (G.1 + a0)), (2, .int v2)]) 1 C dX1_givers_20 rfl (by decide) (by decide) (fun _ => rfl) (fun v13 => ?_)
          refine R_loc (lv2 := [(0, .ref (G.1 + a0)), (2, .int v2), (1, .int v13)]) [1, 2, 0] rfl ?_
          exact R_end (fun (w : Int32) (s : Sg) => V κ G (QQ κ G E (some (.int r)) σ') E s (false, 0, 0) 23 [(0, .ref (G.1 + a0)), (2, .int v2), (1, .int w)] []) Kw11
theorem dX1_firstToWrite_0 : dk cX1_firstToWrite 0 1 (.aload_n 0) 1 := by unfold dk; decide +kernel
theorem dX1_firstToWrite_1 : dk cX1_firstToWrite 1 4 (.getfield 77) 3 := by unfold dk; decide +kernel
theorem dX1_firstToWrite_4 : bk cX1_firstToWrite 4 7 14 (.ifCond .eq 10) (10) := by unfold bk; decide +kernel
theorem dX1_firstToWrite_14 : dk cX1_firstToWrite 14 15 (.iconst 0) 1 := by unfold dk; decide +kernel
theorem dX1_firstToWrite_7 : dk cX1_firstToWrite 7 8 (.aload_n 0) 1 := by unfold dk; decide +kernel
theorem dX1_firstToWrite_8 : dk cX1_firstToWrite 8 11 (.getfield 9) 3 := by unfold dk; decide +kernel
theorem dX1_firstToWrite_11 : bk cX1_firstToWrite 11 14 15 (.goto 4) (4) := by unfold bk; decide +kernel
theorem dX1_firstToWrite_15 : dk cX1_firstToWrite 15 16 (.ireturn) 1 := by unfold dk; decide +kernel
def fX1_firstToWrite (E : En) (a0 : Nat) (σ : Sg) : Option (Int32 × Sg) := tk (cd E a0) 1 (bd (if (gi σ a0 11) = 0 then (some ((0 : Int32), σ)) else (some ((gi σ a0 2), σ))) (fun w1 s2 => some (w1, s2)))
set_option maxHeartbeats 4000000 in
set_option maxRecDepth 100000 in
theorem kX1_firstToWrite {l : Launch} {G : Gl} {E : En} {a0 : Nat} {σ σ' : Sg} {r : Int32} : fX1_firstToWrite E a0 σ = some (r, σ') → CT l yX1_firstToWrite cX1_firstToWrite 1 (some .int) ({ frames := 0, cells := 0, slots := 0, locals := 0 } : Room) [.ref (G.1 + a0)] G E σ (some (.int r)) σ' := by
  intro h
  refine CT_of (lv0 := [(0, .ref (G.1 + a0))]) (by decide) (Nat.le_of_ble_eq_true rfl) rfl (fun κ hl hR hr C => ?_)
  have C : Cx κ G cX1_firstToWrite RX1 1 := C
  revert h
  unfold fX1_firstToWrite
  refine R_tk (fun ha0 => ?_)
  refine R_aload_n C 0 rfl dX1_firstToWrite_0 ?_
  refine R_geti C fl1_77 rfl ha0 dX1_firstToWrite_1 ?_
  refine R_bdK (fun (w : Int32) (s : Sg) => V κ G (QQ κ G E (some (.int r)) σ') E s (false, 0, 0) 15 [] [.int w]) (fun w1 s2 => ?_) (fun w1 s2 Kw1 => ?_)
  · exact R_iret C hr dX1_firstToWrite_15
  · refine B_if_eq C dX1_firstToWrite_4 ?_ ?_
    · refine R_iconst C (0) dX1_firstToWrite_14 (by decide) ?_
      refine R_loc (lv2 := []) [] rfl ?_
      exact R_end (fun (w : Int32) (s : Sg) => V κ G (QQ κ G E (some (.int r)) σ') E s (false, 0, 0) 15 [] [.int w]) Kw1
    · refine R_aload_n C 0 rfl dX1_firstToWrite_7 ?_
      refine R_geti C fl1_9 rfl ha0 dX1_firstToWrite_8 ?_
      refine R_goto C dX1_firstToWrite_11 ?_
      refine R_loc (lv2 := []) [] rfl ?_
      exact R_end (fun (w : Int32) (s : Sg) => V κ G (QQ κ G E (some (.int r)) σ') E s (false, 0, 0) 15 [] [.int w]) Kw1
theorem dX1_endBalancedPhase_0 : dk cX1_endBalancedPhase 0 1 (.aload_n 0) 1 := by unfold dk; decide +kernel
theorem dX1_endBalancedPhase_1 : dk cX1_endBalancedPhase 1 4 (.invokevirtual 177) 3 := by unfold dk; decide +kernel
theorem dX1_endBalancedPhase_42 : dk cX1_endBalancedPhase 42 43 (.aload_n 0) 1 := by unfold dk; decide +kernel
theorem dX1_endBalancedPhase_43 : dk cX1_endBalancedPhase 43 46 (.getfield 77) 3 := by unfold dk; decide +kernel
theorem dX1_endBalancedPhase_46 : bk cX1_endBalancedPhase 46 49 58 (.ifCond .eq 12) (12) := by unfold bk; decide +kernel
theorem dX1_endBalancedPhase_58 : dk cX1_endBalancedPhase 58 59 (.aload_n 0) 1 := by unfold dk; decide +kernel
theorem dX1_endBalancedPhase_59 : dk cX1_endBalancedPhase 59 62 (.getfield 9) 3 := by unfold dk; decide +kernel
theorem dX1_endBalancedPhase_62 : dk cX1_endBalancedPhase 62 63 (.iconst 1) 1 := by unfold dk; decide +kernel
theorem dX1_endBalancedPhase_63 : dk cX1_endBalancedPhase 63 64 (.isub) 1 := by unfold dk; decide +kernel
theorem dX1_endBalancedPhase_49 : dk cX1_endBalancedPhase 49 50 (.aload_n 0) 1 := by unfold dk; decide +kernel
theorem dX1_endBalancedPhase_50 : dk cX1_endBalancedPhase 50 53 (.getfield 58) 3 := by unfold dk; decide +kernel
theorem dX1_endBalancedPhase_53 : dk cX1_endBalancedPhase 53 54 (.iconst 1) 1 := by unfold dk; decide +kernel
theorem dX1_endBalancedPhase_54 : dk cX1_endBalancedPhase 54 55 (.isub) 1 := by unfold dk; decide +kernel
theorem dX1_endBalancedPhase_55 : bk cX1_endBalancedPhase 55 58 64 (.goto 9) (9) := by unfold bk; decide +kernel
theorem dX1_endBalancedPhase_64 : dk cX1_endBalancedPhase 64 65 (.istore_n 1) 1 := by unfold dk; decide +kernel
theorem dX1_endBalancedPhase_65 : dk cX1_endBalancedPhase 65 66 (.aload_n 0) 1 := by unfold dk; decide +kernel
theorem dX1_endBalancedPhase_66 : dk cX1_endBalancedPhase 66 67 (.aload_n 0) 1 := by unfold dk; decide +kernel
theorem dX1_endBalancedPhase_67 : dk cX1_endBalancedPhase 67 70 (.getfield 74) 3 := by unfold dk; decide +kernel
theorem dX1_endBalancedPhase_70 : dk cX1_endBalancedPhase 70 71 (.iload_n 1) 1 := by unfold dk; decide +kernel
theorem dX1_endBalancedPhase_71 : bk cX1_endBalancedPhase 71 74 81 (.if_icmp .lt 10) (10) := by unfold bk; decide +kernel
theorem dX1_endBalancedPhase_81 : dk cX1_endBalancedPhase 81 82 (.aload_n 0) 1 := by unfold dk; decide +kernel
theorem dX1_endBalancedPhase_82 : dk cX1_endBalancedPhase 82 85 (.getfield 74) 3 := by unfold dk; decide +kernel
theorem dX1_endBalancedPhase_85 : dk cX1_endBalancedPhase 85 86 (.iconst 1) 1 := by unfold dk; decide +kernel
theorem dX1_endBalancedPhase_86 : dk cX1_endBalancedPhase 86 87 (.iadd) 1 := by unfold dk; decide +kernel
theorem dX1_endBalancedPhase_74 : dk cX1_endBalancedPhase 74 75 (.aload_n 0) 1 := by unfold dk; decide +kernel
theorem dX1_endBalancedPhase_75 : dk cX1_endBalancedPhase 75 78 (.invokevirtual 180) 3 := by unfold dk; decide +kernel
theorem dX1_endBalancedPhase_78 : bk cX1_endBalancedPhase 78 81 87 (.goto 9) (9) := by unfold bk; decide +kernel
theorem dX1_endBalancedPhase_87 : dk cX1_endBalancedPhase 87 90 (.putfield 74) 3 := by unfold dk; decide +kernel
theorem dX1_endBalancedPhase_90 : dk cX1_endBalancedPhase 90 91 (.return_) 1 := by unfold dk; decide +kernel
theorem dX1_endBalancedPhase_7 : dk cX1_endBalancedPhase 7 8 (.aload_n 0) 1 := by unfold dk; decide +kernel
theorem dX1_endBalancedPhase_8 : dk cX1_endBalancedPhase 8 11 (.getfield 25) 3 := by unfold dk; decide +kernel
theorem dX1_endBalancedPhase_11 : dk cX1_endBalancedPhase 11 12 (.iconst 2) 1 := by unfold dk; decide +kernel
theorem dX1_endBalancedPhase_12 : dk cX1_endBalancedPhase 12 13 (.dup2) 1 := by unfold dk; decide +kernel
theorem dX1_endBalancedPhase_13 : dk cX1_endBalancedPhase 13 14 (.iaload) 1 := by unfold dk; decide +kernel
theorem dX1_endBalancedPhase_14 : dk cX1_endBalancedPhase 14 15 (.iconst 1) 1 := by unfold dk; decide +kernel
theorem dX1_endBalancedPhase_15 : dk cX1_endBalancedPhase 15 16 (.iadd) 1 := by unfold dk; decide +kernel
theorem dX1_endBalancedPhase_16 : dk cX1_endBalancedPhase 16 17 (.iastore) 1 := by unfold dk; decide +kernel
theorem dX1_endBalancedPhase_17 : dk cX1_endBalancedPhase 17 18 (.aload_n 0) 1 := by unfold dk; decide +kernel
theorem dX1_endBalancedPhase_18 : dk cX1_endBalancedPhase 18 19 (.aload_n 0) 1 := by unfold dk; decide +kernel
theorem dX1_endBalancedPhase_19 : dk cX1_endBalancedPhase 19 22 (.getfield 77) 3 := by unfold dk; decide +kernel
theorem dX1_endBalancedPhase_22 : bk cX1_endBalancedPhase 22 25 29 (.ifCond .ne 7) (7) := by unfold bk; decide +kernel
theorem dX1_endBalancedPhase_29 : dk cX1_endBalancedPhase 29 30 (.iconst 0) 1 := by unfold dk; decide +kernel
theorem dX1_endBalancedPhase_25 : dk cX1_endBalancedPhase 25 26 (.iconst 1) 1 := by unfold dk; decide +kernel
theorem dX1_endBalancedPhase_26 : bk cX1_endBalancedPhase 26 29 30 (.goto 4) (4) := by unfold bk; decide +kernel
theorem dX1_endBalancedPhase_30 : dk cX1_endBalancedPhase 30 33 (.putfield 77) 3 := by unfold dk; decide +kernel
theorem dX1_endBalancedPhase_33 : dk cX1_endBalancedPhase 33 34 (.aload_n 0) 1 := by unfold dk; decide +kernel
theorem dX1_endBalancedPhase_34 : dk cX1_endBalancedPhase 34 35 (.aload_n 0) 1 := by unfold dk; decide +kernel
theorem dX1_endBalancedPhase_35 : dk cX1_endBalancedPhase 35 38 (.invokevirtual 180) 3 := by unfold dk; decide +kernel
theorem dX1_endBalancedPhase_38 : dk cX1_endBalancedPhase 38 41 (.putfield 74) 3 := by unfold dk; decide +kernel
theorem dX1_endBalancedPhase_41 : dk cX1_endBalancedPhase 41 42 (.return_) 1 := by unfold dk; decide +kernel
theorem dX1_endBalancedPhase_4 : bk cX1_endBalancedPhase 4 7 42 (.ifCond .ne 38) (38) := by unfold bk; decide +kernel
def fX1_endBalancedPhase (E : En) (a0 : Nat) (σ : Sg) : Option (Sg) := tk (cd E a0) 1 (bd (fX1_givers E a0 σ) (fun r3 s1 => if ¬ r3 = 0 then (bd (if (gi s1 a0 11) = 0 then (some (((gi s1 a0 2) - (1 : Int32)), s1)) else (some (((gi s1 a0 1) - (1 : Int32)), s1))) (fun w4 s5 => bd (if (gi s5 a0 9) < w4 then (some (((gi s5 a0 9) + (1 : Int32)), s5)) else (bd (fX1_firstToWrite E a0 s5) (fun r10 s8 => some (r10, s8)))) (fun w6 s7 => ss (si s7 a0 9 w6) (fun s11 => some s11)))) else (dr (rf E a0 12) E 100 (fun x12 => ck (2 : Int32) (ln E x12) (ck (2 : Int32) (ln E x12) (ss (si s1 x12 (2 : Int32).toNatClampNeg ((gi s1 x12 (2 : Int32).toNatClampNeg) + (1 : Int32))) (fun s15 => bd (if ¬ (gi s15 a0 11) = 0 then (some ((0 : Int32), s15)) else (some ((1 : Int32), s15))) (fun w16 s17 => kb w16 (ss (si s17 a0 11 w16) (fun s19 => bd (fX1_firstToWrite E a0 s19) (fun r22 s20 => ss (si s20 a0 9 r22) (fun s23 => some s23))))))))))))
set_option maxHeartbeats 4000000 in
set_option maxRecDepth 100000 in
theorem kX1_endBalancedPhase {l : Launch} {G : Gl} {E : En} {a0 : Nat} {σ σ' : Sg} : fX1_endBalancedPhase E a0 σ = some σ' → CT l yX1_endBalancedPhase cX1_endBalancedPhase 2 none ({ frames := 3, cells := 0, slots := 0, locals := 63 } : Room) [.ref (G.1 + a0)] G E σ none σ' := by
  intro h
  refine CT_of (lv0 := [(0, .ref (G.1 + a0))]) (by decide) (Nat.le_of_ble_eq_true rfl) rfl (fun κ hl hR hr C => ?_)
  have C : Cx κ G cX1_endBalancedPhase RX1 2 := C
  revert h
  unfold fX1_endBalancedPhase
  refine R_tk (fun ha0 => ?_)
  refine R_aload_n C 0 rfl dX1_endBalancedPhase_0 ?_
  refine R_bd (fun r3 s1 q2 => ?_)
  refine R_callVi [] [] C ml1_177 (kX1_givers q2) (by rw [hR]; exact ⟨rfl, rfl, Nat.le_of_ble_eq_true rfl, Nat.le_of_ble_eq_true rfl, Nat.zero_le _, Nat.zero_le _⟩) ha0 rfl rfl (Nat.le_of_ble_eq_true rfl) dX1_endBalancedPhase_1 ?_
  refine B_if_ne C dX1_endBalancedPhase_4 ?_ ?_
  · refine R_aload_n C 0 rfl dX1_endBalancedPhase_42 ?_
    refine R_geti C fl1_77 rfl ha0 dX1_endBalancedPhase_43 ?_
    refine R_bdK (fun (w : Int32) (s : Sg) => V κ G (QQ κ G E none σ') E s (false, 0, 0) 64 [(0, .ref (G.1 + a0))] [.int w]) (fun w4 s5 => ?_) (fun w4 s5 Kw4 => ?_)
    · refine R_istore_n (lv2 := [(1, .int w4), (0, .ref (G.1 + a0))]) C dX1_endBalancedPhase_64 rfl (by decide) rfl ?_
      refine R_aload_n C 1 rfl dX1_endBalancedPhase_65 ?_
      refine R_aload_n C 1 rfl dX1_endBalancedPhase_66 ?_
      refine R_geti C fl1_74 rfl ha0 dX1_endBalancedPhase_67 ?_
      refine R_iload_n C 0 rfl dX1_endBalancedPhase_70 ?_
      refine R_bdK (fun (w : Int32) (s : Sg) => V κ G (QQ κ G E none σ') E s (false, 0, 0) 87 [] [.int w, .ref (G.1 + a0)]) (fun w6 s7 => ?_) (fun w6 s7 Kw6 => ?_)
      · refine S_puti C fl1_74 rfl ha0 rfl rfl dX1_endBalancedPhase_87 (fun s11 => ?_)
        exact R_vret C hr dX1_endBalancedPhase_90
      · refine B_icmp_lt C dX1_endBalancedPhase_71 ?_ ?_
        · refine R_aload_n C 1 rfl dX1_endBalancedPhase_81 ?_
          refine R_geti C fl1_74 rfl ha0 dX1_endBalancedPhase_82 ?_
          refine R_iconst C (1) dX1_endBalancedPhase_85 (by decide) ?_
          refine R_iadd C dX1_endBalancedPhase_86 ?_
          refine R_loc (lv2 := []) [] rfl ?_
          exact R_end (fun (w : Int32) (s : Sg) => V κ G (QQ κ G E none σ') E s (false, 0, 0) 87 [] [.int w, .ref (G.1 + a0)]) Kw6
        · refine R_aload_n C 1 rfl dX1_endBalancedPhase_74 ?_
          refine R_bd (fun r10 s8 q9 => ?_)
          refine R_callVi [] [.ref (G.1 + a0)] C ml1_180 (kX1_firstToWrite q9) (by rw [hR]; exact ⟨rfl, rfl, Nat.le_of_ble_eq_true rfl, Nat.le_of_ble_eq_true rfl, Nat.zero_le _, Nat.zero_le _⟩) ha0 rfl rfl (Nat.le_of_ble_eq_true rfl) dX1_endBalancedPhase_75 ?_
          refine R_goto C dX1_endBalancedPhase_78 ?_
          refine R_loc (lv2 := []) [] rfl ?_
          exact R_end (fun (w : Int32) (s : Sg) => V κ G (QQ κ G E none σ') E s (false, 0, 0) 87 [] [.int w, .ref (G.1 + a0)]) Kw6
    · refine B_if_eq C dX1_endBalancedPhase_46 ?_ ?_
      · refine R_aload_n C 0 rfl dX1_endBalancedPhase_58 ?_
        refine R_geti C fl1_9 rfl ha0 dX1_endBalancedPhase_59 ?_
        refine R_iconst C (1) dX1_endBalancedPhase_62 (by decide) ?_
        refine R_isub C dX1_endBalancedPhase_63 ?_
        exact R_end (fun (w : Int32) (s : Sg) => V κ G (QQ κ G E none σ') E s (false, 0, 0) 64 [(0, .ref (G.1 + a0))] [.int w]) Kw4
      · refine R_aload_n C 0 rfl dX1_endBalancedPhase_49 ?_
        refine R_geti C fl1_58 rfl ha0 dX1_endBalancedPhase_50 ?_
        refine R_iconst C (1) dX1_endBalancedPhase_53 (by decide) ?_
        refine R_isub C dX1_endBalancedPhase_54 ?_
        refine R_goto C dX1_endBalancedPhase_55 ?_
        exact R_end (fun (w : Int32) (s : Sg) => V κ G (QQ κ G E none σ') E s (false, 0, 0) 64 [(0, .ref (G.1 + a0))] [.int w]) Kw4
  · refine R_aload_n C 0 rfl dX1_endBalancedPhase_7 ?_
    refine R_dr (fun x12 rx12 cx12 => ?_)
    refine R_getr C fl1_25 rfl ha0 rx12 dX1_endBalancedPhase_8 ?_
    refine R_iconst C (2) dX1_endBalancedPhase_11 (by decide) ?_
    refine R_dup2 C dX1_endBalancedPhase_12 rfl rfl ?_
    refine R_ck (fun h13 => ?_)
    refine R_iald C cx12 h13 dX1_endBalancedPhase_13 ?_
    refine R_iconst C (1) dX1_endBalancedPhase_14 (by decide) ?_
    refine R_iadd C dX1_endBalancedPhase_15 ?_
    refine R_ck (fun h14 => ?_)
    refine S_iast C cx12 h14 dX1_endBalancedPhase_16 (fun s15 => ?_)
    refine R_aload_n C 0 rfl dX1_endBalancedPhase_17 ?_
    refine R_aload_n C 0 rfl dX1_endBalancedPhase_18 ?_
    refine R_geti C fl1_77 rfl ha0 dX1_endBalancedPhase_19 ?_
    refine R_bdK (fun (w : Int32) (s : Sg) => V κ G (QQ κ G E none σ') E s (false, 0, 0) 30 [(0, .ref (G.1 + a0))] [.int w, .ref (G.1 + a0)]) (fun w16 s17 => ?_) (fun w16 s17 Kw16 => ?_)
    · refine R_kb (fun h18 => ?_)
      refine S_puti C fl1_77 rfl ha0 (nb h18) (fb h18) dX1_endBalancedPhase_30 (fun s19 => ?_)
      refine R_aload_n C 0 rfl dX1_endBalancedPhase_33 ?_
      refine R_aload_n C 0 rfl dX1_endBalancedPhase_34 ?_
      refine R_bd (fun r22 s20 q21 => ?_)
      refine R_callVi [] [.ref (G.1 + a0)] C ml1_180 (kX1_firstToWrite q21) (by rw [hR]; exact ⟨rfl, rfl, Nat.le_of_ble_eq_true rfl, Nat.le_of_ble_eq_true rfl, Nat.zero_le _, Nat.zero_le _⟩) ha0 rfl rfl (Nat.le_of_ble_eq_true rfl) dX1_endBalancedPhase_35 ?_
      refine S_puti C fl1_74 rfl ha0 rfl rfl dX1_endBalancedPhase_38 (fun s23 => ?_)
      exact R_vret C hr dX1_endBalancedPhase_41
    · refine B_if_ne C dX1_endBalancedPhase_22 ?_ ?_
      · refine R_iconst C (0) dX1_endBalancedPhase_29 (by decide) ?_
        exact R_end (fun (w : Int32) (s : Sg) => V κ G (QQ κ G E none σ') E s (false, 0, 0) 30 [(0, .ref (G.1 + a0))] [.int w, .ref (G.1 + a0)]) Kw16
      · refine R_iconst C (1) dX1_endBalancedPhase_25 (by decide) ?_
        refine R_goto C dX1_endBalancedPhase_26 ?_
        exact R_end (fun (w : Int32) (s : Sg) => V κ G (QQ κ G E none σ') E s (false, 0, 0) 30 [(0, .ref (G.1 + a0))] [.int w, .ref (G.1 + a0)]) Kw16
theorem dX1_emptiedTape_0 : dk cX1_emptiedTape 0 1 (.iconst 0) 1 := by unfold dk; decide +kernel
theorem dX1_emptiedTape_1 : dk cX1_emptiedTape 1 2 (.istore_n 1) 1 := by unfold dk; decide +kernel
theorem dX1_emptiedTape_2 : dk cX1_emptiedTape 2 3 (.iload_n 1) 1 := by unfold dk; decide +kernel
theorem dX1_emptiedTape_3 : dk cX1_emptiedTape 3 4 (.aload_n 0) 1 := by unfold dk; decide +kernel
theorem dX1_emptiedTape_4 : dk cX1_emptiedTape 4 7 (.getfield 58) 3 := by unfold dk; decide +kernel
theorem dX1_emptiedTape_10 : dk cX1_emptiedTape 10 11 (.aload_n 0) 1 := by unfold dk; decide +kernel
theorem dX1_emptiedTape_11 : dk cX1_emptiedTape 11 14 (.getfield 29) 3 := by unfold dk; decide +kernel
theorem dX1_emptiedTape_14 : dk cX1_emptiedTape 14 15 (.iload_n 1) 1 := by unfold dk; decide +kernel
theorem dX1_emptiedTape_15 : dk cX1_emptiedTape 15 16 (.iaload) 1 := by unfold dk; decide +kernel
theorem dX1_emptiedTape_16 : dk cX1_emptiedTape 16 18 (.bipush (-2)) 2 := by unfold dk; decide +kernel
theorem dX1_emptiedTape_35 : dk cX1_emptiedTape 35 38 (.iinc 1 1) 3 := by unfold dk; decide +kernel
theorem dX1_emptiedTape_38 : bk cX1_emptiedTape 38 41 2 (.goto (-36)) (-36) := by unfold bk; decide +kernel
theorem dX1_emptiedTape_21 : dk cX1_emptiedTape 21 22 (.aload_n 0) 1 := by unfold dk; decide +kernel
theorem dX1_emptiedTape_22 : dk cX1_emptiedTape 22 25 (.getfield 17) 3 := by unfold dk; decide +kernel
theorem dX1_emptiedTape_25 : dk cX1_emptiedTape 25 26 (.iload_n 1) 1 := by unfold dk; decide +kernel
theorem dX1_emptiedTape_26 : dk cX1_emptiedTape 26 27 (.aaload) 1 := by unfold dk; decide +kernel
theorem dX1_emptiedTape_27 : dk cX1_emptiedTape 27 30 (.invokevirtual 136) 3 := by unfold dk; decide +kernel
theorem dX1_emptiedTape_33 : dk cX1_emptiedTape 33 34 (.iload_n 1) 1 := by unfold dk; decide +kernel
theorem dX1_emptiedTape_34 : dk cX1_emptiedTape 34 35 (.ireturn) 1 := by unfold dk; decide +kernel
theorem dX1_emptiedTape_30 : bk cX1_emptiedTape 30 33 35 (.ifCond .ne 5) (5) := by unfold bk; decide +kernel
theorem dX1_emptiedTape_18 : bk cX1_emptiedTape 18 21 35 (.if_icmp .eq 17) (17) := by unfold bk; decide +kernel
theorem dX1_emptiedTape_7 : bk cX1_emptiedTape 7 10 41 (.if_icmp .ge 34) (34) := by unfold bk; decide +kernel
theorem dX1_emptiedTape_41 : dk cX1_emptiedTape 41 42 (.iconst (-1)) 1 := by unfold dk; decide +kernel
theorem dX1_emptiedTape_42 : dk cX1_emptiedTape 42 43 (.ireturn) 1 := by unfold dk; decide +kernel
def bX1_emptiedTape_2 (E : En) (a0 : Nat) (rec : Int32 → Sg → Option (((Int32) ⊕ Int32) × Sg)) (v1 : Int32) (s2 : Sg) : Option (((Int32) ⊕ Int32) × Sg) := if (gi s2 a0 1) ≤ v1 then (some (.inl v1, s2)) else (dr (rf E a0 13) E 100 (fun x7 => ck v1 (ln E x7) (if (gi s2 x7 v1.toNatClampNeg) = (-2 : Int32) then (lt (v1 + (1 : Int32)) (fun v9 => rec v9 s2)) else (dr (rf E a0 4) E 104 (fun x10 => ck v1 (ln E x10) (dr (rf E x10 v1.toNatClampNeg) E 5 (fun x12 => bd (fX5_size E x12 s2) (fun r15 s13 => if ¬ r15 = 0 then (lt (v1 + (1 : Int32)) (fun v16 => rec v16 s13)) else (some (.inr v1, s13))))))))))
def fX1_emptiedTape (E : En) (a0 : Nat) (σ : Sg) : Option (Int32 × Sg) := tk (cd E a0) 1 (bd (fx (fun rec a => bX1_emptiedTape_2 E a0 (fun u0 t => rec (u0, t)) a.1 a.2) FU ((0 : Int32), σ)) (fun o17 s18 => sm o17 (fun vo17 => some ((-1 : Int32), s18)) (fun rr => some (rr, s18))))
set_option maxHeartbeats 4000000 in
set_option maxRecDepth 100000 in
theorem kX1_emptiedTape {l : Launch} {G : Gl} {E : En} {a0 : Nat} {σ σ' : Sg} {r : Int32} : fX1_emptiedTape E a0 σ = some (r, σ') → CT l yX1_emptiedTape cX1_emptiedTape 2 (some .int) ({ frames := 1, cells := 0, slots := 0, locals := 20 } : Room) [.ref (G.1 + a0)] G E σ (some (.int r)) σ' := by
  intro h
  refine CT_of (lv0 := [(0, .ref (G.1 + a0))]) (by decide) (Nat.le_of_ble_eq_true rfl) rfl (fun κ hl hR hr C => ?_)
  have C : Cx κ G cX1_emptiedTape RX1 2 := C
  revert h
  unfold fX1_emptiedTape
  refine R_tk (fun ha0 => ?_)
  refine R_iconst C (0) dX1_emptiedTape_0 (by decide) ?_
  refine R_istore_n (lv2 := [(1, .int (0 : Int32)), (0, .ref (G.1 + a0))]) C dX1_emptiedTape_1 rfl (by decide) rfl ?_
  refine R_loc (lv2 := [(0, .ref (G.1 + a0)), (1, .int (0 : Int32))]) [1, 0] rfl ?_
  refine R_loop (fun (a : (Int32) × Sg) => V κ G (QQ κ G E (some (.int r)) σ') E a.2 (false, 0, 0) 2 [(0, .ref (G.1 + a0)), (1, .int a.1)] []) (fun (o : ((Int32) ⊕ Int32)) (s : Sg) => sm o (fun o => V κ G (QQ κ G E (some (.int r)) σ') E s (false, 0, 0) 41 [] []) (fun rr => some (rr, s) = some (r, σ'))) ((0 : Int32), σ) (fun o17 s18 => ?_) (fun rec I6 a b4 s5 K3 => ?_)
  · rcases o17 with vo17 | ro17
    · refine R_iconst C (-1) dX1_emptiedTape_41 (by decide) ?_
      exact R_iret C hr dX1_emptiedTape_42
    · exact fun h => h
  · obtain ⟨v1, s2⟩ := a
    show bX1_emptiedTape_2 E a0 (fun u0 t => rec (u0, t)) v1 s2 = some (b4, s5) → V κ G (QQ κ G E (some (.int r)) σ') E s2 (false, 0, 0) 2 [(0, .ref (G.1 + a0)), (1, .int v1)] []
    unfold bX1_emptiedTape_2
    refine R_iload_n C 1 rfl dX1_emptiedTape_2 ?_
    refine R_aload_n C 0 rfl dX1_emptiedTape_3 ?_
    refine R_geti C fl1_58 rfl ha0 dX1_emptiedTape_4 ?_
    refine B_icmp_ge C dX1_emptiedTape_7 ?_ ?_
    · refine R_loc (lv2 := []) [] rfl ?_
      exact R_inr (VX := (fun (o : ((Int32) ⊕ Int32)) (s : Sg) => sm o (fun o => V κ G (QQ κ G E (some (.int r)) σ') E s (false, 0, 0) 41 [] []) (fun rr => some (rr, s) = some (r, σ')))) (i := .inl) K3 (fun h => h)
    · refine R_aload_n C 0 rfl dX1_emptiedTape_10 ?_
      refine R_dr (fun x7 rx7 cx7 => ?_)
      refine R_getr C fl1_29 rfl ha0 rx7 dX1_emptiedTape_11 ?_
      refine R_iload_n C 1 rfl dX1_emptiedTape_14 ?_
      refine R_ck (fun h8 => ?_)
      refine R_iald C cx7 h8 dX1_emptiedTape_15 ?_
      refine R_bipush C (-2) dX1_emptiedTape_16 (by decide) ?_
      refine B_icmp_eq C dX1_emptiedTape_18 ?_ ?_
      · refine S_iinc (fun v9 => [(1, .int v9), (0, .ref (G.1 + a0))]) 1 C dX1_emptiedTape_35 rfl (by decide) (by decide) (fun _ => rfl) (fun v9 => ?_)
        refine R_goto C dX1_emptiedTape_38 ?_
        refine R_loc (lv2 := [(0, .ref (G.1 + a0)), (1, .int v9)]) [1, 0] rfl ?_
        exact I6 (v9, s2) b4 s5 K3
      · refine R_aload_n C 0 rfl dX1_emptiedTape_21 ?_
        refine R_dr (fun x10 rx10 cx10 => ?_)
        refine R_getr C fl1_17 rfl ha0 rx10 dX1_emptiedTape_22 ?_
        refine R_iload_n C 1 rfl dX1_emptiedTape_25 ?_
        refine R_ck (fun h11 => ?_)
        refine R_dr (fun x12 rx12 cx12 => ?_)
        refine R_aald4 C cx10 h11 rx12 dX1_emptiedTape_26 ?_
        refine R_bd (fun r15 s13 q14 => ?_)
        refine R_callVi [] [] C ml1_136 (kX5_size q14) (by rw [hR]; exact ⟨rfl, rfl, Nat.le_of_ble_eq_true rfl, Nat.le_of_ble_eq_true rfl, Nat.zero_le _, Nat.zero_le _⟩) cx12 rfl rfl (Nat.le_of_ble_eq_true rfl) dX1_emptiedTape_27 ?_
        refine B_if_ne C dX1_emptiedTape_30 ?_ ?_
        · refine S_iinc (fun v16 => [(1, .int v16), (0, .ref (G.1 + a0))]) 1 C dX1_emptiedTape_35 rfl (by decide) (by decide) (fun _ => rfl) (fun v16 => ?_)
          refine R_goto C dX1_emptiedTape_38 ?_
          refine R_loc (lv2 := [(0, .ref (G.1 + a0)), (1, .int v16)]) [1, 0] rfl ?_
          exact I6 (v16, s13) b4 s5 K3
        · refine R_iload_n C 1 rfl dX1_emptiedTape_33 ?_
          exact R_inr (VX := (fun (o : ((Int32) ⊕ Int32)) (s : Sg) => sm o (fun o => V κ G (QQ κ G E (some (.int r)) σ') E s (false, 0, 0) 41 [] []) (fun rr => some (rr, s) = some (r, σ')))) (i := .inr) K3 (R_iret C hr dX1_emptiedTape_34)
theorem dX1_endNumberedPhase_0 : dk cX1_endNumberedPhase 0 1 (.aload_n 0) 1 := by unfold dk; decide +kernel
theorem dX1_endNumberedPhase_1 : dk cX1_endNumberedPhase 1 4 (.invokevirtual 174) 3 := by unfold dk; decide +kernel
theorem dX1_endNumberedPhase_4 : dk cX1_endNumberedPhase 4 5 (.istore_n 1) 1 := by unfold dk; decide +kernel
theorem dX1_endNumberedPhase_5 : dk cX1_endNumberedPhase 5 6 (.iload_n 1) 1 := by unfold dk; decide +kernel
theorem dX1_endNumberedPhase_6 : dk cX1_endNumberedPhase 6 7 (.iconst (-1)) 1 := by unfold dk; decide +kernel
theorem dX1_endNumberedPhase_11 : dk cX1_endNumberedPhase 11 12 (.aload_n 0) 1 := by unfold dk; decide +kernel
theorem dX1_endNumberedPhase_12 : dk cX1_endNumberedPhase 12 15 (.getfield 25) 3 := by unfold dk; decide +kernel
theorem dX1_endNumberedPhase_15 : dk cX1_endNumberedPhase 15 16 (.iconst 2) 1 := by unfold dk; decide +kernel
theorem dX1_endNumberedPhase_16 : dk cX1_endNumberedPhase 16 17 (.dup2) 1 := by unfold dk; decide +kernel
theorem dX1_endNumberedPhase_17 : dk cX1_endNumberedPhase 17 18 (.iaload) 1 := by unfold dk; decide +kernel
theorem dX1_endNumberedPhase_18 : dk cX1_endNumberedPhase 18 19 (.iconst 1) 1 := by unfold dk; decide +kernel
theorem dX1_endNumberedPhase_19 : dk cX1_endNumberedPhase 19 20 (.iadd) 1 := by unfold dk; decide +kernel
theorem dX1_endNumberedPhase_20 : dk cX1_endNumberedPhase 20 21 (.iastore) 1 := by unfold dk; decide +kernel
theorem dX1_endNumberedPhase_21 : dk cX1_endNumberedPhase 21 22 (.aload_n 0) 1 := by unfold dk; decide +kernel
theorem dX1_endNumberedPhase_22 : dk cX1_endNumberedPhase 22 23 (.iload_n 1) 1 := by unfold dk; decide +kernel
theorem dX1_endNumberedPhase_23 : dk cX1_endNumberedPhase 23 26 (.putfield 74) 3 := by unfold dk; decide +kernel
theorem dX1_endNumberedPhase_26 : dk cX1_endNumberedPhase 26 27 (.aload_n 0) 1 := by unfold dk; decide +kernel
theorem dX1_endNumberedPhase_27 : dk cX1_endNumberedPhase 27 30 (.getfield 55) 3 := by unfold dk; decide +kernel
theorem dX1_endNumberedPhase_30 : dk cX1_endNumberedPhase 30 31 (.iconst 2) 1 := by unfold dk; decide +kernel
theorem dX1_endNumberedPhase_31 : bk cX1_endNumberedPhase 31 34 53 (.if_icmp .ne 22) (22) := by unfold bk; decide +kernel
theorem dX1_endNumberedPhase_34 : dk cX1_endNumberedPhase 34 35 (.aload_n 0) 1 := by unfold dk; decide +kernel
theorem dX1_endNumberedPhase_35 : dk cX1_endNumberedPhase 35 38 (.getfield 21) 3 := by unfold dk; decide +kernel
theorem dX1_endNumberedPhase_38 : dk cX1_endNumberedPhase 38 39 (.iload_n 1) 1 := by unfold dk; decide +kernel
theorem dX1_endNumberedPhase_39 : dk cX1_endNumberedPhase 39 40 (.iconst 0) 1 := by unfold dk; decide +kernel
theorem dX1_endNumberedPhase_40 : dk cX1_endNumberedPhase 40 41 (.bastore) 1 := by unfold dk; decide +kernel
theorem dX1_endNumberedPhase_41 : dk cX1_endNumberedPhase 41 42 (.aload_n 0) 1 := by unfold dk; decide +kernel
theorem dX1_endNumberedPhase_42 : dk cX1_endNumberedPhase 42 45 (.invokevirtual 177) 3 := by unfold dk; decide +kernel
theorem dX1_endNumberedPhase_45 : dk cX1_endNumberedPhase 45 46 (.iconst 2) 1 := by unfold dk; decide +kernel
theorem dX1_endNumberedPhase_49 : dk cX1_endNumberedPhase 49 50 (.aload_n 0) 1 := by unfold dk; decide +kernel
theorem dX1_endNumberedPhase_50 : dk cX1_endNumberedPhase 50 53 (.invokevirtual 104) 3 := by unfold dk; decide +kernel
theorem dX1_endNumberedPhase_46 : bk cX1_endNumberedPhase 46 49 53 (.if_icmp .ge 7) (7) := by unfold bk; decide +kernel
theorem dX1_endNumberedPhase_53 : dk cX1_endNumberedPhase 53 54 (.return_) 1 := by unfold dk; decide +kernel
theorem dX1_endNumberedPhase_10 : dk cX1_endNumberedPhase 10 11 (.return_) 1 := by unfold dk; decide +kernel
theorem dX1_endNumberedPhase_7 : bk cX1_endNumberedPhase 7 10 11 (.if_icmp .ne 4) (4) := by unfold bk; decide +kernel
def fX1_endNumberedPhase (E : En) (a0 : Nat) (σ : Sg) : Option (Sg) := tk (cd E a0) 1 (bd (fX1_emptiedTape E a0 σ) (fun r3 s1 => if ¬ r3 = (-1 : Int32) then (dr (rf E a0 12) E 100 (fun x4 => ck (2 : Int32) (ln E x4) (ck (2 : Int32) (ln E x4) (ss (si s1 x4 (2 : Int32).toNatClampNeg ((gi s1 x4 (2 : Int32).toNatClampNeg) + (1 : Int32))) (fun s7 => ss (si s7 a0 9 r3) (fun s8 => bd (if ¬ (gi s8 a0 0) = (2 : Int32) then (some ((), s8)) else (dr (rf E a0 10) E 101 (fun x11 => ck r3 (ln E x11) (ss (si s8 x11 r3.toNatClampNeg (vp_nar .boolean (0 : Int32))) (fun s13 => bd (fX1_givers E a0 s13) (fun r16 s14 => if (2 : Int32) ≤ r16 then (some ((), s14)) else (bv (fX1_openPass E a0 s14) (fun s17 => some ((), s17))))))))) (fun w9 s10 => some s10))))))) else (some s1)))
set_option maxHeartbeats 4000000 in
set_option maxRecDepth 100000 in
theorem kX1_endNumberedPhase {l : Launch} {G : Gl} {E : En} {a0 : Nat} {σ σ' : Sg} : fX1_endNumberedPhase E a0 σ = some σ' → CT l yX1_endNumberedPhase cX1_endNumberedPhase 2 none ({ frames := 3, cells := 0, slots := 0, locals := 63 } : Room) [.ref (G.1 + a0)] G E σ none σ' := by
  intro h
  refine CT_of (lv0 := [(0, .ref (G.1 + a0))]) (by decide) (Nat.le_of_ble_eq_true rfl) rfl (fun κ hl hR hr C => ?_)
  have C : Cx κ G cX1_endNumberedPhase RX1 2 := C
  revert h
  unfold fX1_endNumberedPhase
  refine R_tk (fun ha0 => ?_)
  refine R_aload_n C 0 rfl dX1_endNumberedPhase_0 ?_
  refine R_bd (fun r3 s1 q2 => ?_)
  refine R_callVi [] [] C ml1_174 (kX1_emptiedTape q2) (by rw [hR]; exact ⟨rfl, rfl, Nat.le_of_ble_eq_true rfl, Nat.le_of_ble_eq_true rfl, Nat.zero_le _, Nat.zero_le _⟩) ha0 rfl rfl (Nat.le_of_ble_eq_true rfl) dX1_endNumberedPhase_1 ?_
  refine R_istore_n (lv2 := [(1, .int r3), (0, .ref (G.1 + a0))]) C dX1_endNumberedPhase_4 rfl (by decide) rfl ?_
  refine R_iload_n C 0 rfl dX1_endNumberedPhase_5 ?_
  refine R_iconst C (-1) dX1_endNumberedPhase_6 (by decide) ?_
  refine B_icmp_ne C dX1_endNumberedPhase_7 ?_ ?_
  · refine R_aload_n C 1 rfl dX1_endNumberedPhase_11 ?_
    refine R_dr (fun x4 rx4 cx4 => ?_)
    refine R_getr C fl1_25 rfl ha0 rx4 dX1_endNumberedPhase_12 ?_
    refine R_iconst C (2) dX1_endNumberedPhase_15 (by decide) ?_
    refine R_dup2 C dX1_endNumberedPhase_16 rfl rfl ?_
    refine R_ck (fun h5 => ?_)
    refine R_iald C cx4 h5 dX1_endNumberedPhase_17 ?_
    refine R_iconst C (1) dX1_endNumberedPhase_18 (by decide) ?_
    refine R_iadd C dX1_endNumberedPhase_19 ?_
    refine R_ck (fun h6 => ?_)
    refine S_iast C cx4 h6 dX1_endNumberedPhase_20 (fun s7 => ?_)
    refine R_aload_n C 1 rfl dX1_endNumberedPhase_21 ?_
    refine R_iload_n C 0 rfl dX1_endNumberedPhase_22 ?_
    refine S_puti C fl1_74 rfl ha0 rfl rfl dX1_endNumberedPhase_23 (fun s8 => ?_)
    refine R_aload_n C 1 rfl dX1_endNumberedPhase_26 ?_
    refine R_geti C fl1_55 rfl ha0 dX1_endNumberedPhase_27 ?_
    refine R_iconst C (2) dX1_endNumberedPhase_30 (by decide) ?_
    refine R_bdK (fun (w : Unit) (s : Sg) => V κ G (QQ κ G E none σ') E s (false, 0, 0) 53 [] []) (fun w9 s10 => ?_) (fun w9 s10 Kw9 => ?_)
    · exact R_vret C hr dX1_endNumberedPhase_53
    · refine B_icmp_ne C dX1_endNumberedPhase_31 ?_ ?_
      · refine R_loc (lv2 := []) [] rfl ?_
        exact R_end (fun (w : Unit) (s : Sg) => V κ G (QQ κ G E none σ') E s (false, 0, 0) 53 [] []) Kw9
      · refine R_aload_n C 1 rfl dX1_endNumberedPhase_34 ?_
        refine R_dr (fun x11 rx11 cx11 => ?_)
        refine R_getr C fl1_21 rfl ha0 rx11 dX1_endNumberedPhase_35 ?_
        refine R_iload_n C 0 rfl dX1_endNumberedPhase_38 ?_
        refine R_iconst C (0) dX1_endNumberedPhase_39 (by decide) ?_
        refine R_ck (fun h12 => ?_)
        refine S_zast C cx11 h12 dX1_endNumberedPhase_40 (fun s13 => ?_)
        refine R_aload_n C 1 rfl dX1_endNumberedPhase_41 ?_
        refine R_bd (fun r16 s14 q15 => ?_)
        refine R_callVi [] [] C ml1_177 (kX1_givers q15) (by rw [hR]; exact ⟨rfl, rfl, Nat.le_of_ble_eq_true rfl, Nat.le_of_ble_eq_true rfl, Nat.zero_le _, Nat.zero_le _⟩) ha0 rfl rfl (Nat.le_of_ble_eq_true rfl) dX1_endNumberedPhase_42 ?_
        refine R_iconst C (2) dX1_endNumberedPhase_45 (by decide) ?_
        refine B_icmp_ge C dX1_endNumberedPhase_46 ?_ ?_
        · refine R_loc (lv2 := []) [] rfl ?_
          exact R_end (fun (w : Unit) (s : Sg) => V κ G (QQ κ G E none σ') E s (false, 0, 0) 53 [] []) Kw9
        · refine R_aload_n C 1 rfl dX1_endNumberedPhase_49 ?_
          refine R_bv (fun s17 q18 => ?_)
          refine R_callVv [] [] C ml1_104 (kX1_openPass q18) (by rw [hR]; exact ⟨rfl, rfl, Nat.le_of_ble_eq_true rfl, Nat.le_of_ble_eq_true rfl, Nat.zero_le _, Nat.zero_le _⟩) ha0 rfl rfl (Nat.le_of_ble_eq_true rfl) dX1_endNumberedPhase_50 ?_
          refine R_loc (lv2 := []) [] rfl ?_
          exact R_end (fun (w : Unit) (s : Sg) => V κ G (QQ κ G E none σ') E s (false, 0, 0) 53 [] []) Kw9
  · exact R_vret C hr dX1_endNumberedPhase_10
theorem dX1_advance_0 : dk cX1_advance 0 1 (.aload_n 0) 1 := by unfold dk; decide +kernel
theorem dX1_advance_1 : dk cX1_advance 1 4 (.invokevirtual 155) 3 := by unfold dk; decide +kernel
theorem dX1_advance_4 : dk cX1_advance 4 5 (.aload_n 0) 1 := by unfold dk; decide +kernel
theorem dX1_advance_5 : dk cX1_advance 5 8 (.getfield 61) 3 := by unfold dk; decide +kernel
theorem dX1_advance_8 : bk cX1_advance 8 11 26 (.ifCond .eq 18) (18) := by unfold bk; decide +kernel
theorem dX1_advance_26 : dk cX1_advance 26 27 (.iconst 0) 1 := by unfold dk; decide +kernel
theorem dX1_advance_11 : dk cX1_advance 11 12 (.aload_n 0) 1 := by unfold dk; decide +kernel
theorem dX1_advance_12 : dk cX1_advance 12 13 (.aload_n 0) 1 := by unfold dk; decide +kernel
theorem dX1_advance_13 : dk cX1_advance 13 16 (.getfield 139) 3 := by unfold dk; decide +kernel
theorem dX1_advance_16 : dk cX1_advance 16 19 (.invokevirtual 149) 3 := by unfold dk; decide +kernel
theorem dX1_advance_22 : dk cX1_advance 22 23 (.iconst 1) 1 := by unfold dk; decide +kernel
theorem dX1_advance_23 : bk cX1_advance 23 26 27 (.goto 4) (4) := by unfold bk; decide +kernel
theorem dX1_advance_19 : bk cX1_advance 19 22 26 (.ifCond .eq 7) (7) := by unfold bk; decide +kernel
theorem dX1_advance_27 : dk cX1_advance 27 28 (.istore_n 1) 1 := by unfold dk; decide +kernel
theorem dX1_advance_28 : dk cX1_advance 28 29 (.iconst 0) 1 := by unfold dk; decide +kernel
theorem dX1_advance_29 : dk cX1_advance 29 30 (.istore_n 2) 1 := by unfold dk; decide +kernel
theorem dX1_advance_30 : dk cX1_advance 30 31 (.iconst 0) 1 := by unfold dk; decide +kernel
theorem dX1_advance_31 : dk cX1_advance 31 32 (.istore_n 3) 1 := by unfold dk; decide +kernel
theorem dX1_advance_32 : dk cX1_advance 32 33 (.iload_n 3) 1 := by unfold dk; decide +kernel
theorem dX1_advance_33 : dk cX1_advance 33 34 (.aload_n 0) 1 := by unfold dk; decide +kernel
theorem dX1_advance_34 : dk cX1_advance 34 37 (.getfield 58) 3 := by unfold dk; decide +kernel
theorem dX1_advance_40 : dk cX1_advance 40 41 (.aload_n 0) 1 := by unfold dk; decide +kernel
theorem dX1_advance_41 : dk cX1_advance 41 44 (.getfield 29) 3 := by unfold dk; decide +kernel
theorem dX1_advance_44 : dk cX1_advance 44 45 (.iload_n 3) 1 := by unfold dk; decide +kernel
theorem dX1_advance_45 : dk cX1_advance 45 46 (.iaload) 1 := by unfold dk; decide +kernel
theorem dX1_advance_46 : dk cX1_advance 46 48 (.bipush (-2)) 2 := by unfold dk; decide +kernel
theorem dX1_advance_48 : bk cX1_advance 48 51 54 (.if_icmp .ne 6) (6) := by unfold bk; decide +kernel
theorem dX1_advance_54 : dk cX1_advance 54 55 (.aload_n 0) 1 := by unfold dk; decide +kernel
theorem dX1_advance_55 : dk cX1_advance 55 58 (.getfield 17) 3 := by unfold dk; decide +kernel
theorem dX1_advance_58 : dk cX1_advance 58 59 (.iload_n 3) 1 := by unfold dk; decide +kernel
theorem dX1_advance_59 : dk cX1_advance 59 60 (.aaload) 1 := by unfold dk; decide +kernel
theorem dX1_advance_60 : dk cX1_advance 60 61 (.aload_n 0) 1 := by unfold dk; decide +kernel
theorem dX1_advance_61 : dk cX1_advance 61 64 (.getfield 61) 3 := by unfold dk; decide +kernel
theorem dX1_advance_64 : dk cX1_advance 64 67 (.invokevirtual 158) 3 := by unfold dk; decide +kernel
theorem dX1_advance_67 : dk cX1_advance 67 68 (.aload_n 0) 1 := by unfold dk; decide +kernel
theorem dX1_advance_68 : dk cX1_advance 68 69 (.dup) 1 := by unfold dk; decide +kernel
theorem dX1_advance_69 : dk cX1_advance 69 72 (.getfield 71) 3 := by unfold dk; decide +kernel
theorem dX1_advance_72 : dk cX1_advance 72 73 (.iconst 1) 1 := by unfold dk; decide +kernel
theorem dX1_advance_73 : dk cX1_advance 73 74 (.isub) 1 := by unfold dk; decide +kernel
theorem dX1_advance_74 : dk cX1_advance 74 77 (.putfield 71) 3 := by unfold dk; decide +kernel
theorem dX1_advance_77 : dk cX1_advance 77 78 (.iload_n 2) 1 := by unfold dk; decide +kernel
theorem dX1_advance_78 : dk cX1_advance 78 79 (.aload_n 0) 1 := by unfold dk; decide +kernel
theorem dX1_advance_79 : dk cX1_advance 79 80 (.aload_n 0) 1 := by unfold dk; decide +kernel
theorem dX1_advance_80 : dk cX1_advance 80 83 (.getfield 29) 3 := by unfold dk; decide +kernel
theorem dX1_advance_83 : dk cX1_advance 83 84 (.iload_n 3) 1 := by unfold dk; decide +kernel
theorem dX1_advance_84 : dk cX1_advance 84 85 (.iaload) 1 := by unfold dk; decide +kernel
theorem dX1_advance_85 : dk cX1_advance 85 88 (.invokevirtual 161) 3 := by unfold dk; decide +kernel
theorem dX1_advance_88 : dk cX1_advance 88 89 (.iadd) 1 := by unfold dk; decide +kernel
theorem dX1_advance_89 : dk cX1_advance 89 90 (.istore_n 2) 1 := by unfold dk; decide +kernel
theorem dX1_advance_90 : dk cX1_advance 90 91 (.aload_n 0) 1 := by unfold dk; decide +kernel
theorem dX1_advance_91 : dk cX1_advance 91 92 (.aload_n 0) 1 := by unfold dk; decide +kernel
theorem dX1_advance_92 : dk cX1_advance 92 95 (.getfield 29) 3 := by unfold dk; decide +kernel
theorem dX1_advance_95 : dk cX1_advance 95 96 (.iload_n 3) 1 := by unfold dk; decide +kernel
theorem dX1_advance_96 : dk cX1_advance 96 97 (.iaload) 1 := by unfold dk; decide +kernel
theorem dX1_advance_97 : dk cX1_advance 97 100 (.invokevirtual 149) 3 := by unfold dk; decide +kernel
theorem dX1_advance_100 : dk cX1_advance 100 101 (.iload_n 1) 1 := by unfold dk; decide +kernel
theorem dX1_advance_104 : dk cX1_advance 104 105 (.aload_n 0) 1 := by unfold dk; decide +kernel
theorem dX1_advance_105 : dk cX1_advance 105 108 (.getfield 25) 3 := by unfold dk; decide +kernel
theorem dX1_advance_108 : dk cX1_advance 108 109 (.iconst 3) 1 := by unfold dk; decide +kernel
theorem dX1_advance_109 : dk cX1_advance 109 110 (.dup2) 1 := by unfold dk; decide +kernel
theorem dX1_advance_110 : dk cX1_advance 110 111 (.iaload) 1 := by unfold dk; decide +kernel
theorem dX1_advance_111 : dk cX1_advance 111 112 (.aload_n 0) 1 := by unfold dk; decide +kernel
theorem dX1_advance_112 : dk cX1_advance 112 113 (.aload_n 0) 1 := by unfold dk; decide +kernel
theorem dX1_advance_113 : dk cX1_advance 113 116 (.getfield 29) 3 := by unfold dk; decide +kernel
theorem dX1_advance_116 : dk cX1_advance 116 117 (.iload_n 3) 1 := by unfold dk; decide +kernel
theorem dX1_advance_117 : dk cX1_advance 117 118 (.iaload) 1 := by unfold dk; decide +kernel
theorem dX1_advance_118 : dk cX1_advance 118 121 (.invokevirtual 161) 3 := by unfold dk; decide +kernel
theorem dX1_advance_121 : dk cX1_advance 121 122 (.iadd) 1 := by unfold dk; decide +kernel
theorem dX1_advance_122 : dk cX1_advance 122 123 (.iastore) 1 := by unfold dk; decide +kernel
theorem dX1_advance_101 : bk cX1_advance 101 104 123 (.if_icmp .eq 22) (22) := by unfold bk; decide +kernel
theorem dX1_advance_51 : bk cX1_advance 51 54 123 (.goto 72) (72) := by unfold bk; decide +kernel
theorem dX1_advance_123 : dk cX1_advance 123 126 (.iinc 3 1) 3 := by unfold dk; decide +kernel
theorem dX1_advance_126 : bk cX1_advance 126 129 32 (.goto (-94)) (-94) := by unfold bk; decide +kernel
theorem dX1_advance_37 : bk cX1_advance 37 40 129 (.if_icmp .ge 92) (92) := by unfold bk; decide +kernel
theorem dX1_advance_129 : dk cX1_advance 129 130 (.aload_n 0) 1 := by unfold dk; decide +kernel
theorem dX1_advance_130 : dk cX1_advance 130 131 (.aload_n 0) 1 := by unfold dk; decide +kernel
theorem dX1_advance_131 : dk cX1_advance 131 134 (.getfield 139) 3 := by unfold dk; decide +kernel
theorem dX1_advance_134 : dk cX1_advance 134 137 (.putfield 165) 3 := by unfold dk; decide +kernel
theorem dX1_advance_137 : dk cX1_advance 137 138 (.aload_n 0) 1 := by unfold dk; decide +kernel
theorem dX1_advance_138 : dk cX1_advance 138 141 (.getfield 165) 3 := by unfold dk; decide +kernel
theorem dX1_advance_141 : dk cX1_advance 141 142 (.iconst (-1)) 1 := by unfold dk; decide +kernel
theorem dX1_advance_142 : bk cX1_advance 142 145 168 (.if_icmp .eq 26) (26) := by unfold bk; decide +kernel
theorem dX1_advance_145 : dk cX1_advance 145 146 (.aload_n 0) 1 := by unfold dk; decide +kernel
theorem dX1_advance_146 : dk cX1_advance 146 149 (.getfield 48) 3 := by unfold dk; decide +kernel
theorem dX1_advance_149 : dk cX1_advance 149 150 (.aload_n 0) 1 := by unfold dk; decide +kernel
theorem dX1_advance_150 : dk cX1_advance 150 153 (.getfield 165) 3 := by unfold dk; decide +kernel
theorem dX1_advance_153 : dk cX1_advance 153 154 (.iload_n 2) 1 := by unfold dk; decide +kernel
theorem dX1_advance_154 : dk cX1_advance 154 155 (.iastore) 1 := by unfold dk; decide +kernel
theorem dX1_advance_155 : dk cX1_advance 155 156 (.aload_n 0) 1 := by unfold dk; decide +kernel
theorem dX1_advance_156 : dk cX1_advance 156 159 (.getfield 51) 3 := by unfold dk; decide +kernel
theorem dX1_advance_159 : dk cX1_advance 159 160 (.aload_n 0) 1 := by unfold dk; decide +kernel
theorem dX1_advance_160 : dk cX1_advance 160 163 (.getfield 165) 3 := by unfold dk; decide +kernel
theorem dX1_advance_163 : dk cX1_advance 163 164 (.aload_n 0) 1 := by unfold dk; decide +kernel
theorem dX1_advance_164 : dk cX1_advance 164 167 (.getfield 152) 3 := by unfold dk; decide +kernel
theorem dX1_advance_167 : dk cX1_advance 167 168 (.bastore) 1 := by unfold dk; decide +kernel
theorem dX1_advance_168 : dk cX1_advance 168 169 (.aload_n 0) 1 := by unfold dk; decide +kernel
theorem dX1_advance_169 : dk cX1_advance 169 172 (.getfield 17) 3 := by unfold dk; decide +kernel
theorem dX1_advance_172 : dk cX1_advance 172 173 (.aload_n 0) 1 := by unfold dk; decide +kernel
theorem dX1_advance_173 : dk cX1_advance 173 176 (.getfield 74) 3 := by unfold dk; decide +kernel
theorem dX1_advance_176 : dk cX1_advance 176 177 (.aaload) 1 := by unfold dk; decide +kernel
theorem dX1_advance_177 : dk cX1_advance 177 178 (.aload_n 0) 1 := by unfold dk; decide +kernel
theorem dX1_advance_178 : dk cX1_advance 178 181 (.getfield 165) 3 := by unfold dk; decide +kernel
theorem dX1_advance_181 : dk cX1_advance 181 184 (.invokevirtual 110) 3 := by unfold dk; decide +kernel
theorem dX1_advance_184 : dk cX1_advance 184 185 (.aload_n 0) 1 := by unfold dk; decide +kernel
theorem dX1_advance_185 : dk cX1_advance 185 186 (.dup) 1 := by unfold dk; decide +kernel
theorem dX1_advance_186 : dk cX1_advance 186 189 (.getfield 71) 3 := by unfold dk; decide +kernel
theorem dX1_advance_189 : dk cX1_advance 189 190 (.iconst 1) 1 := by unfold dk; decide +kernel
theorem dX1_advance_190 : dk cX1_advance 190 191 (.iadd) 1 := by unfold dk; decide +kernel
theorem dX1_advance_191 : dk cX1_advance 191 194 (.putfield 71) 3 := by unfold dk; decide +kernel
theorem dX1_advance_194 : dk cX1_advance 194 195 (.aload_n 0) 1 := by unfold dk; decide +kernel
theorem dX1_advance_195 : dk cX1_advance 195 198 (.getfield 25) 3 := by unfold dk; decide +kernel
theorem dX1_advance_198 : dk cX1_advance 198 199 (.iconst 0) 1 := by unfold dk; decide +kernel
theorem dX1_advance_199 : dk cX1_advance 199 200 (.dup2) 1 := by unfold dk; decide +kernel
theorem dX1_advance_200 : dk cX1_advance 200 201 (.iaload) 1 := by unfold dk; decide +kernel
theorem dX1_advance_201 : dk cX1_advance 201 202 (.iload_n 2) 1 := by unfold dk; decide +kernel
theorem dX1_advance_202 : dk cX1_advance 202 203 (.iadd) 1 := by unfold dk; decide +kernel
theorem dX1_advance_203 : dk cX1_advance 203 204 (.iastore) 1 := by unfold dk; decide +kernel
theorem dX1_advance_204 : dk cX1_advance 204 205 (.aload_n 0) 1 := by unfold dk; decide +kernel
theorem dX1_advance_205 : dk cX1_advance 205 208 (.getfield 25) 3 := by unfold dk; decide +kernel
theorem dX1_advance_208 : dk cX1_advance 208 209 (.iconst 1) 1 := by unfold dk; decide +kernel
theorem dX1_advance_209 : dk cX1_advance 209 210 (.dup2) 1 := by unfold dk; decide +kernel
theorem dX1_advance_210 : dk cX1_advance 210 211 (.iaload) 1 := by unfold dk; decide +kernel
theorem dX1_advance_211 : dk cX1_advance 211 212 (.iconst 1) 1 := by unfold dk; decide +kernel
theorem dX1_advance_212 : dk cX1_advance 212 213 (.iadd) 1 := by unfold dk; decide +kernel
theorem dX1_advance_213 : dk cX1_advance 213 214 (.iastore) 1 := by unfold dk; decide +kernel
theorem dX1_advance_214 : dk cX1_advance 214 215 (.aload_n 0) 1 := by unfold dk; decide +kernel
theorem dX1_advance_215 : dk cX1_advance 215 218 (.getfield 55) 3 := by unfold dk; decide +kernel
theorem dX1_advance_218 : dk cX1_advance 218 219 (.iconst 1) 1 := by unfold dk; decide +kernel
theorem dX1_advance_219 : bk cX1_advance 219 222 229 (.if_icmp .ne 10) (10) := by unfold bk; decide +kernel
theorem dX1_advance_229 : dk cX1_advance 229 230 (.aload_n 0) 1 := by unfold dk; decide +kernel
theorem dX1_advance_230 : dk cX1_advance 230 233 (.invokevirtual 171) 3 := by unfold dk; decide +kernel
theorem dX1_advance_222 : dk cX1_advance 222 223 (.aload_n 0) 1 := by unfold dk; decide +kernel
theorem dX1_advance_223 : dk cX1_advance 223 226 (.invokevirtual 168) 3 := by unfold dk; decide +kernel
theorem dX1_advance_226 : bk cX1_advance 226 229 233 (.goto 7) (7) := by unfold bk; decide +kernel
theorem dX1_advance_233 : dk cX1_advance 233 234 (.aload_n 0) 1 := by unfold dk; decide +kernel
theorem dX1_advance_234 : dk cX1_advance 234 237 (.invokevirtual 107) 3 := by unfold dk; decide +kernel
theorem dX1_advance_237 : dk cX1_advance 237 238 (.return_) 1 := by unfold dk; decide +kernel
def bX1_advance_32 (E : En) (a0 : Nat) (rec : Int32 → Int32 → Sg → Option ((Int32 × Int32) × Sg)) (v8 : Int32) (v9 : Int32) (s10 : Sg) : Option ((Int32 × Int32) × Sg) := if (gi s10 a0 1) ≤ v9 then (some ((v8, v9), s10)) else (dr (rf E a0 13) E 100 (fun x15 => ck v9 (ln E x15) (bd (if ¬ (gi s10 x15 v9.toNatClampNeg) = (-2 : Int32) then (dr (rf E a0 4) E 104 (fun x19 => ck v9 (ln E x19) (dr (rf E x19 v9.toNatClampNeg) E 5 (fun x21 => bv (fX5_drop E x21 (gi s10 a0 3) s10) (fun s22 => ss (si s22 a0 8 ((gi s22 a0 8) - (1 : Int32))) (fun s24 => ck v9 (ln E x15) (bd (fX1_sizeOf E a0 (gi s24 x15 v9.toNatClampNeg) s24) (fun r28 s26 => lt (v8 + r28) (fun v29 => ck v9 (ln E x15) (bd (fX1_isDown E a0 (gi s26 x15 v9.toNatClampNeg) s26) (fun r33 s31 => if r33 = w3 then (some (v29, s31)) else (dr (rf E a0 12) E 100 (fun x34 => ck (3 : Int32) (ln E x34) (ck v9 (ln E x15) (bd (fX1_sizeOf E a0 (gi s31 x15 v9.toNatClampNeg) s31) (fun r39 s37 => ck (3 : Int32) (ln E x34) (ss (si s37 x34 (3 : Int32).toNatClampNeg ((gi s31 x34 (3 : Int32).toNatClampNeg) + r39)) (fun s41 => some (v29, s41))))))))))))))))))) else (some (v8, s10))) (fun w17 s18 => lt (v9 + (1 : Int32)) (fun v42 => rec w17 v42 s18)))))
def fX1_advance (E : En) (a0 : Nat) (σ : Sg) : Option (Sg) := tk (cd E a0) 1 (bv (fX1_look E a0 σ) (fun s1 => bd (if (gi s1 a0 3) = 0 then (some ((0 : Int32), s1)) else (bd (fX1_isDown E a0 (gi s1 a0 14) s1) (fun r7 s5 => if r7 = 0 then (some ((0 : Int32), s5)) else (some ((1 : Int32), s5))))) (fun w3 s4 => bd (fx (fun rec a => bX1_advance_32 E a0 (fun u0 u1 t => rec ((u0, u1), t)) a.1.1 a.1.2 a.2) FU (((0 : Int32), (0 : Int32)), s4)) (fun o43 s44 => ss (si s44 a0 16 (gi s44 a0 14)) (fun s45 => bd (if (gi s45 a0 16) = (-1 : Int32) then (some ((), s45)) else (dr (rf E a0 5) E 100 (fun x48 => ck (gi s45 a0 16) (ln E x48) (ss (si s45 x48 (gi s45 a0 16).toNatClampNeg o43.1) (fun s50 => dr (rf E a0 6) E 101 (fun x51 => ck (gi s50 a0 16) (ln E x51) (ss (si s50 x51 (gi s50 a0 16).toNatClampNeg (vp_nar .boolean (gi s50 a0 15))) (fun s53 => some ((), s53))))))))) (fun w46 s47 => dr (rf E a0 4) E 104 (fun x54 => ck (gi s47 a0 9) (ln E x54) (dr (rf E x54 (gi s47 a0 9).toNatClampNeg) E 5 (fun x56 => bv (fX5_write E x56 (gi s47 a0 16) s47) (fun s57 => ss (si s57 a0 8 ((gi s57 a0 8) + (1 : Int32))) (fun s59 => dr (rf E a0 12) E 100 (fun x60 => ck (0 : Int32) (ln E x60) (ck (0 : Int32) (ln E x60) (ss (si s59 x60 (0 : Int32).toNatClampNeg ((gi s59 x60 (0 : Int32).toNatClampNeg) + o43.1)) (fun s63 => ck (1 : Int32) (ln E x60) (ck (1 : Int32) (ln E x60) (ss (si s63 x60 (1 : Int32).toNatClampNeg ((gi s63 x60 (1 : Int32).toNatClampNeg) + (1 : Int32))) (fun s66 => bd (if ¬ (gi s66 a0 0) = (1 : Int32) then (bv (fX1_endNumberedPhase E a0 s66) (fun s69 => some ((), s69))) else (bv (fX1_endBalancedPhase E a0 s66) (fun s71 => some ((), s71)))) (fun w67 s68 => bv (fX1_turnLast E a0 s68) (fun s73 => some s73))))))))))))))))))))
set_option maxHeartbeats 4000000 in
set_option maxRecDepth 100000 in
theorem kX1_advance {l : Launch} {G : Gl} {E : En} {a0 : Nat} {σ σ' : Sg} : fX1_advance E a0 σ = some σ' → CT l yX1_advance cX1_advance 4 none ({ frames := 4, cells := 0, slots := 0, locals := 84 } : Room) [.ref (G.1 + a0)] G E σ none σ' := by
  intro h
  refine CT_of (lv0 := [(0, .ref (G.1 + a0))]) (by decide) (Nat.le_of_ble_eq_true rfl) rfl (fun κ hl hR hr C => ?_)
  have C : Cx κ G cX1_advance RX1 4 := C
  revert h
  unfold fX1_advance
  refine R_tk (fun ha0 => ?_)
  refine R_aload_n C 0 rfl dX1_advance_0 ?_
  refine R_bv (fun s1 q2 => ?_)
  refine R_callVv [] [] C ml1_155 (kX1_look q2) (by rw [hR]; exact ⟨rfl, rfl, Nat.le_of_ble_eq_true rfl, Nat.le_of_ble_eq_true rfl, Nat.zero_le _, Nat.zero_le _⟩) ha0 rfl rfl (Nat.le_of_ble_eq_true rfl) dX1_advance_1 ?_
  refine R_aload_n C 0 rfl dX1_advance_4 ?_
  refine R_geti C fl1_61 rfl ha0 dX1_advance_5 ?_
  refine R_bdK (fun (w : Int32) (s : Sg) => V κ G (QQ κ G E none σ') E s (false, 0, 0) 27 [(0, .ref (G.1 + a0))] [.int w]) (fun w3 s4 => ?_) (fun w3 s4 Kw3 => ?_)
  · refine R_istore_n (lv2 := [(1, .int w3), (0, .ref (G.1 + a0))]) C dX1_advance_27 rfl (by decide) rfl ?_
    refine R_iconst C (0) dX1_advance_28 (by decide) ?_
    refine R_istore_n (lv2 := [(2, .int (0 : Int32)), (1, .int w3), (0, .ref (G.1 + a0))]) C dX1_advance_29 rfl (by decide) rfl ?_
    refine R_iconst C (0) dX1_advance_30 (by decide) ?_
    refine R_istore_n (lv2 := [(3, .int (0 : Int32)), (2, .int (0 : Int32)), (1, .int w3), (0, .ref (G.1 + a0))]) C dX1_advance_31 rfl (by decide) rfl ?_
    refine R_loc (lv2 := [(1, .int w3), (0, .ref (G.1 + a0)), (2, .int (0 : Int32)), (3, .int (0 : Int32))]) [2, 3, 1, 0] rfl ?_
    refine R_loop (fun (a : (Int32 × Int32) × Sg) => V κ G (QQ κ G E none σ') E a.2 (false, 0, 0) 32 [(1, .int w3), (0, .ref (G.1 + a0)), (2, .int a.1.1), (3, .int a.1.2)] []) (fun (o : (Int32 × Int32)) (s : Sg) => V κ G (QQ κ G E none σ') E s (false, 0, 0) 129 [(0, .ref (G.1 + a0)), (2, .int o.1)] []) (((0 : Int32), (0 : Int32)), s4) (fun o43 s44 => ?_) (fun rec I14 a b12 s13 K11 => ?_)
    · refine R_aload_n C 0 rfl dX1_advance_129 ?_
      refine R_aload_n C 0 rfl dX1_advance_130 ?_
      refine R_geti C fl1_139 rfl ha0 dX1_advance_131 ?_
      refine S_puti C fl1_165 rfl ha0 rfl rfl dX1_advance_134 (fun s45 => ?_)
      refine R_aload_n C 0 rfl dX1_advance_137 ?_
      refine R_geti C fl1_165 rfl ha0 dX1_advance_138 ?_
      refine R_iconst C (-1) dX1_advance_141 (by decide) ?_
      refine R_bdK (fun (w : Unit) (s : Sg) => V κ G (QQ κ G E none σ') E s (false, 0, 0) 168 [(0, .ref (G.1 + a0)), (2, .int o43.1)] []) (fun w46 s47 => ?_) (fun w46 s47 Kw46 => ?_)
      · refine R_aload_n C 0 rfl dX1_advance_168 ?_
        refine R_dr (fun x54 rx54 cx54 => ?_)
        refine R_getr C fl1_17 rfl ha0 rx54 dX1_advance_169 ?_
        refine R_aload_n C 0 rfl dX1_advance_172 ?_
        refine R_geti C fl1_74 rfl ha0 dX1_advance_173 ?_
        refine R_ck (fun h55 => ?_)
        refine R_dr (fun x56 rx56 cx56 => ?_)
        refine R_aald4 C cx54 h55 rx56 dX1_advance_176 ?_
        refine R_aload_n C 0 rfl dX1_advance_177 ?_
        refine R_geti C fl1_165 rfl ha0 dX1_advance_178 ?_
        refine R_bv (fun s57 q58 => ?_)
        refine R_callVv [.int (gi s47 a0 16)] [] C ml1_110 (kX5_write q58) (by rw [hR]; exact ⟨rfl, rfl, Nat.le_of_ble_eq_true rfl, Nat.le_of_ble_eq_true rfl, Nat.zero_le _, Nat.zero_le _⟩) cx56 rfl rfl (Nat.le_of_ble_eq_true rfl) dX1_advance_181 ?_
        refine R_aload_n C 0 rfl dX1_advance_184 ?_
        refine R_dup C dX1_advance_185 rfl ?_
        refine R_geti C fl1_71 rfl ha0 dX1_advance_186 ?_
        refine R_iconst C (1) dX1_advance_189 (by decide) ?_
        refine R_iadd C dX1_advance_190 ?_
        refine S_puti C fl1_71 rfl ha0 rfl rfl dX1_advance_191 (fun s59 => ?_)
        refine R_aload_n C 0 rfl dX1_advance_194 ?_
        refine R_dr (fun x60 rx60 cx60 => ?_)
        refine R_getr C fl1_25 rfl ha0 rx60 dX1_advance_195 ?_
        refine R_iconst C (0) dX1_advance_198 (by decide) ?_
        refine R_dup2 C dX1_advance_199 rfl rfl ?_
        refine R_ck (fun h61 => ?_)
        refine R_iald C cx60 h61 dX1_advance_200 ?_
        refine R_iload_n C 1 rfl dX1_advance_201 ?_
        refine R_iadd C dX1_advance_202 ?_
        refine R_ck (fun h62 => ?_)
        refine S_iast C cx60 h62 dX1_advance_203 (fun s63 => ?_)
        refine R_aload_n C 0 rfl dX1_advance_204 ?_
        refine R_getr C fl1_25 rfl ha0 rx60 dX1_advance_205 ?_
        refine R_iconst C (1) dX1_advance_208 (by decide) ?_
        refine R_dup2 C dX1_advance_209 rfl rfl ?_
        refine R_ck (fun h64 => ?_)
        refine R_iald C cx60 h64 dX1_advance_210 ?_
        refine R_iconst C (1) dX1_advance_211 (by decide) ?_
        refine R_iadd C dX1_advance_212 ?_
        refine R_ck (fun h65 => ?_)
        refine S_iast C cx60 h65 dX1_advance_213 (fun s66 => ?_)
        refine R_aload_n C 0 rfl dX1_advance_214 ?_
        refine R_geti C fl1_55 rfl ha0 dX1_advance_215 ?_
        refine R_iconst C (1) dX1_advance_218 (by decide) ?_
        refine R_bdK (fun (w : Unit) (s : Sg) => V κ G (QQ κ G E none σ') E s (false, 0, 0) 233 [(0, .ref (G.1 + a0))] []) (fun w67 s68 => ?_) (fun w67 s68 Kw67 => ?_)
        · refine R_aload_n C 0 rfl dX1_advance_233 ?_
          refine R_bv (fun s73 q74 => ?_)
          refine R_callVv [] [] C ml1_107 (kX1_turnLast q74) (by rw [hR]; exact ⟨rfl, rfl, Nat.le_of_ble_eq_true rfl, Nat.le_of_ble_eq_true rfl, Nat.zero_le _, Nat.zero_le _⟩) ha0 rfl rfl (Nat.le_of_ble_eq_true rfl) dX1_advance_234 ?_
          exact R_vret C hr dX1_advance_237
        · refine B_icmp_ne C dX1_advance_219 ?_ ?_
          · refine R_aload_n C 0 rfl dX1_advance_229 ?_
            refine R_bv (fun s69 q70 => ?_)
            refine R_callVv [] [] C ml1_171 (kX1_endNumberedPhase q70) (by rw [hR]; exact ⟨rfl, rfl, Nat.le_of_ble_eq_true rfl, Nat.le_of_ble_eq_true rfl, Nat.zero_le _, Nat.zero_le _⟩) ha0 rfl rfl (Nat.le_of_ble_eq_true rfl) dX1_advance_230 ?_
            refine R_loc (lv2 := [(0, .ref (G.1 + a0))]) [0] rfl ?_
            exact R_end (fun (w : Unit) (s : Sg) => V κ G (QQ κ G E none σ') E s (false, 0, 0) 233 [(0, .ref (G.1 + a0))] []) Kw67
          · refine R_aload_n C 0 rfl dX1_advance_222 ?_
            refine R_bv (fun s71 q72 => ?_)
            refine R_callVv [] [] C ml1_168 (kX1_endBalancedPhase q72) (by rw [hR]; exact ⟨rfl, rfl, Nat.le_of_ble_eq_true rfl, Nat.le_of_ble_eq_true rfl, Nat.zero_le _, Nat.zero_le _⟩) ha0 rfl rfl (Nat.le_of_ble_eq_true rfl) dX1_advance_223 ?_
            refine R_goto C dX1_advance_226 ?_
            refine R_loc (lv2 := [(0, .ref (G.1 + a0))]) [0] rfl ?_
            exact R_end (fun (w : Unit) (s : Sg) => V κ G (QQ κ G E none σ') E s (false, 0, 0) 233 [(0, .ref (G.1 + a0))] []) Kw67
      · refine B_icmp_eq C dX1_advance_142 ?_ ?_
        · exact R_end (fun (w : Unit) (s : Sg) => V κ G (QQ κ G E none σ') E s (false, 0, 0) 168 [(0, .ref (G.1 + a0)), (2, .int o43.1)] []) Kw46
        · refine R_aload_n C 0 rfl dX1_advance_145 ?_
          refine R_dr (fun x48 rx48 cx48 => ?_)
          refine R_getr C fl1_48 rfl ha0 rx48 dX1_advance_146 ?_
          refine R_aload_n C 0 rfl dX1_advance_149 ?_
          refine R_geti C fl1_165 rfl ha0 dX1_advance_150 ?_
          refine R_iload_n C 1 rfl dX1_advance_153 ?_
          refine R_ck (fun h49 => ?_)
          refine S_iast C cx48 h49 dX1_advance_154 (fun s50 => ?_)
          refine R_aload_n C 0 rfl dX1_advance_155 ?_
          refine R_dr (fun x51 rx51 cx51 => ?_)
          refine R_getr C fl1_51 rfl ha0 rx51 dX1_advance_156 ?_
          refine R_aload_n C 0 rfl dX1_advance_159 ?_
          refine R_geti C fl1_165 rfl ha0 dX1_advance_160 ?_
          refine R_aload_n C 0 rfl dX1_advance_163 ?_
          refine R_geti C fl1_152 rfl ha0 dX1_advance_164 ?_
          refine R_ck (fun h52 => ?_)
          refine S_zast C cx51 h52 dX1_advance_167 (fun s53 => ?_)
          exact R_end (fun (w : Unit) (s : Sg) => V κ G (QQ κ G E none σ') E s (false, 0, 0) 168 [(0, .ref (G.1 + a0)), (2, .int o43.1)] []) Kw46
    · obtain ⟨⟨v8, v9⟩, s10⟩ := a
      show bX1_advance_32 E a0 (fun u0 u1 t => rec ((u0, u1), t)) v8 v9 s10 = some (b12, s13) → V κ G (QQ κ G E none σ') E s10 (false, 0, 0) 32 [(1, .int w3), (0, .ref (G.1 + a0)), (2, .int v8), (3, .int v9)] []
      unfold bX1_advance_32
      refine R_iload_n C 3 rfl dX1_advance_32 ?_
      refine R_aload_n C 1 rfl dX1_advance_33 ?_
      refine R_geti C fl1_58 rfl ha0 dX1_advance_34 ?_
      refine B_icmp_ge C dX1_advance_37 ?_ ?_
      · refine R_loc (lv2 := [(0, .ref (G.1 + a0)), (2, .int v8)]) [1, 2] rfl ?_
        exact R_end (fun (o : (Int32 × Int32)) (s : Sg) => V κ G (QQ κ G E none σ') E s (false, 0, 0) 129 [(0, .ref (G.1 + a0)), (2, .int o.1)] []) K11
      · refine R_aload_n C 1 rfl dX1_advance_40 ?_
        refine R_dr (fun x15 rx15 cx15 => ?_)
        refine R_getr C fl1_29 rfl ha0 rx15 dX1_advance_41 ?_
        refine R_iload_n C 3 rfl dX1_advance_44 ?_
        refine R_ck (fun h16 => ?_)
        refine R_iald C cx15 h16 dX1_advance_45 ?_
        refine R_bipush C (-2) dX1_advance_46 (by decide) ?_
        refine R_bdK (fun (w : Int32) (s : Sg) => V κ G (QQ κ G E none σ') E s (false, 0, 0) 123 [(1, .int w3), (0, .ref (G.1 + a0)), (3, .int v9), (2, .int w)] []) (fun w17 s18 => ?_) (fun w17 s18 Kw17 => ?_)
        · refine S_iinc (fun v42 => [(3, .int v42), (1, .int w3), (0, .ref (G.1 + a0)), (2, .int w17)]) 2 C dX1_advance_123 rfl (by decide) (by decide) (fun _ => rfl) (fun v42 => ?_)
          refine R_goto C dX1_advance_126 ?_
          refine R_loc (lv2 := [(1, .int w3), (0, .ref (G.1 + a0)), (2, .int w17), (3, .int v42)]) [1, 2, 3, 0] rfl ?_
          exact I14 ((w17, v42), s18) b12 s13 K11
        · refine B_icmp_ne C dX1_advance_48 ?_ ?_
          · refine R_aload_n C 1 rfl dX1_advance_54 ?_
            refine R_dr (fun x19 rx19 cx19 => ?_)
            refine R_getr C fl1_17 rfl ha0 rx19 dX1_advance_55 ?_
            refine R_iload_n C 3 rfl dX1_advance_58 ?_
            refine R_ck (fun h20 => ?_)
            refine R_dr (fun x21 rx21 cx21 => ?_)
            refine R_aald4 C cx19 h20 rx21 dX1_advance_59 ?_
            refine R_aload_n C 1 rfl dX1_advance_60 ?_
            refine R_geti C fl1_61 rfl ha0 dX1_advance_61 ?_
            refine R_bv (fun s22 q23 => ?_)
            refine R_callVv [.int (gi s10 a0 3)] [] C ml1_158 (kX5_drop q23) (by rw [hR]; exact ⟨rfl, rfl, Nat.le_of_ble_eq_true rfl, Nat.le_of_ble_eq_true rfl, Nat.zero_le _, Nat.zero_le _⟩) cx21 rfl rfl (Nat.le_of_ble_eq_true rfl) dX1_advance_64 ?_
            refine R_aload_n C 1 rfl dX1_advance_67 ?_
            refine R_dup C dX1_advance_68 rfl ?_
            refine R_geti C fl1_71 rfl ha0 dX1_advance_69 ?_
            refine R_iconst C (1) dX1_advance_72 (by decide) ?_
            refine R_isub C dX1_advance_73 ?_
            refine S_puti C fl1_71 rfl ha0 rfl rfl dX1_advance_74 (fun s24 => ?_)
            refine R_iload_n C 2 rfl dX1_advance_77 ?_
            refine R_aload_n C 1 rfl dX1_advance_78 ?_
            refine R_aload_n C 1 rfl dX1_advance_79 ?_
            refine R_getr C fl1_29 rfl ha0 rx15 dX1_advance_80 ?_
            refine R_iload_n C 3 rfl dX1_advance_83 ?_
            refine R_ck (fun h25 => ?_)
            refine R_iald C cx15 h25 dX1_advance_84 ?_
            refine R_bd (fun r28 s26 q27 => ?_)
            refine R_callVi [.int (gi s24 x15 v9.toNatClampNeg)] [.int v8] C ml1_161 (kX1_sizeOf q27) (by rw [hR]; exact ⟨rfl, rfl, Nat.le_of_ble_eq_true rfl, Nat.le_of_ble_eq_true rfl, Nat.zero_le _, Nat.zero_le _⟩) ha0 rfl rfl (Nat.le_of_ble_eq_true rfl) dX1_advance_85 ?_
            refine R_iadd C dX1_advance_88 ?_
            refine S_istore_n C dX1_advance_89 rfl (fun v29 => [(2, .int v29), (1, .int w3), (0, .ref (G.1 + a0)), (3, .int v9)]) (by decide) (fun _ => rfl) (fun v29 => ?_)
            refine R_aload_n C 2 rfl dX1_advance_90 ?_
            refine R_aload_n C 2 rfl dX1_advance_91 ?_
            refine R_getr C fl1_29 rfl ha0 rx15 dX1_advance_92 ?_
            refine R_iload_n C 3 rfl dX1_advance_95 ?_
            refine R_ck (fun h30 => ?_)
            refine R_iald C cx15 h30 dX1_advance_96 ?_
            refine R_bd (fun r33 s31 q32 => ?_)
            refine R_callVi [.int (gi s26 x15 v9.toNatClampNeg)] [] C ml1_149 (kX1_isDown q32) (by rw [hR]; exact ⟨rfl, rfl, Nat.le_of_ble_eq_true rfl, Nat.le_of_ble_eq_true rfl, Nat.zero_le _, Nat.zero_le _⟩) ha0 rfl rfl (Nat.le_of_ble_eq_true rfl) dX1_advance_97 ?_
            refine R_iload_n C 1 rfl dX1_advance_100 ?_
            refine B_icmp_eq C dX1_advance_101 ?_ ?_
            · refine R_loc (lv2 := [(1, .int w3), (0, .ref (G.1 + a0)), (3, .int v9), (2, .int v29)]) [1, 2, 3, 0] rfl ?_
              exact R_end (fun (w : Int32) (s : Sg) => V κ G (QQ κ G E none σ') E s (false, 0, 0) 123 [(1, .int w3), (0, .ref (G.1 + a0)), (3, .int v9), (2, .int w)] []) Kw17
            · refine R_aload_n C 2 rfl dX1_advance_104 ?_
              refine R_dr (fun x34 rx34 cx34 => ?_)
              refine R_getr C fl1_25 rfl ha0 rx34 dX1_advance_105 ?_
              refine R_iconst C (3) dX1_advance_108 (by decide) ?_
              refine R_dup2 C dX1_advance_109 rfl rfl ?_
              refine R_ck (fun h35 => ?_)
              refine R_iald C cx34 h35 dX1_advance_110 ?_
              refine R_aload_n C 2 rfl dX1_advance_111 ?_
              refine R_aload_n C 2 rfl dX1_advance_112 ?_
              refine R_getr C fl1_29 rfl ha0 rx15 dX1_advance_113 ?_
              refine R_iload_n C 3 rfl dX1_advance_116 ?_
              refine R_ck (fun h36 => ?_)
              refine R_iald C cx15 h36 dX1_advance_117 ?_
              refine R_bd (fun r39 s37 q38 => ?_)
              refine R_callVi [.int (gi s31 x15 v9.toNatClampNeg)] [.int (gi s31 x34 (3 : Int32).toNatClampNeg), .int (3 : Int32), .ref (G.1 + x34)] C ml1_161 (kX1_sizeOf q38) (by rw [hR]; exact ⟨rfl, rfl, Nat.le_of_ble_eq_true rfl, Nat.le_of_ble_eq_true rfl, Nat.zero_le _, Nat.zero_le _⟩) ha0 rfl rfl (Nat.le_of_ble_eq_true rfl) dX1_advance_118 ?_
              refine R_iadd C dX1_advance_121 ?_
              refine R_ck (fun h40 => ?_)
              refine S_iast C cx34 h40 dX1_advance_122 (fun s41 => ?_)
              refine R_loc (lv2 := [(1, .int w3), (0, .ref (G.1 + a0)), (3, .int v9), (2, .int v29)]) [1, 2, 3, 0] rfl ?_
              exact R_end (fun (w : Int32) (s : Sg) => V κ G (QQ κ G E none σ') E s (false, 0, 0) 123 [(1, .int w3), (0, .ref (G.1 + a0)), (3, .int v9), (2, .int w)] []) Kw17
          · refine R_goto C dX1_advance_51 ?_
            refine R_loc (lv2 := [(1, .int w3), (0, .ref (G.1 + a0)), (3, .int v9), (2, .int v8)]) [0, 1, 3, 2] rfl ?_
            exact R_end (fun (w : Int32) (s : Sg) => V κ G (QQ κ G E none σ') E s (false, 0, 0) 123 [(1, .int w3), (0, .ref (G.1 + a0)), (3, .int v9), (2, .int w)] []) Kw17
  · refine B_if_eq C dX1_advance_8 ?_ ?_
    · refine R_iconst C (0) dX1_advance_26 (by decide) ?_
      exact R_end (fun (w : Int32) (s : Sg) => V κ G (QQ κ G E none σ') E s (false, 0, 0) 27 [(0, .ref (G.1 + a0))] [.int w]) Kw3
    · refine R_aload_n C 0 rfl dX1_advance_11 ?_
      refine R_aload_n C 0 rfl dX1_advance_12 ?_
      refine R_geti C fl1_139 rfl ha0 dX1_advance_13 ?_
      refine R_bd (fun r7 s5 q6 => ?_)
      refine R_callVi [.int (gi s1 a0 14)] [] C ml1_149 (kX1_isDown q6) (by rw [hR]; exact ⟨rfl, rfl, Nat.le_of_ble_eq_true rfl, Nat.le_of_ble_eq_true rfl, Nat.zero_le _, Nat.zero_le _⟩) ha0 rfl rfl (Nat.le_of_ble_eq_true rfl) dX1_advance_16 ?_
      refine B_if_eq C dX1_advance_19 ?_ ?_
      · refine R_iconst C (0) dX1_advance_26 (by decide) ?_
        exact R_end (fun (w : Int32) (s : Sg) => V κ G (QQ κ G E none σ') E s (false, 0, 0) 27 [(0, .ref (G.1 + a0))] [.int w]) Kw3
      · refine R_iconst C (1) dX1_advance_22 (by decide) ?_
        refine R_goto C dX1_advance_23 ?_
        exact R_end (fun (w : Int32) (s : Sg) => V κ G (QQ κ G E none σ') E s (false, 0, 0) 27 [(0, .ref (G.1 + a0))] [.int w]) Kw3
theorem dX1_mergeAll_0 : dk cX1_mergeAll 0 1 (.iconst 0) 1 := by unfold dk; decide +kernel
theorem dX1_mergeAll_1 : dk cX1_mergeAll 1 2 (.istore_n 1) 1 := by unfold dk; decide +kernel
theorem dX1_mergeAll_2 : dk cX1_mergeAll 2 3 (.iload_n 1) 1 := by unfold dk; decide +kernel
theorem dX1_mergeAll_3 : dk cX1_mergeAll 3 5 (.ldc 183) 2 := by unfold dk; decide +kernel
theorem dX1_mergeAll_8 : dk cX1_mergeAll 8 9 (.aload_n 0) 1 := by unfold dk; decide +kernel
theorem dX1_mergeAll_9 : dk cX1_mergeAll 9 12 (.getfield 71) 3 := by unfold dk; decide +kernel
theorem dX1_mergeAll_12 : dk cX1_mergeAll 12 13 (.iconst 1) 1 := by unfold dk; decide +kernel
theorem dX1_mergeAll_16 : dk cX1_mergeAll 16 17 (.aload_n 0) 1 := by unfold dk; decide +kernel
theorem dX1_mergeAll_17 : dk cX1_mergeAll 17 20 (.invokevirtual 184) 3 := by unfold dk; decide +kernel
theorem dX1_mergeAll_20 : dk cX1_mergeAll 20 23 (.iinc 1 1) 3 := by unfold dk; decide +kernel
theorem dX1_mergeAll_23 : bk cX1_mergeAll 23 26 2 (.goto (-21)) (-21) := by unfold bk; decide +kernel
theorem dX1_mergeAll_13 : bk cX1_mergeAll 13 16 26 (.if_icmp .le 13) (13) := by unfold bk; decide +kernel
theorem dX1_mergeAll_5 : bk cX1_mergeAll 5 8 26 (.if_icmp .ge 21) (21) := by unfold bk; decide +kernel
theorem dX1_mergeAll_26 : dk cX1_mergeAll 26 27 (.return_) 1 := by unfold dk; decide +kernel
def bX1_mergeAll_2 (E : En) (a0 : Nat) (rec : Int32 → Sg → Option ((Int32) × Sg)) (v1 : Int32) (s2 : Sg) : Option ((Int32) × Sg) := if (100000 : Int32) ≤ v1 then (some (v1, s2)) else (if (gi s2 a0 8) ≤ (1 : Int32) then (some (v1, s2)) else (bv (fX1_advance E a0 s2) (fun s7 => lt (v1 + (1 : Int32)) (fun v9 => rec v9 s7))))
def fX1_mergeAll (E : En) (a0 : Nat) (σ : Sg) : Option (Sg) := tk (cd E a0) 1 (bd (fx (fun rec a => bX1_mergeAll_2 E a0 (fun u0 t => rec (u0, t)) a.1 a.2) FU ((0 : Int32), σ)) (fun o10 s11 => some s11))
set_option maxHeartbeats 4000000 in
set_option maxRecDepth 100000 in
theorem kX1_mergeAll {l : Launch} {G : Gl} {E : En} {a0 : Nat} {σ σ' : Sg} : fX1_mergeAll E a0 σ = some σ' → CT l yX1_mergeAll cX1_mergeAll 2 none ({ frames := 5, cells := 0, slots := 0, locals := 107 } : Room) [.ref (G.1 + a0)] G E σ none σ' := by
  intro h
  refine CT_of (lv0 := [(0, .ref (G.1 + a0))]) (by decide) (Nat.le_of_ble_eq_true rfl) rfl (fun κ hl hR hr C => ?_)
  have C : Cx κ G cX1_mergeAll RX1 2 := C
  revert h
  unfold fX1_mergeAll
  refine R_tk (fun ha0 => ?_)
  refine R_iconst C (0) dX1_mergeAll_0 (by decide) ?_
  refine R_istore_n (lv2 := [(1, .int (0 : Int32)), (0, .ref (G.1 + a0))]) C dX1_mergeAll_1 rfl (by decide) rfl ?_
  refine R_loc (lv2 := [(0, .ref (G.1 + a0)), (1, .int (0 : Int32))]) [1, 0] rfl ?_
  refine R_loop (fun (a : (Int32) × Sg) => V κ G (QQ κ G E none σ') E a.2 (false, 0, 0) 2 [(0, .ref (G.1 + a0)), (1, .int a.1)] []) (fun (o : (Int32)) (s : Sg) => V κ G (QQ κ G E none σ') E s (false, 0, 0) 26 [] []) ((0 : Int32), σ) (fun o10 s11 => ?_) (fun rec I6 a b4 s5 K3 => ?_)
  · exact R_vret C hr dX1_mergeAll_26
  · obtain ⟨v1, s2⟩ := a
    show bX1_mergeAll_2 E a0 (fun u0 t => rec (u0, t)) v1 s2 = some (b4, s5) → V κ G (QQ κ G E none σ') E s2 (false, 0, 0) 2 [(0, .ref (G.1 + a0)), (1, .int v1)] []
    unfold bX1_mergeAll_2
    refine R_iload_n C 1 rfl dX1_mergeAll_2 ?_
    refine R_ldc C cs1_183 dX1_mergeAll_3 ?_
    refine B_icmp_ge C dX1_mergeAll_5 ?_ ?_
    · refine R_loc (lv2 := []) [] rfl ?_
      exact R_end (fun (o : (Int32)) (s : Sg) => V κ G (QQ κ G E none σ') E s (false, 0, 0) 26 [] []) K3
    · refine R_aload_n C 0 rfl dX1_mergeAll_8 ?_
      refine R_geti C fl1_71 rfl ha0 dX1_mergeAll_9 ?_
      refine R_iconst C (1) dX1_mergeAll_12 (by decide) ?_
      refine B_icmp_le C dX1_mergeAll_13 ?_ ?_
      · refine R_loc (lv2 := []) [] rfl ?_
        exact R_end (fun (o : (Int32)) (s : Sg) => V κ G (QQ κ G E none σ') E s (false, 0, 0) 26 [] []) K3
      · refine R_aload_n C 0 rfl dX1_mergeAll_16 ?_
        refine R_bv (fun s7 q8 => ?_)
        refine R_callVv [] [] C ml1_184 (kX1_advance q8) (by rw [hR]; exact ⟨rfl, rfl, Nat.le_of_ble_eq_true rfl, Nat.le_of_ble_eq_true rfl, Nat.zero_le _, Nat.zero_le _⟩) ha0 rfl rfl (Nat.le_of_ble_eq_true rfl) dX1_mergeAll_17 ?_
        refine S_iinc (fun v9 => [(1, .int v9), (0, .ref (G.1 + a0))]) 1 C dX1_mergeAll_20 rfl (by decide) (by decide) (fun _ => rfl) (fun v9 => ?_)
        refine R_goto C dX1_mergeAll_23 ?_
        refine R_loc (lv2 := [(0, .ref (G.1 + a0)), (1, .int v9)]) [1, 0] rfl ?_
        exact I6 (v9, s7) b4 s5 K3
theorem dX1_recordsOn_0 : dk cX1_recordsOn 0 1 (.iconst 0) 1 := by unfold dk; decide +kernel
theorem dX1_recordsOn_1 : dk cX1_recordsOn 1 2 (.istore_n 2) 1 := by unfold dk; decide +kernel
theorem dX1_recordsOn_2 : dk cX1_recordsOn 2 3 (.iconst 0) 1 := by unfold dk; decide +kernel
theorem dX1_recordsOn_3 : dk cX1_recordsOn 3 4 (.istore_n 3) 1 := by unfold dk; decide +kernel
theorem dX1_recordsOn_4 : dk cX1_recordsOn 4 5 (.iload_n 3) 1 := by unfold dk; decide +kernel
theorem dX1_recordsOn_5 : dk cX1_recordsOn 5 6 (.aload_n 0) 1 := by unfold dk; decide +kernel
theorem dX1_recordsOn_6 : dk cX1_recordsOn 6 9 (.getfield 17) 3 := by unfold dk; decide +kernel
theorem dX1_recordsOn_9 : dk cX1_recordsOn 9 10 (.iload_n 1) 1 := by unfold dk; decide +kernel
theorem dX1_recordsOn_10 : dk cX1_recordsOn 10 11 (.aaload) 1 := by unfold dk; decide +kernel
theorem dX1_recordsOn_11 : dk cX1_recordsOn 11 14 (.invokevirtual 136) 3 := by unfold dk; decide +kernel
theorem dX1_recordsOn_17 : dk cX1_recordsOn 17 18 (.iload_n 2) 1 := by unfold dk; decide +kernel
theorem dX1_recordsOn_18 : dk cX1_recordsOn 18 19 (.aload_n 0) 1 := by unfold dk; decide +kernel
theorem dX1_recordsOn_19 : dk cX1_recordsOn 19 20 (.aload_n 0) 1 := by unfold dk; decide +kernel
theorem dX1_recordsOn_20 : dk cX1_recordsOn 20 23 (.getfield 17) 3 := by unfold dk; decide +kernel
theorem dX1_recordsOn_23 : dk cX1_recordsOn 23 24 (.iload_n 1) 1 := by unfold dk; decide +kernel
theorem dX1_recordsOn_24 : dk cX1_recordsOn 24 25 (.aaload) 1 := by unfold dk; decide +kernel
theorem dX1_recordsOn_25 : dk cX1_recordsOn 25 26 (.iload_n 3) 1 := by unfold dk; decide +kernel
theorem dX1_recordsOn_26 : dk cX1_recordsOn 26 27 (.aload_n 0) 1 := by unfold dk; decide +kernel
theorem dX1_recordsOn_27 : dk cX1_recordsOn 27 30 (.getfield 61) 3 := by unfold dk; decide +kernel
theorem dX1_recordsOn_30 : dk cX1_recordsOn 30 33 (.invokevirtual 146) 3 := by unfold dk; decide +kernel
theorem dX1_recordsOn_33 : dk cX1_recordsOn 33 36 (.invokevirtual 161) 3 := by unfold dk; decide +kernel
theorem dX1_recordsOn_36 : dk cX1_recordsOn 36 37 (.iadd) 1 := by unfold dk; decide +kernel
theorem dX1_recordsOn_37 : dk cX1_recordsOn 37 38 (.istore_n 2) 1 := by unfold dk; decide +kernel
theorem dX1_recordsOn_38 : dk cX1_recordsOn 38 41 (.iinc 3 1) 3 := by unfold dk; decide +kernel
theorem dX1_recordsOn_41 : bk cX1_recordsOn 41 44 4 (.goto (-37)) (-37) := by unfold bk; decide +kernel
theorem dX1_recordsOn_14 : bk cX1_recordsOn 14 17 44 (.if_icmp .ge 30) (30) := by unfold bk; decide +kernel
theorem dX1_recordsOn_44 : dk cX1_recordsOn 44 45 (.iload_n 2) 1 := by unfold dk; decide +kernel
theorem dX1_recordsOn_45 : dk cX1_recordsOn 45 46 (.ireturn) 1 := by unfold dk; decide +kernel
def bX1_recordsOn_4 (E : En) (a0 : Nat) (a1 : Int32) (rec : Int32 → Int32 → Sg → Option ((Int32 × Int32) × Sg)) (v1 : Int32) (v2 : Int32) (s3 : Sg) : Option ((Int32 × Int32) × Sg) := dr (rf E a0 4) E 104 (fun x8 => ck a1 (ln E x8) (dr (rf E x8 a1.toNatClampNeg) E 5 (fun x10 => bd (fX5_size E x10 s3) (fun r13 s11 => if r13 ≤ v2 then (some ((v1, v2), s11)) else (ck a1 (ln E x8) (dr (rf E x8 a1.toNatClampNeg) E 5 (fun x15 => bd (fX5_at E x15 v2 (gi s11 a0 3) s11) (fun r18 s16 => bd (fX1_sizeOf E a0 r18 s16) (fun r21 s19 => lt (v1 + r21) (fun v22 => lt (v2 + (1 : Int32)) (fun v23 => rec v22 v23 s19)))))))))))
def fX1_recordsOn (E : En) (a0 : Nat) (a1 : Int32) (σ : Sg) : Option (Int32 × Sg) := tk (cd E a0) 1 (bd (fx (fun rec a => bX1_recordsOn_4 E a0 a1 (fun u0 u1 t => rec ((u0, u1), t)) a.1.1 a.1.2 a.2) FU (((0 : Int32), (0 : Int32)), σ)) (fun o24 s25 => some (o24.1, s25)))
set_option maxHeartbeats 4000000 in
set_option maxRecDepth 100000 in
theorem kX1_recordsOn {l : Launch} {G : Gl} {E : En} {a0 : Nat} {a1 : Int32} {σ σ' : Sg} {r : Int32} : fX1_recordsOn E a0 a1 σ = some (r, σ') → CT l yX1_recordsOn cX1_recordsOn 4 (some .int) ({ frames := 2, cells := 0, slots := 0, locals := 42 } : Room) [.ref (G.1 + a0), .int a1] G E σ (some (.int r)) σ' := by
  intro h
  refine CT_of (lv0 := [(0, .ref (G.1 + a0)), (1, .int a1)]) (by decide) (Nat.le_of_ble_eq_true rfl) rfl (fun κ hl hR hr C => ?_)
  have C : Cx κ G cX1_recordsOn RX1 4 := C
  revert h
  unfold fX1_recordsOn
  refine R_tk (fun ha0 => ?_)
  refine R_iconst C (0) dX1_recordsOn_0 (by decide) ?_
  refine R_istore_n (lv2 := [(2, .int (0 : Int32)), (0, .ref (G.1 + a0)), (1, .int a1)]) C dX1_recordsOn_1 rfl (by decide) rfl ?_
  refine R_iconst C (0) dX1_recordsOn_2 (by decide) ?_
  refine R_istore_n (lv2 := [(3, .int (0 : Int32)), (2, .int (0 : Int32)), (0, .ref (G.1 + a0)), (1, .int a1)]) C dX1_recordsOn_3 rfl (by decide) rfl ?_
  refine R_loc (lv2 := [(0, .ref (G.1 + a0)), (1, .int a1), (2, .int (0 : Int32)), (3, .int (0 : Int32))]) [2, 3, 1, 0] rfl ?_
  refine R_loop (fun (a : (Int32 × Int32) × Sg) => V κ G (QQ κ G E (some (.int r)) σ') E a.2 (false, 0, 0) 4 [(0, .ref (G.1 + a0)), (1, .int a1), (2, .int a.1.1), (3, .int a.1.2)] []) (fun (o : (Int32 × Int32)) (s : Sg) => V κ G (QQ κ G E (some (.int r)) σ') E s (false, 0, 0) 44 [(2, .int o.1)] []) (((0 : Int32), (0 : Int32)), σ) (fun o24 s25 => ?_) (fun rec I7 a b5 s6 K4 => ?_)
  · refine R_iload_n C 0 rfl dX1_recordsOn_44 ?_
    exact R_iret C hr dX1_recordsOn_45
  · obtain ⟨⟨v1, v2⟩, s3⟩ := a
    show bX1_recordsOn_4 E a0 a1 (fun u0 u1 t => rec ((u0, u1), t)) v1 v2 s3 = some (b5, s6) → V κ G (QQ κ G E (some (.int r)) σ') E s3 (false, 0, 0) 4 [(0, .ref (G.1 + a0)), (1, .int a1), (2, .int v1), (3, .int v2)] []
    unfold bX1_recordsOn_4
    refine R_iload_n C 3 rfl dX1_recordsOn_4 ?_
    refine R_aload_n C 0 rfl dX1_recordsOn_5 ?_
    refine R_dr (fun x8 rx8 cx8 => ?_)
    refine R_getr C fl1_17 rfl ha0 rx8 dX1_recordsOn_6 ?_
    refine R_iload_n C 1 rfl dX1_recordsOn_9 ?_
    refine R_ck (fun h9 => ?_)
    refine R_dr (fun x10 rx10 cx10 => ?_)
    refine R_aald4 C cx8 h9 rx10 dX1_recordsOn_10 ?_
    refine R_bd (fun r13 s11 q12 => ?_)
    refine R_callVi [] [.int v2] C ml1_136 (kX5_size q12) (by rw [hR]; exact ⟨rfl, rfl, Nat.le_of_ble_eq_true rfl, Nat.le_of_ble_eq_true rfl, Nat.zero_le _, Nat.zero_le _⟩) cx10 rfl rfl (Nat.le_of_ble_eq_true rfl) dX1_recordsOn_11 ?_
    refine B_icmp_ge C dX1_recordsOn_14 ?_ ?_
    · refine R_loc (lv2 := [(2, .int v1)]) [2] rfl ?_
      exact R_end (fun (o : (Int32 × Int32)) (s : Sg) => V κ G (QQ κ G E (some (.int r)) σ') E s (false, 0, 0) 44 [(2, .int o.1)] []) K4
    · refine R_iload_n C 2 rfl dX1_recordsOn_17 ?_
      refine R_aload_n C 0 rfl dX1_recordsOn_18 ?_
      refine R_aload_n C 0 rfl dX1_recordsOn_19 ?_
      refine R_getr C fl1_17 rfl ha0 rx8 dX1_recordsOn_20 ?_
      refine R_iload_n C 1 rfl dX1_recordsOn_23 ?_
      refine R_ck (fun h14 => ?_)
      refine R_dr (fun x15 rx15 cx15 => ?_)
      refine R_aald4 C cx8 h14 rx15 dX1_recordsOn_24 ?_
      refine R_iload_n C 3 rfl dX1_recordsOn_25 ?_
      refine R_aload_n C 0 rfl dX1_recordsOn_26 ?_
      refine R_geti C fl1_61 rfl ha0 dX1_recordsOn_27 ?_
      refine R_bd (fun r18 s16 q17 => ?_)
      refine R_callVi [.int v2, .int (gi s11 a0 3)] [.ref (G.1 + a0), .int v1] C ml1_146 (kX5_at q17) (by rw [hR]; exact ⟨rfl, rfl, Nat.le_of_ble_eq_true rfl, Nat.le_of_ble_eq_true rfl, Nat.zero_le _, Nat.zero_le _⟩) cx15 rfl rfl (Nat.le_of_ble_eq_true rfl) dX1_recordsOn_30 ?_
      refine R_bd (fun r21 s19 q20 => ?_)
      refine R_callVi [.int r18] [.int v1] C ml1_161 (kX1_sizeOf q20) (by rw [hR]; exact ⟨rfl, rfl, Nat.le_of_ble_eq_true rfl, Nat.le_of_ble_eq_true rfl, Nat.zero_le _, Nat.zero_le _⟩) ha0 rfl rfl (Nat.le_of_ble_eq_true rfl) dX1_recordsOn_33 ?_
      refine R_iadd C dX1_recordsOn_36 ?_
      refine S_istore_n C dX1_recordsOn_37 rfl (fun v22 => [(2, .int v22), (0, .ref (G.1 + a0)), (1, .int a1), (3, .int v2)]) (by decide) (fun _ => rfl) (fun v22 => ?_)
      refine S_iinc (fun v23 => [(3, .int v23), (2, .int v22), (0, .ref (G.1 + a0)), (1, .int a1)]) 3 C dX1_recordsOn_38 rfl (by decide) (by decide) (fun _ => rfl) (fun v23 => ?_)
      refine R_goto C dX1_recordsOn_41 ?_
      refine R_loc (lv2 := [(0, .ref (G.1 + a0)), (1, .int a1), (2, .int v22), (3, .int v23)]) [2, 3, 1, 0] rfl ?_
      exact I7 ((v22, v23), s19) b5 s6 K4
theorem dX1_takenFrom_0 : dk cX1_takenFrom 0 1 (.iconst 0) 1 := by unfold dk; decide +kernel
theorem dX1_takenFrom_1 : dk cX1_takenFrom 1 2 (.istore_n 2) 1 := by unfold dk; decide +kernel
theorem dX1_takenFrom_2 : dk cX1_takenFrom 2 3 (.iload_n 2) 1 := by unfold dk; decide +kernel
theorem dX1_takenFrom_3 : dk cX1_takenFrom 3 4 (.aload_n 0) 1 := by unfold dk; decide +kernel
theorem dX1_takenFrom_4 : dk cX1_takenFrom 4 7 (.getfield 58) 3 := by unfold dk; decide +kernel
theorem dX1_takenFrom_10 : dk cX1_takenFrom 10 11 (.iload_n 1) 1 := by unfold dk; decide +kernel
theorem dX1_takenFrom_26 : dk cX1_takenFrom 26 29 (.iinc 2 1) 3 := by unfold dk; decide +kernel
theorem dX1_takenFrom_29 : bk cX1_takenFrom 29 32 2 (.goto (-27)) (-27) := by unfold bk; decide +kernel
theorem dX1_takenFrom_14 : dk cX1_takenFrom 14 15 (.aload_n 0) 1 := by unfold dk; decide +kernel
theorem dX1_takenFrom_15 : dk cX1_takenFrom 15 18 (.getfield 29) 3 := by unfold dk; decide +kernel
theorem dX1_takenFrom_18 : dk cX1_takenFrom 18 19 (.iload_n 2) 1 := by unfold dk; decide +kernel
theorem dX1_takenFrom_19 : dk cX1_takenFrom 19 20 (.iaload) 1 := by unfold dk; decide +kernel
theorem dX1_takenFrom_20 : dk cX1_takenFrom 20 21 (.iload_n 1) 1 := by unfold dk; decide +kernel
theorem dX1_takenFrom_24 : dk cX1_takenFrom 24 25 (.iload_n 2) 1 := by unfold dk; decide +kernel
theorem dX1_takenFrom_25 : dk cX1_takenFrom 25 26 (.ireturn) 1 := by unfold dk; decide +kernel
theorem dX1_takenFrom_21 : bk cX1_takenFrom 21 24 26 (.if_icmp .ne 5) (5) := by unfold bk; decide +kernel
theorem dX1_takenFrom_11 : bk cX1_takenFrom 11 14 26 (.ifCond .lt 15) (15) := by unfold bk; decide +kernel
theorem dX1_takenFrom_7 : bk cX1_takenFrom 7 10 32 (.if_icmp .ge 25) (25) := by unfold bk; decide +kernel
theorem dX1_takenFrom_32 : dk cX1_takenFrom 32 33 (.iconst (-1)) 1 := by unfold dk; decide +kernel
theorem dX1_takenFrom_33 : dk cX1_takenFrom 33 34 (.ireturn) 1 := by unfold dk; decide +kernel
def bX1_takenFrom_2 (E : En) (a0 : Nat) (a1 : Int32) (rec : Int32 → Sg → Option (((Int32) ⊕ Int32) × Sg)) (v1 : Int32) (s2 : Sg) : Option (((Int32) ⊕ Int32) × Sg) := if (gi s2 a0 1) ≤ v1 then (some (.inl v1, s2)) else (if a1 < 0 then (lt (v1 + (1 : Int32)) (fun v7 => rec v7 s2)) else (dr (rf E a0 13) E 100 (fun x8 => ck v1 (ln E x8) (if ¬ (gi s2 x8 v1.toNatClampNeg) = a1 then (lt (v1 + (1 : Int32)) (fun v10 => rec v10 s2)) else (some (.inr v1, s2))))))
def fX1_takenFrom (E : En) (a0 : Nat) (a1 : Int32) (σ : Sg) : Option (Int32 × Sg) := tk (cd E a0) 1 (bd (fx (fun rec a => bX1_takenFrom_2 E a0 a1 (fun u0 t => rec (u0, t)) a.1 a.2) FU ((0 : Int32), σ)) (fun o11 s12 => sm o11 (fun vo11 => some ((-1 : Int32), s12)) (fun rr => some (rr, s12))))
set_option maxHeartbeats 4000000 in
set_option maxRecDepth 100000 in
theorem kX1_takenFrom {l : Launch} {G : Gl} {E : En} {a0 : Nat} {a1 : Int32} {σ σ' : Sg} {r : Int32} : fX1_takenFrom E a0 a1 σ = some (r, σ') → CT l yX1_takenFrom cX1_takenFrom 3 (some .int) ({ frames := 0, cells := 0, slots := 0, locals := 0 } : Room) [.ref (G.1 + a0), .int a1] G E σ (some (.int r)) σ' := by
  intro h
  refine CT_of (lv0 := [(0, .ref (G.1 + a0)), (1, .int a1)]) (by decide) (Nat.le_of_ble_eq_true rfl) rfl (fun κ hl hR hr C => ?_)
  have C : Cx κ G cX1_takenFrom RX1 3 := C
  revert h
  unfold fX1_takenFrom
  refine R_tk (fun ha0 => ?_)
  refine R_iconst C (0) dX1_takenFrom_0 (by decide) ?_
  refine R_istore_n (lv2 := [(2, .int (0 : Int32)), (0, .ref (G.1 + a0)), (1, .int a1)]) C dX1_takenFrom_1 rfl (by decide) rfl ?_
  refine R_loc (lv2 := [(0, .ref (G.1 + a0)), (1, .int a1), (2, .int (0 : Int32))]) [1, 2, 0] rfl ?_
  refine R_loop (fun (a : (Int32) × Sg) => V κ G (QQ κ G E (some (.int r)) σ') E a.2 (false, 0, 0) 2 [(0, .ref (G.1 + a0)), (1, .int a1), (2, .int a.1)] []) (fun (o : ((Int32) ⊕ Int32)) (s : Sg) => sm o (fun o => V κ G (QQ κ G E (some (.int r)) σ') E s (false, 0, 0) 32 [] []) (fun rr => some (rr, s) = some (r, σ'))) ((0 : Int32), σ) (fun o11 s12 => ?_) (fun rec I6 a b4 s5 K3 => ?_)
  · rcases o11 with vo11 | ro11
    · refine R_iconst C (-1) dX1_takenFrom_32 (by decide) ?_
      exact R_iret C hr dX1_takenFrom_33
    · exact fun h => h
  · obtain ⟨v1, s2⟩ := a
    show bX1_takenFrom_2 E a0 a1 (fun u0 t => rec (u0, t)) v1 s2 = some (b4, s5) → V κ G (QQ κ G E (some (.int r)) σ') E s2 (false, 0, 0) 2 [(0, .ref (G.1 + a0)), (1, .int a1), (2, .int v1)] []
    unfold bX1_takenFrom_2
    refine R_iload_n C 2 rfl dX1_takenFrom_2 ?_
    refine R_aload_n C 0 rfl dX1_takenFrom_3 ?_
    refine R_geti C fl1_58 rfl ha0 dX1_takenFrom_4 ?_
    refine B_icmp_ge C dX1_takenFrom_7 ?_ ?_
    · refine R_loc (lv2 := []) [] rfl ?_
      exact R_inr (VX := (fun (o : ((Int32) ⊕ Int32)) (s : Sg) => sm o (fun o => V κ G (QQ κ G E (some (.int r)) σ') E s (false, 0, 0) 32 [] []) (fun rr => some (rr, s) = some (r, σ')))) (i := .inl) K3 (fun h => h)
    · refine R_iload_n C 1 rfl dX1_takenFrom_10 ?_
      refine B_if_lt C dX1_takenFrom_11 ?_ ?_
      · refine S_iinc (fun v7 => [(2, .int v7), (0, .ref (G.1 + a0)), (1, .int a1)]) 2 C dX1_takenFrom_26 rfl (by decide) (by decide) (fun _ => rfl) (fun v7 => ?_)
        refine R_goto C dX1_takenFrom_29 ?_
        refine R_loc (lv2 := [(0, .ref (G.1 + a0)), (1, .int a1), (2, .int v7)]) [1, 2, 0] rfl ?_
        exact I6 (v7, s2) b4 s5 K3
      · refine R_aload_n C 0 rfl dX1_takenFrom_14 ?_
        refine R_dr (fun x8 rx8 cx8 => ?_)
        refine R_getr C fl1_29 rfl ha0 rx8 dX1_takenFrom_15 ?_
        refine R_iload_n C 2 rfl dX1_takenFrom_18 ?_
        refine R_ck (fun h9 => ?_)
        refine R_iald C cx8 h9 dX1_takenFrom_19 ?_
        refine R_iload_n C 1 rfl dX1_takenFrom_20 ?_
        refine B_icmp_ne C dX1_takenFrom_21 ?_ ?_
        · refine S_iinc (fun v10 => [(2, .int v10), (0, .ref (G.1 + a0)), (1, .int a1)]) 2 C dX1_takenFrom_26 rfl (by decide) (by decide) (fun _ => rfl) (fun v10 => ?_)
          refine R_goto C dX1_takenFrom_29 ?_
          refine R_loc (lv2 := [(0, .ref (G.1 + a0)), (1, .int a1), (2, .int v10)]) [1, 2, 0] rfl ?_
          exact I6 (v10, s2) b4 s5 K3
        · refine R_iload_n C 2 rfl dX1_takenFrom_24 ?_
          exact R_inr (VX := (fun (o : ((Int32) ⊕ Int32)) (s : Sg) => sm o (fun o => V κ G (QQ κ G E (some (.int r)) σ') E s (false, 0, 0) 32 [] []) (fun rr => some (rr, s) = some (r, σ')))) (i := .inr) K3 (R_iret C hr dX1_takenFrom_25)
theorem dX1_blocksTaken_0 : dk cX1_blocksTaken 0 1 (.iconst 0) 1 := by unfold dk; decide +kernel
theorem dX1_blocksTaken_1 : dk cX1_blocksTaken 1 2 (.istore_n 2) 1 := by unfold dk; decide +kernel
theorem dX1_blocksTaken_2 : dk cX1_blocksTaken 2 3 (.iconst 0) 1 := by unfold dk; decide +kernel
theorem dX1_blocksTaken_3 : dk cX1_blocksTaken 3 4 (.istore_n 3) 1 := by unfold dk; decide +kernel
theorem dX1_blocksTaken_4 : dk cX1_blocksTaken 4 5 (.iload_n 3) 1 := by unfold dk; decide +kernel
theorem dX1_blocksTaken_5 : dk cX1_blocksTaken 5 6 (.aload_n 0) 1 := by unfold dk; decide +kernel
theorem dX1_blocksTaken_6 : dk cX1_blocksTaken 6 9 (.getfield 58) 3 := by unfold dk; decide +kernel
theorem dX1_blocksTaken_12 : dk cX1_blocksTaken 12 13 (.aload_n 0) 1 := by unfold dk; decide +kernel
theorem dX1_blocksTaken_13 : dk cX1_blocksTaken 13 16 (.getfield 29) 3 := by unfold dk; decide +kernel
theorem dX1_blocksTaken_16 : dk cX1_blocksTaken 16 17 (.iload_n 3) 1 := by unfold dk; decide +kernel
theorem dX1_blocksTaken_17 : dk cX1_blocksTaken 17 18 (.iaload) 1 := by unfold dk; decide +kernel
theorem dX1_blocksTaken_18 : bk cX1_blocksTaken 18 21 44 (.ifCond .lt 26) (26) := by unfold bk; decide +kernel
theorem dX1_blocksTaken_21 : dk cX1_blocksTaken 21 22 (.iload_n 1) 1 := by unfold dk; decide +kernel
theorem dX1_blocksTaken_25 : dk cX1_blocksTaken 25 26 (.iload_n 2) 1 := by unfold dk; decide +kernel
theorem dX1_blocksTaken_26 : dk cX1_blocksTaken 26 27 (.aload_n 0) 1 := by unfold dk; decide +kernel
theorem dX1_blocksTaken_27 : dk cX1_blocksTaken 27 28 (.aload_n 0) 1 := by unfold dk; decide +kernel
theorem dX1_blocksTaken_28 : dk cX1_blocksTaken 28 31 (.getfield 29) 3 := by unfold dk; decide +kernel
theorem dX1_blocksTaken_31 : dk cX1_blocksTaken 31 32 (.iload_n 3) 1 := by unfold dk; decide +kernel
theorem dX1_blocksTaken_32 : dk cX1_blocksTaken 32 33 (.iaload) 1 := by unfold dk; decide +kernel
theorem dX1_blocksTaken_33 : dk cX1_blocksTaken 33 36 (.invokevirtual 161) 3 := by unfold dk; decide +kernel
theorem dX1_blocksTaken_36 : dk cX1_blocksTaken 36 37 (.iload_n 1) 1 := by unfold dk; decide +kernel
theorem dX1_blocksTaken_37 : dk cX1_blocksTaken 37 38 (.iadd) 1 := by unfold dk; decide +kernel
theorem dX1_blocksTaken_38 : dk cX1_blocksTaken 38 39 (.iconst 1) 1 := by unfold dk; decide +kernel
theorem dX1_blocksTaken_39 : dk cX1_blocksTaken 39 40 (.isub) 1 := by unfold dk; decide +kernel
theorem dX1_blocksTaken_40 : dk cX1_blocksTaken 40 41 (.iload_n 1) 1 := by unfold dk; decide +kernel
theorem dX1_blocksTaken_41 : dk cX1_blocksTaken 41 42 (.idiv) 1 := by unfold dk; decide +kernel
theorem dX1_blocksTaken_42 : dk cX1_blocksTaken 42 43 (.iadd) 1 := by unfold dk; decide +kernel
theorem dX1_blocksTaken_43 : dk cX1_blocksTaken 43 44 (.istore_n 2) 1 := by unfold dk; decide +kernel
theorem dX1_blocksTaken_22 : bk cX1_blocksTaken 22 25 44 (.ifCond .le 22) (22) := by unfold bk; decide +kernel
theorem dX1_blocksTaken_44 : dk cX1_blocksTaken 44 47 (.iinc 3 1) 3 := by unfold dk; decide +kernel
theorem dX1_blocksTaken_47 : bk cX1_blocksTaken 47 50 4 (.goto (-43)) (-43) := by unfold bk; decide +kernel
theorem dX1_blocksTaken_9 : bk cX1_blocksTaken 9 12 50 (.if_icmp .ge 41) (41) := by unfold bk; decide +kernel
theorem dX1_blocksTaken_50 : dk cX1_blocksTaken 50 51 (.iload_n 2) 1 := by unfold dk; decide +kernel
theorem dX1_blocksTaken_51 : dk cX1_blocksTaken 51 52 (.ireturn) 1 := by unfold dk; decide +kernel
def bX1_blocksTaken_4 (E : En) (a0 : Nat) (a1 : Int32) (rec : Int32 → Int32 → Sg → Option ((Int32 × Int32) × Sg)) (v1 : Int32) (v2 : Int32) (s3 : Sg) : Option ((Int32 × Int32) × Sg) := if (gi s3 a0 1) ≤ v2 then (some ((v1, v2), s3)) else (dr (rf E a0 13) E 100 (fun x8 => ck v2 (ln E x8) (bd (if (gi s3 x8 v2.toNatClampNeg) < 0 then (some (v1, s3)) else (if a1 ≤ 0 then (some (v1, s3)) else (ck v2 (ln E x8) (bd (fX1_sizeOf E a0 (gi s3 x8 v2.toNatClampNeg) s3) (fun r15 s13 => nz a1 (lt (v1 + (((r15 + a1) - (1 : Int32)) / a1)) (fun v17 => some (v17, s13)))))))) (fun w10 s11 => lt (v2 + (1 : Int32)) (fun v18 => rec w10 v18 s11)))))
def fX1_blocksTaken (E : En) (a0 : Nat) (a1 : Int32) (σ : Sg) : Option (Int32 × Sg) := tk (cd E a0) 1 (bd (fx (fun rec a => bX1_blocksTaken_4 E a0 a1 (fun u0 u1 t => rec ((u0, u1), t)) a.1.1 a.1.2 a.2) FU (((0 : Int32), (0 : Int32)), σ)) (fun o19 s20 => some (o19.1, s20)))
set_option maxHeartbeats 4000000 in
set_option maxRecDepth 100000 in
theorem kX1_blocksTaken {l : Launch} {G : Gl} {E : En} {a0 : Nat} {a1 : Int32} {σ σ' : Sg} {r : Int32} : fX1_blocksTaken E a0 a1 σ = some (r, σ') → CT l yX1_blocksTaken cX1_blocksTaken 4 (some .int) ({ frames := 1, cells := 0, slots := 0, locals := 21 } : Room) [.ref (G.1 + a0), .int a1] G E σ (some (.int r)) σ' := by
  intro h
  refine CT_of (lv0 := [(0, .ref (G.1 + a0)), (1, .int a1)]) (by decide) (Nat.le_of_ble_eq_true rfl) rfl (fun κ hl hR hr C => ?_)
  have C : Cx κ G cX1_blocksTaken RX1 4 := C
  revert h
  unfold fX1_blocksTaken
  refine R_tk (fun ha0 => ?_)
  refine R_iconst C (0) dX1_blocksTaken_0 (by decide) ?_
  refine R_istore_n (lv2 := [(2, .int (0 : Int32)), (0, .ref (G.1 + a0)), (1, .int a1)]) C dX1_blocksTaken_1 rfl (by decide) rfl ?_
  refine R_iconst C (0) dX1_blocksTaken_2 (by decide) ?_
  refine R_istore_n (lv2 := [(3, .int (0 : Int32)), (2, .int (0 : Int32)), (0, .ref (G.1 + a0)), (1, .int a1)]) C dX1_blocksTaken_3 rfl (by decide) rfl ?_
  refine R_loc (lv2 := [(0, .ref (G.1 + a0)), (1, .int a1), (2, .int (0 : Int32)), (3, .int (0 : Int32))]) [2, 3, 1, 0] rfl ?_
  refine R_loop (fun (a : (Int32 × Int32) × Sg) => V κ G (QQ κ G E (some (.int r)) σ') E a.2 (false, 0, 0) 4 [(0, .ref (G.1 + a0)), (1, .int a1), (2, .int a.1.1), (3, .int a.1.2)] []) (fun (o : (Int32 × Int32)) (s : Sg) => V κ G (QQ κ G E (some (.int r)) σ') E s (false, 0, 0) 50 [(2, .int o.1)] []) (((0 : Int32), (0 : Int32)), σ) (fun o19 s20 => ?_) (fun rec I7 a b5 s6 K4 => ?_)
  · refine R_iload_n C 0 rfl dX1_blocksTaken_50 ?_
    exact R_iret C hr dX1_blocksTaken_51
  · obtain ⟨⟨v1, v2⟩, s3⟩ := a
    show bX1_blocksTaken_4 E a0 a1 (fun u0 u1 t => rec ((u0, u1), t)) v1 v2 s3 = some (b5, s6) → V κ G (QQ κ G E (some (.int r)) σ') E s3 (false, 0, 0) 4 [(0, .ref (G.1 + a0)), (1, .int a1), (2, .int v1), (3, .int v2)] []
    unfold bX1_blocksTaken_4
    refine R_iload_n C 3 rfl dX1_blocksTaken_4 ?_
    refine R_aload_n C 0 rfl dX1_blocksTaken_5 ?_
    refine R_geti C fl1_58 rfl ha0 dX1_blocksTaken_6 ?_
    refine B_icmp_ge C dX1_blocksTaken_9 ?_ ?_
    · refine R_loc (lv2 := [(2, .int v1)]) [2] rfl ?_
      exact R_end (fun (o : (Int32 × Int32)) (s : Sg) => V κ G (QQ κ G E (some (.int r)) σ') E s (false, 0, 0) 50 [(2, .int o.1)] []) K4
    · refine R_aload_n C 0 rfl dX1_blocksTaken_12 ?_
      refine R_dr (fun x8 rx8 cx8 => ?_)
      refine R_getr C fl1_29 rfl ha0 rx8 dX1_blocksTaken_13 ?_
      refine R_iload_n C 3 rfl dX1_blocksTaken_16 ?_
      refine R_ck (fun h9 => ?_)
      refine R_iald C cx8 h9 dX1_blocksTaken_17 ?_
      refine R_bdK (fun (w : Int32) (s : Sg) => V κ G (QQ κ G E (some (.int r)) σ') E s (false, 0, 0) 44 [(0, .ref (G.1 + a0)), (1, .int a1), (3, .int v2), (2, .int w)] []) (fun w10 s11 => ?_) (fun w10 s11 Kw10 => ?_)
      · refine S_iinc (fun v18 => [(3, .int v18), (0, .ref (G.1 + a0)), (1, .int a1), (2, .int w10)]) 2 C dX1_blocksTaken_44 rfl (by decide) (by decide) (fun _ => rfl) (fun v18 => ?_)
        refine R_goto C dX1_blocksTaken_47 ?_
        refine R_loc (lv2 := [(0, .ref (G.1 + a0)), (1, .int a1), (2, .int w10), (3, .int v18)]) [1, 2, 3, 0] rfl ?_
        exact I7 ((w10, v18), s11) b5 s6 K4
      · refine B_if_lt C dX1_blocksTaken_18 ?_ ?_
        · refine R_loc (lv2 := [(0, .ref (G.1 + a0)), (1, .int a1), (3, .int v2), (2, .int v1)]) [0, 1, 3, 2] rfl ?_
          exact R_end (fun (w : Int32) (s : Sg) => V κ G (QQ κ G E (some (.int r)) σ') E s (false, 0, 0) 44 [(0, .ref (G.1 + a0)), (1, .int a1), (3, .int v2), (2, .int w)] []) Kw10
        · refine R_iload_n C 1 rfl dX1_blocksTaken_21 ?_
          refine B_if_le C dX1_blocksTaken_22 ?_ ?_
          · refine R_loc (lv2 := [(0, .ref (G.1 + a0)), (1, .int a1), (3, .int v2), (2, .int v1)]) [0, 1, 3, 2] rfl ?_
            exact R_end (fun (w : Int32) (s : Sg) => V κ G (QQ κ G E (some (.int r)) σ') E s (false, 0, 0) 44 [(0, .ref (G.1 + a0)), (1, .int a1), (3, .int v2), (2, .int w)] []) Kw10
          · refine R_iload_n C 2 rfl dX1_blocksTaken_25 ?_
            refine R_aload_n C 0 rfl dX1_blocksTaken_26 ?_
            refine R_aload_n C 0 rfl dX1_blocksTaken_27 ?_
            refine R_getr C fl1_29 rfl ha0 rx8 dX1_blocksTaken_28 ?_
            refine R_iload_n C 3 rfl dX1_blocksTaken_31 ?_
            refine R_ck (fun h12 => ?_)
            refine R_iald C cx8 h12 dX1_blocksTaken_32 ?_
            refine R_bd (fun r15 s13 q14 => ?_)
            refine R_callVi [.int (gi s3 x8 v2.toNatClampNeg)] [.int v1] C ml1_161 (kX1_sizeOf q14) (by rw [hR]; exact ⟨rfl, rfl, Nat.le_of_ble_eq_true rfl, Nat.le_of_ble_eq_true rfl, Nat.zero_le _, Nat.zero_le _⟩) ha0 rfl rfl (Nat.le_of_ble_eq_true rfl) dX1_blocksTaken_33 ?_
            refine R_iload_n C 1 rfl dX1_blocksTaken_36 ?_
            refine R_iadd C dX1_blocksTaken_37 ?_
            refine R_iconst C (1) dX1_blocksTaken_38 (by decide) ?_
            refine R_isub C dX1_blocksTaken_39 ?_
            refine R_iload_n C 1 rfl dX1_blocksTaken_40 ?_
            refine R_nz (fun h16 => ?_)
            refine R_idiv C dX1_blocksTaken_41 h16 ?_
            refine R_iadd C dX1_blocksTaken_42 ?_
            refine S_istore_n C dX1_blocksTaken_43 rfl (fun v17 => [(2, .int v17), (0, .ref (G.1 + a0)), (1, .int a1), (3, .int v2)]) (by decide) (fun _ => rfl) (fun v17 => ?_)
            refine R_loc (lv2 := [(0, .ref (G.1 + a0)), (1, .int a1), (3, .int v2), (2, .int v17)]) [1, 2, 3, 0] rfl ?_
            exact R_end (fun (w : Int32) (s : Sg) => V κ G (QQ κ G E (some (.int r)) σ') E s (false, 0, 0) 44 [(0, .ref (G.1 + a0)), (1, .int a1), (3, .int v2), (2, .int w)] []) Kw10
theorem dX1_stand_0 : dk cX1_stand 0 1 (.lconst 0) 1 := by unfold dk; decide +kernel
theorem dX1_stand_1 : dk cX1_stand 1 2 (.lstore_n 1) 1 := by unfold dk; decide +kernel
theorem dX1_stand_2 : dk cX1_stand 2 3 (.iconst 0) 1 := by unfold dk; decide +kernel
theorem dX1_stand_3 : dk cX1_stand 3 4 (.istore_n 3) 1 := by unfold dk; decide +kernel
theorem dX1_stand_4 : dk cX1_stand 4 5 (.iload_n 3) 1 := by unfold dk; decide +kernel
theorem dX1_stand_5 : dk cX1_stand 5 6 (.aload_n 0) 1 := by unfold dk; decide +kernel
theorem dX1_stand_6 : dk cX1_stand 6 9 (.getfield 58) 3 := by unfold dk; decide +kernel
theorem dX1_stand_12 : dk cX1_stand 12 13 (.lload_n 1) 1 := by unfold dk; decide +kernel
theorem dX1_stand_13 : dk cX1_stand 13 16 (.ldc2_w 187) 3 := by unfold dk; decide +kernel
theorem dX1_stand_16 : dk cX1_stand 16 17 (.lmul) 1 := by unfold dk; decide +kernel
theorem dX1_stand_17 : dk cX1_stand 17 18 (.aload_n 0) 1 := by unfold dk; decide +kernel
theorem dX1_stand_18 : dk cX1_stand 18 21 (.getfield 17) 3 := by unfold dk; decide +kernel
theorem dX1_stand_21 : dk cX1_stand 21 22 (.iload_n 3) 1 := by unfold dk; decide +kernel
theorem dX1_stand_22 : dk cX1_stand 22 23 (.aaload) 1 := by unfold dk; decide +kernel
theorem dX1_stand_23 : dk cX1_stand 23 26 (.invokevirtual 136) 3 := by unfold dk; decide +kernel
theorem dX1_stand_26 : dk cX1_stand 26 27 (.i2l) 1 := by unfold dk; decide +kernel
theorem dX1_stand_27 : dk cX1_stand 27 28 (.ladd) 1 := by unfold dk; decide +kernel
theorem dX1_stand_28 : dk cX1_stand 28 29 (.lstore_n 1) 1 := by unfold dk; decide +kernel
theorem dX1_stand_29 : dk cX1_stand 29 32 (.iinc 3 1) 3 := by unfold dk; decide +kernel
theorem dX1_stand_32 : bk cX1_stand 32 35 4 (.goto (-28)) (-28) := by unfold bk; decide +kernel
theorem dX1_stand_9 : bk cX1_stand 9 12 35 (.if_icmp .ge 26) (26) := by unfold bk; decide +kernel
theorem dX1_stand_35 : dk cX1_stand 35 36 (.lload_n 1) 1 := by unfold dk; decide +kernel
theorem dX1_stand_36 : dk cX1_stand 36 37 (.lreturn) 1 := by unfold dk; decide +kernel
def bX1_stand_4 (E : En) (a0 : Nat) (rec : Int64 → Int32 → Sg → Option ((Int64 × Int32) × Sg)) (v1 : Int64) (v2 : Int32) (s3 : Sg) : Option ((Int64 × Int32) × Sg) := if (gi s3 a0 1) ≤ v2 then (some ((v1, v2), s3)) else (dr (rf E a0 4) E 104 (fun x8 => ck v2 (ln E x8) (dr (rf E x8 v2.toNatClampNeg) E 5 (fun x10 => bd (fX5_size E x10 s3) (fun r13 s11 => lt ((v1 * (1024 : Int64)) + (r13.toInt64)) (fun v14 => lt (v2 + (1 : Int32)) (fun v15 => rec v14 v15 s11)))))))
def fX1_stand (E : En) (a0 : Nat) (σ : Sg) : Option (Int64 × Sg) := tk (cd E a0) 1 (bd (fx (fun rec a => bX1_stand_4 E a0 (fun u0 u1 t => rec ((u0, u1), t)) a.1.1 a.1.2 a.2) FU (((0 : Int64), (0 : Int32)), σ)) (fun o16 s17 => some (o16.1, s17)))
set_option maxHeartbeats 4000000 in
set_option maxRecDepth 100000 in
theorem kX1_stand {l : Launch} {G : Gl} {E : En} {a0 : Nat} {σ σ' : Sg} {r : Int64} : fX1_stand E a0 σ = some (r, σ') → CT l yX1_stand cX1_stand 4 (some .long) ({ frames := 1, cells := 0, slots := 0, locals := 20 } : Room) [.ref (G.1 + a0)] G E σ (some (.long r)) σ' := by
  intro h
  refine CT_of (lv0 := [(0, .ref (G.1 + a0))]) (by decide) (Nat.le_of_ble_eq_true rfl) rfl (fun κ hl hR hr C => ?_)
  have C : Cx κ G cX1_stand RX1 4 := C
  revert h
  unfold fX1_stand
  refine R_tk (fun ha0 => ?_)
  refine R_lconst C (0) dX1_stand_0 (by decide) ?_
  refine R_lstore_n (lv2 := [(1, .long (0 : Int64)), (0, .ref (G.1 + a0))]) C dX1_stand_1 rfl (by decide) rfl ?_
  refine R_iconst C (0) dX1_stand_2 (by decide) ?_
  refine R_istore_n (lv2 := [(3, .int (0 : Int32)), (1, .long (0 : Int64)), (0, .ref (G.1 + a0))]) C dX1_stand_3 rfl (by decide) rfl ?_
  refine R_loc (lv2 := [(0, .ref (G.1 + a0)), (1, .long (0 : Int64)), (3, .int (0 : Int32))]) [2, 1, 0] rfl ?_
  refine R_loop (fun (a : (Int64 × Int32) × Sg) => V κ G (QQ κ G E (some (.long r)) σ') E a.2 (false, 0, 0) 4 [(0, .ref (G.1 + a0)), (1, .long a.1.1), (3, .int a.1.2)] []) (fun (o : (Int64 × Int32)) (s : Sg) => V κ G (QQ κ G E (some (.long r)) σ') E s (false, 0, 0) 35 [(1, .long o.1)] []) (((0 : Int64), (0 : Int32)), σ) (fun o16 s17 => ?_) (fun rec I7 a b5 s6 K4 => ?_)
  · refine R_lload_n C 0 rfl dX1_stand_35 ?_
    exact R_lret C hr dX1_stand_36
  · obtain ⟨⟨v1, v2⟩, s3⟩ := a
    show bX1_stand_4 E a0 (fun u0 u1 t => rec ((u0, u1), t)) v1 v2 s3 = some (b5, s6) → V κ G (QQ κ G E (some (.long r)) σ') E s3 (false, 0, 0) 4 [(0, .ref (G.1 + a0)), (1, .long v1), (3, .int v2)] []
    unfold bX1_stand_4
    refine R_iload_n C 2 rfl dX1_stand_4 ?_
    refine R_aload_n C 0 rfl dX1_stand_5 ?_
    refine R_geti C fl1_58 rfl ha0 dX1_stand_6 ?_
    refine B_icmp_ge C dX1_stand_9 ?_ ?_
    · refine R_loc (lv2 := [(1, .long v1)]) [1] rfl ?_
      exact R_end (fun (o : (Int64 × Int32)) (s : Sg) => V κ G (QQ κ G E (some (.long r)) σ') E s (false, 0, 0) 35 [(1, .long o.1)] []) K4
    · refine R_lload_n C 1 rfl dX1_stand_12 ?_
      refine R_ldc2 C cs1_187 dX1_stand_13 ?_
      refine R_lmul C dX1_stand_16 ?_
      refine R_aload_n C 0 rfl dX1_stand_17 ?_
      refine R_dr (fun x8 rx8 cx8 => ?_)
      refine R_getr C fl1_17 rfl ha0 rx8 dX1_stand_18 ?_
      refine R_iload_n C 2 rfl dX1_stand_21 ?_
      refine R_ck (fun h9 => ?_)
      refine R_dr (fun x10 rx10 cx10 => ?_)
      refine R_aald4 C cx8 h9 rx10 dX1_stand_22 ?_
      refine R_bd (fun r13 s11 q12 => ?_)
      refine R_callVi [] [.long (v1 * (1024 : Int64))] C ml1_136 (kX5_size q12) (by rw [hR]; exact ⟨rfl, rfl, Nat.le_of_ble_eq_true rfl, Nat.le_of_ble_eq_true rfl, Nat.zero_le _, Nat.zero_le _⟩) cx10 rfl rfl (Nat.le_of_ble_eq_true rfl) dX1_stand_23 ?_
      refine R_i2l C dX1_stand_26 ?_
      refine R_ladd C dX1_stand_27 ?_
      refine S_lstore_n C dX1_stand_28 rfl (fun v14 => [(1, .long v14), (0, .ref (G.1 + a0)), (3, .int v2)]) (by decide) (fun _ => rfl) (fun v14 => ?_)
      refine S_iinc (fun v15 => [(3, .int v15), (1, .long v14), (0, .ref (G.1 + a0))]) 2 C dX1_stand_29 rfl (by decide) (by decide) (fun _ => rfl) (fun v15 => ?_)
      refine R_goto C dX1_stand_32 ?_
      refine R_loc (lv2 := [(0, .ref (G.1 + a0)), (1, .long v14), (3, .int v15)]) [2, 1, 0] rfl ?_
      exact I7 ((v14, v15), s11) b5 s6 K4
end
