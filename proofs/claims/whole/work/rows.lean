section
-- ===== PART A: goes FIRST, ahead of the names: the tables' words, and 'selects' of the private methods out of them =====
/-- a private method of a class that the tables say can be made, by its rows of tables_1 -/
def lw_okq (q : MethodName × Nat) : Prop := (q.1.cls ≠ "java/lang/invoke/MethodHandle" ∧ q.1.cls ≠ "java/lang/invoke/VarHandle") ∧ Cond.instantiable q.1.cls q.2 ∈ tables_1 ∧ Cond.privateMethod q.1 ∈ tables_1 ∧ Cond.instanceMethod q.1 ∈ tables_1
theorem lw_p0 : lw_okq (⟨"Sketchlock$Tree", "deedOf", "(I)I"⟩, 7) := ⟨⟨by decide +kernel, by decide +kernel⟩, List.mem_of_getElem? (i := 77) (by decide +kernel), List.mem_of_getElem? (i := 244) (by decide +kernel), List.mem_of_getElem? (i := 245) (by decide +kernel)⟩
theorem lw_p1 : lw_okq (⟨"java/lang/Throwable", "fillInStackTrace", "(I)Ljava/lang/Throwable;"⟩, 6) := ⟨⟨by decide +kernel, by decide +kernel⟩, List.mem_of_getElem? (i := 303) (by decide +kernel), List.mem_of_getElem? (i := 301) (by decide +kernel), List.mem_of_getElem? (i := 302) (by decide +kernel)⟩
theorem lw_p2 : lw_okq (⟨"Sketchlock", "requireDrawer", "(I)V"⟩, 9) := ⟨⟨by decide +kernel, by decide +kernel⟩, List.mem_of_getElem? (i := 22) (by decide +kernel), List.mem_of_getElem? (i := 361) (by decide +kernel), List.mem_of_getElem? (i := 362) (by decide +kernel)⟩
theorem lw_p3 : lw_okq (⟨"Sketchlock", "requirePlace", "(II)V"⟩, 9) := ⟨⟨by decide +kernel, by decide +kernel⟩, List.mem_of_getElem? (i := 22) (by decide +kernel), List.mem_of_getElem? (i := 366) (by decide +kernel), List.mem_of_getElem? (i := 367) (by decide +kernel)⟩
theorem lw_p4 : lw_okq (⟨"Sketchlock", "requireSize", "(II)V"⟩, 9) := ⟨⟨by decide +kernel, by decide +kernel⟩, List.mem_of_getElem? (i := 22) (by decide +kernel), List.mem_of_getElem? (i := 389) (by decide +kernel), List.mem_of_getElem? (i := 390) (by decide +kernel)⟩
theorem lw_p5 : lw_okq (⟨"Sketchlock$Tree", "draft", "(IIIIII)V"⟩, 7) := ⟨⟨by decide +kernel, by decide +kernel⟩, List.mem_of_getElem? (i := 77) (by decide +kernel), List.mem_of_getElem? (i := 395) (by decide +kernel), List.mem_of_getElem? (i := 396) (by decide +kernel)⟩
theorem lw_p6 : lw_okq (⟨"Sketchlock$Shapes", "draft", "([IIZ)V"⟩, 4) := ⟨⟨by decide +kernel, by decide +kernel⟩, List.mem_of_getElem? (i := 30) (by decide +kernel), List.mem_of_getElem? (i := 400) (by decide +kernel), List.mem_of_getElem? (i := 401) (by decide +kernel)⟩
theorem lw_p7 : lw_okq (⟨"Sketchlock", "doDraft", "(I)V"⟩, 9) := ⟨⟨by decide +kernel, by decide +kernel⟩, List.mem_of_getElem? (i := 22) (by decide +kernel), List.mem_of_getElem? (i := 406) (by decide +kernel), List.mem_of_getElem? (i := 407) (by decide +kernel)⟩
theorem lw_p8 : lw_okq (⟨"Sketchlock$Replay", "tryAct", "(I)Z"⟩, 4) := ⟨⟨by decide +kernel, by decide +kernel⟩, List.mem_of_getElem? (i := 106) (by decide +kernel), List.mem_of_getElem? (i := 410) (by decide +kernel), List.mem_of_getElem? (i := 411) (by decide +kernel)⟩
theorem lw_p9 : lw_okq (⟨"Sketchlock$Tree", "subjectOf", "(I)I"⟩, 7) := ⟨⟨by decide +kernel, by decide +kernel⟩, List.mem_of_getElem? (i := 77) (by decide +kernel), List.mem_of_getElem? (i := 414) (by decide +kernel), List.mem_of_getElem? (i := 415) (by decide +kernel)⟩
theorem lw_p10 : lw_okq (⟨"Sketchlock$Tree", "wantedBy", "(II)I"⟩, 7) := ⟨⟨by decide +kernel, by decide +kernel⟩, List.mem_of_getElem? (i := 77) (by decide +kernel), List.mem_of_getElem? (i := 418) (by decide +kernel), List.mem_of_getElem? (i := 419) (by decide +kernel)⟩
theorem lw_p11 : lw_okq (⟨"Sketchlock$Board", "copyFrom", "(LSketchlock$Board;)V"⟩, 7) := ⟨⟨by decide +kernel, by decide +kernel⟩, List.mem_of_getElem? (i := 112) (by decide +kernel), List.mem_of_getElem? (i := 422) (by decide +kernel), List.mem_of_getElem? (i := 423) (by decide +kernel)⟩
theorem lw_p12 : lw_okq (⟨"Sketchlock$Board", "addShape", "(IIIII)Z"⟩, 7) := ⟨⟨by decide +kernel, by decide +kernel⟩, List.mem_of_getElem? (i := 112) (by decide +kernel), List.mem_of_getElem? (i := 430) (by decide +kernel), List.mem_of_getElem? (i := 431) (by decide +kernel)⟩
theorem lw_p13 : lw_okq (⟨"Sketchlock$Board", "set", "(III)V"⟩, 7) := ⟨⟨by decide +kernel, by decide +kernel⟩, List.mem_of_getElem? (i := 112) (by decide +kernel), List.mem_of_getElem? (i := 434) (by decide +kernel), List.mem_of_getElem? (i := 435) (by decide +kernel)⟩
theorem lw_p14 : lw_okq (⟨"Sketchlock$Board", "moveTo", "(III)Z"⟩, 7) := ⟨⟨by decide +kernel, by decide +kernel⟩, List.mem_of_getElem? (i := 112) (by decide +kernel), List.mem_of_getElem? (i := 439) (by decide +kernel), List.mem_of_getElem? (i := 440) (by decide +kernel)⟩
theorem lw_p15 : lw_okq (⟨"Sketchlock$Board", "groupOf", "(II)I"⟩, 7) := ⟨⟨by decide +kernel, by decide +kernel⟩, List.mem_of_getElem? (i := 112) (by decide +kernel), List.mem_of_getElem? (i := 444) (by decide +kernel), List.mem_of_getElem? (i := 445) (by decide +kernel)⟩
def lw_privs_1 : List (MethodName × Nat) := [(⟨"Sketchlock$Tree", "deedOf", "(I)I"⟩, 7), (⟨"java/lang/Throwable", "fillInStackTrace", "(I)Ljava/lang/Throwable;"⟩, 6), (⟨"Sketchlock", "requireDrawer", "(I)V"⟩, 9), (⟨"Sketchlock", "requirePlace", "(II)V"⟩, 9), (⟨"Sketchlock", "requireSize", "(II)V"⟩, 9), (⟨"Sketchlock$Tree", "draft", "(IIIIII)V"⟩, 7), (⟨"Sketchlock$Shapes", "draft", "([IIZ)V"⟩, 4), (⟨"Sketchlock", "doDraft", "(I)V"⟩, 9), (⟨"Sketchlock$Replay", "tryAct", "(I)Z"⟩, 4), (⟨"Sketchlock$Tree", "subjectOf", "(I)I"⟩, 7), (⟨"Sketchlock$Tree", "wantedBy", "(II)I"⟩, 7), (⟨"Sketchlock$Board", "copyFrom", "(LSketchlock$Board;)V"⟩, 7), (⟨"Sketchlock$Board", "addShape", "(IIIII)Z"⟩, 7), (⟨"Sketchlock$Board", "set", "(III)V"⟩, 7), (⟨"Sketchlock$Board", "moveTo", "(III)Z"⟩, 7), (⟨"Sketchlock$Board", "groupOf", "(II)I"⟩, 7)]
theorem lw_r1 : ∀ q ∈ lw_privs_1, lw_okq q := List.forall_mem_cons.mpr ⟨lw_p0, List.forall_mem_cons.mpr ⟨lw_p1, List.forall_mem_cons.mpr ⟨lw_p2, List.forall_mem_cons.mpr ⟨lw_p3, List.forall_mem_cons.mpr ⟨lw_p4, List.forall_mem_cons.mpr ⟨lw_p5, List.forall_mem_cons.mpr ⟨lw_p6, List.forall_mem_cons.mpr ⟨lw_p7, List.forall_mem_cons.mpr ⟨lw_p8, List.forall_mem_cons.mpr ⟨lw_p9, List.forall_mem_cons.mpr ⟨lw_p10, List.forall_mem_cons.mpr ⟨lw_p11, List.forall_mem_cons.mpr ⟨lw_p12, List.forall_mem_cons.mpr ⟨lw_p13, List.forall_mem_cons.mpr ⟨lw_p14, List.forall_mem_cons.mpr ⟨lw_p15, fun _ h => absurd h List.not_mem_nil⟩⟩⟩⟩⟩⟩⟩⟩⟩⟩⟩⟩⟩⟩⟩⟩
theorem lw_p16 : lw_okq (⟨"Sketchlock$Board", "isLink", "(II)Z"⟩, 7) := ⟨⟨by decide +kernel, by decide +kernel⟩, List.mem_of_getElem? (i := 112) (by decide +kernel), List.mem_of_getElem? (i := 449) (by decide +kernel), List.mem_of_getElem? (i := 450) (by decide +kernel)⟩
theorem lw_p17 : lw_okq (⟨"Sketchlock$Board", "numberOf", "(II)I"⟩, 7) := ⟨⟨by decide +kernel, by decide +kernel⟩, List.mem_of_getElem? (i := 112) (by decide +kernel), List.mem_of_getElem? (i := 456) (by decide +kernel), List.mem_of_getElem? (i := 457) (by decide +kernel)⟩
theorem lw_p18 : lw_okq (⟨"Sketchlock$Board", "shiftGroup", "(III)Z"⟩, 7) := ⟨⟨by decide +kernel, by decide +kernel⟩, List.mem_of_getElem? (i := 112) (by decide +kernel), List.mem_of_getElem? (i := 460) (by decide +kernel), List.mem_of_getElem? (i := 461) (by decide +kernel)⟩
theorem lw_p19 : lw_okq (⟨"Sketchlock$Shapes", "lettersOf", "(I)I"⟩, 4) := ⟨⟨by decide +kernel, by decide +kernel⟩, List.mem_of_getElem? (i := 30) (by decide +kernel), List.mem_of_getElem? (i := 464) (by decide +kernel), List.mem_of_getElem? (i := 465) (by decide +kernel)⟩
theorem lw_p20 : lw_okq (⟨"Sketchlock$Board", "resizeTo", "(III)Z"⟩, 7) := ⟨⟨by decide +kernel, by decide +kernel⟩, List.mem_of_getElem? (i := 112) (by decide +kernel), List.mem_of_getElem? (i := 469) (by decide +kernel), List.mem_of_getElem? (i := 470) (by decide +kernel)⟩
theorem lw_p21 : lw_okq (⟨"Sketchlock$Board", "growClass", "(IIII)Z"⟩, 7) := ⟨⟨by decide +kernel, by decide +kernel⟩, List.mem_of_getElem? (i := 112) (by decide +kernel), List.mem_of_getElem? (i := 473) (by decide +kernel), List.mem_of_getElem? (i := 474) (by decide +kernel)⟩
theorem lw_p22 : lw_okq (⟨"Sketchlock$Board", "tellInRounds", "(II)Z"⟩, 7) := ⟨⟨by decide +kernel, by decide +kernel⟩, List.mem_of_getElem? (i := 112) (by decide +kernel), List.mem_of_getElem? (i := 477) (by decide +kernel), List.mem_of_getElem? (i := 478) (by decide +kernel)⟩
theorem lw_p23 : lw_okq (⟨"Sketchlock$Board", "gapOf", "(II)I"⟩, 7) := ⟨⟨by decide +kernel, by decide +kernel⟩, List.mem_of_getElem? (i := 112) (by decide +kernel), List.mem_of_getElem? (i := 481) (by decide +kernel), List.mem_of_getElem? (i := 482) (by decide +kernel)⟩
theorem lw_p24 : lw_okq (⟨"Sketchlock$Board", "tellByWalk", "(II)Z"⟩, 7) := ⟨⟨by decide +kernel, by decide +kernel⟩, List.mem_of_getElem? (i := 112) (by decide +kernel), List.mem_of_getElem? (i := 485) (by decide +kernel), List.mem_of_getElem? (i := 486) (by decide +kernel)⟩
theorem lw_p25 : lw_okq (⟨"Sketchlock$Board", "areInRange", "(I)Z"⟩, 7) := ⟨⟨by decide +kernel, by decide +kernel⟩, List.mem_of_getElem? (i := 112) (by decide +kernel), List.mem_of_getElem? (i := 493) (by decide +kernel), List.mem_of_getElem? (i := 494) (by decide +kernel)⟩
theorem lw_p26 : lw_okq (⟨"Sketchlock$Board", "layRule", "(I)Z"⟩, 7) := ⟨⟨by decide +kernel, by decide +kernel⟩, List.mem_of_getElem? (i := 112) (by decide +kernel), List.mem_of_getElem? (i := 497) (by decide +kernel), List.mem_of_getElem? (i := 498) (by decide +kernel)⟩
theorem lw_p27 : lw_okq (⟨"Sketchlock$Board", "dropRule", "(I)Z"⟩, 7) := ⟨⟨by decide +kernel, by decide +kernel⟩, List.mem_of_getElem? (i := 112) (by decide +kernel), List.mem_of_getElem? (i := 501) (by decide +kernel), List.mem_of_getElem? (i := 502) (by decide +kernel)⟩
theorem lw_p28 : lw_okq (⟨"Sketchlock$Tree", "hang", "(I)V"⟩, 7) := ⟨⟨by decide +kernel, by decide +kernel⟩, List.mem_of_getElem? (i := 77) (by decide +kernel), List.mem_of_getElem? (i := 506) (by decide +kernel), List.mem_of_getElem? (i := 507) (by decide +kernel)⟩
theorem lw_p29 : lw_okq (⟨"Sketchlock$Tree", "standOf", "(I)I"⟩, 7) := ⟨⟨by decide +kernel, by decide +kernel⟩, List.mem_of_getElem? (i := 77) (by decide +kernel), List.mem_of_getElem? (i := 510) (by decide +kernel), List.mem_of_getElem? (i := 511) (by decide +kernel)⟩
theorem lw_p30 : lw_okq (⟨"Sketchlock", "requireShape", "(I)V"⟩, 9) := ⟨⟨by decide +kernel, by decide +kernel⟩, List.mem_of_getElem? (i := 22) (by decide +kernel), List.mem_of_getElem? (i := 529) (by decide +kernel), List.mem_of_getElem? (i := 530) (by decide +kernel)⟩
theorem lw_p31 : lw_okq (⟨"Sketchlock$Replay", "changedShapes", "()I"⟩, 4) := ⟨⟨by decide +kernel, by decide +kernel⟩, List.mem_of_getElem? (i := 106) (by decide +kernel), List.mem_of_getElem? (i := 534) (by decide +kernel), List.mem_of_getElem? (i := 535) (by decide +kernel)⟩
def lw_privs_2 : List (MethodName × Nat) := [(⟨"Sketchlock$Board", "isLink", "(II)Z"⟩, 7), (⟨"Sketchlock$Board", "numberOf", "(II)I"⟩, 7), (⟨"Sketchlock$Board", "shiftGroup", "(III)Z"⟩, 7), (⟨"Sketchlock$Shapes", "lettersOf", "(I)I"⟩, 4), (⟨"Sketchlock$Board", "resizeTo", "(III)Z"⟩, 7), (⟨"Sketchlock$Board", "growClass", "(IIII)Z"⟩, 7), (⟨"Sketchlock$Board", "tellInRounds", "(II)Z"⟩, 7), (⟨"Sketchlock$Board", "gapOf", "(II)I"⟩, 7), (⟨"Sketchlock$Board", "tellByWalk", "(II)Z"⟩, 7), (⟨"Sketchlock$Board", "areInRange", "(I)Z"⟩, 7), (⟨"Sketchlock$Board", "layRule", "(I)Z"⟩, 7), (⟨"Sketchlock$Board", "dropRule", "(I)Z"⟩, 7), (⟨"Sketchlock$Tree", "hang", "(I)V"⟩, 7), (⟨"Sketchlock$Tree", "standOf", "(I)I"⟩, 7), (⟨"Sketchlock", "requireShape", "(I)V"⟩, 9), (⟨"Sketchlock$Replay", "changedShapes", "()I"⟩, 4)]
theorem lw_r2 : ∀ q ∈ lw_privs_2, lw_okq q := List.forall_mem_cons.mpr ⟨lw_p16, List.forall_mem_cons.mpr ⟨lw_p17, List.forall_mem_cons.mpr ⟨lw_p18, List.forall_mem_cons.mpr ⟨lw_p19, List.forall_mem_cons.mpr ⟨lw_p20, List.forall_mem_cons.mpr ⟨lw_p21, List.forall_mem_cons.mpr ⟨lw_p22, List.forall_mem_cons.mpr ⟨lw_p23, List.forall_mem_cons.mpr ⟨lw_p24, List.forall_mem_cons.mpr ⟨lw_p25, List.forall_mem_cons.mpr ⟨lw_p26, List.forall_mem_cons.mpr ⟨lw_p27, List.forall_mem_cons.mpr ⟨lw_p28, List.forall_mem_cons.mpr ⟨lw_p29, List.forall_mem_cons.mpr ⟨lw_p30, List.forall_mem_cons.mpr ⟨lw_p31, fun _ h => absurd h List.not_mem_nil⟩⟩⟩⟩⟩⟩⟩⟩⟩⟩⟩⟩⟩⟩⟩⟩
theorem lw_p32 : lw_okq (⟨"Sketchlock$Board", "differsAt", "(ILSketchlock$Board;)Z"⟩, 7) := ⟨⟨by decide +kernel, by decide +kernel⟩, List.mem_of_getElem? (i := 112) (by decide +kernel), List.mem_of_getElem? (i := 539) (by decide +kernel), List.mem_of_getElem? (i := 540) (by decide +kernel)⟩
theorem lw_p33 : lw_okq (⟨"Sketchlock$Rules", "draft", "(III)V"⟩, 4) := ⟨⟨by decide +kernel, by decide +kernel⟩, List.mem_of_getElem? (i := 51) (by decide +kernel), List.mem_of_getElem? (i := 559) (by decide +kernel), List.mem_of_getElem? (i := 560) (by decide +kernel)⟩
theorem lw_p34 : lw_okq (⟨"Sketchlock", "requireRule", "(I)V"⟩, 9) := ⟨⟨by decide +kernel, by decide +kernel⟩, List.mem_of_getElem? (i := 22) (by decide +kernel), List.mem_of_getElem? (i := 571) (by decide +kernel), List.mem_of_getElem? (i := 572) (by decide +kernel)⟩
theorem lw_p35 : lw_okq (⟨"Sketchlock$Tree", "aboveOf", "(I)I"⟩, 7) := ⟨⟨by decide +kernel, by decide +kernel⟩, List.mem_of_getElem? (i := 77) (by decide +kernel), List.mem_of_getElem? (i := 591) (by decide +kernel), List.mem_of_getElem? (i := 592) (by decide +kernel)⟩
theorem lw_p36 : lw_okq (⟨"Sketchlock$Tree", "stand", "(II)V"⟩, 7) := ⟨⟨by decide +kernel, by decide +kernel⟩, List.mem_of_getElem? (i := 77) (by decide +kernel), List.mem_of_getElem? (i := 595) (by decide +kernel), List.mem_of_getElem? (i := 596) (by decide +kernel)⟩
theorem lw_p37 : lw_okq (⟨"Sketchlock$Tree", "counting", "()J"⟩, 7) := ⟨⟨by decide +kernel, by decide +kernel⟩, List.mem_of_getElem? (i := 77) (by decide +kernel), List.mem_of_getElem? (i := 599) (by decide +kernel), List.mem_of_getElem? (i := 600) (by decide +kernel)⟩
theorem lw_p38 : lw_okq (⟨"Sketchlock$Replay", "redo", "(J)V"⟩, 4) := ⟨⟨by decide +kernel, by decide +kernel⟩, List.mem_of_getElem? (i := 106) (by decide +kernel), List.mem_of_getElem? (i := 604) (by decide +kernel), List.mem_of_getElem? (i := 605) (by decide +kernel)⟩
theorem lw_p39 : lw_okq (⟨"Sketchlock$Board", "clear", "()V"⟩, 7) := ⟨⟨by decide +kernel, by decide +kernel⟩, List.mem_of_getElem? (i := 112) (by decide +kernel), List.mem_of_getElem? (i := 608) (by decide +kernel), List.mem_of_getElem? (i := 609) (by decide +kernel)⟩
theorem lw_p40 : lw_okq (⟨"Sketchlock$Tree", "branchOf", "(II)I"⟩, 7) := ⟨⟨by decide +kernel, by decide +kernel⟩, List.mem_of_getElem? (i := 77) (by decide +kernel), List.mem_of_getElem? (i := 626) (by decide +kernel), List.mem_of_getElem? (i := 627) (by decide +kernel)⟩
theorem lw_p41 : lw_okq (⟨"Sketchlock$Tree", "isBranch", "(II)Z"⟩, 7) := ⟨⟨by decide +kernel, by decide +kernel⟩, List.mem_of_getElem? (i := 77) (by decide +kernel), List.mem_of_getElem? (i := 630) (by decide +kernel), List.mem_of_getElem? (i := 631) (by decide +kernel)⟩
theorem lw_p42 : lw_okq (⟨"Sketchlock$Tree", "countBranches", "(I)I"⟩, 7) := ⟨⟨by decide +kernel, by decide +kernel⟩, List.mem_of_getElem? (i := 77) (by decide +kernel), List.mem_of_getElem? (i := 642) (by decide +kernel), List.mem_of_getElem? (i := 643) (by decide +kernel)⟩
theorem lw_p43 : lw_okq (⟨"Sketchlock$Tree", "countBelow", "(I)I"⟩, 7) := ⟨⟨by decide +kernel, by decide +kernel⟩, List.mem_of_getElem? (i := 77) (by decide +kernel), List.mem_of_getElem? (i := 653) (by decide +kernel), List.mem_of_getElem? (i := 654) (by decide +kernel)⟩
theorem lw_p44 : lw_okq (⟨"Sketchlock", "requireAct", "(I)V"⟩, 9) := ⟨⟨by decide +kernel, by decide +kernel⟩, List.mem_of_getElem? (i := 22) (by decide +kernel), List.mem_of_getElem? (i := 673) (by decide +kernel), List.mem_of_getElem? (i := 674) (by decide +kernel)⟩
theorem lw_p45 : lw_okq (⟨"Sketchlock", "requireWhat", "(I)V"⟩, 9) := ⟨⟨by decide +kernel, by decide +kernel⟩, List.mem_of_getElem? (i := 22) (by decide +kernel), List.mem_of_getElem? (i := 700) (by decide +kernel), List.mem_of_getElem? (i := 701) (by decide +kernel)⟩
theorem lw_p46 : lw_okq (⟨"Sketchlock", "requireOn", "(LSketchlock$Board;I)V"⟩, 9) := ⟨⟨by decide +kernel, by decide +kernel⟩, List.mem_of_getElem? (i := 22) (by decide +kernel), List.mem_of_getElem? (i := 705) (by decide +kernel), List.mem_of_getElem? (i := 706) (by decide +kernel)⟩
theorem lw_p47 : lw_okq (⟨"Sketchlock$Board", "fits", "(I)Z"⟩, 7) := ⟨⟨by decide +kernel, by decide +kernel⟩, List.mem_of_getElem? (i := 112) (by decide +kernel), List.mem_of_getElem? (i := 748) (by decide +kernel), List.mem_of_getElem? (i := 749) (by decide +kernel)⟩
def lw_privs_3 : List (MethodName × Nat) := [(⟨"Sketchlock$Board", "differsAt", "(ILSketchlock$Board;)Z"⟩, 7), (⟨"Sketchlock$Rules", "draft", "(III)V"⟩, 4), (⟨"Sketchlock", "requireRule", "(I)V"⟩, 9), (⟨"Sketchlock$Tree", "aboveOf", "(I)I"⟩, 7), (⟨"Sketchlock$Tree", "stand", "(II)V"⟩, 7), (⟨"Sketchlock$Tree", "counting", "()J"⟩, 7), (⟨"Sketchlock$Replay", "redo", "(J)V"⟩, 4), (⟨"Sketchlock$Board", "clear", "()V"⟩, 7), (⟨"Sketchlock$Tree", "branchOf", "(II)I"⟩, 7), (⟨"Sketchlock$Tree", "isBranch", "(II)Z"⟩, 7), (⟨"Sketchlock$Tree", "countBranches", "(I)I"⟩, 7), (⟨"Sketchlock$Tree", "countBelow", "(I)I"⟩, 7), (⟨"Sketchlock", "requireAct", "(I)V"⟩, 9), (⟨"Sketchlock", "requireWhat", "(I)V"⟩, 9), (⟨"Sketchlock", "requireOn", "(LSketchlock$Board;I)V"⟩, 9), (⟨"Sketchlock$Board", "fits", "(I)Z"⟩, 7)]
theorem lw_r3 : ∀ q ∈ lw_privs_3, lw_okq q := List.forall_mem_cons.mpr ⟨lw_p32, List.forall_mem_cons.mpr ⟨lw_p33, List.forall_mem_cons.mpr ⟨lw_p34, List.forall_mem_cons.mpr ⟨lw_p35, List.forall_mem_cons.mpr ⟨lw_p36, List.forall_mem_cons.mpr ⟨lw_p37, List.forall_mem_cons.mpr ⟨lw_p38, List.forall_mem_cons.mpr ⟨lw_p39, List.forall_mem_cons.mpr ⟨lw_p40, List.forall_mem_cons.mpr ⟨lw_p41, List.forall_mem_cons.mpr ⟨lw_p42, List.forall_mem_cons.mpr ⟨lw_p43, List.forall_mem_cons.mpr ⟨lw_p44, List.forall_mem_cons.mpr ⟨lw_p45, List.forall_mem_cons.mpr ⟨lw_p46, List.forall_mem_cons.mpr ⟨lw_p47, fun _ h => absurd h List.not_mem_nil⟩⟩⟩⟩⟩⟩⟩⟩⟩⟩⟩⟩⟩⟩⟩⟩
theorem lw_p48 : lw_okq (⟨"Sketchlock$ExportText", "show", "(LSketchlock$Board;LSketchlock$Shapes;)V"⟩, 2) := ⟨⟨by decide +kernel, by decide +kernel⟩, List.mem_of_getElem? (i := 186) (by decide +kernel), List.mem_of_getElem? (i := 768) (by decide +kernel), List.mem_of_getElem? (i := 769) (by decide +kernel)⟩
theorem lw_p49 : lw_okq (⟨"Sketchlock$ExportText", "showShape", "(LSketchlock$Board;LSketchlock$Shapes;I)V"⟩, 2) := ⟨⟨by decide +kernel, by decide +kernel⟩, List.mem_of_getElem? (i := 186) (by decide +kernel), List.mem_of_getElem? (i := 773) (by decide +kernel), List.mem_of_getElem? (i := 774) (by decide +kernel)⟩
theorem lw_p50 : lw_okq (⟨"Sketchlock$ExportText", "write", "(C)V"⟩, 2) := ⟨⟨by decide +kernel, by decide +kernel⟩, List.mem_of_getElem? (i := 186) (by decide +kernel), List.mem_of_getElem? (i := 778) (by decide +kernel), List.mem_of_getElem? (i := 779) (by decide +kernel)⟩
theorem lw_p51 : lw_okq (⟨"Sketchlock$ExportText", "writeNumber", "(I)V"⟩, 2) := ⟨⟨by decide +kernel, by decide +kernel⟩, List.mem_of_getElem? (i := 186) (by decide +kernel), List.mem_of_getElem? (i := 782) (by decide +kernel), List.mem_of_getElem? (i := 783) (by decide +kernel)⟩
theorem lw_p52 : lw_okq (⟨"Sketchlock$Shapes", "shownLetter", "(II)I"⟩, 4) := ⟨⟨by decide +kernel, by decide +kernel⟩, List.mem_of_getElem? (i := 30) (by decide +kernel), List.mem_of_getElem? (i := 790) (by decide +kernel), List.mem_of_getElem? (i := 791) (by decide +kernel)⟩
theorem lw_p53 : lw_okq (⟨"Sketchlock$ExportText", "writeLetter", "(I)V"⟩, 2) := ⟨⟨by decide +kernel, by decide +kernel⟩, List.mem_of_getElem? (i := 186) (by decide +kernel), List.mem_of_getElem? (i := 796) (by decide +kernel), List.mem_of_getElem? (i := 797) (by decide +kernel)⟩
theorem lw_p54 : lw_okq (⟨"Sketchlock$Exports", "keep", "(LSketchlock$ExportText;J)V"⟩, 5) := ⟨⟨by decide +kernel, by decide +kernel⟩, List.mem_of_getElem? (i := 160) (by decide +kernel), List.mem_of_getElem? (i := 802) (by decide +kernel), List.mem_of_getElem? (i := 803) (by decide +kernel)⟩
theorem lw_p55 : lw_okq (⟨"Sketchlock$ExportText", "signOf", "(I)C"⟩, 2) := ⟨⟨by decide +kernel, by decide +kernel⟩, List.mem_of_getElem? (i := 186) (by decide +kernel), List.mem_of_getElem? (i := 806) (by decide +kernel), List.mem_of_getElem? (i := 807) (by decide +kernel)⟩
theorem lw_p56 : lw_okq (⟨"Sketchlock", "requireMade", "(I)V"⟩, 9) := ⟨⟨by decide +kernel, by decide +kernel⟩, List.mem_of_getElem? (i := 22) (by decide +kernel), List.mem_of_getElem? (i := 817) (by decide +kernel), List.mem_of_getElem? (i := 818) (by decide +kernel)⟩
theorem lw_p57 : lw_okq (⟨"Sketchlock$Exports", "charsOf", "(I)I"⟩, 5) := ⟨⟨by decide +kernel, by decide +kernel⟩, List.mem_of_getElem? (i := 160) (by decide +kernel), List.mem_of_getElem? (i := 823) (by decide +kernel), List.mem_of_getElem? (i := 824) (by decide +kernel)⟩
theorem lw_p58 : lw_okq (⟨"Sketchlock$Exports", "signOf", "(II)C"⟩, 5) := ⟨⟨by decide +kernel, by decide +kernel⟩, List.mem_of_getElem? (i := 160) (by decide +kernel), List.mem_of_getElem? (i := 836) (by decide +kernel), List.mem_of_getElem? (i := 837) (by decide +kernel)⟩
theorem lw_p59 : lw_okq (⟨"Sketchlock$Exports", "actsOf", "(I)J"⟩, 5) := ⟨⟨by decide +kernel, by decide +kernel⟩, List.mem_of_getElem? (i := 160) (by decide +kernel), List.mem_of_getElem? (i := 847) (by decide +kernel), List.mem_of_getElem? (i := 848) (by decide +kernel)⟩
theorem lw_p60 : lw_okq (⟨"SketchlockModel", "can", "(I)Z"⟩, 37) := ⟨⟨by decide +kernel, by decide +kernel⟩, List.mem_of_getElem? (i := 852) (by decide +kernel), List.mem_of_getElem? (i := 982) (by decide +kernel), List.mem_of_getElem? (i := 983) (by decide +kernel)⟩
theorem lw_p61 : lw_okq (⟨"SketchlockModel", "adds", "(IIIII)I"⟩, 37) := ⟨⟨by decide +kernel, by decide +kernel⟩, List.mem_of_getElem? (i := 852) (by decide +kernel), List.mem_of_getElem? (i := 1003) (by decide +kernel), List.mem_of_getElem? (i := 1004) (by decide +kernel)⟩
theorem lw_p62 : lw_okq (⟨"SketchlockModel", "writes", "(IIIIIII)V"⟩, 37) := ⟨⟨by decide +kernel, by decide +kernel⟩, List.mem_of_getElem? (i := 852) (by decide +kernel), List.mem_of_getElem? (i := 1007) (by decide +kernel), List.mem_of_getElem? (i := 1008) (by decide +kernel)⟩
theorem lw_p63 : lw_okq (⟨"SketchlockModel", "tries", "(I)Z"⟩, 37) := ⟨⟨by decide +kernel, by decide +kernel⟩, List.mem_of_getElem? (i := 852) (by decide +kernel), List.mem_of_getElem? (i := 1011) (by decide +kernel), List.mem_of_getElem? (i := 1012) (by decide +kernel)⟩
def lw_privs_4 : List (MethodName × Nat) := [(⟨"Sketchlock$ExportText", "show", "(LSketchlock$Board;LSketchlock$Shapes;)V"⟩, 2), (⟨"Sketchlock$ExportText", "showShape", "(LSketchlock$Board;LSketchlock$Shapes;I)V"⟩, 2), (⟨"Sketchlock$ExportText", "write", "(C)V"⟩, 2), (⟨"Sketchlock$ExportText", "writeNumber", "(I)V"⟩, 2), (⟨"Sketchlock$Shapes", "shownLetter", "(II)I"⟩, 4), (⟨"Sketchlock$ExportText", "writeLetter", "(I)V"⟩, 2), (⟨"Sketchlock$Exports", "keep", "(LSketchlock$ExportText;J)V"⟩, 5), (⟨"Sketchlock$ExportText", "signOf", "(I)C"⟩, 2), (⟨"Sketchlock", "requireMade", "(I)V"⟩, 9), (⟨"Sketchlock$Exports", "charsOf", "(I)I"⟩, 5), (⟨"Sketchlock$Exports", "signOf", "(II)C"⟩, 5), (⟨"Sketchlock$Exports", "actsOf", "(I)J"⟩, 5), (⟨"SketchlockModel", "can", "(I)Z"⟩, 37), (⟨"SketchlockModel", "adds", "(IIIII)I"⟩, 37), (⟨"SketchlockModel", "writes", "(IIIIIII)V"⟩, 37), (⟨"SketchlockModel", "tries", "(I)Z"⟩, 37)]
theorem lw_r4 : ∀ q ∈ lw_privs_4, lw_okq q := List.forall_mem_cons.mpr ⟨lw_p48, List.forall_mem_cons.mpr ⟨lw_p49, List.forall_mem_cons.mpr ⟨lw_p50, List.forall_mem_cons.mpr ⟨lw_p51, List.forall_mem_cons.mpr ⟨lw_p52, List.forall_mem_cons.mpr ⟨lw_p53, List.forall_mem_cons.mpr ⟨lw_p54, List.forall_mem_cons.mpr ⟨lw_p55, List.forall_mem_cons.mpr ⟨lw_p56, List.forall_mem_cons.mpr ⟨lw_p57, List.forall_mem_cons.mpr ⟨lw_p58, List.forall_mem_cons.mpr ⟨lw_p59, List.forall_mem_cons.mpr ⟨lw_p60, List.forall_mem_cons.mpr ⟨lw_p61, List.forall_mem_cons.mpr ⟨lw_p62, List.forall_mem_cons.mpr ⟨lw_p63, fun _ h => absurd h List.not_mem_nil⟩⟩⟩⟩⟩⟩⟩⟩⟩⟩⟩⟩⟩⟩⟩⟩
theorem lw_p64 : lw_okq (⟨"SketchlockModel", "lays", "(I)V"⟩, 37) := ⟨⟨by decide +kernel, by decide +kernel⟩, List.mem_of_getElem? (i := 852) (by decide +kernel), List.mem_of_getElem? (i := 1018) (by decide +kernel), List.mem_of_getElem? (i := 1019) (by decide +kernel)⟩
theorem lw_p65 : lw_okq (⟨"SketchlockModel", "partOf", "(III)I"⟩, 37) := ⟨⟨by decide +kernel, by decide +kernel⟩, List.mem_of_getElem? (i := 852) (by decide +kernel), List.mem_of_getElem? (i := 1022) (by decide +kernel), List.mem_of_getElem? (i := 1023) (by decide +kernel)⟩
theorem lw_p66 : lw_okq (⟨"SketchlockModel", "sizes", "(III)I"⟩, 37) := ⟨⟨by decide +kernel, by decide +kernel⟩, List.mem_of_getElem? (i := 852) (by decide +kernel), List.mem_of_getElem? (i := 1029) (by decide +kernel), List.mem_of_getElem? (i := 1030) (by decide +kernel)⟩
theorem lw_p67 : lw_okq (⟨"SketchlockModel", "settles", "(III)V"⟩, 37) := ⟨⟨by decide +kernel, by decide +kernel⟩, List.mem_of_getElem? (i := 852) (by decide +kernel), List.mem_of_getElem? (i := 1033) (by decide +kernel), List.mem_of_getElem? (i := 1034) (by decide +kernel)⟩
theorem lw_p68 : lw_okq (⟨"SketchlockModel", "settlesPart", "(III)V"⟩, 37) := ⟨⟨by decide +kernel, by decide +kernel⟩, List.mem_of_getElem? (i := 852) (by decide +kernel), List.mem_of_getElem? (i := 1037) (by decide +kernel), List.mem_of_getElem? (i := 1038) (by decide +kernel)⟩
theorem lw_p69 : lw_okq (⟨"SketchlockModel", "stepOf", "(II)I"⟩, 37) := ⟨⟨by decide +kernel, by decide +kernel⟩, List.mem_of_getElem? (i := 852) (by decide +kernel), List.mem_of_getElem? (i := 1041) (by decide +kernel), List.mem_of_getElem? (i := 1042) (by decide +kernel)⟩
theorem lw_p70 : lw_okq (⟨"SketchlockModel", "shifts", "(III)V"⟩, 37) := ⟨⟨by decide +kernel, by decide +kernel⟩, List.mem_of_getElem? (i := 852) (by decide +kernel), List.mem_of_getElem? (i := 1045) (by decide +kernel), List.mem_of_getElem? (i := 1046) (by decide +kernel)⟩
theorem lw_p71 : lw_okq (⟨"SketchlockModel", "isInRange", "()Z"⟩, 37) := ⟨⟨by decide +kernel, by decide +kernel⟩, List.mem_of_getElem? (i := 852) (by decide +kernel), List.mem_of_getElem? (i := 1049) (by decide +kernel), List.mem_of_getElem? (i := 1050) (by decide +kernel)⟩
theorem lw_p72 : lw_okq (⟨"SketchlockModel", "makes", "()I"⟩, 37) := ⟨⟨by decide +kernel, by decide +kernel⟩, List.mem_of_getElem? (i := 852) (by decide +kernel), List.mem_of_getElem? (i := 1053) (by decide +kernel), List.mem_of_getElem? (i := 1054) (by decide +kernel)⟩
theorem lw_p73 : lw_okq (⟨"SketchlockModel", "takes", "()I"⟩, 37) := ⟨⟨by decide +kernel, by decide +kernel⟩, List.mem_of_getElem? (i := 852) (by decide +kernel), List.mem_of_getElem? (i := 1057) (by decide +kernel), List.mem_of_getElem? (i := 1058) (by decide +kernel)⟩
theorem lw_p74 : lw_okq (⟨"SketchlockModel", "changes", "(IIIIIZ)I"⟩, 37) := ⟨⟨by decide +kernel, by decide +kernel⟩, List.mem_of_getElem? (i := 852) (by decide +kernel), List.mem_of_getElem? (i := 1069) (by decide +kernel), List.mem_of_getElem? (i := 1070) (by decide +kernel)⟩
theorem lw_p75 : lw_okq (⟨"SketchlockModel", "isShape", "(I)Z"⟩, 37) := ⟨⟨by decide +kernel, by decide +kernel⟩, List.mem_of_getElem? (i := 852) (by decide +kernel), List.mem_of_getElem? (i := 1073) (by decide +kernel), List.mem_of_getElem? (i := 1074) (by decide +kernel)⟩
theorem lw_p76 : lw_okq (⟨"SketchlockModel", "canMake", "()Z"⟩, 37) := ⟨⟨by decide +kernel, by decide +kernel⟩, List.mem_of_getElem? (i := 852) (by decide +kernel), List.mem_of_getElem? (i := 1077) (by decide +kernel), List.mem_of_getElem? (i := 1078) (by decide +kernel)⟩
theorem lw_p77 : lw_okq (⟨"SketchlockModel", "isRule", "(I)Z"⟩, 37) := ⟨⟨by decide +kernel, by decide +kernel⟩, List.mem_of_getElem? (i := 852) (by decide +kernel), List.mem_of_getElem? (i := 1093) (by decide +kernel), List.mem_of_getElem? (i := 1094) (by decide +kernel)⟩
theorem lw_p78 : lw_okq (⟨"SketchlockModel", "doesAnew", "()I"⟩, 37) := ⟨⟨by decide +kernel, by decide +kernel⟩, List.mem_of_getElem? (i := 852) (by decide +kernel), List.mem_of_getElem? (i := 1104) (by decide +kernel), List.mem_of_getElem? (i := 1105) (by decide +kernel)⟩
theorem lw_p79 : lw_okq (⟨"SketchlockModel", "isOnWay", "(I)Z"⟩, 37) := ⟨⟨by decide +kernel, by decide +kernel⟩, List.mem_of_getElem? (i := 852) (by decide +kernel), List.mem_of_getElem? (i := 1108) (by decide +kernel), List.mem_of_getElem? (i := 1109) (by decide +kernel)⟩
def lw_privs_5 : List (MethodName × Nat) := [(⟨"SketchlockModel", "lays", "(I)V"⟩, 37), (⟨"SketchlockModel", "partOf", "(III)I"⟩, 37), (⟨"SketchlockModel", "sizes", "(III)I"⟩, 37), (⟨"SketchlockModel", "settles", "(III)V"⟩, 37), (⟨"SketchlockModel", "settlesPart", "(III)V"⟩, 37), (⟨"SketchlockModel", "stepOf", "(II)I"⟩, 37), (⟨"SketchlockModel", "shifts", "(III)V"⟩, 37), (⟨"SketchlockModel", "isInRange", "()Z"⟩, 37), (⟨"SketchlockModel", "makes", "()I"⟩, 37), (⟨"SketchlockModel", "takes", "()I"⟩, 37), (⟨"SketchlockModel", "changes", "(IIIIIZ)I"⟩, 37), (⟨"SketchlockModel", "isShape", "(I)Z"⟩, 37), (⟨"SketchlockModel", "canMake", "()Z"⟩, 37), (⟨"SketchlockModel", "isRule", "(I)Z"⟩, 37), (⟨"SketchlockModel", "doesAnew", "()I"⟩, 37), (⟨"SketchlockModel", "isOnWay", "(I)Z"⟩, 37)]
theorem lw_r5 : ∀ q ∈ lw_privs_5, lw_okq q := List.forall_mem_cons.mpr ⟨lw_p64, List.forall_mem_cons.mpr ⟨lw_p65, List.forall_mem_cons.mpr ⟨lw_p66, List.forall_mem_cons.mpr ⟨lw_p67, List.forall_mem_cons.mpr ⟨lw_p68, List.forall_mem_cons.mpr ⟨lw_p69, List.forall_mem_cons.mpr ⟨lw_p70, List.forall_mem_cons.mpr ⟨lw_p71, List.forall_mem_cons.mpr ⟨lw_p72, List.forall_mem_cons.mpr ⟨lw_p73, List.forall_mem_cons.mpr ⟨lw_p74, List.forall_mem_cons.mpr ⟨lw_p75, List.forall_mem_cons.mpr ⟨lw_p76, List.forall_mem_cons.mpr ⟨lw_p77, List.forall_mem_cons.mpr ⟨lw_p78, List.forall_mem_cons.mpr ⟨lw_p79, fun _ h => absurd h List.not_mem_nil⟩⟩⟩⟩⟩⟩⟩⟩⟩⟩⟩⟩⟩⟩⟩⟩
theorem lw_p80 : lw_okq (⟨"SketchlockModel", "branchOf", "(II)I"⟩, 37) := ⟨⟨by decide +kernel, by decide +kernel⟩, List.mem_of_getElem? (i := 852) (by decide +kernel), List.mem_of_getElem? (i := 1116) (by decide +kernel), List.mem_of_getElem? (i := 1117) (by decide +kernel)⟩
theorem lw_p81 : lw_okq (⟨"SketchlockModel", "isAct", "(I)Z"⟩, 37) := ⟨⟨by decide +kernel, by decide +kernel⟩, List.mem_of_getElem? (i := 852) (by decide +kernel), List.mem_of_getElem? (i := 1140) (by decide +kernel), List.mem_of_getElem? (i := 1141) (by decide +kernel)⟩
theorem lw_p82 : lw_okq (⟨"SketchlockModel", "numberOf", "(II)I"⟩, 37) := ⟨⟨by decide +kernel, by decide +kernel⟩, List.mem_of_getElem? (i := 852) (by decide +kernel), List.mem_of_getElem? (i := 1156) (by decide +kernel), List.mem_of_getElem? (i := 1157) (by decide +kernel)⟩
theorem lw_p83 : lw_okq (⟨"SketchlockModel", "isExport", "(I)Z"⟩, 37) := ⟨⟨by decide +kernel, by decide +kernel⟩, List.mem_of_getElem? (i := 852) (by decide +kernel), List.mem_of_getElem? (i := 1192) (by decide +kernel), List.mem_of_getElem? (i := 1193) (by decide +kernel)⟩
theorem lw_p84 : lw_okq (⟨"SketchlockModel", "goesThrough", "(II)I"⟩, 37) := ⟨⟨by decide +kernel, by decide +kernel⟩, List.mem_of_getElem? (i := 852) (by decide +kernel), List.mem_of_getElem? (i := 1196) (by decide +kernel), List.mem_of_getElem? (i := 1197) (by decide +kernel)⟩
theorem lw_p85 : lw_okq (⟨"SketchlockModel", "sign", "(I)V"⟩, 37) := ⟨⟨by decide +kernel, by decide +kernel⟩, List.mem_of_getElem? (i := 852) (by decide +kernel), List.mem_of_getElem? (i := 1200) (by decide +kernel), List.mem_of_getElem? (i := 1201) (by decide +kernel)⟩
theorem lw_p86 : lw_okq (⟨"SketchlockModel", "signs", "(I)V"⟩, 37) := ⟨⟨by decide +kernel, by decide +kernel⟩, List.mem_of_getElem? (i := 852) (by decide +kernel), List.mem_of_getElem? (i := 1204) (by decide +kernel), List.mem_of_getElem? (i := 1205) (by decide +kernel)⟩
theorem lw_p87 : lw_okq (⟨"SketchlockModel", "tells", "(I)V"⟩, 37) := ⟨⟨by decide +kernel, by decide +kernel⟩, List.mem_of_getElem? (i := 852) (by decide +kernel), List.mem_of_getElem? (i := 1208) (by decide +kernel), List.mem_of_getElem? (i := 1209) (by decide +kernel)⟩
theorem lw_p88 : lw_okq (⟨"SketchlockModel", "charOf", "(II)C"⟩, 37) := ⟨⟨by decide +kernel, by decide +kernel⟩, List.mem_of_getElem? (i := 852) (by decide +kernel), List.mem_of_getElem? (i := 1218) (by decide +kernel), List.mem_of_getElem? (i := 1219) (by decide +kernel)⟩
def lw_privs_6 : List (MethodName × Nat) := [(⟨"SketchlockModel", "branchOf", "(II)I"⟩, 37), (⟨"SketchlockModel", "isAct", "(I)Z"⟩, 37), (⟨"SketchlockModel", "numberOf", "(II)I"⟩, 37), (⟨"SketchlockModel", "isExport", "(I)Z"⟩, 37), (⟨"SketchlockModel", "goesThrough", "(II)I"⟩, 37), (⟨"SketchlockModel", "sign", "(I)V"⟩, 37), (⟨"SketchlockModel", "signs", "(I)V"⟩, 37), (⟨"SketchlockModel", "tells", "(I)V"⟩, 37), (⟨"SketchlockModel", "charOf", "(II)C"⟩, 37)]
theorem lw_r6 : ∀ q ∈ lw_privs_6, lw_okq q := List.forall_mem_cons.mpr ⟨lw_p80, List.forall_mem_cons.mpr ⟨lw_p81, List.forall_mem_cons.mpr ⟨lw_p82, List.forall_mem_cons.mpr ⟨lw_p83, List.forall_mem_cons.mpr ⟨lw_p84, List.forall_mem_cons.mpr ⟨lw_p85, List.forall_mem_cons.mpr ⟨lw_p86, List.forall_mem_cons.mpr ⟨lw_p87, List.forall_mem_cons.mpr ⟨lw_p88, fun _ h => absurd h List.not_mem_nil⟩⟩⟩⟩⟩⟩⟩⟩⟩
def lw_privs : List (MethodName × Nat) := lw_privs_1 ++ (lw_privs_2 ++ (lw_privs_3 ++ (lw_privs_4 ++ (lw_privs_5 ++ (lw_privs_6)))))
def lw_tbl : List Cond := k2_sels lw_privs ++ tables_1
theorem lw_privs_ok : ∀ q ∈ lw_privs, lw_okq q := by
  show ∀ q ∈ lw_privs_1 ++ (lw_privs_2 ++ (lw_privs_3 ++ (lw_privs_4 ++ (lw_privs_5 ++ (lw_privs_6))))), lw_okq q
  exact List.forall_mem_append.mpr ⟨lw_r1, List.forall_mem_append.mpr ⟨lw_r2, List.forall_mem_append.mpr ⟨lw_r3, List.forall_mem_append.mpr ⟨lw_r4, List.forall_mem_append.mpr ⟨lw_r5, lw_r6⟩⟩⟩⟩⟩
-- ===== end of PART A; then your names; then what follows =====
end
section
/-! ===== BEGIN words of one list among another's, by their places ===== -/
theorem goodIn_r {big : List Cond} (ws : List Cond) (ps : List Nat) (hp : ws = ps.filterMap (fun i => big[i]?)) (h : ws.all goodWord = true) : GoodIn big ws := by
  intro w hw
  have h1 := List.all_eq_true.mp h w hw
  rw [hp] at hw
  obtain ⟨i, -, hi⟩ := List.mem_filterMap.mp hw
  have hm : w ∈ big := by first | exact List.mem_of_getElem? hi | exact List.getElem?_mem hi
  exact ⟨hm, good_of_word h1⟩
theorem goodIn_app {big a b : List Cond} (ha : GoodIn big a) (hb : GoodIn big b) : GoodIn big (a ++ b) := fun w h => (List.mem_append.mp h).elim (ha w) (hb w)
theorem goodIn_ca {big a b : List Cond} {c : Cond} (ha : GoodIn big (c :: a)) (hb : GoodIn big b) : GoodIn big (c :: (a ++ b)) := fun w h => (List.mem_cons.mp h).elim (fun e => ha w (List.mem_cons.mpr (Or.inl e))) (fun h => (List.mem_append.mp h).elim (fun h => ha w (List.mem_cons.mpr (Or.inr h))) (hb w))
theorem goodIn_sub {big ws : List Cond} (hm : ∀ w ∈ ws, w ∈ big) (h : ws.all goodWord = true) : GoodIn big ws := fun w hw => ⟨hm w hw, good_of_word (List.all_eq_true.mp h w hw)⟩
/-! ===== END ===== -/

/-! ===== BEGIN exceptions that leave a method, and their catching by the caller (launches without stack traces) ===== -/
section VXA
/-! The laws vx_back, vx_callV, vx_callS, vx_callSW, vx_throw0, vx_throwS follow proofs of the library, with one case more: JvmDerived/Free/Laws.lean (Back.of_free), Shelf42/LK1.lean (callV, callS), Shelf/KitTraced.lean (throwNew0V, throwNewS). -/
/-- where a method has thrown q: the class by its name, the cell, what was written, the world -/
def vx_T (XC : String → State → State → Prop) (st : State) (q : Addr) (t : State) (mc ms : Nat) (free : Addr → Prop) : Prop :=
  ∃ (E : String) (ce : Cell) (L : List Loc), XC E st t ∧ t.heap[q]? = some ce ∧ ce.vm = .none ∧ st.vm.findClass E = some ce.cls ∧ st.WarmedH t.vm ∧ st.sameButNew ({ t with vm := st.vm } : State) L mc ms ∧ ∀ z ∈ L, free z.base
def vx_Q (Qc : Array Value → State → Outcome → State → Prop) (XC : String → State → State → Prop) (mc ms : Nat) (free : Addr → Prop) : Array Value → State → Outcome → State → Prop := fun a st o t =>
  (Qc a st o t ∧ ∃ L, FrameEnd st o t L mc ms ∧ ∀ q ∈ L, free q.base) ∨ ∃ q, o = .threw q ∧ vx_T XC st q t mc ms free
/-- a callee that returns or throws -/
def vx_Met (l : Launch) (y : MethodName) (ws : List Cond) (rm : Room) (Pc : Array Value → State → Prop) (Qc : Array Value → State → Outcome → State → Prop) (XC : String → State → State → Prop) (mc ms : Nat) (free : Addr → Prop) : Prop :=
  MetFree l y (headSpec ws rm) Pc (fun _ _ _ _ _ => True) (vx_Q Qc XC mc ms free)
def vx_Post (XC : String → State → State → Prop) (mc ms : Nat) (free : Addr → Prop) : Pt → Array Value → Addr → Pt → Prop := fun A a q B =>
  ∃ (g : JFrame) (mk : MethodId) (t : State) (L : List Loc) (E : String) (ce : Cell), B.U.heap = t.heap ∧ B.U.vm = t.vm ∧ XC E (A.U.calling g mk a) t ∧ t.heap[q]? = some ce ∧ ce.vm = .none ∧ A.U.vm.findClass E = some ce.cls ∧ B.locs = A.locs ++ L ∧ (∀ z ∈ L, free z.base) ∧ B.cells = A.cells + mc ∧ B.slots = A.slots + ms
def vx_Back (l : Launch) (R : Room) (p : Program) (e : Env) (below : List Frame) (s : State) (sargs : Array Value) (y : MethodName) (len W9 : Nat)
    (Pre : Pt → Array Value → Prop) (Post : Pt → Array Value → Option Value → Pt → Prop) (PostX : Pt → Array Value → Addr → Pt → Prop) : Prop :=
  ∀ (m : MethodId) (meth : Method) (c : Code) (A : Pt) (g : JFrame) (ig : Instr) (mk : MethodId) (a : Array Value),
    Stand p l e R s m sargs below meth c A.U A.locs A.cells A.slots → g.method = m → g.locals.size = c.maxLocals → decode c.code g.pc = .ok (ig, len) →
    2 * g.monitorRoom + (g.stack.map fun v => v.category).sum ≤ W9 → A.U.methodNamed? y = some mk → Pre A a →
    (∃ (v : Option Value) (B : Pt), Stand p l e R s m sargs below meth c B.U B.locs B.cells B.slots ∧ Post A a v B ∧
      Steps p.tables e below (doInvoke e (A.U.setTop g) [] mk a).1 (B.U.setTop { g with pc := g.pc + len, stack := v.toList ++ g.stack })) ∨
    (∃ (q : Addr) (B : Pt), Stand p l e R s m sargs below meth c B.U B.locs B.cells B.slots ∧ PostX A a q B ∧
      Steps p.tables e below (doInvoke e (A.U.setTop g) [] mk a).1 ((B.U.setTop g).pushFrame (.throwing q)))
section Payer
variable {l : Launch} {R : Room} {p : Program} {e : Env} {below : List Frame} {s : State} {sargs : Array Value} {y : MethodName} {len W9 : Nat}
theorem vx_back {ws : List Cond} {rm : Room} {Pc : Array Value → State → Prop} {Qc : Array Value → State → Outcome → State → Prop} {XC : String → State → State → Prop} {mc ms : Nat} {free : Addr → Prop} {bytes : ByteArray} {maxL : Nat} {ret : Option FieldType}
    (hM : vx_Met l y ws rm Pc Qc XC mc ms free) (hblind : FrameBlind Pc) (hrc : rm.cells = mc) (hrs : rm.slots = ms)
    (hframes : rm.frames + 1 ≤ R.frames) (hlocals : W9 + (maxL + 11) + rm.locals ≤ R.locals)
    (hws : ∀ w ∈ ws, ∀ a' U, s.WarmedH U.vm → w.before a' U = true) (hcode : Cond.code y bytes maxL ret ∈ ws) (hinit : ∀ a' U, s.WarmedH U.vm → (Cond.initialized y.cls).before a' U = true) :
    vx_Back l R p e below s sargs y len W9 (PreOf R mc ms Pc) (PostOf Qc mc ms free) (vx_Post XC mc ms free) := by
  intro m meth c A g ig mk a X hg hsize hdg hW hn hp
  have h1 : (headSpec ws rm).pre.before a A.U = true := atoms_intro fun w hw => hws w hw _ _ X.warmed
  have h2 : (Cond.code y bytes maxL ret).before a A.U = true := hws _ hcode _ _ X.warmed
  have h3 : (Cond.initialized y.cls).before a A.U = true := hinit _ _ X.warmed
  have h4 : A.cells + (headSpec ws rm).room.cells ≤ R.cells := by rw [show (headSpec ws rm).room.cells = mc from hrc]; exact hp.1
  have h5 : A.slots + (headSpec ws rm).room.slots ≤ R.slots := by rw [show (headSpec ws rm).room.slots = ms from hrs]; exact hp.2.1
  have hPc : Pc a (A.U.calling g mk a) := hblind _ _ _ _ hp.2.2
  obtain ⟨U, Ls, c0, s0⟩ := A
  dsimp only [Pt.U, Pt.locs, Pt.cells, Pt.slots] at h1 h2 h3 h4 h5 X hn hPc ⊢
  obtain ⟨methY, cY, hmY, hcY, -, hlY, -, -, -, -⟩ := Cond.code_spec hn h2
  obtain ⟨kY, hkY, -⟩ := className_of_methodNamed hn
  have hinitY : kY.init = .initialized := Cond.initialized_spec (findClass_of_methodNamed hn) hkY h3
  have h : At U g.method c below := by rw [hg]; exact X.here
  have hlocals9 : W9 + (maxL + 11) + (headSpec ws rm).room.locals ≤ R.locals := hlocals
  have happ : (headSpec ws rm).appliesLoose y e.platform (U.calling g mk a) = true :=
    Spec.appliesLoose_calling (g := g) h hdg hn hkY hinitY
      (X.room_calling (g := g) (R' := (headSpec ws rm).room) hsize hmY hcY hframes (by rw [hlY]; omega) h4 h5) h1
  obtain ⟨mid, hmid⟩ := h.above
  have hfr : (U.setTop g).frames = (.java g :: mid) ++ below := by rw [State.frames_setTop' g h.top, hmid]; rfl
  obtain ⟨o, s₂, hsteps, -, hend, hq⟩ := Steps.callFree hM p X.admits X.cas X.clock (acts := []) hfr happ hPc trivial
  have hq' : vx_Q Qc XC mc ms free a (U.calling g mk a) o s₂ := hq
  rw [State.frames_setTop' g h.top] at hend
  obtain ⟨g₀, hg0⟩ := Option.isSome_iff_exists.mp h.top
  obtain ⟨r, hr⟩ := State.topJava?_eq_some.mp hg0
  have hr' : (({ U with heap := s₂.heap, slotsUsed := s₂.slotsUsed } : State).setVm s₂.vm).frames = .java g₀ :: r := hr
  rcases hq' with ⟨hqc, L, hfe, hL⟩ | ⟨q, rfl, E, ce, L, hx, hce, hcv, hcl, hW₂, hsm, hL⟩
  · obtain ⟨⟨v, rfl⟩, hW₂, e2, q2, q3, q4, q5, q6⟩ := id hfe
    have e3 : s₂ = ({ (U.calling g mk a).setFrames s₂.frames with heap := s₂.heap, slotsUsed := s₂.slotsUsed } : State).setVm s₂.vm := by
      have : s₂ = ({ s₂ with vm := (U.calling g mk a).vm } : State).setVm s₂.vm := rfl
      rw [e2] at this
      exact this
    obtain ⟨c₂, i₂, len₂, hc₂, hd₂, hf₂⟩ := hend
    have hW' : U.WarmedH s₂.vm := hW₂
    have hcc : c₂ = c := by
      have h1 : s₂.code? g.method = U.code? g.method := by
        rw [State.code?_eq, State.code?_eq, hW'.alike.method?]
      exact Option.some.inj (hc₂.symm.trans (h1.trans h.code))
    subst hcc
    have hlen : len₂ = len := by rw [hdg] at hd₂; cases hd₂; rfl
    subst hlen
    have hs₂ : s₂ = (({ U with heap := s₂.heap, slotsUsed := s₂.slotsUsed } : State).setVm s₂.vm).setTop { g with pc := g.pc + len₂, stack := v.toList ++ g.stack } := by
      refine e3.trans ?_
      rw [hf₂, State.calling_eq h.top, State.setFrames_setFrames, State.setTop_of_frames _ hr', hr]
      rfl
    have hsame : U.sameButNew ({ U with heap := s₂.heap, slotsUsed := s₂.slotsUsed } : State) L mc ms := by
      refine ⟨?_, q2, q3, q4, q5, q6⟩
      obtain ⟨t, ht, -⟩ := State.frames_cons hr
      show ({ U with heap := s₂.heap, slotsUsed := s₂.slotsUsed } : State) = { U.setFrames U.frames with heap := s₂.heap, slotsUsed := s₂.slotsUsed }
      rw [State.setFrames_self ht]
    subst hg
    refine Or.inl ⟨v, ⟨(({ U with heap := s₂.heap, slotsUsed := s₂.slotsUsed } : State).setVm s₂.vm), Ls ++ L, c0 + mc, s0 + ms⟩,
      ⟨X.admits, X.cas, X.clock, X.frames, X.room, X.hears, X.method, X.code, (X.here.setHeapUsed s₂.heap s₂.slotsUsed).setVm hW'.alike, X.tail, State.WarmedH.trans X.warmed hW', X.limits, X.bytes, X.same.trans (hsame.setVm s.vm)⟩,
      ⟨g, mk, s₂, L, rfl, rfl, hqc, rfl, hL, rfl, rfl⟩, ?_⟩
    show Steps p.tables e below _ ((({ U with heap := s₂.heap, slotsUsed := s₂.slotsUsed } : State).setVm s₂.vm).setTop { g with pc := g.pc + len₂, stack := v.toList ++ g.stack })
    rw [← hs₂]
    exact hsteps
  · obtain ⟨e2, q2, q3, q4, q5, q6⟩ := id hsm
    have e3 : s₂ = ({ (U.calling g mk a).setFrames s₂.frames with heap := s₂.heap, slotsUsed := s₂.slotsUsed } : State).setVm s₂.vm := by
      have : s₂ = ({ s₂ with vm := (U.calling g mk a).vm } : State).setVm s₂.vm := rfl
      rw [e2] at this
      exact this
    have hf₂ : s₂.frames = .throwing q :: .java g :: U.frames.tail := hend
    have hW' : U.WarmedH s₂.vm := hW₂
    have hs₂ : s₂ = ((({ U with heap := s₂.heap, slotsUsed := s₂.slotsUsed } : State).setVm s₂.vm).setTop g).pushFrame (.throwing q) := by
      refine e3.trans ?_
      rw [hf₂, State.calling_eq h.top, State.setFrames_setFrames, State.pushFrame, State.frames_setTop _ hr', State.setTop_of_frames _ hr', State.setFrames_setFrames, hr]
      rfl
    have hsame : U.sameButNew ({ U with heap := s₂.heap, slotsUsed := s₂.slotsUsed } : State) L mc ms := by
      refine ⟨?_, q2, q3, q4, q5, q6⟩
      obtain ⟨t, ht, -⟩ := State.frames_cons hr
      show ({ U with heap := s₂.heap, slotsUsed := s₂.slotsUsed } : State) = { U.setFrames U.frames with heap := s₂.heap, slotsUsed := s₂.slotsUsed }
      rw [State.setFrames_self ht]
    subst hg
    refine Or.inr ⟨q, ⟨(({ U with heap := s₂.heap, slotsUsed := s₂.slotsUsed } : State).setVm s₂.vm), Ls ++ L, c0 + mc, s0 + ms⟩,
      ⟨X.admits, X.cas, X.clock, X.frames, X.room, X.hears, X.method, X.code, (X.here.setHeapUsed s₂.heap s₂.slotsUsed).setVm hW'.alike, X.tail, State.WarmedH.trans X.warmed hW', X.limits, X.bytes, X.same.trans (hsame.setVm s.vm)⟩,
      ⟨g, mk, s₂, L, E, ce, rfl, rfl, hx, hce, hcv, hcl, rfl, hL, rfl, rfl⟩, ?_⟩
    show Steps p.tables e below _ (((({ U with heap := s₂.heap, slotsUsed := s₂.slotsUsed } : State).setVm s₂.vm).setTop g).pushFrame (.throwing q))
    rw [← hs₂]
    exact hsteps
end Payer
section Calls
variable {p : Program} {l : Launch} {e : Env} {R : Room} {s : State} {m : MethodId} {args : Array Value} {below : List Frame} {meth : Method} {c : Code} {T : State} {locs : List Loc} {cells slots : Nat}
theorem vx_callV (X : Stand p l e R s m args below meth c T locs cells slots) (hexec : p.tables.exec = Jvm.exec) {own C : String} {index : Nat} {y : MethodName} {bytes : ByteArray} {maxL : Nat} {ret : Option FieldType}
    (hown : s.vm.findClass own = some m.cls) (hlink : (Cond.methodLink own index y).before args s = true) (hinst : (Cond.instanceMethod y).before args s = true) (hsel : (Cond.selects C y y).before args s = true)
    (hcode : (Cond.code y bytes maxL ret).before args s = true) (hy : y.cls ≠ "java/lang/invoke/MethodHandle" ∧ y.cls ≠ "java/lang/invoke/VarHandle")
    {W9 : Nat} {Pre : Pt → Array Value → Prop} {Post : Pt → Array Value → Option Value → Pt → Prop} {PostX : Pt → Array Value → Addr → Pt → Prop} (hK : vx_Back l R p e below s args y 3 W9 Pre Post PostX)
    {b : Addr} {cellB : Cell} (hcell : T.heap[b]? = some cellB) (hobj : cellB.vm.isStatics = false) (hcls : s.vm.findClass C = some cellB.cls)
    {g : JFrame} (hg : g.method = m) (hsize : g.locals.size = c.maxLocals) {argsL rest : List Value} (hlen : ∀ sig, parseMethodDescriptor y.desc = some sig → argsL.length = sig.parameters.length)
    (hstack : g.stack = argsL.reverse ++ .ref b :: rest) (hW : 2 * g.monitorRoom + (rest.map fun v => v.category).sum ≤ W9) (hdg : decode c.code g.pc = .ok (.invokevirtual index, 3))
    (hpre : ∀ vm₁, s.WarmedH vm₁ → Pre ⟨T.setVm vm₁, locs, cells, slots⟩ (Value.ref b :: argsL).toArray) :
    (∃ (v : Option Value) (vm₁ : Vm) (B : Pt), s.WarmedH vm₁ ∧ Stand p l e R s m args below meth c B.U B.locs B.cells B.slots ∧ Post ⟨T.setVm vm₁, locs, cells, slots⟩ (Value.ref b :: argsL).toArray v B ∧
      ∀ target, Steps p.tables e below (B.U.setTop { g with pc := g.pc + 3, stack := v.toList ++ rest }) target → Steps p.tables e below (T.setTop g) target) ∨
    (∃ (q : Addr) (vm₁ : Vm) (B : Pt), s.WarmedH vm₁ ∧ Stand p l e R s m args below meth c B.U B.locs B.cells B.slots ∧ PostX ⟨T.setVm vm₁, locs, cells, slots⟩ (Value.ref b :: argsL).toArray q B ∧
      Steps p.tables e below (T.setTop g) ((B.U.setTop { g with stack := rest }).pushFrame (.throwing q))) := by
  obtain ⟨mk, methM, hnamed, hmethM, hstM, habM⟩ := Cond.instanceMethod_spec hinst
  obtain ⟨methM', cM, hmethM', -, -, -, -, -, -, hsigM⟩ := Cond.code_spec hnamed hcode
  cases hmethM.symm.trans hmethM'
  obtain ⟨c2, r2, m2, q1, q2, q3, q4, kP, hkP, hkPi⟩ := Cond.selects_spec hsel
  cases hcls.symm.trans q1
  cases (State.methodFound?_of_named hnamed hy).symm.trans q2
  cases hnamed.symm.trans q3
  have hselP : selectMethod e.platform s.vm cellB.cls mk = .method mk := by rw [Launch.admits_selectMethod X.admits]; exact q4
  obtain ⟨vm₁, X₁, hstep₁⟩ := X.invokevirtual hexec hown hlink hnamed hmethM hstM hkP hkPi hy (a := b) (cell := cellB) hcell
    (fun z h => by rw [h] at hobj; cases hobj) hselP hmethM habM hkP hkPi (g := g) hg (argsL := argsL) (rest := rest) (hlen _ hsigM) hstack hdg
  rcases hK m meth c ⟨T.setVm vm₁, locs, cells, slots⟩ { g with stack := rest } (.invokevirtual index) mk (Value.ref b :: argsL).toArray X₁ hg hsize hdg hW (X₁.named hnamed) (hpre vm₁ X₁.warmed) with ⟨v, B, X', hpost, hsteps⟩ | ⟨q, B, X', hpost, hsteps⟩
  · exact Or.inl ⟨v, vm₁, B, X₁.warmed, X', hpost, fun target h => hstep₁ _ fun acts => by rw [doInvoke_state]; exact hsteps.trans h⟩
  · exact Or.inr ⟨q, vm₁, B, X₁.warmed, X', hpost, hstep₁ _ fun acts => by rw [doInvoke_state]; exact hsteps⟩
theorem vx_callS (X : Stand p l e R s m args below meth c T locs cells slots) (hexec : p.tables.exec = Jvm.exec) {own : String} {index : Nat} {y : MethodName} {bytes : ByteArray} {maxL : Nat} {ret : Option FieldType}
    (hown : s.vm.findClass own = some m.cls) (hlink : (Cond.methodLink own index y).before args s = true) (hstat : (Cond.static y).before args s = true) (hinit : (Cond.initialized y.cls).before args s = true)
    (hcode : (Cond.code y bytes maxL ret).before args s = true) (hy : y.cls ≠ "java/lang/invoke/MethodHandle" ∧ y.cls ≠ "java/lang/invoke/VarHandle")
    {W9 : Nat} {Pre : Pt → Array Value → Prop} {Post : Pt → Array Value → Option Value → Pt → Prop} {PostX : Pt → Array Value → Addr → Pt → Prop} (hK : vx_Back l R p e below s args y 3 W9 Pre Post PostX)
    {g : JFrame} (hg : g.method = m) (hsize : g.locals.size = c.maxLocals) {argsL rest : List Value} (hlen : ∀ sig, parseMethodDescriptor y.desc = some sig → argsL.length = sig.parameters.length)
    (hstack : g.stack = argsL.reverse ++ rest) (hW : 2 * g.monitorRoom + (rest.map fun v => v.category).sum ≤ W9) (hdg : decode c.code g.pc = .ok (.invokestatic index, 3))
    (hpre : ∀ vm₁, s.WarmedH vm₁ → Pre ⟨T.setVm vm₁, locs, cells, slots⟩ argsL.toArray) :
    (∃ (v : Option Value) (vm₁ : Vm) (B : Pt), s.WarmedH vm₁ ∧ Stand p l e R s m args below meth c B.U B.locs B.cells B.slots ∧ Post ⟨T.setVm vm₁, locs, cells, slots⟩ argsL.toArray v B ∧
      ∀ target, Steps p.tables e below (B.U.setTop { g with pc := g.pc + 3, stack := v.toList ++ rest }) target → Steps p.tables e below (T.setTop g) target) ∨
    (∃ (q : Addr) (vm₁ : Vm) (B : Pt), s.WarmedH vm₁ ∧ Stand p l e R s m args below meth c B.U B.locs B.cells B.slots ∧ PostX ⟨T.setVm vm₁, locs, cells, slots⟩ argsL.toArray q B ∧
      Steps p.tables e below (T.setTop g) ((B.U.setTop { g with stack := rest }).pushFrame (.throwing q))) := by
  obtain ⟨mk, hnamed⟩ := Cond.code_named hcode
  obtain ⟨methM, cM, hmethM, -, -, -, -, -, -, hsigM⟩ := Cond.code_spec hnamed hcode
  have hstatic : methM.isStatic = true := Cond.static_spec hnamed hmethM hstat
  obtain ⟨kP, hkP, -⟩ := className_of_methodNamed hnamed
  have hinitP : kP.init = .initialized := Cond.initialized_spec (findClass_of_methodNamed hnamed) hkP hinit
  obtain ⟨vm₁, X₁, hstep₁⟩ := X.invokestatic hexec hown hlink hnamed hmethM hstatic hkP hinitP hy (g := g) hg (argsL := argsL) (rest := rest) (hlen _ hsigM) hstack hdg
  rcases hK m meth c ⟨T.setVm vm₁, locs, cells, slots⟩ { g with stack := rest } (.invokestatic index) mk argsL.toArray X₁ hg hsize hdg hW (X₁.named hnamed) (hpre vm₁ X₁.warmed) with ⟨v, B, X', hpost, hsteps⟩ | ⟨q, B, X', hpost, hsteps⟩
  · exact Or.inl ⟨v, vm₁, B, X₁.warmed, X', hpost, fun target h => hstep₁ _ fun acts => by rw [doInvoke_state]; exact hsteps.trans h⟩
  · exact Or.inr ⟨q, vm₁, B, X₁.warmed, X', hpost, hstep₁ _ fun acts => by rw [doInvoke_state]; exact hsteps⟩
end Calls
theorem vx_cls {s : State} {T : State} {vm₁ : Vm} {E : String} {k : ClassId} (hW : s.WarmedH vm₁) (h : (T.setVm vm₁).vm.findClass E = some k) : s.vm.findClass E = some k := by
  have h1 : vm₁.findClass E = some k := h
  rw [hW.alike.findClass] at h1
  exact h1
/-- the method's frame g, with q thrown over it -/
def vx_W (p : Program) (l : Launch) (e : Env) (R : Room) (s : State) (m : MethodId) (args : Array Value) (below : List Frame) (meth : Method) (c : Code) (H : Heap) (locs : List Loc) (cells slots : Nat) (Q : State → Prop) (g : JFrame) (q : Addr) : Prop :=
  ∀ T : State, T.heap = H → Stand p l e R s m args below meth c T locs cells slots → ∃ t, Steps p.tables e below ((T.setTop g).pushFrame (.throwing q)) t ∧ Q t
def vx_Run (p : Program) (l : Launch) (e : Env) (R : Room) (s : State) (m : MethodId) (args : Array Value) (below : List Frame) (meth : Method) (c : Code) (H : Heap) (locs : List Loc) (cells slots mc ms : Nat) (g : JFrame) (rest : List Value) (Qa : State → Outcome → State → Prop) (XC : String → State → State → Prop) (free : Addr → Prop) : Prop :=
  ∀ T : State, T.heap = H → Stand p l e R s m args below meth c T locs cells slots →
    (∃ (v : Option Value) (st₀ t T' : State) (L : List Loc), st₀.heap = H ∧ Stand p l e R s m args below meth c T' (locs ++ L) (cells + mc) (slots + ms) ∧ (∀ q ∈ L, free q.base) ∧ T'.heap = t.heap ∧ T'.vm = t.vm ∧ Qa st₀ (.returned v) t ∧
      Goes p e below T g T' { g with pc := g.pc + 3, stack := v.toList ++ rest }) ∨
    (∃ (q : Addr) (st₀ t T' : State) (L : List Loc) (E : String) (ce : Cell), st₀.heap = H ∧ Stand p l e R s m args below meth c T' (locs ++ L) (cells + mc) (slots + ms) ∧ (∀ z ∈ L, free z.base) ∧ T'.heap = t.heap ∧ T'.vm = t.vm ∧ XC E st₀ t ∧ t.heap[q]? = some ce ∧ ce.vm = .none ∧ s.vm.findClass E = some ce.cls ∧
      Steps p.tables e below (T.setTop g) ((T'.setTop { g with stack := rest }).pushFrame (.throwing q)))
def vx_X {S : Type} (px : S → Prop) (B : String → S → State → Prop) (A : Nat → Prop) : String → State → State → Prop := fun E st t => ∃ u : S, px u ∧ B E u t ∧ va_F A st t
section Runs
variable {p : Program} {l : Launch} {e : Env} {R : Room} {s : State} {m : MethodId} {args : Array Value} {below : List Frame} {meth : Method} {c : Code} {H : Heap} {locs : List Loc} {cells slots : Nat}
variable {y : MethodName} {bytes cc : ByteArray} {maxL nL mc ms n index : Nat} {ret : Option FieldType} {ws : List Cond} {rm : Room} {Pc : Array Value → State → Prop} {Qc : Array Value → State → Outcome → State → Prop} {XC : String → State → State → Prop} {free : Addr → Prop} {Ts : List Cond} {own C : String} {b : Addr} {As rest : List Value} {g : JFrame}
theorem vx_callBack (cb : CallB R s args own index y bytes maxL ret ws rm mc ms n) (hM : vx_Met l y ws rm Pc Qc XC mc ms free) (hbl : FrameBlind Pc) : vx_Back l R p e below s args y 3 8 (PreOf R mc ms Pc) (PostOf Qc mc ms free) (vx_Post XC mc ms free) := by
  obtain ⟨hrc, hrs, hfr, hlo, hws, hcw, -, hini, -⟩ := cb
  exact vx_back (bytes := bytes) (maxL := maxL) (ret := ret) hM hbl hrc hrs hfr hlo hws hcw (fun a' U hW => word_at hW (Or.inl (by first | rfl | simp [Cond.onTables, Cond.keeps, Cond.steady])) hini)
theorem vx_runV (S : CallFix p m c cc nL s args Ts own) (hM : vx_Met l y ws rm Pc Qc XC mc ms free) (cw : CallW R s args own C index y bytes maxL ret ws rm mc ms n) (hp : PreV s H C b Pc As)
    (hg : g.method = m) (hn : As.length = n) (hsize : g.locals.size = nL) (hstack : g.stack = As.reverse ++ .ref b :: rest) (hW : 2 * g.monitorRoom + (rest.map fun v => v.category).sum ≤ 8) (hdg : decode cc g.pc = .ok (.invokevirtual index, 3)) (hf : cells + mc ≤ R.cells ∧ slots + ms ≤ R.slots) :
    vx_Run p l e R s m args below meth c H locs cells slots mc ms g rest (Qc (Value.ref b :: As).toArray) XC free := by
  have hK : vx_Back l R p e below s args y 3 8 (PreOf R mc ms Pc) (PostOf Qc mc ms free) (vx_Post XC mc ms free) := vx_callBack cw.1 hM hp.1
  obtain ⟨⟨-, -, -, -, -, -, hcode, -, hy, hlen, hl⟩, hin, hse⟩ := cw
  obtain ⟨hx, hb, hml, ho, -⟩ := S
  obtain ⟨-, ⟨cellB, hcB, hoB, hclB⟩, hPc⟩ := hp
  intro T hT X
  rcases vx_callV X hx (C := C) (bytes := bytes) (maxL := maxL) (ret := ret) ho hl hin hse hcode hy hK (by rw [hT]; exact hcB) hoB hclB hg (hsize.trans hml.symm) (argsL := As) (rest := rest) (fun sig h => hn.trans (hlen sig h)) hstack hW (by rw [hb]; exact hdg)
    (fun vm₁ hW₁ => ⟨hf.1, hf.2, hPc (T.setVm vm₁) hT hW₁⟩) with ⟨v, vm₁, ⟨U', l2, c2, s2⟩, hW₁, X', ⟨g', mk, t, L, e1, e2, hq, h1, hL, h2, h3⟩, st⟩ | ⟨q, vm₁, ⟨U', l2, c2, s2⟩, hW₁, X', ⟨g', mk, t, L, E, ce, e1, e2, hq, hce, hcv, hcl, h1, hL, h2, h3⟩, st⟩
  · dsimp only [Pt.U, Pt.locs, Pt.cells, Pt.slots] at X' e1 e2 h1 h2 h3 st
    subst h1; subst h2; subst h3
    exact Or.inl ⟨v, (T.setVm vm₁).calling g' mk (Value.ref b :: As).toArray, t, U', L, hT, X', hL, e1, e2, hq, st⟩
  · dsimp only [Pt.U, Pt.locs, Pt.cells, Pt.slots] at X' e1 e2 h1 h2 h3 st hcl
    subst h1; subst h2; subst h3
    exact Or.inr ⟨q, (T.setVm vm₁).calling g' mk (Value.ref b :: As).toArray, t, U', L, E, ce, hT, X', hL, e1, e2, hq, hce, hcv, vx_cls hW₁ hcl, st⟩
theorem vx_runS (S : CallFix p m c cc nL s args Ts own) (hM : vx_Met l y ws rm Pc Qc XC mc ms free) (cw : CallB R s args own index y bytes maxL ret ws rm mc ms n ∧ (Cond.static y).before args s = true) (hp : PreS s H Pc As)
    (hg : g.method = m) (hn : As.length = n) (hsize : g.locals.size = nL) (hstack : g.stack = As.reverse ++ rest) (hW : 2 * g.monitorRoom + (rest.map fun v => v.category).sum ≤ 8) (hdg : decode cc g.pc = .ok (.invokestatic index, 3)) (hf : cells + mc ≤ R.cells ∧ slots + ms ≤ R.slots) :
    vx_Run p l e R s m args below meth c H locs cells slots mc ms g rest (Qc As.toArray) XC free := by
  have hK : vx_Back l R p e below s args y 3 8 (PreOf R mc ms Pc) (PostOf Qc mc ms free) (vx_Post XC mc ms free) := vx_callBack cw.1 hM hp.1
  obtain ⟨⟨-, -, -, -, -, -, hcode, hini, hy, hlen, hl⟩, hstt⟩ := cw
  obtain ⟨hx, hb, hml, ho, -⟩ := S
  intro T hT X
  rcases vx_callS X hx (bytes := bytes) (maxL := maxL) (ret := ret) ho hl hstt hini hcode hy hK hg (hsize.trans hml.symm) (argsL := As) (rest := rest) (fun sig h => hn.trans (hlen sig h)) hstack hW (by rw [hb]; exact hdg)
    (fun vm₁ hW₁ => ⟨hf.1, hf.2, hp.2 (T.setVm vm₁) hT hW₁⟩) with ⟨v, vm₁, ⟨U', l2, c2, s2⟩, hW₁, X', ⟨g', mk, t, L, e1, e2, hq, h1, hL, h2, h3⟩, st⟩ | ⟨q, vm₁, ⟨U', l2, c2, s2⟩, hW₁, X', ⟨g', mk, t, L, E, ce, e1, e2, hq, hce, hcv, hcl, h1, hL, h2, h3⟩, st⟩
  · dsimp only [Pt.U, Pt.locs, Pt.cells, Pt.slots] at X' e1 e2 h1 h2 h3 st
    subst h1; subst h2; subst h3
    exact Or.inl ⟨v, (T.setVm vm₁).calling g' mk As.toArray, t, U', L, hT, X', hL, e1, e2, hq, st⟩
  · dsimp only [Pt.U, Pt.locs, Pt.cells, Pt.slots] at X' e1 e2 h1 h2 h3 st hcl
    subst h1; subst h2; subst h3
    exact Or.inr ⟨q, (T.setVm vm₁).calling g' mk As.toArray, t, U', L, E, ce, hT, X', hL, e1, e2, hq, hce, hcv, vx_cls hW₁ hcl, st⟩
end Runs
section Rows
variable {p : Program} {l : Launch} {e : Env} {R : Room} {s : State} {m : MethodId} {args : Array Value} {below : List Frame} {meth : Method} {c : Code} {H : Heap} {locs : List Loc} {cells slots : Nat} {Q : State → Prop}
variable {mc ms : Nat} {free : Addr → Prop} {A0 A1 : Nat → Prop} {H0 : Heap} {a : Array Value} {pc : Nat} {ls : Array Slot} {st0 rest : List Value}
theorem vx_keep {st₀ t T' : State} {L : List Loc} (h0 : st₀.heap = H) (e1 : T'.heap = t.heap) (hS : va_S A0 H0 H locs) (hA : ∀ q, q < H.size → A1 q → A0 q) (hf : ∀ q, free q → A0 q) (hL : ∀ q ∈ L, free q.base) (hF : va_F A1 st₀ t) :
    H.size ≤ T'.heap.size ∧ (∀ q : Nat, q < H.size → ¬ A1 q → T'.heap[q]? = H[q]?) ∧ va_S A0 H0 T'.heap (locs ++ L) := by
  obtain ⟨hz, hk⟩ := hF
  rw [h0] at hz hk
  exact ⟨by rw [e1]; exact hz, fun q h1 h2 => by rw [e1]; exact hk q h1 h2,
    ⟨Nat.le_trans hS.1 (by rw [e1]; exact hz), fun q h1 h2 => by rw [e1, hk q (Nat.lt_of_lt_of_le h1 hS.1) (fun z => h2 (hA q (Nat.lt_of_lt_of_le h1 hS.1) z))]; exact hS.2.1 q h1 h2, fun q hq => by
      rcases List.mem_append.mp hq with h | h
      · exact hS.2.2 q h
      · exact hf _ (hL q h)⟩⟩
theorem vx_calli {S SX : Type} {post : Int32 → S → Prop} {px : SX → Prop} {B : S → State → Prop} {BX : String → SX → State → Prop} {AX : Nat → Prop} (hr : vx_Run p l e R s m args below meth c H locs cells slots mc ms (F0 m pc ls st0) rest (va_Qi post B A1 a) (vx_X px BX AX) free) (hS : va_S A0 H0 H locs) (hA : ∀ q, q < H.size → A1 q → A0 q) (hf : ∀ q, free q → A0 q) (hAX : ∀ q, q < H.size → AX q → A0 q)
    (kx : ∀ (E : String) (ce : Cell) (q9 : Addr) (u : SX) (t : State) (H1 : Heap) (locs1 : List Loc), t.heap = H1 → s.vm.Alike t.vm → px u → BX E u t → H.size ≤ H1.size → (∀ q : Nat, q < H.size → ¬ AX q → H1[q]? = H[q]?) → va_S A0 H0 H1 locs1 → H1[q9]? = some ce → ce.vm = .none → s.vm.findClass E = some ce.cls → vx_W p l e R s m args below meth c H1 locs1 (cells + mc) (slots + ms) Q (F0 m pc ls rest) q9)
    (kk : ∀ (r : Int32) (u : S) (t : State) (H1 : Heap) (locs1 : List Loc), t.heap = H1 → s.vm.Alike t.vm → post r u → B u t → H.size ≤ H1.size → (∀ q : Nat, q < H.size → ¬ A1 q → H1[q]? = H[q]?) → va_S A0 H0 H1 locs1 → W p l e R s m args below meth c H1 locs1 (cells + mc) (slots + ms) Q (F0 m (pc + 3) ls (.int r :: rest))) : W p l e R s m args below meth c H locs cells slots Q (F0 m pc ls st0) := by
  intro T hT X
  rcases hr T hT X with ⟨v, st₀, t, T', L, h0, X', hL, e1, e2, ⟨⟨r, u, hv, hp, hb⟩, hF⟩, st⟩ | ⟨q, st₀, t, T', L, E, ce, h0, X', hL, e1, e2, ⟨u, hp, hb, hF⟩, hce, hcv, hcl, st⟩
  · cases hv
    obtain ⟨k1, k2, k3⟩ := vx_keep h0 e1 hS hA hf hL hF
    obtain ⟨t2, a1, b1⟩ := kk r u t T'.heap (locs ++ L) e1.symm (by rw [← e2]; exact X'.warmed.alike) hp hb k1 k2 k3 T' rfl X'
    exact ⟨t2, st t2 a1, b1⟩
  · obtain ⟨k1, k2, k3⟩ := vx_keep h0 e1 hS hAX hf hL hF
    obtain ⟨t2, a1, b1⟩ := kx E ce q u t T'.heap (locs ++ L) e1.symm (by rw [← e2]; exact X'.warmed.alike) hp hb k1 k2 k3 (by rw [e1]; exact hce) hcv hcl T' rfl X'
    exact ⟨t2, st.trans a1, b1⟩
theorem vx_calll {S SX : Type} {post : Int64 → S → Prop} {px : SX → Prop} {B : S → State → Prop} {BX : String → SX → State → Prop} {AX : Nat → Prop} (hr : vx_Run p l e R s m args below meth c H locs cells slots mc ms (F0 m pc ls st0) rest (va_Ql post B A1 a) (vx_X px BX AX) free) (hS : va_S A0 H0 H locs) (hA : ∀ q, q < H.size → A1 q → A0 q) (hf : ∀ q, free q → A0 q) (hAX : ∀ q, q < H.size → AX q → A0 q)
    (kx : ∀ (E : String) (ce : Cell) (q9 : Addr) (u : SX) (t : State) (H1 : Heap) (locs1 : List Loc), t.heap = H1 → s.vm.Alike t.vm → px u → BX E u t → H.size ≤ H1.size → (∀ q : Nat, q < H.size → ¬ AX q → H1[q]? = H[q]?) → va_S A0 H0 H1 locs1 → H1[q9]? = some ce → ce.vm = .none → s.vm.findClass E = some ce.cls → vx_W p l e R s m args below meth c H1 locs1 (cells + mc) (slots + ms) Q (F0 m pc ls rest) q9)
    (kk : ∀ (r : Int64) (u : S) (t : State) (H1 : Heap) (locs1 : List Loc), t.heap = H1 → s.vm.Alike t.vm → post r u → B u t → H.size ≤ H1.size → (∀ q : Nat, q < H.size → ¬ A1 q → H1[q]? = H[q]?) → va_S A0 H0 H1 locs1 → W p l e R s m args below meth c H1 locs1 (cells + mc) (slots + ms) Q (F0 m (pc + 3) ls (.long r :: rest))) : W p l e R s m args below meth c H locs cells slots Q (F0 m pc ls st0) := by
  intro T hT X
  rcases hr T hT X with ⟨v, st₀, t, T', L, h0, X', hL, e1, e2, ⟨⟨r, u, hv, hp, hb⟩, hF⟩, st⟩ | ⟨q, st₀, t, T', L, E, ce, h0, X', hL, e1, e2, ⟨u, hp, hb, hF⟩, hce, hcv, hcl, st⟩
  · cases hv
    obtain ⟨k1, k2, k3⟩ := vx_keep h0 e1 hS hA hf hL hF
    obtain ⟨t2, a1, b1⟩ := kk r u t T'.heap (locs ++ L) e1.symm (by rw [← e2]; exact X'.warmed.alike) hp hb k1 k2 k3 T' rfl X'
    exact ⟨t2, st t2 a1, b1⟩
  · obtain ⟨k1, k2, k3⟩ := vx_keep h0 e1 hS hAX hf hL hF
    obtain ⟨t2, a1, b1⟩ := kx E ce q u t T'.heap (locs ++ L) e1.symm (by rw [← e2]; exact X'.warmed.alike) hp hb k1 k2 k3 (by rw [e1]; exact hce) hcv hcl T' rfl X'
    exact ⟨t2, st.trans a1, b1⟩
theorem vx_callf {S SX : Type} {post : UInt32 → S → Prop} {px : SX → Prop} {B : S → State → Prop} {BX : String → SX → State → Prop} {AX : Nat → Prop} (hr : vx_Run p l e R s m args below meth c H locs cells slots mc ms (F0 m pc ls st0) rest (va_Qf post B A1 a) (vx_X px BX AX) free) (hS : va_S A0 H0 H locs) (hA : ∀ q, q < H.size → A1 q → A0 q) (hf : ∀ q, free q → A0 q) (hAX : ∀ q, q < H.size → AX q → A0 q)
    (kx : ∀ (E : String) (ce : Cell) (q9 : Addr) (u : SX) (t : State) (H1 : Heap) (locs1 : List Loc), t.heap = H1 → s.vm.Alike t.vm → px u → BX E u t → H.size ≤ H1.size → (∀ q : Nat, q < H.size → ¬ AX q → H1[q]? = H[q]?) → va_S A0 H0 H1 locs1 → H1[q9]? = some ce → ce.vm = .none → s.vm.findClass E = some ce.cls → vx_W p l e R s m args below meth c H1 locs1 (cells + mc) (slots + ms) Q (F0 m pc ls rest) q9)
    (kk : ∀ (r : UInt32) (u : S) (t : State) (H1 : Heap) (locs1 : List Loc), t.heap = H1 → s.vm.Alike t.vm → post r u → B u t → H.size ≤ H1.size → (∀ q : Nat, q < H.size → ¬ A1 q → H1[q]? = H[q]?) → va_S A0 H0 H1 locs1 → W p l e R s m args below meth c H1 locs1 (cells + mc) (slots + ms) Q (F0 m (pc + 3) ls (.float r :: rest))) : W p l e R s m args below meth c H locs cells slots Q (F0 m pc ls st0) := by
  intro T hT X
  rcases hr T hT X with ⟨v, st₀, t, T', L, h0, X', hL, e1, e2, ⟨⟨r, u, hv, hp, hb⟩, hF⟩, st⟩ | ⟨q, st₀, t, T', L, E, ce, h0, X', hL, e1, e2, ⟨u, hp, hb, hF⟩, hce, hcv, hcl, st⟩
  · cases hv
    obtain ⟨k1, k2, k3⟩ := vx_keep h0 e1 hS hA hf hL hF
    obtain ⟨t2, a1, b1⟩ := kk r u t T'.heap (locs ++ L) e1.symm (by rw [← e2]; exact X'.warmed.alike) hp hb k1 k2 k3 T' rfl X'
    exact ⟨t2, st t2 a1, b1⟩
  · obtain ⟨k1, k2, k3⟩ := vx_keep h0 e1 hS hAX hf hL hF
    obtain ⟨t2, a1, b1⟩ := kx E ce q u t T'.heap (locs ++ L) e1.symm (by rw [← e2]; exact X'.warmed.alike) hp hb k1 k2 k3 (by rw [e1]; exact hce) hcv hcl T' rfl X'
    exact ⟨t2, st.trans a1, b1⟩
theorem vx_calld {S SX : Type} {post : UInt64 → S → Prop} {px : SX → Prop} {B : S → State → Prop} {BX : String → SX → State → Prop} {AX : Nat → Prop} (hr : vx_Run p l e R s m args below meth c H locs cells slots mc ms (F0 m pc ls st0) rest (va_Qd post B A1 a) (vx_X px BX AX) free) (hS : va_S A0 H0 H locs) (hA : ∀ q, q < H.size → A1 q → A0 q) (hf : ∀ q, free q → A0 q) (hAX : ∀ q, q < H.size → AX q → A0 q)
    (kx : ∀ (E : String) (ce : Cell) (q9 : Addr) (u : SX) (t : State) (H1 : Heap) (locs1 : List Loc), t.heap = H1 → s.vm.Alike t.vm → px u → BX E u t → H.size ≤ H1.size → (∀ q : Nat, q < H.size → ¬ AX q → H1[q]? = H[q]?) → va_S A0 H0 H1 locs1 → H1[q9]? = some ce → ce.vm = .none → s.vm.findClass E = some ce.cls → vx_W p l e R s m args below meth c H1 locs1 (cells + mc) (slots + ms) Q (F0 m pc ls rest) q9)
    (kk : ∀ (r : UInt64) (u : S) (t : State) (H1 : Heap) (locs1 : List Loc), t.heap = H1 → s.vm.Alike t.vm → post r u → B u t → H.size ≤ H1.size → (∀ q : Nat, q < H.size → ¬ A1 q → H1[q]? = H[q]?) → va_S A0 H0 H1 locs1 → W p l e R s m args below meth c H1 locs1 (cells + mc) (slots + ms) Q (F0 m (pc + 3) ls (.double r :: rest))) : W p l e R s m args below meth c H locs cells slots Q (F0 m pc ls st0) := by
  intro T hT X
  rcases hr T hT X with ⟨v, st₀, t, T', L, h0, X', hL, e1, e2, ⟨⟨r, u, hv, hp, hb⟩, hF⟩, st⟩ | ⟨q, st₀, t, T', L, E, ce, h0, X', hL, e1, e2, ⟨u, hp, hb, hF⟩, hce, hcv, hcl, st⟩
  · cases hv
    obtain ⟨k1, k2, k3⟩ := vx_keep h0 e1 hS hA hf hL hF
    obtain ⟨t2, a1, b1⟩ := kk r u t T'.heap (locs ++ L) e1.symm (by rw [← e2]; exact X'.warmed.alike) hp hb k1 k2 k3 T' rfl X'
    exact ⟨t2, st t2 a1, b1⟩
  · obtain ⟨k1, k2, k3⟩ := vx_keep h0 e1 hS hAX hf hL hF
    obtain ⟨t2, a1, b1⟩ := kx E ce q u t T'.heap (locs ++ L) e1.symm (by rw [← e2]; exact X'.warmed.alike) hp hb k1 k2 k3 (by rw [e1]; exact hce) hcv hcl T' rfl X'
    exact ⟨t2, st.trans a1, b1⟩
theorem vx_callv {S SX : Type} {post : S → Prop} {px : SX → Prop} {B : S → State → Prop} {BX : String → SX → State → Prop} {AX : Nat → Prop} (hr : vx_Run p l e R s m args below meth c H locs cells slots mc ms (F0 m pc ls st0) rest (va_Qv post B A1 a) (vx_X px BX AX) free) (hS : va_S A0 H0 H locs) (hA : ∀ q, q < H.size → A1 q → A0 q) (hf : ∀ q, free q → A0 q) (hAX : ∀ q, q < H.size → AX q → A0 q)
    (kx : ∀ (E : String) (ce : Cell) (q9 : Addr) (u : SX) (t : State) (H1 : Heap) (locs1 : List Loc), t.heap = H1 → s.vm.Alike t.vm → px u → BX E u t → H.size ≤ H1.size → (∀ q : Nat, q < H.size → ¬ AX q → H1[q]? = H[q]?) → va_S A0 H0 H1 locs1 → H1[q9]? = some ce → ce.vm = .none → s.vm.findClass E = some ce.cls → vx_W p l e R s m args below meth c H1 locs1 (cells + mc) (slots + ms) Q (F0 m pc ls rest) q9)
    (kk : ∀ (u : S) (t : State) (H1 : Heap) (locs1 : List Loc), t.heap = H1 → s.vm.Alike t.vm → post u → B u t → H.size ≤ H1.size → (∀ q : Nat, q < H.size → ¬ A1 q → H1[q]? = H[q]?) → va_S A0 H0 H1 locs1 → W p l e R s m args below meth c H1 locs1 (cells + mc) (slots + ms) Q (F0 m (pc + 3) ls (rest))) : W p l e R s m args below meth c H locs cells slots Q (F0 m pc ls st0) := by
  intro T hT X
  rcases hr T hT X with ⟨v, st₀, t, T', L, h0, X', hL, e1, e2, ⟨⟨u, hv, hp, hb⟩, hF⟩, st⟩ | ⟨q, st₀, t, T', L, E, ce, h0, X', hL, e1, e2, ⟨u, hp, hb, hF⟩, hce, hcv, hcl, st⟩
  · cases hv
    obtain ⟨k1, k2, k3⟩ := vx_keep h0 e1 hS hA hf hL hF
    obtain ⟨t2, a1, b1⟩ := kk u t T'.heap (locs ++ L) e1.symm (by rw [← e2]; exact X'.warmed.alike) hp hb k1 k2 k3 T' rfl X'
    exact ⟨t2, st t2 a1, b1⟩
  · obtain ⟨k1, k2, k3⟩ := vx_keep h0 e1 hS hAX hf hL hF
    obtain ⟨t2, a1, b1⟩ := kx E ce q u t T'.heap (locs ++ L) e1.symm (by rw [← e2]; exact X'.warmed.alike) hp hb k1 k2 k3 (by rw [e1]; exact hce) hcv hcl T' rfl X'
    exact ⟨t2, st.trans a1, b1⟩
/-- caught by the row x of this method's table; the rows ahead don't take it -/
theorem vx_catch {own name : String} {E : String} {ce : Cell} {q : Addr} (hown : s.vm.findClass own = some m.cls) (pre : List ExceptionTableEntry) (x : ExceptionTableEntry) (suf : List ExceptionTableEntry) (hsplit : c.exceptionTable.toList = pre ++ x :: suf)
    (hpass : ∀ z ∈ pre, covers z pc = false ∨ (z.catchType ≠ 0 ∧ ∃ nm : String, (Cond.classLink own z.catchType nm).before args s = true ∧ va_Nc E nm s)) (hx : covers x pc = true) (h0 : x.catchType ≠ 0)
    (hlink : (Cond.classLink own x.catchType name).before args s = true) (hcast : (Cond.castable E name).before args s = true) (hcell : H[q]? = some ce) (hv : ce.vm = .none) (hcl : s.vm.findClass E = some ce.cls)
    (kk : W p l e R s m args below meth c H locs cells slots Q (F0 m x.handlerPc ls [.ref q])) : vx_W p l e R s m args below meth c H locs cells slots Q (F0 m pc ls rest) q := by
  intro T hT X
  have hpl : e.platform.magicAccessors = ({} : Platform).magicAccessors := by rw [X.admits.platform]
  obtain ⟨c3, c4, hc3, hc4, hasg⟩ := Cond.castable_spec hcast
  cases Option.some.inj (hc3.symm.trans hcl)
  obtain ⟨c5, hc5, hcl5⟩ := Cond.classLink_spec hown hlink e.platform hpl
  cases Option.some.inj (hc4.symm.trans hc5)
  obtain ⟨vm', X', st⟩ := X.thenCaughtThrough q (g := F0 m pc ls rest) rfl (Steps.refl _) (by rw [hT]; exact hcell) (by rw [hv]; rfl) (by obtain ⟨k9, h9, -⟩ := Vm.findClass_spec hcl; exact ⟨k9, h9⟩) pre x suf hsplit
    (fun z hz => by
      rcases hpass z hz with h | ⟨hz0, nm, hl1, hn1⟩
      · exact Or.inl h
      · obtain ⟨c6, hc6, hcl6⟩ := Cond.classLink_spec hown hl1 e.platform hpl
        obtain ⟨a8, b8, h1, h2, h3⟩ := hn1
        cases Option.some.inj (h1.symm.trans hcl)
        cases Option.some.inj (h2.symm.trans hc6)
        exact Or.inr ⟨hz0, _, hcl6, h3⟩) hx (Or.inr ⟨h0, c4, hcl5, hasg⟩)
  obtain ⟨t, a1, b1⟩ := kk (T.setVm vm') hT X'
  exact ⟨t, st.trans a1, b1⟩
end Rows
section Ends
variable {p : Program} {l : Launch} {e : Env} {R : Room} {s : State} {m : MethodId} {args : Array Value} {below : List Frame} {meth : Method} {c : Code} {H : Heap} {locs : List Loc} {cells slots : Nat} {Q : State → Prop}
variable {mc ms : Nat} {free : Addr → Prop} {A0 A1 : Nat → Prop} {H0 : Heap} {a : Array Value} {ls : Array Slot} {st0 rest : List Value}
variable {Qc : Array Value → State → Outcome → State → Prop} {XC : String → State → State → Prop}
/-- what a body that may throw owes at its end -/
def vx_MQ (below : List Frame) (Qc : Array Value → State → Outcome → State → Prop) (XC : String → State → State → Prop) (a : Array Value) (s : State) (mc ms : Nat) (free : Addr → Prop) : State → Prop := fun t =>
  ∃ o, t.status = .running ∧ Ended t below o ∧ vx_Q Qc XC mc ms free a s o t
theorem vx_ret {g : JFrame} {mc ms : Nat} (k : W p l e R s m args below meth c H locs cells slots (MQ below Qc args s mc ms free) g) : W p l e R s m args below meth c H locs cells slots (vx_MQ below Qc XC args s mc ms free) g := by
  intro T hT X
  obtain ⟨t, a1, o, b1, b2, b3, b4⟩ := k T hT X
  exact ⟨t, a1, o, b1, b2, Or.inl ⟨b3, b4⟩⟩
/-- not caught here: it goes on to the caller -/
theorem vx_widen {g : JFrame} {q : Addr} {k n : Nat} (h1 : cells ≤ k) (h2 : slots ≤ n) (kk : vx_W p l e R s m args below meth c H locs k n Q g q) : vx_W p l e R s m args below meth c H locs cells slots Q g q := fun T hT X => kk T hT (stand_widen X h1 h2)
theorem vx_out {pc : Nat} {E : String} {ce : Cell} {q : Addr} {mc ms : Nat} (hout : ∀ x ∈ c.exceptionTable.toList, covers x pc = false) (hlocks : meth.locks = false) (hcell : H[q]? = some ce) (hv : ce.vm = .none) (hcl : s.vm.findClass E = some ce.cls)
    (hx : ∀ t : State, t.heap = H → s.vm.Alike t.vm → XC E s t) (hf : ∀ z ∈ locs, free z.base) (hc : cells ≤ mc) (hs : slots ≤ ms) :
    vx_W p l e R s m args below meth c H locs cells slots (vx_MQ below Qc XC args s mc ms free) (F0 m pc ls rest) q := by
  intro T hT X
  obtain ⟨st1, hrun, hend, hW, hsm⟩ := X.leaveThrown q (g := F0 m pc ls rest) rfl rfl rfl hout hlocks
  have hcell9 : (T.setFrames (.throwing q :: below)).heap[q]? = some ce := by
    show T.heap[q]? = some ce
    rw [hT]; exact hcell
  exact ⟨_, st1, .threw q, hrun, hend, Or.inr ⟨q, rfl, E, ce, locs, hx _ hT hW.alike, hcell9, hv, hcl, hW, hsm.mono hc hs, hf⟩⟩
theorem vx_frame {U : State} {k n : Nat} (h : s.sameButNew ({ U with vm := s.vm } : State) locs k n) : s.heap.size ≤ U.heap.size ∧ ∀ q : Nat, q < s.heap.size → (∀ z ∈ locs, z.base ≠ q) → U.heap[q]? = s.heap[q]? := by
  obtain ⟨-, h2, -, -, -, h6⟩ := h
  refine ⟨h2, fun q hq hz => ?_⟩
  obtain ⟨c9, e1, e2, e3, e4⟩ := h6 q _ (Array.getElem?_eq_getElem hq)
  have hs : c9.slots = (s.heap[q]).slots := Array.ext_getElem? fun i => e4 i fun hm => hz _ hm rfl
  have h9 : c9 = s.heap[q] := by
    rw [hs] at e2
    exact e2
  have e5 : U.heap[q]? = some c9 := e1
  rw [e5, h9, Array.getElem?_eq_getElem hq]
/-- the words of a throw but the four that speak of the heap -/
def vx_no (w : Cond) : Bool := decide (w ≠ .isRef (.static Bundle.tN "UNASSIGNED_STACK" Bundle.steD)) && decide (w ≠ .isRef (.static Bundle.tN "SUPPRESSED_SENTINEL" Bundle.listD)) && decide (w ≠ .laysStatic Bundle.tN "UNASSIGNED_STACK" Bundle.steD) && decide (w ≠ .laysStatic Bundle.tN "SUPPRESSED_SENTINEL" Bundle.listD)
def vx_at0 (own : String) (ic : Nat) (X : String) (names : List String) : List Cond := (Bundle.ownAtoms0 own ic X names).filter vx_no
def vx_atS (own : String) (ic : Nat) (X : String) (names : List String) : List Cond := (Bundle.ownAtoms own ic X names).filter vx_no
/-- a word that the tables alone decide, or a good one -/
def vx_ot (w : Cond) : Bool := w.onTables || goodWord w
theorem vx_ot_at {args a' : Array Value} {s U : State} {w : Cond} (hW : s.WarmedH U.vm) (hvm : s.vm = U.vm) (hg : vx_ot w = true) (h : w.before args s = true) : w.before a' U = true := by
  simp only [vx_ot, Bool.or_eq_true] at hg
  rcases hg with hg | hg
  · exact va_tabs hg hvm h
  · exact word_at hW (good_of_word hg) h
/-- a list's words: the good ones out of the method's own list, the others by premises of their own -/
theorem vx_hat {args : Array Value} {s : State} {L B : List Cond} (h1 : ∀ w ∈ L.filter goodWord, w.before args s = true) (h2 : ∀ w ∈ L.filter (fun w => !goodWord w), w ∈ B) (h3 : ∀ w ∈ B, w.before args s = true) : ∀ w ∈ L, w.before args s = true := by
  intro w hw
  by_cases g : goodWord w = true
  · exact h1 w (List.mem_filter.mpr ⟨hw, g⟩)
  · refine h3 w (h2 w (List.mem_filter.mpr ⟨hw, ?_⟩))
    show (!goodWord w) = true
    cases hgw : goodWord w
    · rfl
    · exact absurd hgw g
theorem vx_c {args : Array Value} {s : State} {w : Cond} {B : List Cond} (h : w.before args s = true) (t : ∀ w ∈ B, w.before args s = true) : ∀ w' ∈ w :: B, w'.before args s = true := fun w' h' => (List.mem_cons.mp h').elim (fun e => by rw [e]; exact h) (t w')
theorem vx_n {args : Array Value} {s : State} : ∀ w ∈ ([] : List Cond), w.before args s = true := fun _ h => nomatch h
theorem vx_own {args : Array Value} {s : State} {L : List Cond} (h1 : ∀ w ∈ L.filter vx_no, w.before args s = true)
    (hU : (Cond.isRef (.static Bundle.tN "UNASSIGNED_STACK" Bundle.steD)).before args s = true) (hN : (Cond.isRef (.static Bundle.tN "SUPPRESSED_SENTINEL" Bundle.listD)).before args s = true)
    (lU : (Cond.laysStatic Bundle.tN "UNASSIGNED_STACK" Bundle.steD).before args s = true) (lN : (Cond.laysStatic Bundle.tN "SUPPRESSED_SENTINEL" Bundle.listD).before args s = true) : ∀ w ∈ L, w.before args s = true := by
  intro w hw
  by_cases e1 : w = .isRef (.static Bundle.tN "UNASSIGNED_STACK" Bundle.steD)
  · rw [e1]; exact hU
  · by_cases e2 : w = .isRef (.static Bundle.tN "SUPPRESSED_SENTINEL" Bundle.listD)
    · rw [e2]; exact hN
    · by_cases e3 : w = .laysStatic Bundle.tN "UNASSIGNED_STACK" Bundle.steD
      · rw [e3]; exact lU
      · by_cases e4 : w = .laysStatic Bundle.tN "SUPPRESSED_SENTINEL" Bundle.listD
        · rw [e4]; exact lN
        · exact h1 w (List.mem_filter.mpr ⟨hw, by unfold vx_no; rw [decide_eq_true e1, decide_eq_true e2, decide_eq_true e3, decide_eq_true e4]; rfl⟩)
/-- where a static field lies, its class's statics cell in H -/
def vx_L (C n d : String) (A : Nat → Prop) (U : State) (H : Heap) : Prop := ∃ (c : ClassId) (k : Class) (i : Nat) (f : Field) (a : Nat) (cell : Cell), U.vm.findClass C = some c ∧ U.fieldFound? C n d = some (c, k, i, f) ∧ f.isStatic = true ∧ k.statics = some a ∧ H[a]? = some cell ∧ cell.vm.isStatics = true ∧ cell.cls = c ∧ f.slot < cell.slots.size ∧ k.staticTypes[f.slot]? = some f.type ∧ ¬ A a
theorem vx_L.moved {C n d : String} {A : Nat → Prop} {u U : State} {H : Heap} (hvm : u.vm.Alike U.vm) (h : vx_L C n d A u H) : vx_L C n d A U H := by
  obtain ⟨c, k, i, f, a, cell, h1, h2, h3, h4, h5, h6, h7, h8, h9, h10⟩ := h
  obtain ⟨k', hi', he⟩ := State.fieldFound?_setVm hvm h2
  exact ⟨c, k', i, f, a, cell, by rw [hvm.findClass]; exact h1, hi', h3, by rw [he]; exact h4, h5, h6, h7, h8, by rw [he]; exact h9, h10⟩
theorem vx_L.kept {C n d : String} {A : Nat → Prop} {U : State} {H H1 : Heap} (h : vx_L C n d A U H) (hq : ∀ a : Nat, a < H.size → ¬ A a → H1[a]? = H[a]?) : vx_L C n d A U H1 := by
  obtain ⟨c, k, i, f, a, cell, h1, h2, h3, h4, h5, h6, h7, h8, h9, h10⟩ := h
  exact ⟨c, k, i, f, a, cell, h1, h2, h3, h4, by rw [hq a (Array.getElem?_eq_some_iff.mp h5).1 h10]; exact h5, h6, h7, h8, h9, h10⟩
theorem vx_L.narrow {C n d : String} {A B : Nat → Prop} {U : State} {H : Heap} (h : vx_L C n d A U H) (hAB : ∀ q, B q → A q) : vx_L C n d B U H := by
  obtain ⟨c, k, i, f, a, cell, h1, h2, h3, h4, h5, h6, h7, h8, h9, h10⟩ := h
  exact ⟨c, k, i, f, a, cell, h1, h2, h3, h4, h5, h6, h7, h8, h9, fun z => h10 (hAB _ z)⟩
theorem vx_L.word {C n d : String} {A : Nat → Prop} {s : State} {args : Array Value} (h : vx_L C n d A s s.heap) : (Cond.laysStatic C n d).before args s = true := by
  obtain ⟨c, k, i, f, a, cell, h1, h2, h3, h4, h5, h6, h7, h8, h9, -⟩ := h
  show (Cond.laysStatic C n d).holds args s none s [] = true
  exact Cond.laysStatic_of h1 h2 h3 h4 h5 h6 h7 h8 h9
/-- .. and what it holds: null or some reference -/
def vx_Zq (C n d : String) (A : Nat → Prop) (U : State) (H : Heap) : Prop := va_Zq C n d A U H ∧ vx_L C n d A U H
theorem vx_Zq.moved {C n d : String} {A : Nat → Prop} {u U : State} {H : Heap} (hvm : u.vm.Alike U.vm) (h : vx_Zq C n d A u H) : vx_Zq C n d A U H := ⟨va_Zq.moved hvm h.1, vx_L.moved hvm h.2⟩
theorem vx_Zq.kept {C n d : String} {A : Nat → Prop} {U : State} {H H1 : Heap} (h : vx_Zq C n d A U H) (hq : ∀ a : Nat, a < H.size → ¬ A a → H1[a]? = H[a]?) : vx_Zq C n d A U H1 := ⟨va_Zq.kept h.1 hq, vx_L.kept h.2 hq⟩
theorem vx_Zq.narrow {C n d : String} {A B : Nat → Prop} {U : State} {H : Heap} (h : vx_Zq C n d A U H) (hAB : ∀ q, B q → A q) : vx_Zq C n d B U H := ⟨va_Zq.narrow h.1 hAB, vx_L.narrow h.2 hAB⟩
theorem vx_Zqof {args : Array Value} {s : State} {C n d : String} {A : Nat → Prop} (hl : (Cond.laysStatic C n d).before args s = true) (hini : (Cond.initialized C).before args s = true) (h : (Cond.isRef (.static C n d)).before args s = true) (hA : ∀ a : Nat, a < s.heap.size → ¬ A a) : vx_Zq C n d A s s.heap := by
  refine ⟨va_Zqof hl hini h hA, ?_⟩
  obtain ⟨c, k, i, f, a, cell, h1, h2, h3, h4, h5, h6, h7, h8, h9⟩ := Cond.laysStatic_spec hl
  exact ⟨c, k, i, f, a, cell, h1, h2, h3, h4, h5, h6, h7, h8, h9, hA a (Array.getElem?_eq_some_iff.mp h5).1⟩
theorem vx_isRef {C n d : String} {v : Value} {A : Nat → Prop} {s : State} {args : Array Value} (h : va_Z C n d v A s s.heap) (hv : v.isRef = true) : (Cond.isRef (.static C n d)).before args s = true := by
  obtain ⟨cf, kf, fi, f, a, cell, h1, h2, h3, h4, h5, h6, h7, -⟩ := h
  have he : (Term.static C n d).eval args s none [] s = some v := by
    simp [Term.eval, State.fieldNamed?, h1, h2, h4, h5, h6, h7]
  simp only [Cond.before, Cond.holds, Cond.value, he]
  cases v <;> simp_all [Value.isRef]
theorem vx_isRefq {C n d : String} {A : Nat → Prop} {s : State} {args : Array Value} (h : va_Zq C n d A s s.heap) : (Cond.isRef (.static C n d)).before args s = true := by
  rcases h with h | ⟨t, h⟩
  · exact vx_isRef h rfl
  · exact vx_isRef h rfl
/-- the same frame, seen from here: as if the method were called anew in this heap -/
theorem vx_rebase {T : State} (X : Stand p l e R s m args below meth c T locs cells slots) {R' : Room} (hf : R'.frames ≤ R.frames) (hl : R'.locals ≤ R.locals) (hc : cells + R'.cells ≤ R.cells) (hs : slots + R'.slots ≤ R.slots) :
    Stand p l e R' ((T.setVm s.vm).setFrames (.invoking m args :: below)) m args below meth c T [] 0 0 := by
  have htop : (T.setVm s.vm).topJava?.isSome := X.here.top
  have hF : ((T.setVm s.vm).setFrames (.invoking m args :: below)).frames = .invoking m args :: below := State.frames_setFrames _ (State.cur_lt_of_top htop)
  obtain ⟨g₀, hg0⟩ := Option.isSome_iff_exists.mp htop
  obtain ⟨r, hr⟩ := State.topJava?_eq_some.mp hg0
  have hl9 : e.platform.stackLimits (T.setVm s.vm).me = e.platform.stackLimits s.me := X.limits
  have hb9 : (T.setVm s.vm).me.stackBytes = s.me.stackBytes := X.bytes
  refine ⟨X.admits, X.cas, X.clock, hF, ?_, X.hears, X.method, X.code, X.here, X.tail, X.warmed, ?_, ?_, ?_⟩
  · have h := X.room
    have hU : ((T.setVm s.vm).setFrames (.invoking m args :: below)).localsInUse = s.localsInUse := by
      rw [State.localsInUse_invoking hF (meth := meth) (c := c) X.method X.code, State.localsInUse_invoking X.frames X.method X.code]
    simp only [State.hasRoom, Bool.and_eq_true, decide_eq_true_eq] at h ⊢
    obtain ⟨⟨⟨⟨h1, h2, h3, h4, h5, h6⟩, h7⟩, h8⟩, h9⟩ := h
    rw [X.frames, List.length_cons] at h2 h3
    have q1 := X.heapSize
    have q2 := X.used
    simp only [hF, hU, List.length_cons, State.stackLimits_setFrames, State.stackBytes_setFrames, hl9, hb9]
    refine ⟨⟨⟨⟨by omega, by omega, by omega, by omega, by omega, h6⟩, ?_⟩, ?_⟩, X.book⟩
    · show T.heap.size + R'.cells ≤ e.platform.maxCells
      omega
    · show T.slotsUsed + R'.slots ≤ e.platform.maxSlots
      omega
  · rw [State.stackLimits_setFrames]; rfl
  · rw [State.stackBytes_setFrames]; rfl
  · refine ⟨?_, Nat.le_refl _, Nat.le_refl _, ?_, ?_, fun a c9 h9 => ⟨c9, h9, rfl, rfl, fun _ _ => rfl⟩⟩
    · obtain ⟨t, ht, -⟩ := State.frames_cons hr
      show T.setVm s.vm = { ((T.setVm s.vm).setFrames (.invoking m args :: below)).setFrames (T.setVm s.vm).frames with heap := T.heap, slotsUsed := T.slotsUsed }
      rw [State.setFrames_setFrames, State.setFrames_self ht]
      rfl
    · show T.slotsUsed = T.slotsUsed + ((T.heap.toList.drop T.heap.size).map (·.slots.size)).sum
      rw [List.drop_eq_nil_of_le (Nat.le_of_eq Array.length_toList)]
      rfl
    · show ((T.heap.toList.drop T.heap.size).map (·.slots.size)).sum ≤ 0
      rw [List.drop_eq_nil_of_le (Nat.le_of_eq Array.length_toList)]
      exact Nat.le_refl _
/-- 'throw new E()': new; dup; invokespecial; athrow -/
theorem vx_throw0 {cc : ByteArray} {pc : Nat} (hexec : p.tables.exec = Jvm.exec) (hb : c.code = cc) (hl : l.stackTraces = false) {own cls : String} {names : List String} {ik ic mc ms : Nat} {A : Nat → Prop}
    (hown : s.vm.findClass own = some m.cls) (hcls : Bundle.fit cls = true) (hnames : ∀ n ∈ names, Bundle.fit n = true)
    (hk : (Cond.classLink own ik cls).before args s = true) (hini : (Cond.initialized cls).before args s = true) (hat : ∀ w ∈ vx_at0 own ic cls names, w.before args s = true)
    (hgood : ∀ w ∈ Cond.classLink own ik cls :: Cond.initialized cls :: vx_at0 own ic cls names, vx_ot w = true)
    (hU : vx_Zq Bundle.tN "UNASSIGNED_STACK" Bundle.steD A s s.heap) (hN : vx_Zq Bundle.tN "SUPPRESSED_SENTINEL" Bundle.listD A s s.heap) (hS : va_S A s.heap H locs) (hsize : ls.size = c.maxLocals)
    (d0 : decode cc pc = .ok (.new ik, 3)) (d3 : decode cc (pc + 3) = .ok (.dup, 1)) (d4 : decode cc (pc + 4) = .ok (.invokespecial ic, 3)) (d7 : decode cc (pc + 7) = .ok (.athrow, 1))
    (hout : ∀ x ∈ c.exceptionTable.toList, covers x (pc + 7) = false)
    (hRframes : names.length + 3 < R.frames) (hRlocals : (rest.map fun v => v.category).sum + (13 * (names.length + 1) + 42) ≤ R.locals) (hRcells : cells + 1 ≤ R.cells) (hRslots : slots + 6 ≤ R.slots) (hlocks : meth.locks = false)
    (hx : ∀ t : State, s.vm.Alike t.vm → H.size ≤ t.heap.size → (∀ q : Nat, q < H.size → t.heap[q]? = H[q]?) → XC cls s t)
    (hf : ∀ z ∈ locs, free z.base) (hc : cells + 1 ≤ mc) (hs : slots + 6 ≤ ms) :
    W p l e R s m args below meth c H locs cells slots (vx_MQ below Qc XC args s mc ms free) (F0 m pc ls rest) := by
  intro T hT X
  have htr : e.platform.stackTraces = false := (show e.platform.stackTraces = l.stackTraces by rw [X.admits.platform]).trans hl
  have Y := vx_rebase X (R' := { frames := R.frames, locals := R.locals, cells := 1, slots := 6 }) (Nat.le_refl _) (Nat.le_refl _) hRcells hRslots
  obtain ⟨s', hA⟩ : ∃ z, z = (T.setVm s.vm).setFrames (.invoking m args :: below) := ⟨_, rfl⟩
  rw [← hA] at Y
  have hvm : s'.vm = s.vm := by rw [hA]; rfl
  have hhp : s'.heap = H := by rw [hA]; exact hT
  have hW0 : s.WarmedH s'.vm := by rw [hvm]; exact State.WarmedH.refl s
  have hat' : ∀ w ∈ vx_at0 own ic cls names, w.before args s' = true := fun w hw => vx_ot_at hW0 hvm.symm (hgood w (List.mem_cons_of_mem _ (List.mem_cons_of_mem _ hw))) (hat w hw)
  have hk' : (Cond.classLink own ik cls).before args s' = true := vx_ot_at hW0 hvm.symm (hgood _ List.mem_cons_self) hk
  have hini' : (Cond.initialized cls).before args s' = true := vx_ot_at hW0 hvm.symm (hgood _ (List.mem_cons_of_mem _ List.mem_cons_self)) hini
  have hU' : vx_Zq Bundle.tN "UNASSIGNED_STACK" Bundle.steD A s' s'.heap := by rw [hhp]; exact vx_Zq.moved hW0.alike (hU.kept hS.2.1)
  have hN' : vx_Zq Bundle.tN "SUPPRESSED_SENTINEL" Bundle.listD A s' s'.heap := by rw [hhp]; exact vx_Zq.moved hW0.alike (hN.kept hS.2.1)
  have h : ∀ w ∈ Bundle.ownAtoms0 own ic cls names, w.before args s' = true := vx_own hat' (vx_isRefq hU'.1) (vx_isRefq hN'.1) hU'.2.word hN'.2.word
  have hown' : s'.vm.findClass own = some m.cls := by rw [hvm]; exact hown
  have hins : (Cond.instantiable cls 6).before args s' = true := h _ (by simp [Bundle.ownAtoms0])
  obtain ⟨vm₁, cX, kX, hfX, hkX, -, -, X₁, st1⟩ := Y.newCold hexec (own := own) (C := cls) (index := ik) (n := 6) hown' hk' hins hini'
    (g := F0 m pc ls rest) rfl (by rw [hb]; exact d0) (Nat.le_refl _) (Nat.le_refl _)
  generalize hT1 : (T.setVm vm₁).pushCell { cls := cX, slots := kX.instanceTypes.map defaultValue, vm := .none } = T1 at X₁ st1
  have hcat : (Value.ref T.heap.size).category = 1 := rfl
  have hcellA : T1.heap[T.heap.size]? = some (freshCell cX kX) := by rw [← hT1]; exact State.heap_pushCell_size _ _
  have d3' : decode c.code (pc + 3) = .ok (.dup, 1) := by rw [hb]; exact d3
  obtain ⟨U, hsteps, hrun, hend, hW, hsame, ce, hce, hO⟩ := X₁.ctorThrow0 hexec htr (own := own) (cls := cls) (names := names) (ic := ic) hown' hcls hnames h (fun x hx => nomatch hx) hfX hkX hcellA (by rw [hhp, hT]; exact Nat.le_refl _)
    (g := { method := m, pc := pc + 4, locals := ls, stack := .ref T.heap.size :: .ref T.heap.size :: rest, locked := none }) rfl hsize rfl rfl (rest := rest) rfl
    (by rw [hb]; exact d4) (by rw [hb]; exact d7) hout hRframes (by simp only [List.map_cons, List.sum_cons, hcat]; omega) hlocks
  obtain ⟨f1, f2⟩ := vx_frame hsame
  rw [hhp] at f1 f2
  have hWs : s.WarmedH U.vm := State.WarmedH.trans hW0 hW
  have hcl : s.vm.findClass cls = some ce.cls := by
    have h9 := hO.cls
    rw [hvm] at h9
    exact h9
  have hall : s.sameButNew ({ U with vm := s.vm } : State) locs mc ms := by
    subst hA
    obtain ⟨e1, e2⟩ := hsame
    rw [State.setFrames_setFrames] at e1
    have h2 : (T.setVm s.vm).sameButNew ({ U with vm := s.vm } : State) [] (0 + 1) (0 + 6) := ⟨e1, e2⟩
    have h3 := X.same.trans h2
    rw [List.append_nil] at h3
    exact h3.mono hc hs
  refine ⟨U, ?_, .threw T.heap.size, hrun, hend, Or.inr ⟨T.heap.size, rfl, cls, ce, locs, hx U hWs.alike f1 (fun q hq => f2 q hq (fun z hz => nomatch hz)), hce, hO.vm, hcl, hWs, hall, hf⟩⟩
  refine st1 _ ?_
  show Steps p.tables e below (T1.setTop { method := m, pc := pc + 3, locals := ls, stack := .ref T.heap.size :: rest, locked := none }) _
  jvm_step X₁.here [X₁.here.top, hexec, d3', Value.category]
  exact hsteps
/-- 'throw new E("text")': new; dup; ldc; invokespecial; athrow -/
theorem vx_throwS {cc : ByteArray} {pc : Nat} (hexec : p.tables.exec = Jvm.exec) (hb : c.code = cc) (hl : l.stackTraces = false) {own cls text : String} {names : List String} {ik is ic mc ms sa : Nat} {A : Nat → Prop}
    (hown : s.vm.findClass own = some m.cls) (hcls : Bundle.fit cls = true) (hnames : ∀ n ∈ names, Bundle.fit n = true)
    (hk : (Cond.classLink own ik cls).before args s = true) (hini : (Cond.initialized cls).before args s = true) (hstr : vk_R own is text sa s) (hat : ∀ w ∈ vx_atS own ic cls names, w.before args s = true)
    (hgood : ∀ w ∈ Cond.classLink own ik cls :: Cond.initialized cls :: vx_atS own ic cls names, vx_ot w = true)
    (hU : vx_Zq Bundle.tN "UNASSIGNED_STACK" Bundle.steD A s s.heap) (hN : vx_Zq Bundle.tN "SUPPRESSED_SENTINEL" Bundle.listD A s s.heap) (hS : va_S A s.heap H locs) (hsize : ls.size = c.maxLocals)
    (d0 : decode cc pc = .ok (.new ik, 3)) (d3 : decode cc (pc + 3) = .ok (.dup, 1)) (d4 : decode cc (pc + 4) = .ok (.ldc is, 2)) (d6 : decode cc (pc + 6) = .ok (.invokespecial ic, 3)) (d9 : decode cc (pc + 9) = .ok (.athrow, 1))
    (hout : ∀ x ∈ c.exceptionTable.toList, covers x (pc + 9) = false)
    (hRframes : names.length + 3 < R.frames) (hRlocals : (rest.map fun v => v.category).sum + (13 * (names.length + 1) + 43) ≤ R.locals) (hRcells : cells + 1 ≤ R.cells) (hRslots : slots + 6 ≤ R.slots) (hlocks : meth.locks = false)
    (hx : ∀ t : State, s.vm.Alike t.vm → H.size ≤ t.heap.size → (∀ q : Nat, q < H.size → t.heap[q]? = H[q]?) → XC cls s t)
    (hf : ∀ z ∈ locs, free z.base) (hc : cells + 1 ≤ mc) (hs : slots + 6 ≤ ms) :
    W p l e R s m args below meth c H locs cells slots (vx_MQ below Qc XC args s mc ms free) (F0 m pc ls rest) := by
  intro T hT X
  have htr : e.platform.stackTraces = false := (show e.platform.stackTraces = l.stackTraces by rw [X.admits.platform]).trans hl
  have Y := vx_rebase X (R' := { frames := R.frames, locals := R.locals, cells := 1, slots := 6 }) (Nat.le_refl _) (Nat.le_refl _) hRcells hRslots
  obtain ⟨s', hA⟩ : ∃ z, z = (T.setVm s.vm).setFrames (.invoking m args :: below) := ⟨_, rfl⟩
  rw [← hA] at Y
  have hvm : s'.vm = s.vm := by rw [hA]; rfl
  have hhp : s'.heap = H := by rw [hA]; exact hT
  have hW0 : s.WarmedH s'.vm := by rw [hvm]; exact State.WarmedH.refl s
  have hat' : ∀ w ∈ vx_atS own ic cls names, w.before args s' = true := fun w hw => vx_ot_at hW0 hvm.symm (hgood w (List.mem_cons_of_mem _ (List.mem_cons_of_mem _ hw))) (hat w hw)
  have hk' : (Cond.classLink own ik cls).before args s' = true := vx_ot_at hW0 hvm.symm (hgood _ List.mem_cons_self) hk
  have hini' : (Cond.initialized cls).before args s' = true := vx_ot_at hW0 hvm.symm (hgood _ (List.mem_cons_of_mem _ List.mem_cons_self)) hini
  have hU' : vx_Zq Bundle.tN "UNASSIGNED_STACK" Bundle.steD A s' s'.heap := by rw [hhp]; exact vx_Zq.moved hW0.alike (hU.kept hS.2.1)
  have hN' : vx_Zq Bundle.tN "SUPPRESSED_SENTINEL" Bundle.listD A s' s'.heap := by rw [hhp]; exact vx_Zq.moved hW0.alike (hN.kept hS.2.1)
  have h : ∀ w ∈ Bundle.ownAtoms own ic cls names, w.before args s' = true := vx_own hat' (vx_isRefq hU'.1) (vx_isRefq hN'.1) hU'.2.word hN'.2.word
  have hown' : s'.vm.findClass own = some m.cls := by rw [hvm]; exact hown
  have hins : (Cond.instantiable cls 6).before args s' = true := h _ (by simp [Bundle.ownAtoms])
  obtain ⟨vm₁, cX, kX, hfX, hkX, -, -, X₁, st1⟩ := Y.newCold hexec (own := own) (C := cls) (index := ik) (n := 6) hown' hk' hins hini'
    (g := F0 m pc ls rest) rfl (by rw [hb]; exact d0) (Nat.le_refl _) (Nat.le_refl _)
  generalize hT1 : (T.setVm vm₁).pushCell { cls := cX, slots := kX.instanceTypes.map defaultValue, vm := .none } = T1 at X₁ st1
  have hcat : (Value.ref T.heap.size).category = 1 := rfl
  have hcellA : T1.heap[T.heap.size]? = some (freshCell cX kX) := by rw [← hT1]; exact State.heap_pushCell_size _ _
  have d3' : decode c.code (pc + 3) = .ok (.dup, 1) := by rw [hb]; exact d3
  have d4' : decode c.code (pc + 4) = .ok (.ldc is, 2) := by rw [hb]; exact d4
  have hstr' : vk_R own is text sa s' := vk_R.warm hW0 hstr
  obtain ⟨U, hsteps, hrun, hend, hW, hsame, ce, hce, hO⟩ := X₁.ctorThrowS hexec htr (own := own) (cls := cls) (names := names) (ic := ic) hown' hcls hnames h (fun x hx => nomatch hx) hfX hkX hcellA (by rw [hhp, hT]; exact Nat.le_refl _) (msg := .ref sa) rfl
    (g := { method := m, pc := pc + 6, locals := ls, stack := .ref sa :: .ref T.heap.size :: .ref T.heap.size :: rest, locked := none }) rfl hsize rfl rfl (rest := rest) rfl
    (by rw [hb]; exact d6) (by rw [hb]; exact d9) hout hRframes (by simp only [List.map_cons, List.sum_cons, hcat]; omega) hlocks
  obtain ⟨f1, f2⟩ := vx_frame hsame
  rw [hhp] at f1 f2
  have hWs : s.WarmedH U.vm := State.WarmedH.trans hW0 hW
  have hcl : s.vm.findClass cls = some ce.cls := by
    have h9 := hO.cls
    rw [hvm] at h9
    exact h9
  have hall : s.sameButNew ({ U with vm := s.vm } : State) locs mc ms := by
    subst hA
    obtain ⟨e1, e2⟩ := hsame
    rw [State.setFrames_setFrames] at e1
    have h2 : (T.setVm s.vm).sameButNew ({ U with vm := s.vm } : State) [] (0 + 1) (0 + 6) := ⟨e1, e2⟩
    have h3 := X.same.trans h2
    rw [List.append_nil] at h3
    exact h3.mono hc hs
  refine ⟨U, ?_, .threw T.heap.size, hrun, hend, Or.inr ⟨T.heap.size, rfl, cls, ce, locs, hx U hWs.alike f1 (fun q hq => f2 q hq (fun z hz => nomatch hz)), hce, hO.vm, hcl, hWs, hall, hf⟩⟩
  refine st1 _ ?_
  show Steps p.tables e below (T1.setTop { method := m, pc := pc + 3, locals := ls, stack := .ref T.heap.size :: rest, locked := none }) _
  jvm_step X₁.here [X₁.here.top, hexec, d3', Value.category]
  exact X₁.ldcString hexec (own := own) (text := text) (index := is) (a := sa) hown' hstr'.1 hstr'.2
    (g := { method := m, pc := pc + 4, locals := ls, stack := .ref T.heap.size :: .ref T.heap.size :: rest, locked := none }) rfl d4' _ hsteps
/-- 'throw new E("text")', the text by a wide index -/
theorem vx_throwSW {cc : ByteArray} {pc : Nat} (hexec : p.tables.exec = Jvm.exec) (hb : c.code = cc) (hl : l.stackTraces = false) {own cls text : String} {names : List String} {ik is ic mc ms sa : Nat} {A : Nat → Prop}
    (hown : s.vm.findClass own = some m.cls) (hcls : Bundle.fit cls = true) (hnames : ∀ n ∈ names, Bundle.fit n = true)
    (hk : (Cond.classLink own ik cls).before args s = true) (hini : (Cond.initialized cls).before args s = true) (hstr : vk_R own is text sa s) (hat : ∀ w ∈ vx_atS own ic cls names, w.before args s = true)
    (hgood : ∀ w ∈ Cond.classLink own ik cls :: Cond.initialized cls :: vx_atS own ic cls names, vx_ot w = true)
    (hU : vx_Zq Bundle.tN "UNASSIGNED_STACK" Bundle.steD A s s.heap) (hN : vx_Zq Bundle.tN "SUPPRESSED_SENTINEL" Bundle.listD A s s.heap) (hS : va_S A s.heap H locs) (hsize : ls.size = c.maxLocals)
    (d0 : decode cc pc = .ok (.new ik, 3)) (d3 : decode cc (pc + 3) = .ok (.dup, 1)) (d4 : decode cc (pc + 4) = .ok (.ldc_w is, 3)) (d7 : decode cc (pc + 7) = .ok (.invokespecial ic, 3)) (d10 : decode cc (pc + 10) = .ok (.athrow, 1))
    (hout : ∀ x ∈ c.exceptionTable.toList, covers x (pc + 10) = false)
    (hRframes : names.length + 3 < R.frames) (hRlocals : (rest.map fun v => v.category).sum + (13 * (names.length + 1) + 43) ≤ R.locals) (hRcells : cells + 1 ≤ R.cells) (hRslots : slots + 6 ≤ R.slots) (hlocks : meth.locks = false)
    (hx : ∀ t : State, s.vm.Alike t.vm → H.size ≤ t.heap.size → (∀ q : Nat, q < H.size → t.heap[q]? = H[q]?) → XC cls s t)
    (hf : ∀ z ∈ locs, free z.base) (hc : cells + 1 ≤ mc) (hs : slots + 6 ≤ ms) :
    W p l e R s m args below meth c H locs cells slots (vx_MQ below Qc XC args s mc ms free) (F0 m pc ls rest) := by
  intro T hT X
  have htr : e.platform.stackTraces = false := (show e.platform.stackTraces = l.stackTraces by rw [X.admits.platform]).trans hl
  have Y := vx_rebase X (R' := { frames := R.frames, locals := R.locals, cells := 1, slots := 6 }) (Nat.le_refl _) (Nat.le_refl _) hRcells hRslots
  obtain ⟨s', hA⟩ : ∃ z, z = (T.setVm s.vm).setFrames (.invoking m args :: below) := ⟨_, rfl⟩
  rw [← hA] at Y
  have hvm : s'.vm = s.vm := by rw [hA]; rfl
  have hhp : s'.heap = H := by rw [hA]; exact hT
  have hW0 : s.WarmedH s'.vm := by rw [hvm]; exact State.WarmedH.refl s
  have hat' : ∀ w ∈ vx_atS own ic cls names, w.before args s' = true := fun w hw => vx_ot_at hW0 hvm.symm (hgood w (List.mem_cons_of_mem _ (List.mem_cons_of_mem _ hw))) (hat w hw)
  have hk' : (Cond.classLink own ik cls).before args s' = true := vx_ot_at hW0 hvm.symm (hgood _ List.mem_cons_self) hk
  have hini' : (Cond.initialized cls).before args s' = true := vx_ot_at hW0 hvm.symm (hgood _ (List.mem_cons_of_mem _ List.mem_cons_self)) hini
  have hU' : vx_Zq Bundle.tN "UNASSIGNED_STACK" Bundle.steD A s' s'.heap := by rw [hhp]; exact vx_Zq.moved hW0.alike (hU.kept hS.2.1)
  have hN' : vx_Zq Bundle.tN "SUPPRESSED_SENTINEL" Bundle.listD A s' s'.heap := by rw [hhp]; exact vx_Zq.moved hW0.alike (hN.kept hS.2.1)
  have h : ∀ w ∈ Bundle.ownAtoms own ic cls names, w.before args s' = true := vx_own hat' (vx_isRefq hU'.1) (vx_isRefq hN'.1) hU'.2.word hN'.2.word
  have hown' : s'.vm.findClass own = some m.cls := by rw [hvm]; exact hown
  have hins : (Cond.instantiable cls 6).before args s' = true := h _ (by simp [Bundle.ownAtoms])
  obtain ⟨vm₁, cX, kX, hfX, hkX, -, -, X₁, st1⟩ := Y.newCold hexec (own := own) (C := cls) (index := ik) (n := 6) hown' hk' hins hini'
    (g := F0 m pc ls rest) rfl (by rw [hb]; exact d0) (Nat.le_refl _) (Nat.le_refl _)
  generalize hT1 : (T.setVm vm₁).pushCell { cls := cX, slots := kX.instanceTypes.map defaultValue, vm := .none } = T1 at X₁ st1
  have hcat : (Value.ref T.heap.size).category = 1 := rfl
  have hcellA : T1.heap[T.heap.size]? = some (freshCell cX kX) := by rw [← hT1]; exact State.heap_pushCell_size _ _
  have d3' : decode c.code (pc + 3) = .ok (.dup, 1) := by rw [hb]; exact d3
  have d4' : decode c.code (pc + 4) = .ok (.ldc_w is, 3) := by rw [hb]; exact d4
  have hstr' : vk_R own is text sa s' := vk_R.warm hW0 hstr
  obtain ⟨U, hsteps, hrun, hend, hW, hsame, ce, hce, hO⟩ := X₁.ctorThrowS hexec htr (own := own) (cls := cls) (names := names) (ic := ic) hown' hcls hnames h (fun x hx => nomatch hx) hfX hkX hcellA (by rw [hhp, hT]; exact Nat.le_refl _) (msg := .ref sa) rfl
    (g := { method := m, pc := pc + 7, locals := ls, stack := .ref sa :: .ref T.heap.size :: .ref T.heap.size :: rest, locked := none }) rfl hsize rfl rfl (rest := rest) rfl
    (by rw [hb]; exact d7) (by rw [hb]; exact d10) hout hRframes (by simp only [List.map_cons, List.sum_cons, hcat]; omega) hlocks
  obtain ⟨f1, f2⟩ := vx_frame hsame
  rw [hhp] at f1 f2
  have hWs : s.WarmedH U.vm := State.WarmedH.trans hW0 hW
  have hcl : s.vm.findClass cls = some ce.cls := by
    have h9 := hO.cls
    rw [hvm] at h9
    exact h9
  have hall : s.sameButNew ({ U with vm := s.vm } : State) locs mc ms := by
    subst hA
    obtain ⟨e1, e2⟩ := hsame
    rw [State.setFrames_setFrames] at e1
    have h2 : (T.setVm s.vm).sameButNew ({ U with vm := s.vm } : State) [] (0 + 1) (0 + 6) := ⟨e1, e2⟩
    have h3 := X.same.trans h2
    rw [List.append_nil] at h3
    exact h3.mono hc hs
  refine ⟨U, ?_, .threw T.heap.size, hrun, hend, Or.inr ⟨T.heap.size, rfl, cls, ce, locs, hx U hWs.alike f1 (fun q hq => f2 q hq (fun z hz => nomatch hz)), hce, hO.vm, hcl, hWs, hall, hf⟩⟩
  refine st1 _ ?_
  show Steps p.tables e below (T1.setTop { method := m, pc := pc + 3, locals := ls, stack := .ref T.heap.size :: rest, locked := none }) _
  jvm_step X₁.here [X₁.here.top, hexec, d3', Value.category]
  exact X₁.ldcStringW hexec (own := own) (text := text) (index := is) (a := sa) hown' hstr'.1 hstr'.2
    (g := { method := m, pc := pc + 4, locals := ls, stack := .ref T.heap.size :: .ref T.heap.size :: rest, locked := none }) rfl d4' _ hsteps
end Ends
section Bodies
variable {l : Launch}
theorem vx_ofW {y : MethodName} {ws ws' : List Cond} {rm : Room} {Pc : Array Value → State → Prop} {Qc : Array Value → State → Outcome → State → Prop} {XC : String → State → State → Prop} {mc ms : Nat} {free : Addr → Prop} {cc : ByteArray} {maxL : Nat} {ret : Option FieldType}
    (hy : plainName y.cls = true) (hw : ws = Cond.code y cc maxL ret :: ws')
    (body : ∀ p e s m args below meth c s₁, BodyLoose p l y (headSpec ws rm) cc maxL ret e s m args below meth c s₁ → c.maxLocals = maxL → (∀ x ∈ c.exceptionTable.toList, False) → Pc args s →
      W p l e (headSpec ws rm).room s m args below meth c s.heap [] 0 0 (vx_MQ below Qc XC args s mc ms free) (entryFrame m args maxL)) : vx_Met l y ws rm Pc Qc XC mc ms free := by
  refine MetFree.of_bodyS (code := cc) (maxLocals := maxL) (ret := ret) hy ?_ ?_
  · intro args s m h hn
    obtain ⟨meth, c, h1, h2, h3, h4, h5, h6, -, -⟩ := Cond.code_spec hn (atoms_spec (ws := ws) h _ (by rw [hw]; exact List.mem_cons_self))
    exact ⟨meth, c, h1, h2, h3, h4, h5, h6⟩
  · intro p e s m args below meth c s₁ B hml hP _
    have hh0 : s₁.heap = s.heap := by rw [B.state]; rfl
    have ht : ∀ x ∈ c.exceptionTable.toList, False := by
      obtain ⟨meth9, c9, h1, h2, -, -, -, -, h7, -⟩ := Cond.code_spec B.named (atoms_spec (ws := ws) B.pre _ (by rw [hw]; exact List.mem_cons_self))
      cases Option.some.inj (h1.symm.trans B.method)
      cases Option.some.inj (h2.symm.trans (Stand.of_body B).code)
      intro x hx
      rw [Array.isEmpty_iff.mp h7] at hx
      cases hx
    obtain ⟨t, a1, o, b1, b2, b3⟩ := body p e s m args below meth c s₁ B hml ht hP s₁ hh0 (Stand.of_body B)
    exact ⟨t, o, a1, b1, b2, b3⟩
/-- the table of a body with handlers -/
theorem vx_table {p : Program} {x y : MethodName} {S : Spec} {cc bytes : ByteArray} {maxL maxL' : Nat} {ret ret' : Option FieldType} {e : Env} {s s₁ : State} {m : MethodId} {args : Array Value} {below : List Frame} {meth : Method} {c : Code} {hh : List (Nat × Nat × Nat × Nat)}
    (B : BodyLoose p l y S cc maxL ret e s m args below meth c s₁) (h : (Cond.codeWith y bytes maxL' ret' hh).before args s = true) : c.exceptionTable.toList = tableOf hh := by
  obtain ⟨m9, meth9, c9, hn9, h1, h2, -, -, h6, -⟩ := Cond.codeWith_spec h
  cases Option.some.inj (hn9.symm.trans B.named)
  cases Option.some.inj (h1.symm.trans B.method)
  cases Option.some.inj (h2.symm.trans (Stand.of_body B).code)
  rw [← h6, table_eq]
end Bodies
end VXA
/-! ===== END ===== -/
/-! ===== BEGIN a static call of a method with an exception table ===== -/
section VXS
variable {p : Program} {l : Launch} {e : Env} {R : Room} {s : State} {m : MethodId} {args : Array Value} {below : List Frame} {meth : Method} {c : Code} {T : State} {H : Heap} {locs : List Loc} {cells slots : Nat}
abbrev vx_CSW (R : Room) (s : State) (args : Array Value) (own : String) (index : Nat) (y : MethodName) (bytes : ByteArray) (maxL : Nat) (ret : Option FieldType) (hh : List (Nat × Nat × Nat × Nat)) (ws : List Cond) (rm : Room) (mc ms n : Nat) : Prop :=
  (rm.cells = mc ∧ rm.slots = ms ∧ rm.frames + 1 ≤ R.frames ∧ 8 + (maxL + 11) + rm.locals ≤ R.locals ∧ (∀ w ∈ ws, ∀ (a' : Array Value) (U : State), s.WarmedH U.vm → w.before a' U = true) ∧ Cond.codeWith y bytes maxL ret hh ∈ ws) ∧
  (Cond.codeWith y bytes maxL ret hh).before args s = true ∧ (Cond.initialized y.cls).before args s = true ∧ (y.cls ≠ "java/lang/invoke/MethodHandle" ∧ y.cls ≠ "java/lang/invoke/VarHandle") ∧
  (∀ sig, parseMethodDescriptor y.desc = some sig → n = sig.parameters.length) ∧ (Cond.methodLink own index y).before args s = true ∧ (Cond.static y).before args s = true
theorem vx_cwSW {own : String} {index maxL mc ms : Nat} {y : MethodName} {bytes : ByteArray} {ret : Option FieldType} {hh : List (Nat × Nat × Nat × Nat)} {Ts ws ws' : List Cond} {rm : Room} (n : Nat) (ht : ∀ w ∈ Ts, w.before args s = true) (hT : GoodIn Ts (va_wsS own index y ws)) (hw : ws = Cond.codeWith y bytes maxL ret hh :: ws') (hrc : rm.cells = mc) (hrs : rm.slots = ms)
    (hd : y.cls ≠ "java/lang/invoke/MethodHandle" ∧ y.cls ≠ "java/lang/invoke/VarHandle" ∧ (parseMethodDescriptor y.desc).map (fun d => d.parameters.length) = some n) (hR : rm.frames + 1 ≤ R.frames ∧ 8 + (maxL + 11) + rm.locals ≤ R.locals) :
    vx_CSW R s args own index y bytes maxL ret hh ws rm mc ms n := by
  have ok : ∀ w ∈ va_wsS own index y ws, w.before args s = true := fun w h => ht w (hT w h).1
  have hG : GoodIn Ts ws := fun w h => hT w (by unfold va_wsS; exact List.mem_append_right _ h)
  have hc : Cond.codeWith y bytes maxL ret hh ∈ ws := by rw [hw]; exact List.mem_cons_self
  refine ⟨⟨hrc, hrs, hR.1, hR.2, pay_in ht hG, hc⟩, ht _ (hG _ hc).1, ok _ (by simp [va_wsS]), ⟨hd.1, hd.2.1⟩, fun sig h => ?_, ok _ (by simp [va_wsS]), ok _ (by simp [va_wsS])⟩
  have h2 := hd.2.2
  rw [h] at h2
  exact (Option.some.inj h2).symm
theorem vx_callSW (X : Stand p l e R s m args below meth c T locs cells slots) (hexec : p.tables.exec = Jvm.exec) {own : String} {index : Nat} {y : MethodName} {bytes : ByteArray} {maxL : Nat} {ret : Option FieldType} {hh : List (Nat × Nat × Nat × Nat)}
    (hown : s.vm.findClass own = some m.cls) (hlink : (Cond.methodLink own index y).before args s = true) (hstat : (Cond.static y).before args s = true) (hinit : (Cond.initialized y.cls).before args s = true)
    (hcode : (Cond.codeWith y bytes maxL ret hh).before args s = true) (hy : y.cls ≠ "java/lang/invoke/MethodHandle" ∧ y.cls ≠ "java/lang/invoke/VarHandle")
    {W9 : Nat} {Pre : Pt → Array Value → Prop} {Post : Pt → Array Value → Option Value → Pt → Prop} (hK : Back l R p e below s args y 3 W9 Pre Post)
    {g : JFrame} (hg : g.method = m) (hsize : g.locals.size = c.maxLocals) {argsL rest : List Value} (hlen : ∀ sig, parseMethodDescriptor y.desc = some sig → argsL.length = sig.parameters.length)
    (hstack : g.stack = argsL.reverse ++ rest) (hW : 2 * g.monitorRoom + (rest.map fun v => v.category).sum ≤ W9) (hdg : decode c.code g.pc = .ok (.invokestatic index, 3))
    (hpre : ∀ vm₁, s.WarmedH vm₁ → Pre ⟨T.setVm vm₁, locs, cells, slots⟩ argsL.toArray) :
    ∃ (v : Option Value) (vm₁ : Vm) (B : Pt), s.WarmedH vm₁ ∧ Stand p l e R s m args below meth c B.U B.locs B.cells B.slots ∧ Post ⟨T.setVm vm₁, locs, cells, slots⟩ argsL.toArray v B ∧
      ∀ target, Steps p.tables e below (B.U.setTop { g with pc := g.pc + 3, stack := v.toList ++ rest }) target → Steps p.tables e below (T.setTop g) target := by
  obtain ⟨mk, methM, cM, hnamed, hmethM, -, -, -, -, -, -, hsigM⟩ := Cond.codeWith_spec hcode
  have hstatic : methM.isStatic = true := Cond.static_spec hnamed hmethM hstat
  obtain ⟨kP, hkP, -⟩ := className_of_methodNamed hnamed
  have hinitP : kP.init = .initialized := Cond.initialized_spec (findClass_of_methodNamed hnamed) hkP hinit
  obtain ⟨vm₁, X₁, hstep₁⟩ := X.invokestatic hexec hown hlink hnamed hmethM hstatic hkP hinitP hy (g := g) hg (argsL := argsL) (rest := rest) (hlen _ hsigM) hstack hdg
  obtain ⟨v, B, X', hpost, hsteps⟩ := hK m meth c ⟨T.setVm vm₁, locs, cells, slots⟩ { g with stack := rest } (.invokestatic index) mk argsL.toArray X₁ hg hsize hdg hW (X₁.named hnamed) (hpre vm₁ X₁.warmed)
  exact ⟨v, vm₁, B, X₁.warmed, X', hpost, fun target h => hstep₁ _ fun acts => by rw [doInvoke_state]; exact hsteps.trans h⟩
theorem vx_runSW {y : MethodName} {bytes cc : ByteArray} {maxL nL mc ms n index : Nat} {ret : Option FieldType} {hh : List (Nat × Nat × Nat × Nat)} {ws : List Cond} {rm : Room} {Pc : Array Value → State → Prop} {Qc : Array Value → State → Outcome → State → Prop} {free : Addr → Prop} {Ts : List Cond} {own : String} {As rest : List Value} {g : JFrame}
    (S : CallFix p m c cc nL s args Ts own) (hM : Met l y ws rm Pc Qc mc ms free) (cw : vx_CSW R s args own index y bytes maxL ret hh ws rm mc ms n) (hp : PreS s H Pc As)
    (hg : g.method = m) (hn : As.length = n) (hsize : g.locals.size = nL) (hstack : g.stack = As.reverse ++ rest) (hW : 2 * g.monitorRoom + (rest.map fun v => v.category).sum ≤ 8) (hdg : decode cc g.pc = .ok (.invokestatic index, 3)) (hf : cells + mc ≤ R.cells ∧ slots + ms ≤ R.slots) :
    va_Run p l e R s m args below meth c H locs cells slots mc ms g rest (Qc As.toArray) (free) := by
  obtain ⟨⟨hrc, hrs, hfr, hlo, hws, hcw⟩, hcode, hini, hy, hlen, hl, hstt⟩ := cw
  have hK : Back l R p e below s args y 3 8 (PreOf R mc ms Pc) (PostOf Qc mc ms free) := va_backW (hh := hh) (bytes := bytes) (maxL := maxL) (ret := ret) hM hp.1 hrc hrs hfr hlo hws hcw (fun a' U hW => word_at hW (Or.inl (by first | rfl | simp [Cond.onTables, Cond.keeps, Cond.steady])) hini)
  obtain ⟨hx, hb, hml, ho, -⟩ := S
  intro T hT X
  obtain ⟨v, vm₁, ⟨U', l2, c2, s2⟩, hW₁, X', ⟨g', mk, t, L, e1, e2, hq, h1, hL, h2, h3⟩, st⟩ := vx_callSW X hx (hh := hh) (bytes := bytes) (maxL := maxL) (ret := ret) ho hl hstt hini hcode hy hK hg (hsize.trans hml.symm) (argsL := As) (rest := rest) (fun sig h => hn.trans (hlen sig h)) hstack hW (by rw [hb]; exact hdg)
    (fun vm₁ hW₁ => ⟨hf.1, hf.2, hp.2 (T.setVm vm₁) hT hW₁⟩)
  dsimp only [Pt.U, Pt.locs, Pt.cells, Pt.slots] at X' e1 e2 h1 h2 h3 st
  subst h1; subst h2; subst h3
  exact ⟨v, (T.setVm vm₁).calling g' mk As.toArray, t, U', L, hT, X', hL, e1, e2, hq, st⟩
/-- not caught here, past rows that name other classes: it goes on to the caller -/
theorem vx_outP {p : Program} {l : Launch} {e : Env} {R : Room} {s : State} {m : MethodId} {args : Array Value} {below : List Frame} {meth : Method} {c : Code} {H : Heap} {locs : List Loc} {cells slots : Nat} {free : Addr → Prop} {ls : Array Slot} {rest : List Value} {Qc : Array Value → State → Outcome → State → Prop} {XC : String → State → State → Prop}
    {pc : Nat} {own E : String} {ce : Cell} {q : Addr} {mc ms : Nat} (hown : s.vm.findClass own = some m.cls) (hlocks : meth.locks = false)
    (hpass : ∀ z ∈ c.exceptionTable.toList, covers z pc = false ∨ (z.catchType ≠ 0 ∧ ∃ nm : String, (Cond.classLink own z.catchType nm).before args s = true ∧ va_Nc E nm s)) (hcell : H[q]? = some ce) (hv : ce.vm = .none) (hcl : s.vm.findClass E = some ce.cls)
    (hx : ∀ t : State, t.heap = H → s.vm.Alike t.vm → XC E s t) (hf : ∀ z ∈ locs, free z.base) (hc : cells ≤ mc) (hs : slots ≤ ms) :
    vx_W p l e R s m args below meth c H locs cells slots (vx_MQ below Qc XC args s mc ms free) (F0 m pc ls rest) q := by
  intro T hT X
  have hpl : e.platform.magicAccessors = ({} : Platform).magicAccessors := by rw [X.admits.platform]
  obtain ⟨vm', hW', X', st⟩ := X.outThrough hlocks q (g := F0 m pc ls rest) rfl rfl rfl (cell := ce) (by rw [hT]; exact hcell) (by rw [hv]; rfl)
    (by obtain ⟨k9, h9, -⟩ := Vm.findClass_spec hcl; exact ⟨k9, h9⟩) (fun z hz => by
      rcases hpass z hz with h | ⟨hz0, nm, hl1, hn1⟩
      · exact Or.inl h
      · obtain ⟨c6, hc6, hcl6⟩ := Cond.classLink_spec hown hl1 e.platform hpl
        obtain ⟨a8, b8, h1, h2, h3⟩ := hn1
        cases Option.some.inj (h1.symm.trans hcl)
        cases Option.some.inj (h2.symm.trans hc6)
        exact Or.inr ⟨hz0, _, hcl6, h3⟩)
  obtain ⟨g₀, hfr⟩ := X'.frames_eq
  have hcell9 : ((T.setVm vm').setFrames (.throwing q :: below)).heap[q]? = some ce := by
    show T.heap[q]? = some ce
    rw [hT]; exact hcell
  have hend : Ended ((T.setVm vm').setFrames (.throwing q :: below)) below (.threw q) := State.frames_setFrames _ (State.cur_lt_of_frames hfr)
  refine ⟨(T.setVm vm').setFrames (.throwing q :: below), ?_, .threw q, X'.here.running, hend, Or.inr ⟨q, rfl, E, ce, locs, hx _ hT (X'.ends _).1.alike, hcell9, hv, hcl, (X'.ends _).1, (X'.ends _).2.mono hc hs, hf⟩⟩
  rw [X.pushThrowing_eq]
  exact st
/-- a thing of a world lies in the heap -/
theorem vx_lt {D : va_G} {cl : List vw_C} {ws : va_W} {H1 : Heap} (h : va_P D cl ws H1) {k : Nat} {q : Nat × va_E} (hk : ws[k]? = some q) : q.1 < H1.size := (h k q hk).lt
end VXS
/-! ===== END ===== -/
/-! ===== BEGIN methods with a table of their own: called by a name, returning or throwing ===== -/
section VXH
/-! vx_backW, vx_callVX, vx_callSX, vx_callVW, vx_runVW, vx_runVX, vx_runSX, vx_ofWH follow the same proofs as their sisters above (Free/Laws.lean, Shelf42/LK1.lean); vx_outP calls Shelf42/NT130.lean (outThrough). -/
section
variable {l : Launch} {R : Room} {p : Program} {e : Env} {below : List Frame} {s : State} {sargs : Array Value} {y : MethodName} {len W9 : Nat}
theorem vx_backW {ws : List Cond} {rm : Room} {Pc : Array Value → State → Prop} {Qc : Array Value → State → Outcome → State → Prop} {XC : String → State → State → Prop} {mc ms : Nat} {free : Addr → Prop} {bytes : ByteArray} {maxL : Nat} {ret : Option FieldType} {hh : List (Nat × Nat × Nat × Nat)}
    (hM : vx_Met l y ws rm Pc Qc XC mc ms free) (hblind : FrameBlind Pc) (hrc : rm.cells = mc) (hrs : rm.slots = ms)
    (hframes : rm.frames + 1 ≤ R.frames) (hlocals : W9 + (maxL + 11) + rm.locals ≤ R.locals)
    (hws : ∀ w ∈ ws, ∀ a' U, s.WarmedH U.vm → w.before a' U = true) (hcode : Cond.codeWith y bytes maxL ret hh ∈ ws) (hinit : ∀ a' U, s.WarmedH U.vm → (Cond.initialized y.cls).before a' U = true) :
    vx_Back l R p e below s sargs y len W9 (PreOf R mc ms Pc) (PostOf Qc mc ms free) (vx_Post XC mc ms free) := by
  intro m meth c A g ig mk a X hg hsize hdg hW hn hp
  have h1 : (headSpec ws rm).pre.before a A.U = true := atoms_intro fun w hw => hws w hw _ _ X.warmed
  have h2 : (Cond.codeWith y bytes maxL ret hh).before a A.U = true := hws _ hcode _ _ X.warmed
  have h3 : (Cond.initialized y.cls).before a A.U = true := hinit _ _ X.warmed
  have h4 : A.cells + (headSpec ws rm).room.cells ≤ R.cells := by rw [show (headSpec ws rm).room.cells = mc from hrc]; exact hp.1
  have h5 : A.slots + (headSpec ws rm).room.slots ≤ R.slots := by rw [show (headSpec ws rm).room.slots = ms from hrs]; exact hp.2.1
  have hPc : Pc a (A.U.calling g mk a) := hblind _ _ _ _ hp.2.2
  obtain ⟨U, Ls, c0, s0⟩ := A
  dsimp only [Pt.U, Pt.locs, Pt.cells, Pt.slots] at h1 h2 h3 h4 h5 X hn hPc ⊢
  obtain ⟨m9, methY, cY, hn9, hmY, hcY, -, hlY, -⟩ := Cond.codeWith_spec h2
  cases Option.some.inj (hn9.symm.trans hn)
  obtain ⟨kY, hkY, -⟩ := className_of_methodNamed hn
  have hinitY : kY.init = .initialized := Cond.initialized_spec (findClass_of_methodNamed hn) hkY h3
  have h : At U g.method c below := by rw [hg]; exact X.here
  have hlocals9 : W9 + (maxL + 11) + (headSpec ws rm).room.locals ≤ R.locals := hlocals
  have happ : (headSpec ws rm).appliesLoose y e.platform (U.calling g mk a) = true :=
    Spec.appliesLoose_calling (g := g) h hdg hn hkY hinitY
      (X.room_calling (g := g) (R' := (headSpec ws rm).room) hsize hmY hcY hframes (by rw [hlY]; omega) h4 h5) h1
  obtain ⟨mid, hmid⟩ := h.above
  have hfr : (U.setTop g).frames = (.java g :: mid) ++ below := by rw [State.frames_setTop' g h.top, hmid]; rfl
  obtain ⟨o, s₂, hsteps, -, hend, hq⟩ := Steps.callFree hM p X.admits X.cas X.clock (acts := []) hfr happ hPc trivial
  have hq' : vx_Q Qc XC mc ms free a (U.calling g mk a) o s₂ := hq
  rw [State.frames_setTop' g h.top] at hend
  obtain ⟨g₀, hg0⟩ := Option.isSome_iff_exists.mp h.top
  obtain ⟨r, hr⟩ := State.topJava?_eq_some.mp hg0
  have hr' : (({ U with heap := s₂.heap, slotsUsed := s₂.slotsUsed } : State).setVm s₂.vm).frames = .java g₀ :: r := hr
  rcases hq' with ⟨hqc, L, hfe, hL⟩ | ⟨q, rfl, E, ce, L, hx, hce, hcv, hcl, hW₂, hsm, hL⟩
  · obtain ⟨⟨v, rfl⟩, hW₂, e2, q2, q3, q4, q5, q6⟩ := id hfe
    have e3 : s₂ = ({ (U.calling g mk a).setFrames s₂.frames with heap := s₂.heap, slotsUsed := s₂.slotsUsed } : State).setVm s₂.vm := by
      have : s₂ = ({ s₂ with vm := (U.calling g mk a).vm } : State).setVm s₂.vm := rfl
      rw [e2] at this
      exact this
    obtain ⟨c₂, i₂, len₂, hc₂, hd₂, hf₂⟩ := hend
    have hW' : U.WarmedH s₂.vm := hW₂
    have hcc : c₂ = c := by
      have h1 : s₂.code? g.method = U.code? g.method := by
        rw [State.code?_eq, State.code?_eq, hW'.alike.method?]
      exact Option.some.inj (hc₂.symm.trans (h1.trans h.code))
    subst hcc
    have hlen : len₂ = len := by rw [hdg] at hd₂; cases hd₂; rfl
    subst hlen
    have hs₂ : s₂ = (({ U with heap := s₂.heap, slotsUsed := s₂.slotsUsed } : State).setVm s₂.vm).setTop { g with pc := g.pc + len₂, stack := v.toList ++ g.stack } := by
      refine e3.trans ?_
      rw [hf₂, State.calling_eq h.top, State.setFrames_setFrames, State.setTop_of_frames _ hr', hr]
      rfl
    have hsame : U.sameButNew ({ U with heap := s₂.heap, slotsUsed := s₂.slotsUsed } : State) L mc ms := by
      refine ⟨?_, q2, q3, q4, q5, q6⟩
      obtain ⟨t, ht, -⟩ := State.frames_cons hr
      show ({ U with heap := s₂.heap, slotsUsed := s₂.slotsUsed } : State) = { U.setFrames U.frames with heap := s₂.heap, slotsUsed := s₂.slotsUsed }
      rw [State.setFrames_self ht]
    subst hg
    refine Or.inl ⟨v, ⟨(({ U with heap := s₂.heap, slotsUsed := s₂.slotsUsed } : State).setVm s₂.vm), Ls ++ L, c0 + mc, s0 + ms⟩,
      ⟨X.admits, X.cas, X.clock, X.frames, X.room, X.hears, X.method, X.code, (X.here.setHeapUsed s₂.heap s₂.slotsUsed).setVm hW'.alike, X.tail, State.WarmedH.trans X.warmed hW', X.limits, X.bytes, X.same.trans (hsame.setVm s.vm)⟩,
      ⟨g, mk, s₂, L, rfl, rfl, hqc, rfl, hL, rfl, rfl⟩, ?_⟩
    show Steps p.tables e below _ ((({ U with heap := s₂.heap, slotsUsed := s₂.slotsUsed } : State).setVm s₂.vm).setTop { g with pc := g.pc + len₂, stack := v.toList ++ g.stack })
    rw [← hs₂]
    exact hsteps
  · obtain ⟨e2, q2, q3, q4, q5, q6⟩ := id hsm
    have e3 : s₂ = ({ (U.calling g mk a).setFrames s₂.frames with heap := s₂.heap, slotsUsed := s₂.slotsUsed } : State).setVm s₂.vm := by
      have : s₂ = ({ s₂ with vm := (U.calling g mk a).vm } : State).setVm s₂.vm := rfl
      rw [e2] at this
      exact this
    have hf₂ : s₂.frames = .throwing q :: .java g :: U.frames.tail := hend
    have hW' : U.WarmedH s₂.vm := hW₂
    have hs₂ : s₂ = ((({ U with heap := s₂.heap, slotsUsed := s₂.slotsUsed } : State).setVm s₂.vm).setTop g).pushFrame (.throwing q) := by
      refine e3.trans ?_
      rw [hf₂, State.calling_eq h.top, State.setFrames_setFrames, State.pushFrame, State.frames_setTop _ hr', State.setTop_of_frames _ hr', State.setFrames_setFrames, hr]
      rfl
    have hsame : U.sameButNew ({ U with heap := s₂.heap, slotsUsed := s₂.slotsUsed } : State) L mc ms := by
      refine ⟨?_, q2, q3, q4, q5, q6⟩
      obtain ⟨t, ht, -⟩ := State.frames_cons hr
      show ({ U with heap := s₂.heap, slotsUsed := s₂.slotsUsed } : State) = { U.setFrames U.frames with heap := s₂.heap, slotsUsed := s₂.slotsUsed }
      rw [State.setFrames_self ht]
    subst hg
    refine Or.inr ⟨q, ⟨(({ U with heap := s₂.heap, slotsUsed := s₂.slotsUsed } : State).setVm s₂.vm), Ls ++ L, c0 + mc, s0 + ms⟩,
      ⟨X.admits, X.cas, X.clock, X.frames, X.room, X.hears, X.method, X.code, (X.here.setHeapUsed s₂.heap s₂.slotsUsed).setVm hW'.alike, X.tail, State.WarmedH.trans X.warmed hW', X.limits, X.bytes, X.same.trans (hsame.setVm s.vm)⟩,
      ⟨g, mk, s₂, L, E, ce, rfl, rfl, hx, hce, hcv, hcl, rfl, hL, rfl, rfl⟩, ?_⟩
    show Steps p.tables e below _ (((({ U with heap := s₂.heap, slotsUsed := s₂.slotsUsed } : State).setVm s₂.vm).setTop g).pushFrame (.throwing q))
    rw [← hs₂]
    exact hsteps
end
variable {p : Program} {l : Launch} {e : Env} {R : Room} {s : State} {m : MethodId} {args : Array Value} {below : List Frame} {meth : Method} {c : Code} {T : State} {H : Heap} {locs : List Loc} {cells slots : Nat}
theorem vx_callVX (X : Stand p l e R s m args below meth c T locs cells slots) (hexec : p.tables.exec = Jvm.exec) {own C : String} {index : Nat} {y : MethodName} {bytes : ByteArray} {maxL : Nat} {ret : Option FieldType} {hh : List (Nat × Nat × Nat × Nat)}
    (hown : s.vm.findClass own = some m.cls) (hlink : (Cond.methodLink own index y).before args s = true) (hinst : (Cond.instanceMethod y).before args s = true) (hsel : (Cond.selects C y y).before args s = true)
    (hcode : (Cond.codeWith y bytes maxL ret hh).before args s = true) (hy : y.cls ≠ "java/lang/invoke/MethodHandle" ∧ y.cls ≠ "java/lang/invoke/VarHandle")
    {W9 : Nat} {Pre : Pt → Array Value → Prop} {Post : Pt → Array Value → Option Value → Pt → Prop} {PostX : Pt → Array Value → Addr → Pt → Prop} (hK : vx_Back l R p e below s args y 3 W9 Pre Post PostX)
    {b : Addr} {cellB : Cell} (hcell : T.heap[b]? = some cellB) (hobj : cellB.vm.isStatics = false) (hcls : s.vm.findClass C = some cellB.cls)
    {g : JFrame} (hg : g.method = m) (hsize : g.locals.size = c.maxLocals) {argsL rest : List Value} (hlen : ∀ sig, parseMethodDescriptor y.desc = some sig → argsL.length = sig.parameters.length)
    (hstack : g.stack = argsL.reverse ++ .ref b :: rest) (hW : 2 * g.monitorRoom + (rest.map fun v => v.category).sum ≤ W9) (hdg : decode c.code g.pc = .ok (.invokevirtual index, 3))
    (hpre : ∀ vm₁, s.WarmedH vm₁ → Pre ⟨T.setVm vm₁, locs, cells, slots⟩ (Value.ref b :: argsL).toArray) :
    (∃ (v : Option Value) (vm₁ : Vm) (B : Pt), s.WarmedH vm₁ ∧ Stand p l e R s m args below meth c B.U B.locs B.cells B.slots ∧ Post ⟨T.setVm vm₁, locs, cells, slots⟩ (Value.ref b :: argsL).toArray v B ∧
      ∀ target, Steps p.tables e below (B.U.setTop { g with pc := g.pc + 3, stack := v.toList ++ rest }) target → Steps p.tables e below (T.setTop g) target) ∨
    (∃ (q : Addr) (vm₁ : Vm) (B : Pt), s.WarmedH vm₁ ∧ Stand p l e R s m args below meth c B.U B.locs B.cells B.slots ∧ PostX ⟨T.setVm vm₁, locs, cells, slots⟩ (Value.ref b :: argsL).toArray q B ∧
      Steps p.tables e below (T.setTop g) ((B.U.setTop { g with stack := rest }).pushFrame (.throwing q))) := by
  obtain ⟨mk, methM, hnamed, hmethM, hstM, habM⟩ := Cond.instanceMethod_spec hinst
  obtain ⟨m8, methM', cM, hn8, hmethM', -, -, -, -, -, -, hsigM⟩ := Cond.codeWith_spec hcode
  cases Option.some.inj (hn8.symm.trans hnamed)
  cases hmethM.symm.trans hmethM'
  obtain ⟨c2, r2, m2, q1, q2, q3, q4, kP, hkP, hkPi⟩ := Cond.selects_spec hsel
  cases hcls.symm.trans q1
  cases (State.methodFound?_of_named hnamed hy).symm.trans q2
  cases hnamed.symm.trans q3
  have hselP : selectMethod e.platform s.vm cellB.cls mk = .method mk := by rw [Launch.admits_selectMethod X.admits]; exact q4
  obtain ⟨vm₁, X₁, hstep₁⟩ := X.invokevirtual hexec hown hlink hnamed hmethM hstM hkP hkPi hy (a := b) (cell := cellB) hcell
    (fun z h => by rw [h] at hobj; cases hobj) hselP hmethM habM hkP hkPi (g := g) hg (argsL := argsL) (rest := rest) (hlen _ hsigM) hstack hdg
  rcases hK m meth c ⟨T.setVm vm₁, locs, cells, slots⟩ { g with stack := rest } (.invokevirtual index) mk (Value.ref b :: argsL).toArray X₁ hg hsize hdg hW (X₁.named hnamed) (hpre vm₁ X₁.warmed) with ⟨v, B, X', hpost, hsteps⟩ | ⟨q, B, X', hpost, hsteps⟩
  · exact Or.inl ⟨v, vm₁, B, X₁.warmed, X', hpost, fun target h => hstep₁ _ fun acts => by rw [doInvoke_state]; exact hsteps.trans h⟩
  · exact Or.inr ⟨q, vm₁, B, X₁.warmed, X', hpost, hstep₁ _ fun acts => by rw [doInvoke_state]; exact hsteps⟩
theorem vx_callSX (X : Stand p l e R s m args below meth c T locs cells slots) (hexec : p.tables.exec = Jvm.exec) {own : String} {index : Nat} {y : MethodName} {bytes : ByteArray} {maxL : Nat} {ret : Option FieldType} {hh : List (Nat × Nat × Nat × Nat)}
    (hown : s.vm.findClass own = some m.cls) (hlink : (Cond.methodLink own index y).before args s = true) (hstat : (Cond.static y).before args s = true) (hinit : (Cond.initialized y.cls).before args s = true)
    (hcode : (Cond.codeWith y bytes maxL ret hh).before args s = true) (hy : y.cls ≠ "java/lang/invoke/MethodHandle" ∧ y.cls ≠ "java/lang/invoke/VarHandle")
    {W9 : Nat} {Pre : Pt → Array Value → Prop} {Post : Pt → Array Value → Option Value → Pt → Prop} {PostX : Pt → Array Value → Addr → Pt → Prop} (hK : vx_Back l R p e below s args y 3 W9 Pre Post PostX)
    {g : JFrame} (hg : g.method = m) (hsize : g.locals.size = c.maxLocals) {argsL rest : List Value} (hlen : ∀ sig, parseMethodDescriptor y.desc = some sig → argsL.length = sig.parameters.length)
    (hstack : g.stack = argsL.reverse ++ rest) (hW : 2 * g.monitorRoom + (rest.map fun v => v.category).sum ≤ W9) (hdg : decode c.code g.pc = .ok (.invokestatic index, 3))
    (hpre : ∀ vm₁, s.WarmedH vm₁ → Pre ⟨T.setVm vm₁, locs, cells, slots⟩ argsL.toArray) :
    (∃ (v : Option Value) (vm₁ : Vm) (B : Pt), s.WarmedH vm₁ ∧ Stand p l e R s m args below meth c B.U B.locs B.cells B.slots ∧ Post ⟨T.setVm vm₁, locs, cells, slots⟩ argsL.toArray v B ∧
      ∀ target, Steps p.tables e below (B.U.setTop { g with pc := g.pc + 3, stack := v.toList ++ rest }) target → Steps p.tables e below (T.setTop g) target) ∨
    (∃ (q : Addr) (vm₁ : Vm) (B : Pt), s.WarmedH vm₁ ∧ Stand p l e R s m args below meth c B.U B.locs B.cells B.slots ∧ PostX ⟨T.setVm vm₁, locs, cells, slots⟩ argsL.toArray q B ∧
      Steps p.tables e below (T.setTop g) ((B.U.setTop { g with stack := rest }).pushFrame (.throwing q))) := by
  obtain ⟨mk, methM, cM, hnamed, hmethM, -, -, -, -, -, -, hsigM⟩ := Cond.codeWith_spec hcode
  have hstatic : methM.isStatic = true := Cond.static_spec hnamed hmethM hstat
  obtain ⟨kP, hkP, -⟩ := className_of_methodNamed hnamed
  have hinitP : kP.init = .initialized := Cond.initialized_spec (findClass_of_methodNamed hnamed) hkP hinit
  obtain ⟨vm₁, X₁, hstep₁⟩ := X.invokestatic hexec hown hlink hnamed hmethM hstatic hkP hinitP hy (g := g) hg (argsL := argsL) (rest := rest) (hlen _ hsigM) hstack hdg
  rcases hK m meth c ⟨T.setVm vm₁, locs, cells, slots⟩ { g with stack := rest } (.invokestatic index) mk argsL.toArray X₁ hg hsize hdg hW (X₁.named hnamed) (hpre vm₁ X₁.warmed) with ⟨v, B, X', hpost, hsteps⟩ | ⟨q, B, X', hpost, hsteps⟩
  · exact Or.inl ⟨v, vm₁, B, X₁.warmed, X', hpost, fun target h => hstep₁ _ fun acts => by rw [doInvoke_state]; exact hsteps.trans h⟩
  · exact Or.inr ⟨q, vm₁, B, X₁.warmed, X', hpost, hstep₁ _ fun acts => by rw [doInvoke_state]; exact hsteps⟩
theorem vx_callVW (X : Stand p l e R s m args below meth c T locs cells slots) (hexec : p.tables.exec = Jvm.exec) {own C : String} {index : Nat} {y : MethodName} {bytes : ByteArray} {maxL : Nat} {ret : Option FieldType} {hh : List (Nat × Nat × Nat × Nat)}
    (hown : s.vm.findClass own = some m.cls) (hlink : (Cond.methodLink own index y).before args s = true) (hinst : (Cond.instanceMethod y).before args s = true) (hsel : (Cond.selects C y y).before args s = true)
    (hcode : (Cond.codeWith y bytes maxL ret hh).before args s = true) (hy : y.cls ≠ "java/lang/invoke/MethodHandle" ∧ y.cls ≠ "java/lang/invoke/VarHandle")
    {W9 : Nat} {Pre : Pt → Array Value → Prop} {Post : Pt → Array Value → Option Value → Pt → Prop} (hK : Back l R p e below s args y 3 W9 Pre Post)
    {b : Addr} {cellB : Cell} (hcell : T.heap[b]? = some cellB) (hobj : cellB.vm.isStatics = false) (hcls : s.vm.findClass C = some cellB.cls)
    {g : JFrame} (hg : g.method = m) (hsize : g.locals.size = c.maxLocals) {argsL rest : List Value} (hlen : ∀ sig, parseMethodDescriptor y.desc = some sig → argsL.length = sig.parameters.length)
    (hstack : g.stack = argsL.reverse ++ .ref b :: rest) (hW : 2 * g.monitorRoom + (rest.map fun v => v.category).sum ≤ W9) (hdg : decode c.code g.pc = .ok (.invokevirtual index, 3))
    (hpre : ∀ vm₁, s.WarmedH vm₁ → Pre ⟨T.setVm vm₁, locs, cells, slots⟩ (Value.ref b :: argsL).toArray) :
    ∃ (v : Option Value) (vm₁ : Vm) (B : Pt), s.WarmedH vm₁ ∧ Stand p l e R s m args below meth c B.U B.locs B.cells B.slots ∧ Post ⟨T.setVm vm₁, locs, cells, slots⟩ (Value.ref b :: argsL).toArray v B ∧
      ∀ target, Steps p.tables e below (B.U.setTop { g with pc := g.pc + 3, stack := v.toList ++ rest }) target → Steps p.tables e below (T.setTop g) target := by
  obtain ⟨mk, methM, hnamed, hmethM, hstM, habM⟩ := Cond.instanceMethod_spec hinst
  obtain ⟨m8, methM', cM, hn8, hmethM', -, -, -, -, -, -, hsigM⟩ := Cond.codeWith_spec hcode
  cases Option.some.inj (hn8.symm.trans hnamed)
  cases hmethM.symm.trans hmethM'
  obtain ⟨c2, r2, m2, q1, q2, q3, q4, kP, hkP, hkPi⟩ := Cond.selects_spec hsel
  cases hcls.symm.trans q1
  cases (State.methodFound?_of_named hnamed hy).symm.trans q2
  cases hnamed.symm.trans q3
  have hselP : selectMethod e.platform s.vm cellB.cls mk = .method mk := by rw [Launch.admits_selectMethod X.admits]; exact q4
  obtain ⟨vm₁, X₁, hstep₁⟩ := X.invokevirtual hexec hown hlink hnamed hmethM hstM hkP hkPi hy (a := b) (cell := cellB) hcell
    (fun z h => by rw [h] at hobj; cases hobj) hselP hmethM habM hkP hkPi (g := g) hg (argsL := argsL) (rest := rest) (hlen _ hsigM) hstack hdg
  obtain ⟨v, B, X', hpost, hsteps⟩ := hK m meth c ⟨T.setVm vm₁, locs, cells, slots⟩ { g with stack := rest } (.invokevirtual index) mk (Value.ref b :: argsL).toArray X₁ hg hsize hdg hW (X₁.named hnamed) (hpre vm₁ X₁.warmed)
  exact ⟨v, vm₁, B, X₁.warmed, X', hpost, fun target h => hstep₁ _ fun acts => by rw [doInvoke_state]; exact hsteps.trans h⟩
abbrev vx_CVW (R : Room) (s : State) (args : Array Value) (own C : String) (index : Nat) (y : MethodName) (bytes : ByteArray) (maxL : Nat) (ret : Option FieldType) (hh : List (Nat × Nat × Nat × Nat)) (ws : List Cond) (rm : Room) (mc ms n : Nat) : Prop :=
  (rm.cells = mc ∧ rm.slots = ms ∧ rm.frames + 1 ≤ R.frames ∧ 8 + (maxL + 11) + rm.locals ≤ R.locals ∧ (∀ w ∈ ws, ∀ (a' : Array Value) (U : State), s.WarmedH U.vm → w.before a' U = true) ∧ Cond.codeWith y bytes maxL ret hh ∈ ws) ∧
  (Cond.codeWith y bytes maxL ret hh).before args s = true ∧ (Cond.initialized y.cls).before args s = true ∧ (y.cls ≠ "java/lang/invoke/MethodHandle" ∧ y.cls ≠ "java/lang/invoke/VarHandle") ∧
  (∀ sig, parseMethodDescriptor y.desc = some sig → n = sig.parameters.length) ∧ (Cond.methodLink own index y).before args s = true ∧ (Cond.instanceMethod y).before args s = true ∧ (Cond.selects C y y).before args s = true
theorem vx_cwVW {own C : String} {index maxL mc ms : Nat} {y : MethodName} {bytes : ByteArray} {ret : Option FieldType} {hh : List (Nat × Nat × Nat × Nat)} {Ts ws ws' : List Cond} {rm : Room} (n : Nat) (ht : ∀ w ∈ Ts, w.before args s = true) (hT : GoodIn Ts (wsV own index C y ws)) (hw : ws = Cond.codeWith y bytes maxL ret hh :: ws') (hrc : rm.cells = mc) (hrs : rm.slots = ms)
    (hd : y.cls = C ∧ y.cls ≠ "java/lang/invoke/MethodHandle" ∧ y.cls ≠ "java/lang/invoke/VarHandle" ∧ (parseMethodDescriptor y.desc).map (fun d => d.parameters.length) = some n) (hR : rm.frames + 1 ≤ R.frames ∧ 8 + (maxL + 11) + rm.locals ≤ R.locals) :
    vx_CVW R s args own C index y bytes maxL ret hh ws rm mc ms n := by
  obtain ⟨hC, hd⟩ := hd
  subst hC
  have ok : ∀ w ∈ wsV own index y.cls y ws, w.before args s = true := fun w h => ht w (hT w h).1
  have hG : GoodIn Ts ws := fun w h => hT w (by unfold wsV; exact List.mem_append_right _ h)
  have hc : Cond.codeWith y bytes maxL ret hh ∈ ws := by rw [hw]; exact List.mem_cons_self
  refine ⟨⟨hrc, hrs, hR.1, hR.2, pay_in ht hG, hc⟩, ht _ (hG _ hc).1, ok _ (by simp [wsV]), ⟨hd.1, hd.2.1⟩, fun sig h => ?_, ok _ (by simp [wsV]), ok _ (by simp [wsV]), ok _ (by simp [wsV])⟩
  have h2 := hd.2.2
  rw [h] at h2
  exact (Option.some.inj h2).symm
theorem vx_runVW {y : MethodName} {bytes cc : ByteArray} {maxL nL mc ms n index : Nat} {ret : Option FieldType} {hh : List (Nat × Nat × Nat × Nat)} {ws : List Cond} {rm : Room} {Pc : Array Value → State → Prop} {Qc : Array Value → State → Outcome → State → Prop} {free : Addr → Prop} {Ts : List Cond} {own C : String} {b : Addr} {As rest : List Value} {g : JFrame}
    (S : CallFix p m c cc nL s args Ts own) (hM : Met l y ws rm Pc Qc mc ms free) (cw : vx_CVW R s args own C index y bytes maxL ret hh ws rm mc ms n) (hp : PreV s H C b Pc As)
    (hg : g.method = m) (hn : As.length = n) (hsize : g.locals.size = nL) (hstack : g.stack = As.reverse ++ .ref b :: rest) (hW : 2 * g.monitorRoom + (rest.map fun v => v.category).sum ≤ 8) (hdg : decode cc g.pc = .ok (.invokevirtual index, 3)) (hf : cells + mc ≤ R.cells ∧ slots + ms ≤ R.slots) :
    va_Run p l e R s m args below meth c H locs cells slots mc ms g rest (Qc (Value.ref b :: As).toArray) free := by
  obtain ⟨⟨hrc, hrs, hfr, hlo, hws, hcw⟩, hcode, hini, hy, hlen, hl, hin, hse⟩ := cw
  have hK : Back l R p e below s args y 3 8 (PreOf R mc ms Pc) (PostOf Qc mc ms free) := va_backW (hh := hh) (bytes := bytes) (maxL := maxL) (ret := ret) hM hp.1 hrc hrs hfr hlo hws hcw (fun a' U hW => word_at hW (Or.inl (by first | rfl | simp [Cond.onTables, Cond.keeps, Cond.steady])) hini)
  obtain ⟨hx, hb, hml, ho, -⟩ := S
  obtain ⟨-, ⟨cellB, hcB, hoB, hclB⟩, hPc⟩ := hp
  intro T hT X
  obtain ⟨v, vm₁, ⟨U', l2, c2, s2⟩, hW₁, X', ⟨g', mk, t, L, e1, e2, hq, h1, hL, h2, h3⟩, st⟩ := vx_callVW X hx (C := C) (hh := hh) (bytes := bytes) (maxL := maxL) (ret := ret) ho hl hin hse hcode hy hK (by rw [hT]; exact hcB) hoB hclB hg (hsize.trans hml.symm) (argsL := As) (rest := rest) (fun sig h => hn.trans (hlen sig h)) hstack hW (by rw [hb]; exact hdg)
    (fun vm₁ hW₁ => ⟨hf.1, hf.2, hPc (T.setVm vm₁) hT hW₁⟩)
  dsimp only [Pt.U, Pt.locs, Pt.cells, Pt.slots] at X' e1 e2 h1 h2 h3 st
  subst h1; subst h2; subst h3
  exact ⟨v, (T.setVm vm₁).calling g' mk (Value.ref b :: As).toArray, t, U', L, hT, X', hL, e1, e2, hq, st⟩
section
variable {y : MethodName} {bytes cc : ByteArray} {maxL nL mc ms n index : Nat} {ret : Option FieldType} {ws : List Cond} {rm : Room} {Pc : Array Value → State → Prop} {Qc : Array Value → State → Outcome → State → Prop} {XC : String → State → State → Prop} {free : Addr → Prop} {Ts : List Cond} {own C : String} {b : Addr} {As rest : List Value} {g : JFrame}
theorem vx_runVX {hh : List (Nat × Nat × Nat × Nat)} (S : CallFix p m c cc nL s args Ts own) (hM : vx_Met l y ws rm Pc Qc XC mc ms free) (cw : vx_CVW R s args own C index y bytes maxL ret hh ws rm mc ms n) (hp : PreV s H C b Pc As)
    (hg : g.method = m) (hn : As.length = n) (hsize : g.locals.size = nL) (hstack : g.stack = As.reverse ++ .ref b :: rest) (hW : 2 * g.monitorRoom + (rest.map fun v => v.category).sum ≤ 8) (hdg : decode cc g.pc = .ok (.invokevirtual index, 3)) (hf : cells + mc ≤ R.cells ∧ slots + ms ≤ R.slots) :
    vx_Run p l e R s m args below meth c H locs cells slots mc ms g rest (Qc (Value.ref b :: As).toArray) XC free := by
  obtain ⟨⟨hrc, hrs, hfr, hlo, hws, hcw⟩, hcode, hini, hy, hlen, hl, hin, hse⟩ := cw
  have hK : vx_Back l R p e below s args y 3 8 (PreOf R mc ms Pc) (PostOf Qc mc ms free) (vx_Post XC mc ms free) := vx_backW (hh := hh) (bytes := bytes) (maxL := maxL) (ret := ret) hM hp.1 hrc hrs hfr hlo hws hcw (fun a' U hW => word_at hW (Or.inl (by first | rfl | simp [Cond.onTables, Cond.keeps, Cond.steady])) hini)
  obtain ⟨hx, hb, hml, ho, -⟩ := S
  obtain ⟨-, ⟨cellB, hcB, hoB, hclB⟩, hPc⟩ := hp
  intro T hT X
  rcases vx_callVX X hx (C := C) (hh := hh) (bytes := bytes) (maxL := maxL) (ret := ret) ho hl hin hse hcode hy hK (by rw [hT]; exact hcB) hoB hclB hg (hsize.trans hml.symm) (argsL := As) (rest := rest) (fun sig h => hn.trans (hlen sig h)) hstack hW (by rw [hb]; exact hdg)
    (fun vm₁ hW₁ => ⟨hf.1, hf.2, hPc (T.setVm vm₁) hT hW₁⟩) with ⟨v, vm₁, ⟨U', l2, c2, s2⟩, hW₁, X', ⟨g', mk, t, L, e1, e2, hq, h1, hL, h2, h3⟩, st⟩ | ⟨q, vm₁, ⟨U', l2, c2, s2⟩, hW₁, X', ⟨g', mk, t, L, E, ce, e1, e2, hq, hce, hcv, hcl, h1, hL, h2, h3⟩, st⟩
  · dsimp only [Pt.U, Pt.locs, Pt.cells, Pt.slots] at X' e1 e2 h1 h2 h3 st
    subst h1; subst h2; subst h3
    exact Or.inl ⟨v, (T.setVm vm₁).calling g' mk (Value.ref b :: As).toArray, t, U', L, hT, X', hL, e1, e2, hq, st⟩
  · dsimp only [Pt.U, Pt.locs, Pt.cells, Pt.slots] at X' e1 e2 h1 h2 h3 st hcl
    subst h1; subst h2; subst h3
    exact Or.inr ⟨q, (T.setVm vm₁).calling g' mk (Value.ref b :: As).toArray, t, U', L, E, ce, hT, X', hL, e1, e2, hq, hce, hcv, vx_cls hW₁ hcl, st⟩
theorem vx_runSX {hh : List (Nat × Nat × Nat × Nat)} (S : CallFix p m c cc nL s args Ts own) (hM : vx_Met l y ws rm Pc Qc XC mc ms free) (cw : vx_CSW R s args own index y bytes maxL ret hh ws rm mc ms n) (hp : PreS s H Pc As)
    (hg : g.method = m) (hn : As.length = n) (hsize : g.locals.size = nL) (hstack : g.stack = As.reverse ++ rest) (hW : 2 * g.monitorRoom + (rest.map fun v => v.category).sum ≤ 8) (hdg : decode cc g.pc = .ok (.invokestatic index, 3)) (hf : cells + mc ≤ R.cells ∧ slots + ms ≤ R.slots) :
    vx_Run p l e R s m args below meth c H locs cells slots mc ms g rest (Qc As.toArray) XC free := by
  obtain ⟨⟨hrc, hrs, hfr, hlo, hws, hcw⟩, hcode, hini, hy, hlen, hl, hstt⟩ := cw
  have hK : vx_Back l R p e below s args y 3 8 (PreOf R mc ms Pc) (PostOf Qc mc ms free) (vx_Post XC mc ms free) := vx_backW (hh := hh) (bytes := bytes) (maxL := maxL) (ret := ret) hM hp.1 hrc hrs hfr hlo hws hcw (fun a' U hW => word_at hW (Or.inl (by first | rfl | simp [Cond.onTables, Cond.keeps, Cond.steady])) hini)
  obtain ⟨hx, hb, hml, ho, -⟩ := S
  intro T hT X
  rcases vx_callSX X hx (hh := hh) (bytes := bytes) (maxL := maxL) (ret := ret) ho hl hstt hini hcode hy hK hg (hsize.trans hml.symm) (argsL := As) (rest := rest) (fun sig h => hn.trans (hlen sig h)) hstack hW (by rw [hb]; exact hdg)
    (fun vm₁ hW₁ => ⟨hf.1, hf.2, hp.2 (T.setVm vm₁) hT hW₁⟩) with ⟨v, vm₁, ⟨U', l2, c2, s2⟩, hW₁, X', ⟨g', mk, t, L, e1, e2, hq, h1, hL, h2, h3⟩, st⟩ | ⟨q, vm₁, ⟨U', l2, c2, s2⟩, hW₁, X', ⟨g', mk, t, L, E, ce, e1, e2, hq, hce, hcv, hcl, h1, hL, h2, h3⟩, st⟩
  · dsimp only [Pt.U, Pt.locs, Pt.cells, Pt.slots] at X' e1 e2 h1 h2 h3 st
    subst h1; subst h2; subst h3
    exact Or.inl ⟨v, (T.setVm vm₁).calling g' mk As.toArray, t, U', L, hT, X', hL, e1, e2, hq, st⟩
  · dsimp only [Pt.U, Pt.locs, Pt.cells, Pt.slots] at X' e1 e2 h1 h2 h3 st hcl
    subst h1; subst h2; subst h3
    exact Or.inr ⟨q, (T.setVm vm₁).calling g' mk As.toArray, t, U', L, E, ce, hT, X', hL, e1, e2, hq, hce, hcv, vx_cls hW₁ hcl, st⟩
end
end VXH
theorem vx_ofWH {l : Launch} {y : MethodName} {ws ws' : List Cond} {rm : Room} {Pc : Array Value → State → Prop} {Qc : Array Value → State → Outcome → State → Prop} {XC : String → State → State → Prop} {mc ms : Nat} {free : Addr → Prop} {cc : ByteArray} {maxL : Nat} {ret : Option FieldType} {hh : List (Nat × Nat × Nat × Nat)}
    (hy : plainName y.cls = true) (hw : ws = Cond.codeWith y cc maxL ret hh :: ws')
    (body : ∀ p e s m args below meth c s₁, BodyLoose p l y (headSpec ws rm) cc maxL ret e s m args below meth c s₁ → c.maxLocals = maxL → Pc args s →
      W p l e (headSpec ws rm).room s m args below meth c s.heap [] 0 0 (vx_MQ below Qc XC args s mc ms free) (entryFrame m args maxL)) : vx_Met l y ws rm Pc Qc XC mc ms free := by
  refine MetFree.of_bodyS (code := cc) (maxLocals := maxL) (ret := ret) hy ?_ ?_
  · intro args s m h hn
    obtain ⟨m9, meth, c, hn9, h1, h2, h3, h4, -, h5, h6, -⟩ := Cond.codeWith_spec (atoms_spec (ws := ws) h _ (by rw [hw]; exact List.mem_cons_self))
    cases hn.symm.trans hn9
    exact ⟨meth, c, h1, h2, h3, h4, h5, h6⟩
  · intro p e s m args below meth c s₁ B hml hP _
    have hh0 : s₁.heap = s.heap := by rw [B.state]; rfl
    obtain ⟨t, a1, o, b1, b2, b3⟩ := body p e s m args below meth c s₁ B hml hP s₁ hh0 (Stand.of_body B)
    exact ⟨t, o, a1, b1, b2, b3⟩
/-! ===== END ===== -/
end
section
/-! printed names (claim/NAMES.whole.lean.txt), without its word lists and pools -/
def RX0 : String := "Sketchlock$Board"
def TX0 : u_T := fun k => match k with
  | 0 => ("Sketchlock$Board", "shapes", "LSketchlock$Shapes;", true)
  | 1 => ("Sketchlock$Board", "rules", "LSketchlock$Rules;", true)
  | 2 => ("Sketchlock$Board", "isInRounds", "Z", true)
  | 3 => ("Sketchlock$Board", "numbers", "[I", true)
  | 4 => ("Sketchlock$Board", "tieGaps", "[I", true)
  | 5 => ("Sketchlock$Board", "there", "I", false)
  | _ => ("Sketchlock$Board", "inForce", "I", false)
def tyX0 : Nat → FieldType := fun k => match k with
  | 0 => .object "Sketchlock$Shapes"
  | 1 => .object "Sketchlock$Rules"
  | 2 => .boolean
  | 3 => .array .int
  | 4 => .array .int
  | 5 => .int
  | _ => .int
theorem nmX0 : ∀ a, a < 7 → ∀ b, b < 7 → a ≠ b → (TX0 a).2.1 ≠ (TX0 b).2.1 := by decide +kernel
theorem tyX0_ok : ∀ k, k < 7 → parseFieldDescriptor (TX0 k).2.2.1 = some (tyX0 k) := by decide +kernel
abbrev cX0_init : ByteArray := prog_2_method_1_code
def yX0_init : MethodName := ⟨RX0, "<init>", "(LSketchlock$Shapes;LSketchlock$Rules;Z)V"⟩
abbrev cX0_clear : ByteArray := prog_2_method_2_code
def yX0_clear : MethodName := ⟨RX0, "clear", "()V"⟩
abbrev cX0_copyFrom : ByteArray := prog_2_method_3_code
def yX0_copyFrom : MethodName := ⟨RX0, "copyFrom", "(LSketchlock$Board;)V"⟩
abbrev cX0_numberOf : ByteArray := prog_2_method_4_code
def yX0_numberOf : MethodName := ⟨RX0, "numberOf", "(II)I"⟩
abbrev cX0_set : ByteArray := prog_2_method_5_code
def yX0_set : MethodName := ⟨RX0, "set", "(III)V"⟩
abbrev cX0_differsAt : ByteArray := prog_2_method_6_code
def yX0_differsAt : MethodName := ⟨RX0, "differsAt", "(ILSketchlock$Board;)Z"⟩
abbrev cX0_addShape : ByteArray := prog_2_method_7_code
def yX0_addShape : MethodName := ⟨RX0, "addShape", "(IIIII)Z"⟩
abbrev cX0_moveTo : ByteArray := prog_2_method_8_code
def yX0_moveTo : MethodName := ⟨RX0, "moveTo", "(III)Z"⟩
abbrev cX0_resizeTo : ByteArray := prog_2_method_9_code
def yX0_resizeTo : MethodName := ⟨RX0, "resizeTo", "(III)Z"⟩
abbrev cX0_layRule : ByteArray := prog_2_method_10_code
def yX0_layRule : MethodName := ⟨RX0, "layRule", "(I)Z"⟩
abbrev cX0_dropRule : ByteArray := prog_2_method_11_code
def yX0_dropRule : MethodName := ⟨RX0, "dropRule", "(I)Z"⟩
abbrev cX0_isLink : ByteArray := prog_2_method_12_code
def yX0_isLink : MethodName := ⟨RX0, "isLink", "(II)Z"⟩
abbrev cX0_gapOf : ByteArray := prog_2_method_13_code
def yX0_gapOf : MethodName := ⟨RX0, "gapOf", "(II)I"⟩
abbrev cX0_fits : ByteArray := prog_2_method_14_code
def yX0_fits : MethodName := ⟨RX0, "fits", "(I)Z"⟩
abbrev cX0_groupOf : ByteArray := prog_2_method_15_code
def yX0_groupOf : MethodName := ⟨RX0, "groupOf", "(II)I"⟩
abbrev cX0_shiftGroup : ByteArray := prog_2_method_16_code
def yX0_shiftGroup : MethodName := ⟨RX0, "shiftGroup", "(III)Z"⟩
abbrev cX0_growClass : ByteArray := prog_2_method_17_code
def yX0_growClass : MethodName := ⟨RX0, "growClass", "(IIII)Z"⟩
abbrev cX0_areInRange : ByteArray := prog_2_method_18_code
def yX0_areInRange : MethodName := ⟨RX0, "areInRange", "(I)Z"⟩
abbrev cX0_tellByWalk : ByteArray := prog_2_method_19_code
def yX0_tellByWalk : MethodName := ⟨RX0, "tellByWalk", "(II)Z"⟩
abbrev cX0_tellInRounds : ByteArray := prog_2_method_20_code
def yX0_tellInRounds : MethodName := ⟨RX0, "tellInRounds", "(II)Z"⟩
def RX1 : String := "Sketchlock$ExportText"
def TX1 : u_T := fun k => match k with
  | 0 => ("Sketchlock$ExportText", "signs", "[C", true)
  | _ => ("Sketchlock$ExportText", "chars", "I", false)
def tyX1 : Nat → FieldType := fun k => match k with
  | 0 => .array .char
  | _ => .int
theorem nmX1 : ∀ a, a < 2 → ∀ b, b < 2 → a ≠ b → (TX1 a).2.1 ≠ (TX1 b).2.1 := by decide +kernel
theorem tyX1_ok : ∀ k, k < 2 → parseFieldDescriptor (TX1 k).2.2.1 = some (tyX1 k) := by decide +kernel
abbrev cX1_init : ByteArray := prog_3_method_1_code
def yX1_init : MethodName := ⟨RX1, "<init>", "()V"⟩
abbrev cX1_signOf : ByteArray := prog_3_method_2_code
def yX1_signOf : MethodName := ⟨RX1, "signOf", "(I)C"⟩
abbrev cX1_show : ByteArray := prog_3_method_3_code
def yX1_show : MethodName := ⟨RX1, "show", "(LSketchlock$Board;LSketchlock$Shapes;)V"⟩
abbrev cX1_showShape : ByteArray := prog_3_method_4_code
def yX1_showShape : MethodName := ⟨RX1, "showShape", "(LSketchlock$Board;LSketchlock$Shapes;I)V"⟩
abbrev cX1_writeLetter : ByteArray := prog_3_method_5_code
def yX1_writeLetter : MethodName := ⟨RX1, "writeLetter", "(I)V"⟩
abbrev cX1_writeNumber : ByteArray := prog_3_method_6_code
def yX1_writeNumber : MethodName := ⟨RX1, "writeNumber", "(I)V"⟩
abbrev cX1_write : ByteArray := prog_3_method_7_code
def yX1_write : MethodName := ⟨RX1, "write", "(C)V"⟩
def RX2 : String := "Sketchlock$Exports"
def TX2 : u_T := fun k => match k with
  | 0 => ("Sketchlock$Exports", "asked", "I", false)
  | 1 => ("Sketchlock$Exports", "made", "I", false)
  | 2 => ("Sketchlock$Exports", "counted", "[J", true)
  | 3 => ("Sketchlock$Exports", "chars", "[I", true)
  | _ => ("Sketchlock$Exports", "signs", "[C", true)
def tyX2 : Nat → FieldType := fun k => match k with
  | 0 => .int
  | 1 => .int
  | 2 => .array .long
  | 3 => .array .int
  | _ => .array .char
theorem nmX2 : ∀ a, a < 5 → ∀ b, b < 5 → a ≠ b → (TX2 a).2.1 ≠ (TX2 b).2.1 := by decide +kernel
theorem tyX2_ok : ∀ k, k < 5 → parseFieldDescriptor (TX2 k).2.2.1 = some (tyX2 k) := by decide +kernel
abbrev cX2_init : ByteArray := prog_4_method_1_code
def yX2_init : MethodName := ⟨RX2, "<init>", "()V"⟩
abbrev cX2_keep : ByteArray := prog_4_method_2_code
def yX2_keep : MethodName := ⟨RX2, "keep", "(LSketchlock$ExportText;J)V"⟩
abbrev cX2_charsOf : ByteArray := prog_4_method_3_code
def yX2_charsOf : MethodName := ⟨RX2, "charsOf", "(I)I"⟩
abbrev cX2_actsOf : ByteArray := prog_4_method_4_code
def yX2_actsOf : MethodName := ⟨RX2, "actsOf", "(I)J"⟩
abbrev cX2_signOf : ByteArray := prog_4_method_5_code
def yX2_signOf : MethodName := ⟨RX2, "signOf", "(II)C"⟩
def RX3 : String := "Sketchlock$Replay"
def TX3 : u_T := fun k => match k with
  | 0 => ("Sketchlock$Replay", "tree", "LSketchlock$Tree;", true)
  | 1 => ("Sketchlock$Replay", "board", "LSketchlock$Board;", false)
  | 2 => ("Sketchlock$Replay", "trial", "LSketchlock$Board;", false)
  | _ => ("Sketchlock$Replay", "voids", "J", false)
def tyX3 : Nat → FieldType := fun k => match k with
  | 0 => .object "Sketchlock$Tree"
  | 1 => .object "Sketchlock$Board"
  | 2 => .object "Sketchlock$Board"
  | _ => .long
theorem nmX3 : ∀ a, a < 4 → ∀ b, b < 4 → a ≠ b → (TX3 a).2.1 ≠ (TX3 b).2.1 := by decide +kernel
theorem tyX3_ok : ∀ k, k < 4 → parseFieldDescriptor (TX3 k).2.2.1 = some (tyX3 k) := by decide +kernel
abbrev cX3_init : ByteArray := prog_5_method_1_code
def yX3_init : MethodName := ⟨RX3, "<init>", "(LSketchlock$Shapes;LSketchlock$Rules;LSketchlock$Tree;Z)V"⟩
abbrev cX3_redo : ByteArray := prog_5_method_2_code
def yX3_redo : MethodName := ⟨RX3, "redo", "(J)V"⟩
abbrev cX3_tryAct : ByteArray := prog_5_method_3_code
def yX3_tryAct : MethodName := ⟨RX3, "tryAct", "(I)Z"⟩
abbrev cX3_changedShapes : ByteArray := prog_5_method_4_code
def yX3_changedShapes : MethodName := ⟨RX3, "changedShapes", "()I"⟩
def RX4 : String := "Sketchlock$Rules"
def TX4 : u_T := fun k => match k with
  | 0 => ("Sketchlock$Rules", "made", "I", false)
  | 1 => ("Sketchlock$Rules", "kinds", "[I", true)
  | 2 => ("Sketchlock$Rules", "firsts", "[I", true)
  | _ => ("Sketchlock$Rules", "seconds", "[I", true)
def tyX4 : Nat → FieldType := fun k => match k with
  | 0 => .int
  | 1 => .array .int
  | 2 => .array .int
  | _ => .array .int
theorem nmX4 : ∀ a, a < 4 → ∀ b, b < 4 → a ≠ b → (TX4 a).2.1 ≠ (TX4 b).2.1 := by decide +kernel
theorem tyX4_ok : ∀ k, k < 4 → parseFieldDescriptor (TX4 k).2.2.1 = some (tyX4 k) := by decide +kernel
abbrev cX4_init : ByteArray := prog_6_method_1_code
def yX4_init : MethodName := ⟨RX4, "<init>", "()V"⟩
abbrev cX4_draft : ByteArray := prog_6_method_2_code
def yX4_draft : MethodName := ⟨RX4, "draft", "(III)V"⟩
def RX5 : String := "Sketchlock$Shapes"
def TX5 : u_T := fun k => match k with
  | 0 => ("Sketchlock$Shapes", "made", "I", false)
  | 1 => ("Sketchlock$Shapes", "turned", "I", false)
  | 2 => ("Sketchlock$Shapes", "letterCounts", "[I", true)
  | _ => ("Sketchlock$Shapes", "letters", "[I", true)
def tyX5 : Nat → FieldType := fun k => match k with
  | 0 => .int
  | 1 => .int
  | 2 => .array .int
  | _ => .array .int
theorem nmX5 : ∀ a, a < 4 → ∀ b, b < 4 → a ≠ b → (TX5 a).2.1 ≠ (TX5 b).2.1 := by decide +kernel
theorem tyX5_ok : ∀ k, k < 4 → parseFieldDescriptor (TX5 k).2.2.1 = some (tyX5 k) := by decide +kernel
abbrev cX5_init : ByteArray := prog_7_method_1_code
def yX5_init : MethodName := ⟨RX5, "<init>", "()V"⟩
abbrev cX5_draft : ByteArray := prog_7_method_2_code
def yX5_draft : MethodName := ⟨RX5, "draft", "([IIZ)V"⟩
abbrev cX5_lettersOf : ByteArray := prog_7_method_3_code
def yX5_lettersOf : MethodName := ⟨RX5, "lettersOf", "(I)I"⟩
abbrev cX5_shownLetter : ByteArray := prog_7_method_4_code
def yX5_shownLetter : MethodName := ⟨RX5, "shownLetter", "(II)I"⟩
def RX6 : String := "Sketchlock$Tree"
def TX6 : u_T := fun k => match k with
  | 0 => ("Sketchlock$Tree", "made", "I", false)
  | 1 => ("Sketchlock$Tree", "deeds", "[I", true)
  | 2 => ("Sketchlock$Tree", "subjects", "[I", true)
  | 3 => ("Sketchlock$Tree", "numbers", "[I", true)
  | 4 => ("Sketchlock$Tree", "drawers", "[I", true)
  | 5 => ("Sketchlock$Tree", "aboves", "[I", true)
  | _ => ("Sketchlock$Tree", "stands", "[I", true)
def tyX6 : Nat → FieldType := fun k => match k with
  | 0 => .int
  | 1 => .array .int
  | 2 => .array .int
  | 3 => .array .int
  | 4 => .array .int
  | 5 => .array .int
  | _ => .array .int
theorem nmX6 : ∀ a, a < 7 → ∀ b, b < 7 → a ≠ b → (TX6 a).2.1 ≠ (TX6 b).2.1 := by decide +kernel
theorem tyX6_ok : ∀ k, k < 7 → parseFieldDescriptor (TX6 k).2.2.1 = some (tyX6 k) := by decide +kernel
abbrev cX6_init : ByteArray := prog_8_method_1_code
def yX6_init : MethodName := ⟨RX6, "<init>", "()V"⟩
abbrev cX6_draft : ByteArray := prog_8_method_2_code
def yX6_draft : MethodName := ⟨RX6, "draft", "(IIIIII)V"⟩
abbrev cX6_hang : ByteArray := prog_8_method_3_code
def yX6_hang : MethodName := ⟨RX6, "hang", "(I)V"⟩
abbrev cX6_stand : ByteArray := prog_8_method_4_code
def yX6_stand : MethodName := ⟨RX6, "stand", "(II)V"⟩
abbrev cX6_standOf : ByteArray := prog_8_method_5_code
def yX6_standOf : MethodName := ⟨RX6, "standOf", "(I)I"⟩
abbrev cX6_aboveOf : ByteArray := prog_8_method_6_code
def yX6_aboveOf : MethodName := ⟨RX6, "aboveOf", "(I)I"⟩
abbrev cX6_deedOf : ByteArray := prog_8_method_7_code
def yX6_deedOf : MethodName := ⟨RX6, "deedOf", "(I)I"⟩
abbrev cX6_subjectOf : ByteArray := prog_8_method_8_code
def yX6_subjectOf : MethodName := ⟨RX6, "subjectOf", "(I)I"⟩
abbrev cX6_wantedBy : ByteArray := prog_8_method_9_code
def yX6_wantedBy : MethodName := ⟨RX6, "wantedBy", "(II)I"⟩
abbrev cX6_counting : ByteArray := prog_8_method_10_code
def yX6_counting : MethodName := ⟨RX6, "counting", "()J"⟩
abbrev cX6_isBranch : ByteArray := prog_8_method_11_code
def yX6_isBranch : MethodName := ⟨RX6, "isBranch", "(II)Z"⟩
abbrev cX6_branchOf : ByteArray := prog_8_method_12_code
def yX6_branchOf : MethodName := ⟨RX6, "branchOf", "(II)I"⟩
abbrev cX6_countBranches : ByteArray := prog_8_method_13_code
def yX6_countBranches : MethodName := ⟨RX6, "countBranches", "(I)I"⟩
abbrev cX6_countBelow : ByteArray := prog_8_method_14_code
def yX6_countBelow : MethodName := ⟨RX6, "countBelow", "(I)I"⟩
def RX7 : String := "Sketchlock"
def TX7 : u_T := fun k => match k with
  | 0 => ("Sketchlock", "spelled", "[I", true)
  | 1 => ("Sketchlock", "spelledLetters", "I", false)
  | 2 => ("Sketchlock", "shapes", "LSketchlock$Shapes;", true)
  | 3 => ("Sketchlock", "rules", "LSketchlock$Rules;", true)
  | 4 => ("Sketchlock", "tree", "LSketchlock$Tree;", true)
  | 5 => ("Sketchlock", "kept", "LSketchlock$Replay;", true)
  | 6 => ("Sketchlock", "anew", "LSketchlock$Replay;", true)
  | 7 => ("Sketchlock", "exports", "LSketchlock$Exports;", true)
  | _ => ("Sketchlock", "text", "LSketchlock$ExportText;", true)
def tyX7 : Nat → FieldType := fun k => match k with
  | 0 => .array .int
  | 1 => .int
  | 2 => .object "Sketchlock$Shapes"
  | 3 => .object "Sketchlock$Rules"
  | 4 => .object "Sketchlock$Tree"
  | 5 => .object "Sketchlock$Replay"
  | 6 => .object "Sketchlock$Replay"
  | 7 => .object "Sketchlock$Exports"
  | _ => .object "Sketchlock$ExportText"
theorem nmX7 : ∀ a, a < 9 → ∀ b, b < 9 → a ≠ b → (TX7 a).2.1 ≠ (TX7 b).2.1 := by decide +kernel
theorem tyX7_ok : ∀ k, k < 9 → parseFieldDescriptor (TX7 k).2.2.1 = some (tyX7 k) := by decide +kernel
abbrev cX7_init : ByteArray := prog_1_method_1_code
def yX7_init : MethodName := ⟨RX7, "<init>", "()V"⟩
abbrev cX7_spell : ByteArray := prog_1_method_2_code
def yX7_spell : MethodName := ⟨RX7, "spell", "(I)I"⟩
abbrev cX7_clearSpelled : ByteArray := prog_1_method_3_code
def yX7_clearSpelled : MethodName := ⟨RX7, "clearSpelled", "()I"⟩
abbrev cX7_addBox : ByteArray := prog_1_method_4_code
def yX7_addBox : MethodName := ⟨RX7, "addBox", "(IIIII)I"⟩
abbrev cX7_addLabel : ByteArray := prog_1_method_5_code
def yX7_addLabel : MethodName := ⟨RX7, "addLabel", "(IIIZ)I"⟩
abbrev cX7_move : ByteArray := prog_1_method_6_code
def yX7_move : MethodName := ⟨RX7, "move", "(IIII)I"⟩
abbrev cX7_resize : ByteArray := prog_1_method_7_code
def yX7_resize : MethodName := ⟨RX7, "resize", "(IIII)I"⟩
abbrev cX7_lay : ByteArray := prog_1_method_8_code
def yX7_lay : MethodName := ⟨RX7, "lay", "(IIII)I"⟩
abbrev cX7_drop : ByteArray := prog_1_method_9_code
def yX7_drop : MethodName := ⟨RX7, "drop", "(II)I"⟩
abbrev cX7_back : ByteArray := prog_1_method_10_code
def yX7_back : MethodName := ⟨RX7, "back", "(I)I"⟩
abbrev cX7_on : ByteArray := prog_1_method_11_code
def yX7_on : MethodName := ⟨RX7, "on", "(II)I"⟩
abbrev cX7_branches : ByteArray := prog_1_method_12_code
def yX7_branches : MethodName := ⟨RX7, "branches", "(I)I"⟩
abbrev cX7_below : ByteArray := prog_1_method_13_code
def yX7_below : MethodName := ⟨RX7, "below", "(I)I"⟩
abbrev cX7_standsAt : ByteArray := prog_1_method_14_code
def yX7_standsAt : MethodName := ⟨RX7, "standsAt", "(I)I"⟩
abbrev cX7_acts : ByteArray := prog_1_method_15_code
def yX7_acts : MethodName := ⟨RX7, "acts", "()I"⟩
abbrev cX7_counts : ByteArray := prog_1_method_16_code
def yX7_counts : MethodName := ⟨RX7, "counts", "(I)Z"⟩
abbrev cX7_isVoid : ByteArray := prog_1_method_17_code
def yX7_isVoid : MethodName := ⟨RX7, "isVoid", "(I)Z"⟩
abbrev cX7_isThere : ByteArray := prog_1_method_18_code
def yX7_isThere : MethodName := ⟨RX7, "isThere", "(I)Z"⟩
abbrev cX7_number : ByteArray := prog_1_method_19_code
def yX7_number : MethodName := ⟨RX7, "number", "(II)I"⟩
abbrev cX7_numberAnew : ByteArray := prog_1_method_20_code
def yX7_numberAnew : MethodName := ⟨RX7, "numberAnew", "(II)I"⟩
abbrev cX7_isInForce : ByteArray := prog_1_method_21_code
def yX7_isInForce : MethodName := ⟨RX7, "isInForce", "(I)Z"⟩
abbrev cX7_holds : ByteArray := prog_1_method_22_code
def yX7_holds : MethodName := ⟨RX7, "holds", "(I)Z"⟩
abbrev cX7_broken : ByteArray := prog_1_method_23_code
def yX7_broken : MethodName := ⟨RX7, "broken", "()I"⟩
abbrev cX7_part : ByteArray := prog_1_method_24_code
def yX7_part : MethodName := ⟨RX7, "part", "(IZ)I"⟩
abbrev cX7_ask : ByteArray := prog_1_method_25_code
def yX7_ask : MethodName := ⟨RX7, "ask", "()I"⟩
abbrev cX7_make : ByteArray := prog_1_method_26_code
def yX7_make : MethodName := ⟨RX7, "make", "()I"⟩
abbrev cX7_length : ByteArray := prog_1_method_27_code
def yX7_length : MethodName := ⟨RX7, "length", "(I)I"⟩
abbrev cX7_charAt : ByteArray := prog_1_method_28_code
def yX7_charAt : MethodName := ⟨RX7, "charAt", "(II)C"⟩
abbrev cX7_charAnew : ByteArray := prog_1_method_29_code
def yX7_charAnew : MethodName := ⟨RX7, "charAnew", "(II)C"⟩
abbrev cX7_requireDrawer : ByteArray := prog_1_method_30_code
def yX7_requireDrawer : MethodName := ⟨RX7, "requireDrawer", "(I)V"⟩
abbrev cX7_requireShape : ByteArray := prog_1_method_31_code
def yX7_requireShape : MethodName := ⟨RX7, "requireShape", "(I)V"⟩
abbrev cX7_requireRule : ByteArray := prog_1_method_32_code
def yX7_requireRule : MethodName := ⟨RX7, "requireRule", "(I)V"⟩
abbrev cX7_requireAct : ByteArray := prog_1_method_33_code
def yX7_requireAct : MethodName := ⟨RX7, "requireAct", "(I)V"⟩
abbrev cX7_requirePlace : ByteArray := prog_1_method_34_code
def yX7_requirePlace : MethodName := ⟨RX7, "requirePlace", "(II)V"⟩
abbrev cX7_requireSize : ByteArray := prog_1_method_35_code
def yX7_requireSize : MethodName := ⟨RX7, "requireSize", "(II)V"⟩
abbrev cX7_requireWhat : ByteArray := prog_1_method_36_code
def yX7_requireWhat : MethodName := ⟨RX7, "requireWhat", "(I)V"⟩
abbrev cX7_requireOn : ByteArray := prog_1_method_37_code
def yX7_requireOn : MethodName := ⟨RX7, "requireOn", "(LSketchlock$Board;I)V"⟩
abbrev cX7_requireMade : ByteArray := prog_1_method_38_code
def yX7_requireMade : MethodName := ⟨RX7, "requireMade", "(I)V"⟩
abbrev cX7_doDraft : ByteArray := prog_1_method_39_code
def yX7_doDraft : MethodName := ⟨RX7, "doDraft", "(I)V"⟩
abbrev cX7_has : ByteArray := prog_1_method_40_code
def yX7_has : MethodName := ⟨RX7, "has", "(JI)Z"⟩
abbrev cX7_isInRange : ByteArray := prog_1_method_41_code
def yX7_isInRange : MethodName := ⟨RX7, "isInRange", "(II)Z"⟩
abbrev cX7_isAbout : ByteArray := prog_1_method_42_code
def yX7_isAbout : MethodName := ⟨RX7, "isAbout", "(II)Z"⟩
abbrev cX7_read : ByteArray := prog_1_method_43_code
def yX7_read : MethodName := ⟨RX7, "read", "([II)I"⟩
abbrev cX7_put : ByteArray := prog_1_method_44_code
def yX7_put : MethodName := ⟨RX7, "put", "([III)V"⟩
def RX8 : String := "SketchlockModel"
def TX8 : u_T := fun k => match k with
  | 0 => ("SketchlockModel", "spelled", "I", false)
  | 1 => ("SketchlockModel", "letter", "[I", true)
  | 2 => ("SketchlockModel", "shapes", "I", false)
  | 3 => ("SketchlockModel", "isLabel", "[Z", true)
  | 4 => ("SketchlockModel", "isTurned", "[Z", true)
  | 5 => ("SketchlockModel", "length", "[I", true)
  | 6 => ("SketchlockModel", "text", "[I", true)
  | 7 => ("SketchlockModel", "rules", "I", false)
  | 8 => ("SketchlockModel", "kind", "[I", true)
  | 9 => ("SketchlockModel", "from", "[I", true)
  | 10 => ("SketchlockModel", "to", "[I", true)
  | 11 => ("SketchlockModel", "laidBy", "[I", true)
  | 12 => ("SketchlockModel", "acts", "I", false)
  | 13 => ("SketchlockModel", "drawer", "[I", true)
  | 14 => ("SketchlockModel", "above", "[I", true)
  | 15 => ("SketchlockModel", "what", "[I", true)
  | 16 => ("SketchlockModel", "whom", "[I", true)
  | 17 => ("SketchlockModel", "numbers", "[I", true)
  | 18 => ("SketchlockModel", "isOff", "[Z", true)
  | 19 => ("SketchlockModel", "stands", "[I", true)
  | 20 => ("SketchlockModel", "there", "I", false)
  | 21 => ("SketchlockModel", "board", "[I", true)
  | 22 => ("SketchlockModel", "inForce", "I", false)
  | 23 => ("SketchlockModel", "tieX", "[I", true)
  | 24 => ("SketchlockModel", "tieY", "[I", true)
  | 25 => ("SketchlockModel", "tryThere", "I", false)
  | 26 => ("SketchlockModel", "tried", "[I", true)
  | 27 => ("SketchlockModel", "tryForce", "I", false)
  | 28 => ("SketchlockModel", "fails", "Z", false)
  | 29 => ("SketchlockModel", "exports", "I", false)
  | 30 => ("SketchlockModel", "made", "I", false)
  | 31 => ("SketchlockModel", "shownThere", "[I", true)
  | 32 => ("SketchlockModel", "shown", "[I", true)
  | 33 => ("SketchlockModel", "shownForce", "[I", true)
  | 34 => ("SketchlockModel", "want", "I", false)
  | 35 => ("SketchlockModel", "got", "I", false)
  | _ => ("SketchlockModel", "thrown", "I", false)
def tyX8 : Nat → FieldType := fun k => match k with
  | 0 => .int
  | 1 => .array .int
  | 2 => .int
  | 3 => .array .boolean
  | 4 => .array .boolean
  | 5 => .array .int
  | 6 => .array .int
  | 7 => .int
  | 8 => .array .int
  | 9 => .array .int
  | 10 => .array .int
  | 11 => .array .int
  | 12 => .int
  | 13 => .array .int
  | 14 => .array .int
  | 15 => .array .int
  | 16 => .array .int
  | 17 => .array .int
  | 18 => .array .boolean
  | 19 => .array .int
  | 20 => .int
  | 21 => .array .int
  | 22 => .int
  | 23 => .array .int
  | 24 => .array .int
  | 25 => .int
  | 26 => .array .int
  | 27 => .int
  | 28 => .boolean
  | 29 => .int
  | 30 => .int
  | 31 => .array .int
  | 32 => .array .int
  | 33 => .array .int
  | 34 => .int
  | 35 => .int
  | _ => .int
theorem nmX8 : ∀ a, a < 37 → ∀ b, b < 37 → a ≠ b → (TX8 a).2.1 ≠ (TX8 b).2.1 := by decide +kernel
theorem tyX8_ok : ∀ k, k < 37 → parseFieldDescriptor (TX8 k).2.2.1 = some (tyX8 k) := by decide +kernel
abbrev cX8_init : ByteArray := prog_10_method_1_code
def yX8_init : MethodName := ⟨RX8, "<init>", "()V"⟩
abbrev cX8_thrown : ByteArray := prog_10_method_2_code
def yX8_thrown : MethodName := ⟨RX8, "thrown", "()I"⟩
abbrev cX8_can : ByteArray := prog_10_method_3_code
def yX8_can : MethodName := ⟨RX8, "can", "(I)Z"⟩
abbrev cX8_isIn : ByteArray := prog_10_method_4_code
def yX8_isIn : MethodName := ⟨RX8, "isIn", "(III)Z"⟩
abbrev cX8_isDrawer : ByteArray := prog_10_method_5_code
def yX8_isDrawer : MethodName := ⟨RX8, "isDrawer", "(I)Z"⟩
abbrev cX8_isShape : ByteArray := prog_10_method_6_code
def yX8_isShape : MethodName := ⟨RX8, "isShape", "(I)Z"⟩
abbrev cX8_isRule : ByteArray := prog_10_method_7_code
def yX8_isRule : MethodName := ⟨RX8, "isRule", "(I)Z"⟩
abbrev cX8_isAct : ByteArray := prog_10_method_8_code
def yX8_isAct : MethodName := ⟨RX8, "isAct", "(I)Z"⟩
abbrev cX8_has : ByteArray := prog_10_method_9_code
def yX8_has : MethodName := ⟨RX8, "has", "(II)Z"⟩
abbrev cX8_size : ByteArray := prog_10_method_10_code
def yX8_size : MethodName := ⟨RX8, "size", "(I)I"⟩
abbrev cX8_spell : ByteArray := prog_10_method_11_code
def yX8_spell : MethodName := ⟨RX8, "spell", "(I)I"⟩
abbrev cX8_clearSpelled : ByteArray := prog_10_method_12_code
def yX8_clearSpelled : MethodName := ⟨RX8, "clearSpelled", "()I"⟩
abbrev cX8_joins : ByteArray := prog_10_method_13_code
def yX8_joins : MethodName := ⟨RX8, "joins", "(II)Z"⟩
abbrev cX8_partOf : ByteArray := prog_10_method_14_code
def yX8_partOf : MethodName := ⟨RX8, "partOf", "(III)I"⟩
abbrev cX8_stepOf : ByteArray := prog_10_method_15_code
def yX8_stepOf : MethodName := ⟨RX8, "stepOf", "(II)I"⟩
abbrev cX8_shifts : ByteArray := prog_10_method_16_code
def yX8_shifts : MethodName := ⟨RX8, "shifts", "(III)V"⟩
abbrev cX8_sizes : ByteArray := prog_10_method_17_code
def yX8_sizes : MethodName := ⟨RX8, "sizes", "(III)I"⟩
abbrev cX8_settlesPart : ByteArray := prog_10_method_18_code
def yX8_settlesPart : MethodName := ⟨RX8, "settlesPart", "(III)V"⟩
abbrev cX8_settles : ByteArray := prog_10_method_19_code
def yX8_settles : MethodName := ⟨RX8, "settles", "(III)V"⟩
abbrev cX8_lays : ByteArray := prog_10_method_20_code
def yX8_lays : MethodName := ⟨RX8, "lays", "(I)V"⟩
abbrev cX8_isInRange : ByteArray := prog_10_method_21_code
def yX8_isInRange : MethodName := ⟨RX8, "isInRange", "()Z"⟩
abbrev cX8_tries : ByteArray := prog_10_method_22_code
def yX8_tries : MethodName := ⟨RX8, "tries", "(I)Z"⟩
abbrev cX8_takes : ByteArray := prog_10_method_23_code
def yX8_takes : MethodName := ⟨RX8, "takes", "()I"⟩
abbrev cX8_isOnWay : ByteArray := prog_10_method_24_code
def yX8_isOnWay : MethodName := ⟨RX8, "isOnWay", "(I)Z"⟩
abbrev cX8_doesAnew : ByteArray := prog_10_method_25_code
def yX8_doesAnew : MethodName := ⟨RX8, "doesAnew", "()I"⟩
abbrev cX8_writes : ByteArray := prog_10_method_26_code
def yX8_writes : MethodName := ⟨RX8, "writes", "(IIIIIII)V"⟩
abbrev cX8_makes : ByteArray := prog_10_method_27_code
def yX8_makes : MethodName := ⟨RX8, "makes", "()I"⟩
abbrev cX8_isPlace : ByteArray := prog_10_method_28_code
def yX8_isPlace : MethodName := ⟨RX8, "isPlace", "(II)Z"⟩
abbrev cX8_isSize : ByteArray := prog_10_method_29_code
def yX8_isSize : MethodName := ⟨RX8, "isSize", "(II)Z"⟩
abbrev cX8_adds : ByteArray := prog_10_method_30_code
def yX8_adds : MethodName := ⟨RX8, "adds", "(IIIII)I"⟩
abbrev cX8_addBox : ByteArray := prog_10_method_31_code
def yX8_addBox : MethodName := ⟨RX8, "addBox", "(IIIII)I"⟩
abbrev cX8_addLabel : ByteArray := prog_10_method_32_code
def yX8_addLabel : MethodName := ⟨RX8, "addLabel", "(IIIZ)I"⟩
abbrev cX8_canMake : ByteArray := prog_10_method_33_code
def yX8_canMake : MethodName := ⟨RX8, "canMake", "()Z"⟩
abbrev cX8_changes : ByteArray := prog_10_method_34_code
def yX8_changes : MethodName := ⟨RX8, "changes", "(IIIIIZ)I"⟩
abbrev cX8_move : ByteArray := prog_10_method_35_code
def yX8_move : MethodName := ⟨RX8, "move", "(IIII)I"⟩
abbrev cX8_resize : ByteArray := prog_10_method_36_code
def yX8_resize : MethodName := ⟨RX8, "resize", "(IIII)I"⟩
abbrev cX8_lay : ByteArray := prog_10_method_37_code
def yX8_lay : MethodName := ⟨RX8, "lay", "(IIII)I"⟩
abbrev cX8_drop : ByteArray := prog_10_method_38_code
def yX8_drop : MethodName := ⟨RX8, "drop", "(II)I"⟩
abbrev cX8_back : ByteArray := prog_10_method_39_code
def yX8_back : MethodName := ⟨RX8, "back", "(I)I"⟩
abbrev cX8_branchOf : ByteArray := prog_10_method_40_code
def yX8_branchOf : MethodName := ⟨RX8, "branchOf", "(II)I"⟩
abbrev cX8_on : ByteArray := prog_10_method_41_code
def yX8_on : MethodName := ⟨RX8, "on", "(II)I"⟩
abbrev cX8_branches : ByteArray := prog_10_method_42_code
def yX8_branches : MethodName := ⟨RX8, "branches", "(I)I"⟩
abbrev cX8_below : ByteArray := prog_10_method_43_code
def yX8_below : MethodName := ⟨RX8, "below", "(I)I"⟩
abbrev cX8_standsAt : ByteArray := prog_10_method_44_code
def yX8_standsAt : MethodName := ⟨RX8, "standsAt", "(I)I"⟩
abbrev cX8_acts : ByteArray := prog_10_method_45_code
def yX8_acts : MethodName := ⟨RX8, "acts", "()I"⟩
abbrev cX8_counts : ByteArray := prog_10_method_46_code
def yX8_counts : MethodName := ⟨RX8, "counts", "(I)Z"⟩
abbrev cX8_isVoid : ByteArray := prog_10_method_47_code
def yX8_isVoid : MethodName := ⟨RX8, "isVoid", "(I)Z"⟩
abbrev cX8_isThere : ByteArray := prog_10_method_48_code
def yX8_isThere : MethodName := ⟨RX8, "isThere", "(I)Z"⟩
abbrev cX8_numberOf : ByteArray := prog_10_method_49_code
def yX8_numberOf : MethodName := ⟨RX8, "numberOf", "(II)I"⟩
abbrev cX8_number : ByteArray := prog_10_method_50_code
def yX8_number : MethodName := ⟨RX8, "number", "(II)I"⟩
abbrev cX8_numberAnew : ByteArray := prog_10_method_51_code
def yX8_numberAnew : MethodName := ⟨RX8, "numberAnew", "(II)I"⟩
abbrev cX8_isInForce : ByteArray := prog_10_method_52_code
def yX8_isInForce : MethodName := ⟨RX8, "isInForce", "(I)Z"⟩
abbrev cX8_holds : ByteArray := prog_10_method_53_code
def yX8_holds : MethodName := ⟨RX8, "holds", "(I)Z"⟩
abbrev cX8_broken : ByteArray := prog_10_method_54_code
def yX8_broken : MethodName := ⟨RX8, "broken", "()I"⟩
abbrev cX8_part : ByteArray := prog_10_method_55_code
def yX8_part : MethodName := ⟨RX8, "part", "(IZ)I"⟩
abbrev cX8_ask : ByteArray := prog_10_method_56_code
def yX8_ask : MethodName := ⟨RX8, "ask", "()I"⟩
abbrev cX8_make : ByteArray := prog_10_method_57_code
def yX8_make : MethodName := ⟨RX8, "make", "()I"⟩
abbrev cX8_sign : ByteArray := prog_10_method_58_code
def yX8_sign : MethodName := ⟨RX8, "sign", "(I)V"⟩
abbrev cX8_signs : ByteArray := prog_10_method_59_code
def yX8_signs : MethodName := ⟨RX8, "signs", "(I)V"⟩
abbrev cX8_tells : ByteArray := prog_10_method_60_code
def yX8_tells : MethodName := ⟨RX8, "tells", "(I)V"⟩
abbrev cX8_goesThrough : ByteArray := prog_10_method_61_code
def yX8_goesThrough : MethodName := ⟨RX8, "goesThrough", "(II)I"⟩
abbrev cX8_isExport : ByteArray := prog_10_method_62_code
def yX8_isExport : MethodName := ⟨RX8, "isExport", "(I)Z"⟩
abbrev cX8_length : ByteArray := prog_10_method_63_code
def yX8_length : MethodName := ⟨RX8, "length", "(I)I"⟩
abbrev cX8_charOf : ByteArray := prog_10_method_64_code
def yX8_charOf : MethodName := ⟨RX8, "charOf", "(II)C"⟩
abbrev cX8_charAt : ByteArray := prog_10_method_65_code
def yX8_charAt : MethodName := ⟨RX8, "charAt", "(II)C"⟩
abbrev cX8_charAnew : ByteArray := prog_10_method_66_code
def yX8_charAnew : MethodName := ⟨RX8, "charAnew", "(II)C"⟩
def RJx145de : String := "java/io/Serializable"
def TJx145de : u_T := fun k => match k with
  | _ => ("", "", "", false)
def tyJx145de : Nat → FieldType := fun k => match k with
  | _ => .int
theorem nmJx145de : ∀ a, a < 0 → ∀ b, b < 0 → a ≠ b → (TJx145de a).2.1 ≠ (TJx145de b).2.1 := by decide +kernel
theorem tyJx145de_ok : ∀ k, k < 0 → parseFieldDescriptor (TJx145de k).2.2.1 = some (tyJx145de k) := by decide +kernel
def RJ6 : String := "java/lang/Integer"
def TJ6 : u_T := fun k => match k with
  | _ => ("", "", "", false)
def tyJ6 : Nat → FieldType := fun k => match k with
  | _ => .int
theorem nmJ6 : ∀ a, a < 0 → ∀ b, b < 0 → a ≠ b → (TJ6 a).2.1 ≠ (TJ6 b).2.1 := by decide +kernel
theorem tyJ6_ok : ∀ k, k < 0 → parseFieldDescriptor (TJ6 k).2.2.1 = some (tyJ6 k) := by decide +kernel
abbrev cJ6_numberOfTrailingZeros_0f7a4 : ByteArray := prog_16_method_48_code
def yJ6_numberOfTrailingZeros_0f7a4 : MethodName := ⟨RJ6, "numberOfTrailingZeros", "(I)I"⟩
abbrev cJ6_bitCount_0f7a4 : ByteArray := prog_16_method_49_code
def yJ6_bitCount_0f7a4 : MethodName := ⟨RJ6, "bitCount", "(I)I"⟩
def RJ13 : String := "java/lang/Long"
def TJ13 : u_T := fun k => match k with
  | _ => ("", "", "", false)
def tyJ13 : Nat → FieldType := fun k => match k with
  | _ => .int
theorem nmJ13 : ∀ a, a < 0 → ∀ b, b < 0 → a ≠ b → (TJ13 a).2.1 ≠ (TJ13 b).2.1 := by decide +kernel
theorem tyJ13_ok : ∀ k, k < 0 → parseFieldDescriptor (TJ13 k).2.2.1 = some (tyJ13 k) := by decide +kernel
abbrev cJ13_bitCount_95d88 : ByteArray := prog_17_method_50_code
def yJ13_bitCount_95d88 : MethodName := ⟨RJ13, "bitCount", "(J)I"⟩
def RJ9 : String := "java/lang/Math"
def TJ9 : u_T := fun k => match k with
  | _ => ("", "", "", false)
def tyJ9 : Nat → FieldType := fun k => match k with
  | _ => .int
theorem nmJ9 : ∀ a, a < 0 → ∀ b, b < 0 → a ≠ b → (TJ9 a).2.1 ≠ (TJ9 b).2.1 := by decide +kernel
theorem tyJ9_ok : ∀ k, k < 0 → parseFieldDescriptor (TJ9 k).2.2.1 = some (tyJ9 k) := by decide +kernel
abbrev cJ9_abs_0f7a4 : ByteArray := prog_18_method_59_code
def yJ9_abs_0f7a4 : MethodName := ⟨RJ9, "abs", "(I)I"⟩
def RJ0 : String := "java/lang/String"
def TJ0 : u_T := fun k => match k with
  | _ => ("", "", "", false)
def tyJ0 : Nat → FieldType := fun k => match k with
  | _ => .int
theorem nmJ0 : ∀ a, a < 0 → ∀ b, b < 0 → a ≠ b → (TJ0 a).2.1 ≠ (TJ0 b).2.1 := by decide +kernel
theorem tyJ0_ok : ∀ k, k < 0 → parseFieldDescriptor (TJ0 k).2.2.1 = some (tyJ0 k) := by decide +kernel
def RJ10 : String := "java/lang/System"
def TJ10 : u_T := fun k => match k with
  | _ => ("", "", "", false)
def tyJ10 : Nat → FieldType := fun k => match k with
  | _ => .int
theorem nmJ10 : ∀ a, a < 0 → ∀ b, b < 0 → a ≠ b → (TJ10 a).2.1 ≠ (TJ10 b).2.1 := by decide +kernel
theorem tyJ10_ok : ∀ k, k < 0 → parseFieldDescriptor (TJ10 k).2.2.1 = some (tyJ10 k) := by decide +kernel
def RL : String := "SketchlockLaw"
abbrev cL_spell : ByteArray := method_3_code
def yL_spell : MethodName := ⟨RL, "spell", "(LSketchlock;I[J)I"⟩
abbrev cL_addBox : ByteArray := method_4_code
def yL_addBox : MethodName := ⟨RL, "addBox", "(LSketchlock;IIIII[J)I"⟩
abbrev cL_addLabel : ByteArray := method_5_code
def yL_addLabel : MethodName := ⟨RL, "addLabel", "(LSketchlock;IIIZ[J)I"⟩
abbrev cL_move : ByteArray := method_6_code
def yL_move : MethodName := ⟨RL, "move", "(LSketchlock;IIII[J)I"⟩
abbrev cL_resize : ByteArray := method_7_code
def yL_resize : MethodName := ⟨RL, "resize", "(LSketchlock;IIII[J)I"⟩
abbrev cL_lay : ByteArray := method_8_code
def yL_lay : MethodName := ⟨RL, "lay", "(LSketchlock;IIII[J)I"⟩
abbrev cL_drop : ByteArray := method_9_code
def yL_drop : MethodName := ⟨RL, "drop", "(LSketchlock;II[J)I"⟩
abbrev cL_back : ByteArray := method_10_code
def yL_back : MethodName := ⟨RL, "back", "(LSketchlock;I[J)I"⟩
abbrev cL_on : ByteArray := method_11_code
def yL_on : MethodName := ⟨RL, "on", "(LSketchlock;II[J)I"⟩
abbrev cL_branches : ByteArray := method_12_code
def yL_branches : MethodName := ⟨RL, "branches", "(LSketchlock;I[J)I"⟩
abbrev cL_below : ByteArray := method_13_code
def yL_below : MethodName := ⟨RL, "below", "(LSketchlock;I[J)I"⟩
abbrev cL_standsAt : ByteArray := method_14_code
def yL_standsAt : MethodName := ⟨RL, "standsAt", "(LSketchlock;I[J)I"⟩
abbrev cL_counts : ByteArray := method_15_code
def yL_counts : MethodName := ⟨RL, "counts", "(LSketchlock;I[J)I"⟩
abbrev cL_isVoid : ByteArray := method_16_code
def yL_isVoid : MethodName := ⟨RL, "isVoid", "(LSketchlock;I[J)I"⟩
abbrev cL_isThere : ByteArray := method_17_code
def yL_isThere : MethodName := ⟨RL, "isThere", "(LSketchlock;I[J)I"⟩
abbrev cL_number : ByteArray := method_18_code
def yL_number : MethodName := ⟨RL, "number", "(LSketchlock;II[J)I"⟩
abbrev cL_numberAnew : ByteArray := method_19_code
def yL_numberAnew : MethodName := ⟨RL, "numberAnew", "(LSketchlock;II[J)I"⟩
abbrev cL_isInForce : ByteArray := method_20_code
def yL_isInForce : MethodName := ⟨RL, "isInForce", "(LSketchlock;I[J)I"⟩
abbrev cL_holds : ByteArray := method_21_code
def yL_holds : MethodName := ⟨RL, "holds", "(LSketchlock;I[J)I"⟩
abbrev cL_part : ByteArray := method_22_code
def yL_part : MethodName := ⟨RL, "part", "(LSketchlock;IZ[J)I"⟩
abbrev cL_ask : ByteArray := method_23_code
def yL_ask : MethodName := ⟨RL, "ask", "(LSketchlock;[J)I"⟩
abbrev cL_length : ByteArray := method_24_code
def yL_length : MethodName := ⟨RL, "length", "(LSketchlock;I[J)I"⟩
abbrev cL_charAt : ByteArray := method_25_code
def yL_charAt : MethodName := ⟨RL, "charAt", "(LSketchlock;II[J)I"⟩
abbrev cL_charAnew : ByteArray := method_26_code
def yL_charAnew : MethodName := ⟨RL, "charAnew", "(LSketchlock;II[J)I"⟩
abbrev cL_law : ByteArray := code
def yL_law : MethodName := ⟨RL, "law", "([I)Z"⟩
abbrev vwCl : List vw_C := [(RX0, TX0, 7), (RX1, TX1, 2), (RX2, TX2, 5), (RX3, TX3, 4), (RX4, TX4, 4), (RX5, TX5, 4), (RX6, TX6, 7), (RX7, TX7, 9), (RX8, TX8, 37)]
end
section
/-! tables of this system: its words, its heap by handles (by wip/whole/tab.py) -/
def TBc0 : List Cond := [.initialized RL,
  .initialized RX7,
  .initialized RX5,
  .initialized RX4,
  .initialized RX6,
  .initialized RX3,
  .initialized RX0,
  .initialized RX2,
  .initialized RX1,
  .initialized RX8,
  .initialized "java/lang/Throwable",
  .initialized "java/lang/Exception",
  .initialized "java/lang/RuntimeException",
  .initialized "java/lang/IndexOutOfBoundsException",
  .initialized "java/lang/IllegalStateException",
  .initialized "java/lang/IllegalArgumentException",
  .initialized RJ10,
  .initialized RJ6,
  .initialized RJ13,
  .initialized "java/util/NoSuchElementException",
  .initialized RJ9,
  .methodLink RL 98 yX7_init,
  .instanceMethod yX7_init,
  .code yX7_init cX7_init 1 none,
  .methodLink RX7 1 objectInit,
  .instanceMethod objectInit,
  .instanceMethod yX5_init,
  .code yX5_init cX5_init 1 none,
  .methodLink RX5 3 objectInit,
  .fieldLink RX5 9 "Sketchlock$Shapes" "made" "I"]
def TBc1 : List Cond := [.fieldLink RX5 15 "Sketchlock$Shapes" "turned" "I",
  .fieldLink RX5 18 "Sketchlock$Shapes" "letterCounts" "[I",
  .fieldLink RX5 22 "Sketchlock$Shapes" "letters" "[I",
  .lays "Sketchlock$Shapes" "Sketchlock$Shapes" "made" "I",
  .lays "Sketchlock$Shapes" "Sketchlock$Shapes" "turned" "I",
  .laysFinal "Sketchlock$Shapes" "Sketchlock$Shapes" "letterCounts" "[I",
  .laysFinal "Sketchlock$Shapes" "Sketchlock$Shapes" "letters" "[I",
  .arrayClass .int,
  .instanceMethod yX4_init,
  .code yX4_init cX4_init 1 none,
  .methodLink RX4 3 objectInit,
  .fieldLink RX4 9 "Sketchlock$Rules" "made" "I",
  .fieldLink RX4 15 "Sketchlock$Rules" "kinds" "[I",
  .fieldLink RX4 19 "Sketchlock$Rules" "firsts" "[I",
  .fieldLink RX4 22 "Sketchlock$Rules" "seconds" "[I",
  .lays "Sketchlock$Rules" "Sketchlock$Rules" "made" "I",
  .laysFinal "Sketchlock$Rules" "Sketchlock$Rules" "kinds" "[I",
  .laysFinal "Sketchlock$Rules" "Sketchlock$Rules" "firsts" "[I",
  .laysFinal "Sketchlock$Rules" "Sketchlock$Rules" "seconds" "[I",
  .instanceMethod yX6_init,
  .code yX6_init cX6_init 2 none,
  .methodLink RX6 3 objectInit,
  .fieldLink RX6 9 "Sketchlock$Tree" "made" "I",
  .fieldLink RX6 15 "Sketchlock$Tree" "deeds" "[I",
  .fieldLink RX6 19 "Sketchlock$Tree" "subjects" "[I",
  .fieldLink RX6 22 "Sketchlock$Tree" "numbers" "[I",
  .fieldLink RX6 25 "Sketchlock$Tree" "drawers" "[I",
  .fieldLink RX6 28 "Sketchlock$Tree" "aboves" "[I",
  .fieldLink RX6 31 "Sketchlock$Tree" "stands" "[I",
  .lays "Sketchlock$Tree" "Sketchlock$Tree" "made" "I"]
def TBc2 : List Cond := [.laysFinal "Sketchlock$Tree" "Sketchlock$Tree" "deeds" "[I",
  .laysFinal "Sketchlock$Tree" "Sketchlock$Tree" "subjects" "[I",
  .laysFinal "Sketchlock$Tree" "Sketchlock$Tree" "numbers" "[I",
  .laysFinal "Sketchlock$Tree" "Sketchlock$Tree" "drawers" "[I",
  .laysFinal "Sketchlock$Tree" "Sketchlock$Tree" "aboves" "[I",
  .laysFinal "Sketchlock$Tree" "Sketchlock$Tree" "stands" "[I",
  .instanceMethod yX3_init,
  .code yX3_init cX3_init 5 none,
  .methodLink RX3 3 objectInit,
  .instanceMethod yX0_init,
  .code yX0_init cX0_init 4 none,
  .methodLink RX0 3 objectInit,
  .fieldLink RX0 25 "Sketchlock$Board" "shapes" "LSketchlock$Shapes;",
  .fieldLink RX0 29 "Sketchlock$Board" "rules" "LSketchlock$Rules;",
  .fieldLink RX0 33 "Sketchlock$Board" "isInRounds" "Z",
  .fieldLink RX0 9 "Sketchlock$Board" "numbers" "[I",
  .fieldLink RX0 15 "Sketchlock$Board" "tieGaps" "[I",
  .fieldLink RX0 18 "Sketchlock$Board" "there" "I",
  .fieldLink RX0 22 "Sketchlock$Board" "inForce" "I",
  .laysFinal "Sketchlock$Board" "Sketchlock$Board" "shapes" "LSketchlock$Shapes;",
  .laysFinal "Sketchlock$Board" "Sketchlock$Board" "rules" "LSketchlock$Rules;",
  .laysFinal "Sketchlock$Board" "Sketchlock$Board" "isInRounds" "Z",
  .laysFinal "Sketchlock$Board" "Sketchlock$Board" "numbers" "[I",
  .laysFinal "Sketchlock$Board" "Sketchlock$Board" "tieGaps" "[I",
  .lays "Sketchlock$Board" "Sketchlock$Board" "there" "I",
  .lays "Sketchlock$Board" "Sketchlock$Board" "inForce" "I",
  .fieldLink RX3 15 "Sketchlock$Replay" "tree" "LSketchlock$Tree;",
  .fieldLink RX3 24 "Sketchlock$Replay" "board" "LSketchlock$Board;",
  .fieldLink RX3 28 "Sketchlock$Replay" "trial" "LSketchlock$Board;",
  .fieldLink RX3 9 "Sketchlock$Replay" "voids" "J"]
def TBc3 : List Cond := [.laysFinal "Sketchlock$Replay" "Sketchlock$Replay" "tree" "LSketchlock$Tree;",
  .lays "Sketchlock$Replay" "Sketchlock$Replay" "board" "LSketchlock$Board;",
  .lays "Sketchlock$Replay" "Sketchlock$Replay" "trial" "LSketchlock$Board;",
  .lays "Sketchlock$Replay" "Sketchlock$Replay" "voids" "J",
  .instanceMethod yX2_init,
  .code yX2_init cX2_init 1 none,
  .methodLink RX2 3 objectInit,
  .fieldLink RX2 9 "Sketchlock$Exports" "asked" "I",
  .fieldLink RX2 15 "Sketchlock$Exports" "made" "I",
  .fieldLink RX2 18 "Sketchlock$Exports" "counted" "[J",
  .fieldLink RX2 22 "Sketchlock$Exports" "chars" "[I",
  .fieldLink RX2 26 "Sketchlock$Exports" "signs" "[C",
  .lays "Sketchlock$Exports" "Sketchlock$Exports" "asked" "I",
  .lays "Sketchlock$Exports" "Sketchlock$Exports" "made" "I",
  .laysFinal "Sketchlock$Exports" "Sketchlock$Exports" "counted" "[J",
  .laysFinal "Sketchlock$Exports" "Sketchlock$Exports" "chars" "[I",
  .laysFinal "Sketchlock$Exports" "Sketchlock$Exports" "signs" "[C",
  .arrayClass .long,
  .arrayClass .char,
  .instanceMethod yX1_init,
  .code yX1_init cX1_init 1 none,
  .methodLink RX1 3 objectInit,
  .fieldLink RX1 9 "Sketchlock$ExportText" "signs" "[C",
  .fieldLink RX1 15 "Sketchlock$ExportText" "chars" "I",
  .laysFinal "Sketchlock$ExportText" "Sketchlock$ExportText" "signs" "[C",
  .lays "Sketchlock$ExportText" "Sketchlock$ExportText" "chars" "I",
  .fieldLink RX7 9 "Sketchlock" "spelled" "[I",
  .fieldLink RX7 13 "Sketchlock" "spelledLetters" "I",
  .fieldLink RX7 20 "Sketchlock" "shapes" "LSketchlock$Shapes;",
  .fieldLink RX7 27 "Sketchlock" "rules" "LSketchlock$Rules;"]
def TBc4 : List Cond := [.fieldLink RX7 34 "Sketchlock" "tree" "LSketchlock$Tree;",
  .fieldLink RX7 43 "Sketchlock" "kept" "LSketchlock$Replay;",
  .fieldLink RX7 47 "Sketchlock" "anew" "LSketchlock$Replay;",
  .fieldLink RX7 53 "Sketchlock" "exports" "LSketchlock$Exports;",
  .fieldLink RX7 60 "Sketchlock" "text" "LSketchlock$ExportText;",
  .laysFinal "Sketchlock" "Sketchlock" "spelled" "[I",
  .lays "Sketchlock" "Sketchlock" "spelledLetters" "I",
  .laysFinal "Sketchlock" "Sketchlock" "shapes" "LSketchlock$Shapes;",
  .laysFinal "Sketchlock" "Sketchlock" "rules" "LSketchlock$Rules;",
  .laysFinal "Sketchlock" "Sketchlock" "tree" "LSketchlock$Tree;",
  .laysFinal "Sketchlock" "Sketchlock" "kept" "LSketchlock$Replay;",
  .laysFinal "Sketchlock" "Sketchlock" "anew" "LSketchlock$Replay;",
  .laysFinal "Sketchlock" "Sketchlock" "exports" "LSketchlock$Exports;",
  .laysFinal "Sketchlock" "Sketchlock" "text" "LSketchlock$ExportText;",
  .methodLink RL 111 yX7_clearSpelled,
  .instanceMethod yX7_clearSpelled,
  .selects RX7 yX7_clearSpelled yX7_clearSpelled,
  .code yX7_clearSpelled cX7_clearSpelled 2 (some .int),
  .methodLink RL 152 yX7_acts,
  .instanceMethod yX7_acts,
  .selects RX7 yX7_acts yX7_acts,
  .code yX7_acts cX7_acts 1 (some .int),
  .methodLink RL 177 yX7_broken,
  .instanceMethod yX7_broken,
  .selects RX7 yX7_broken yX7_broken,
  .code yX7_broken cX7_broken 3 (some .int),
  .methodLink RX7 192 yX7_has,
  .static yX7_has,
  .code yX7_has cX7_has 3 (some .boolean),
  .instanceMethod yX6_deedOf]
def TBc5 : List Cond := [.code yX6_deedOf cX6_deedOf 2 (some .int),
  .static yX7_read,
  .code yX7_read cX7_read 2 (some .int),
  .methodLink RL 189 yX7_make,
  .instanceMethod yX7_make,
  .selects RX7 yX7_make yX7_make,
  .code yX7_make cX7_make 1 (some .int),
  .methodLink RL 102 yL_spell,
  .static yL_spell,
  .methodLink RL 7 yX7_spell,
  .instanceMethod yX7_spell,
  .selects RX7 yX7_spell yX7_spell,
  .code yX7_spell cX7_spell 4 (some .int),
  .methodLink "java/lang/Throwable" 1 objectInit,
  .methodLink RX7 76 yX7_put,
  .static yX7_put,
  .code yX7_put cX7_put 3 none,
  .methodLink RX7 80 yX7_read,
  .methodLink RL 115 yL_addBox,
  .static yL_addBox,
  .methodLink RL 17 yX7_addBox,
  .instanceMethod yX7_addBox,
  .selects RX7 yX7_addBox yX7_addBox,
  .code yX7_addBox cX7_addBox 7 (some .int),
  .methodLink RX7 84 yX7_requireDrawer,
  .instanceMethod yX7_requireDrawer,
  .code yX7_requireDrawer cX7_requireDrawer 2 none,
  .methodLink RX7 88 yX7_requirePlace,
  .instanceMethod yX7_requirePlace,
  .code yX7_requirePlace cX7_requirePlace 3 none]
def TBc6 : List Cond := [.methodLink RX7 277 yX7_isInRange,
  .static yX7_isInRange,
  .code yX7_isInRange cX7_isInRange 2 (some .boolean),
  .methodLink RX7 92 yX7_requireSize,
  .instanceMethod yX7_requireSize,
  .code yX7_requireSize cX7_requireSize 3 none,
  .instanceMethod yX6_draft,
  .code yX6_draft cX6_draft 7 none,
  .instanceMethod yX5_draft,
  .code yX5_draft cX5_draft 5 none,
  .methodLink RX7 107 yX7_doDraft,
  .instanceMethod yX7_doDraft,
  .code yX7_doDraft cX7_doDraft 2 none,
  .instanceMethod yX3_tryAct,
  .code yX3_tryAct cX3_tryAct 9 (some .boolean),
  .instanceMethod yX6_subjectOf,
  .code yX6_subjectOf cX6_subjectOf 2 (some .int),
  .instanceMethod yX6_wantedBy,
  .code yX6_wantedBy cX6_wantedBy 3 (some .int),
  .instanceMethod yX0_copyFrom,
  .code yX0_copyFrom cX0_copyFrom 2 none,
  .methodLink RX0 37 arraycopyName,
  .static arraycopyName,
  .native arraycopyName,
  .instanceMethod yX0_addShape,
  .code yX0_addShape cX0_addShape 6 (some .boolean),
  .methodLink RX0 55 yX0_set,
  .instanceMethod yX0_set,
  .code yX0_set cX0_set 4 none,
  .instanceMethod yX0_moveTo]
def TBc7 : List Cond := [.code yX0_moveTo cX0_moveTo 4 (some .boolean),
  .methodLink RX0 63 yX0_groupOf,
  .instanceMethod yX0_groupOf,
  .code yX0_groupOf cX0_groupOf 8 (some .int),
  .methodLink RX0 92 yX0_isLink,
  .instanceMethod yX0_isLink,
  .code yX0_isLink cX0_isLink 3 (some .boolean),
  .static yX7_isAbout,
  .code yX7_isAbout cX7_isAbout 2 (some .boolean),
  .methodLink RX0 51 yX0_numberOf,
  .instanceMethod yX0_numberOf,
  .code yX0_numberOf cX0_numberOf 3 (some .int),
  .methodLink RX0 66 yX0_shiftGroup,
  .instanceMethod yX0_shiftGroup,
  .code yX0_shiftGroup cX0_shiftGroup 7 (some .boolean),
  .instanceMethod yX5_lettersOf,
  .code yX5_lettersOf cX5_lettersOf 2 (some .int),
  .instanceMethod yX0_resizeTo,
  .code yX0_resizeTo cX0_resizeTo 4 (some .boolean),
  .methodLink RX0 70 yX0_growClass,
  .instanceMethod yX0_growClass,
  .code yX0_growClass cX0_growClass 10 (some .boolean),
  .methodLink RX0 104 yX0_tellInRounds,
  .instanceMethod yX0_tellInRounds,
  .code yX0_tellInRounds cX0_tellInRounds 10 (some .boolean),
  .methodLink RX0 89 yX0_gapOf,
  .instanceMethod yX0_gapOf,
  .code yX0_gapOf cX0_gapOf 3 (some .int),
  .methodLink RX0 107 yX0_tellByWalk,
  .instanceMethod yX0_tellByWalk]
def TBc8 : List Cond := [.code yX0_tellByWalk cX0_tellByWalk 13 (some .boolean),
  .methodLink RX0 114 yJ6_numberOfTrailingZeros_0f7a4,
  .static yJ6_numberOfTrailingZeros_0f7a4,
  .code yJ6_numberOfTrailingZeros_0f7a4 cJ6_numberOfTrailingZeros_0f7a4 2 (some .int),
  .constant RJ6 264 (65536),
  .methodLink RX0 110 yX0_areInRange,
  .instanceMethod yX0_areInRange,
  .code yX0_areInRange cX0_areInRange 3 (some .boolean),
  .instanceMethod yX0_layRule,
  .code yX0_layRule cX0_layRule 10 (some .boolean),
  .instanceMethod yX0_dropRule,
  .code yX0_dropRule cX0_dropRule 3 (some .boolean),
  .instanceMethod yX6_hang,
  .code yX6_hang cX6_hang 2 none,
  .methodLink RX6 38 yX6_standOf,
  .instanceMethod yX6_standOf,
  .code yX6_standOf cX6_standOf 2 (some .int),
  .methodLink RL 119 yL_addLabel,
  .static yL_addLabel,
  .methodLink RL 23 yX7_addLabel,
  .instanceMethod yX7_addLabel,
  .selects RX7 yX7_addLabel yX7_addLabel,
  .code yX7_addLabel cX7_addLabel 6 (some .int),
  .methodLink RL 123 yL_move,
  .static yL_move,
  .methodLink RL 27 yX7_move,
  .instanceMethod yX7_move,
  .selects RX7 yX7_move yX7_move,
  .code yX7_move cX7_move 5 (some .int),
  .methodLink RX7 112 yX7_requireShape]
def TBc9 : List Cond := [.instanceMethod yX7_requireShape,
  .code yX7_requireShape cX7_requireShape 2 none,
  .instanceMethod yX3_changedShapes,
  .code yX3_changedShapes cX3_changedShapes 3 (some .int),
  .instanceMethod yX0_differsAt,
  .code yX0_differsAt cX0_differsAt 4 (some .boolean),
  .methodLink RL 127 yL_resize,
  .static yL_resize,
  .methodLink RL 31 yX7_resize,
  .instanceMethod yX7_resize,
  .selects RX7 yX7_resize yX7_resize,
  .code yX7_resize cX7_resize 5 (some .int),
  .methodLink RL 130 yL_lay,
  .static yL_lay,
  .methodLink RL 34 yX7_lay,
  .instanceMethod yX7_lay,
  .selects RX7 yX7_lay yX7_lay,
  .code yX7_lay cX7_lay 6 (some .int),
  .instanceMethod yX4_draft,
  .code yX4_draft cX4_draft 4 none,
  .methodLink RL 133 yL_drop,
  .static yL_drop,
  .methodLink RL 37 yX7_drop,
  .instanceMethod yX7_drop,
  .selects RX7 yX7_drop yX7_drop,
  .code yX7_drop cX7_drop 3 (some .int),
  .methodLink RX7 130 yX7_requireRule,
  .instanceMethod yX7_requireRule,
  .code yX7_requireRule cX7_requireRule 2 none,
  .methodLink RX7 142 yJ6_bitCount_0f7a4]
def TBc10 : List Cond := [.static yJ6_bitCount_0f7a4,
  .code yJ6_bitCount_0f7a4 cJ6_bitCount_0f7a4 1 (some .int),
  .constant RJ6 265 (1431655765),
  .constant RJ6 266 (858993459),
  .constant RJ6 267 (252645135),
  .methodLink RL 137 yL_back,
  .static yL_back,
  .methodLink RL 41 yX7_back,
  .instanceMethod yX7_back,
  .selects RX7 yX7_back yX7_back,
  .code yX7_back cX7_back 3 (some .int),
  .instanceMethod yX6_aboveOf,
  .code yX6_aboveOf cX6_aboveOf 2 (some .int),
  .instanceMethod yX6_stand,
  .code yX6_stand cX6_stand 3 none,
  .instanceMethod yX6_counting,
  .code yX6_counting cX6_counting 6 (some .long),
  .methodLink RX6 46 yX6_aboveOf,
  .instanceMethod yX3_redo,
  .code yX3_redo cX3_redo 4 none,
  .instanceMethod yX0_clear,
  .code yX0_clear cX0_clear 1 none,
  .methodLink RX3 38 yX3_tryAct,
  .methodLink RX7 171 yJ13_bitCount_95d88,
  .static yJ13_bitCount_95d88,
  .code yJ13_bitCount_95d88 cJ13_bitCount_95d88 2 (some .int),
  .constantLong RJ13 314 (6148914691236517205),
  .constantLong RJ13 316 (3689348814741910323),
  .constantLong RJ13 318 (1085102592571150095),
  .methodLink RL 140 yL_on]
def TBc11 : List Cond := [.static yL_on,
  .methodLink RL 44 yX7_on,
  .instanceMethod yX7_on,
  .selects RX7 yX7_on yX7_on,
  .code yX7_on cX7_on 4 (some .int),
  .instanceMethod yX6_branchOf,
  .code yX6_branchOf cX6_branchOf 5 (some .int),
  .methodLink RX6 49 yX6_isBranch,
  .instanceMethod yX6_isBranch,
  .code yX6_isBranch cX6_isBranch 3 (some .boolean),
  .methodLink RL 143 yL_branches,
  .static yL_branches,
  .methodLink RL 47 yX7_branches,
  .instanceMethod yX7_branches,
  .selects RX7 yX7_branches yX7_branches,
  .code yX7_branches cX7_branches 2 (some .int),
  .instanceMethod yX6_countBranches,
  .code yX6_countBranches cX6_countBranches 4 (some .int),
  .methodLink RL 146 yL_below,
  .static yL_below,
  .methodLink RL 50 yX7_below,
  .instanceMethod yX7_below,
  .selects RX7 yX7_below yX7_below,
  .code yX7_below cX7_below 2 (some .int),
  .instanceMethod yX6_countBelow,
  .code yX6_countBelow cX6_countBelow 5 (some .int),
  .methodLink RX6 57 yJ13_bitCount_95d88,
  .methodLink RL 149 yL_standsAt,
  .static yL_standsAt,
  .methodLink RL 53 yX7_standsAt]
def TBc12 : List Cond := [.instanceMethod yX7_standsAt,
  .selects RX7 yX7_standsAt yX7_standsAt,
  .code yX7_standsAt cX7_standsAt 2 (some .int),
  .methodLink RL 156 yL_counts,
  .static yL_counts,
  .methodLink RL 56 yX7_counts,
  .instanceMethod yX7_counts,
  .selects RX7 yX7_counts yX7_counts,
  .code yX7_counts cX7_counts 2 (some .boolean),
  .methodLink RX7 189 yX7_requireAct,
  .instanceMethod yX7_requireAct,
  .code yX7_requireAct cX7_requireAct 2 none,
  .methodLink RL 159 yL_isVoid,
  .static yL_isVoid,
  .methodLink RL 60 yX7_isVoid,
  .instanceMethod yX7_isVoid,
  .selects RX7 yX7_isVoid yX7_isVoid,
  .code yX7_isVoid cX7_isVoid 2 (some .boolean),
  .methodLink RL 162 yL_isThere,
  .static yL_isThere,
  .methodLink RL 63 yX7_isThere,
  .instanceMethod yX7_isThere,
  .selects RX7 yX7_isThere yX7_isThere,
  .code yX7_isThere cX7_isThere 2 (some .boolean),
  .methodLink RL 165 yL_number,
  .static yL_number,
  .methodLink RL 66 yX7_number,
  .instanceMethod yX7_number,
  .selects RX7 yX7_number yX7_number,
  .code yX7_number cX7_number 3 (some .int)]
def TBc13 : List Cond := [.methodLink RX7 199 yX7_requireWhat,
  .instanceMethod yX7_requireWhat,
  .code yX7_requireWhat cX7_requireWhat 2 none,
  .methodLink RX7 202 yX7_requireOn,
  .instanceMethod yX7_requireOn,
  .code yX7_requireOn cX7_requireOn 3 none,
  .methodLink RL 168 yL_numberAnew,
  .static yL_numberAnew,
  .methodLink RL 71 yX7_numberAnew,
  .instanceMethod yX7_numberAnew,
  .selects RX7 yX7_numberAnew yX7_numberAnew,
  .code yX7_numberAnew cX7_numberAnew 3 (some .int),
  .methodLink RL 171 yL_isInForce,
  .static yL_isInForce,
  .methodLink RL 74 yX7_isInForce,
  .instanceMethod yX7_isInForce,
  .selects RX7 yX7_isInForce yX7_isInForce,
  .code yX7_isInForce cX7_isInForce 2 (some .boolean),
  .methodLink RL 174 yL_holds,
  .static yL_holds,
  .methodLink RL 77 yX7_holds,
  .instanceMethod yX7_holds,
  .selects RX7 yX7_holds yX7_holds,
  .code yX7_holds cX7_holds 2 (some .boolean),
  .instanceMethod yX0_fits,
  .code yX0_fits cX0_fits 5 (some .boolean),
  .methodLink RL 181 yL_part,
  .static yL_part,
  .methodLink RL 80 yX7_part,
  .instanceMethod yX7_part]
def TBc14 : List Cond := [.selects RX7 yX7_part yX7_part,
  .code yX7_part cX7_part 3 (some .int),
  .methodLink RL 185 yL_ask,
  .static yL_ask,
  .methodLink RL 84 yX7_ask,
  .instanceMethod yX7_ask,
  .selects RX7 yX7_ask yX7_ask,
  .code yX7_ask cX7_ask 2 (some .int),
  .instanceMethod yX1_show,
  .code yX1_show cX1_show 4 none,
  .methodLink RX1 28 yX1_showShape,
  .instanceMethod yX1_showShape,
  .code yX1_showShape cX1_showShape 6 none,
  .methodLink RX1 35 yX1_write,
  .instanceMethod yX1_write,
  .code yX1_write cX1_write 2 none,
  .methodLink RX1 39 yX1_writeNumber,
  .instanceMethod yX1_writeNumber,
  .code yX1_writeNumber cX1_writeNumber 3 none,
  .methodLink RX1 61 yJ9_abs_0f7a4,
  .static yJ9_abs_0f7a4,
  .code yJ9_abs_0f7a4 cJ9_abs_0f7a4 1 (some .int),
  .instanceMethod yX5_shownLetter,
  .code yX5_shownLetter cX5_shownLetter 4 (some .int),
  .methodLink RX5 37 yX5_lettersOf,
  .methodLink RX1 56 yX1_writeLetter,
  .instanceMethod yX1_writeLetter,
  .code yX1_writeLetter cX1_writeLetter 2 none,
  .constant RX1 59 (55357),
  .constant RX1 60 (56528)]
def TBc15 : List Cond := [.instanceMethod yX2_keep,
  .code yX2_keep cX2_keep 5 none,
  .instanceMethod yX1_signOf,
  .code yX1_signOf cX1_signOf 2 (some .char),
  .methodLink RL 193 yL_length,
  .static yL_length,
  .methodLink RL 88 yX7_length,
  .instanceMethod yX7_length,
  .selects RX7 yX7_length yX7_length,
  .code yX7_length cX7_length 2 (some .int),
  .methodLink RX7 247 yX7_requireMade,
  .instanceMethod yX7_requireMade,
  .code yX7_requireMade cX7_requireMade 2 none,
  .instanceMethod yX2_charsOf,
  .code yX2_charsOf cX2_charsOf 2 (some .int),
  .methodLink RL 196 yL_charAt,
  .static yL_charAt,
  .methodLink RL 91 yX7_charAt,
  .instanceMethod yX7_charAt,
  .selects RX7 yX7_charAt yX7_charAt,
  .code yX7_charAt cX7_charAt 3 (some .char),
  .instanceMethod yX2_signOf,
  .code yX2_signOf cX2_signOf 4 (some .char),
  .methodLink RL 199 yL_charAnew,
  .static yL_charAnew,
  .methodLink RL 95 yX7_charAnew,
  .instanceMethod yX7_charAnew,
  .selects RX7 yX7_charAnew yX7_charAnew,
  .code yX7_charAnew cX7_charAnew 3 (some .char),
  .instanceMethod yX2_actsOf]
def TBc16 : List Cond := [.code yX2_actsOf cX2_actsOf 2 (some .long),
  .methodLink RL 101 yX8_init,
  .instanceMethod yX8_init,
  .code yX8_init cX8_init 2 none,
  .methodLink RX8 1 objectInit,
  .fieldLink RX8 97 "SketchlockModel" "spelled" "I",
  .fieldLink RX8 7 "SketchlockModel" "letter" "[I",
  .fieldLink RX8 88 "SketchlockModel" "shapes" "I",
  .fieldLink RX8 13 "SketchlockModel" "isLabel" "[Z",
  .fieldLink RX8 17 "SketchlockModel" "isTurned" "[Z",
  .fieldLink RX8 20 "SketchlockModel" "length" "[I",
  .fieldLink RX8 23 "SketchlockModel" "text" "[I",
  .fieldLink RX8 91 "SketchlockModel" "rules" "I",
  .fieldLink RX8 26 "SketchlockModel" "kind" "[I",
  .fieldLink RX8 29 "SketchlockModel" "from" "[I",
  .fieldLink RX8 32 "SketchlockModel" "to" "[I",
  .fieldLink RX8 35 "SketchlockModel" "laidBy" "[I",
  .fieldLink RX8 94 "SketchlockModel" "acts" "I",
  .fieldLink RX8 38 "SketchlockModel" "drawer" "[I",
  .fieldLink RX8 41 "SketchlockModel" "above" "[I",
  .fieldLink RX8 44 "SketchlockModel" "what" "[I",
  .fieldLink RX8 47 "SketchlockModel" "whom" "[I",
  .fieldLink RX8 50 "SketchlockModel" "numbers" "[I",
  .fieldLink RX8 53 "SketchlockModel" "isOff" "[Z",
  .fieldLink RX8 56 "SketchlockModel" "stands" "[I",
  .fieldLink RX8 142 "SketchlockModel" "there" "I",
  .fieldLink RX8 59 "SketchlockModel" "board" "[I",
  .fieldLink RX8 145 "SketchlockModel" "inForce" "I",
  .fieldLink RX8 62 "SketchlockModel" "tieX" "[I",
  .fieldLink RX8 65 "SketchlockModel" "tieY" "[I"]
def TBc17 : List Cond := [.fieldLink RX8 139 "SketchlockModel" "tryThere" "I",
  .fieldLink RX8 68 "SketchlockModel" "tried" "[I",
  .fieldLink RX8 115 "SketchlockModel" "tryForce" "I",
  .fieldLink RX8 111 "SketchlockModel" "fails" "Z",
  .fieldLink RX8 215 "SketchlockModel" "exports" "I",
  .fieldLink RX8 218 "SketchlockModel" "made" "I",
  .fieldLink RX8 71 "SketchlockModel" "shownThere" "[I",
  .fieldLink RX8 74 "SketchlockModel" "shown" "[I",
  .fieldLink RX8 77 "SketchlockModel" "shownForce" "[I",
  .fieldLink RX8 221 "SketchlockModel" "want" "I",
  .fieldLink RX8 224 "SketchlockModel" "got" "I",
  .fieldLink RX8 80 "SketchlockModel" "thrown" "I",
  .lays "SketchlockModel" "SketchlockModel" "spelled" "I",
  .laysFinal "SketchlockModel" "SketchlockModel" "letter" "[I",
  .lays "SketchlockModel" "SketchlockModel" "shapes" "I",
  .laysFinal "SketchlockModel" "SketchlockModel" "isLabel" "[Z",
  .laysFinal "SketchlockModel" "SketchlockModel" "isTurned" "[Z",
  .laysFinal "SketchlockModel" "SketchlockModel" "length" "[I",
  .laysFinal "SketchlockModel" "SketchlockModel" "text" "[I",
  .lays "SketchlockModel" "SketchlockModel" "rules" "I",
  .laysFinal "SketchlockModel" "SketchlockModel" "kind" "[I",
  .laysFinal "SketchlockModel" "SketchlockModel" "from" "[I",
  .laysFinal "SketchlockModel" "SketchlockModel" "to" "[I",
  .laysFinal "SketchlockModel" "SketchlockModel" "laidBy" "[I",
  .lays "SketchlockModel" "SketchlockModel" "acts" "I",
  .laysFinal "SketchlockModel" "SketchlockModel" "drawer" "[I",
  .laysFinal "SketchlockModel" "SketchlockModel" "above" "[I",
  .laysFinal "SketchlockModel" "SketchlockModel" "what" "[I",
  .laysFinal "SketchlockModel" "SketchlockModel" "whom" "[I",
  .laysFinal "SketchlockModel" "SketchlockModel" "numbers" "[I"]
def TBc18 : List Cond := [.laysFinal "SketchlockModel" "SketchlockModel" "isOff" "[Z",
  .laysFinal "SketchlockModel" "SketchlockModel" "stands" "[I",
  .lays "SketchlockModel" "SketchlockModel" "there" "I",
  .laysFinal "SketchlockModel" "SketchlockModel" "board" "[I",
  .lays "SketchlockModel" "SketchlockModel" "inForce" "I",
  .laysFinal "SketchlockModel" "SketchlockModel" "tieX" "[I",
  .laysFinal "SketchlockModel" "SketchlockModel" "tieY" "[I",
  .lays "SketchlockModel" "SketchlockModel" "tryThere" "I",
  .laysFinal "SketchlockModel" "SketchlockModel" "tried" "[I",
  .lays "SketchlockModel" "SketchlockModel" "tryForce" "I",
  .lays "SketchlockModel" "SketchlockModel" "fails" "Z",
  .lays "SketchlockModel" "SketchlockModel" "exports" "I",
  .lays "SketchlockModel" "SketchlockModel" "made" "I",
  .laysFinal "SketchlockModel" "SketchlockModel" "shownThere" "[I",
  .laysFinal "SketchlockModel" "SketchlockModel" "shown" "[I",
  .laysFinal "SketchlockModel" "SketchlockModel" "shownForce" "[I",
  .lays "SketchlockModel" "SketchlockModel" "want" "I",
  .lays "SketchlockModel" "SketchlockModel" "got" "I",
  .lays "SketchlockModel" "SketchlockModel" "thrown" "I",
  .arrayClass .boolean,
  .methodLink RL 108 yX8_thrown,
  .instanceMethod yX8_thrown,
  .selects RX8 yX8_thrown yX8_thrown,
  .code yX8_thrown cX8_thrown 1 (some .int),
  .methodLink RL 107 yX8_spell,
  .instanceMethod yX8_spell,
  .selects RX8 yX8_spell yX8_spell,
  .code yX8_spell cX8_spell 4 (some .int),
  .methodLink RX8 84 yX8_isIn,
  .static yX8_isIn]
def TBc19 : List Cond := [.code yX8_isIn cX8_isIn 3 (some .boolean),
  .methodLink RX8 100 yX8_can,
  .instanceMethod yX8_can,
  .code yX8_can cX8_can 2 (some .boolean),
  .methodLink RL 114 yX8_clearSpelled,
  .instanceMethod yX8_clearSpelled,
  .selects RX8 yX8_clearSpelled yX8_clearSpelled,
  .code yX8_clearSpelled cX8_clearSpelled 2 (some .int),
  .methodLink RL 118 yX8_addBox,
  .instanceMethod yX8_addBox,
  .selects RX8 yX8_addBox yX8_addBox,
  .code yX8_addBox cX8_addBox 7 (some .int),
  .methodLink RX8 173 yX8_isPlace,
  .static yX8_isPlace,
  .code yX8_isPlace cX8_isPlace 2 (some .boolean),
  .methodLink RX8 176 yX8_isSize,
  .static yX8_isSize,
  .code yX8_isSize cX8_isSize 2 (some .boolean),
  .methodLink RX8 179 yX8_isDrawer,
  .static yX8_isDrawer,
  .code yX8_isDrawer cX8_isDrawer 1 (some .boolean),
  .methodLink RX8 182 yX8_adds,
  .instanceMethod yX8_adds,
  .code yX8_adds cX8_adds 6 (some .int),
  .methodLink RX8 166 yX8_writes,
  .instanceMethod yX8_writes,
  .code yX8_writes cX8_writes 8 none,
  .methodLink RX8 159 yX8_tries,
  .instanceMethod yX8_tries,
  .code yX8_tries cX8_tries 6 (some .boolean)]
def TBc20 : List Cond := [.methodLink RX8 104 yX8_has,
  .static yX8_has,
  .code yX8_has cX8_has 2 (some .boolean),
  .methodLink RX8 148 yX8_lays,
  .instanceMethod yX8_lays,
  .code yX8_lays cX8_lays 8 none,
  .methodLink RX8 122 yX8_partOf,
  .instanceMethod yX8_partOf,
  .code yX8_partOf cX8_partOf 7 (some .int),
  .methodLink RX8 108 yX8_joins,
  .static yX8_joins,
  .code yX8_joins cX8_joins 2 (some .boolean),
  .methodLink RX8 130 yX8_sizes,
  .instanceMethod yX8_sizes,
  .code yX8_sizes cX8_sizes 6 (some .int),
  .methodLink RX8 133 yX8_settles,
  .instanceMethod yX8_settles,
  .code yX8_settles cX8_settles 8 none,
  .methodLink RX8 126 yX8_settlesPart,
  .instanceMethod yX8_settlesPart,
  .code yX8_settlesPart cX8_settlesPart 10 none,
  .methodLink RX8 118 yX8_stepOf,
  .instanceMethod yX8_stepOf,
  .code yX8_stepOf cX8_stepOf 3 (some .int),
  .methodLink RX8 136 yX8_shifts,
  .instanceMethod yX8_shifts,
  .code yX8_shifts cX8_shifts 5 none,
  .methodLink RX8 152 yX8_isInRange,
  .instanceMethod yX8_isInRange,
  .code yX8_isInRange cX8_isInRange 3 (some .boolean)]
def TBc21 : List Cond := [.methodLink RX8 170 yX8_makes,
  .instanceMethod yX8_makes,
  .code yX8_makes cX8_makes 2 (some .int),
  .methodLink RX8 162 yX8_takes,
  .instanceMethod yX8_takes,
  .code yX8_takes cX8_takes 5 (some .int),
  .methodLink RL 122 yX8_addLabel,
  .instanceMethod yX8_addLabel,
  .selects RX8 yX8_addLabel yX8_addLabel,
  .code yX8_addLabel cX8_addLabel 6 (some .int),
  .methodLink RL 126 yX8_move,
  .instanceMethod yX8_move,
  .selects RX8 yX8_move yX8_move,
  .code yX8_move cX8_move 5 (some .int),
  .methodLink RX8 192 yX8_changes,
  .instanceMethod yX8_changes,
  .code yX8_changes cX8_changes 9 (some .int),
  .methodLink RX8 186 yX8_isShape,
  .instanceMethod yX8_isShape,
  .code yX8_isShape cX8_isShape 2 (some .boolean),
  .methodLink RX8 189 yX8_canMake,
  .instanceMethod yX8_canMake,
  .code yX8_canMake cX8_canMake 1 (some .boolean),
  .methodLink RL 129 yX8_resize,
  .instanceMethod yX8_resize,
  .selects RX8 yX8_resize yX8_resize,
  .code yX8_resize cX8_resize 5 (some .int),
  .methodLink RL 132 yX8_lay,
  .instanceMethod yX8_lay,
  .selects RX8 yX8_lay yX8_lay]
def TBc22 : List Cond := [.code yX8_lay cX8_lay 8 (some .int),
  .methodLink RL 136 yX8_drop,
  .instanceMethod yX8_drop,
  .selects RX8 yX8_drop yX8_drop,
  .code yX8_drop cX8_drop 5 (some .int),
  .methodLink RX8 196 yX8_isRule,
  .instanceMethod yX8_isRule,
  .code yX8_isRule cX8_isRule 2 (some .boolean),
  .methodLink RX8 199 yX8_size,
  .static yX8_size,
  .code yX8_size cX8_size 3 (some .int),
  .methodLink RL 139 yX8_back,
  .instanceMethod yX8_back,
  .selects RX8 yX8_back yX8_back,
  .code yX8_back cX8_back 2 (some .int),
  .methodLink RX8 203 yX8_doesAnew,
  .instanceMethod yX8_doesAnew,
  .code yX8_doesAnew cX8_doesAnew 3 (some .int),
  .methodLink RX8 156 yX8_isOnWay,
  .instanceMethod yX8_isOnWay,
  .code yX8_isOnWay cX8_isOnWay 4 (some .boolean),
  .methodLink RL 142 yX8_on,
  .instanceMethod yX8_on,
  .selects RX8 yX8_on yX8_on,
  .code yX8_on cX8_on 4 (some .int),
  .methodLink RX8 206 yX8_branchOf,
  .instanceMethod yX8_branchOf,
  .code yX8_branchOf cX8_branchOf 6 (some .int),
  .methodLink RL 145 yX8_branches,
  .instanceMethod yX8_branches]
def TBc23 : List Cond := [.selects RX8 yX8_branches yX8_branches,
  .code yX8_branches cX8_branches 4 (some .int),
  .methodLink RL 148 yX8_below,
  .instanceMethod yX8_below,
  .selects RX8 yX8_below yX8_below,
  .code yX8_below cX8_below 6 (some .int),
  .methodLink RL 151 yX8_standsAt,
  .instanceMethod yX8_standsAt,
  .selects RX8 yX8_standsAt yX8_standsAt,
  .code yX8_standsAt cX8_standsAt 2 (some .int),
  .methodLink RL 155 yX8_acts,
  .instanceMethod yX8_acts,
  .selects RX8 yX8_acts yX8_acts,
  .code yX8_acts cX8_acts 1 (some .int),
  .methodLink RL 158 yX8_counts,
  .instanceMethod yX8_counts,
  .selects RX8 yX8_counts yX8_counts,
  .code yX8_counts cX8_counts 2 (some .boolean),
  .methodLink RX8 209 yX8_isAct,
  .instanceMethod yX8_isAct,
  .code yX8_isAct cX8_isAct 2 (some .boolean),
  .methodLink RL 161 yX8_isVoid,
  .instanceMethod yX8_isVoid,
  .selects RX8 yX8_isVoid yX8_isVoid,
  .code yX8_isVoid cX8_isVoid 2 (some .boolean),
  .methodLink RL 164 yX8_isThere,
  .instanceMethod yX8_isThere,
  .selects RX8 yX8_isThere yX8_isThere,
  .code yX8_isThere cX8_isThere 2 (some .boolean),
  .methodLink RL 167 yX8_number]
def TBc24 : List Cond := [.instanceMethod yX8_number,
  .selects RX8 yX8_number yX8_number,
  .code yX8_number cX8_number 3 (some .int),
  .methodLink RX8 212 yX8_numberOf,
  .instanceMethod yX8_numberOf,
  .code yX8_numberOf cX8_numberOf 4 (some .int),
  .methodLink RL 170 yX8_numberAnew,
  .instanceMethod yX8_numberAnew,
  .selects RX8 yX8_numberAnew yX8_numberAnew,
  .code yX8_numberAnew cX8_numberAnew 3 (some .int),
  .methodLink RL 173 yX8_isInForce,
  .instanceMethod yX8_isInForce,
  .selects RX8 yX8_isInForce yX8_isInForce,
  .code yX8_isInForce cX8_isInForce 2 (some .boolean),
  .methodLink RL 176 yX8_holds,
  .instanceMethod yX8_holds,
  .selects RX8 yX8_holds yX8_holds,
  .code yX8_holds cX8_holds 8 (some .boolean),
  .methodLink RL 180 yX8_broken,
  .instanceMethod yX8_broken,
  .selects RX8 yX8_broken yX8_broken,
  .code yX8_broken cX8_broken 3 (some .int),
  .methodLink RL 184 yX8_part,
  .instanceMethod yX8_part,
  .selects RX8 yX8_part yX8_part,
  .code yX8_part cX8_part 4 (some .int),
  .methodLink RL 188 yX8_ask,
  .instanceMethod yX8_ask,
  .selects RX8 yX8_ask yX8_ask,
  .code yX8_ask cX8_ask 2 (some .int)]
def TBc25 : List Cond := [.methodLink RL 192 yX8_make,
  .instanceMethod yX8_make,
  .selects RX8 yX8_make yX8_make,
  .code yX8_make cX8_make 1 (some .int),
  .methodLink RL 195 yX8_length,
  .instanceMethod yX8_length,
  .selects RX8 yX8_length yX8_length,
  .code yX8_length cX8_length 2 (some .int),
  .methodLink RX8 238 yX8_isExport,
  .instanceMethod yX8_isExport,
  .code yX8_isExport cX8_isExport 2 (some .boolean),
  .methodLink RX8 241 yX8_goesThrough,
  .instanceMethod yX8_goesThrough,
  .code yX8_goesThrough cX8_goesThrough 5 (some .int),
  .methodLink RX8 227 yX8_sign,
  .instanceMethod yX8_sign,
  .code yX8_sign cX8_sign 2 none,
  .methodLink RX8 232 yX8_signs,
  .instanceMethod yX8_signs,
  .code yX8_signs cX8_signs 4 none,
  .methodLink RX8 235 yX8_tells,
  .instanceMethod yX8_tells,
  .code yX8_tells cX8_tells 4 none,
  .constant RX8 230 (55357),
  .constant RX8 231 (56528),
  .methodLink RL 198 yX8_charAt,
  .instanceMethod yX8_charAt,
  .selects RX8 yX8_charAt yX8_charAt,
  .code yX8_charAt cX8_charAt 3 (some .char),
  .methodLink RX8 244 yX8_charOf]
def TBc26 : List Cond := [.instanceMethod yX8_charOf,
  .code yX8_charOf cX8_charOf 4 (some .char),
  .methodLink RL 201 yX8_charAnew,
  .instanceMethod yX8_charAnew,
  .selects RX8 yX8_charAnew yX8_charAnew,
  .code yX8_charAnew cX8_charAnew 3 (some .char),
  .selects RX6 yX6_deedOf yX6_deedOf,
  .selects RX7 yX7_requireDrawer yX7_requireDrawer,
  .selects RX7 yX7_requirePlace yX7_requirePlace,
  .selects RX7 yX7_requireSize yX7_requireSize,
  .selects RX6 yX6_draft yX6_draft,
  .selects RX5 yX5_draft yX5_draft,
  .selects RX7 yX7_doDraft yX7_doDraft,
  .selects RX3 yX3_tryAct yX3_tryAct,
  .selects RX6 yX6_subjectOf yX6_subjectOf,
  .selects RX6 yX6_wantedBy yX6_wantedBy,
  .selects RX0 yX0_copyFrom yX0_copyFrom,
  .selects RX0 yX0_addShape yX0_addShape,
  .selects RX0 yX0_set yX0_set,
  .selects RX0 yX0_moveTo yX0_moveTo,
  .selects RX0 yX0_groupOf yX0_groupOf,
  .selects RX0 yX0_isLink yX0_isLink,
  .selects RX0 yX0_numberOf yX0_numberOf,
  .selects RX0 yX0_shiftGroup yX0_shiftGroup,
  .selects RX5 yX5_lettersOf yX5_lettersOf,
  .selects RX0 yX0_resizeTo yX0_resizeTo,
  .selects RX0 yX0_growClass yX0_growClass,
  .selects RX0 yX0_tellInRounds yX0_tellInRounds,
  .selects RX0 yX0_gapOf yX0_gapOf,
  .selects RX0 yX0_tellByWalk yX0_tellByWalk]
def TBc27 : List Cond := [.selects RX0 yX0_areInRange yX0_areInRange,
  .selects RX0 yX0_layRule yX0_layRule,
  .selects RX0 yX0_dropRule yX0_dropRule,
  .selects RX6 yX6_hang yX6_hang,
  .selects RX6 yX6_standOf yX6_standOf,
  .selects RX7 yX7_requireShape yX7_requireShape,
  .selects RX3 yX3_changedShapes yX3_changedShapes,
  .selects RX0 yX0_differsAt yX0_differsAt,
  .selects RX4 yX4_draft yX4_draft,
  .selects RX7 yX7_requireRule yX7_requireRule,
  .selects RX6 yX6_aboveOf yX6_aboveOf,
  .selects RX6 yX6_stand yX6_stand,
  .selects RX6 yX6_counting yX6_counting,
  .selects RX3 yX3_redo yX3_redo,
  .selects RX0 yX0_clear yX0_clear,
  .selects RX6 yX6_branchOf yX6_branchOf,
  .selects RX6 yX6_isBranch yX6_isBranch,
  .selects RX6 yX6_countBranches yX6_countBranches,
  .selects RX6 yX6_countBelow yX6_countBelow,
  .selects RX7 yX7_requireAct yX7_requireAct,
  .selects RX7 yX7_requireWhat yX7_requireWhat,
  .selects RX7 yX7_requireOn yX7_requireOn,
  .selects RX0 yX0_fits yX0_fits,
  .selects RX1 yX1_show yX1_show,
  .selects RX1 yX1_showShape yX1_showShape,
  .selects RX1 yX1_write yX1_write,
  .selects RX1 yX1_writeNumber yX1_writeNumber,
  .selects RX5 yX5_shownLetter yX5_shownLetter,
  .selects RX1 yX1_writeLetter yX1_writeLetter,
  .selects RX2 yX2_keep yX2_keep]
def TBc28 : List Cond := [.selects RX1 yX1_signOf yX1_signOf,
  .selects RX7 yX7_requireMade yX7_requireMade,
  .selects RX2 yX2_charsOf yX2_charsOf,
  .selects RX2 yX2_signOf yX2_signOf,
  .selects RX2 yX2_actsOf yX2_actsOf,
  .selects RX8 yX8_can yX8_can,
  .selects RX8 yX8_adds yX8_adds,
  .selects RX8 yX8_writes yX8_writes,
  .selects RX8 yX8_tries yX8_tries,
  .selects RX8 yX8_lays yX8_lays,
  .selects RX8 yX8_partOf yX8_partOf,
  .selects RX8 yX8_sizes yX8_sizes,
  .selects RX8 yX8_settles yX8_settles,
  .selects RX8 yX8_settlesPart yX8_settlesPart,
  .selects RX8 yX8_stepOf yX8_stepOf,
  .selects RX8 yX8_shifts yX8_shifts,
  .selects RX8 yX8_isInRange yX8_isInRange,
  .selects RX8 yX8_makes yX8_makes,
  .selects RX8 yX8_takes yX8_takes,
  .selects RX8 yX8_changes yX8_changes,
  .selects RX8 yX8_isShape yX8_isShape,
  .selects RX8 yX8_canMake yX8_canMake,
  .selects RX8 yX8_isRule yX8_isRule,
  .selects RX8 yX8_doesAnew yX8_doesAnew,
  .selects RX8 yX8_isOnWay yX8_isOnWay,
  .selects RX8 yX8_branchOf yX8_branchOf,
  .selects RX8 yX8_isAct yX8_isAct,
  .selects RX8 yX8_numberOf yX8_numberOf,
  .selects RX8 yX8_isExport yX8_isExport,
  .selects RX8 yX8_goesThrough yX8_goesThrough]
def TBc29 : List Cond := [.selects RX8 yX8_sign yX8_sign,
  .selects RX8 yX8_signs yX8_signs,
  .selects RX8 yX8_tells yX8_tells,
  .selects RX8 yX8_charOf yX8_charOf]
def TBc30 : List Cond := [(Jvm.Cond.initialized "java/lang/Throwable"),
  (Jvm.Cond.initialized "java/lang/Exception"),
  (Jvm.Cond.initialized "java/lang/RuntimeException"),
  (Jvm.Cond.initialized "java/lang/IndexOutOfBoundsException"),
  (Jvm.Cond.initialized "java/lang/IllegalStateException"),
  (Jvm.Cond.initialized "java/lang/IllegalArgumentException"),
  (Jvm.Cond.initialized "java/lang/System"),
  (Jvm.Cond.initialized "java/lang/Integer"),
  (Jvm.Cond.initialized "java/lang/Long"),
  (Jvm.Cond.initialized "java/util/NoSuchElementException"),
  (Jvm.Cond.initialized "java/lang/Math"),
  (Jvm.Cond.classLink "SketchlockLaw" (8 : Nat) "Sketchlock"),
  (Jvm.Cond.instantiable "Sketchlock" (9 : Nat)),
  (Jvm.Cond.methodLink "Sketchlock" (1 : Nat) ({ cls := "java/lang/Object", name := "<init>", desc := "()V" } : Jvm.MethodName)),
  (Jvm.Cond.instanceMethod ({ cls := "java/lang/Object", name := "<init>", desc := "()V" } : Jvm.MethodName)),
  (Jvm.Cond.code ({ cls := "java/lang/Object", name := "<init>", desc := "()V" } : Jvm.MethodName) object_method_1_code (1 : Nat) (Option.none : Option Jvm.ClassFile.FieldType)),
  (Jvm.Cond.classLink "Sketchlock" (17 : Nat) "Sketchlock$Shapes"),
  (Jvm.Cond.instantiable "Sketchlock$Shapes" (4 : Nat)),
  (Jvm.Cond.methodLink "Sketchlock$Shapes" (3 : Nat) ({ cls := "java/lang/Object", name := "<init>", desc := "()V" } : Jvm.MethodName)),
  (Jvm.Cond.superclass "Sketchlock$Shapes" "java/lang/Object"),
  (Jvm.Cond.classLink "Sketchlock" (24 : Nat) "Sketchlock$Rules"),
  (Jvm.Cond.instantiable "Sketchlock$Rules" (4 : Nat)),
  (Jvm.Cond.methodLink "Sketchlock$Rules" (3 : Nat) ({ cls := "java/lang/Object", name := "<init>", desc := "()V" } : Jvm.MethodName)),
  (Jvm.Cond.superclass "Sketchlock$Rules" "java/lang/Object"),
  (Jvm.Cond.classLink "Sketchlock" (31 : Nat) "Sketchlock$Tree"),
  (Jvm.Cond.instantiable "Sketchlock$Tree" (7 : Nat)),
  (Jvm.Cond.methodLink "Sketchlock$Tree" (3 : Nat) ({ cls := "java/lang/Object", name := "<init>", desc := "()V" } : Jvm.MethodName)),
  (Jvm.Cond.superclass "Sketchlock$Tree" "java/lang/Object"),
  (Jvm.Cond.classLink "Sketchlock" (38 : Nat) "Sketchlock$Replay"),
  (Jvm.Cond.instantiable "Sketchlock$Replay" (4 : Nat)),
  (Jvm.Cond.methodLink "Sketchlock$Replay" (3 : Nat) ({ cls := "java/lang/Object", name := "<init>", desc := "()V" } : Jvm.MethodName)),
  (Jvm.Cond.classLink "Sketchlock$Replay" (19 : Nat) "Sketchlock$Board"),
  (Jvm.Cond.instantiable "Sketchlock$Board" (7 : Nat)),
  (Jvm.Cond.methodLink "Sketchlock$Board" (3 : Nat) ({ cls := "java/lang/Object", name := "<init>", desc := "()V" } : Jvm.MethodName)),
  (Jvm.Cond.superclass "Sketchlock$Board" "java/lang/Object"),
  (Jvm.Cond.superclass "Sketchlock$Replay" "java/lang/Object"),
  (Jvm.Cond.classLink "Sketchlock" (50 : Nat) "Sketchlock$Exports"),
  (Jvm.Cond.instantiable "Sketchlock$Exports" (5 : Nat)),
  (Jvm.Cond.methodLink "Sketchlock$Exports" (3 : Nat) ({ cls := "java/lang/Object", name := "<init>", desc := "()V" } : Jvm.MethodName)),
  (Jvm.Cond.superclass "Sketchlock$Exports" "java/lang/Object"),
  (Jvm.Cond.classLink "Sketchlock" (57 : Nat) "Sketchlock$ExportText"),
  (Jvm.Cond.instantiable "Sketchlock$ExportText" (2 : Nat)),
  (Jvm.Cond.methodLink "Sketchlock$ExportText" (3 : Nat) ({ cls := "java/lang/Object", name := "<init>", desc := "()V" } : Jvm.MethodName)),
  (Jvm.Cond.superclass "Sketchlock$ExportText" "java/lang/Object"),
  (Jvm.Cond.superclass "Sketchlock" "java/lang/Object"),
  (Jvm.Cond.codeWith ({ cls := "SketchlockLaw", name := "spell", desc := "(LSketchlock;I[J)I" } : Jvm.MethodName) method_3_code (4 : Nat) (Option.some Jvm.ClassFile.FieldType.int) [((0 : Nat), (9 : Nat), (12 : Nat), (13 : Nat)), ((0 : Nat), (9 : Nat), (15 : Nat), (15 : Nat))]),
  (Jvm.Cond.classLink "SketchlockLaw" (13 : Nat) "java/lang/IndexOutOfBoundsException"),
  (Jvm.Cond.classLink "SketchlockLaw" (15 : Nat) "java/lang/IllegalStateException"),
  (Jvm.Cond.classLink "Sketchlock" (64 : Nat) "java/lang/IndexOutOfBoundsException"),
  (Jvm.Cond.instantiable "java/lang/IndexOutOfBoundsException" (6 : Nat)),
  (Jvm.Cond.selects "java/lang/IndexOutOfBoundsException" ({ cls := "java/lang/Throwable", name := "fillInStackTrace", desc := "(I)Ljava/lang/Throwable;" } : Jvm.MethodName) ({ cls := "java/lang/Throwable", name := "fillInStackTrace", desc := "(I)Ljava/lang/Throwable;" } : Jvm.MethodName)),
  (Jvm.Cond.selects "java/lang/IndexOutOfBoundsException" ({ cls := "java/lang/Throwable", name := "fillInStackTrace", desc := "()Ljava/lang/Throwable;" } : Jvm.MethodName) ({ cls := "java/lang/Throwable", name := "fillInStackTrace", desc := "()Ljava/lang/Throwable;" } : Jvm.MethodName)),
  (Jvm.Cond.lays "java/lang/IndexOutOfBoundsException" "java/lang/Throwable" "cause" "Ljava/lang/Throwable;"),
  (Jvm.Cond.lays "java/lang/Throwable" "java/lang/Throwable" "cause" "Ljava/lang/Throwable;"),
  (Jvm.Cond.lays "java/lang/IndexOutOfBoundsException" "java/lang/Throwable" "stackTrace" "[Ljava/lang/StackTraceElement;"),
  (Jvm.Cond.lays "java/lang/Throwable" "java/lang/Throwable" "stackTrace" "[Ljava/lang/StackTraceElement;"),
  (Jvm.Cond.lays "java/lang/IndexOutOfBoundsException" "java/lang/Throwable" "suppressedExceptions" "Ljava/util/List;"),
  (Jvm.Cond.lays "java/lang/Throwable" "java/lang/Throwable" "suppressedExceptions" "Ljava/util/List;"),
  (Jvm.Cond.lays "java/lang/IndexOutOfBoundsException" "java/lang/Throwable" "detailMessage" "Ljava/lang/String;"),
  (Jvm.Cond.lays "java/lang/Throwable" "java/lang/Throwable" "detailMessage" "Ljava/lang/String;"),
  (Jvm.Cond.lays "java/lang/IndexOutOfBoundsException" "java/lang/Throwable" "backtrace" "Ljava/lang/Object;"),
  (Jvm.Cond.lays "java/lang/Throwable" "java/lang/Throwable" "backtrace" "Ljava/lang/Object;"),
  (Jvm.Cond.fieldLink "java/lang/Throwable" (198 : Nat) "java/lang/Throwable" "backtrace" "Ljava/lang/Object;"),
  (Jvm.Cond.superclass "java/lang/Throwable" "java/lang/Object"),
  (Jvm.Cond.instanceMethod ({ cls := "java/lang/Throwable", name := "<init>", desc := "()V" } : Jvm.MethodName)),
  (Jvm.Cond.code ({ cls := "java/lang/Throwable", name := "<init>", desc := "()V" } : Jvm.MethodName) prog_22_method_1_code (1 : Nat) (Option.none : Option Jvm.ClassFile.FieldType)),
  (Jvm.Cond.methodLink "java/lang/Throwable" (1 : Nat) ({ cls := "java/lang/Object", name := "<init>", desc := "()V" } : Jvm.MethodName)),
  (Jvm.Cond.fieldLink "java/lang/Throwable" (13 : Nat) "java/lang/Throwable" "UNASSIGNED_STACK" "[Ljava/lang/StackTraceElement;"),
  (Jvm.Cond.fieldLink "java/lang/Throwable" (20 : Nat) "java/lang/Throwable" "SUPPRESSED_SENTINEL" "Ljava/util/List;"),
  (Jvm.Cond.methodLink "java/lang/Throwable" (27 : Nat) ({ cls := "java/lang/Throwable", name := "fillInStackTrace", desc := "()Ljava/lang/Throwable;" } : Jvm.MethodName)),
  (Jvm.Cond.instanceMethod ({ cls := "java/lang/Throwable", name := "fillInStackTrace", desc := "()Ljava/lang/Throwable;" } : Jvm.MethodName)),
  (Jvm.Cond.sameMethod "java/lang/Throwable" "java/lang/Throwable" "fillInStackTrace" "()Ljava/lang/Throwable;"),
  (Jvm.Cond.selects "java/lang/IllegalArgumentException" ({ cls := "java/lang/Throwable", name := "fillInStackTrace", desc := "()Ljava/lang/Throwable;" } : Jvm.MethodName) ({ cls := "java/lang/Throwable", name := "fillInStackTrace", desc := "()Ljava/lang/Throwable;" } : Jvm.MethodName)),
  (Jvm.Cond.selects "java/lang/IllegalStateException" ({ cls := "java/lang/Throwable", name := "fillInStackTrace", desc := "()Ljava/lang/Throwable;" } : Jvm.MethodName) ({ cls := "java/lang/Throwable", name := "fillInStackTrace", desc := "()Ljava/lang/Throwable;" } : Jvm.MethodName)),
  (Jvm.Cond.selects "java/util/NoSuchElementException" ({ cls := "java/lang/Throwable", name := "fillInStackTrace", desc := "()Ljava/lang/Throwable;" } : Jvm.MethodName) ({ cls := "java/lang/Throwable", name := "fillInStackTrace", desc := "()Ljava/lang/Throwable;" } : Jvm.MethodName)),
  (Jvm.Cond.codeSync ({ cls := "java/lang/Throwable", name := "fillInStackTrace", desc := "()Ljava/lang/Throwable;" } : Jvm.MethodName) prog_22_method_18_code (1 : Nat) (Option.some (Jvm.ClassFile.FieldType.object "java/lang/Throwable"))),
  (Jvm.Cond.methodLink "java/lang/Throwable" (202 : Nat) ({ cls := "java/lang/Throwable", name := "fillInStackTrace", desc := "(I)Ljava/lang/Throwable;" } : Jvm.MethodName)),
  (Jvm.Cond.instanceMethod ({ cls := "java/lang/Throwable", name := "fillInStackTrace", desc := "(I)Ljava/lang/Throwable;" } : Jvm.MethodName)),
  (Jvm.Cond.instantiable "java/lang/Throwable" (6 : Nat)),
  (Jvm.Cond.native ({ cls := "java/lang/Throwable", name := "fillInStackTrace", desc := "(I)Ljava/lang/Throwable;" } : Jvm.MethodName)),
  (Jvm.Cond.methodLink "Sketchlock" (68 : Nat) ({ cls := "java/lang/IndexOutOfBoundsException", name := "<init>", desc := "(Ljava/lang/String;)V" } : Jvm.MethodName)),
  (Jvm.Cond.instanceMethod ({ cls := "java/lang/IndexOutOfBoundsException", name := "<init>", desc := "(Ljava/lang/String;)V" } : Jvm.MethodName)),
  (Jvm.Cond.code ({ cls := "java/lang/IndexOutOfBoundsException", name := "<init>", desc := "(Ljava/lang/String;)V" } : Jvm.MethodName) prog_15_method_2_code (2 : Nat) (Option.none : Option Jvm.ClassFile.FieldType)),
  (Jvm.Cond.methodLink "java/lang/IndexOutOfBoundsException" (7 : Nat) ({ cls := "java/lang/RuntimeException", name := "<init>", desc := "(Ljava/lang/String;)V" } : Jvm.MethodName)),
  (Jvm.Cond.instanceMethod ({ cls := "java/lang/RuntimeException", name := "<init>", desc := "(Ljava/lang/String;)V" } : Jvm.MethodName)),
  (Jvm.Cond.code ({ cls := "java/lang/RuntimeException", name := "<init>", desc := "(Ljava/lang/String;)V" } : Jvm.MethodName) prog_19_method_2_code (2 : Nat) (Option.none : Option Jvm.ClassFile.FieldType)),
  (Jvm.Cond.methodLink "java/lang/RuntimeException" (7 : Nat) ({ cls := "java/lang/Exception", name := "<init>", desc := "(Ljava/lang/String;)V" } : Jvm.MethodName)),
  (Jvm.Cond.instanceMethod ({ cls := "java/lang/Exception", name := "<init>", desc := "(Ljava/lang/String;)V" } : Jvm.MethodName)),
  (Jvm.Cond.code ({ cls := "java/lang/Exception", name := "<init>", desc := "(Ljava/lang/String;)V" } : Jvm.MethodName) prog_12_method_2_code (2 : Nat) (Option.none : Option Jvm.ClassFile.FieldType)),
  (Jvm.Cond.methodLink "java/lang/Exception" (7 : Nat) ({ cls := "java/lang/Throwable", name := "<init>", desc := "(Ljava/lang/String;)V" } : Jvm.MethodName)),
  (Jvm.Cond.instanceMethod ({ cls := "java/lang/Throwable", name := "<init>", desc := "(Ljava/lang/String;)V" } : Jvm.MethodName)),
  (Jvm.Cond.code ({ cls := "java/lang/Throwable", name := "<init>", desc := "(Ljava/lang/String;)V" } : Jvm.MethodName) prog_22_method_2_code (2 : Nat) (Option.none : Option Jvm.ClassFile.FieldType)),
  (Jvm.Cond.fieldLink "java/lang/Throwable" (198 : Nat) "java/lang/Throwable" "backtrace" "Ljava/lang/Object;"),
  (Jvm.Cond.fieldLink "java/lang/Throwable" (31 : Nat) "java/lang/Throwable" "detailMessage" "Ljava/lang/String;"),
  (Jvm.Cond.fieldLink "java/lang/Throwable" (7 : Nat) "java/lang/Throwable" "cause" "Ljava/lang/Throwable;"),
  (Jvm.Cond.fieldLink "java/lang/Throwable" (17 : Nat) "java/lang/Throwable" "stackTrace" "[Ljava/lang/StackTraceElement;"),
  (Jvm.Cond.fieldLink "java/lang/Throwable" (24 : Nat) "java/lang/Throwable" "suppressedExceptions" "Ljava/util/List;"),
  (Jvm.Cond.lays "java/lang/IndexOutOfBoundsException" "java/lang/Throwable" "depth" "I"),
  (Jvm.Cond.superclass "java/lang/IndexOutOfBoundsException" "java/lang/RuntimeException"),
  (Jvm.Cond.classLink "Sketchlock" (71 : Nat) "java/lang/IllegalStateException"),
  (Jvm.Cond.instantiable "java/lang/IllegalStateException" (6 : Nat)),
  (Jvm.Cond.selects "java/lang/IllegalStateException" ({ cls := "java/lang/Throwable", name := "fillInStackTrace", desc := "(I)Ljava/lang/Throwable;" } : Jvm.MethodName) ({ cls := "java/lang/Throwable", name := "fillInStackTrace", desc := "(I)Ljava/lang/Throwable;" } : Jvm.MethodName)),
  (Jvm.Cond.lays "java/lang/IllegalStateException" "java/lang/Throwable" "cause" "Ljava/lang/Throwable;"),
  (Jvm.Cond.lays "java/lang/IllegalStateException" "java/lang/Throwable" "stackTrace" "[Ljava/lang/StackTraceElement;"),
  (Jvm.Cond.lays "java/lang/IllegalStateException" "java/lang/Throwable" "suppressedExceptions" "Ljava/util/List;"),
  (Jvm.Cond.lays "java/lang/IllegalStateException" "java/lang/Throwable" "detailMessage" "Ljava/lang/String;"),
  (Jvm.Cond.lays "java/lang/IllegalStateException" "java/lang/Throwable" "backtrace" "Ljava/lang/Object;"),
  (Jvm.Cond.methodLink "Sketchlock" (75 : Nat) ({ cls := "java/lang/IllegalStateException", name := "<init>", desc := "(Ljava/lang/String;)V" } : Jvm.MethodName)),
  (Jvm.Cond.instanceMethod ({ cls := "java/lang/IllegalStateException", name := "<init>", desc := "(Ljava/lang/String;)V" } : Jvm.MethodName)),
  (Jvm.Cond.code ({ cls := "java/lang/IllegalStateException", name := "<init>", desc := "(Ljava/lang/String;)V" } : Jvm.MethodName) prog_14_method_2_code (2 : Nat) (Option.none : Option Jvm.ClassFile.FieldType)),
  (Jvm.Cond.methodLink "java/lang/IllegalStateException" (7 : Nat) ({ cls := "java/lang/RuntimeException", name := "<init>", desc := "(Ljava/lang/String;)V" } : Jvm.MethodName)),
  (Jvm.Cond.lays "java/lang/IllegalStateException" "java/lang/Throwable" "depth" "I"),
  (Jvm.Cond.superclass "java/lang/IllegalStateException" "java/lang/RuntimeException"),
  (Jvm.Cond.codeWith ({ cls := "SketchlockLaw", name := "addBox", desc := "(LSketchlock;IIIII[J)I" } : Jvm.MethodName) method_4_code (8 : Nat) (Option.some Jvm.ClassFile.FieldType.int) [((0 : Nat), (16 : Nat), (19 : Nat), (13 : Nat)), ((0 : Nat), (16 : Nat), (23 : Nat), (21 : Nat)), ((0 : Nat), (16 : Nat), (27 : Nat), (15 : Nat))]),
  (Jvm.Cond.classLink "SketchlockLaw" (21 : Nat) "java/lang/IllegalArgumentException"),
  (Jvm.Cond.classLink "Sketchlock" (119 : Nat) "java/lang/IllegalArgumentException"),
  (Jvm.Cond.instantiable "java/lang/IllegalArgumentException" (6 : Nat)),
  (Jvm.Cond.selects "java/lang/IllegalArgumentException" ({ cls := "java/lang/Throwable", name := "fillInStackTrace", desc := "(I)Ljava/lang/Throwable;" } : Jvm.MethodName) ({ cls := "java/lang/Throwable", name := "fillInStackTrace", desc := "(I)Ljava/lang/Throwable;" } : Jvm.MethodName)),
  (Jvm.Cond.lays "java/lang/IllegalArgumentException" "java/lang/Throwable" "cause" "Ljava/lang/Throwable;"),
  (Jvm.Cond.lays "java/lang/IllegalArgumentException" "java/lang/Throwable" "stackTrace" "[Ljava/lang/StackTraceElement;"),
  (Jvm.Cond.lays "java/lang/IllegalArgumentException" "java/lang/Throwable" "suppressedExceptions" "Ljava/util/List;"),
  (Jvm.Cond.lays "java/lang/IllegalArgumentException" "java/lang/Throwable" "detailMessage" "Ljava/lang/String;"),
  (Jvm.Cond.lays "java/lang/IllegalArgumentException" "java/lang/Throwable" "backtrace" "Ljava/lang/Object;"),
  (Jvm.Cond.methodLink "Sketchlock" (123 : Nat) ({ cls := "java/lang/IllegalArgumentException", name := "<init>", desc := "(Ljava/lang/String;)V" } : Jvm.MethodName)),
  (Jvm.Cond.instanceMethod ({ cls := "java/lang/IllegalArgumentException", name := "<init>", desc := "(Ljava/lang/String;)V" } : Jvm.MethodName)),
  (Jvm.Cond.code ({ cls := "java/lang/IllegalArgumentException", name := "<init>", desc := "(Ljava/lang/String;)V" } : Jvm.MethodName) prog_13_method_2_code (2 : Nat) (Option.none : Option Jvm.ClassFile.FieldType)),
  (Jvm.Cond.methodLink "java/lang/IllegalArgumentException" (7 : Nat) ({ cls := "java/lang/RuntimeException", name := "<init>", desc := "(Ljava/lang/String;)V" } : Jvm.MethodName)),
  (Jvm.Cond.lays "java/lang/IllegalArgumentException" "java/lang/Throwable" "depth" "I"),
  (Jvm.Cond.superclass "java/lang/IllegalArgumentException" "java/lang/RuntimeException"),
  (Jvm.Cond.methodLink "Sketchlock$Board" (37 : Nat) ({ cls := "java/lang/System", name := "arraycopy", desc := "(Ljava/lang/Object;ILjava/lang/Object;II)V" } : Jvm.MethodName)),
  (Jvm.Cond.native ({ cls := "java/lang/System", name := "arraycopy", desc := "(Ljava/lang/Object;ILjava/lang/Object;II)V" } : Jvm.MethodName)),
  (Jvm.Cond.methodLink "Sketchlock$Board" (114 : Nat) ({ cls := "java/lang/Integer", name := "numberOfTrailingZeros", desc := "(I)I" } : Jvm.MethodName)),
  (Jvm.Cond.code ({ cls := "java/lang/Integer", name := "numberOfTrailingZeros", desc := "(I)I" } : Jvm.MethodName) prog_16_method_48_code (2 : Nat) (Option.some Jvm.ClassFile.FieldType.int)),
  (Jvm.Cond.codeWith ({ cls := "SketchlockLaw", name := "addLabel", desc := "(LSketchlock;IIIZ[J)I" } : Jvm.MethodName) method_5_code (7 : Nat) (Option.some Jvm.ClassFile.FieldType.int) [((0 : Nat), (14 : Nat), (17 : Nat), (13 : Nat)), ((0 : Nat), (14 : Nat), (21 : Nat), (21 : Nat)), ((0 : Nat), (14 : Nat), (25 : Nat), (15 : Nat))]),
  (Jvm.Cond.codeWith ({ cls := "SketchlockLaw", name := "move", desc := "(LSketchlock;IIII[J)I" } : Jvm.MethodName) method_6_code (7 : Nat) (Option.some Jvm.ClassFile.FieldType.int) [((0 : Nat), (14 : Nat), (17 : Nat), (13 : Nat)), ((0 : Nat), (14 : Nat), (21 : Nat), (21 : Nat)), ((0 : Nat), (14 : Nat), (25 : Nat), (15 : Nat))]),
  (Jvm.Cond.codeWith ({ cls := "SketchlockLaw", name := "resize", desc := "(LSketchlock;IIII[J)I" } : Jvm.MethodName) method_7_code (7 : Nat) (Option.some Jvm.ClassFile.FieldType.int) [((0 : Nat), (14 : Nat), (17 : Nat), (13 : Nat)), ((0 : Nat), (14 : Nat), (21 : Nat), (21 : Nat)), ((0 : Nat), (14 : Nat), (25 : Nat), (15 : Nat))]),
  (Jvm.Cond.codeWith ({ cls := "SketchlockLaw", name := "lay", desc := "(LSketchlock;IIII[J)I" } : Jvm.MethodName) method_8_code (7 : Nat) (Option.some Jvm.ClassFile.FieldType.int) [((0 : Nat), (14 : Nat), (17 : Nat), (13 : Nat)), ((0 : Nat), (14 : Nat), (21 : Nat), (21 : Nat)), ((0 : Nat), (14 : Nat), (25 : Nat), (15 : Nat))]),
  (Jvm.Cond.codeWith ({ cls := "SketchlockLaw", name := "drop", desc := "(LSketchlock;II[J)I" } : Jvm.MethodName) method_9_code (5 : Nat) (Option.some Jvm.ClassFile.FieldType.int) [((0 : Nat), (10 : Nat), (13 : Nat), (13 : Nat)), ((0 : Nat), (10 : Nat), (17 : Nat), (15 : Nat))]),
  (Jvm.Cond.methodLink "Sketchlock" (142 : Nat) ({ cls := "java/lang/Integer", name := "bitCount", desc := "(I)I" } : Jvm.MethodName)),
  (Jvm.Cond.code ({ cls := "java/lang/Integer", name := "bitCount", desc := "(I)I" } : Jvm.MethodName) prog_16_method_49_code (1 : Nat) (Option.some Jvm.ClassFile.FieldType.int)),
  (Jvm.Cond.codeWith ({ cls := "SketchlockLaw", name := "back", desc := "(LSketchlock;I[J)I" } : Jvm.MethodName) method_10_code (4 : Nat) (Option.some Jvm.ClassFile.FieldType.int) [((0 : Nat), (9 : Nat), (12 : Nat), (13 : Nat)), ((0 : Nat), (9 : Nat), (15 : Nat), (15 : Nat))]),
  (Jvm.Cond.methodLink "Sketchlock" (171 : Nat) ({ cls := "java/lang/Long", name := "bitCount", desc := "(J)I" } : Jvm.MethodName)),
  (Jvm.Cond.code ({ cls := "java/lang/Long", name := "bitCount", desc := "(J)I" } : Jvm.MethodName) prog_17_method_50_code (2 : Nat) (Option.some Jvm.ClassFile.FieldType.int)),
  (Jvm.Cond.codeWith ({ cls := "SketchlockLaw", name := "on", desc := "(LSketchlock;II[J)I" } : Jvm.MethodName) method_11_code (5 : Nat) (Option.some Jvm.ClassFile.FieldType.int) [((0 : Nat), (10 : Nat), (13 : Nat), (13 : Nat))]),
  (Jvm.Cond.codeWith ({ cls := "SketchlockLaw", name := "branches", desc := "(LSketchlock;I[J)I" } : Jvm.MethodName) method_12_code (4 : Nat) (Option.some Jvm.ClassFile.FieldType.int) [((0 : Nat), (9 : Nat), (12 : Nat), (13 : Nat))]),
  (Jvm.Cond.codeWith ({ cls := "SketchlockLaw", name := "below", desc := "(LSketchlock;I[J)I" } : Jvm.MethodName) method_13_code (4 : Nat) (Option.some Jvm.ClassFile.FieldType.int) [((0 : Nat), (9 : Nat), (12 : Nat), (13 : Nat))]),
  (Jvm.Cond.methodLink "Sketchlock$Tree" (57 : Nat) ({ cls := "java/lang/Long", name := "bitCount", desc := "(J)I" } : Jvm.MethodName)),
  (Jvm.Cond.codeWith ({ cls := "SketchlockLaw", name := "standsAt", desc := "(LSketchlock;I[J)I" } : Jvm.MethodName) method_14_code (4 : Nat) (Option.some Jvm.ClassFile.FieldType.int) [((0 : Nat), (9 : Nat), (12 : Nat), (13 : Nat))]),
  (Jvm.Cond.codeWith ({ cls := "SketchlockLaw", name := "counts", desc := "(LSketchlock;I[J)I" } : Jvm.MethodName) method_15_code (4 : Nat) (Option.some Jvm.ClassFile.FieldType.int) [((0 : Nat), (16 : Nat), (19 : Nat), (13 : Nat))]),
  (Jvm.Cond.codeWith ({ cls := "SketchlockLaw", name := "isVoid", desc := "(LSketchlock;I[J)I" } : Jvm.MethodName) method_16_code (4 : Nat) (Option.some Jvm.ClassFile.FieldType.int) [((0 : Nat), (16 : Nat), (19 : Nat), (13 : Nat))]),
  (Jvm.Cond.codeWith ({ cls := "SketchlockLaw", name := "isThere", desc := "(LSketchlock;I[J)I" } : Jvm.MethodName) method_17_code (4 : Nat) (Option.some Jvm.ClassFile.FieldType.int) [((0 : Nat), (16 : Nat), (19 : Nat), (13 : Nat))]),
  (Jvm.Cond.codeWith ({ cls := "SketchlockLaw", name := "number", desc := "(LSketchlock;II[J)I" } : Jvm.MethodName) method_18_code (5 : Nat) (Option.some Jvm.ClassFile.FieldType.int) [((0 : Nat), (10 : Nat), (13 : Nat), (13 : Nat)), ((0 : Nat), (10 : Nat), (17 : Nat), (21 : Nat)), ((0 : Nat), (10 : Nat), (21 : Nat), (69 : Nat))]),
  (Jvm.Cond.classLink "SketchlockLaw" (69 : Nat) "java/util/NoSuchElementException"),
  (Jvm.Cond.classLink "Sketchlock" (218 : Nat) "java/util/NoSuchElementException"),
  (Jvm.Cond.instantiable "java/util/NoSuchElementException" (6 : Nat)),
  (Jvm.Cond.selects "java/util/NoSuchElementException" ({ cls := "java/lang/Throwable", name := "fillInStackTrace", desc := "(I)Ljava/lang/Throwable;" } : Jvm.MethodName) ({ cls := "java/lang/Throwable", name := "fillInStackTrace", desc := "(I)Ljava/lang/Throwable;" } : Jvm.MethodName)),
  (Jvm.Cond.lays "java/util/NoSuchElementException" "java/lang/Throwable" "cause" "Ljava/lang/Throwable;"),
  (Jvm.Cond.lays "java/util/NoSuchElementException" "java/lang/Throwable" "stackTrace" "[Ljava/lang/StackTraceElement;"),
  (Jvm.Cond.lays "java/util/NoSuchElementException" "java/lang/Throwable" "suppressedExceptions" "Ljava/util/List;"),
  (Jvm.Cond.lays "java/util/NoSuchElementException" "java/lang/Throwable" "detailMessage" "Ljava/lang/String;"),
  (Jvm.Cond.lays "java/util/NoSuchElementException" "java/lang/Throwable" "backtrace" "Ljava/lang/Object;"),
  (Jvm.Cond.methodLink "Sketchlock" (222 : Nat) ({ cls := "java/util/NoSuchElementException", name := "<init>", desc := "(Ljava/lang/String;)V" } : Jvm.MethodName)),
  (Jvm.Cond.instanceMethod ({ cls := "java/util/NoSuchElementException", name := "<init>", desc := "(Ljava/lang/String;)V" } : Jvm.MethodName)),
  (Jvm.Cond.code ({ cls := "java/util/NoSuchElementException", name := "<init>", desc := "(Ljava/lang/String;)V" } : Jvm.MethodName) prog_23_method_4_code (2 : Nat) (Option.none : Option Jvm.ClassFile.FieldType)),
  (Jvm.Cond.methodLink "java/util/NoSuchElementException" (13 : Nat) ({ cls := "java/lang/RuntimeException", name := "<init>", desc := "(Ljava/lang/String;)V" } : Jvm.MethodName)),
  (Jvm.Cond.lays "java/util/NoSuchElementException" "java/lang/Throwable" "depth" "I"),
  (Jvm.Cond.superclass "java/util/NoSuchElementException" "java/lang/RuntimeException"),
  (Jvm.Cond.codeWith ({ cls := "SketchlockLaw", name := "numberAnew", desc := "(LSketchlock;II[J)I" } : Jvm.MethodName) method_19_code (5 : Nat) (Option.some Jvm.ClassFile.FieldType.int) [((0 : Nat), (10 : Nat), (13 : Nat), (13 : Nat)), ((0 : Nat), (10 : Nat), (17 : Nat), (21 : Nat)), ((0 : Nat), (10 : Nat), (21 : Nat), (69 : Nat))]),
  (Jvm.Cond.codeWith ({ cls := "SketchlockLaw", name := "isInForce", desc := "(LSketchlock;I[J)I" } : Jvm.MethodName) method_20_code (4 : Nat) (Option.some Jvm.ClassFile.FieldType.int) [((0 : Nat), (16 : Nat), (19 : Nat), (13 : Nat))]),
  (Jvm.Cond.codeWith ({ cls := "SketchlockLaw", name := "holds", desc := "(LSketchlock;I[J)I" } : Jvm.MethodName) method_21_code (4 : Nat) (Option.some Jvm.ClassFile.FieldType.int) [((0 : Nat), (16 : Nat), (19 : Nat), (13 : Nat)), ((0 : Nat), (16 : Nat), (22 : Nat), (69 : Nat))]),
  (Jvm.Cond.codeWith ({ cls := "SketchlockLaw", name := "part", desc := "(LSketchlock;IZ[J)I" } : Jvm.MethodName) method_22_code (5 : Nat) (Option.some Jvm.ClassFile.FieldType.int) [((0 : Nat), (10 : Nat), (13 : Nat), (13 : Nat)), ((0 : Nat), (10 : Nat), (17 : Nat), (69 : Nat))]),
  (Jvm.Cond.codeWith ({ cls := "SketchlockLaw", name := "ask", desc := "(LSketchlock;[J)I" } : Jvm.MethodName) method_23_code (3 : Nat) (Option.some Jvm.ClassFile.FieldType.int) [((0 : Nat), (8 : Nat), (11 : Nat), (15 : Nat))]),
  (Jvm.Cond.methodLink "Sketchlock$ExportText" (61 : Nat) ({ cls := "java/lang/Math", name := "abs", desc := "(I)I" } : Jvm.MethodName)),
  (Jvm.Cond.code ({ cls := "java/lang/Math", name := "abs", desc := "(I)I" } : Jvm.MethodName) prog_18_method_59_code (1 : Nat) (Option.some Jvm.ClassFile.FieldType.int)),
  (Jvm.Cond.codeWith ({ cls := "SketchlockLaw", name := "length", desc := "(LSketchlock;I[J)I" } : Jvm.MethodName) method_24_code (4 : Nat) (Option.some Jvm.ClassFile.FieldType.int) [((0 : Nat), (9 : Nat), (12 : Nat), (13 : Nat)), ((0 : Nat), (9 : Nat), (15 : Nat), (69 : Nat))]),
  (Jvm.Cond.codeWith ({ cls := "SketchlockLaw", name := "charAt", desc := "(LSketchlock;II[J)I" } : Jvm.MethodName) method_25_code (5 : Nat) (Option.some Jvm.ClassFile.FieldType.int) [((0 : Nat), (10 : Nat), (13 : Nat), (13 : Nat)), ((0 : Nat), (10 : Nat), (17 : Nat), (69 : Nat))]),
  (Jvm.Cond.codeWith ({ cls := "SketchlockLaw", name := "charAnew", desc := "(LSketchlock;II[J)I" } : Jvm.MethodName) method_26_code (5 : Nat) (Option.some Jvm.ClassFile.FieldType.int) [((0 : Nat), (10 : Nat), (13 : Nat), (13 : Nat)), ((0 : Nat), (10 : Nat), (17 : Nat), (69 : Nat))]),
  (Jvm.Cond.classLink "SketchlockLaw" (99 : Nat) "SketchlockModel"),
  (Jvm.Cond.instantiable "SketchlockModel" (37 : Nat)),
  (Jvm.Cond.methodLink "SketchlockModel" (1 : Nat) ({ cls := "java/lang/Object", name := "<init>", desc := "()V" } : Jvm.MethodName)),
  (Jvm.Cond.superclass "SketchlockModel" "java/lang/Object"),
  (Jvm.Cond.sameMethod "java/lang/Throwable" "java/lang/Throwable" "fillInStackTrace" "(I)Ljava/lang/Throwable;"),
  (Jvm.Cond.selects "java/lang/Throwable" ⟨"java/lang/Throwable", "fillInStackTrace", "(I)Ljava/lang/Throwable;"⟩ ⟨"java/lang/Throwable", "fillInStackTrace", "(I)Ljava/lang/Throwable;"⟩)]
abbrev EXl : List Cond := TBc30
def TB : List Cond := TBc0 ++ (TBc1 ++ (TBc2 ++ (TBc3 ++ (TBc4 ++ (TBc5 ++ (TBc6 ++ (TBc7 ++ (TBc8 ++ (TBc9 ++ (TBc10 ++ (TBc11 ++ (TBc12 ++ (TBc13 ++ (TBc14 ++ (TBc15 ++ (TBc16 ++ (TBc17 ++ (TBc18 ++ (TBc19 ++ (TBc20 ++ (TBc21 ++ (TBc22 ++ (TBc23 ++ (TBc24 ++ (TBc25 ++ (TBc26 ++ (TBc27 ++ (TBc28 ++ (TBc29 ++ (TBc30))))))))))))))))))))))))))))))
theorem tb0 {w : Cond} (h : w ∈ TBc0) : w ∈ TB := List.mem_append_left _ h
theorem tb1 {w : Cond} (h : w ∈ TBc1) : w ∈ TB := List.mem_append_right _ (List.mem_append_left _ h)
theorem tb2 {w : Cond} (h : w ∈ TBc2) : w ∈ TB := List.mem_append_right _ (List.mem_append_right _ (List.mem_append_left _ h))
theorem tb3 {w : Cond} (h : w ∈ TBc3) : w ∈ TB := List.mem_append_right _ (List.mem_append_right _ (List.mem_append_right _ (List.mem_append_left _ h)))
theorem tb4 {w : Cond} (h : w ∈ TBc4) : w ∈ TB := List.mem_append_right _ (List.mem_append_right _ (List.mem_append_right _ (List.mem_append_right _ (List.mem_append_left _ h))))
theorem tb5 {w : Cond} (h : w ∈ TBc5) : w ∈ TB := List.mem_append_right _ (List.mem_append_right _ (List.mem_append_right _ (List.mem_append_right _ (List.mem_append_right _ (List.mem_append_left _ h)))))
theorem tb6 {w : Cond} (h : w ∈ TBc6) : w ∈ TB := List.mem_append_right _ (List.mem_append_right _ (List.mem_append_right _ (List.mem_append_right _ (List.mem_append_right _ (List.mem_append_right _ (List.mem_append_left _ h))))))
theorem tb7 {w : Cond} (h : w ∈ TBc7) : w ∈ TB := List.mem_append_right _ (List.mem_append_right _ (List.mem_append_right _ (List.mem_append_right _ (List.mem_append_right _ (List.mem_append_right _ (List.mem_append_right _ (List.mem_append_left _ h)))))))
theorem tb8 {w : Cond} (h : w ∈ TBc8) : w ∈ TB := List.mem_append_right _ (List.mem_append_right _ (List.mem_append_right _ (List.mem_append_right _ (List.mem_append_right _ (List.mem_append_right _ (List.mem_append_right _ (List.mem_append_right _ (List.mem_append_left _ h))))))))
theorem tb9 {w : Cond} (h : w ∈ TBc9) : w ∈ TB := List.mem_append_right _ (List.mem_append_right _ (List.mem_append_right _ (List.mem_append_right _ (List.mem_append_right _ (List.mem_append_right _ (List.mem_append_right _ (List.mem_append_right _ (List.mem_append_right _ (List.mem_append_left _ h)))))))))
theorem tb10 {w : Cond} (h : w ∈ TBc10) : w ∈ TB := List.mem_append_right _ (List.mem_append_right _ (List.mem_append_right _ (List.mem_append_right _ (List.mem_append_right _ (List.mem_append_right _ (List.mem_append_right _ (List.mem_append_right _ (List.mem_append_right _ (List.mem_append_right _ (List.mem_append_left _ h))))))))))
theorem tb11 {w : Cond} (h : w ∈ TBc11) : w ∈ TB := List.mem_append_right _ (List.mem_append_right _ (List.mem_append_right _ (List.mem_append_right _ (List.mem_append_right _ (List.mem_append_right _ (List.mem_append_right _ (List.mem_append_right _ (List.mem_append_right _ (List.mem_append_right _ (List.mem_append_right _ (List.mem_append_left _ h)))))))))))
theorem tb12 {w : Cond} (h : w ∈ TBc12) : w ∈ TB := List.mem_append_right _ (List.mem_append_right _ (List.mem_append_right _ (List.mem_append_right _ (List.mem_append_right _ (List.mem_append_right _ (List.mem_append_right _ (List.mem_append_right _ (List.mem_append_right _ (List.mem_append_right _ (List.mem_append_right _ (List.mem_append_right _ (List.mem_append_left _ h))))))))))))
theorem tb13 {w : Cond} (h : w ∈ TBc13) : w ∈ TB := List.mem_append_right _ (List.mem_append_right _ (List.mem_append_right _ (List.mem_append_right _ (List.mem_append_right _ (List.mem_append_right _ (List.mem_append_right _ (List.mem_append_right _ (List.mem_append_right _ (List.mem_append_right _ (List.mem_append_right _ (List.mem_append_right _ (List.mem_append_right _ (List.mem_append_left _ h)))))))))))))
theorem tb14 {w : Cond} (h : w ∈ TBc14) : w ∈ TB := List.mem_append_right _ (List.mem_append_right _ (List.mem_append_right _ (List.mem_append_right _ (List.mem_append_right _ (List.mem_append_right _ (List.mem_append_right _ (List.mem_append_right _ (List.mem_append_right _ (List.mem_append_right _ (List.mem_append_right _ (List.mem_append_right _ (List.mem_append_right _ (List.mem_append_right _ (List.mem_append_left _ h))))))))))))))
theorem tb15 {w : Cond} (h : w ∈ TBc15) : w ∈ TB := List.mem_append_right _ (List.mem_append_right _ (List.mem_append_right _ (List.mem_append_right _ (List.mem_append_right _ (List.mem_append_right _ (List.mem_append_right _ (List.mem_append_right _ (List.mem_append_right _ (List.mem_append_right _ (List.mem_append_right _ (List.mem_append_right _ (List.mem_append_right _ (List.mem_append_right _ (List.mem_append_right _ (List.mem_append_left _ h)))))))))))))))
theorem tb16 {w : Cond} (h : w ∈ TBc16) : w ∈ TB := List.mem_append_right _ (List.mem_append_right _ (List.mem_append_right _ (List.mem_append_right _ (List.mem_append_right _ (List.mem_append_right _ (List.mem_append_right _ (List.mem_append_right _ (List.mem_append_right _ (List.mem_append_right _ (List.mem_append_right _ (List.mem_append_right _ (List.mem_append_right _ (List.mem_append_right _ (List.mem_append_right _ (List.mem_append_right _ (List.mem_append_left _ h))))))))))))))))
theorem tb17 {w : Cond} (h : w ∈ TBc17) : w ∈ TB := List.mem_append_right _ (List.mem_append_right _ (List.mem_append_right _ (List.mem_append_right _ (List.mem_append_right _ (List.mem_append_right _ (List.mem_append_right _ (List.mem_append_right _ (List.mem_append_right _ (List.mem_append_right _ (List.mem_append_right _ (List.mem_append_right _ (List.mem_append_right _ (List.mem_append_right _ (List.mem_append_right _ (List.mem_append_right _ (List.mem_append_right _ (List.mem_append_left _ h)))))))))))))))))
theorem tb18 {w : Cond} (h : w ∈ TBc18) : w ∈ TB := List.mem_append_right _ (List.mem_append_right _ (List.mem_append_right _ (List.mem_append_right _ (List.mem_append_right _ (List.mem_append_right _ (List.mem_append_right _ (List.mem_append_right _ (List.mem_append_right _ (List.mem_append_right _ (List.mem_append_right _ (List.mem_append_right _ (List.mem_append_right _ (List.mem_append_right _ (List.mem_append_right _ (List.mem_append_right _ (List.mem_append_right _ (List.mem_append_right _ (List.mem_append_left _ h))))))))))))))))))
theorem tb19 {w : Cond} (h : w ∈ TBc19) : w ∈ TB := List.mem_append_right _ (List.mem_append_right _ (List.mem_append_right _ (List.mem_append_right _ (List.mem_append_right _ (List.mem_append_right _ (List.mem_append_right _ (List.mem_append_right _ (List.mem_append_right _ (List.mem_append_right _ (List.mem_append_right _ (List.mem_append_right _ (List.mem_append_right _ (List.mem_append_right _ (List.mem_append_right _ (List.mem_append_right _ (List.mem_append_right _ (List.mem_append_right _ (List.mem_append_right _ (List.mem_append_left _ h)))))))))))))))))))
theorem tb20 {w : Cond} (h : w ∈ TBc20) : w ∈ TB := List.mem_append_right _ (List.mem_append_right _ (List.mem_append_right _ (List.mem_append_right _ (List.mem_append_right _ (List.mem_append_right _ (List.mem_append_right _ (List.mem_append_right _ (List.mem_append_right _ (List.mem_append_right _ (List.mem_append_right _ (List.mem_append_right _ (List.mem_append_right _ (List.mem_append_right _ (List.mem_append_right _ (List.mem_append_right _ (List.mem_append_right _ (List.mem_append_right _ (List.mem_append_right _ (List.mem_append_right _ (List.mem_append_left _ h))))))))))))))))))))
theorem tb21 {w : Cond} (h : w ∈ TBc21) : w ∈ TB := List.mem_append_right _ (List.mem_append_right _ (List.mem_append_right _ (List.mem_append_right _ (List.mem_append_right _ (List.mem_append_right _ (List.mem_append_right _ (List.mem_append_right _ (List.mem_append_right _ (List.mem_append_right _ (List.mem_append_right _ (List.mem_append_right _ (List.mem_append_right _ (List.mem_append_right _ (List.mem_append_right _ (List.mem_append_right _ (List.mem_append_right _ (List.mem_append_right _ (List.mem_append_right _ (List.mem_append_right _ (List.mem_append_right _ (List.mem_append_left _ h)))))))))))))))))))))
theorem tb22 {w : Cond} (h : w ∈ TBc22) : w ∈ TB := List.mem_append_right _ (List.mem_append_right _ (List.mem_append_right _ (List.mem_append_right _ (List.mem_append_right _ (List.mem_append_right _ (List.mem_append_right _ (List.mem_append_right _ (List.mem_append_right _ (List.mem_append_right _ (List.mem_append_right _ (List.mem_append_right _ (List.mem_append_right _ (List.mem_append_right _ (List.mem_append_right _ (List.mem_append_right _ (List.mem_append_right _ (List.mem_append_right _ (List.mem_append_right _ (List.mem_append_right _ (List.mem_append_right _ (List.mem_append_right _ (List.mem_append_left _ h))))))))))))))))))))))
theorem tb23 {w : Cond} (h : w ∈ TBc23) : w ∈ TB := List.mem_append_right _ (List.mem_append_right _ (List.mem_append_right _ (List.mem_append_right _ (List.mem_append_right _ (List.mem_append_right _ (List.mem_append_right _ (List.mem_append_right _ (List.mem_append_right _ (List.mem_append_right _ (List.mem_append_right _ (List.mem_append_right _ (List.mem_append_right _ (List.mem_append_right _ (List.mem_append_right _ (List.mem_append_right _ (List.mem_append_right _ (List.mem_append_right _ (List.mem_append_right _ (List.mem_append_right _ (List.mem_append_right _ (List.mem_append_right _ (List.mem_append_right _ (List.mem_append_left _ h)))))))))))))))))))))))
theorem tb24 {w : Cond} (h : w ∈ TBc24) : w ∈ TB := List.mem_append_right _ (List.mem_append_right _ (List.mem_append_right _ (List.mem_append_right _ (List.mem_append_right _ (List.mem_append_right _ (List.mem_append_right _ (List.mem_append_right _ (List.mem_append_right _ (List.mem_append_right _ (List.mem_append_right _ (List.mem_append_right _ (List.mem_append_right _ (List.mem_append_right _ (List.mem_append_right _ (List.mem_append_right _ (List.mem_append_right _ (List.mem_append_right _ (List.mem_append_right _ (List.mem_append_right _ (List.mem_append_right _ (List.mem_append_right _ (List.mem_append_right _ (List.mem_append_right _ (List.mem_append_left _ h))))))))))))))))))))))))
theorem tb25 {w : Cond} (h : w ∈ TBc25) : w ∈ TB := List.mem_append_right _ (List.mem_append_right _ (List.mem_append_right _ (List.mem_append_right _ (List.mem_append_right _ (List.mem_append_right _ (List.mem_append_right _ (List.mem_append_right _ (List.mem_append_right _ (List.mem_append_right _ (List.mem_append_right _ (List.mem_append_right _ (List.mem_append_right _ (List.mem_append_right _ (List.mem_append_right _ (List.mem_append_right _ (List.mem_append_right _ (List.mem_append_right _ (List.mem_append_right _ (List.mem_append_right _ (List.mem_append_right _ (List.mem_append_right _ (List.mem_append_right _ (List.mem_append_right _ (List.mem_append_right _ (List.mem_append_left _ h)))))))))))))))))))))))))
theorem tb26 {w : Cond} (h : w ∈ TBc26) : w ∈ TB := List.mem_append_right _ (List.mem_append_right _ (List.mem_append_right _ (List.mem_append_right _ (List.mem_append_right _ (List.mem_append_right _ (List.mem_append_right _ (List.mem_append_right _ (List.mem_append_right _ (List.mem_append_right _ (List.mem_append_right _ (List.mem_append_right _ (List.mem_append_right _ (List.mem_append_right _ (List.mem_append_right _ (List.mem_append_right _ (List.mem_append_right _ (List.mem_append_right _ (List.mem_append_right _ (List.mem_append_right _ (List.mem_append_right _ (List.mem_append_right _ (List.mem_append_right _ (List.mem_append_right _ (List.mem_append_right _ (List.mem_append_right _ (List.mem_append_left _ h))))))))))))))))))))))))))
theorem tb27 {w : Cond} (h : w ∈ TBc27) : w ∈ TB := List.mem_append_right _ (List.mem_append_right _ (List.mem_append_right _ (List.mem_append_right _ (List.mem_append_right _ (List.mem_append_right _ (List.mem_append_right _ (List.mem_append_right _ (List.mem_append_right _ (List.mem_append_right _ (List.mem_append_right _ (List.mem_append_right _ (List.mem_append_right _ (List.mem_append_right _ (List.mem_append_right _ (List.mem_append_right _ (List.mem_append_right _ (List.mem_append_right _ (List.mem_append_right _ (List.mem_append_right _ (List.mem_append_right _ (List.mem_append_right _ (List.mem_append_right _ (List.mem_append_right _ (List.mem_append_right _ (List.mem_append_right _ (List.mem_append_right _ (List.mem_append_left _ h)))))))))))))))))))))))))))
theorem tb28 {w : Cond} (h : w ∈ TBc28) : w ∈ TB := List.mem_append_right _ (List.mem_append_right _ (List.mem_append_right _ (List.mem_append_right _ (List.mem_append_right _ (List.mem_append_right _ (List.mem_append_right _ (List.mem_append_right _ (List.mem_append_right _ (List.mem_append_right _ (List.mem_append_right _ (List.mem_append_right _ (List.mem_append_right _ (List.mem_append_right _ (List.mem_append_right _ (List.mem_append_right _ (List.mem_append_right _ (List.mem_append_right _ (List.mem_append_right _ (List.mem_append_right _ (List.mem_append_right _ (List.mem_append_right _ (List.mem_append_right _ (List.mem_append_right _ (List.mem_append_right _ (List.mem_append_right _ (List.mem_append_right _ (List.mem_append_right _ (List.mem_append_left _ h))))))))))))))))))))))))))))
theorem tb29 {w : Cond} (h : w ∈ TBc29) : w ∈ TB := List.mem_append_right _ (List.mem_append_right _ (List.mem_append_right _ (List.mem_append_right _ (List.mem_append_right _ (List.mem_append_right _ (List.mem_append_right _ (List.mem_append_right _ (List.mem_append_right _ (List.mem_append_right _ (List.mem_append_right _ (List.mem_append_right _ (List.mem_append_right _ (List.mem_append_right _ (List.mem_append_right _ (List.mem_append_right _ (List.mem_append_right _ (List.mem_append_right _ (List.mem_append_right _ (List.mem_append_right _ (List.mem_append_right _ (List.mem_append_right _ (List.mem_append_right _ (List.mem_append_right _ (List.mem_append_right _ (List.mem_append_right _ (List.mem_append_right _ (List.mem_append_right _ (List.mem_append_right _ (List.mem_append_left _ h)))))))))))))))))))))))))))))
theorem tb30 {w : Cond} (h : w ∈ TBc30) : w ∈ TB := List.mem_append_right _ (List.mem_append_right _ (List.mem_append_right _ (List.mem_append_right _ (List.mem_append_right _ (List.mem_append_right _ (List.mem_append_right _ (List.mem_append_right _ (List.mem_append_right _ (List.mem_append_right _ (List.mem_append_right _ (List.mem_append_right _ (List.mem_append_right _ (List.mem_append_right _ (List.mem_append_right _ (List.mem_append_right _ (List.mem_append_right _ (List.mem_append_right _ (List.mem_append_right _ (List.mem_append_right _ (List.mem_append_right _ (List.mem_append_right _ (List.mem_append_right _ (List.mem_append_right _ (List.mem_append_right _ (List.mem_append_right _ (List.mem_append_right _ (List.mem_append_right _ (List.mem_append_right _ (List.mem_append_right _ (h))))))))))))))))))))))))))))))
def NFc0 : List Cond := [.methodLinkNest RX7 19 yX5_init "Sketchlock",
  .fieldLinkNest RX7 95 "Sketchlock$Shapes" "made" "I" "Sketchlock",
  .methodLinkNest RX7 26 yX4_init "Sketchlock",
  .fieldLinkNest RX7 124 "Sketchlock$Rules" "made" "I" "Sketchlock",
  .fieldLinkNest RX0 74 "Sketchlock$Rules" "kinds" "[I" "Sketchlock",
  .fieldLinkNest RX7 215 "Sketchlock$Rules" "kinds" "[I" "Sketchlock",
  .fieldLinkNest RX0 79 "Sketchlock$Rules" "firsts" "[I" "Sketchlock",
  .fieldLinkNest RX7 209 "Sketchlock$Rules" "firsts" "[I" "Sketchlock",
  .fieldLinkNest RX0 82 "Sketchlock$Rules" "seconds" "[I" "Sketchlock",
  .fieldLinkNest RX7 212 "Sketchlock$Rules" "seconds" "[I" "Sketchlock",
  .methodLinkNest RX7 33 yX6_init "Sketchlock",
  .fieldLinkNest RX7 188 "Sketchlock$Tree" "made" "I" "Sketchlock",
  .methodLinkNest RX7 40 yX3_init "Sketchlock",
  .methodLinkNest RX3 21 yX0_init "Sketchlock",
  .fieldLinkNest RX1 19 "Sketchlock$Board" "there" "I" "Sketchlock",
  .fieldLinkNest RX3 76 "Sketchlock$Board" "there" "I" "Sketchlock",
  .fieldLinkNest RX7 196 "Sketchlock$Board" "there" "I" "Sketchlock",
  .fieldLinkNest RX1 32 "Sketchlock$Board" "inForce" "I" "Sketchlock",
  .fieldLinkNest RX7 137 "Sketchlock$Board" "inForce" "I" "Sketchlock",
  .fieldLinkNest RX7 133 "Sketchlock$Replay" "board" "LSketchlock$Board;" "Sketchlock",
  .fieldLinkNest RX7 167 "Sketchlock$Replay" "voids" "J" "Sketchlock",
  .methodLinkNest RX7 52 yX2_init "Sketchlock",
  .fieldLinkNest RX7 233 "Sketchlock$Exports" "asked" "I" "Sketchlock",
  .fieldLinkNest RX7 246 "Sketchlock$Exports" "made" "I" "Sketchlock",
  .methodLinkNest RX7 59 yX1_init "Sketchlock",
  .fieldLinkNest RX2 30 "Sketchlock$ExportText" "chars" "I" "Sketchlock",
  .fieldLinkNest RX7 263 "Sketchlock$ExportText" "chars" "I" "Sketchlock",
  .methodLinkNest RX7 227 yX6_deedOf "Sketchlock",
  .methodLinkNest RX6 42 yX7_read "Sketchlock",
  .methodLinkNest RX7 100 yX6_draft "Sketchlock"]
def NFc1 : List Cond := [.methodLinkNest RX6 34 yX7_put "Sketchlock",
  .methodLinkNest RX7 104 yX5_draft "Sketchlock",
  .methodLinkNest RX5 25 yX7_put "Sketchlock",
  .methodLinkNest RX5 29 yX7_read "Sketchlock",
  .methodLinkNest RX7 293 yX3_tryAct "Sketchlock",
  .methodLinkNest RX3 42 yX6_subjectOf "Sketchlock",
  .methodLinkNest RX3 48 yX6_wantedBy "Sketchlock",
  .methodLinkNest RX3 52 yX0_copyFrom "Sketchlock",
  .methodLinkNest RX3 56 yX6_deedOf "Sketchlock",
  .methodLinkNest RX3 59 yX0_addShape "Sketchlock",
  .methodLinkNest RX0 47 yX7_put "Sketchlock",
  .methodLinkNest RX3 63 yX0_moveTo "Sketchlock",
  .methodLinkNest RX0 59 yX7_has "Sketchlock",
  .methodLinkNest RX0 43 yX7_read "Sketchlock",
  .methodLinkNest RX0 85 yX7_isAbout "Sketchlock",
  .methodLinkNest RX0 95 yX5_lettersOf "Sketchlock",
  .methodLinkNest RX0 101 yX7_isInRange "Sketchlock",
  .methodLinkNest RX3 67 yX0_resizeTo "Sketchlock",
  .methodLinkNest RX3 70 yX0_layRule "Sketchlock",
  .methodLinkNest RX3 73 yX0_dropRule "Sketchlock",
  .methodLinkNest RX7 298 yX6_hang "Sketchlock",
  .methodLinkNest RX7 115 yX3_changedShapes "Sketchlock",
  .methodLinkNest RX3 34 yX7_has "Sketchlock",
  .methodLinkNest RX3 80 yX0_differsAt "Sketchlock",
  .methodLinkNest RX7 127 yX4_draft "Sketchlock",
  .methodLinkNest RX4 25 yX7_put "Sketchlock",
  .methodLinkNest RX7 148 yX6_standOf "Sketchlock",
  .methodLinkNest RX7 153 yX6_aboveOf "Sketchlock",
  .methodLinkNest RX7 156 yX6_stand "Sketchlock",
  .methodLinkNest RX7 159 yX6_counting "Sketchlock"]
def NFc2 : List Cond := [.methodLinkNest RX7 163 yX3_redo "Sketchlock",
  .methodLinkNest RX3 31 yX0_clear "Sketchlock",
  .methodLinkNest RX7 176 yX6_branchOf "Sketchlock",
  .methodLinkNest RX7 182 yX6_countBranches "Sketchlock",
  .methodLinkNest RX7 185 yX6_countBelow "Sketchlock",
  .methodLinkNest RX6 53 yX7_has "Sketchlock",
  .methodLinkNest RX7 206 yX0_numberOf "Sketchlock",
  .methodLinkNest RX7 223 yX0_fits "Sketchlock",
  .methodLinkNest RX7 230 yX0_groupOf "Sketchlock",
  .methodLinkNest RX7 238 yX1_show "Sketchlock",
  .methodLinkNest RX1 24 yX7_has "Sketchlock",
  .methodLinkNest RX1 43 yX5_lettersOf "Sketchlock",
  .methodLinkNest RX1 49 yX0_numberOf "Sketchlock",
  .methodLinkNest RX1 53 yX5_shownLetter "Sketchlock",
  .methodLinkNest RX5 33 yX7_has "Sketchlock",
  .methodLinkNest RX7 242 yX2_keep "Sketchlock",
  .methodLinkNest RX2 34 yX1_signOf "Sketchlock",
  .methodLinkNest RX7 250 yX2_charsOf "Sketchlock",
  .methodLinkNest RX2 38 yX7_read "Sketchlock",
  .methodLinkNest RX7 255 yX2_signOf "Sketchlock",
  .methodLinkNest RX7 259 yX2_actsOf "Sketchlock",
  .methodLinkNest RX7 266 yX1_signOf "Sketchlock",
  (Jvm.Cond.castable "java/lang/IndexOutOfBoundsException" "java/lang/IndexOutOfBoundsException"),
  (Jvm.Cond.declares ({ cls := "java/lang/RuntimeException", name := "<init>", desc := "()V" } : Jvm.MethodName)),
  (Jvm.Cond.declares ({ cls := "java/lang/RuntimeException", name := "<init>", desc := "(Ljava/lang/String;)V" } : Jvm.MethodName)),
  (Jvm.Cond.declares ({ cls := "java/lang/Exception", name := "<init>", desc := "()V" } : Jvm.MethodName)),
  (Jvm.Cond.declares ({ cls := "java/lang/Exception", name := "<init>", desc := "(Ljava/lang/String;)V" } : Jvm.MethodName)),
  (Jvm.Cond.declares ({ cls := "java/lang/Throwable", name := "<init>", desc := "()V" } : Jvm.MethodName)),
  (Jvm.Cond.declares ({ cls := "java/lang/Throwable", name := "<init>", desc := "(Ljava/lang/String;)V" } : Jvm.MethodName)),
  (Jvm.Cond.castable "java/lang/IllegalStateException" "java/lang/IllegalStateException")]
def NFc3 : List Cond := [(Jvm.Cond.castable "java/lang/IllegalArgumentException" "java/lang/IllegalArgumentException"),
  (Jvm.Cond.castable "java/util/NoSuchElementException" "java/util/NoSuchElementException"),
  (Jvm.Cond.castable "Sketchlock" "java/lang/Object"),
  (Jvm.Cond.castable "Sketchlock$Shapes" "java/lang/Object"),
  (Jvm.Cond.castable "Sketchlock$Rules" "java/lang/Object"),
  (Jvm.Cond.castable "Sketchlock$Tree" "java/lang/Object"),
  (Jvm.Cond.castable "Sketchlock$Replay" "java/lang/Object"),
  (Jvm.Cond.castable "Sketchlock$Board" "java/lang/Object"),
  (Jvm.Cond.castable "Sketchlock$Exports" "java/lang/Object"),
  (Jvm.Cond.castable "Sketchlock$ExportText" "java/lang/Object"),
  (Jvm.Cond.castable "SketchlockModel" "java/lang/Object"),
  (Jvm.Cond.castable "java/lang/IndexOutOfBoundsException" "java/lang/Object"),
  (Jvm.Cond.castable "java/lang/IllegalStateException" "java/lang/Object"),
  (Jvm.Cond.castable "java/lang/IllegalArgumentException" "java/lang/Object"),
  (Jvm.Cond.castable "java/util/NoSuchElementException" "java/lang/Object"),
  (Jvm.Cond.castable "java/lang/Throwable" "java/lang/Object"),
  (Jvm.Cond.castable "java/lang/String" "java/lang/Object")]
def NF : List Cond := NFc0 ++ (NFc1 ++ (NFc2 ++ (NFc3)))
theorem nf0 {w : Cond} (h : w ∈ NFc0) : w ∈ NF := List.mem_append_left _ h
theorem nf1 {w : Cond} (h : w ∈ NFc1) : w ∈ NF := List.mem_append_right _ (List.mem_append_left _ h)
theorem nf2 {w : Cond} (h : w ∈ NFc2) : w ∈ NF := List.mem_append_right _ (List.mem_append_right _ (List.mem_append_left _ h))
theorem nf3 {w : Cond} (h : w ∈ NFc3) : w ∈ NF := List.mem_append_right _ (List.mem_append_right _ (List.mem_append_right _ (h)))
theorem mem_i {α : Type} {l : List α} {x : α} (i : Nat) (h : l[i]? = some x) : x ∈ l := List.mem_of_getElem? h
theorem exin {w : Cond} (h : w ∈ EXl) : w ∈ TB := tb30 h
def STR : List (String × Nat × String) := [("Sketchlock", 66, "no such letter"), ("Sketchlock", 73, "the text has 5 letters"), ("Sketchlock", 269, "no such drawer"), ("Sketchlock", 281, "x or y is out of range"), ("Sketchlock", 283, "width or height is out of range"), ("Sketchlock", 98, "there are 10 shapes"), ("Sketchlock", 296, "that cannot be done, or there are 60 acts"), ("Sketchlock", 110, "the text is empty, or there are 10 shapes"), ("Sketchlock", 271, "no such shape"), ("Sketchlock", 121, "no such kind, or one shape twice"), ("Sketchlock", 125, "there are 12 rules"), ("Sketchlock", 273, "no such rule"), ("Sketchlock", 151, "the drawer stands at the root"), ("Sketchlock", 180, "no such branch"), ("Sketchlock", 275, "no such act"), ("Sketchlock", 285, "what is out of range"), ("Sketchlock", 287, "the shape is not there"), ("Sketchlock", 220, "a tie that is not in force"), ("Sketchlock", 236, "there are 10 exports"), ("Sketchlock", 289, "no such export"), ("Sketchlock", 291, "the export waits"), ("Sketchlock", 253, "no such char")]
def NCS : List (String × String) := [("java/lang/IndexOutOfBoundsException", "java/lang/IllegalArgumentException"), ("java/lang/IndexOutOfBoundsException", "java/lang/IllegalStateException"), ("java/lang/IndexOutOfBoundsException", "java/util/NoSuchElementException"), ("java/lang/IllegalArgumentException", "java/lang/IndexOutOfBoundsException"), ("java/lang/IllegalArgumentException", "java/lang/IllegalStateException"), ("java/lang/IllegalArgumentException", "java/util/NoSuchElementException"), ("java/lang/IllegalStateException", "java/lang/IndexOutOfBoundsException"), ("java/lang/IllegalStateException", "java/lang/IllegalArgumentException"), ("java/lang/IllegalStateException", "java/util/NoSuchElementException"), ("java/util/NoSuchElementException", "java/lang/IndexOutOfBoundsException"), ("java/util/NoSuchElementException", "java/lang/IllegalArgumentException"), ("java/util/NoSuchElementException", "java/lang/IllegalStateException")]
abbrev Sh : Type := (Nat × List (Nat × Nat)) ⊕ (Nat × Nat)
def shp : List Sh := [
  .inl (7, [(3, 1), (0, 0), (3, 2), (3, 5), (3, 9), (3, 16), (3, 17), (3, 30), (3, 34)]),
  .inr (0, 5),
  .inl (5, [(0, 0), (0, 0), (3, 3), (3, 4)]),
  .inr (0, 10),
  .inr (0, 50),
  .inl (4, [(0, 0), (3, 6), (3, 7), (3, 8)]),
  .inr (0, 12),
  .inr (0, 12),
  .inr (0, 12),
  .inl (6, [(0, 0), (3, 10), (3, 11), (3, 12), (3, 13), (3, 14), (3, 15)]),
  .inr (0, 60),
  .inr (0, 60),
  .inr (0, 240),
  .inr (0, 60),
  .inr (0, 60),
  .inr (0, 4),
  .inl (3, [(3, 9), (2, 0), (2, 0), (1, 0)]),
  .inl (3, [(3, 9), (2, 0), (2, 0), (1, 0)]),
  .inl (0, [(3, 2), (3, 5), (0, 0), (3, 19), (3, 20), (0, 0), (0, 0)]),
  .inr (0, 40),
  .inr (0, 24),
  .inl (0, [(3, 2), (3, 5), (0, 0), (3, 22), (3, 23), (0, 0), (0, 0)]),
  .inr (0, 40),
  .inr (0, 24),
  .inl (0, [(3, 2), (3, 5), (0, 0), (3, 25), (3, 26), (0, 0), (0, 0)]),
  .inr (0, 40),
  .inr (0, 24),
  .inl (0, [(3, 2), (3, 5), (0, 0), (3, 28), (3, 29), (0, 0), (0, 0)]),
  .inr (0, 40),
  .inr (0, 24),
  .inl (2, [(0, 0), (0, 0), (3, 31), (3, 32), (3, 33)]),
  .inr (1, 10),
  .inr (0, 10),
  .inr (2, 3280),
  .inl (1, [(3, 35), (0, 0)]),
  .inr (2, 328),
  .inl (8, [(0, 0), (3, 37), (0, 0), (3, 38), (3, 39), (3, 40), (3, 41), (0, 0), (3, 42), (3, 43), (3, 44), (3, 45), (0, 0), (3, 46), (3, 47), (3, 48), (3, 49), (3, 50), (3, 51), (3, 52), (0, 0), (3, 53), (0, 0), (3, 54), (3, 55), (0, 0), (3, 56), (0, 0), (0, 0), (0, 0), (0, 0), (3, 57), (3, 58), (3, 59), (0, 0), (0, 0), (0, 0)]),
  .inr (0, 5),
  .inr (3, 10),
  .inr (3, 10),
  .inr (0, 10),
  .inr (0, 50),
  .inr (0, 12),
  .inr (0, 12),
  .inr (0, 12),
  .inr (0, 12),
  .inr (0, 60),
  .inr (0, 60),
  .inr (0, 60),
  .inr (0, 60),
  .inr (0, 240),
  .inr (3, 60),
  .inr (0, 4),
  .inr (0, 40),
  .inr (0, 12),
  .inr (0, 12),
  .inr (0, 40),
  .inr (0, 10),
  .inr (0, 400),
  .inr (0, 10),
  .inr (1, 1)]
def nH : Nat := 61
theorem nH_eq : shp.length = nH := rfl
set_option maxRecDepth 100000 in
theorem TB_good : TB.all goodWord = true := by decide +kernel
theorem lyX0 : ∀ w ∈ u_ws RX0 TX0 7, w ∈ TB := by
  have h : u_ws RX0 TX0 7 = [79, 80, 81, 82, 83, 84, 85].filterMap (fun i => TB[i]?) := by decide +kernel
  intro w hw
  rw [h] at hw
  obtain ⟨i, -, hi⟩ := List.mem_filterMap.mp hw
  exact List.mem_of_getElem? hi
theorem lyX1 : ∀ w ∈ u_ws RX1 TX1 2, w ∈ TB := by
  have h : u_ws RX1 TX1 2 = [114, 115].filterMap (fun i => TB[i]?) := by decide +kernel
  intro w hw
  rw [h] at hw
  obtain ⟨i, -, hi⟩ := List.mem_filterMap.mp hw
  exact List.mem_of_getElem? hi
theorem lyX2 : ∀ w ∈ u_ws RX2 TX2 5, w ∈ TB := by
  have h : u_ws RX2 TX2 5 = [102, 103, 104, 105, 106].filterMap (fun i => TB[i]?) := by decide +kernel
  intro w hw
  rw [h] at hw
  obtain ⟨i, -, hi⟩ := List.mem_filterMap.mp hw
  exact List.mem_of_getElem? hi
theorem lyX3 : ∀ w ∈ u_ws RX3 TX3 4, w ∈ TB := by
  have h : u_ws RX3 TX3 4 = [90, 91, 92, 93].filterMap (fun i => TB[i]?) := by decide +kernel
  intro w hw
  rw [h] at hw
  obtain ⟨i, -, hi⟩ := List.mem_filterMap.mp hw
  exact List.mem_of_getElem? hi
theorem lyX4 : ∀ w ∈ u_ws RX4 TX4 4, w ∈ TB := by
  have h : u_ws RX4 TX4 4 = [45, 46, 47, 48].filterMap (fun i => TB[i]?) := by decide +kernel
  intro w hw
  rw [h] at hw
  obtain ⟨i, -, hi⟩ := List.mem_filterMap.mp hw
  exact List.mem_of_getElem? hi
theorem lyX5 : ∀ w ∈ u_ws RX5 TX5 4, w ∈ TB := by
  have h : u_ws RX5 TX5 4 = [33, 34, 35, 36].filterMap (fun i => TB[i]?) := by decide +kernel
  intro w hw
  rw [h] at hw
  obtain ⟨i, -, hi⟩ := List.mem_filterMap.mp hw
  exact List.mem_of_getElem? hi
theorem lyX6 : ∀ w ∈ u_ws RX6 TX6 7, w ∈ TB := by
  have h : u_ws RX6 TX6 7 = [59, 60, 61, 62, 63, 64, 65].filterMap (fun i => TB[i]?) := by decide +kernel
  intro w hw
  rw [h] at hw
  obtain ⟨i, -, hi⟩ := List.mem_filterMap.mp hw
  exact List.mem_of_getElem? hi
theorem lyX7 : ∀ w ∈ u_ws RX7 TX7 9, w ∈ TB := by
  have h : u_ws RX7 TX7 9 = [125, 126, 127, 128, 129, 130, 131, 132, 133].filterMap (fun i => TB[i]?) := by decide +kernel
  intro w hw
  rw [h] at hw
  obtain ⟨i, -, hi⟩ := List.mem_filterMap.mp hw
  exact List.mem_of_getElem? hi
theorem lyX8 : ∀ w ∈ u_ws RX8 TX8 37, w ∈ TB := by
  have h : u_ws RX8 TX8 37 = [522, 523, 524, 525, 526, 527, 528, 529, 530, 531, 532, 533, 534, 535, 536, 537, 538, 539, 540, 541, 542, 543, 544, 545, 546, 547, 548, 549, 550, 551, 552, 553, 554, 555, 556, 557, 558].filterMap (fun i => TB[i]?) := by decide +kernel
  intro w hw
  rw [h] at hw
  obtain ⟨i, -, hi⟩ := List.mem_filterMap.mp hw
  exact List.mem_of_getElem? hi
end
section
/-! the system's heap by handles; a judgement G over it; a rule an instruction (by wip/whole/core.py) -/
abbrev AV : Type := Int32 ⊕ (Int64 ⊕ Option Nat)
abbrev vI (x : Int32) : AV := .inl x
abbrev vL (x : Int64) : AV := .inr (.inl x)
abbrev vR (k : Nat) : AV := .inr (.inr (some k))
def gV (ad : Nat → Nat) : AV → Value
  | .inl x => .int x
  | .inr (.inl x) => .long x
  | .inr (.inr r) => va_rf (r.map ad)
def cat2 : AV → Bool
  | .inr (.inl _) => true
  | _ => false
abbrev HS : Type := (Nat → Nat → Int32) × ((Nat → Nat → Int64) × (Nat → Nat → Option Nat))
def sI (S : HS) (a k : Nat) (v : Int32) : HS := (fun b => if b = a then upd (S.1 b) k v else S.1 b, S.2)
def sL (S : HS) (a k : Nat) (v : Int64) : HS := (S.1, (fun b => if b = a then vp_updL (S.2.1 b) k v else S.2.1 b, S.2.2))
def sR (S : HS) (a k : Nat) (v : Option Nat) : HS := (S.1, (S.2.1, fun b => if b = a then va_up (S.2.2 b) k v else S.2.2 b))
def sA (S : HS) (a : Nat) (f : Nat → Int32) : HS := (fun b => if b = a then f else S.1 b, S.2)
def fV (ad : Nat → Nat) (S : HS) (a j : Nat) (kd : Nat × Nat) : Value :=
  if kd.1 = 0 then .int (S.1 a j) else if kd.1 = 1 then .long (S.2.1 a j) else if kd.1 = 2 then va_rf ((S.2.2 a j).map ad) else .ref (ad kd.2)
def eV (cA : Nat → ClassId) (ad : Nat → Nat) (S : HS) (a : Nat) : Sh → va_E
  | .inl q => .inr (q.1, q.2.mapIdx fun j kd => fV ad S a j kd)
  | .inr q => .inl (cA q.1, (q.2, if q.1 = 1 then .inr (.inl (S.2.1 a)) else .inl (S.1 a)))
def wld (cA : Nat → ClassId) (ad : Nat → Nat) (S : HS) : va_W := shp.mapIdx fun a sh => (ad a, eV cA ad S a sh)
def tyl (cA : Nat → ClassId) : List (ClassId × FieldType) := [(cA 0, .int), (cA 1, .long), (cA 2, .char), (cA 3, .boolean)]
def oc (a : Nat) : Option Nat := match shp[a]? with
  | some (.inl q) => some q.1
  | _ => none
def fk (a k : Nat) : Option (Nat × (Nat × Nat)) := match shp[a]? with
  | some (.inl q) => (q.2[k]?).map fun z => (q.1, z)
  | _ => none
def ak (a : Nat) : Option (Nat × Nat) := match shp[a]? with
  | some (.inr q) => some q
  | _ => none
def alen (a : Nat) : Nat := match ak a with
  | some q => q.2
  | none => 0
theorem fk_at {a k ci : Nat} {kd : Nat × Nat} (h : fk a k = some (ci, kd)) : ∃ ks, shp[a]? = some (.inl (ci, ks)) ∧ ks[k]? = some kd := by
  unfold fk at h
  split at h
  · next q hq =>
    cases hk : q.2[k]? with
    | none => rw [hk] at h; cases h
    | some z =>
      rw [hk] at h
      cases h
      exact ⟨q.2, hq, hk⟩
  · cases h
theorem ak_at {a t N : Nat} (h : ak a = some (t, N)) : shp[a]? = some (.inr (t, N)) := by
  unfold ak at h
  split at h
  · next q hq => cases h; exact hq
  · cases h
theorem oc_at {a ci : Nat} (h : oc a = some ci) : ∃ ks, shp[a]? = some (.inl (ci, ks)) := by
  unfold oc at h
  split at h
  · next q hq => cases h; exact ⟨q.2, hq⟩
  · cases h
theorem wld_at {cA : Nat → ClassId} {ad : Nat → Nat} {S : HS} {a : Nat} {x : Sh} (h : shp[a]? = some x) : (wld cA ad S)[a]? = some (ad a, eV cA ad S a x) := by
  simp [wld, List.getElem?_mapIdx, h]
theorem wld_set {cA : Nat → ClassId} {ad : Nat → Nat} {S S' : HS} {a : Nat} {x : Sh} {e : va_E} (h : shp[a]? = some x) (he : e = eV cA ad S' a x) (ho : ∀ b y, b ≠ a → eV cA ad S' b y = eV cA ad S b y) :
    (wld cA ad S).set a (ad a, e) = wld cA ad S' := by
  apply List.ext_getElem?
  intro b
  rw [List.getElem?_set]
  by_cases hb : a = b
  · subst hb
    have hl : a < (wld cA ad S).length := by
      rcases List.getElem?_eq_some_iff.mp (wld_at (cA := cA) (ad := ad) (S := S) h) with ⟨q, -⟩
      exact q
    simp only [if_pos, hl]
    rw [wld_at h, he]
  · rw [if_neg hb]
    simp only [wld, List.getElem?_mapIdx]
    cases shp[b]? with
    | none => rfl
    | some y => simp only [Option.map_some]; rw [ho b y (fun q => hb q.symm)]
theorem eV_I {cA : Nat → ClassId} {ad : Nat → Nat} {S : HS} {a b k : Nat} {v : Int32} {y : Sh} (h : b ≠ a) : eV cA ad (sI S a k v) b y = eV cA ad S b y := by
  cases y <;> simp [eV, fV, sI, h]
theorem eV_L {cA : Nat → ClassId} {ad : Nat → Nat} {S : HS} {a b k : Nat} {v : Int64} {y : Sh} (h : b ≠ a) : eV cA ad (sL S a k v) b y = eV cA ad S b y := by
  cases y <;> simp [eV, fV, sL, h]
theorem eV_R {cA : Nat → ClassId} {ad : Nat → Nat} {S : HS} {a b k : Nat} {v : Option Nat} {y : Sh} (h : b ≠ a) : eV cA ad (sR S a k v) b y = eV cA ad S b y := by
  cases y <;> simp [eV, fV, sR, h]
theorem eV_A {cA : Nat → ClassId} {ad : Nat → Nat} {S : HS} {a b : Nat} {f : Nat → Int32} {y : Sh} (h : b ≠ a) : eV cA ad (sA S a f) b y = eV cA ad S b y := by
  cases y <;> simp [eV, fV, sA, h]
theorem mapIdx_set {α β : Type} {f g : Nat → α → β} {l : List α} {k : Nat} {v : β} {z : α} (hk : l[k]? = some z) (hv : g k z = v) (ho : ∀ j x, j ≠ k → g j x = f j x) : (l.mapIdx f).set k v = l.mapIdx g := by
  apply List.ext_getElem?
  intro b
  rw [List.getElem?_set]
  by_cases hb : k = b
  · subst hb
    have hl : k < (l.mapIdx f).length := by
      rcases List.getElem?_eq_some_iff.mp hk with ⟨q, -⟩
      simpa using q
    simp only [if_pos, hl, List.getElem?_mapIdx, hk, Option.map_some, hv]
  · rw [if_neg hb]
    simp only [List.getElem?_mapIdx]
    cases l[b]? with
    | none => rfl
    | some y => simp only [Option.map_some]; rw [ho b y (fun q => hb q.symm)]
theorem setI_obj {cA : Nat → ClassId} {ad : Nat → Nat} {S : HS} {a k ci z : Nat} {ks : List (Nat × Nat)} {v : Int32} (h : shp[a]? = some (.inl (ci, ks))) (hk : ks[k]? = some (0, z)) :
    (wld cA ad S).set a (ad a, .inr (ci, (ks.mapIdx fun j kd => fV ad S a j kd).set k (.int v))) = wld cA ad (sI S a k v) :=
  wld_set h (by
    show _ = (Sum.inr (ci, ks.mapIdx fun j kd => fV ad (sI S a k v) a j kd) : va_E)
    rw [mapIdx_set (g := fun j kd => fV ad (sI S a k v) a j kd) hk (by simp [fV, sI, upd]) (fun j x hj => by simp [fV, sI, upd, hj])]) (fun b y hb => eV_I hb)
theorem setL_obj {cA : Nat → ClassId} {ad : Nat → Nat} {S : HS} {a k ci z : Nat} {ks : List (Nat × Nat)} {v : Int64} (h : shp[a]? = some (.inl (ci, ks))) (hk : ks[k]? = some (1, z)) :
    (wld cA ad S).set a (ad a, .inr (ci, (ks.mapIdx fun j kd => fV ad S a j kd).set k (.long v))) = wld cA ad (sL S a k v) :=
  wld_set h (by
    show _ = (Sum.inr (ci, ks.mapIdx fun j kd => fV ad (sL S a k v) a j kd) : va_E)
    rw [mapIdx_set (g := fun j kd => fV ad (sL S a k v) a j kd) hk (by simp [fV, sL, vp_updL]) (fun j x hj => by simp [fV, sL, vp_updL, hj])]) (fun b y hb => eV_L hb)
theorem setR_obj {cA : Nat → ClassId} {ad : Nat → Nat} {S : HS} {a k ci z b : Nat} {ks : List (Nat × Nat)} (h : shp[a]? = some (.inl (ci, ks))) (hk : ks[k]? = some (2, z)) :
    (wld cA ad S).set a (ad a, .inr (ci, (ks.mapIdx fun j kd => fV ad S a j kd).set k (.ref (ad b)))) = wld cA ad (sR S a k (some b)) :=
  wld_set h (by
    show _ = (Sum.inr (ci, ks.mapIdx fun j kd => fV ad (sR S a k (some b)) a j kd) : va_E)
    rw [mapIdx_set (g := fun j kd => fV ad (sR S a k (some b)) a j kd) hk (by simp [fV, sR, va_up, va_rf]) (fun j x hj => by simp [fV, sR, va_up, hj])]) (fun b y hb => eV_R hb)
theorem setI_arr {cA : Nat → ClassId} {ad : Nat → Nat} {S : HS} {a t N k : Nat} {v : Int32} (h : shp[a]? = some (.inr (t, N))) (ht : t ≠ 1) :
    (wld cA ad S).set a (ad a, .inl (cA t, (N, .inl (upd (S.1 a) k v)))) = wld cA ad (sI S a k v) :=
  wld_set h (by simp [eV, sI, ht]) (fun b y hb => eV_I hb)
theorem setA_arr {cA : Nat → ClassId} {ad : Nat → Nat} {S : HS} {a t N : Nat} {f : Nat → Int32} (h : shp[a]? = some (.inr (t, N))) (ht : t ≠ 1) :
    (wld cA ad S).set a (ad a, .inl (cA t, (N, .inl f))) = wld cA ad (sA S a f) :=
  wld_set h (by simp [eV, sA, ht]) (fun b y hb => eV_A hb)
theorem setL_arr {cA : Nat → ClassId} {ad : Nat → Nat} {S : HS} {a N k : Nat} {v : Int64} (h : shp[a]? = some (.inr (1, N))) :
    (wld cA ad S).set a (ad a, .inl (cA 1, (N, .inr (.inl (vp_updL (S.2.1 a) k v))))) = wld cA ad (sL S a k v) :=
  wld_set h (by simp [eV, sL]) (fun b y hb => eV_L hb)
def Inj (ad : Nat → Nat) : Prop := ∀ i j, i < nH → j < nH → ad i = ad j → i = j
def fA (ad : Nat → Nat) (sz : Nat) : Nat → Prop := fun q => (∃ k, k < nH ∧ q = ad k) ∨ sz ≤ q
def NwA (U : State) : Prop := (∀ w ∈ NF, va_Nw w U) ∧ (∀ q ∈ STR, ∃ a, vk_R q.1 q.2.1 q.2.2 a U) ∧ (∀ q ∈ NCS, va_Nc q.1 q.2 U)
def ZW (ad : Nat → Nat) (sz : Nat) (U : State) : Prop := vx_Zq Bundle.tN "UNASSIGNED_STACK" Bundle.steD (fA ad sz) U U.heap ∧ vx_Zq Bundle.tN "SUPPRESSED_SENTINEL" Bundle.listD (fA ad sz) U U.heap
def wAt (dC : Nat → ClassId) (dI : Nat → Nat → Nat) (cA : Nat → ClassId) (ad : Nat → Nat) (S : HS) (U : State) : Prop := va_P (dC, dI) vwCl (wld cA ad S) U.heap ∧ va_K (dC, dI) vwCl (tyl cA) U
def wPre (dC : Nat → ClassId) (dI : Nat → Nat → Nat) (cA : Nat → ClassId) (ad : Nat → Nat) (sz : Nat) (S : HS) (U : State) : Prop := U.heap.size = sz ∧ wAt dC dI cA ad S U ∧ NwA U ∧ ZW ad sz U
def wQ (dC : Nat → ClassId) (dI : Nat → Nat → Nat) (cA : Nat → ClassId) (ad : Nat → Nat) (sz : Nat) (r : Option AV) (S : HS) : Array Value → State → Outcome → State → Prop := fun _ st oc t =>
  (oc = .returned (r.map (gV ad)) ∧ wAt dC dI cA ad S t) ∧ va_F (fA ad sz) st t
/-- a method's contract, at one state: it returns r, and leaves S' -/
def Ct (l : Launch) (y : MethodName) (cc : ByteArray) (n : Nat) (ret : Option FieldType) (rm : Room) (as : List AV) (S : HS) (r : Option AV) (S' : HS) : Prop :=
  ∀ dC dI cA ad sz, Inj ad → Met l y (.code y cc n ret :: TB) rm (va_Pc (as.map (gV ad)) (wPre dC dI cA ad sz S)) (wQ dC dI cA ad sz r S') 0 0 (fA ad sz)
theorem wld_idx {cA : Nat → ClassId} {ad : Nat → Nat} {S : HS} {k : Nat} {q : Nat × va_E} (h : (wld cA ad S)[k]? = some q) : k < nH ∧ q.1 = ad k := by
  have hl : k < nH := by
    rcases List.getElem?_eq_some_iff.mp h with ⟨z, -⟩
    rw [← nH_eq]
    simpa [wld] using z
  refine ⟨hl, ?_⟩
  simp only [wld, List.getElem?_mapIdx] at h
  cases hk : shp[k]? with
  | none => rw [hk] at h; cases h
  | some x => rw [hk] at h; cases h; rfl
theorem wld_D {cA : Nat → ClassId} {ad : Nat → Nat} {S : HS} {A : Nat → Prop} (hj : Inj ad) (hA : ∀ k, k < nH → A (ad k)) : va_D A (wld cA ad S) := by
  refine ⟨fun i j p q hp hq e => ?_, fun k q hq => ?_⟩
  · obtain ⟨h1, h2⟩ := wld_idx hp
    obtain ⟨h3, h4⟩ := wld_idx hq
    rw [h2, h4] at e
    exact hj i j h1 h3 e
  · obtain ⟨h1, h2⟩ := wld_idx hq
    rw [h2]
    exact hA k h1
theorem nf_nest : NF.all (fun w => match w with
  | .fieldLinkNest _ _ _ _ _ _ => true
  | .methodLinkNest _ _ _ _ => true
  | .castable _ _ => true
  | .declares _ => true
  | _ => false) = true := by decide +kernel
theorem NwA.warm {s U : State} (hW : s.WarmedH U.vm) (h : NwA s) : NwA U := by
  refine ⟨?_, fun q hq => (h.2.1 q hq).elim fun a ha => ⟨a, ha.warm hW⟩, fun q hq => va_Nc.moved hW.alike (h.2.2 q hq)⟩
  intro w hw
  have h1 := List.all_eq_true.mp nf_nest w hw
  have h2 := h.1 w hw
  cases w <;> first | exact va_Nw.warmF hW h2 | exact va_Nw.warmM hW h2 | exact va_Nw.warmC hW h2 | exact va_Nw.warmD hW h2 | cases h1
theorem NwA.blind {U : State} {g : JFrame} {mk : MethodId} {a : Array Value} (h : NwA U) : NwA (U.calling g mk a) := by
  refine ⟨?_, fun q hq => (h.2.1 q hq).elim fun z hz => ⟨z, vk_R.same (u := U) (U := U.calling g mk a) rfl hz⟩, fun q hq => va_Nc.moved (u := U) (U := U.calling g mk a) (Vm.Alike.refl U.vm) (h.2.2 q hq)⟩
  intro w hw
  have h1 := List.all_eq_true.mp nf_nest w hw
  have h2 := h.1 w hw
  cases w <;> first | exact va_Nw.same rfl rfl h2 | cases h1
theorem fA_le {ad : Nat → Nat} {a b : Nat} (h : a ≤ b) (q : Nat) (hq : fA ad b q) : fA ad a q := hq.elim Or.inl (fun z => Or.inr (Nat.le_trans h z))
theorem ZW.to {ad : Nat → Nat} {s U : State} {H : Heap} (hvm : s.vm.Alike U.vm) (hU : U.heap = H) (hS : va_S (fA ad s.heap.size) s.heap H []) (h : ZW ad s.heap.size s) : ZW ad H.size U := by
  rw [← hU] at hS ⊢
  exact ⟨vx_Zq.moved hvm (vx_Zq.narrow (vx_Zq.kept h.1 hS.2.1) (fA_le hS.1)), vx_Zq.moved hvm (vx_Zq.narrow (vx_Zq.kept h.2 hS.2.1) (fA_le hS.1))⟩
theorem wPre.blind {dC : Nat → ClassId} {dI : Nat → Nat → Nat} {cA : Nat → ClassId} {ad : Nat → Nat} {sz : Nat} {S : HS} {as : List Value} : FrameBlind (va_Pc as (wPre dC dI cA ad sz S)) := by
  intro a U g mk h
  obtain ⟨h1, h2, ⟨h3, h4⟩, h5, h6⟩ := h
  exact ⟨h1, h2, ⟨h3, va_K.moved (u := U) (U := U.calling g mk a) (Vm.Alike.refl U.vm) h4⟩, h5.blind, vx_Zq.moved (u := U) (U := U.calling g mk a) (Vm.Alike.refl U.vm) h6.1, vx_Zq.moved (u := U) (U := U.calling g mk a) (Vm.Alike.refl U.vm) h6.2⟩
abbrev GT : Type := Nat → Nat → HS → List (Nat × AV) → Nat → List AV → Prop
def gL (ad : Nat → Nat) (lv : List (Nat × AV)) : List (Nat × Value) := lv.map fun q => (q.1, gV ad q.2)
def Go (p : Program) (l : Launch) (e : Env) (R : Room) (s : State) (m : MethodId) (args : Array Value) (below : List Frame) (meth : Method) (c : Code) (dC : Nat → ClassId) (dI : Nat → Nat → Nat) (cA : Nat → ClassId) (ad : Nat → Nat) (nL : Nat) (Q : State → Prop) : GT := fun k n S lv pc st =>
  ∀ (H : Heap) (locs : List Loc) (ls : Array Slot), va_P (dC, dI) vwCl (wld cA ad S) H → va_S (fA ad s.heap.size) s.heap H locs → lv_has ls nL (gL ad lv) → W p l e R s m args below meth c H locs k n Q (F0 m pc ls (st.map (gV ad)))
def OK (l : Launch) (cc : ByteArray) (own : String) (nL : Nat) (R : Room) (G : GT) : Prop :=
  ∃ (p : Program) (e : Env) (s : State) (m : MethodId) (args : Array Value) (below : List Frame) (meth : Method) (c : Code) (dC : Nat → ClassId) (dI : Nat → Nat → Nat) (cA : Nat → ClassId) (ad : Nat → Nat) (Q : State → Prop),
    p.tables.exec = Jvm.exec ∧ c.code = cc ∧ c.maxLocals = nL ∧ s.vm.findClass own = some m.cls ∧ (∀ w ∈ TB, w.before args s = true) ∧ NwA s ∧ va_K (dC, dI) vwCl (tyl cA) s ∧ Inj ad ∧ ZW ad s.heap.size s ∧ G = Go p l e R s m args below meth c dC dI cA ad nL Q
def lget : List (Nat × AV) → Nat → Option AV
  | [], _ => none
  | (j, v) :: t, i => if i = j then some v else lget t i
theorem lget_at {ad : Nat → Nat} {lv : List (Nat × AV)} {i : Nat} {v : AV} {ls : Array Slot} {nL : Nat} (hl : lv_has ls nL (gL ad lv)) (h : lget lv i = some v) : ls[i]? = some (.val (gV ad v)) := by
  refine hl.2.2 (i, gV ad v) ?_
  clear hl
  induction lv with
  | nil => cases h
  | cons q t ih =>
    obtain ⟨j, u⟩ := q
    unfold lget at h
    by_cases hj : i = j
    · rw [if_pos hj] at h
      cases h
      subst hj
      exact List.mem_cons_self
    · rw [if_neg hj] at h
      exact List.mem_cons_of_mem _ (ih h)
def lset (lv : List (Nat × AV)) (i : Nat) (v : AV) : List (Nat × AV) := (i, v) :: lv.filter (fun q => !(q.1 == i) && !(q.1 + 1 == i && cat2 q.2))
def lsetL (lv : List (Nat × AV)) (i : Nat) (v : AV) : List (Nat × AV) := (i, v) :: lv.filter (fun q => !(q.1 == i) && (!(q.1 == i + 1) && !(q.1 + 1 == i && cat2 q.2)))
theorem gV_cat (ad : Nat → Nat) (v : AV) : ((gV ad v).category == 2) = cat2 v := by
  rcases v with x | x | r
  · rfl
  · rfl
  · cases r <;> rfl
theorem gV_cat1 {ad : Nat → Nat} {v : AV} (h : cat2 v = false) : (gV ad v).category = 1 := by
  rcases v with x | x | r
  · rfl
  · cases h
  · cases r <;> rfl
theorem gL_lset (ad : Nat → Nat) (lv : List (Nat × AV)) (i : Nat) (v : AV) : (i, gV ad v) :: (gL ad lv).filter (fun q => !(q.1 == i) && !(q.1 + 1 == i && q.2.category == 2)) = gL ad (lset lv i v) := by
  unfold gL lset
  rw [List.map_cons, List.filter_map]
  congr 2
  apply List.filter_congr
  intro q _
  simp only [Function.comp, gV_cat]
theorem gL_lsetL (ad : Nat → Nat) (lv : List (Nat × AV)) (i : Nat) (v : AV) : (i, gV ad v) :: (gL ad lv).filter (fun q => !(q.1 == i) && (!(q.1 == i + 1) && !(q.1 + 1 == i && q.2.category == 2))) = gL ad (lsetL lv i v) := by
  unfold gL lsetL
  rw [List.map_cons, List.filter_map]
  congr 2
  apply List.filter_congr
  intro q _
  simp only [Function.comp, gV_cat]
def ib (i : Int32) (n : Nat) : Bool := decide (0 ≤ i) && decide (i.toNatClampNeg < n)
theorem ib_in {i : Int32} {n : Nat} (h : ib i n = true) : vp_in i n := by
  unfold ib at h
  rw [Bool.and_eq_true, decide_eq_true_eq, decide_eq_true_eq] at h
  rintro (q | q)
  · rw [Int32.lt_iff_toInt_lt] at q
    have h1 := h.1
    rw [Int32.le_iff_toInt_le] at h1
    omega
  · omega
def nz (x : Int32) : Bool := decide (x = 0) || decide (x = 1)
theorem nz_ok {x : Int32} (h : nz x = true) : narrow .boolean (.int x) = .int x ∧ fits .boolean (.int x) = true := by
  unfold nz at h
  rw [Bool.or_eq_true, decide_eq_true_eq, decide_eq_true_eq] at h
  rcases h with rfl | rfl <;> decide
/-- where a field lies, and the word that links it -/
def FL (own : String) (idx ci k : Nat) (ty : FieldType) : Prop :=
  ∃ (C : String) (T : u_T) (N : Nat) (ty0 : Nat → FieldType), vwCl[ci]? = some (C, T, N) ∧ k < N ∧ (∀ w ∈ u_ws C T N, w ∈ TB) ∧ (∀ k, k < N → parseFieldDescriptor (T k).2.2.1 = some (ty0 k)) ∧ (∀ a, a < N → ∀ b, b < N → a ≠ b → (T a).2.1 ≠ (T b).2.1) ∧ ty0 k = ty ∧
    (Cond.fieldLink own idx (T k).1 (T k).2.1 (T k).2.2.1 ∈ TB ∨ ∃ host, Cond.fieldLinkNest own idx (T k).1 (T k).2.1 (T k).2.2.1 host ∈ NF)
def FP (ci k : Nat) : Prop := ∀ C T N, vwCl[ci]? = some (C, T, N) → (T k).2.2.2 = false
section
variable {l : Launch} {cc : ByteArray} {own : String} {nL : Nat} {R : Room} {G : GT} {E : Prop} {k n pc : Nat} {S : HS} {lv : List (Nat × AV)} {st : List AV}

theorem s_aload_n (hG : OK l cc own nL R G) {q : Fin 4} {a : Nat} (hd : decode cc pc = .ok (.aload_n q, 1)) (h : lget lv q.val = some (vR a)) (kk : E → G k n S lv (pc + 1) (vR a :: st)) : E → G k n S lv pc (st) := by
  intro hE
  obtain ⟨p, e, s, m, args, below, meth, c, dC, dI, cA, ad, Q, hx, hb, hml, hown, hts, hnw, hK, hj, hzw, rfl⟩ := hG
  intro H locs ls hP hS hl
  exact lv_aload_n hx hb hd rfl (lget_at hl h) (kk hE H locs ls hP hS hl)
theorem s_aload (hG : OK l cc own nL R G) {i a : Nat} (hd : decode cc pc = .ok (.aload i, 2)) (h : lget lv i = some (vR a)) (kk : E → G k n S lv (pc + 2) (vR a :: st)) : E → G k n S lv pc (st) := by
  intro hE
  obtain ⟨p, e, s, m, args, below, meth, c, dC, dI, cA, ad, Q, hx, hb, hml, hown, hts, hnw, hK, hj, hzw, rfl⟩ := hG
  intro H locs ls hP hS hl
  exact lv_aload hx hb hd (lget_at hl h) (kk hE H locs ls hP hS hl)
theorem s_iload_n (hG : OK l cc own nL R G) {q : Fin 4} {x : Int32} (hd : decode cc pc = .ok (.iload_n q, 1)) (h : lget lv q.val = some (vI x)) (kk : E → G k n S lv (pc + 1) (vI x :: st)) : E → G k n S lv pc (st) := by
  intro hE
  obtain ⟨p, e, s, m, args, below, meth, c, dC, dI, cA, ad, Q, hx, hb, hml, hown, hts, hnw, hK, hj, hzw, rfl⟩ := hG
  intro H locs ls hP hS hl
  exact lv_iload_n hx hb hd rfl (lget_at hl h) (kk hE H locs ls hP hS hl)
theorem s_iload (hG : OK l cc own nL R G) {i : Nat} {x : Int32} (hd : decode cc pc = .ok (.iload i, 2)) (h : lget lv i = some (vI x)) (kk : E → G k n S lv (pc + 2) (vI x :: st)) : E → G k n S lv pc (st) := by
  intro hE
  obtain ⟨p, e, s, m, args, below, meth, c, dC, dI, cA, ad, Q, hx, hb, hml, hown, hts, hnw, hK, hj, hzw, rfl⟩ := hG
  intro H locs ls hP hS hl
  exact lv_iload hx hb hd (lget_at hl h) (kk hE H locs ls hP hS hl)
theorem s_lload_n (hG : OK l cc own nL R G) {q : Fin 4} {x : Int64} (hd : decode cc pc = .ok (.lload_n q, 1)) (h : lget lv q.val = some (vL x)) (kk : E → G k n S lv (pc + 1) (vL x :: st)) : E → G k n S lv pc (st) := by
  intro hE
  obtain ⟨p, e, s, m, args, below, meth, c, dC, dI, cA, ad, Q, hx, hb, hml, hown, hts, hnw, hK, hj, hzw, rfl⟩ := hG
  intro H locs ls hP hS hl
  exact lv_lload_n hx hb hd rfl (lget_at hl h) (kk hE H locs ls hP hS hl)
theorem s_lload (hG : OK l cc own nL R G) {i : Nat} {x : Int64} (hd : decode cc pc = .ok (.lload i, 2)) (h : lget lv i = some (vL x)) (kk : E → G k n S lv (pc + 2) (vL x :: st)) : E → G k n S lv pc (st) := by
  intro hE
  obtain ⟨p, e, s, m, args, below, meth, c, dC, dI, cA, ad, Q, hx, hb, hml, hown, hts, hnw, hK, hj, hzw, rfl⟩ := hG
  intro H locs ls hP hS hl
  exact lv_lload hx hb hd (lget_at hl h) (kk hE H locs ls hP hS hl)
theorem s_istore_n (hG : OK l cc own nL R G) {q : Fin 4} {x : Int32} {lv' : List (Nat × AV)} (hd : decode cc pc = .ok (.istore_n q, 1)) (hn : q.val < nL) (hl : lset lv q.val (vI x) = lv') (kk : E → G k n S lv' (pc + 1) st) : E → G k n S lv pc (vI x :: st) := by
  intro hE
  obtain ⟨p, e, s, m, args, below, meth, c, dC, dI, cA, ad, Q, hx, hb, hml, hown, hts, hnw, hK, hj, hzw, rfl⟩ := hG
  subst hl
  intro H locs ls hP hS hl
  exact lv_istore_n hx hb hd rfl hl hn (gL_lset ad lv q.val (vI x)) (fun ls' hl' => kk hE H locs ls' hP hS hl')
theorem s_istore (hG : OK l cc own nL R G) {i : Nat} {x : Int32} {lv' : List (Nat × AV)} (hd : decode cc pc = .ok (.istore i, 2)) (hn : i < nL) (hl : lset lv i (vI x) = lv') (kk : E → G k n S lv' (pc + 2) st) : E → G k n S lv pc (vI x :: st) := by
  intro hE
  obtain ⟨p, e, s, m, args, below, meth, c, dC, dI, cA, ad, Q, hx, hb, hml, hown, hts, hnw, hK, hj, hzw, rfl⟩ := hG
  subst hl
  intro H locs ls hP hS hl
  exact lv_istore hx hb hd hl hn (gL_lset ad lv i (vI x)) (fun ls' hl' => kk hE H locs ls' hP hS hl')
theorem s_astore_n (hG : OK l cc own nL R G) {q : Fin 4} {a : Nat} {lv' : List (Nat × AV)} (hd : decode cc pc = .ok (.astore_n q, 1)) (hn : q.val < nL) (hl : lset lv q.val (vR a) = lv') (kk : E → G k n S lv' (pc + 1) st) : E → G k n S lv pc (vR a :: st) := by
  intro hE
  obtain ⟨p, e, s, m, args, below, meth, c, dC, dI, cA, ad, Q, hx, hb, hml, hown, hts, hnw, hK, hj, hzw, rfl⟩ := hG
  subst hl
  intro H locs ls hP hS hl
  exact lv_astore_n hx hb hd rfl hl hn (gL_lset ad lv q.val (vR a)) (fun ls' hl' => kk hE H locs ls' hP hS hl')
theorem s_astore (hG : OK l cc own nL R G) {i a : Nat} {lv' : List (Nat × AV)} (hd : decode cc pc = .ok (.astore i, 2)) (hn : i < nL) (hl : lset lv i (vR a) = lv') (kk : E → G k n S lv' (pc + 2) st) : E → G k n S lv pc (vR a :: st) := by
  intro hE
  obtain ⟨p, e, s, m, args, below, meth, c, dC, dI, cA, ad, Q, hx, hb, hml, hown, hts, hnw, hK, hj, hzw, rfl⟩ := hG
  subst hl
  intro H locs ls hP hS hl
  exact lv_astore hx hb hd hl hn (gL_lset ad lv i (vR a)) (fun ls' hl' => kk hE H locs ls' hP hS hl')
theorem s_lstore_n (hG : OK l cc own nL R G) {q : Fin 4} {x : Int64} {lv' : List (Nat × AV)} (hd : decode cc pc = .ok (.lstore_n q, 1)) (hn : q.val + 1 < nL) (hl : lsetL lv q.val (vL x) = lv') (kk : E → G k n S lv' (pc + 1) st) : E → G k n S lv pc (vL x :: st) := by
  intro hE
  obtain ⟨p, e, s, m, args, below, meth, c, dC, dI, cA, ad, Q, hx, hb, hml, hown, hts, hnw, hK, hj, hzw, rfl⟩ := hG
  subst hl
  intro H locs ls hP hS hl
  exact lv_lstore_n hx hb hd rfl hl hn (gL_lsetL ad lv q.val (vL x)) (fun ls' hl' => kk hE H locs ls' hP hS hl')
theorem s_iinc (hG : OK l cc own nL R G) {i : Nat} {z : Int} {x v : Int32} {lv' : List (Nat × AV)} (hd : decode cc pc = .ok (.iinc i z, 3)) (h : lget lv i = some (vI x)) (hv : x + Int32.ofInt z = v) (hn : i < nL) (hl : lset lv i (vI v) = lv') (kk : E → G k n S lv' (pc + 3) st) : E → G k n S lv pc st := by
  intro hE
  obtain ⟨p, e, s, m, args, below, meth, c, dC, dI, cA, ad, Q, hx, hb, hml, hown, hts, hnw, hK, hj, hzw, rfl⟩ := hG
  subst hl
  intro H locs ls hP hS hl
  have hm : (i, Value.int x) ∈ gL ad lv := by
    have h2 := h
    clear kk hl h
    induction lv with
    | nil => cases h2
    | cons q t ih =>
      obtain ⟨j, u⟩ := q
      unfold lget at h2
      by_cases hj : i = j
      · rw [if_pos hj] at h2
        cases h2
        subst hj
        exact List.mem_cons_self
      · rw [if_neg hj] at h2
        exact List.mem_cons_of_mem _ (ih h2)
  obtain ⟨q, hq⟩ := List.getElem?_of_mem hm
  exact lv_iinc hx hb hd hl hq hv hn (gL_lset ad lv i (vI v)) (fun ls' hl' => kk hE H locs ls' hP hS hl')
theorem s_iconst (hG : OK l cc own nL R G) {z : Int} {v : Int32} (hd : decode cc pc = .ok (.iconst z, 1)) (hv : Int32.ofInt z = v) (kk : E → G k n S lv (pc + 1) (vI v :: st)) : E → G k n S lv pc (st) := by
  intro hE
  obtain ⟨p, e, s, m, args, below, meth, c, dC, dI, cA, ad, Q, hx, hb, hml, hown, hts, hnw, hK, hj, hzw, rfl⟩ := hG
  intro H locs ls hP hS hl
  exact lv_iconst hx hb hd hv (kk hE H locs ls hP hS hl)
theorem s_lconst (hG : OK l cc own nL R G) {z : Fin 2} {v : Int64} (hd : decode cc pc = .ok (.lconst z, 1)) (hv : Int64.ofNat (z : Nat) = v) (kk : E → G k n S lv (pc + 1) (vL v :: st)) : E → G k n S lv pc (st) := by
  intro hE
  obtain ⟨p, e, s, m, args, below, meth, c, dC, dI, cA, ad, Q, hx, hb, hml, hown, hts, hnw, hK, hj, hzw, rfl⟩ := hG
  intro H locs ls hP hS hl
  exact lv_lconst hx hb hd hv (kk hE H locs ls hP hS hl)
theorem s_bipush (hG : OK l cc own nL R G) {z : Int} {v : Int32} (hd : decode cc pc = .ok (.bipush z, 2)) (hv : (Int8.ofInt z).toInt32 = v) (kk : E → G k n S lv (pc + 2) (vI v :: st)) : E → G k n S lv pc (st) := by
  intro hE
  obtain ⟨p, e, s, m, args, below, meth, c, dC, dI, cA, ad, Q, hx, hb, hml, hown, hts, hnw, hK, hj, hzw, rfl⟩ := hG
  intro H locs ls hP hS hl
  exact lv_bipush hx hb hd hv (kk hE H locs ls hP hS hl)
theorem s_sipush (hG : OK l cc own nL R G) {z : Int} {v : Int32} (hd : decode cc pc = .ok (.sipush z, 3)) (hv : (Int16.ofInt z).toInt32 = v) (kk : E → G k n S lv (pc + 3) (vI v :: st)) : E → G k n S lv pc (st) := by
  intro hE
  obtain ⟨p, e, s, m, args, below, meth, c, dC, dI, cA, ad, Q, hx, hb, hml, hown, hts, hnw, hK, hj, hzw, rfl⟩ := hG
  intro H locs ls hP hS hl
  exact lv_sipush hx hb hd hv (kk hE H locs ls hP hS hl)
theorem s_ldc (hG : OK l cc own nL R G) {i : Nat} {v : Int32} (hd : decode cc pc = .ok (.ldc i, 2)) (h : Cond.constant own i v ∈ TB) (kk : E → G k n S lv (pc + 2) (vI v :: st)) : E → G k n S lv pc (st) := by
  intro hE
  obtain ⟨p, e, s, m, args, below, meth, c, dC, dI, cA, ad, Q, hx, hb, hml, hown, hts, hnw, hK, hj, hzw, rfl⟩ := hG
  intro H locs ls hP hS hl
  exact lv_ldc hx hb hown (hts _ h) hd (kk hE H locs ls hP hS hl)
theorem s_ldcw (hG : OK l cc own nL R G) {i : Nat} {v : Int32} (hd : decode cc pc = .ok (.ldc_w i, 3)) (h : Cond.constant own i v ∈ TB) (kk : E → G k n S lv (pc + 3) (vI v :: st)) : E → G k n S lv pc (st) := by
  intro hE
  obtain ⟨p, e, s, m, args, below, meth, c, dC, dI, cA, ad, Q, hx, hb, hml, hown, hts, hnw, hK, hj, hzw, rfl⟩ := hG
  intro H locs ls hP hS hl
  exact lv_ldcw hx hb hown (hts _ h) hd (kk hE H locs ls hP hS hl)
theorem s_ldc2 (hG : OK l cc own nL R G) {i : Nat} {v : Int64} (hd : decode cc pc = .ok (.ldc2_w i, 3)) (h : Cond.constantLong own i v ∈ TB) (kk : E → G k n S lv (pc + 3) (vL v :: st)) : E → G k n S lv pc (st) := by
  intro hE
  obtain ⟨p, e, s, m, args, below, meth, c, dC, dI, cA, ad, Q, hx, hb, hml, hown, hts, hnw, hK, hj, hzw, rfl⟩ := hG
  intro H locs ls hP hS hl
  exact lv_ldc2 hx hb hown (hts _ h) hd (kk hE H locs ls hP hS hl)
theorem s_iadd (hG : OK l cc own nL R G) {x y : Int32} (hd : decode cc pc = .ok (.iadd, 1)) (kk : E → G k n S lv (pc + 1) (vI (x + y) :: st)) : E → G k n S lv pc (vI y :: vI x :: st) := by
  intro hE
  obtain ⟨p, e, s, m, args, below, meth, c, dC, dI, cA, ad, Q, hx, hb, hml, hown, hts, hnw, hK, hj, hzw, rfl⟩ := hG
  intro H locs ls hP hS hl
  exact lv_iadd hx hb hd (kk hE H locs ls hP hS hl)
theorem s_isub (hG : OK l cc own nL R G) {x y : Int32} (hd : decode cc pc = .ok (.isub, 1)) (kk : E → G k n S lv (pc + 1) (vI (x - y) :: st)) : E → G k n S lv pc (vI y :: vI x :: st) := by
  intro hE
  obtain ⟨p, e, s, m, args, below, meth, c, dC, dI, cA, ad, Q, hx, hb, hml, hown, hts, hnw, hK, hj, hzw, rfl⟩ := hG
  intro H locs ls hP hS hl
  exact lv_isub hx hb hd (kk hE H locs ls hP hS hl)
theorem s_imul (hG : OK l cc own nL R G) {x y : Int32} (hd : decode cc pc = .ok (.imul, 1)) (kk : E → G k n S lv (pc + 1) (vI (x * y) :: st)) : E → G k n S lv pc (vI y :: vI x :: st) := by
  intro hE
  obtain ⟨p, e, s, m, args, below, meth, c, dC, dI, cA, ad, Q, hx, hb, hml, hown, hts, hnw, hK, hj, hzw, rfl⟩ := hG
  intro H locs ls hP hS hl
  exact lv_imul hx hb hd (kk hE H locs ls hP hS hl)
theorem s_iand (hG : OK l cc own nL R G) {x y : Int32} (hd : decode cc pc = .ok (.iand, 1)) (kk : E → G k n S lv (pc + 1) (vI (x &&& y) :: st)) : E → G k n S lv pc (vI y :: vI x :: st) := by
  intro hE
  obtain ⟨p, e, s, m, args, below, meth, c, dC, dI, cA, ad, Q, hx, hb, hml, hown, hts, hnw, hK, hj, hzw, rfl⟩ := hG
  intro H locs ls hP hS hl
  exact lv_iand hx hb hd (kk hE H locs ls hP hS hl)
theorem s_ior (hG : OK l cc own nL R G) {x y : Int32} (hd : decode cc pc = .ok (.ior, 1)) (kk : E → G k n S lv (pc + 1) (vI (x ||| y) :: st)) : E → G k n S lv pc (vI y :: vI x :: st) := by
  intro hE
  obtain ⟨p, e, s, m, args, below, meth, c, dC, dI, cA, ad, Q, hx, hb, hml, hown, hts, hnw, hK, hj, hzw, rfl⟩ := hG
  intro H locs ls hP hS hl
  exact lv_ior hx hb hd (kk hE H locs ls hP hS hl)
theorem s_ixor (hG : OK l cc own nL R G) {x y : Int32} (hd : decode cc pc = .ok (.ixor, 1)) (kk : E → G k n S lv (pc + 1) (vI (x ^^^ y) :: st)) : E → G k n S lv pc (vI y :: vI x :: st) := by
  intro hE
  obtain ⟨p, e, s, m, args, below, meth, c, dC, dI, cA, ad, Q, hx, hb, hml, hown, hts, hnw, hK, hj, hzw, rfl⟩ := hG
  intro H locs ls hP hS hl
  exact lv_ixor hx hb hd (kk hE H locs ls hP hS hl)
theorem s_ishl (hG : OK l cc own nL R G) {x y : Int32} (hd : decode cc pc = .ok (.ishl, 1)) (kk : E → G k n S lv (pc + 1) (vI (x <<< (y &&& 31)) :: st)) : E → G k n S lv pc (vI y :: vI x :: st) := by
  intro hE
  obtain ⟨p, e, s, m, args, below, meth, c, dC, dI, cA, ad, Q, hx, hb, hml, hown, hts, hnw, hK, hj, hzw, rfl⟩ := hG
  intro H locs ls hP hS hl
  exact lv_ishl hx hb hd (kk hE H locs ls hP hS hl)
theorem s_ishr (hG : OK l cc own nL R G) {x y : Int32} (hd : decode cc pc = .ok (.ishr, 1)) (kk : E → G k n S lv (pc + 1) (vI (x >>> (y &&& 31)) :: st)) : E → G k n S lv pc (vI y :: vI x :: st) := by
  intro hE
  obtain ⟨p, e, s, m, args, below, meth, c, dC, dI, cA, ad, Q, hx, hb, hml, hown, hts, hnw, hK, hj, hzw, rfl⟩ := hG
  intro H locs ls hP hS hl
  exact lv_ishr hx hb hd (kk hE H locs ls hP hS hl)
def ushr (x y : Int32) : Int32 := (x.toUInt32 >>> (y.toUInt32 &&& Int32.toUInt32 31)).toInt32
def lushr (x : Int64) (y : Int32) : Int64 := (x.toUInt64 >>> (y.toInt64.toUInt64 &&& Int64.toUInt64 63)).toInt64
def i2c (x : Int32) : Int32 := (x.toUInt32 % 65536).toInt32
theorem s_iushr (hG : OK l cc own nL R G) {x y : Int32} (hd : decode cc pc = .ok (.iushr, 1)) (kk : E → G k n S lv (pc + 1) (vI (ushr x y) :: st)) : E → G k n S lv pc (vI y :: vI x :: st) := by
  intro hE
  obtain ⟨p, e, s, m, args, below, meth, c, dC, dI, cA, ad, Q, hx, hb, hml, hown, hts, hnw, hK, hj, hzw, rfl⟩ := hG
  intro H locs ls hP hS hl
  exact lv_iushr hx hb hd rfl (kk hE H locs ls hP hS hl)
theorem s_ineg (hG : OK l cc own nL R G) {x : Int32} (hd : decode cc pc = .ok (.ineg, 1)) (kk : E → G k n S lv (pc + 1) (vI (-x) :: st)) : E → G k n S lv pc (vI x :: st) := by
  intro hE
  obtain ⟨p, e, s, m, args, below, meth, c, dC, dI, cA, ad, Q, hx, hb, hml, hown, hts, hnw, hK, hj, hzw, rfl⟩ := hG
  intro H locs ls hP hS hl
  exact lv_ineg hx hb hd (kk hE H locs ls hP hS hl)
theorem s_land (hG : OK l cc own nL R G) {x y : Int64} (hd : decode cc pc = .ok (.land, 1)) (kk : E → G k n S lv (pc + 1) (vL (x &&& y) :: st)) : E → G k n S lv pc (vL y :: vL x :: st) := by
  intro hE
  obtain ⟨p, e, s, m, args, below, meth, c, dC, dI, cA, ad, Q, hx, hb, hml, hown, hts, hnw, hK, hj, hzw, rfl⟩ := hG
  intro H locs ls hP hS hl
  exact lv_land hx hb hd (kk hE H locs ls hP hS hl)
theorem s_lor (hG : OK l cc own nL R G) {x y : Int64} (hd : decode cc pc = .ok (.lor, 1)) (kk : E → G k n S lv (pc + 1) (vL (x ||| y) :: st)) : E → G k n S lv pc (vL y :: vL x :: st) := by
  intro hE
  obtain ⟨p, e, s, m, args, below, meth, c, dC, dI, cA, ad, Q, hx, hb, hml, hown, hts, hnw, hK, hj, hzw, rfl⟩ := hG
  intro H locs ls hP hS hl
  exact lv_lor hx hb hd (kk hE H locs ls hP hS hl)
theorem s_ladd (hG : OK l cc own nL R G) {x y : Int64} (hd : decode cc pc = .ok (.ladd, 1)) (kk : E → G k n S lv (pc + 1) (vL (x + y) :: st)) : E → G k n S lv pc (vL y :: vL x :: st) := by
  intro hE
  obtain ⟨p, e, s, m, args, below, meth, c, dC, dI, cA, ad, Q, hx, hb, hml, hown, hts, hnw, hK, hj, hzw, rfl⟩ := hG
  intro H locs ls hP hS hl
  exact lv_ladd hx hb hd (kk hE H locs ls hP hS hl)
theorem s_lsub (hG : OK l cc own nL R G) {x y : Int64} (hd : decode cc pc = .ok (.lsub, 1)) (kk : E → G k n S lv (pc + 1) (vL (x - y) :: st)) : E → G k n S lv pc (vL y :: vL x :: st) := by
  intro hE
  obtain ⟨p, e, s, m, args, below, meth, c, dC, dI, cA, ad, Q, hx, hb, hml, hown, hts, hnw, hK, hj, hzw, rfl⟩ := hG
  intro H locs ls hP hS hl
  exact lv_lsub hx hb hd (kk hE H locs ls hP hS hl)
theorem s_lshl (hG : OK l cc own nL R G) {x : Int64} {y : Int32} (hd : decode cc pc = .ok (.lshl, 1)) (kk : E → G k n S lv (pc + 1) (vL (x <<< (y.toInt64 &&& 63)) :: st)) : E → G k n S lv pc (vI y :: vL x :: st) := by
  intro hE
  obtain ⟨p, e, s, m, args, below, meth, c, dC, dI, cA, ad, Q, hx, hb, hml, hown, hts, hnw, hK, hj, hzw, rfl⟩ := hG
  intro H locs ls hP hS hl
  exact lv_lshl hx hb hd rfl (kk hE H locs ls hP hS hl)
theorem s_lshr (hG : OK l cc own nL R G) {x : Int64} {y : Int32} (hd : decode cc pc = .ok (.lshr, 1)) (kk : E → G k n S lv (pc + 1) (vL (x >>> (y.toInt64 &&& 63)) :: st)) : E → G k n S lv pc (vI y :: vL x :: st) := by
  intro hE
  obtain ⟨p, e, s, m, args, below, meth, c, dC, dI, cA, ad, Q, hx, hb, hml, hown, hts, hnw, hK, hj, hzw, rfl⟩ := hG
  intro H locs ls hP hS hl
  exact lv_lshr hx hb hd rfl (kk hE H locs ls hP hS hl)
theorem s_lushr (hG : OK l cc own nL R G) {x : Int64} {y : Int32} (hd : decode cc pc = .ok (.lushr, 1)) (kk : E → G k n S lv (pc + 1) (vL (lushr x y) :: st)) : E → G k n S lv pc (vI y :: vL x :: st) := by
  intro hE
  obtain ⟨p, e, s, m, args, below, meth, c, dC, dI, cA, ad, Q, hx, hb, hml, hown, hts, hnw, hK, hj, hzw, rfl⟩ := hG
  intro H locs ls hP hS hl
  exact lv_lushr hx hb hd rfl (kk hE H locs ls hP hS hl)
theorem s_lcmp (hG : OK l cc own nL R G) {x y : Int64} (hd : decode cc pc = .ok (.lcmp, 1)) (kk : E → G k n S lv (pc + 1) (vI (lg_cmp x y) :: st)) : E → G k n S lv pc (vL y :: vL x :: st) := by
  intro hE
  obtain ⟨p, e, s, m, args, below, meth, c, dC, dI, cA, ad, Q, hx, hb, hml, hown, hts, hnw, hK, hj, hzw, rfl⟩ := hG
  intro H locs ls hP hS hl
  exact W.lcmp hx hb hd (kk hE H locs ls hP hS hl)
theorem s_i2l (hG : OK l cc own nL R G) {x : Int32} (hd : decode cc pc = .ok (.i2l, 1)) (kk : E → G k n S lv (pc + 1) (vL x.toInt64 :: st)) : E → G k n S lv pc (vI x :: st) := by
  intro hE
  obtain ⟨p, e, s, m, args, below, meth, c, dC, dI, cA, ad, Q, hx, hb, hml, hown, hts, hnw, hK, hj, hzw, rfl⟩ := hG
  intro H locs ls hP hS hl
  exact lv_i2l hx hb hd rfl (kk hE H locs ls hP hS hl)
theorem s_l2i (hG : OK l cc own nL R G) {x : Int64} (hd : decode cc pc = .ok (.l2i, 1)) (kk : E → G k n S lv (pc + 1) (vI x.toInt32 :: st)) : E → G k n S lv pc (vL x :: st) := by
  intro hE
  obtain ⟨p, e, s, m, args, below, meth, c, dC, dI, cA, ad, Q, hx, hb, hml, hown, hts, hnw, hK, hj, hzw, rfl⟩ := hG
  intro H locs ls hP hS hl
  exact lv_l2i hx hb hd rfl (kk hE H locs ls hP hS hl)
theorem s_i2c (hG : OK l cc own nL R G) {x : Int32} (hd : decode cc pc = .ok (.i2c, 1)) (kk : E → G k n S lv (pc + 1) (vI (i2c x) :: st)) : E → G k n S lv pc (vI x :: st) := by
  intro hE
  obtain ⟨p, e, s, m, args, below, meth, c, dC, dI, cA, ad, Q, hx, hb, hml, hown, hts, hnw, hK, hj, hzw, rfl⟩ := hG
  intro H locs ls hP hS hl
  exact lv_i2c hx hb hd rfl (kk hE H locs ls hP hS hl)
theorem s_dup (hG : OK l cc own nL R G) {v : AV} (hd : decode cc pc = .ok (.dup, 1)) (hc : cat2 v = false) (kk : E → G k n S lv (pc + 1) (v :: v :: st)) : E → G k n S lv pc (v :: st) := by
  intro hE
  obtain ⟨p, e, s, m, args, below, meth, c, dC, dI, cA, ad, Q, hx, hb, hml, hown, hts, hnw, hK, hj, hzw, rfl⟩ := hG
  intro H locs ls hP hS hl
  exact lv_dup hx hb hd (gV_cat1 hc) (kk hE H locs ls hP hS hl)
theorem s_dup2 (hG : OK l cc own nL R G) {v u : AV} (hd : decode cc pc = .ok (.dup2, 1)) (hc : cat2 v = false) (hc2 : cat2 u = false) (kk : E → G k n S lv (pc + 1) (v :: u :: v :: u :: st)) : E → G k n S lv pc (v :: u :: st) := by
  intro hE
  obtain ⟨p, e, s, m, args, below, meth, c, dC, dI, cA, ad, Q, hx, hb, hml, hown, hts, hnw, hK, hj, hzw, rfl⟩ := hG
  intro H locs ls hP hS hl
  exact lv_dup2_11 hx hb hd (gV_cat1 hc) (gV_cat1 hc2) (kk hE H locs ls hP hS hl)
theorem s_pop (hG : OK l cc own nL R G) {v : AV} (hd : decode cc pc = .ok (.pop, 1)) (hc : cat2 v = false) (kk : E → G k n S lv (pc + 1) (st)) : E → G k n S lv pc (v :: st) := by
  intro hE
  obtain ⟨p, e, s, m, args, below, meth, c, dC, dI, cA, ad, Q, hx, hb, hml, hown, hts, hnw, hK, hj, hzw, rfl⟩ := hG
  intro H locs ls hP hS hl
  exact lv_pop hx hb hd (gV_cat1 hc) (kk hE H locs ls hP hS hl)
theorem s_goto (hG : OK l cc own nL R G) {off : Int} {tgt : Nat} (hd : decode cc pc = .ok (.goto off, 3)) (ht : (pc : Int) + off = (tgt : Int)) (kk : E → G k n S lv tgt st) : E → G k n S lv pc st := by
  intro hE
  obtain ⟨p, e, s, m, args, below, meth, c, dC, dI, cA, ad, Q, hx, hb, hml, hown, hts, hnw, hK, hj, hzw, rfl⟩ := hG
  intro H locs ls hP hS hl
  exact lv_goto hx hb hd ht (kk hE H locs ls hP hS hl)
theorem s_lv (hG : OK l cc own nL R G) {lv' : List (Nat × AV)} (ks : List Nat) (h : ks.filterMap (fun i => lv[i]?) = lv') (kk : E → G k n S lv' pc st) : E → G k n S lv pc st := by
  intro hE
  obtain ⟨p, e, s, m, args, below, meth, c, dC, dI, cA, ad, Q, hx, hb, hml, hown, hts, hnw, hK, hj, hzw, rfl⟩ := hG
  intro H locs ls hP hS hl
  refine kk hE H locs ls hP hS (lv_sub hl ks ?_)
  subst h
  unfold lv_pick gL
  rw [List.map_filterMap]
  congr 1
  funext i
  simp
theorem s_idiv (hG : OK l cc own nL R G) {α : Type} {A : Option α} {out : α} {x y : Int32} (hd : decode cc pc = .ok (.idiv, 1)) (kk : A = some out → G k n S lv (pc + 1) (vI (x / y) :: st)) : (if y = 0 then none else A) = some out → G k n S lv pc (vI y :: vI x :: st) := by
  intro hE
  by_cases hy : y = 0
  · rw [if_pos hy] at hE; cases hE
  rw [if_neg hy] at hE
  obtain ⟨p, e, s, m, args, below, meth, c, dC, dI, cA, ad, Q, hx, hb, hml, hown, hts, hnw, hK, hj, hzw, rfl⟩ := hG
  intro H locs ls hP hS hl
  exact lv_idiv hx hb hd hy (kk hE H locs ls hP hS hl)
theorem s_irem (hG : OK l cc own nL R G) {α : Type} {A : Option α} {out : α} {x y : Int32} (hd : decode cc pc = .ok (.irem, 1)) (kk : A = some out → G k n S lv (pc + 1) (vI (x - x / y * y) :: st)) : (if y = 0 then none else A) = some out → G k n S lv pc (vI y :: vI x :: st) := by
  intro hE
  by_cases hy : y = 0
  · rw [if_pos hy] at hE; cases hE
  rw [if_neg hy] at hE
  obtain ⟨p, e, s, m, args, below, meth, c, dC, dI, cA, ad, Q, hx, hb, hml, hown, hts, hnw, hK, hj, hzw, rfl⟩ := hG
  intro H locs ls hP hS hl
  exact lv_irem hx hb hd hy (kk hE H locs ls hP hS hl)
theorem s_if_eq (hG : OK l cc own nL R G) {α : Type} {A B : Option α} {out : α} {x : Int32} {off : Int} {tgt : Nat} (hd : decode cc pc = .ok (.ifCond .eq off, 3)) (ht : (pc : Int) + off = (tgt : Int)) (kt : A = some out → G k n S lv tgt st) (kf : B = some out → G k n S lv (pc + 3) st) : (if x = 0 then A else B) = some out → G k n S lv pc (vI x :: st) := by
  intro hE
  obtain ⟨p, e, s, m, args, below, meth, c, dC, dI, cA, ad, Q, hx, hb, hml, hown, hts, hnw, hK, hj, hzw, rfl⟩ := hG
  intro H locs ls hP hS hl
  exact lv_if_eq hx hb hd ht (fun h => kt (by rwa [if_pos h] at hE) H locs ls hP hS hl) (fun h => kf (by rwa [if_neg h] at hE) H locs ls hP hS hl)
theorem s_if_lt (hG : OK l cc own nL R G) {α : Type} {A B : Option α} {out : α} {x : Int32} {off : Int} {tgt : Nat} (hd : decode cc pc = .ok (.ifCond .lt off, 3)) (ht : (pc : Int) + off = (tgt : Int)) (kt : A = some out → G k n S lv tgt st) (kf : B = some out → G k n S lv (pc + 3) st) : (if x < 0 then A else B) = some out → G k n S lv pc (vI x :: st) := by
  intro hE
  obtain ⟨p, e, s, m, args, below, meth, c, dC, dI, cA, ad, Q, hx, hb, hml, hown, hts, hnw, hK, hj, hzw, rfl⟩ := hG
  intro H locs ls hP hS hl
  exact lv_if_lt hx hb hd ht (fun h => kt (by rwa [if_pos h] at hE) H locs ls hP hS hl) (fun h => kf (by rwa [if_neg h] at hE) H locs ls hP hS hl)
theorem s_if_le (hG : OK l cc own nL R G) {α : Type} {A B : Option α} {out : α} {x : Int32} {off : Int} {tgt : Nat} (hd : decode cc pc = .ok (.ifCond .le off, 3)) (ht : (pc : Int) + off = (tgt : Int)) (kt : A = some out → G k n S lv tgt st) (kf : B = some out → G k n S lv (pc + 3) st) : (if x ≤ 0 then A else B) = some out → G k n S lv pc (vI x :: st) := by
  intro hE
  obtain ⟨p, e, s, m, args, below, meth, c, dC, dI, cA, ad, Q, hx, hb, hml, hown, hts, hnw, hK, hj, hzw, rfl⟩ := hG
  intro H locs ls hP hS hl
  exact lv_if_le hx hb hd ht (fun h => kt (by rwa [if_pos h] at hE) H locs ls hP hS hl) (fun h => kf (by rwa [if_neg h] at hE) H locs ls hP hS hl)
theorem s_if_ge (hG : OK l cc own nL R G) {α : Type} {A B : Option α} {out : α} {x : Int32} {off : Int} {tgt : Nat} (hd : decode cc pc = .ok (.ifCond .ge off, 3)) (ht : (pc : Int) + off = (tgt : Int)) (kt : A = some out → G k n S lv tgt st) (kf : B = some out → G k n S lv (pc + 3) st) : (if 0 ≤ x then A else B) = some out → G k n S lv pc (vI x :: st) := by
  intro hE
  obtain ⟨p, e, s, m, args, below, meth, c, dC, dI, cA, ad, Q, hx, hb, hml, hown, hts, hnw, hK, hj, hzw, rfl⟩ := hG
  intro H locs ls hP hS hl
  exact lv_if_ge hx hb hd ht (fun h => kt (by rwa [if_pos h] at hE) H locs ls hP hS hl) (fun h => kf (by rwa [if_neg h] at hE) H locs ls hP hS hl)
theorem s_if_gt (hG : OK l cc own nL R G) {α : Type} {A B : Option α} {out : α} {x : Int32} {off : Int} {tgt : Nat} (hd : decode cc pc = .ok (.ifCond .gt off, 3)) (ht : (pc : Int) + off = (tgt : Int)) (kt : A = some out → G k n S lv tgt st) (kf : B = some out → G k n S lv (pc + 3) st) : (if 0 < x then A else B) = some out → G k n S lv pc (vI x :: st) := by
  intro hE
  obtain ⟨p, e, s, m, args, below, meth, c, dC, dI, cA, ad, Q, hx, hb, hml, hown, hts, hnw, hK, hj, hzw, rfl⟩ := hG
  intro H locs ls hP hS hl
  exact lv_if_gt hx hb hd ht (fun h => kt (by rwa [if_pos h] at hE) H locs ls hP hS hl) (fun h => kf (by rwa [if_neg h] at hE) H locs ls hP hS hl)
theorem s_icmp_eq (hG : OK l cc own nL R G) {α : Type} {A B : Option α} {out : α} {x y : Int32} {off : Int} {tgt : Nat} (hd : decode cc pc = .ok (.if_icmp .eq off, 3)) (ht : (pc : Int) + off = (tgt : Int)) (kt : A = some out → G k n S lv tgt st) (kf : B = some out → G k n S lv (pc + 3) st) : (if x = y then A else B) = some out → G k n S lv pc (vI y :: vI x :: st) := by
  intro hE
  obtain ⟨p, e, s, m, args, below, meth, c, dC, dI, cA, ad, Q, hx, hb, hml, hown, hts, hnw, hK, hj, hzw, rfl⟩ := hG
  intro H locs ls hP hS hl
  exact lv_icmp_eq hx hb hd ht (fun h => kt (by rwa [if_pos h] at hE) H locs ls hP hS hl) (fun h => kf (by rwa [if_neg h] at hE) H locs ls hP hS hl)
theorem s_icmp_lt (hG : OK l cc own nL R G) {α : Type} {A B : Option α} {out : α} {x y : Int32} {off : Int} {tgt : Nat} (hd : decode cc pc = .ok (.if_icmp .lt off, 3)) (ht : (pc : Int) + off = (tgt : Int)) (kt : A = some out → G k n S lv tgt st) (kf : B = some out → G k n S lv (pc + 3) st) : (if x < y then A else B) = some out → G k n S lv pc (vI y :: vI x :: st) := by
  intro hE
  obtain ⟨p, e, s, m, args, below, meth, c, dC, dI, cA, ad, Q, hx, hb, hml, hown, hts, hnw, hK, hj, hzw, rfl⟩ := hG
  intro H locs ls hP hS hl
  exact lv_icmp_lt hx hb hd ht (fun h => kt (by rwa [if_pos h] at hE) H locs ls hP hS hl) (fun h => kf (by rwa [if_neg h] at hE) H locs ls hP hS hl)
theorem s_icmp_gt (hG : OK l cc own nL R G) {α : Type} {A B : Option α} {out : α} {x y : Int32} {off : Int} {tgt : Nat} (hd : decode cc pc = .ok (.if_icmp .gt off, 3)) (ht : (pc : Int) + off = (tgt : Int)) (kt : A = some out → G k n S lv tgt st) (kf : B = some out → G k n S lv (pc + 3) st) : (if y < x then A else B) = some out → G k n S lv pc (vI y :: vI x :: st) := by
  intro hE
  obtain ⟨p, e, s, m, args, below, meth, c, dC, dI, cA, ad, Q, hx, hb, hml, hown, hts, hnw, hK, hj, hzw, rfl⟩ := hG
  intro H locs ls hP hS hl
  exact lv_icmp_gt hx hb hd ht (fun h => kt (by rwa [if_pos h] at hE) H locs ls hP hS hl) (fun h => kf (by rwa [if_neg h] at hE) H locs ls hP hS hl)
theorem s_icmp_le (hG : OK l cc own nL R G) {α : Type} {A B : Option α} {out : α} {x y : Int32} {off : Int} {tgt : Nat} (hd : decode cc pc = .ok (.if_icmp .le off, 3)) (ht : (pc : Int) + off = (tgt : Int)) (kt : A = some out → G k n S lv tgt st) (kf : B = some out → G k n S lv (pc + 3) st) : (if x ≤ y then A else B) = some out → G k n S lv pc (vI y :: vI x :: st) := by
  intro hE
  obtain ⟨p, e, s, m, args, below, meth, c, dC, dI, cA, ad, Q, hx, hb, hml, hown, hts, hnw, hK, hj, hzw, rfl⟩ := hG
  intro H locs ls hP hS hl
  exact lv_icmp_le hx hb hd ht (fun h => kt (by rwa [if_pos h] at hE) H locs ls hP hS hl) (fun h => kf (by rwa [if_neg h] at hE) H locs ls hP hS hl)
theorem s_icmp_ge (hG : OK l cc own nL R G) {α : Type} {A B : Option α} {out : α} {x y : Int32} {off : Int} {tgt : Nat} (hd : decode cc pc = .ok (.if_icmp .ge off, 3)) (ht : (pc : Int) + off = (tgt : Int)) (kt : A = some out → G k n S lv tgt st) (kf : B = some out → G k n S lv (pc + 3) st) : (if y ≤ x then A else B) = some out → G k n S lv pc (vI y :: vI x :: st) := by
  intro hE
  obtain ⟨p, e, s, m, args, below, meth, c, dC, dI, cA, ad, Q, hx, hb, hml, hown, hts, hnw, hK, hj, hzw, rfl⟩ := hG
  intro H locs ls hP hS hl
  exact lv_icmp_ge hx hb hd ht (fun h => kt (by rwa [if_pos h] at hE) H locs ls hP hS hl) (fun h => kf (by rwa [if_neg h] at hE) H locs ls hP hS hl)
theorem s_if_ne (hG : OK l cc own nL R G) {α : Type} {A B : Option α} {out : α} {x : Int32} {off : Int} {tgt : Nat} (hd : decode cc pc = .ok (.ifCond .ne off, 3)) (ht : (pc : Int) + off = (tgt : Int)) (kt : A = some out → G k n S lv tgt st) (kf : B = some out → G k n S lv (pc + 3) st) : (if x = 0 then B else A) = some out → G k n S lv pc (vI x :: st) := by
  intro hE
  obtain ⟨p, e, s, m, args, below, meth, c, dC, dI, cA, ad, Q, hx, hb, hml, hown, hts, hnw, hK, hj, hzw, rfl⟩ := hG
  intro H locs ls hP hS hl
  exact lv_if_ne hx hb hd ht (fun h => kt (by rwa [if_neg h] at hE) H locs ls hP hS hl) (fun h => kf (by rwa [if_pos h] at hE) H locs ls hP hS hl)
theorem s_icmp_ne (hG : OK l cc own nL R G) {α : Type} {A B : Option α} {out : α} {x y : Int32} {off : Int} {tgt : Nat} (hd : decode cc pc = .ok (.if_icmp .ne off, 3)) (ht : (pc : Int) + off = (tgt : Int)) (kt : A = some out → G k n S lv tgt st) (kf : B = some out → G k n S lv (pc + 3) st) : (if x = y then B else A) = some out → G k n S lv pc (vI y :: vI x :: st) := by
  intro hE
  obtain ⟨p, e, s, m, args, below, meth, c, dC, dI, cA, ad, Q, hx, hb, hml, hown, hts, hnw, hK, hj, hzw, rfl⟩ := hG
  intro H locs ls hP hS hl
  exact lv_icmp_ne hx hb hd ht (fun h => kt (by rwa [if_neg h] at hE) H locs ls hP hS hl) (fun h => kf (by rwa [if_pos h] at hE) H locs ls hP hS hl)
theorem s_getI (hG : OK l cc own nL R G) {a kf ci idx z : Nat} {ty : FieldType} (hd : decode cc pc = .ok (.getfield idx, 3)) (hf : FL own idx ci kf ty) (h : fk a kf = some (ci, (0, z))) (kk : E → G k n S lv (pc + 3) (vI (S.1 a kf) :: st)) : E → G k n S lv pc (vR a :: st) := by
  intro hE
  obtain ⟨p, e, s, m, args, below, meth, c, dC, dI, cA, ad, Q, hx, hb, hml, hown, hts, hnw, hK, hj, hzw, rfl⟩ := hG
  intro H locs ls hP hS hl
  obtain ⟨ks, h1, h2⟩ := fk_at h
  obtain ⟨C, T, N, ty0, hc, hk, hin, hty, hnm, -, hlk⟩ := hf
  have he := wld_at (cA := cA) (ad := ad) (S := S) h1
  have hv : (ks.mapIdx fun j kd => fV ad S a j kd)[kf]? = some (.int (S.1 a kf)) := by
    rw [List.getElem?_mapIdx, h2]
    simp [fV]
  rcases hlk with hlk | ⟨host, hlk⟩
  · exact va_get (D := (dC, dI)) (ci := ci) (C := C) (T := T) (N := N) hx hb hts hin hown hK hP a he hc kf hk (hts _ hlk) (fun _ h9 => h9) hv hd (kk hE H locs ls hP hS hl)
  · exact va_getN (D := (dC, dI)) (ci := ci) (C := C) (T := T) (N := N) hx hb hts hin hown hK hP a he hc kf hk (va_Nw.use rfl (hnw.1 _ hlk)) (fun _ h9 => h9) hv hd (kk hE H locs ls hP hS hl)
theorem s_getL (hG : OK l cc own nL R G) {a kf ci idx z : Nat} {ty : FieldType} (hd : decode cc pc = .ok (.getfield idx, 3)) (hf : FL own idx ci kf ty) (h : fk a kf = some (ci, (1, z))) (kk : E → G k n S lv (pc + 3) (vL (S.2.1 a kf) :: st)) : E → G k n S lv pc (vR a :: st) := by
  intro hE
  obtain ⟨p, e, s, m, args, below, meth, c, dC, dI, cA, ad, Q, hx, hb, hml, hown, hts, hnw, hK, hj, hzw, rfl⟩ := hG
  intro H locs ls hP hS hl
  obtain ⟨ks, h1, h2⟩ := fk_at h
  obtain ⟨C, T, N, ty0, hc, hk, hin, hty, hnm, -, hlk⟩ := hf
  have he := wld_at (cA := cA) (ad := ad) (S := S) h1
  have hv : (ks.mapIdx fun j kd => fV ad S a j kd)[kf]? = some (.long (S.2.1 a kf)) := by
    rw [List.getElem?_mapIdx, h2]
    simp [fV]
  rcases hlk with hlk | ⟨host, hlk⟩
  · exact va_get (D := (dC, dI)) (ci := ci) (C := C) (T := T) (N := N) hx hb hts hin hown hK hP a he hc kf hk (hts _ hlk) (fun _ h9 => h9) hv hd (kk hE H locs ls hP hS hl)
  · exact va_getN (D := (dC, dI)) (ci := ci) (C := C) (T := T) (N := N) hx hb hts hin hown hK hP a he hc kf hk (va_Nw.use rfl (hnw.1 _ hlk)) (fun _ h9 => h9) hv hd (kk hE H locs ls hP hS hl)
theorem s_getC (hG : OK l cc own nL R G) {a kf ci idx z : Nat} {ty : FieldType} (hd : decode cc pc = .ok (.getfield idx, 3)) (hf : FL own idx ci kf ty) (h : fk a kf = some (ci, (3, z))) (kk : E → G k n S lv (pc + 3) (vR z :: st)) : E → G k n S lv pc (vR a :: st) := by
  intro hE
  obtain ⟨p, e, s, m, args, below, meth, c, dC, dI, cA, ad, Q, hx, hb, hml, hown, hts, hnw, hK, hj, hzw, rfl⟩ := hG
  intro H locs ls hP hS hl
  obtain ⟨ks, h1, h2⟩ := fk_at h
  obtain ⟨C, T, N, ty0, hc, hk, hin, hty, hnm, -, hlk⟩ := hf
  have he := wld_at (cA := cA) (ad := ad) (S := S) h1
  have hv : (ks.mapIdx fun j kd => fV ad S a j kd)[kf]? = some (.ref (ad z)) := by
    rw [List.getElem?_mapIdx, h2]
    simp [fV]
  rcases hlk with hlk | ⟨host, hlk⟩
  · exact va_get (D := (dC, dI)) (ci := ci) (C := C) (T := T) (N := N) hx hb hts hin hown hK hP a he hc kf hk (hts _ hlk) (fun _ h9 => h9) hv hd (kk hE H locs ls hP hS hl)
  · exact va_getN (D := (dC, dI)) (ci := ci) (C := C) (T := T) (N := N) hx hb hts hin hown hK hP a he hc kf hk (va_Nw.use rfl (hnw.1 _ hlk)) (fun _ h9 => h9) hv hd (kk hE H locs ls hP hS hl)
theorem s_getR0 (hG : OK l cc own nL R G) {a kf ci idx z : Nat} {ty : FieldType} {b : Nat} (hd : decode cc pc = .ok (.getfield idx, 3)) (hf : FL own idx ci kf ty) (h : fk a kf = some (ci, (2, z))) (hr : S.2.2 a kf = some b) (kk : E → G k n S lv (pc + 3) (vR b :: st)) : E → G k n S lv pc (vR a :: st) := by
  intro hE
  obtain ⟨p, e, s, m, args, below, meth, c, dC, dI, cA, ad, Q, hx, hb, hml, hown, hts, hnw, hK, hj, hzw, rfl⟩ := hG
  intro H locs ls hP hS hl
  obtain ⟨ks, h1, h2⟩ := fk_at h
  obtain ⟨C, T, N, ty0, hc, hk, hin, hty, hnm, -, hlk⟩ := hf
  have he := wld_at (cA := cA) (ad := ad) (S := S) h1
  have hv : (ks.mapIdx fun j kd => fV ad S a j kd)[kf]? = some (.ref (ad b)) := by
    rw [List.getElem?_mapIdx, h2]
    simp [fV, hr, va_rf]
  rcases hlk with hlk | ⟨host, hlk⟩
  · exact va_get (D := (dC, dI)) (ci := ci) (C := C) (T := T) (N := N) hx hb hts hin hown hK hP a he hc kf hk (hts _ hlk) (fun _ h9 => h9) hv hd (kk hE H locs ls hP hS hl)
  · exact va_getN (D := (dC, dI)) (ci := ci) (C := C) (T := T) (N := N) hx hb hts hin hown hK hP a he hc kf hk (va_Nw.use rfl (hnw.1 _ hlk)) (fun _ h9 => h9) hv hd (kk hE H locs ls hP hS hl)
def rf {α : Type} (r : Option Nat) (ci : Nat) (f : Nat → Option α) : Option α := match r with
  | none => none
  | some b => if oc b = some ci then f b else none
theorem s_getR (hG : OK l cc own nL R G) {α : Type} {out : α} {F : Nat → Option α} {a kf ci idx z cj : Nat} {ty : FieldType} (hd : decode cc pc = .ok (.getfield idx, 3)) (hf : FL own idx ci kf ty) (h : fk a kf = some (ci, (2, z))) (kk : ∀ b, oc b = some cj → F b = some out → G k n S lv (pc + 3) (vR b :: st)) : rf (S.2.2 a kf) cj F = some out → G k n S lv pc (vR a :: st) := by
  intro hE
  unfold rf at hE
  split at hE
  · cases hE
  · next b hb =>
    by_cases ho : oc b = some cj
    · rw [if_pos ho] at hE
      exact s_getR0 hG hd hf h hb (kk b ho) hE
    · rw [if_neg ho] at hE
      cases hE
theorem s_putI (hG : OK l cc own nL R G) {a kf ci idx z : Nat} {ty : FieldType} {x : Int32} (hd : decode cc pc = .ok (.putfield idx, 3)) (hf : FL own idx ci kf ty) (hp : FP ci kf) (h : fk a kf = some (ci, (0, z))) (hn : narrow ty (.int x) = .int x ∧ fits ty (.int x) = true) (kk : E → G k n (sI S a kf x) lv (pc + 3) st) : E → G k n S lv pc (vI x :: vR a :: st) := by
  intro hE
  obtain ⟨p, e, s, m, args, below, meth, c, dC, dI, cA, ad, Q, hx, hb, hml, hown, hts, hnw, hK, hj, hzw, rfl⟩ := hG
  intro H locs ls hP hS hl
  obtain ⟨ks, h1, h2⟩ := fk_at h
  obtain ⟨C, T, N, ty0, hc, hk, hin, hty, hnm, hte, hlk⟩ := hf
  have he := wld_at (cA := cA) (ad := ad) (S := S) h1
  have hD : va_D (fA ad s.heap.size) (wld cA ad S) := wld_D hj (fun k hk => Or.inl ⟨k, hk, rfl⟩)
  have hl9 : kf < (ks.mapIdx fun j kd => fV ad S a j kd).length := by
    rcases List.getElem?_eq_some_iff.mp h2 with ⟨q, -⟩
    simpa using q
  have hpd : parseFieldDescriptor (T kf).2.2.1 = some ty := by rw [hty kf hk, hte]
  rcases hlk with hlk | ⟨host, hlk⟩
  · exact va_put (D := (dC, dI)) (ci := ci) (C := C) (T := T) (N := N) (ty := ty) hx hb hts hin ty0 hty hnm hown hK hP hD hS a he hc kf hk (hts _ hlk) (fun _ h9 => h9) (hp C T N hc) hpd hn.1 hn.2 hl9 hd (fun H1 locs1 hP1 _ hS1 => kk hE H1 locs1 ls (by rw [← setI_obj h1 h2]; exact hP1) hS1 hl)
  · exact va_putN (D := (dC, dI)) (ci := ci) (C := C) (T := T) (N := N) (ty := ty) hx hb hts hin ty0 hty hnm hown hK hP hD hS a he hc kf hk (va_Nw.use rfl (hnw.1 _ hlk)) (fun _ h9 => h9) (hp C T N hc) hpd hn.1 hn.2 hl9 hd (fun H1 locs1 hP1 _ hS1 => kk hE H1 locs1 ls (by rw [← setI_obj h1 h2]; exact hP1) hS1 hl)
theorem s_putL (hG : OK l cc own nL R G) {a kf ci idx z : Nat} {ty : FieldType} {x : Int64} (hd : decode cc pc = .ok (.putfield idx, 3)) (hf : FL own idx ci kf ty) (hp : FP ci kf) (h : fk a kf = some (ci, (1, z))) (hn : narrow ty (.long x) = .long x ∧ fits ty (.long x) = true) (kk : E → G k n (sL S a kf x) lv (pc + 3) st) : E → G k n S lv pc (vL x :: vR a :: st) := by
  intro hE
  obtain ⟨p, e, s, m, args, below, meth, c, dC, dI, cA, ad, Q, hx, hb, hml, hown, hts, hnw, hK, hj, hzw, rfl⟩ := hG
  intro H locs ls hP hS hl
  obtain ⟨ks, h1, h2⟩ := fk_at h
  obtain ⟨C, T, N, ty0, hc, hk, hin, hty, hnm, hte, hlk⟩ := hf
  have he := wld_at (cA := cA) (ad := ad) (S := S) h1
  have hD : va_D (fA ad s.heap.size) (wld cA ad S) := wld_D hj (fun k hk => Or.inl ⟨k, hk, rfl⟩)
  have hl9 : kf < (ks.mapIdx fun j kd => fV ad S a j kd).length := by
    rcases List.getElem?_eq_some_iff.mp h2 with ⟨q, -⟩
    simpa using q
  have hpd : parseFieldDescriptor (T kf).2.2.1 = some ty := by rw [hty kf hk, hte]
  rcases hlk with hlk | ⟨host, hlk⟩
  · exact va_put (D := (dC, dI)) (ci := ci) (C := C) (T := T) (N := N) (ty := ty) hx hb hts hin ty0 hty hnm hown hK hP hD hS a he hc kf hk (hts _ hlk) (fun _ h9 => h9) (hp C T N hc) hpd hn.1 hn.2 hl9 hd (fun H1 locs1 hP1 _ hS1 => kk hE H1 locs1 ls (by rw [← setL_obj h1 h2]; exact hP1) hS1 hl)
  · exact va_putN (D := (dC, dI)) (ci := ci) (C := C) (T := T) (N := N) (ty := ty) hx hb hts hin ty0 hty hnm hown hK hP hD hS a he hc kf hk (va_Nw.use rfl (hnw.1 _ hlk)) (fun _ h9 => h9) (hp C T N hc) hpd hn.1 hn.2 hl9 hd (fun H1 locs1 hP1 _ hS1 => kk hE H1 locs1 ls (by rw [← setL_obj h1 h2]; exact hP1) hS1 hl)
theorem s_putR (hG : OK l cc own nL R G) {a kf ci idx z : Nat} {ty : FieldType} {b : Nat} (hd : decode cc pc = .ok (.putfield idx, 3)) (hf : FL own idx ci kf ty) (hp : FP ci kf) (h : fk a kf = some (ci, (2, z))) (hn : ∀ q9 : Nat, narrow ty (.ref q9) = .ref q9 ∧ fits ty (.ref q9) = true) (kk : E → G k n (sR S a kf (some b)) lv (pc + 3) st) : E → G k n S lv pc (vR b :: vR a :: st) := by
  intro hE
  obtain ⟨p, e, s, m, args, below, meth, c, dC, dI, cA, ad, Q, hx, hb, hml, hown, hts, hnw, hK, hj, hzw, rfl⟩ := hG
  intro H locs ls hP hS hl
  obtain ⟨ks, h1, h2⟩ := fk_at h
  obtain ⟨C, T, N, ty0, hc, hk, hin, hty, hnm, hte, hlk⟩ := hf
  have he := wld_at (cA := cA) (ad := ad) (S := S) h1
  have hD : va_D (fA ad s.heap.size) (wld cA ad S) := wld_D hj (fun k hk => Or.inl ⟨k, hk, rfl⟩)
  have hl9 : kf < (ks.mapIdx fun j kd => fV ad S a j kd).length := by
    rcases List.getElem?_eq_some_iff.mp h2 with ⟨q, -⟩
    simpa using q
  have hpd : parseFieldDescriptor (T kf).2.2.1 = some ty := by rw [hty kf hk, hte]
  rcases hlk with hlk | ⟨host, hlk⟩
  · exact va_put (D := (dC, dI)) (ci := ci) (C := C) (T := T) (N := N) (ty := ty) hx hb hts hin ty0 hty hnm hown hK hP hD hS a he hc kf hk (hts _ hlk) (fun _ h9 => h9) (hp C T N hc) hpd (hn (ad b)).1 (hn (ad b)).2 hl9 hd (fun H1 locs1 hP1 _ hS1 => kk hE H1 locs1 ls (by rw [← setR_obj h1 h2]; exact hP1) hS1 hl)
  · exact va_putN (D := (dC, dI)) (ci := ci) (C := C) (T := T) (N := N) (ty := ty) hx hb hts hin ty0 hty hnm hown hK hP hD hS a he hc kf hk (va_Nw.use rfl (hnw.1 _ hlk)) (fun _ h9 => h9) (hp C T N hc) hpd (hn (ad b)).1 (hn (ad b)).2 hl9 hd (fun H1 locs1 hP1 _ hS1 => kk hE H1 locs1 ls (by rw [← setR_obj h1 h2]; exact hP1) hS1 hl)
theorem s_putZ (hG : OK l cc own nL R G) {α : Type} {A : Option α} {out : α} {a kf ci idx z : Nat} {x : Int32} (hd : decode cc pc = .ok (.putfield idx, 3)) (hf : FL own idx ci kf .boolean) (hp : FP ci kf) (h : fk a kf = some (ci, (0, z))) (kk : A = some out → G k n (sI S a kf x) lv (pc + 3) st) : (if nz x = true then A else none) = some out → G k n S lv pc (vI x :: vR a :: st) := by
  intro hE
  by_cases hy : nz x = true
  · rw [if_pos hy] at hE
    exact s_putI hG hd hf hp h (nz_ok hy) kk hE
  · rw [if_neg hy] at hE; cases hE
theorem s_iaload (hG : OK l cc own nL R G) {α : Type} {A : Option α} {out : α} {a N : Nat} {i : Int32} (hd : decode cc pc = .ok (.iaload, 1)) (h : ak a = some (0, N)) (kk : A = some out → G k n S lv (pc + 1) (vI (S.1 a i.toNatClampNeg) :: st)) : (if ib i N = true then A else none) = some out → G k n S lv pc (vI i :: vR a :: st) := by
  intro hE
  by_cases hy : ib i N = true
  · rw [if_pos hy] at hE
    obtain ⟨p, e, s, m, args, below, meth, c, dC, dI, cA, ad, Q, hx, hb, hml, hown, hts, hnw, hK, hj, hzw, rfl⟩ := hG
    intro H locs ls hP hS hl
    exact va_iald (D := (dC, dI)) hx hb hK hP a 0 (wld_at (ak_at h)) rfl (ib_in hy) hd (kk hE H locs ls hP hS hl)
  · rw [if_neg hy] at hE; cases hE
theorem s_laload (hG : OK l cc own nL R G) {α : Type} {A : Option α} {out : α} {a N : Nat} {i : Int32} (hd : decode cc pc = .ok (.laload, 1)) (h : ak a = some (1, N)) (kk : A = some out → G k n S lv (pc + 1) (vL (S.2.1 a i.toNatClampNeg) :: st)) : (if ib i N = true then A else none) = some out → G k n S lv pc (vI i :: vR a :: st) := by
  intro hE
  by_cases hy : ib i N = true
  · rw [if_pos hy] at hE
    obtain ⟨p, e, s, m, args, below, meth, c, dC, dI, cA, ad, Q, hx, hb, hml, hown, hts, hnw, hK, hj, hzw, rfl⟩ := hG
    intro H locs ls hP hS hl
    exact va_lald (D := (dC, dI)) hx hb hK hP a 1 (wld_at (ak_at h)) rfl (ib_in hy) hd (kk hE H locs ls hP hS hl)
  · rw [if_neg hy] at hE; cases hE
theorem s_caload (hG : OK l cc own nL R G) {α : Type} {A : Option α} {out : α} {a N : Nat} {i : Int32} (hd : decode cc pc = .ok (.caload, 1)) (h : ak a = some (2, N)) (kk : A = some out → G k n S lv (pc + 1) (vI (S.1 a i.toNatClampNeg) :: st)) : (if ib i N = true then A else none) = some out → G k n S lv pc (vI i :: vR a :: st) := by
  intro hE
  by_cases hy : ib i N = true
  · rw [if_pos hy] at hE
    obtain ⟨p, e, s, m, args, below, meth, c, dC, dI, cA, ad, Q, hx, hb, hml, hown, hts, hnw, hK, hj, hzw, rfl⟩ := hG
    intro H locs ls hP hS hl
    exact va_cald (D := (dC, dI)) hx hb hK hP a 2 (wld_at (ak_at h)) rfl (ib_in hy) hd (kk hE H locs ls hP hS hl)
  · rw [if_neg hy] at hE; cases hE
theorem s_baload (hG : OK l cc own nL R G) {α : Type} {A : Option α} {out : α} {a N : Nat} {i : Int32} (hd : decode cc pc = .ok (.baload, 1)) (h : ak a = some (3, N)) (kk : A = some out → G k n S lv (pc + 1) (vI (S.1 a i.toNatClampNeg) :: st)) : (if ib i N = true then A else none) = some out → G k n S lv pc (vI i :: vR a :: st) := by
  intro hE
  by_cases hy : ib i N = true
  · rw [if_pos hy] at hE
    obtain ⟨p, e, s, m, args, below, meth, c, dC, dI, cA, ad, Q, hx, hb, hml, hown, hts, hnw, hK, hj, hzw, rfl⟩ := hG
    intro H locs ls hP hS hl
    exact va_zald (D := (dC, dI)) hx hb hK hP a 3 (wld_at (ak_at h)) rfl (ib_in hy) hd (kk hE H locs ls hP hS hl)
  · rw [if_neg hy] at hE; cases hE
theorem s_iastore (hG : OK l cc own nL R G) {α : Type} {A : Option α} {out : α} {a N : Nat} {i : Int32} {x : Int32} (hd : decode cc pc = .ok (.iastore, 1)) (h : ak a = some (0, N)) (kk : A = some out → G k n (sI S a i.toNatClampNeg x) lv (pc + 1) st) : (if ib i N = true then A else none) = some out → G k n S lv pc (vI x :: vI i :: vR a :: st) := by
  intro hE
  by_cases hy : ib i N = true
  · rw [if_pos hy] at hE
    obtain ⟨p, e, s, m, args, below, meth, c, dC, dI, cA, ad, Q, hx, hb, hml, hown, hts, hnw, hK, hj, hzw, rfl⟩ := hG
    intro H locs ls hP hS hl
    have hD : va_D (fA ad s.heap.size) (wld cA ad S) := wld_D hj (fun k hk => Or.inl ⟨k, hk, rfl⟩)
    exact va_iast (D := (dC, dI)) hx hb hK hP hD hS a 0 (wld_at (ak_at h)) rfl (ib_in hy) hd (fun H1 locs1 hP1 _ hS1 => kk hE H1 locs1 ls (by rw [← setI_arr (ak_at h) (by decide)]; exact hP1) hS1 hl)
  · rw [if_neg hy] at hE; cases hE
theorem s_lastore (hG : OK l cc own nL R G) {α : Type} {A : Option α} {out : α} {a N : Nat} {i : Int32} {x : Int64} (hd : decode cc pc = .ok (.lastore, 1)) (h : ak a = some (1, N)) (kk : A = some out → G k n (sL S a i.toNatClampNeg x) lv (pc + 1) st) : (if ib i N = true then A else none) = some out → G k n S lv pc (vL x :: vI i :: vR a :: st) := by
  intro hE
  by_cases hy : ib i N = true
  · rw [if_pos hy] at hE
    obtain ⟨p, e, s, m, args, below, meth, c, dC, dI, cA, ad, Q, hx, hb, hml, hown, hts, hnw, hK, hj, hzw, rfl⟩ := hG
    intro H locs ls hP hS hl
    have hD : va_D (fA ad s.heap.size) (wld cA ad S) := wld_D hj (fun k hk => Or.inl ⟨k, hk, rfl⟩)
    exact va_last (D := (dC, dI)) hx hb hK hP hD hS a 1 (wld_at (ak_at h)) rfl (ib_in hy) hd (fun H1 locs1 hP1 _ hS1 => kk hE H1 locs1 ls (by rw [← setL_arr (ak_at h)]; exact hP1) hS1 hl)
  · rw [if_neg hy] at hE; cases hE
theorem s_castore (hG : OK l cc own nL R G) {α : Type} {A : Option α} {out : α} {a N : Nat} {i : Int32} {x : Int32} (hd : decode cc pc = .ok (.castore, 1)) (h : ak a = some (2, N)) (kk : A = some out → G k n (sI S a i.toNatClampNeg (vp_nar .char x)) lv (pc + 1) st) : (if ib i N = true then A else none) = some out → G k n S lv pc (vI x :: vI i :: vR a :: st) := by
  intro hE
  by_cases hy : ib i N = true
  · rw [if_pos hy] at hE
    obtain ⟨p, e, s, m, args, below, meth, c, dC, dI, cA, ad, Q, hx, hb, hml, hown, hts, hnw, hK, hj, hzw, rfl⟩ := hG
    intro H locs ls hP hS hl
    have hD : va_D (fA ad s.heap.size) (wld cA ad S) := wld_D hj (fun k hk => Or.inl ⟨k, hk, rfl⟩)
    exact va_cast (D := (dC, dI)) hx hb hK hP hD hS a 2 (wld_at (ak_at h)) rfl (ib_in hy) hd (fun H1 locs1 hP1 _ hS1 => kk hE H1 locs1 ls (by rw [← setI_arr (ak_at h) (by decide)]; exact hP1) hS1 hl)
  · rw [if_neg hy] at hE; cases hE
theorem s_bastore (hG : OK l cc own nL R G) {α : Type} {A : Option α} {out : α} {a N : Nat} {i : Int32} {x : Int32} (hd : decode cc pc = .ok (.bastore, 1)) (h : ak a = some (3, N)) (kk : A = some out → G k n (sI S a i.toNatClampNeg (vp_nar .boolean x)) lv (pc + 1) st) : (if ib i N = true then A else none) = some out → G k n S lv pc (vI x :: vI i :: vR a :: st) := by
  intro hE
  by_cases hy : ib i N = true
  · rw [if_pos hy] at hE
    obtain ⟨p, e, s, m, args, below, meth, c, dC, dI, cA, ad, Q, hx, hb, hml, hown, hts, hnw, hK, hj, hzw, rfl⟩ := hG
    intro H locs ls hP hS hl
    have hD : va_D (fA ad s.heap.size) (wld cA ad S) := wld_D hj (fun k hk => Or.inl ⟨k, hk, rfl⟩)
    exact va_zast (D := (dC, dI)) hx hb hK hP hD hS a 3 (wld_at (ak_at h)) rfl (ib_in hy) hd (fun H1 locs1 hP1 _ hS1 => kk hE H1 locs1 ls (by rw [← setI_arr (ak_at h) (by decide)]; exact hP1) hS1 hl)
  · rw [if_neg hy] at hE; cases hE
theorem s_alen (hG : OK l cc own nL R G) {a t N : Nat} {v : Int32} {ty : FieldType} (hd : decode cc pc = .ok (.arraylength, 1)) (h : ak a = some (t, N)) (ht : ∀ cA, (tyl cA)[t]? = some (cA t, ty)) (hv : Int32.ofNat N = v) (kk : E → G k n S lv (pc + 1) (vI v :: st)) : E → G k n S lv pc (vR a :: st) := by
  intro hE
  obtain ⟨p, e, s, m, args, below, meth, c, dC, dI, cA, ad, Q, hx, hb, hml, hown, hts, hnw, hK, hj, hzw, rfl⟩ := hG
  intro H locs ls hP hS hl
  exact va_alen (D := (dC, dI)) hx hb hK hP a t (wld_at (ak_at h)) (ht cA) hv hd (kk hE H locs ls hP hS hl)
theorem s_copyi (hG : OK l cc own nL R G) {α : Type} {A : Option α} {out : α} {a0 a1 N0 N1 idx : Nat} {sp dp x : Int32} (hd : decode cc pc = .ok (.invokestatic idx, 3)) (hml9 : Cond.methodLink own idx arraycopyName ∈ TB) (h0 : ak a0 = some (0, N0)) (h1 : ak a1 = some (0, N1)) (hR : 1 ≤ R.frames ∧ 8 + (nativeFrameWords "java/lang/System" "arraycopy" 5 + 11) ≤ R.locals) (hst : (st.map fun v => if cat2 v then 2 else 1).sum ≤ 8)
    (kk : A = some out → G k n (sA S a1 (va_cpy (S.1 a0) (S.1 a1) sp.toNatClampNeg dp.toNatClampNeg x.toNatClampNeg)) lv (pc + 3) st) : (if sp < 0 ∨ dp < 0 ∨ x < 0 ∨ N0 < sp.toNatClampNeg + x.toNatClampNeg ∨ N1 < dp.toNatClampNeg + x.toNatClampNeg then none else A) = some out → G k n S lv pc (vI x :: vI dp :: vR a1 :: vI sp :: vR a0 :: st) := by
  intro hE
  by_cases hy : sp < 0 ∨ dp < 0 ∨ x < 0 ∨ N0 < sp.toNatClampNeg + x.toNatClampNeg ∨ N1 < dp.toNatClampNeg + x.toNatClampNeg
  · rw [if_pos hy] at hE; cases hE
  rw [if_neg hy] at hE
  obtain ⟨p, e, s, m, args, below, meth, c, dC, dI, cA, ad, Q, hx, hb, hml, hown, hts, hnw, hK, hj, hzw, rfl⟩ := hG
  intro H locs ls hP hS hl
  have hD : va_D (fA ad s.heap.size) (wld cA ad S) := wld_D hj (fun k hk => Or.inl ⟨k, hk, rfl⟩)
  have hc : ((st.map (gV ad)).map fun v => v.category).sum ≤ 8 := by
    refine Nat.le_trans (Nat.le_of_eq ?_) hst
    rw [List.map_map]
    congr 1
    apply List.map_congr_left
    intro v _
    rcases v with z | z | r
    · rfl
    · rfl
    · cases r <;> rfl
  exact va_copyi (D := (dC, dI)) hx hb (by rw [hml]; exact hl.1.symm) hown (hts _ hml9) (hts (.native arraycopyName) (by decide +kernel)) (hts (.static arraycopyName) (by decide +kernel)) (hts (.initialized "java/lang/System") (by decide +kernel)) hK hP hD hS a0 a1 0 0 (wld_at (ak_at h0)) (wld_at (ak_at h1)) rfl rfl rfl (fun h => hy (Or.inl h)) (fun h => hy (Or.inr (Or.inl h))) (fun h => hy (Or.inr (Or.inr (Or.inl h)))) (by omega) (by omega) (fun _ _ => rfl) hR.1 (by omega) hd (fun H1 locs1 hP1 _ hS1 => kk hE H1 locs1 ls (by rw [← setA_arr (ak_at h1) (by decide)]; exact hP1) hS1 hl)
end
end
section
/-! calls, returns, contracts out of a walk -/
theorem va_S.nil {A : Nat → Prop} {H0 H : Heap} {locs : List Loc} (h : va_S A H0 H locs) : va_S A H0 H [] := ⟨h.1, h.2.1, fun _ q => absurd q List.not_mem_nil⟩
def cats (st : List AV) : Nat := (st.map fun v => if cat2 v then 2 else 1).sum
theorem cats_V (ad : Nat → Nat) (st : List AV) : ((st.map (gV ad)).map fun v => v.category).sum = cats st := by
  unfold cats
  rw [List.map_map]
  congr 1
  apply List.map_congr_left
  intro v _
  rcases v with z | z | r
  · rfl
  · rfl
  · cases r <;> rfl
def yOK (y : MethodName) (np : Nat) : Prop := y.cls ≠ "java/lang/invoke/MethodHandle" ∧ y.cls ≠ "java/lang/invoke/VarHandle" ∧ (parseMethodDescriptor y.desc).map (fun d => d.parameters.length) = some np
def ML (own : String) (idx : Nat) (y : MethodName) : Prop := Cond.methodLink own idx y ∈ TB ∨ ∃ host, Cond.methodLinkNest own idx y host ∈ NF
def MS (own : String) (idx : Nat) (y : MethodName) (np : Nat) : Prop := yOK y np ∧ Cond.static y ∈ TB ∧ Cond.initialized y.cls ∈ TB ∧ ML own idx y
def MV (own : String) (idx ci : Nat) (y : MethodName) (np : Nat) : Prop := yOK y np ∧ Cond.instanceMethod y ∈ TB ∧ Cond.initialized y.cls ∈ TB ∧ ML own idx y ∧ ∃ C T N, vwCl[ci]? = some (C, T, N) ∧ y.cls = C ∧ Cond.selects C y y ∈ TB
theorem TB_in {w : Cond} (h : w ∈ TB) : w ∈ TB ∧ ((w.onTables && w.keeps) = true ∨ ∃ ty, w = .arrayClass ty) := ⟨h, good_of_word (List.all_eq_true.mp TB_good w h)⟩
theorem TB_ws {c : Cond} (h : c ∈ TB) : GoodIn TB (c :: TB) := fun w hw => by
  rcases List.mem_cons.mp hw with rfl | hw
  · exact TB_in h
  · exact TB_in hw
section
variable {p : Program} {l : Launch} {e : Env} {R : Room} {s : State} {m : MethodId} {args : Array Value} {below : List Frame} {meth : Method} {c : Code} {H : Heap} {locs : List Loc} {cells slots : Nat} {Q : State → Prop} {dC : Nat → ClassId} {dI : Nat → Nat → Nat} {cA : Nat → ClassId} {ad : Nat → Nat}
theorem callw {pc : Nat} {ls : Array Slot} {st0 rest : List Value} {a : Array Value} {r : Option AV} {S' : HS} (hr : va_Run p l e R s m args below meth c H locs cells slots 0 0 (F0 m pc ls st0) rest (wQ dC dI cA ad H.size r S' a) (fA ad H.size)) (hS : va_S (fA ad s.heap.size) s.heap H locs)
    (kk : ∀ (H1 : Heap) (locs1 : List Loc), va_P (dC, dI) vwCl (wld cA ad S') H1 → va_S (fA ad s.heap.size) s.heap H1 locs1 → W p l e R s m args below meth c H1 locs1 cells slots Q (F0 m (pc + 3) ls ((r.map (gV ad)).toList ++ rest))) : W p l e R s m args below meth c H locs cells slots Q (F0 m pc ls st0) := by
  intro T hT X
  obtain ⟨v, st₀, t, T', L, h0, X', hL, e1, e2, ⟨⟨hv, hwA⟩, hz, hk⟩, st⟩ := hr T hT X
  cases hv
  rw [h0] at hz hk
  have hA : ∀ q, fA ad H.size q → fA ad s.heap.size q := fA_le hS.1
  obtain ⟨t2, a1, b1⟩ := kk T'.heap (locs ++ L) (by rw [e1]; exact hwA.1)
    ⟨Nat.le_trans hS.1 (by rw [e1]; exact hz), fun q h1 h2 => by rw [e1, hk q (Nat.lt_of_lt_of_le h1 hS.1) (fun z => h2 (hA q z))]; exact hS.2.1 q h1 h2, fun q hq => by
      rcases List.mem_append.mp hq with h | h
      · exact hS.2.2 q h
      · exact hA _ (hL q h)⟩ T' rfl X'
  exact ⟨t2, st t2 a1, b1⟩
end
section
variable {l : Launch} {cc : ByteArray} {own : String} {nL : Nat} {R : Room} {G : GT} {E : Prop} {k n pc : Nat} {S : HS} {lv : List (Nat × AV)} {st : List AV}
theorem s_cs (hG : OK l cc own nL R G) {y : MethodName} {bytes : ByteArray} {nLy idx np : Nat} {ret : Option FieldType} {rm : Room} {as stk : List AV} {r : Option AV} {S' : HS} (hd : decode cc pc = .ok (.invokestatic idx, 3)) (hm : MS own idx y np) (hcode : Cond.code y bytes nLy ret ∈ TB) (hnp : as.length = np) (hrm : rm.cells = 0 ∧ rm.slots = 0) (hR : rm.frames + 1 ≤ R.frames ∧ 8 + (nLy + 11) + rm.locals ≤ R.locals) (hst : cats st ≤ 8) (hkn : k ≤ R.cells ∧ n ≤ R.slots) (hstk : stk = as.reverse ++ st) (hC : Ct l y bytes nLy ret rm as S r S') (kk : G k n S' lv (pc + 3) (r.toList ++ st)) : G k n S lv pc stk := by
  obtain ⟨p, e, s, m, args, below, meth, c, dC, dI, cA, ad, Q, hx, hb, hml, hown, hts, hnw, hK, hj, hzw, rfl⟩ := hG
  intro H locs ls hP hS hl
  obtain ⟨⟨hy1, hy2, hy3⟩, hstat, hini, hlk⟩ := hm
  have hM := hC dC dI cA ad H.size hj
  have hcat : ((st.map (gV ad)).map fun v => v.category).sum ≤ 8 := by rw [cats_V]; exact hst
  have hpre : PreS s H (va_Pc (as.map (gV ad)) (wPre dC dI cA ad H.size S)) (as.map (gV ad)) := ⟨wPre.blind, fun U hU hW => ⟨rfl, by rw [hU], ⟨by rw [hU]; exact hP, va_K.moved hW.alike hK⟩, hnw.warm hW, hzw.to hW.alike hU (hS.nil)⟩⟩
  have hstk2 : stk.map (gV ad) = (as.map (gV ad)).reverse ++ st.map (gV ad) := by rw [hstk, List.map_append, List.map_reverse]
  have hlen : (as.map (gV ad)).length = np := by rw [List.length_map]; exact hnp
  refine callw (dC := dC) (dI := dI) (cA := cA) (r := r) (S' := S') (rest := st.map (gV ad)) (a := (as.map (gV ad)).toArray) ?_ hS (fun H1 locs1 hP1 hS1 => ?_)
  · rcases hlk with hlk | ⟨host, hlk⟩
    · exact va_runS (Ts := TB) (nL := nL) ⟨hx, hb, hml, hown, hts⟩ hM ⟨callB_of np hts (TB_ws hcode) rfl hrm.1 hrm.2 (hts _ hini) (hts _ hlk) ⟨hy1, hy2, hy3⟩ hR, hts _ hstat⟩ hpre rfl hlen hl.1 hstk2 (lv_room hcat) hd ⟨hkn.1, hkn.2⟩
    · exact va_runSN (Ts := TB) (nL := nL) (host := host) ⟨hx, hb, hml, hown, hts⟩ hM ⟨va_cnB np hts (TB_ws hcode) rfl hrm.1 hrm.2 (hnw.1 _ hlk) (hts _ hini) ⟨hy1, hy2, hy3⟩ hR, hts _ hstat, trivial⟩ hpre rfl hlen hl.1 hstk2 (lv_room hcat) hd ⟨hkn.1, hkn.2⟩
  · have h := kk H1 locs1 ls hP1 hS1 hl
    rw [List.map_append] at h
    cases r <;> exact h
theorem s_cv (hG : OK l cc own nL R G) {y : MethodName} {bytes : ByteArray} {nLy idx ci np b : Nat} {ret : Option FieldType} {rm : Room} {as stk : List AV} {r : Option AV} {S' : HS} (hd : decode cc pc = .ok (.invokevirtual idx, 3)) (hm : MV own idx ci y np) (hrec : oc b = some ci) (hcode : Cond.code y bytes nLy ret ∈ TB) (hnp : as.length = np) (hrm : rm.cells = 0 ∧ rm.slots = 0) (hR : rm.frames + 1 ≤ R.frames ∧ 8 + (nLy + 11) + rm.locals ≤ R.locals) (hst : cats st ≤ 8) (hkn : k ≤ R.cells ∧ n ≤ R.slots) (hstk : stk = as.reverse ++ vR b :: st) (hC : Ct l y bytes nLy ret rm (vR b :: as) S r S') (kk : G k n S' lv (pc + 3) (r.toList ++ st)) : G k n S lv pc stk := by
  obtain ⟨p, e, s, m, args, below, meth, c, dC, dI, cA, ad, Q, hx, hb, hml, hown, hts, hnw, hK, hj, hzw, rfl⟩ := hG
  intro H locs ls hP hS hl
  obtain ⟨⟨hy1, hy2, hy3⟩, hinst, hini, hlk, C, T, N, hc, hcls, hsel⟩ := hm
  obtain ⟨ks, hsh⟩ := oc_at hrec
  have hM := hC dC dI cA ad H.size hj
  have hcat : ((st.map (gV ad)).map fun v => v.category).sum ≤ 8 := by rw [cats_V]; exact hst
  have hpre : PreV s H C (ad b) (va_Pc ((vR b :: as).map (gV ad)) (wPre dC dI cA ad H.size S)) (as.map (gV ad)) := ⟨wPre.blind, va_recv (q0 := b) hK hP hc (wld_at hsh), fun U hU hW => ⟨rfl, by rw [hU], ⟨by rw [hU]; exact hP, va_K.moved hW.alike hK⟩, hnw.warm hW, hzw.to hW.alike hU (hS.nil)⟩⟩
  have hstk2 : stk.map (gV ad) = (as.map (gV ad)).reverse ++ Value.ref (ad b) :: st.map (gV ad) := by rw [hstk, List.map_append, List.map_reverse]; rfl
  have hlen : (as.map (gV ad)).length = np := by rw [List.length_map]; exact hnp
  refine callw (dC := dC) (dI := dI) (cA := cA) (r := r) (S' := S') (rest := st.map (gV ad)) (a := (Value.ref (ad b) :: as.map (gV ad)).toArray) ?_ hS (fun H1 locs1 hP1 hS1 => ?_)
  · rcases hlk with hlk | ⟨host, hlk⟩
    · exact va_runV (Ts := TB) (nL := nL) (C := C) ⟨hx, hb, hml, hown, hts⟩ hM ⟨callB_of np hts (TB_ws hcode) rfl hrm.1 hrm.2 (hts _ hini) (hts _ hlk) ⟨hy1, hy2, hy3⟩ hR, hts _ hinst, hts _ hsel⟩ hpre rfl hlen hl.1 hstk2 (lv_room hcat) hd ⟨hkn.1, hkn.2⟩
    · exact va_runVN (Ts := TB) (nL := nL) (C := C) (host := host) ⟨hx, hb, hml, hown, hts⟩ hM ⟨va_cnB np hts (TB_ws hcode) rfl hrm.1 hrm.2 (hnw.1 _ hlk) (hts _ hini) ⟨hy1, hy2, hy3⟩ hR, hts _ hinst, hts _ hsel⟩ hpre rfl hlen hl.1 hstk2 (lv_room hcat) hd ⟨hkn.1, hkn.2⟩
  · have h := kk H1 locs1 ls hP1 hS1 hl
    rw [List.map_append] at h
    cases r <;> exact h
theorem bind_some {α β : Type} {F : Option α} {K : α → Option β} {out : β} (h : F.bind K = some out) : ∃ o, F = some o ∧ K o = some out := by
  cases F with
  | none => cases h
  | some o => exact ⟨o, rfl, h⟩
/-- the ends of a method that doesn't throw -/
def Rt (G : GT) (cc : ByteArray) (ret : Option FieldType) (r : Option AV) (S' : HS) : Prop :=
  (∀ lv pc, ret = none → r = none → decode cc pc = .ok (.return_, 1) → G 0 0 S' lv pc []) ∧
  (∀ lv pc ty x, ret = some ty → narrow ty (.int x) = .int x → r = some (vI x) → decode cc pc = .ok (.ireturn, 1) → G 0 0 S' lv pc [vI x]) ∧
  (∀ lv pc x, ret = some .long → r = some (vL x) → decode cc pc = .ok (.lreturn, 1) → G 0 0 S' lv pc [vL x])
def lvA : Nat → List AV → List (Nat × AV)
  | _, [] => []
  | i, v :: vs => (i, v) :: lvA (if cat2 v then i + 2 else i + 1) vs
theorem lvA_eq (ad : Nat → Nat) : ∀ (as : List AV) (i : Nat), lv_args i (as.map (gV ad)) = gL ad (lvA i as)
  | [], _ => rfl
  | v :: vs, i => by
    have h : (if (gV ad v).category = 2 then i + 2 else i + 1) = (if cat2 v = true then i + 2 else i + 1) := by
      have h2 := gV_cat ad v
      cases hc : cat2 v <;> rw [hc] at h2 <;> simp at h2 <;> simp [h2]
    show (i, gV ad v) :: lv_args (if (gV ad v).category = 2 then i + 2 else i + 1) (vs.map (gV ad)) = _
    rw [h, lvA_eq ad vs]
    rfl
theorem lvA_len (ad : Nat → Nat) : ∀ (as : List AV), (lg_sl (as.map (gV ad))).length = cats as
  | [] => rfl
  | v :: vs => by
    have h2 := gV_cat ad v
    have ih := lvA_len ad vs
    unfold lg_sl cats at *
    rw [List.map_cons, List.flatMap_cons, List.length_append, ih, List.map_cons, List.sum_cons]
    congr 1
    cases hc : cat2 v <;> rw [hc] at h2 <;> simp at h2 <;> simp [h2]
theorem Ct.intro {y : MethodName} {cc : ByteArray} {nL : Nat} {ret : Option FieldType} {rm : Room} {as : List AV} {S : HS} {r : Option AV} {S' : HS} {own : String} {lv : List (Nat × AV)} (hy : plainName y.cls = true) (ho : y.cls = own) (hrm : rm.cells = 0 ∧ rm.slots = 0) (hlv : lvA 0 as = lv) (hn : cats as ≤ nL)
    (body : ∀ G, OK l cc own nL rm G → Rt G cc ret r S' → G 0 0 S lv 0 []) : Ct l y cc nL ret rm as S r S' := by
  intro dC dI cA ad sz hj
  refine Met.ofW (cc := cc) (maxL := nL) (ret := ret) hy rfl ?_
  intro p e s m args below meth c s₁ B hml hv
  obtain ⟨rfl, hsz, ⟨hP, hK⟩, hnw, hzw⟩ := hv
  have hx := B.exec
  have hb := B.bytes
  have hr := B.returns
  have hts0 := atoms_spec (ws := .code y cc nL ret :: TB) B.pre
  have hown : s.vm.findClass own = some m.cls := by rw [← ho]; exact findClass_of_methodNamed B.named
  have hlocks := B.notSynchronized
  subst hsz
  have hl := lv_entry (as.map (gV ad)) (n := nL) (by rw [lvA_len]; exact hn)
  rw [lg_entry_eq]
  generalize (lg_sl (as.map (gV ad)) ++ List.replicate (nL - (lg_sl (as.map (gV ad))).length) Slot.unset).toArray = ls at hl ⊢
  rw [lvA_eq, hlv] at hl
  have hG : OK l cc own nL rm (Go p l e rm s m (as.map (gV ad)).toArray below meth c dC dI cA ad nL (MQ below (wQ dC dI cA ad s.heap.size r S') (as.map (gV ad)).toArray s 0 0 (fA ad s.heap.size))) :=
    ⟨p, e, s, m, _, below, meth, c, dC, dI, cA, ad, _, hx, hb, hml, hown, fun w hw => hts0 w (List.mem_cons_of_mem _ hw), hnw, hK, hj, hzw, rfl⟩
  refine body _ hG ⟨?_, ?_, ?_⟩ s.heap [] ls hP va_S.rf hl
  · intro lv pc h1 h2 hd H locs ls hP hS hl
    rw [h1] at hr
    exact W.vret hx hb hr (fun t ht hW => ⟨⟨by rw [h2]; rfl, by rw [ht]; exact hP, va_K.moved hW.alike hK⟩, hS.F ht⟩) hS.2.2 hd
  · intro lv pc ty x h1 hnr h2 hd H locs ls hP hS hl
    rw [h1] at hr
    exact W.zret (v := x) hx hb hr hnr (fun t ht hW => ⟨⟨by rw [h2]; rfl, by rw [ht]; exact hP, va_K.moved hW.alike hK⟩, hS.F ht⟩) hS.2.2 hd
  · intro lv pc x h1 h2 hd H locs ls hP hS hl
    rw [h1] at hr
    exact W.lret (v := x) hx hb hr (fun t ht hW => ⟨⟨by rw [h2]; rfl, by rw [ht]; exact hP, va_K.moved hW.alike hK⟩, hS.F ht⟩) hS.2.2 hd
end
/-- a loop's function: the body, so often -/
def fx {V α : Type} (F : (V → Option α) → V → Option α) : Nat → V → Option α
  | 0, _ => none
  | n + 1, v => F (fx F n) v
def FU : Nat := 1000
theorem s_csP {l : Launch} {cc : ByteArray} {own : String} {nL : Nat} {R : Room} {G : GT} {k n pc : Nat} {S : HS} {lv : List (Nat × AV)} {st : List AV} (hG : OK l cc own nL R G) {α : Type} {out : α} {F : Option (Int32)} {K : Int32 → Option α} {y : MethodName} {bytes : ByteArray} {nLy idx np : Nat} {ret : Option FieldType} {rm : Room} {as stk : List AV} (hd : decode cc pc = .ok (.invokestatic idx, 3)) (hm : MS own idx y np) (hcode : Cond.code y bytes nLy ret ∈ TB) (hnp : as.length = np) (hrm : rm.cells = 0 ∧ rm.slots = 0) (hR : rm.frames + 1 ≤ R.frames ∧ 8 + (nLy + 11) + rm.locals ≤ R.locals) (hst : cats st ≤ 8) (hkn : k ≤ R.cells ∧ n ≤ R.slots) (hstk : stk = as.reverse ++ st) (hC : ∀ o, F = some o → Ct l y bytes nLy ret rm (as) S (some (vI o)) (S)) (kk : ∀ o, K o = some out → G k n (S) lv (pc + 3) (vI o :: st)) : F.bind K = some out → G k n S lv pc stk := by
  intro hE
  obtain ⟨o, h1, h2⟩ := bind_some hE
  exact s_cs hG hd hm hcode hnp hrm hR hst hkn hstk (hC o h1) (kk o h2)
theorem s_csQ {l : Launch} {cc : ByteArray} {own : String} {nL : Nat} {R : Room} {G : GT} {k n pc : Nat} {S : HS} {lv : List (Nat × AV)} {st : List AV} (hG : OK l cc own nL R G) {α : Type} {out : α} {F : Option (Int64)} {K : Int64 → Option α} {y : MethodName} {bytes : ByteArray} {nLy idx np : Nat} {ret : Option FieldType} {rm : Room} {as stk : List AV} (hd : decode cc pc = .ok (.invokestatic idx, 3)) (hm : MS own idx y np) (hcode : Cond.code y bytes nLy ret ∈ TB) (hnp : as.length = np) (hrm : rm.cells = 0 ∧ rm.slots = 0) (hR : rm.frames + 1 ≤ R.frames ∧ 8 + (nLy + 11) + rm.locals ≤ R.locals) (hst : cats st ≤ 8) (hkn : k ≤ R.cells ∧ n ≤ R.slots) (hstk : stk = as.reverse ++ st) (hC : ∀ o, F = some o → Ct l y bytes nLy ret rm (as) S (some (vL o)) (S)) (kk : ∀ o, K o = some out → G k n (S) lv (pc + 3) (vL o :: st)) : F.bind K = some out → G k n S lv pc stk := by
  intro hE
  obtain ⟨o, h1, h2⟩ := bind_some hE
  exact s_cs hG hd hm hcode hnp hrm hR hst hkn hstk (hC o h1) (kk o h2)
theorem s_csI {l : Launch} {cc : ByteArray} {own : String} {nL : Nat} {R : Room} {G : GT} {k n pc : Nat} {S : HS} {lv : List (Nat × AV)} {st : List AV} (hG : OK l cc own nL R G) {α : Type} {out : α} {F : Option (HS × Int32)} {K : (HS × Int32) → Option α} {y : MethodName} {bytes : ByteArray} {nLy idx np : Nat} {ret : Option FieldType} {rm : Room} {as stk : List AV} (hd : decode cc pc = .ok (.invokestatic idx, 3)) (hm : MS own idx y np) (hcode : Cond.code y bytes nLy ret ∈ TB) (hnp : as.length = np) (hrm : rm.cells = 0 ∧ rm.slots = 0) (hR : rm.frames + 1 ≤ R.frames ∧ 8 + (nLy + 11) + rm.locals ≤ R.locals) (hst : cats st ≤ 8) (hkn : k ≤ R.cells ∧ n ≤ R.slots) (hstk : stk = as.reverse ++ st) (hC : ∀ o, F = some o → Ct l y bytes nLy ret rm (as) S (some (vI o.2)) (o.1)) (kk : ∀ o, K o = some out → G k n (o.1) lv (pc + 3) (vI o.2 :: st)) : F.bind K = some out → G k n S lv pc stk := by
  intro hE
  obtain ⟨o, h1, h2⟩ := bind_some hE
  exact s_cs hG hd hm hcode hnp hrm hR hst hkn hstk (hC o h1) (kk o h2)
theorem s_csV {l : Launch} {cc : ByteArray} {own : String} {nL : Nat} {R : Room} {G : GT} {k n pc : Nat} {S : HS} {lv : List (Nat × AV)} {st : List AV} (hG : OK l cc own nL R G) {α : Type} {out : α} {F : Option (HS)} {K : HS → Option α} {y : MethodName} {bytes : ByteArray} {nLy idx np : Nat} {ret : Option FieldType} {rm : Room} {as stk : List AV} (hd : decode cc pc = .ok (.invokestatic idx, 3)) (hm : MS own idx y np) (hcode : Cond.code y bytes nLy ret ∈ TB) (hnp : as.length = np) (hrm : rm.cells = 0 ∧ rm.slots = 0) (hR : rm.frames + 1 ≤ R.frames ∧ 8 + (nLy + 11) + rm.locals ≤ R.locals) (hst : cats st ≤ 8) (hkn : k ≤ R.cells ∧ n ≤ R.slots) (hstk : stk = as.reverse ++ st) (hC : ∀ o, F = some o → Ct l y bytes nLy ret rm (as) S (none) (o)) (kk : ∀ o, K o = some out → G k n (o) lv (pc + 3) (st)) : F.bind K = some out → G k n S lv pc stk := by
  intro hE
  obtain ⟨o, h1, h2⟩ := bind_some hE
  exact s_cs hG hd hm hcode hnp hrm hR hst hkn hstk (hC o h1) (kk o h2)
theorem s_cvP {l : Launch} {cc : ByteArray} {own : String} {nL : Nat} {R : Room} {G : GT} {k n pc : Nat} {S : HS} {lv : List (Nat × AV)} {st : List AV} (hG : OK l cc own nL R G) {α : Type} {out : α} {F : Option (Int32)} {K : Int32 → Option α} {y : MethodName} {bytes : ByteArray} {nLy idx np : Nat} {ci b : Nat} {ret : Option FieldType} {rm : Room} {as stk : List AV} (hd : decode cc pc = .ok (.invokevirtual idx, 3)) (hm : MV own idx ci y np) (hrec : oc b = some ci) (hcode : Cond.code y bytes nLy ret ∈ TB) (hnp : as.length = np) (hrm : rm.cells = 0 ∧ rm.slots = 0) (hR : rm.frames + 1 ≤ R.frames ∧ 8 + (nLy + 11) + rm.locals ≤ R.locals) (hst : cats st ≤ 8) (hkn : k ≤ R.cells ∧ n ≤ R.slots) (hstk : stk = as.reverse ++ vR b :: st) (hC : ∀ o, F = some o → Ct l y bytes nLy ret rm (vR b :: as) S (some (vI o)) (S)) (kk : ∀ o, K o = some out → G k n (S) lv (pc + 3) (vI o :: st)) : F.bind K = some out → G k n S lv pc stk := by
  intro hE
  obtain ⟨o, h1, h2⟩ := bind_some hE
  exact s_cv hG hd hm hrec hcode hnp hrm hR hst hkn hstk (hC o h1) (kk o h2)
theorem s_cvQ {l : Launch} {cc : ByteArray} {own : String} {nL : Nat} {R : Room} {G : GT} {k n pc : Nat} {S : HS} {lv : List (Nat × AV)} {st : List AV} (hG : OK l cc own nL R G) {α : Type} {out : α} {F : Option (Int64)} {K : Int64 → Option α} {y : MethodName} {bytes : ByteArray} {nLy idx np : Nat} {ci b : Nat} {ret : Option FieldType} {rm : Room} {as stk : List AV} (hd : decode cc pc = .ok (.invokevirtual idx, 3)) (hm : MV own idx ci y np) (hrec : oc b = some ci) (hcode : Cond.code y bytes nLy ret ∈ TB) (hnp : as.length = np) (hrm : rm.cells = 0 ∧ rm.slots = 0) (hR : rm.frames + 1 ≤ R.frames ∧ 8 + (nLy + 11) + rm.locals ≤ R.locals) (hst : cats st ≤ 8) (hkn : k ≤ R.cells ∧ n ≤ R.slots) (hstk : stk = as.reverse ++ vR b :: st) (hC : ∀ o, F = some o → Ct l y bytes nLy ret rm (vR b :: as) S (some (vL o)) (S)) (kk : ∀ o, K o = some out → G k n (S) lv (pc + 3) (vL o :: st)) : F.bind K = some out → G k n S lv pc stk := by
  intro hE
  obtain ⟨o, h1, h2⟩ := bind_some hE
  exact s_cv hG hd hm hrec hcode hnp hrm hR hst hkn hstk (hC o h1) (kk o h2)
theorem s_cvI {l : Launch} {cc : ByteArray} {own : String} {nL : Nat} {R : Room} {G : GT} {k n pc : Nat} {S : HS} {lv : List (Nat × AV)} {st : List AV} (hG : OK l cc own nL R G) {α : Type} {out : α} {F : Option (HS × Int32)} {K : (HS × Int32) → Option α} {y : MethodName} {bytes : ByteArray} {nLy idx np : Nat} {ci b : Nat} {ret : Option FieldType} {rm : Room} {as stk : List AV} (hd : decode cc pc = .ok (.invokevirtual idx, 3)) (hm : MV own idx ci y np) (hrec : oc b = some ci) (hcode : Cond.code y bytes nLy ret ∈ TB) (hnp : as.length = np) (hrm : rm.cells = 0 ∧ rm.slots = 0) (hR : rm.frames + 1 ≤ R.frames ∧ 8 + (nLy + 11) + rm.locals ≤ R.locals) (hst : cats st ≤ 8) (hkn : k ≤ R.cells ∧ n ≤ R.slots) (hstk : stk = as.reverse ++ vR b :: st) (hC : ∀ o, F = some o → Ct l y bytes nLy ret rm (vR b :: as) S (some (vI o.2)) (o.1)) (kk : ∀ o, K o = some out → G k n (o.1) lv (pc + 3) (vI o.2 :: st)) : F.bind K = some out → G k n S lv pc stk := by
  intro hE
  obtain ⟨o, h1, h2⟩ := bind_some hE
  exact s_cv hG hd hm hrec hcode hnp hrm hR hst hkn hstk (hC o h1) (kk o h2)
theorem s_cvV {l : Launch} {cc : ByteArray} {own : String} {nL : Nat} {R : Room} {G : GT} {k n pc : Nat} {S : HS} {lv : List (Nat × AV)} {st : List AV} (hG : OK l cc own nL R G) {α : Type} {out : α} {F : Option (HS)} {K : HS → Option α} {y : MethodName} {bytes : ByteArray} {nLy idx np : Nat} {ci b : Nat} {ret : Option FieldType} {rm : Room} {as stk : List AV} (hd : decode cc pc = .ok (.invokevirtual idx, 3)) (hm : MV own idx ci y np) (hrec : oc b = some ci) (hcode : Cond.code y bytes nLy ret ∈ TB) (hnp : as.length = np) (hrm : rm.cells = 0 ∧ rm.slots = 0) (hR : rm.frames + 1 ≤ R.frames ∧ 8 + (nLy + 11) + rm.locals ≤ R.locals) (hst : cats st ≤ 8) (hkn : k ≤ R.cells ∧ n ≤ R.slots) (hstk : stk = as.reverse ++ vR b :: st) (hC : ∀ o, F = some o → Ct l y bytes nLy ret rm (vR b :: as) S (none) (o)) (kk : ∀ o, K o = some out → G k n (o) lv (pc + 3) (st)) : F.bind K = some out → G k n S lv pc stk := by
  intro hE
  obtain ⟨o, h1, h2⟩ := bind_some hE
  exact s_cv hG hd hm hrec hcode hnp hrm hR hst hkn hstk (hC o h1) (kk o h2)
end
section
/-! ends of methods, switches, what handles hold -/
def ch (x : Int32) : Bool := decide (0 ≤ x) && decide (x ≤ 65535)
theorem ch_ok {x : Int32} (h : ch x = true) : narrow .char (.int x) = .int x := by
  unfold ch at h
  rw [Bool.and_eq_true, decide_eq_true_eq, decide_eq_true_eq] at h
  obtain ⟨j, hj, rfl⟩ := nI_of2 (M := 65535) (n := 65535) (by decide) (fun q => by
    have h1 := h.1
    rw [Int32.le_iff_toInt_le] at h1
    rw [Int32.lt_iff_toInt_lt] at q
    omega) h.2
  exact (pk_charN (by omega)).1
section
variable {l : Launch} {cc : ByteArray} {own : String} {nL : Nat} {R : Room} {G : GT} {pc : Nat} {S : HS} {lv : List (Nat × AV)} {st : List AV}
theorem s_rvC {out : HS} (hR : Rt G cc none none out) (hd : decode cc pc = .ok (.return_, 1)) : some S = some out → G 0 0 S lv pc [] := fun h => by cases h; exact hR.1 _ _ rfl rfl hd
theorem s_rvP {out : Unit} (hR : Rt G cc none none S) (hd : decode cc pc = .ok (.return_, 1)) : some () = some out → G 0 0 S lv pc [] := fun _ => hR.1 _ _ rfl rfl hd
theorem s_riC {out : HS × Int32} {x : Int32} (hR : Rt G cc (some .int) (some (vI out.2)) out.1) (hd : decode cc pc = .ok (.ireturn, 1)) : some (S, x) = some out → G 0 0 S lv pc [vI x] := fun h => by cases h; exact hR.2.1 _ _ _ _ rfl rfl rfl hd
theorem s_riP {out x : Int32} (hR : Rt G cc (some .int) (some (vI out)) S) (hd : decode cc pc = .ok (.ireturn, 1)) : some x = some out → G 0 0 S lv pc [vI x] := fun h => by cases h; exact hR.2.1 _ _ _ _ rfl rfl rfl hd
theorem s_rlP {out x : Int64} (hR : Rt G cc (some .long) (some (vL out)) S) (hd : decode cc pc = .ok (.lreturn, 1)) : some x = some out → G 0 0 S lv pc [vL x] := fun h => by cases h; exact hR.2.2 _ _ _ rfl rfl hd
theorem s_rlC {out : HS × Int64} {x : Int64} (hR : Rt G cc (some .long) (some (vL out.2)) out.1) (hd : decode cc pc = .ok (.lreturn, 1)) : some (S, x) = some out → G 0 0 S lv pc [vL x] := fun h => by cases h; exact hR.2.2 _ _ _ rfl rfl hd
theorem s_rzC {out : HS × Int32} {x : Int32} (hR : Rt G cc (some .boolean) (some (vI out.2)) out.1) (hd : decode cc pc = .ok (.ireturn, 1)) : (if nz x = true then some (S, x) else none) = some out → G 0 0 S lv pc [vI x] := fun h => by
  by_cases hn : nz x = true
  · rw [if_pos hn] at h; cases h; exact hR.2.1 _ _ _ _ rfl (nz_ok hn).1 rfl hd
  · rw [if_neg hn] at h; cases h
theorem s_rzP {out x : Int32} (hR : Rt G cc (some .boolean) (some (vI out)) S) (hd : decode cc pc = .ok (.ireturn, 1)) : (if nz x = true then some x else none) = some out → G 0 0 S lv pc [vI x] := fun h => by
  by_cases hn : nz x = true
  · rw [if_pos hn] at h; cases h; exact hR.2.1 _ _ _ _ rfl (nz_ok hn).1 rfl hd
  · rw [if_neg hn] at h; cases h
theorem s_rcC {out : HS × Int32} {x : Int32} (hR : Rt G cc (some .char) (some (vI out.2)) out.1) (hd : decode cc pc = .ok (.ireturn, 1)) : (if ch x = true then some (S, x) else none) = some out → G 0 0 S lv pc [vI x] := fun h => by
  by_cases hn : ch x = true
  · rw [if_pos hn] at h; cases h; exact hR.2.1 _ _ _ _ rfl (ch_ok hn) rfl hd
  · rw [if_neg hn] at h; cases h
theorem s_rcP {out x : Int32} (hR : Rt G cc (some .char) (some (vI out)) S) (hd : decode cc pc = .ok (.ireturn, 1)) : (if ch x = true then some x else none) = some out → G 0 0 S lv pc [vI x] := fun h => by
  by_cases hn : ch x = true
  · rw [if_pos hn] at h; cases h; exact hR.2.1 _ _ _ _ rfl (ch_ok hn) rfl hd
  · rw [if_neg hn] at h; cases h
theorem sw_ne {x v : Int32} {z : Int} (h : ¬ x = v) (hz : v.toInt = z) : x.toInt ≠ z := fun e => h (Int32.toInt_inj.mp (e.trans hz.symm))
theorem s_tsw1 {k n : Nat} (hG : OK l cc own nL R G) {α : Type} {A B : Option α} {out : α} {x v : Int32} {dflt lo hi off : Int} {offs : Array Int} {len tgt : Nat} (hd : decode cc pc = .ok (.tableswitch dflt lo hi offs, len)) (h1 : ¬ v.toInt < lo) (h2 : ¬ hi < v.toInt) (ho : offs[(v.toInt - lo).toNat]? = some off) (ht : (pc : Int) + off = (tgt : Int)) (kt : A = some out → G k n S lv tgt st) (kf : ¬ x = v → B = some out → G k n S lv pc (vI x :: st)) : (if x = v then A else B) = some out → G k n S lv pc (vI x :: st) := by
  intro hE
  by_cases hv : x = v
  · rw [if_pos hv] at hE
    subst hv
    obtain ⟨p, e, s, m, args, below, meth, c, dC, dI, cA, ad, Q, hx, hb, hml, hown, hts, hnw, hK, hj, hzw, rfl⟩ := hG
    intro H locs ls hP hS hl
    exact lv_tableIn hx hb hd h1 h2 ho ht (kt hE H locs ls hP hS hl)
  · rw [if_neg hv] at hE
    exact kf hv hE
theorem s_tswD {k n : Nat} (hG : OK l cc own nL R G) {E : Prop} {x : Int32} {dflt lo hi : Int} {offs : Array Int} {len tgt : Nat} (hd : decode cc pc = .ok (.tableswitch dflt lo hi offs, len)) (h : x.toInt < lo ∨ hi < x.toInt) (ht : (pc : Int) + dflt = (tgt : Int)) (kk : E → G k n S lv tgt st) : E → G k n S lv pc (vI x :: st) := by
  intro hE
  obtain ⟨p, e, s, m, args, below, meth, c, dC, dI, cA, ad, Q, hx, hb, hml, hown, hts, hnw, hK, hj, hzw, rfl⟩ := hG
  intro H locs ls hP hS hl
  exact lv_tableOut hx hb hd h ht (kk hE H locs ls hP hS hl)
end
theorem oc_lt {b ci : Nat} (h : oc b = some ci) : b < 61 := by
  obtain ⟨ks, h1⟩ := oc_at h
  rcases List.getElem?_eq_some_iff.mp h1 with ⟨z, -⟩
  exact z
theorem fk0_0 (b : Nat) (h : oc b = some 0) : fk b 0 = some (0, (3, 2)) := (by decide +kernel : ∀ b, b < 61 → oc b = some 0 → fk b 0 = some (0, (3, 2))) b (oc_lt h) h
theorem fk0_1 (b : Nat) (h : oc b = some 0) : fk b 1 = some (0, (3, 5)) := (by decide +kernel : ∀ b, b < 61 → oc b = some 0 → fk b 1 = some (0, (3, 5))) b (oc_lt h) h
theorem fk0_2 (b : Nat) (h : oc b = some 0) : fk b 2 = some (0, (0, 0)) := (by decide +kernel : ∀ b, b < 61 → oc b = some 0 → fk b 2 = some (0, (0, 0))) b (oc_lt h) h
theorem fk0_3 (b : Nat) (h : oc b = some 0) : fk b 3 = some (0, (3, b + 1)) := (by decide +kernel : ∀ b, b < 61 → oc b = some 0 → fk b 3 = some (0, (3, b + 1))) b (oc_lt h) h
theorem fk0_4 (b : Nat) (h : oc b = some 0) : fk b 4 = some (0, (3, b + 2)) := (by decide +kernel : ∀ b, b < 61 → oc b = some 0 → fk b 4 = some (0, (3, b + 2))) b (oc_lt h) h
theorem fk0_5 (b : Nat) (h : oc b = some 0) : fk b 5 = some (0, (0, 0)) := (by decide +kernel : ∀ b, b < 61 → oc b = some 0 → fk b 5 = some (0, (0, 0))) b (oc_lt h) h
theorem fk0_6 (b : Nat) (h : oc b = some 0) : fk b 6 = some (0, (0, 0)) := (by decide +kernel : ∀ b, b < 61 → oc b = some 0 → fk b 6 = some (0, (0, 0))) b (oc_lt h) h
theorem ak0_3 (b : Nat) (h : oc b = some 0) : ak (b + 1) = some (0, 40) := (by decide +kernel : ∀ b, b < 61 → oc b = some 0 → ak (b + 1) = some (0, 40)) b (oc_lt h) h
theorem ak0_4 (b : Nat) (h : oc b = some 0) : ak (b + 2) = some (0, 24) := (by decide +kernel : ∀ b, b < 61 → oc b = some 0 → ak (b + 2) = some (0, 24)) b (oc_lt h) h
theorem fk3_0 (b : Nat) (h : oc b = some 3) : fk b 0 = some (3, (3, 9)) := (by decide +kernel : ∀ b, b < 61 → oc b = some 3 → fk b 0 = some (3, (3, 9))) b (oc_lt h) h
theorem fk3_1 (b : Nat) (h : oc b = some 3) : fk b 1 = some (3, (2, 0)) := (by decide +kernel : ∀ b, b < 61 → oc b = some 3 → fk b 1 = some (3, (2, 0))) b (oc_lt h) h
theorem fk3_2 (b : Nat) (h : oc b = some 3) : fk b 2 = some (3, (2, 0)) := (by decide +kernel : ∀ b, b < 61 → oc b = some 3 → fk b 2 = some (3, (2, 0))) b (oc_lt h) h
theorem fk3_3 (b : Nat) (h : oc b = some 3) : fk b 3 = some (3, (1, 0)) := (by decide +kernel : ∀ b, b < 61 → oc b = some 3 → fk b 3 = some (3, (1, 0))) b (oc_lt h) h
def iabs (x : Int32) : Int32 := if 0 ≤ x then x else 0 - x
theorem s_abs {l : Launch} {cc : ByteArray} {own : String} {nL : Nat} {R : Room} {G : GT} {E : Prop} {k n pc : Nat} {S : HS} {lv : List (Nat × AV)} {st : List AV} (hG : OK l cc own nL R G) {idx : Nat} {x : Int32} (hd : decode cc pc = .ok (.invokestatic idx, 3)) (h1 : Cond.methodLink own idx Lib.Math.abs.name ∈ TB) (h2 : Cond.static Lib.Math.abs.name ∈ TB) (h3 : Cond.initialized "java/lang/Math" ∈ TB) (h4 : Cond.code Lib.Math.abs.name Lib.Math.abs.code 1 (some .int) ∈ TB) (hR : 1 ≤ R.frames ∧ 21 ≤ R.locals) (hst : cats st ≤ 8) (hkn : k ≤ R.cells ∧ n ≤ R.slots) (kk : E → G k n S lv (pc + 3) (vI (iabs x) :: st)) : E → G k n S lv pc (vI x :: st) := by
  intro hE
  obtain ⟨p, e, s, m, args, below, meth, c, dC, dI, cA, ad, Q, hx, hb, hml, hown, hts, hnw, hK, hj, hzw, rfl⟩ := hG
  intro H locs ls hP hS hl
  have hcat : ((st.map (gV ad)).map fun v => v.category).sum ≤ 8 := by rw [cats_V]; exact hst
  exact va_mabs hx hb (by rw [hml]; exact hl.1.symm) hown (hts _ h1) (hts _ h2) (hts _ h3) (hts _ h4) hR.1 (by omega) hkn.1 hkn.2 hd (kk hE H locs ls hP hS hl)
theorem ak_len {a t N : Nat} (h : ak a = some (t, N)) : ak a = some (t, alen a) := by
  have h2 : alen a = N := by unfold alen; rw [h]
  rw [h2]; exact h
end
section
/-! 'throw new E(text)' where E's own constructor names its super's at another place of its pool than the kit's row has it (java.util.NoSuchElementException: entry 13, not 7). Follows the library's Stand.ctorThrowS and the kit's vx_throwS, with that one link general. -/
def ex_six (b : UInt8) : ByteArray := ⟨#[0x2a, 0x2b, 0xb7, 0x00, b, 0xb1]⟩
def ex_at (own : String) (ic ix : Nat) (b : UInt8) (X Y : String) (r : List String) : List Cond :=
  Bundle.throwableAtoms ++ Bundle.throwableSAtoms ++ (Bundle.passSAtoms X Y ix (ex_six b) ++ Bundle.chainSAtoms Y r) ++
  [.methodLink own ic (Bundle.initS X), .instantiable X 6, .castable X X, .selects X Bundle.tFill0 Bundle.tFill0, .selects X Bundle.tFill Bundle.tFill,
   .lays X Bundle.tN "cause" "Ljava/lang/Throwable;", .lays X Bundle.tN "stackTrace" Bundle.steD, .lays X Bundle.tN "suppressedExceptions" Bundle.listD, .lays X Bundle.tN "detailMessage" "Ljava/lang/String;",
   .isRef (.static Bundle.tN "UNASSIGNED_STACK" Bundle.steD), .isRef (.static Bundle.tN "SUPPRESSED_SENTINEL" Bundle.listD),
   .fieldLink Bundle.tN 198 Bundle.tN "backtrace" "Ljava/lang/Object;", .lays Bundle.tN Bundle.tN "backtrace" "Ljava/lang/Object;", .lays X Bundle.tN "backtrace" "Ljava/lang/Object;"]
section
variable {p : Program} {l : Launch} {e : Env} {R : Room} {s : State} {m₀ : MethodId} {args : Array Value} {below : List Frame} {meth : Method} {c : Code} {W : State} {locs : List Loc} {cells slots : Nat}
set_option maxHeartbeats 2000000 in
theorem ex_ctor (X : Stand p l e R s m₀ args below meth c W locs cells slots) (hexec : p.tables.exec = Jvm.exec) (htr : e.platform.stackTraces = false) {own cls Y0 : String} {r0 : List String} {ic ix : Nat} {b0 : UInt8}
    (hown : s.vm.findClass own = some m₀.cls) (hcls : Bundle.fit cls = true) (hY0 : Bundle.fit Y0 = true) (hnames : ∀ n ∈ r0, Bundle.fit n = true)
    (s0 : decode (ex_six b0) 0 = .ok (.aload_n 0, 1)) (s1 : decode (ex_six b0) 1 = .ok (.aload_n 1, 1)) (s2 : decode (ex_six b0) 2 = .ok (.invokespecial ix, 3)) (s5 : decode (ex_six b0) 5 = .ok (.return_, 1))
    (h : ∀ a ∈ ex_at own ic ix b0 cls Y0 r0, a.before args s = true)
    (hlocs : ∀ x ∈ locs, ∀ cell, s.heap[x.base]? = some cell → cell.vm.isStatics = false)
    {a : Addr} {cX : ClassId} {kX : Class} (hfoundX : s.vm.findClass cls = some cX) (hkX : s.vm.classes[cX]? = some kX) (hcell : W.heap[a]? = some (freshCell cX kX)) (hnew : s.heap.size ≤ a)
    {msg : Value} (hmsg : msg.isRef = true)
    {g : JFrame} (hg : g.method = m₀) (hsize : g.locals.size = c.maxLocals) (hlocked : g.locked = none) (hentered : g.entered = []) {rest : List Value} (hstack : g.stack = msg :: .ref a :: .ref a :: rest)
    (hd6 : decode c.code g.pc = .ok (.invokespecial ic, 3)) (hd9 : decode c.code (g.pc + 3) = .ok (.athrow, 1)) (hout : ∀ x ∈ c.exceptionTable.toList, covers x (g.pc + 3) = false)
    (hRframes : r0.length + 4 < R.frames) (hRlocals : 2 * g.monitorRoom + ((Value.ref a :: rest).map fun v => v.category).sum + (13 * (r0.length + 2) + 42) ≤ R.locals) (hlocks : meth.locks = false) :
    ∃ U : State, Steps p.tables e below (W.setTop g) U ∧ U.status = .running ∧ Ended U below (.threw a) ∧ s.WarmedH U.vm ∧ s.sameButNew ({ U with vm := s.vm } : State) locs cells slots ∧
      ∃ ce, U.heap[a]? = some ce ∧ ce.vm = .none ∧ s.vm.findClass cls = some ce.cls := by
  have howns : e.platform.frameOwnsMonitors = true := by rw [X.admits.platform]
  have hfin : e.platform.finalization = false := by rw [X.admits.platform]
  have hpl : e.platform.magicAccessors = ({} : Platform).magicAccessors := by rw [X.admits.platform]
  have a' : ∀ x, x ∈ ex_at own ic ix b0 cls Y0 r0 → x.holds args s none s [] = true := fun x hx => h x hx
  obtain ⟨T, Z0, L, -, Y⟩ := ThrowableC.of_atoms (args := args) howns hfin hpl (fun x hx => h x (by simp [ex_at, hx]))
  obtain ⟨Z, M, LZ, LM, hnZ⟩ := Init0T.ofS_atoms (args := args) hpl L Y (fun x hx => h x (by simp [ex_at, hx]))
  obtain ⟨P1, L1, hP1m, hs1⟩ := PassC.ofS_atoms (args := args) (s := s) hpl (X := cls) (Y := Y0) (Bundle.fit_spec hcls).1 (Bundle.fit_spec hY0).2 s0 s1 s2 s5 (fun x hx => h x (by simp [ex_at, hx]))
  obtain ⟨P2, Ps2, hlen, L2, hL2, hP2m, hsup, hpass⟩ := Bundle.chainS (args := args) hpl hnZ r0 Y0 hY0 hnames (fun x hx => h x (by simp [ex_at, hx]))
  have hlink1 : P1.sup = P2.m := Option.some.inj (hs1.symm.trans hP2m)
  have hfound : s.vm.findClass cls = some P1.m.cls := findClass_of_methodNamed hP1m
  cases Option.some.inj (hfoundX.symm.trans hfound)
  obtain ⟨c1, kX', hc1, hk, hord, -, -, hn6⟩ := Cond.instantiable_spec (a' (.instantiable cls 6) (by simp [ex_at]))
  cases Option.some.inj (hc1.symm.trans hfound)
  cases Option.some.inj (hkX.symm.trans hk)
  have hsel0 : selectMethod e.platform s.vm P1.m.cls T.fill0 = .method T.fill0 := by
    obtain ⟨c2, r2, m2, q1, q2, q3, q4, -⟩ := Cond.selects_spec (a' (.selects cls Bundle.tFill0 Bundle.tFill0) (by simp [ex_at]))
    cases Option.some.inj (q1.symm.trans hfound)
    cases Option.some.inj (q2.symm.trans (State.methodFound?_of_named Y.fill0 (by decide)))
    cases Option.some.inj (q3.symm.trans Y.fill0)
    rw [Launch.admits_selectMethod X.admits]; exact q4
  have hselF : selectMethod e.platform s.vm P1.m.cls T.fill = .method T.fill := by
    obtain ⟨c2, r2, m2, q1, q2, q3, q4, -⟩ := Cond.selects_spec (a' (.selects cls Bundle.tFill Bundle.tFill) (by simp [ex_at]))
    cases Option.some.inj (q1.symm.trans hfound)
    cases Option.some.inj (q2.symm.trans (State.methodFound?_of_named Y.fill (by decide)))
    cases Option.some.inj (q3.symm.trans Y.fill)
    rw [Launch.admits_selectMethod X.admits]; exact q4
  obtain ⟨cellS0, hcS0, hiss⟩ := Y.statics
  obtain ⟨u0, hu0⟩ := Cond.staticRefV Y.unassigned L.unassignedStatic L.statics hcS0 hiss (a' (.isRef (.static Bundle.tN "UNASSIGNED_STACK" Bundle.steD)) (by simp [ex_at]))
  obtain ⟨sen, hsen⟩ := Cond.staticRefV Y.sentinel L.sentinelStatic L.statics hcS0 hiss (a' (.isRef (.static Bundle.tN "SUPPRESSED_SENTINEL" Bundle.listD)) (by simp [ex_at]))
  obtain ⟨ci198, i198, fB, hk198, hg198, ha198, hsB, -, hnB, htB, hffB⟩ := Cond.ownField (t := .object "java/lang/Object") Y.found L.cls (by decide +kernel) (a' (.fieldLink Bundle.tN 198 Bundle.tN "backtrace" "Ljava/lang/Object;") (by simp [ex_at])) (a' (.lays Bundle.tN Bundle.tN "backtrace" "Ljava/lang/Object;") (by simp [ex_at])) e.platform hpl
  obtain ⟨cellS, hcS', heS, -, hkeep⟩ := X.same.2.2.2.2.2 T.aS cellS0 hcS0
  have hcellS : W.heap[T.aS]? = some cellS := hcS'
  have hout' : ∀ i, (⟨T.aS, i⟩ : Loc) ∉ locs := fun i hmem => by
    have := hlocs _ hmem cellS0 hcS0
    rw [hiss] at this; cases this
  have hknownS : cellS.vm ≠ .unknown := by
    rw [heS]; intro hu
    rw [show cellS0.vm = .unknown from hu] at hiss
    cases hiss
  have hneS : T.aS ≠ a := Nat.ne_of_lt (Nat.lt_of_lt_of_le (Array.getElem?_eq_some_iff.mp hcS0).1 hnew)
  obtain ⟨iM, hffM⟩ := Y.msg
  obtain ⟨tyC, dC, hdC, hdnC⟩ := Cond.laysAt hfound hk Y.cause (a' (.lays cls Bundle.tN "cause" "Ljava/lang/Throwable;") (by simp [ex_at]))
  obtain ⟨tyS, dS, hdS, hdnS⟩ := Cond.laysAt hfound hk Y.stack (a' (.lays cls Bundle.tN "stackTrace" Bundle.steD) (by simp [ex_at]))
  obtain ⟨tyP, dP, hdP, hdnP⟩ := Cond.laysAt hfound hk Y.supp (a' (.lays cls Bundle.tN "suppressedExceptions" Bundle.listD) (by simp [ex_at]))
  obtain ⟨tyM, dM, hdM, hdnM⟩ := Cond.laysAt hfound hk hffM (a' (.lays cls Bundle.tN "detailMessage" "Ljava/lang/String;") (by simp [ex_at]))
  obtain ⟨tyB, dB, hdB, hdnB⟩ := Cond.laysAt hfound hk hffB (a' (.lays cls Bundle.tN "backtrace" "Ljava/lang/Object;") (by simp [ex_at]))
  have bC := Cond.laysApart hdB hdC hdnB hdnC (by rw [hnB, Y.causeName]; decide)
  have bS := Cond.laysApart hdB hdS hdnB hdnS (by rw [hnB, Y.stackName]; decide)
  have bP := Cond.laysApart hdB hdP hdnB hdnP (by rw [hnB, Y.suppName]; decide)
  have hskip : SkipFacts T e.platform s (fun u => u) u0 ((preparedCellV T.toThrowableT (freshCell P1.m.cls kX) a u0 sen).withEntry W.cur) :=
    ⟨{ ci198 := ci198, i198 := i198, fBack := fB }, ⟨hk198, hg198, ha198, hsB⟩, by
      have := fresh_default (c := P1.m.cls) tyB
      rw [htB] at this
      simpa [preparedCellV, Cell.setSlot, Cell.withEntry, Array.getElem?_setIfInBounds, bC, bS, bP, bC.symm, bS.symm, bP.symm, defaultValue] using this, fun _ _ => rfl⟩
  obtain ⟨tm, methC, cdC, kC, vm₁, hnC, -, -, -, -, -, -, -, hW₁, st1⟩ := Steps.initColdS (tb := p.tables) (e := e) (below := below) (s := s) (U := W) X.here hexec X.warmed hpl hown (t := Bundle.initS cls) rfl rfl (Bundle.fit_spec hcls).2
    (a' (.methodLink own ic (Bundle.initS cls)) (by simp [ex_at])) (h (.instanceMethod (Bundle.initS cls)) (by simp [ex_at, Bundle.passSAtoms])) (bytes := ex_six b0) (maxL := 2) (h (.code (Bundle.initS cls) (ex_six b0) 2 none) (by simp [ex_at, Bundle.passSAtoms]))
    (f := g) hg (a := a) (msg := msg) (rest := .ref a :: rest) hstack hd6
  cases Option.some.inj (hnC.symm.trans hP1m)
  have X₁ := X.noted hW₁
  obtain ⟨vm₂, X₂, st2⟩ := X₁.ctorMessageOffV hexec (g := { g with stack := .ref a :: rest }) hg hsize T L Z LZ M LM (P1 :: P2 :: Ps2)
    (fun P hP => by
      rcases List.mem_cons.mp hP with rfl | hP
      · exact L1
      · rcases List.mem_cons.mp hP with rfl | hP
        · exact L2
        · exact hL2 P hP) ⟨hlink1, hsup, hpass⟩ (u0 := u0) (sen := sen) (self := a) hmsg (cell := freshCell P1.m.cls kX) (cellS := cellS)
    hcell (fun _ => by simp) (by simp) rfl rfl hsel0 hselF hcellS hneS hknownS (by rw [hkeep _ (hout' _)]; exact hu0) (by rw [hkeep _ (hout' _)]; exact hsen)
    (Takes.of_laid hk hord tyC (by rw [Y.causeType]; rfl)) (Takes.of_laid hk hord tyS (by rw [Y.stackType]; exact fits_refV_array _ u0)) (Takes.of_laid hk hord tyP (by rw [Y.suppType]; exact fits_refV_object _ sen))
    (Takes.of_laid hk hord tyM (by rw [Y.msgType]; exact fits_refV_object _ ⟨msg, hmsg⟩)) Y.objLocals hskip htr [] hd6
    (by simp only [List.length_cons, hlen]; omega) (by simp only [List.length_cons, hlen]; exact hRlocals)
  obtain ⟨hwalk, hrun, hended, hWU, hsame⟩ := X₂.athrowLeaves hexec (g := { g with stack := .ref a :: rest, pc := g.pc + 3 }) hg hlocked hentered hout (a := a) (rest := rest) rfl hd9
  have hlt : a < ((W.setVm vm₁).setVm vm₂).heap.size := (Array.getElem?_eq_some_iff.mp hcell).1
  have hU := heapAt_setCell_self (s := (W.setVm vm₁).setVm vm₂) (plainBareV T.toThrowableT (freshCell P1.m.cls kX) a u0 sen msg) hlt
  refine ⟨_, st1 _ (fun acts => ?_), hrun, hended, hWU, hsame.weaken (fun y hy hlt' => ?_) (Nat.le_refl _) (Nat.le_refl _), _, hU, rfl, hfound⟩
  · rw [doInvoke_state]
    exact st2 _ hwalk
  · rcases List.mem_append.mp hy with h1 | h1
    · exact h1
    · exfalso
      have hb : y.base = a := by
        simp only [List.mem_cons, List.not_mem_nil, or_false] at h1
        rcases h1 with rfl | rfl | rfl | rfl | rfl <;> rfl
      rw [hb] at hlt'
      exact Nat.not_lt.mpr hnew hlt'
end
section
variable {p : Program} {l : Launch} {e : Env} {R : Room} {s : State} {m : MethodId} {args : Array Value} {below : List Frame} {meth : Method} {c : Code} {H : Heap} {locs : List Loc} {cells slots : Nat}
variable {ls : Array Slot} {rest : List Value} {Qc : Array Value → State → Outcome → State → Prop} {XC : String → State → State → Prop} {free : Addr → Prop}
theorem ex_throwS {cc : ByteArray} {pc : Nat} (hexec : p.tables.exec = Jvm.exec) (hb : c.code = cc) (hl : l.stackTraces = false) {own cls Y0 text : String} {r0 : List String} {ik is ic ix mc ms sa : Nat} {b0 : UInt8} {A : Nat → Prop}
    (hown : s.vm.findClass own = some m.cls) (hcls : Bundle.fit cls = true) (hY0 : Bundle.fit Y0 = true) (hnames : ∀ n ∈ r0, Bundle.fit n = true)
    (s0 : decode (ex_six b0) 0 = .ok (.aload_n 0, 1)) (s1 : decode (ex_six b0) 1 = .ok (.aload_n 1, 1)) (s2 : decode (ex_six b0) 2 = .ok (.invokespecial ix, 3)) (s5 : decode (ex_six b0) 5 = .ok (.return_, 1))
    (hk : (Cond.classLink own ik cls).before args s = true) (hini : (Cond.initialized cls).before args s = true) (hstr : vk_R own is text sa s) (hat : ∀ w ∈ (ex_at own ic ix b0 cls Y0 r0).filter vx_no, w.before args s = true)
    (hgood : ∀ w ∈ Cond.classLink own ik cls :: Cond.initialized cls :: (ex_at own ic ix b0 cls Y0 r0).filter vx_no, vx_ot w = true)
    (hU : vx_Zq Bundle.tN "UNASSIGNED_STACK" Bundle.steD A s s.heap) (hN : vx_Zq Bundle.tN "SUPPRESSED_SENTINEL" Bundle.listD A s s.heap) (hS : va_S A s.heap H locs) (hsize : ls.size = c.maxLocals)
    (d0 : decode cc pc = .ok (.new ik, 3)) (d3 : decode cc (pc + 3) = .ok (.dup, 1)) (d4 : decode cc (pc + 4) = .ok (.ldc is, 2)) (d6 : decode cc (pc + 6) = .ok (.invokespecial ic, 3)) (d9 : decode cc (pc + 9) = .ok (.athrow, 1))
    (hout : ∀ x ∈ c.exceptionTable.toList, covers x (pc + 9) = false)
    (hRframes : r0.length + 4 < R.frames) (hRlocals : (rest.map fun v => v.category).sum + (13 * (r0.length + 2) + 43) ≤ R.locals) (hRcells : cells + 1 ≤ R.cells) (hRslots : slots + 6 ≤ R.slots) (hlocks : meth.locks = false)
    (hx : ∀ t : State, s.vm.Alike t.vm → H.size ≤ t.heap.size → (∀ q : Nat, q < H.size → t.heap[q]? = H[q]?) → XC cls s t)
    (hf : ∀ z ∈ locs, free z.base) (hc : cells + 1 ≤ mc) (hs : slots + 6 ≤ ms) :
    W p l e R s m args below meth c H locs cells slots (vx_MQ below Qc XC args s mc ms free) (F0 m pc ls rest) := by
  intro T hT X
  have htr : e.platform.stackTraces = false := (show e.platform.stackTraces = l.stackTraces by rw [X.admits.platform]).trans hl
  have Y := vx_rebase X (R' := { frames := R.frames, locals := R.locals, cells := 1, slots := 6 }) (Nat.le_refl _) (Nat.le_refl _) hRcells hRslots
  obtain ⟨s', hA⟩ : ∃ z, z = (T.setVm s.vm).setFrames (.invoking m args :: below) := ⟨_, rfl⟩
  rw [← hA] at Y
  have hvm : s'.vm = s.vm := by rw [hA]; rfl
  have hhp : s'.heap = H := by rw [hA]; exact hT
  have hW0 : s.WarmedH s'.vm := by rw [hvm]; exact State.WarmedH.refl s
  have hat' : ∀ w ∈ (ex_at own ic ix b0 cls Y0 r0).filter vx_no, w.before args s' = true := fun w hw => vx_ot_at hW0 hvm.symm (hgood w (List.mem_cons_of_mem _ (List.mem_cons_of_mem _ hw))) (hat w hw)
  have hk' : (Cond.classLink own ik cls).before args s' = true := vx_ot_at hW0 hvm.symm (hgood _ List.mem_cons_self) hk
  have hini' : (Cond.initialized cls).before args s' = true := vx_ot_at hW0 hvm.symm (hgood _ (List.mem_cons_of_mem _ List.mem_cons_self)) hini
  have hU' : vx_Zq Bundle.tN "UNASSIGNED_STACK" Bundle.steD A s' s'.heap := by rw [hhp]; exact vx_Zq.moved hW0.alike (hU.kept hS.2.1)
  have hN' : vx_Zq Bundle.tN "SUPPRESSED_SENTINEL" Bundle.listD A s' s'.heap := by rw [hhp]; exact vx_Zq.moved hW0.alike (hN.kept hS.2.1)
  have h : ∀ w ∈ ex_at own ic ix b0 cls Y0 r0, w.before args s' = true := vx_own hat' (vx_isRefq hU'.1) (vx_isRefq hN'.1) hU'.2.word hN'.2.word
  have hown' : s'.vm.findClass own = some m.cls := by rw [hvm]; exact hown
  have hins : (Cond.instantiable cls 6).before args s' = true := h _ (by simp [ex_at])
  obtain ⟨vm₁, cX, kX, hfX, hkX, -, -, X₁, st1⟩ := Y.newCold hexec (own := own) (C := cls) (index := ik) (n := 6) hown' hk' hins hini'
    (g := F0 m pc ls rest) rfl (by rw [hb]; exact d0) (Nat.le_refl _) (Nat.le_refl _)
  generalize hT1 : (T.setVm vm₁).pushCell { cls := cX, slots := kX.instanceTypes.map defaultValue, vm := .none } = T1 at X₁ st1
  have hcat : (Value.ref T.heap.size).category = 1 := rfl
  have hcellA : T1.heap[T.heap.size]? = some (freshCell cX kX) := by rw [← hT1]; exact State.heap_pushCell_size _ _
  have d3' : decode c.code (pc + 3) = .ok (.dup, 1) := by rw [hb]; exact d3
  have d4' : decode c.code (pc + 4) = .ok (.ldc is, 2) := by rw [hb]; exact d4
  have hstr' : vk_R own is text sa s' := vk_R.warm hW0 hstr
  obtain ⟨U, hsteps, hrun, hend, hW, hsame, ce, hce, hO, hOc⟩ := ex_ctor X₁ hexec htr (own := own) (cls := cls) (Y0 := Y0) (r0 := r0) (ic := ic) (ix := ix) (b0 := b0) hown' hcls hY0 hnames s0 s1 s2 s5 h (fun x hx => nomatch hx) hfX hkX hcellA (by rw [hhp, hT]; exact Nat.le_refl _) (msg := .ref sa) rfl
    (g := { method := m, pc := pc + 6, locals := ls, stack := .ref sa :: .ref T.heap.size :: .ref T.heap.size :: rest, locked := none }) rfl hsize rfl rfl (rest := rest) rfl
    (by rw [hb]; exact d6) (by rw [hb]; exact d9) hout hRframes (by simp only [List.map_cons, List.sum_cons, hcat]; omega) hlocks
  obtain ⟨f1, f2⟩ := vx_frame hsame
  rw [hhp] at f1 f2
  have hWs : s.WarmedH U.vm := State.WarmedH.trans hW0 hW
  have hcl : s.vm.findClass cls = some ce.cls := by
    rw [hvm] at hOc
    exact hOc
  have hall : s.sameButNew ({ U with vm := s.vm } : State) locs mc ms := by
    subst hA
    obtain ⟨e1, e2⟩ := hsame
    rw [State.setFrames_setFrames] at e1
    have h2 : (T.setVm s.vm).sameButNew ({ U with vm := s.vm } : State) [] (0 + 1) (0 + 6) := ⟨e1, e2⟩
    have h3 := X.same.trans h2
    rw [List.append_nil] at h3
    exact h3.mono hc hs
  refine ⟨U, ?_, .threw T.heap.size, hrun, hend, Or.inr ⟨T.heap.size, rfl, cls, ce, locs, hx U hWs.alike f1 (fun q hq => f2 q hq (fun z hz => nomatch hz)), hce, hO, hcl, hWs, hall, hf⟩⟩
  refine st1 _ ?_
  show Steps p.tables e below (T1.setTop { method := m, pc := pc + 3, locals := ls, stack := .ref T.heap.size :: rest, locked := none }) _
  jvm_step X₁.here [X₁.here.top, hexec, d3', Value.category]
  exact X₁.ldcString hexec (own := own) (text := text) (index := is) (a := sa) hown' hstr'.1 hstr'.2
    (g := { method := m, pc := pc + 4, locals := ls, stack := .ref T.heap.size :: .ref T.heap.size :: rest, locked := none }) rfl d4' _ hsteps
theorem ex_throwSW {cc : ByteArray} {pc : Nat} (hexec : p.tables.exec = Jvm.exec) (hb : c.code = cc) (hl : l.stackTraces = false) {own cls Y0 text : String} {r0 : List String} {ik is ic ix mc ms sa : Nat} {b0 : UInt8} {A : Nat → Prop}
    (hown : s.vm.findClass own = some m.cls) (hcls : Bundle.fit cls = true) (hY0 : Bundle.fit Y0 = true) (hnames : ∀ n ∈ r0, Bundle.fit n = true)
    (s0 : decode (ex_six b0) 0 = .ok (.aload_n 0, 1)) (s1 : decode (ex_six b0) 1 = .ok (.aload_n 1, 1)) (s2 : decode (ex_six b0) 2 = .ok (.invokespecial ix, 3)) (s5 : decode (ex_six b0) 5 = .ok (.return_, 1))
    (hk : (Cond.classLink own ik cls).before args s = true) (hini : (Cond.initialized cls).before args s = true) (hstr : vk_R own is text sa s) (hat : ∀ w ∈ (ex_at own ic ix b0 cls Y0 r0).filter vx_no, w.before args s = true)
    (hgood : ∀ w ∈ Cond.classLink own ik cls :: Cond.initialized cls :: (ex_at own ic ix b0 cls Y0 r0).filter vx_no, vx_ot w = true)
    (hU : vx_Zq Bundle.tN "UNASSIGNED_STACK" Bundle.steD A s s.heap) (hN : vx_Zq Bundle.tN "SUPPRESSED_SENTINEL" Bundle.listD A s s.heap) (hS : va_S A s.heap H locs) (hsize : ls.size = c.maxLocals)
    (d0 : decode cc pc = .ok (.new ik, 3)) (d3 : decode cc (pc + 3) = .ok (.dup, 1)) (d4 : decode cc (pc + 4) = .ok (.ldc_w is, 3)) (d6 : decode cc (pc + 7) = .ok (.invokespecial ic, 3)) (d9 : decode cc (pc + 10) = .ok (.athrow, 1))
    (hout : ∀ x ∈ c.exceptionTable.toList, covers x (pc + 10) = false)
    (hRframes : r0.length + 4 < R.frames) (hRlocals : (rest.map fun v => v.category).sum + (13 * (r0.length + 2) + 43) ≤ R.locals) (hRcells : cells + 1 ≤ R.cells) (hRslots : slots + 6 ≤ R.slots) (hlocks : meth.locks = false)
    (hx : ∀ t : State, s.vm.Alike t.vm → H.size ≤ t.heap.size → (∀ q : Nat, q < H.size → t.heap[q]? = H[q]?) → XC cls s t)
    (hf : ∀ z ∈ locs, free z.base) (hc : cells + 1 ≤ mc) (hs : slots + 6 ≤ ms) :
    W p l e R s m args below meth c H locs cells slots (vx_MQ below Qc XC args s mc ms free) (F0 m pc ls rest) := by
  intro T hT X
  have htr : e.platform.stackTraces = false := (show e.platform.stackTraces = l.stackTraces by rw [X.admits.platform]).trans hl
  have Y := vx_rebase X (R' := { frames := R.frames, locals := R.locals, cells := 1, slots := 6 }) (Nat.le_refl _) (Nat.le_refl _) hRcells hRslots
  obtain ⟨s', hA⟩ : ∃ z, z = (T.setVm s.vm).setFrames (.invoking m args :: below) := ⟨_, rfl⟩
  rw [← hA] at Y
  have hvm : s'.vm = s.vm := by rw [hA]; rfl
  have hhp : s'.heap = H := by rw [hA]; exact hT
  have hW0 : s.WarmedH s'.vm := by rw [hvm]; exact State.WarmedH.refl s
  have hat' : ∀ w ∈ (ex_at own ic ix b0 cls Y0 r0).filter vx_no, w.before args s' = true := fun w hw => vx_ot_at hW0 hvm.symm (hgood w (List.mem_cons_of_mem _ (List.mem_cons_of_mem _ hw))) (hat w hw)
  have hk' : (Cond.classLink own ik cls).before args s' = true := vx_ot_at hW0 hvm.symm (hgood _ List.mem_cons_self) hk
  have hini' : (Cond.initialized cls).before args s' = true := vx_ot_at hW0 hvm.symm (hgood _ (List.mem_cons_of_mem _ List.mem_cons_self)) hini
  have hU' : vx_Zq Bundle.tN "UNASSIGNED_STACK" Bundle.steD A s' s'.heap := by rw [hhp]; exact vx_Zq.moved hW0.alike (hU.kept hS.2.1)
  have hN' : vx_Zq Bundle.tN "SUPPRESSED_SENTINEL" Bundle.listD A s' s'.heap := by rw [hhp]; exact vx_Zq.moved hW0.alike (hN.kept hS.2.1)
  have h : ∀ w ∈ ex_at own ic ix b0 cls Y0 r0, w.before args s' = true := vx_own hat' (vx_isRefq hU'.1) (vx_isRefq hN'.1) hU'.2.word hN'.2.word
  have hown' : s'.vm.findClass own = some m.cls := by rw [hvm]; exact hown
  have hins : (Cond.instantiable cls 6).before args s' = true := h _ (by simp [ex_at])
  obtain ⟨vm₁, cX, kX, hfX, hkX, -, -, X₁, st1⟩ := Y.newCold hexec (own := own) (C := cls) (index := ik) (n := 6) hown' hk' hins hini'
    (g := F0 m pc ls rest) rfl (by rw [hb]; exact d0) (Nat.le_refl _) (Nat.le_refl _)
  generalize hT1 : (T.setVm vm₁).pushCell { cls := cX, slots := kX.instanceTypes.map defaultValue, vm := .none } = T1 at X₁ st1
  have hcat : (Value.ref T.heap.size).category = 1 := rfl
  have hcellA : T1.heap[T.heap.size]? = some (freshCell cX kX) := by rw [← hT1]; exact State.heap_pushCell_size _ _
  have d3' : decode c.code (pc + 3) = .ok (.dup, 1) := by rw [hb]; exact d3
  have d4' : decode c.code (pc + 4) = .ok (.ldc_w is, 3) := by rw [hb]; exact d4
  have hstr' : vk_R own is text sa s' := vk_R.warm hW0 hstr
  obtain ⟨U, hsteps, hrun, hend, hW, hsame, ce, hce, hO, hOc⟩ := ex_ctor X₁ hexec htr (own := own) (cls := cls) (Y0 := Y0) (r0 := r0) (ic := ic) (ix := ix) (b0 := b0) hown' hcls hY0 hnames s0 s1 s2 s5 h (fun x hx => nomatch hx) hfX hkX hcellA (by rw [hhp, hT]; exact Nat.le_refl _) (msg := .ref sa) rfl
    (g := { method := m, pc := pc + 7, locals := ls, stack := .ref sa :: .ref T.heap.size :: .ref T.heap.size :: rest, locked := none }) rfl hsize rfl rfl (rest := rest) rfl
    (by rw [hb]; exact d6) (by rw [hb]; exact d9) hout hRframes (by simp only [List.map_cons, List.sum_cons, hcat]; omega) hlocks
  obtain ⟨f1, f2⟩ := vx_frame hsame
  rw [hhp] at f1 f2
  have hWs : s.WarmedH U.vm := State.WarmedH.trans hW0 hW
  have hcl : s.vm.findClass cls = some ce.cls := by
    rw [hvm] at hOc
    exact hOc
  have hall : s.sameButNew ({ U with vm := s.vm } : State) locs mc ms := by
    subst hA
    obtain ⟨e1, e2⟩ := hsame
    rw [State.setFrames_setFrames] at e1
    have h2 : (T.setVm s.vm).sameButNew ({ U with vm := s.vm } : State) [] (0 + 1) (0 + 6) := ⟨e1, e2⟩
    have h3 := X.same.trans h2
    rw [List.append_nil] at h3
    exact h3.mono hc hs
  refine ⟨U, ?_, .threw T.heap.size, hrun, hend, Or.inr ⟨T.heap.size, rfl, cls, ce, locs, hx U hWs.alike f1 (fun q hq => f2 q hq (fun z hz => nomatch hz)), hce, hO, hcl, hWs, hall, hf⟩⟩
  refine st1 _ ?_
  show Steps p.tables e below (T1.setTop { method := m, pc := pc + 3, locals := ls, stack := .ref T.heap.size :: rest, locked := none }) _
  jvm_step X₁.here [X₁.here.top, hexec, d3', Value.category]
  exact X₁.ldcStringW hexec (own := own) (text := text) (index := is) (a := sa) hown' hstr'.1 hstr'.2
    (g := { method := m, pc := pc + 4, locals := ls, stack := .ref T.heap.size :: .ref T.heap.size :: rest, locked := none }) rfl d4' _ hsteps
end
end
section
/-! methods that throw: out = (the state, (0 or which exception, the answer)) -/
abbrev XO : Type := HS × (Nat × Int32)
def exC (e : Nat) : String := if e = 1 then "java/lang/IndexOutOfBoundsException" else if e = 2 then "java/lang/IllegalArgumentException" else if e = 3 then "java/lang/IllegalStateException" else "java/util/NoSuchElementException"
def exI (e : Nat) : Nat := if e = 4 then 13 else 7
def exB (e : Nat) : UInt8 := if e = 4 then 13 else 7
def EA (own : String) (ic e : Nat) : List Cond := (ex_at own ic (exI e) (exB e) (exC e) "java/lang/RuntimeException" ["java/lang/Exception"]).filter vx_no
def XCw (dC : Nat → ClassId) (dI : Nat → Nat → Nat) (cA : Nat → ClassId) (ad : Nat → Nat) (sz : Nat) (e : Nat) (S : HS) : String → State → State → Prop := fun E st t => E = exC e ∧ wAt dC dI cA ad S t ∧ va_F (fA ad sz) st t
def CtT (l : Launch) (y : MethodName) (cc : ByteArray) (n : Nat) (ret : Option FieldType) (rm : Room) (as : List AV) (S : HS) (e : Nat) (S' : HS) : Prop :=
  ∀ dC dI cA ad sz, Inj ad → vx_Met l y (.code y cc n ret :: TB) rm (va_Pc (as.map (gV ad)) (wPre dC dI cA ad sz S)) (fun _ _ _ _ => False) (XCw dC dI cA ad sz e S') 1 6 (fA ad sz)
/-- the ends of a method that may throw -/
def RtX (G : GT) (cc : ByteArray) (ret : Option FieldType) (out : XO) : Prop :=
  (∀ S lv pc, ret = none → out = (S, (0, 0)) → decode cc pc = .ok (.return_, 1) → G 0 0 S lv pc []) ∧
  (∀ S lv pc ty x, ret = some ty → narrow ty (.int x) = .int x → out = (S, (0, x)) → decode cc pc = .ok (.ireturn, 1) → G 0 0 S lv pc [vI x])
/-- 'throw new E(text)' at pc, its class's number e -/
def ThW (own : String) (cc : ByteArray) (pc e : Nat) : Prop :=
  ∃ (ik is ic : Nat) (text : String), decode cc pc = .ok (.new ik, 3) ∧ decode cc (pc + 3) = .ok (.dup, 1) ∧
    ((decode cc (pc + 4) = .ok (.ldc is, 2) ∧ decode cc (pc + 6) = .ok (.invokespecial ic, 3) ∧ decode cc (pc + 9) = .ok (.athrow, 1)) ∨ (decode cc (pc + 4) = .ok (.ldc_w is, 3) ∧ decode cc (pc + 7) = .ok (.invokespecial ic, 3) ∧ decode cc (pc + 10) = .ok (.athrow, 1))) ∧
    Cond.classLink own ik (exC e) ∈ TB ∧ Cond.initialized (exC e) ∈ TB ∧ (own, is, text) ∈ STR ∧ (∀ w ∈ (EA own ic e).filter goodWord, w ∈ TB) ∧ (∀ w ∈ (EA own ic e).filter (fun w => !goodWord w), w ∈ NF) ∧ (EA own ic e).all vx_ot = true ∧ Bundle.fit (exC e) = true ∧ decode (ex_six (exB e)) 0 = .ok (.aload_n 0, 1) ∧ decode (ex_six (exB e)) 1 = .ok (.aload_n 1, 1) ∧ decode (ex_six (exB e)) 2 = .ok (.invokespecial (exI e), 3) ∧ decode (ex_six (exB e)) 5 = .ok (.return_, 1)
def ThX (own : String) (R : Room) (G : GT) (cc : ByteArray) (out : XO) : Prop :=
  ∀ S lv pc st e, e ≠ 0 → ThW own cc pc e → 5 < R.frames → 90 ≤ R.locals → cats st ≤ 8 → out = (S, (e, 0)) → G 0 0 S lv pc st
/-- a call of a method that throws -/
def XcV (l : Launch) (own : String) (R : Room) (G : GT) (cc : ByteArray) (out : XO) : Prop :=
  ∀ {y : MethodName} {bytes : ByteArray} {nLy idx ci np b pc : Nat} {ret : Option FieldType} {rm : Room} {as st : List AV} {S S' : HS} {lv : List (Nat × AV)} {stk : List AV} {e : Nat}, e ≠ 0 → decode cc pc = .ok (.invokevirtual idx, 3) → MV own idx ci y np → Cond.methodLink own idx y ∈ TB → oc b = some ci → Cond.code y bytes nLy ret ∈ TB → as.length = np → rm.cells = 1 ∧ rm.slots = 6 → (rm.frames + 1 ≤ R.frames ∧ 8 + (nLy + 11) + rm.locals ≤ R.locals) → cats st ≤ 8 → stk = as.reverse ++ vR b :: st → CtT l y bytes nLy ret rm (vR b :: as) S e S' → out = (S', (e, 0)) → G 0 0 S lv pc stk
def CtX (l : Launch) (y : MethodName) (cc : ByteArray) (n : Nat) (ret : Option FieldType) (rm rmT : Room) (as : List AV) (S : HS) (out : XO) : Prop :=
  (out.2.1 = 0 → Ct l y cc n ret rm as S (if ret = none then none else some (vI out.2.2)) out.1) ∧ (out.2.1 ≠ 0 → CtT l y cc n ret rmT as S out.2.1 out.1)
theorem nf_tab : NF.all (fun w => w.onTables) = true := by decide +kernel
theorem atS_of {L : List Cond} {args : Array Value} {s : State} (hg : ∀ w ∈ L.filter goodWord, w ∈ TB) (hb : ∀ w ∈ L.filter (fun w => !goodWord w), w ∈ NF) (hts : ∀ w ∈ TB, w.before args s = true) (hnw : NwA s) : ∀ w ∈ L, w.before args s = true :=
  vx_hat (B := NF) (fun w hw => hts w (hg w hw)) hb (fun w hw => va_Nw.use (List.all_eq_true.mp nf_tab w hw) (hnw.1 w hw))
theorem va_P.grown {D : va_G} {cl : List vw_C} {ws : va_W} {H H1 : Heap} (h : va_P D cl ws H) (hq : ∀ q : Nat, q < H.size → H1[q]? = H[q]?) : va_P D cl ws H1 := fun k q hk => (h k q hk).kept (hq _ (h k q hk).lt)
theorem CtX.intro {l : Launch} {y : MethodName} {cc : ByteArray} {nL : Nat} {ret : Option FieldType} {rm rmT : Room} {as : List AV} {S : HS} {out : XO} {own : String} {lv : List (Nat × AV)} (hl9 : l.stackTraces = false) (hy : plainName y.cls = true) (ho : y.cls = own) (hrm : rm.cells = 0 ∧ rm.slots = 0) (hrmT : rmT.cells = 1 ∧ rmT.slots = 6 ∧ rmT.frames = rm.frames ∧ rmT.locals = rm.locals) (hlv : lvA 0 as = lv) (hn : cats as ≤ nL)
    (body : ∀ R G, R.frames = rm.frames ∧ R.locals = rm.locals → OK l cc own nL R G → RtX G cc ret out → ThX own R G cc out → XcV l own R G cc out → G 0 0 S lv 0 []) : CtX l y cc nL ret rm rmT as S out := by
  refine ⟨fun he => ?_, fun he => ?_⟩
  · refine Ct.intro hy ho hrm hlv hn (fun G hG hR => body rm G ⟨rfl, rfl⟩ hG ⟨?_, ?_⟩ ?_ ?_)
    · intro S2 lv pc h1 h2 hd
      subst h2
      exact hR.1 lv pc h1 (by rw [if_pos h1]) hd
    · intro S2 lv pc ty x h1 hn2 h2 hd
      subst h2
      exact hR.2.1 lv pc ty x h1 hn2 (by rw [if_neg (by rw [h1]; exact fun h => by cases h)]) hd
    · intro S2 lv pc st e h1 _ _ _ _ h2
      subst h2
      exact absurd he h1
    · intro _ _ _ _ _ _ _ _ _ _ _ _ _ _ _ _ _ h1 _ _ _ _ _ _ _ _ _ _ _ h2
      subst h2
      exact absurd he h1
  · intro dC dI cA ad sz hj
    refine vx_ofW (cc := cc) (maxL := nL) (ret := ret) hy rfl ?_
    intro p e s m args below meth c s₁ B hml htab hv
    obtain ⟨rfl, hsz, ⟨hP, hK⟩, hnw, hzw⟩ := hv
    have hx := B.exec
    have hb := B.bytes
    have hts0 := atoms_spec (ws := .code y cc nL ret :: TB) B.pre
    have hts : ∀ w ∈ TB, w.before (as.map (gV ad)).toArray s = true := fun w hw => hts0 w (List.mem_cons_of_mem _ hw)
    have hown : s.vm.findClass own = some m.cls := by rw [← ho]; exact findClass_of_methodNamed B.named
    have hlocks := B.notSynchronized
    subst hsz
    have hl := lv_entry (as.map (gV ad)) (n := nL) (by rw [lvA_len]; exact hn)
    rw [lg_entry_eq]
    generalize (lg_sl (as.map (gV ad)) ++ List.replicate (nL - (lg_sl (as.map (gV ad))).length) Slot.unset).toArray = ls at hl ⊢
    rw [lvA_eq, hlv] at hl
    have hG : OK l cc own nL rmT (Go p l e rmT s m (as.map (gV ad)).toArray below meth c dC dI cA ad nL (vx_MQ below (fun _ _ _ _ => False) (XCw dC dI cA ad s.heap.size out.2.1 out.1) (as.map (gV ad)).toArray s 1 6 (fA ad s.heap.size))) :=
      ⟨p, e, s, m, _, below, meth, c, dC, dI, cA, ad, _, hx, hb, hml, hown, hts, hnw, hK, hj, hzw, rfl⟩
    refine body rmT _ ⟨hrmT.2.2.1, hrmT.2.2.2⟩ hG ⟨?_, ?_⟩ ?_ ?_ s.heap [] ls hP va_S.rf hl
    · intro S2 lv pc _ h2
      subst h2
      exact absurd rfl he
    · intro S2 lv pc ty x _ _ h2
      subst h2
      exact absurd rfl he
    · intro S2 lv pc st e2 h1 hT hRf hRl hcat h2 H locs ls hP hS hl
      obtain ⟨ik, is, ic, text, d0, d3, dd, hk, hini, hstr, hg, hb2, hot, hfit, s0, s1, s2, s5⟩ := hT
      obtain ⟨sa, hsa⟩ := hnw.2.1 _ hstr
      have hcat2 : ((st.map (gV ad)).map fun v => v.category).sum ≤ 8 := by rw [cats_V]; exact hcat
      have hat := atS_of hg hb2 hts hnw
      subst h2
      have hx2 : ∀ t : State, s.vm.Alike t.vm → H.size ≤ t.heap.size → (∀ q : Nat, q < H.size → t.heap[q]? = H[q]?) → XCw dC dI cA ad s.heap.size e2 S2 (exC e2) s t := fun t ht hz hq =>
        ⟨rfl, ⟨hP.grown hq, va_K.moved ht hK⟩, Nat.le_trans hS.1 hz, fun q h1 h2 => by rw [hq q (Nat.lt_of_lt_of_le h1 hS.1)]; exact hS.2.1 q h1 h2⟩
      have hot2 : ∀ w ∈ Cond.classLink own ik (exC e2) :: Cond.initialized (exC e2) :: EA own ic e2, vx_ot w = true := by
        intro w hw
        rcases List.mem_cons.mp hw with rfl | hw
        · rfl
        · rcases List.mem_cons.mp hw with rfl | hw
          · rfl
          · exact List.all_eq_true.mp hot w hw
      have hcl : rmT.cells = 1 ∧ rmT.slots = 6 := ⟨hrmT.1, hrmT.2.1⟩
      rcases dd with ⟨d4, d6, d9⟩ | ⟨d4, d6, d9⟩
      · exact ex_throwS (Y0 := "java/lang/RuntimeException") (r0 := ["java/lang/Exception"]) (ic := ic) (is := is) (sa := sa) (A := fA ad s.heap.size) hx hb hl9 hown hfit (by decide +kernel) (by decide +kernel) s0 s1 s2 s5 (hts _ hk) (hts _ hini) hsa hat hot2 hzw.1 hzw.2 hS (by rw [hml]; exact hl.1) d0 d3 d4 d6 d9 (fun x h => (htab x h).elim) hRf (by show _ + (13 * (1 + 2) + 43) ≤ _; omega) (by omega) (by omega) hlocks hx2 hS.2.2 (by omega) (by omega)
      · exact ex_throwSW (Y0 := "java/lang/RuntimeException") (r0 := ["java/lang/Exception"]) (ic := ic) (is := is) (sa := sa) (A := fA ad s.heap.size) hx hb hl9 hown hfit (by decide +kernel) (by decide +kernel) s0 s1 s2 s5 (hts _ hk) (hts _ hini) hsa hat hot2 hzw.1 hzw.2 hS (by rw [hml]; exact hl.1) d0 d3 d4 d6 d9 (fun x h => (htab x h).elim) hRf (by show _ + (13 * (1 + 2) + 43) ≤ _; omega) (by omega) (by omega) hlocks hx2 hS.2.2 (by omega) (by omega)
    · intro y2 bytes nLy idx ci np b pc ret2 rm2 as2 st S2 S3 lv stk e2 h1 hd hm hlk2 hrec hcode hnp hrm2 hR hst hstk hC h2 H locs ls hP hS hl
      subst h2
      obtain ⟨⟨hy1, hy2, hy3⟩, hinst, hini, hlk, C, T, N, hc, hcls, hsel⟩ := hm
      obtain ⟨ks, hsh⟩ := oc_at hrec
      have hM := hC dC dI cA ad H.size hj
      have hcat : ((st.map (gV ad)).map fun v => v.category).sum ≤ 8 := by rw [cats_V]; exact hst
      have hpre : PreV s H C (ad b) (va_Pc ((vR b :: as2).map (gV ad)) (wPre dC dI cA ad H.size S2)) (as2.map (gV ad)) := ⟨wPre.blind, va_recv (q0 := b) hK hP hc (wld_at hsh), fun U hU hW => ⟨rfl, by rw [hU], ⟨by rw [hU]; exact hP, va_K.moved hW.alike hK⟩, hnw.warm hW, hzw.to hW.alike hU hS.nil⟩⟩
      have hstk2 : stk.map (gV ad) = (as2.map (gV ad)).reverse ++ Value.ref (ad b) :: st.map (gV ad) := by rw [hstk, List.map_append, List.map_reverse]; rfl
      have hlen : (as2.map (gV ad)).length = np := by rw [List.length_map]; exact hnp
      have hr := vx_runV (l := l) (below := below) (meth := meth) (locs := locs) (cells := 0) (slots := 0) (R := rmT) (e := e) (Ts := TB) (nL := nL) (C := C) (rest := st.map (gV ad)) (g := F0 m pc ls (stk.map (gV ad))) ⟨hx, hb, hml, hown, hts⟩ hM ⟨callB_of np hts (TB_ws hcode) rfl hrm2.1 hrm2.2 (hts _ hini) (hts _ hlk2) ⟨hy1, hy2, hy3⟩ hR, hts _ hinst, hts _ hsel⟩ hpre rfl hlen hl.1 hstk2 (lv_room hcat) hd ⟨by omega, by omega⟩
      intro Tt hT X
      rcases hr Tt hT X with ⟨v, st₀, t, T', L, h0, X', hL, e1, e3, hq, st9⟩ | ⟨q, st₀, t, T', L, E9, ce, h0, X', hL, e1, e3, hxc, hce, hcv, hcl, st9⟩
      · exact hq.elim
      · obtain ⟨hE9, hwA, hF⟩ := hxc
        obtain ⟨k1, k2, k3⟩ := vx_keep (A0 := fA ad s.heap.size) (A1 := fA ad H.size) h0 e1 hS (fun q _ => fA_le hS.1 q) (fun q => fA_le hS.1 q) hL hF
        have hW9 := vx_out (p := p) (l := l) (e := e) (R := rmT) (below := below) (c := c) (args := (as.map (gV ad)).toArray) (cells := 0 + 1) (slots := 0 + 6) (mc := 1) (ms := 6) (free := fA ad s.heap.size) (Qc := fun _ _ _ _ => False) (XC := XCw dC dI cA ad s.heap.size e2 S3) (pc := pc) (ls := ls) (rest := st.map (gV ad)) (m := m) (H := T'.heap) (q := q) (E := E9) (ce := ce) (fun x h => (htab x h).elim) hlocks (by rw [e1]; exact hce) hcv hcl (fun t9 ht hA9 => ⟨hE9, ⟨by rw [ht, e1]; exact hwA.1, va_K.moved hA9 hK⟩, by rw [ht]; exact k3.1, fun q h1 h2 => by rw [ht]; exact k3.2.1 q h1 h2⟩) k3.2.2 (by omega) (by omega)
        obtain ⟨t2, a1, b1⟩ := hW9 T' rfl X'
        exact ⟨t2, st9.trans a1, b1⟩
theorem s_xI {l : Launch} {cc : ByteArray} {own : String} {nL : Nat} {R : Room} {G : GT} {pc : Nat} {S : HS} {lv : List (Nat × AV)} {st : List AV} (hG : OK l cc own nL R G) {out : XO} (hX : XcV l own R G cc out) {F : Option XO} {K : XO → Option XO} {y : MethodName} {bytes : ByteArray} {nLy idx np ci b : Nat} {ret : Option FieldType} {rm rmT : Room} {as stk : List AV} (hret : ret ≠ none) (hd : decode cc pc = .ok (.invokevirtual idx, 3)) (hm : MV own idx ci y np) (hlk : Cond.methodLink own idx y ∈ TB) (hrec : oc b = some ci) (hcode : Cond.code y bytes nLy ret ∈ TB) (hnp : as.length = np) (hrm : rm.cells = 0 ∧ rm.slots = 0) (hrmT : rmT.cells = 1 ∧ rmT.slots = 6 ∧ rmT.frames = rm.frames ∧ rmT.locals = rm.locals) (hR : rm.frames + 1 ≤ R.frames ∧ 8 + (nLy + 11) + rm.locals ≤ R.locals) (hst : cats st ≤ 8) (hstk : stk = as.reverse ++ vR b :: st) (hC : ∀ o, F = some o → CtX l y bytes nLy ret rm rmT (vR b :: as) S o) (kk : ∀ o, K o = some out → G 0 0 o.1 lv (pc + 3) (vI o.2.2 :: st)) : F.bind (fun o => if o.2.1 = 0 then K o else some (o.1, (o.2.1, 0))) = some out → G 0 0 S lv pc stk := by
  intro hE
  obtain ⟨o, h1, h2⟩ := bind_some hE
  by_cases he : o.2.1 = 0
  · rw [if_pos he] at h2
    have hc := (hC o h1).1 he
    rw [if_neg hret] at hc
    exact s_cv hG hd hm hrec hcode hnp hrm hR hst ⟨Nat.zero_le _, Nat.zero_le _⟩ hstk hc (kk o h2)
  · rw [if_neg he] at h2
    cases h2
    exact hX he hd hm hlk hrec hcode hnp ⟨hrmT.1, hrmT.2.1⟩ (by rw [hrmT.2.2.1, hrmT.2.2.2]; exact hR) hst hstk ((hC o h1).2 he) rfl
theorem s_xV {l : Launch} {cc : ByteArray} {own : String} {nL : Nat} {R : Room} {G : GT} {pc : Nat} {S : HS} {lv : List (Nat × AV)} {st : List AV} (hG : OK l cc own nL R G) {out : XO} (hX : XcV l own R G cc out) {F : Option XO} {K : XO → Option XO} {y : MethodName} {bytes : ByteArray} {nLy idx np ci b : Nat} {ret : Option FieldType} {rm rmT : Room} {as stk : List AV} (hret : ret = none) (hd : decode cc pc = .ok (.invokevirtual idx, 3)) (hm : MV own idx ci y np) (hlk : Cond.methodLink own idx y ∈ TB) (hrec : oc b = some ci) (hcode : Cond.code y bytes nLy ret ∈ TB) (hnp : as.length = np) (hrm : rm.cells = 0 ∧ rm.slots = 0) (hrmT : rmT.cells = 1 ∧ rmT.slots = 6 ∧ rmT.frames = rm.frames ∧ rmT.locals = rm.locals) (hR : rm.frames + 1 ≤ R.frames ∧ 8 + (nLy + 11) + rm.locals ≤ R.locals) (hst : cats st ≤ 8) (hstk : stk = as.reverse ++ vR b :: st) (hC : ∀ o, F = some o → CtX l y bytes nLy ret rm rmT (vR b :: as) S o) (kk : ∀ o, K o = some out → G 0 0 o.1 lv (pc + 3) (st)) : F.bind (fun o => if o.2.1 = 0 then K o else some (o.1, (o.2.1, 0))) = some out → G 0 0 S lv pc stk := by
  intro hE
  obtain ⟨o, h1, h2⟩ := bind_some hE
  by_cases he : o.2.1 = 0
  · rw [if_pos he] at h2
    have hc := (hC o h1).1 he
    rw [if_pos hret] at hc
    exact s_cv hG hd hm hrec hcode hnp hrm hR hst ⟨Nat.zero_le _, Nat.zero_le _⟩ hstk hc (kk o h2)
  · rw [if_neg he] at h2
    cases h2
    exact hX he hd hm hlk hrec hcode hnp ⟨hrmT.1, hrmT.2.1⟩ (by rw [hrmT.2.2.1, hrmT.2.2.2]; exact hR) hst hstk ((hC o h1).2 he) rfl
theorem s_thr {cc : ByteArray} {own : String} {R : Room} {G : GT} {pc : Nat} {S : HS} {lv : List (Nat × AV)} {st : List AV} {out : XO} (hT : ThX own R G cc out) {e : Nat} (he : e ≠ 0) (hw : ThW own cc pc e) (hR : 5 < R.frames ∧ 90 ≤ R.locals) (hst : cats st ≤ 8) : some (S, (e, (0 : Int32))) = some out → G 0 0 S lv pc st := fun h => hT _ _ _ _ _ he hw hR.1 hR.2 hst (Option.some.inj h).symm
theorem s_xrv {cc : ByteArray} {G : GT} {pc : Nat} {S : HS} {lv : List (Nat × AV)} {out : XO} (hR : RtX G cc none out) (hd : decode cc pc = .ok (.return_, 1)) : some (S, ((0 : Nat), (0 : Int32))) = some out → G 0 0 S lv pc [] := fun h => hR.1 _ _ _ rfl (Option.some.inj h).symm hd
theorem s_xri {cc : ByteArray} {G : GT} {pc : Nat} {S : HS} {lv : List (Nat × AV)} {x : Int32} {out : XO} (hR : RtX G cc (some .int) out) (hd : decode cc pc = .ok (.ireturn, 1)) : some (S, ((0 : Nat), x)) = some out → G 0 0 S lv pc [vI x] := fun h => hR.2 _ _ _ _ _ rfl rfl (Option.some.inj h).symm hd
theorem s_xrz {cc : ByteArray} {G : GT} {pc : Nat} {S : HS} {lv : List (Nat × AV)} {x : Int32} {out : XO} (hR : RtX G cc (some .boolean) out) (hd : decode cc pc = .ok (.ireturn, 1)) : (if nz x = true then some (S, ((0 : Nat), x)) else none) = some out → G 0 0 S lv pc [vI x] := fun h => by
  by_cases hn : nz x = true
  · rw [if_pos hn] at h; exact hR.2 _ _ _ _ _ rfl (nz_ok hn).1 (Option.some.inj h).symm hd
  · rw [if_neg hn] at h; cases h
theorem s_xrc {cc : ByteArray} {G : GT} {pc : Nat} {S : HS} {lv : List (Nat × AV)} {x : Int32} {out : XO} (hR : RtX G cc (some .char) out) (hd : decode cc pc = .ok (.ireturn, 1)) : (if ch x = true then some (S, ((0 : Nat), x)) else none) = some out → G 0 0 S lv pc [vI x] := fun h => by
  by_cases hn : ch x = true
  · rw [if_pos hn] at h; exact hR.2 _ _ _ _ _ rfl (ch_ok hn) (Option.some.inj h).symm hd
  · rw [if_neg hn] at h; cases h
end
section
/-! methods with a table of their own (the law's, round a call that may throw): they return, one new cell at most -/
def OKT (l : Launch) (cc : ByteArray) (own : String) (nL : Nat) (R : Room) (G : GT) (tab : List ExceptionTableEntry) (Gx : Nat → HS → List (Nat × AV) → Nat → List AV → Prop) : Prop :=
  ∃ (p : Program) (e : Env) (s : State) (m : MethodId) (args : Array Value) (below : List Frame) (meth : Method) (c : Code) (dC : Nat → ClassId) (dI : Nat → Nat → Nat) (cA : Nat → ClassId) (ad : Nat → Nat) (Q : State → Prop),
    p.tables.exec = Jvm.exec ∧ c.code = cc ∧ c.maxLocals = nL ∧ s.vm.findClass own = some m.cls ∧ (∀ w ∈ TB, w.before args s = true) ∧ NwA s ∧ va_K (dC, dI) vwCl (tyl cA) s ∧ Inj ad ∧ ZW ad s.heap.size s ∧ c.exceptionTable.toList = tab ∧ G = Go p l e R s m args below meth c dC dI cA ad nL Q ∧
    Gx = fun ex S lv pc st => ∀ (H : Heap) (locs : List Loc) (ls : Array Slot) (q : Addr) (ce : Cell), va_P (dC, dI) vwCl (wld cA ad S) H → va_S (fA ad s.heap.size) s.heap H locs → lv_has ls nL (gL ad lv) → H[q]? = some ce → ce.vm = .none → s.vm.findClass (exC ex) = some ce.cls → vx_W p l e R s m args below meth c H locs 1 6 Q (F0 m pc ls (st.map (gV ad))) q
theorem OKT.ok {l : Launch} {cc : ByteArray} {own : String} {nL : Nat} {R : Room} {G : GT} {tab : List ExceptionTableEntry} {Gx : Nat → HS → List (Nat × AV) → Nat → List AV → Prop} (h : OKT l cc own nL R G tab Gx) : OK l cc own nL R G := by
  obtain ⟨p, e, s, m, args, below, meth, c, dC, dI, cA, ad, Q, hx, hb, hml, hown, hts, hnw, hK, hj, hzw, ht, hG, -⟩ := h
  exact ⟨p, e, s, m, args, below, meth, c, dC, dI, cA, ad, Q, hx, hb, hml, hown, hts, hnw, hK, hj, hzw, hG⟩
def CtW (l : Launch) (y : MethodName) (cc : ByteArray) (n : Nat) (ret : Option FieldType) (hh : List (Nat × Nat × Nat × Nat)) (rm : Room) (as : List AV) (S : HS) (r : Option AV) (S' : HS) : Prop :=
  ∀ dC dI cA ad sz, Inj ad → vx_Met l y (.codeWith y cc n ret hh :: TB) rm (va_Pc (as.map (gV ad)) (wPre dC dI cA ad sz S)) (wQ dC dI cA ad sz r S') (fun _ _ _ => False) 1 6 (fA ad sz)
def RtW (G : GT) (cc : ByteArray) (out : HS × Int32) : Prop := ∀ S lv pc k n x, k ≤ 1 → n ≤ 6 → out = (S, x) → decode cc pc = .ok (.ireturn, 1) → G k n S lv pc [vI x]
/-- the handler of exception e's class for pc -/
def CTb (own : String) (tab : List ExceptionTableEntry) (pc e hpc : Nat) : Prop :=
  ∃ (pre : List ExceptionTableEntry) (x : ExceptionTableEntry) (suf : List ExceptionTableEntry) (nm : String), tab = pre ++ x :: suf ∧ (∀ z ∈ pre, covers z pc = false ∨ (z.catchType ≠ 0 ∧ ∃ nm2, Cond.classLink own z.catchType nm2 ∈ TB ∧ (exC e, nm2) ∈ NCS)) ∧ covers x pc = true ∧ x.catchType ≠ 0 ∧ Cond.classLink own x.catchType nm ∈ TB ∧ Cond.castable (exC e) nm ∈ NF ∧ x.handlerPc = hpc
theorem CtW.intro {l : Launch} {y : MethodName} {cc : ByteArray} {nL : Nat} {hh : List (Nat × Nat × Nat × Nat)} {rm : Room} {as : List AV} {S : HS} {out : HS × Int32} {own : String} {lv : List (Nat × AV)} (hy : plainName y.cls = true) (ho : y.cls = own) (hrm : rm.cells = 1 ∧ rm.slots = 6) (hlv : lvA 0 as = lv) (hn : cats as ≤ nL)
    (body : ∀ G Gx, OKT l cc own nL rm G (tableOf hh) Gx → RtW G cc out → G 0 0 S lv 0 []) : CtW l y cc nL (some .int) hh rm as S (some (vI out.2)) out.1 := by
  intro dC dI cA ad sz hj
  refine vx_ofWH (cc := cc) (maxL := nL) (ret := some .int) (hh := hh) hy rfl ?_
  intro p e s m args below meth c s₁ B hml hv
  obtain ⟨rfl, hsz, ⟨hP, hK⟩, hnw, hzw⟩ := hv
  have hx := B.exec
  have hb := B.bytes
  have hr := B.returns
  have hts0 := atoms_spec (ws := .codeWith y cc nL (some .int) hh :: TB) B.pre
  have htab := vx_table (x := y) B (hts0 _ List.mem_cons_self)
  have hown : s.vm.findClass own = some m.cls := by rw [← ho]; exact findClass_of_methodNamed B.named
  have hlocks := B.notSynchronized
  subst hsz
  have hl := lv_entry (as.map (gV ad)) (n := nL) (by rw [lvA_len]; exact hn)
  rw [lg_entry_eq]
  generalize (lg_sl (as.map (gV ad)) ++ List.replicate (nL - (lg_sl (as.map (gV ad))).length) Slot.unset).toArray = ls at hl ⊢
  rw [lvA_eq, hlv] at hl
  have hG : OKT l cc own nL rm (Go p l e rm s m (as.map (gV ad)).toArray below meth c dC dI cA ad nL (vx_MQ below (wQ dC dI cA ad s.heap.size (some (vI out.2)) out.1) (fun _ _ _ => False) (as.map (gV ad)).toArray s 1 6 (fA ad s.heap.size))) (tableOf hh) _ :=
    ⟨p, e, s, m, _, below, meth, c, dC, dI, cA, ad, _, hx, hb, hml, hown, fun w hw => hts0 w (List.mem_cons_of_mem _ hw), hnw, hK, hj, hzw, htab, rfl, rfl⟩
  refine body _ _ hG ?_ s.heap [] ls hP va_S.rf hl
  intro S2 lv pc k n x h1 h2 h3 hd H locs ls hP hS hl
  subst h3
  exact W.widen h1 h2 (vx_ret (W.iret (v := x) hx hb hr (fun t ht hW => ⟨⟨rfl, by rw [ht]; exact hP, va_K.moved hW.alike hK⟩, hS.F ht⟩) hS.2.2 hd))
section
variable {l : Launch} {cc : ByteArray} {own : String} {nL : Nat} {R : Room} {G : GT} {E : Prop} {k n pc : Nat} {S : HS} {lv : List (Nat × AV)} {st : List AV} {tab : List ExceptionTableEntry} {Gx : Nat → HS → List (Nat × AV) → Nat → List AV → Prop}
theorem s_wri {out : HS × Int32} {x : Int32} (hR : RtW G cc out) (h1 : k ≤ 1) (h2 : n ≤ 6) (hd : decode cc pc = .ok (.ireturn, 1)) : some (S, x) = some out → G k n S lv pc [vI x] := fun h => hR _ _ _ _ _ _ h1 h2 (Option.some.inj h).symm hd
/-- the law's call of a method that may throw, in a method with a table -/
theorem s_wx (hG : OKT l cc own nL R G tab Gx) {α : Type} {out : α} {F : Option XO} {K HX : XO → Option α} {y : MethodName} {bytes : ByteArray} {nLy idx np ci b : Nat} {ret : Option FieldType} {rm rmT : Room} {as stk : List AV} (hret : ret ≠ none) (hd : decode cc pc = .ok (.invokevirtual idx, 3)) (hm : MV own idx ci y np) (hlk : Cond.methodLink own idx y ∈ TB) (hrec : oc b = some ci) (hcode : Cond.code y bytes nLy ret ∈ TB) (hnp : as.length = np) (hrm : rm.cells = 0 ∧ rm.slots = 0) (hrmT : rmT.cells = 1 ∧ rmT.slots = 6 ∧ rmT.frames = rm.frames ∧ rmT.locals = rm.locals) (hR : rm.frames + 1 ≤ R.frames ∧ 8 + (nLy + 11) + rm.locals ≤ R.locals) (hRc : R.cells = 1 ∧ R.slots = 6) (hst : cats st ≤ 8) (hstk : stk = as.reverse ++ vR b :: st) (hC : ∀ o, F = some o → CtX l y bytes nLy ret rm rmT (vR b :: as) S o) (kk : ∀ o, K o = some out → G 0 0 o.1 lv (pc + 3) (vI o.2.2 :: st)) (kx : ∀ o : XO, HX o = some out → Gx o.2.1 o.1 lv pc st) : F.bind (fun o => if o.2.1 = 0 then K o else HX o) = some out → G 0 0 S lv pc stk := by
  intro hE
  obtain ⟨o, h1, h2⟩ := bind_some hE
  by_cases he : o.2.1 = 0
  · rw [if_pos he] at h2
    have hc := (hC o h1).1 he
    rw [if_neg hret] at hc
    exact s_cv hG.ok hd hm hrec hcode hnp hrm hR hst ⟨Nat.zero_le _, Nat.zero_le _⟩ hstk hc (kk o h2)
  · rw [if_neg he] at h2
    have hC2 := (hC o h1).2 he
    have hX := kx o h2
    obtain ⟨p, e, s, m, args, below, meth, c, dC, dI, cA, ad, Q, hx, hb, hml, hown, hts, hnw, hK, hj, hzw, ht, rfl, rfl⟩ := hG
    intro H locs ls hP hS hl
    obtain ⟨⟨hy1, hy2, hy3⟩, hinst, hini, -, C, T, N, hc, hcls, hsel⟩ := hm
    obtain ⟨ks, hsh⟩ := oc_at hrec
    have hM := hC2 dC dI cA ad H.size hj
    have hcat : ((st.map (gV ad)).map fun v => v.category).sum ≤ 8 := by rw [cats_V]; exact hst
    have hpre : PreV s H C (ad b) (va_Pc ((vR b :: as).map (gV ad)) (wPre dC dI cA ad H.size S)) (as.map (gV ad)) := ⟨wPre.blind, va_recv (q0 := b) hK hP hc (wld_at hsh), fun U hU hW => ⟨rfl, by rw [hU], ⟨by rw [hU]; exact hP, va_K.moved hW.alike hK⟩, hnw.warm hW, hzw.to hW.alike hU hS.nil⟩⟩
    have hstk2 : stk.map (gV ad) = (as.map (gV ad)).reverse ++ Value.ref (ad b) :: st.map (gV ad) := by rw [hstk, List.map_append, List.map_reverse]; rfl
    have hlen : (as.map (gV ad)).length = np := by rw [List.length_map]; exact hnp
    have hr := vx_runV (l := l) (below := below) (meth := meth) (locs := locs) (cells := 0) (slots := 0) (R := R) (e := e) (Ts := TB) (nL := nL) (C := C) (rest := st.map (gV ad)) (g := F0 m pc ls (stk.map (gV ad))) ⟨hx, hb, hml, hown, hts⟩ hM ⟨callB_of np hts (TB_ws hcode) rfl hrmT.1 hrmT.2.1 (hts _ hini) (hts _ hlk) ⟨hy1, hy2, hy3⟩ (by rw [hrmT.2.2.1, hrmT.2.2.2]; exact hR), hts _ hinst, hts _ hsel⟩ hpre rfl hlen hl.1 hstk2 (lv_room hcat) hd ⟨by omega, by omega⟩
    intro Tt hT X
    rcases hr Tt hT X with ⟨v, st₀, t, T', L, h0, X', hL, e1, e3, hq, st9⟩ | ⟨q, st₀, t, T', L, E9, ce, h0, X', hL, e1, e3, hxc, hce, hcv, hcl, st9⟩
    · exact hq.elim
    · obtain ⟨rfl, hwA, hF⟩ := hxc
      obtain ⟨k1, k2, k3⟩ := vx_keep (A0 := fA ad s.heap.size) (A1 := fA ad H.size) h0 e1 hS (fun q _ => fA_le hS.1 q) (fun q => fA_le hS.1 q) hL hF
      obtain ⟨t2, a1, b1⟩ := hX T'.heap (locs ++ L) ls q ce (by rw [e1]; exact hwA.1) k3 hl (by rw [e1]; exact hce) hcv hcl T' rfl X'
      exact ⟨t2, st9.trans a1, b1⟩
theorem s_cx1 {α : Type} {A B : Option α} {out : α} {e e0 : Nat} (h1 : A = some out → Gx e0 S lv pc st) (h2 : B = some out → Gx e S lv pc st) : (if e = e0 then A else B) = some out → Gx e S lv pc st := by
  intro hE
  by_cases h : e = e0
  · rw [if_pos h] at hE; rw [h]; exact h1 hE
  · rw [if_neg h] at hE; exact h2 hE
theorem s_cx0 {α : Type} {out : α} {e : Nat} : (none : Option α) = some out → Gx e S lv pc st := fun h => by cases h
/-- caught: the handler begins by storing the exception in local i, which is not read any more -/
theorem s_catch (hG : OKT l cc own nL R G tab Gx) {e hpc i : Nat} {lv' : List (Nat × AV)} (hc : CTb own tab pc e hpc) (hd : (∃ q : Fin 4, q.val = i ∧ decode cc hpc = .ok (.astore_n q, 1)) ∨ decode cc hpc = .ok (.astore i, 2)) (hn : i < nL) (hlv : lv.filter (fun q => !(q.1 == i) && !(q.1 + 1 == i && cat2 q.2)) = lv') (kk1 : decode cc hpc = .ok (.astore i, 2) → E → G 1 6 S lv' (hpc + 2) []) (kk2 : (∃ q : Fin 4, q.val = i ∧ decode cc hpc = .ok (.astore_n q, 1)) → E → G 1 6 S lv' (hpc + 1) []) : E → Gx e S lv pc st := by
  intro hE
  obtain ⟨p, e9, s, m, args, below, meth, c, dC, dI, cA, ad, Q, hx, hb, hml, hown, hts, hnw, hK, hj, hzw, ht, rfl, rfl⟩ := hG
  obtain ⟨pre, x, suf, nm, hsp, hpass, hcov, h0, hlk, hcast, rfl⟩ := hc
  intro H locs ls q ce hP hS hl hce hcv hcl
  have hsub : ∀ ls' : Array Slot, lv_has ls' nL ((i, Value.ref q) :: (gL ad lv).filter (fun q => !(q.1 == i) && !(q.1 + 1 == i && q.2.category == 2))) → lv_has ls' nL (gL ad lv') := by
    intro ls' hl'
    refine ⟨hl'.1, hl'.2.1, fun z hz => hl'.2.2 z (List.mem_cons_of_mem _ ?_)⟩
    subst hlv
    unfold gL at hz ⊢
    rw [List.filter_map]
    have h9 : ((fun q : Nat × Value => !(q.1 == i) && !(q.1 + 1 == i && q.2.category == 2)) ∘ fun q : Nat × AV => (q.1, gV ad q.2)) = fun q => !(q.1 == i) && !(q.1 + 1 == i && cat2 q.2) := by
      funext z9
      simp only [Function.comp, gV_cat]
    rw [h9]
    exact hz
  refine vx_catch (name := nm) hown pre x suf (ht.trans hsp) (fun z hz => ?_) hcov h0 (hts _ hlk) (va_Nw.use rfl (hnw.1 _ hcast)) hce hcv hcl ?_
  · rcases hpass z hz with h | ⟨h1, nm2, h2, h3⟩
    · exact Or.inl h
    · exact Or.inr ⟨h1, nm2, hts _ h2, hnw.2.2 _ h3⟩
  · rcases hd with ⟨q4, h4, hd⟩ | hd
    · exact lv_astore_n hx hb hd h4 hl hn rfl (fun ls' hl' => kk2 ⟨q4, h4, hd⟩ hE H locs ls' hP hS (hsub ls' hl'))
    · exact lv_astore hx hb hd hl hn rfl (fun ls' hl' => kk1 hd hE H locs ls' hP hS (hsub ls' hl'))
theorem s_catchN (hG : OKT l cc own nL R G tab Gx) {e hpc : Nat} {q : Fin 4} {lv' : List (Nat × AV)} (hc : CTb own tab pc e hpc) (hd : decode cc hpc = .ok (.astore_n q, 1)) (hn : q.val < nL) (hlv : lv.filter (fun z => !(z.1 == q.val) && !(z.1 + 1 == q.val && cat2 z.2)) = lv') (kk : E → G 1 6 S lv' (hpc + 1) []) : E → Gx e S lv pc st :=
  s_catch hG hc (Or.inl ⟨q, rfl, hd⟩) hn hlv (fun h => by rw [hd] at h; cases h) (fun _ => kk)
theorem s_catchA (hG : OKT l cc own nL R G tab Gx) {e hpc i : Nat} {lv' : List (Nat × AV)} (hc : CTb own tab pc e hpc) (hd : decode cc hpc = .ok (.astore i, 2)) (hn : i < nL) (hlv : lv.filter (fun z => !(z.1 == i) && !(z.1 + 1 == i && cat2 z.2)) = lv') (kk : E → G 1 6 S lv' (hpc + 2) []) : E → Gx e S lv pc st :=
  s_catch hG hc (Or.inr hd) hn hlv (fun _ => kk) (fun ⟨q, _, h⟩ => by rw [hd] at h; cases h)
end
end
section
/-! the law's own rows: its script, its calls of methods with a table, its room -/
def OKL (l : Launch) (cc : ByteArray) (own : String) (nL : Nat) (R : Room) (G : GT) (xs : Nat → Int32) (L : Nat) : Prop :=
  ∃ (p : Program) (e : Env) (s : State) (m : MethodId) (args : Array Value) (below : List Frame) (meth : Method) (c : Code) (dC : Nat → ClassId) (dI : Nat → Nat → Nat) (cA : Nat → ClassId) (ad : Nat → Nat) (Q : State → Prop),
    p.tables.exec = Jvm.exec ∧ c.code = cc ∧ c.maxLocals = nL ∧ s.vm.findClass own = some m.cls ∧ (∀ w ∈ TB, w.before args s = true) ∧ NwA s ∧ va_K (dC, dI) vwCl (tyl cA) s ∧ Inj ad ∧ ZW ad s.heap.size s ∧ va_X (ad 61) L xs s s.heap ∧ ad 61 < s.heap.size ∧ ¬ fA ad s.heap.size (ad 61) ∧ G = Go p l e R s m args below meth c dC dI cA ad nL Q
section
variable {l : Launch} {cc : ByteArray} {own : String} {nL : Nat} {R : Room} {G : GT} {E : Prop} {k n pc : Nat} {S : HS} {lv : List (Nat × AV)} {st : List AV} {xs : Nat → Int32} {L : Nat}
theorem OKL.ok (h : OKL l cc own nL R G xs L) : OK l cc own nL R G := by
  obtain ⟨p, e, s, m, args, below, meth, c, dC, dI, cA, ad, Q, hx, hb, hml, hown, hts, hnw, hK, hj, hzw, -, -, -, hG⟩ := h
  exact ⟨p, e, s, m, args, below, meth, c, dC, dI, cA, ad, Q, hx, hb, hml, hown, hts, hnw, hK, hj, hzw, hG⟩
theorem s_sld (hG : OKL l cc own nL R G xs L) {α : Type} {A : Option α} {out : α} {i : Int32} (hd : decode cc pc = .ok (.iaload, 1)) (kk : A = some out → G k n S lv (pc + 1) (vI (xs i.toNatClampNeg) :: st)) : (if ib i L = true then A else none) = some out → G k n S lv pc (vI i :: vR 61 :: st) := by
  intro hE
  by_cases hy : ib i L = true
  · rw [if_pos hy] at hE
    obtain ⟨p, e, s, m, args, below, meth, c, dC, dI, cA, ad, Q, hx, hb, hml, hown, hts, hnw, hK, hj, hzw, hX, hbl, hbA, rfl⟩ := hG
    intro H locs ls hP hS hl
    exact va_sld hx hb hX hbl hbA hS (ib_in hy) hd (kk hE H locs ls hP hS hl)
  · rw [if_neg hy] at hE; cases hE
theorem s_slen (hG : OKL l cc own nL R G xs L) (hd : decode cc pc = .ok (.arraylength, 1)) (kk : E → G k n S lv (pc + 1) (vI (Int32.ofNat L) :: st)) : E → G k n S lv pc (vR 61 :: st) := by
  intro hE
  obtain ⟨p, e, s, m, args, below, meth, c, dC, dI, cA, ad, Q, hx, hb, hml, hown, hts, hnw, hK, hj, hzw, hX, hbl, hbA, rfl⟩ := hG
  intro H locs ls hP hS hl
  exact va_slen hx hb hX hbl hbA hS hd (kk hE H locs ls hP hS hl)
theorem s_wid (hG : OK l cc own nL R G) (k' n' : Nat) (h1 : k ≤ k') (h2 : n ≤ n') (kk : E → G k' n' S lv pc st) : E → G k n S lv pc st := by
  intro hE
  obtain ⟨p, e, s, m, args, below, meth, c, dC, dI, cA, ad, Q, hx, hb, hml, hown, hts, hnw, hK, hj, hzw, rfl⟩ := hG
  intro H locs ls hP hS hl
  exact W.widen h1 h2 (kk hE H locs ls hP hS hl)
theorem s_lw (hG : OK l cc own nL R G) {α : Type} {out : α} {F : Option (HS × Int32)} {K : HS × Int32 → Option α} {y : MethodName} {bytes : ByteArray} {nLy idx np : Nat} {ret : Option FieldType} {hh : List (Nat × Nat × Nat × Nat)} {rm : Room} {as stk : List AV} (hd : decode cc pc = .ok (.invokestatic idx, 3)) (hm : MS own idx y np) (hlk : Cond.methodLink own idx y ∈ TB) (hcode : Cond.codeWith y bytes nLy ret hh ∈ TB) (hnp : as.length = np) (hrm : rm.cells = 1 ∧ rm.slots = 6) (hR : rm.frames + 1 ≤ R.frames ∧ 8 + (nLy + 11) + rm.locals ≤ R.locals) (hst : cats st ≤ 8) (hkn : k + 1 ≤ R.cells ∧ n + 6 ≤ R.slots) (hstk : stk = as.reverse ++ st) (hC : ∀ o, F = some o → CtW l y bytes nLy ret hh rm as S (some (vI o.2)) o.1) (kk : ∀ o, K o = some out → G (k + 1) (n + 6) o.1 lv (pc + 3) (vI o.2 :: st)) : F.bind K = some out → G k n S lv pc stk := by
  intro hE
  obtain ⟨o, h1, h2⟩ := bind_some hE
  have hC2 := hC o h1
  have hkk := kk o h2
  obtain ⟨p, e, s, m, args, below, meth, c, dC, dI, cA, ad, Q, hx, hb, hml, hown, hts, hnw, hK, hj, hzw, rfl⟩ := hG
  intro H locs ls hP hS hl
  obtain ⟨⟨hy1, hy2, hy3⟩, hstat, hini, -⟩ := hm
  have hM := hC2 dC dI cA ad H.size hj
  have hcat : ((st.map (gV ad)).map fun v => v.category).sum ≤ 8 := by rw [cats_V]; exact hst
  have hpre : PreS s H (va_Pc (as.map (gV ad)) (wPre dC dI cA ad H.size S)) (as.map (gV ad)) := ⟨wPre.blind, fun U hU hW => ⟨rfl, by rw [hU], ⟨by rw [hU]; exact hP, va_K.moved hW.alike hK⟩, hnw.warm hW, hzw.to hW.alike hU hS.nil⟩⟩
  have hstk2 : stk.map (gV ad) = (as.map (gV ad)).reverse ++ st.map (gV ad) := by rw [hstk, List.map_append, List.map_reverse]
  have hlen : (as.map (gV ad)).length = np := by rw [List.length_map]; exact hnp
  have hgd : GoodIn TB (va_wsS own idx y (Cond.codeWith y bytes nLy ret hh :: TB)) := by
    intro w hw
    rcases List.mem_append.mp hw with hw | hw
    · rcases List.mem_cons.mp hw with rfl | hw
      · exact TB_in hlk
      · rcases List.mem_cons.mp hw with rfl | hw
        · exact TB_in hstat
        · rcases List.mem_cons.mp hw with rfl | hw
          · exact TB_in hini
          · cases hw
    · exact TB_ws hcode w hw
  have hr := vx_runSX (l := l) (below := below) (meth := meth) (locs := locs) (cells := k) (slots := n) (R := R) (e := e) (Ts := TB) (nL := nL) (rest := st.map (gV ad)) (g := F0 m pc ls (stk.map (gV ad))) ⟨hx, hb, hml, hown, hts⟩ hM (vx_cwSW np hts hgd rfl hrm.1 hrm.2 ⟨hy1, hy2, hy3⟩ hR) hpre rfl hlen hl.1 hstk2 (lv_room hcat) hd hkn
  intro Tt hT X
  rcases hr Tt hT X with ⟨v, st₀, t, T', L9, h0, X', hL, e1, e3, ⟨⟨hv, hwA⟩, hF⟩, st9⟩ | ⟨q, st₀, t, T', L9, E9, ce, h0, X', hL, e1, e3, hxc, -⟩
  · cases hv
    obtain ⟨k1, k2, k3⟩ := vx_keep (A0 := fA ad s.heap.size) (A1 := fA ad H.size) h0 e1 hS (fun q _ => fA_le hS.1 q) (fun q => fA_le hS.1 q) hL hF
    obtain ⟨t2, a1, b1⟩ := hkk T'.heap (locs ++ L9) ls (by rw [e1]; exact hwA.1) k3 hl T' rfl X'
    exact ⟨t2, st9 t2 a1, b1⟩
  · exact hxc.elim
end
end
section
/-! constructors: worlds written out, at addresses that are variables -/
theorem va_nd_of : ∀ {l : List Nat}, l.Nodup → va_nd l = true
  | [], _ => rfl
  | a :: l, h => by
    rw [List.nodup_cons] at h
    simp only [va_nd, Bool.and_eq_true, decide_eq_true_eq]
    exact ⟨h.1, va_nd_of h.2⟩
theorem va_nd_range (n : Nat) : va_nd (List.range n) = true := va_nd_of List.nodup_range
abbrev GNT : Type := Nat → Nat → va_W → List (Nat × Value) → Nat → List Value → Prop
def OKN (l : Launch) (cc : ByteArray) (own : String) (nL : Nat) (R : Room) (D : va_G) (cA : Nat → ClassId) (A : Nat → Prop) (init : Prop) (G : GNT) : Prop :=
  ∃ (p : Program) (e : Env) (s : State) (m : MethodId) (args : Array Value) (below : List Frame) (meth : Method) (c : Code) (Q : State → Prop),
    p.tables.exec = Jvm.exec ∧ c.code = cc ∧ c.maxLocals = nL ∧ s.vm.findClass own = some m.cls ∧ (∀ w ∈ TB, w.before args s = true) ∧ NwA s ∧ va_K D vwCl (tyl cA) s ∧ (∀ q, s.heap.size ≤ q → A q) ∧ (init → meth.name = "<init>") ∧
    G = fun k n ws lv pc st => ∀ (H : Heap) (locs : List Loc) (ls : Array Slot), va_P D vwCl ws H → va_D A ws → va_S A s.heap H locs → lv_has ls nL lv → W p l e R s m args below meth c H locs k n Q (F0 m pc ls st)
def nPre (D : va_G) (cA : Nat → ClassId) (sz : Nat) (ws : va_W) (U : State) : Prop := U.heap.size = sz ∧ va_P D vwCl ws U.heap ∧ va_K D vwCl (tyl cA) U ∧ va_D (fun _ => True) ws ∧ NwA U
def nQ (D : va_G) (sz : Nat) (ws : va_W) (BW : va_W → Prop) : Array Value → State → Outcome → State → Prop := fun _ st oc t => (oc = .returned none ∧ ∃ w1, BW w1 ∧ va_P D vwCl w1 t.heap ∧ va_D (va_A ws sz) w1) ∧ va_F (va_A ws sz) st t
/-- a constructor's contract: from the world ws to a world that BW knows -/
def CtN (l : Launch) (y : MethodName) (cc : ByteArray) (n : Nat) (rm : Room) (as : List Value) (D : va_G) (cA : Nat → ClassId) (ws : va_W) (BW : va_W → Prop) : Prop :=
  ∀ sz, Met l y (.code y cc n none :: TB) rm (va_Pc as (nPre D cA sz ws)) (nQ D sz ws BW) rm.cells rm.slots (va_A ws sz)
theorem nPre.blind {D : va_G} {cA : Nat → ClassId} {sz : Nat} {ws : va_W} {as : List Value} : FrameBlind (va_Pc as (nPre D cA sz ws)) := by
  intro a U g mk h
  obtain ⟨h1, h2, h3, h4, h5, h6⟩ := h
  exact ⟨h1, h2, h3, va_K.moved (u := U) (U := U.calling g mk a) (Vm.Alike.refl U.vm) h4, h5, h6.blind⟩
theorem CtN.intro {l : Launch} {y : MethodName} {cc : ByteArray} {nL : Nat} {rm : Room} {as : List Value} {D : va_G} {cA : Nat → ClassId} {ws : va_W} {BW : va_W → Prop} {own : String} {lv : List (Nat × Value)} (hy : plainName y.cls = true) (ho : y.cls = own) (hin : y.name = "<init>") (hlv : lv_args 0 as = lv) (hn : (lg_sl as).length ≤ nL)
    (body : ∀ sz G, OKN l cc own nL rm D cA (va_A ws sz) True G → (∀ w1 lv pc, BW w1 → decode cc pc = .ok (.return_, 1) → G rm.cells rm.slots w1 lv pc []) → G 0 0 ws lv 0 []) : CtN l y cc nL rm as D cA ws BW := by
  intro sz
  refine Met.ofW (cc := cc) (maxL := nL) (ret := none) hy rfl ?_
  intro p e s m args below meth c s₁ B hml hv
  obtain ⟨rfl, hsz, hP, hK, hD0, hnw⟩ := hv
  have hx := B.exec
  have hb := B.bytes
  have hr := B.returns
  have hts0 := atoms_spec (ws := .code y cc nL none :: TB) B.pre
  have hown : s.vm.findClass own = some m.cls := by rw [← ho]; exact findClass_of_methodNamed B.named
  have hlocks := B.notSynchronized
  have hname : meth.name = "<init>" := (name_of_methodNamed B.named B.method).1.trans hin
  subst hsz
  have hl := lv_entry as (n := nL) hn
  rw [lg_entry_eq]
  generalize (lg_sl as ++ List.replicate (nL - (lg_sl as).length) Slot.unset).toArray = ls at hl ⊢
  rw [hlv] at hl
  refine body s.heap.size _ ⟨p, e, s, m, as.toArray, below, meth, c, MQ below (nQ D s.heap.size ws BW) as.toArray s rm.cells rm.slots (va_A ws s.heap.size), hx, hb, hml, hown, fun w hw => hts0 w (List.mem_cons_of_mem _ hw), hnw, hK, fun q h => Or.inr h, fun _ => hname, rfl⟩ ?_ s.heap [] ls hP (hD0.self (sz := s.heap.size)) va_S.rf hl
  intro w1 lv pc hw hd H locs ls hP hD hS hl
  exact W.vret hx hb hr (fun t ht hW => ⟨⟨rfl, w1, hw, by rw [ht]; exact hP, hD⟩, hS.F ht⟩) hS.2.2 hd
section
variable {l : Launch} {cc : ByteArray} {own : String} {nL : Nat} {R : Room} {D : va_G} {cA : Nat → ClassId} {A : Nat → Prop} {init : Prop} {G : GNT} {k n pc : Nat} {ws : va_W} {lv : List (Nat × Value)} {st : List Value}
theorem n_ref (hG : OKN l cc own nL R D cA A init G) {q : Fin 4} {a : Nat} (j : Nat) (hd : decode cc pc = .ok (.aload_n q, 1)) (h : lv[j]? = some (q.val, .ref a)) (kk : G k n ws lv (pc + 1) (.ref a :: st)) : G k n ws lv pc st := by
  obtain ⟨p, e, s, m, args, below, meth, c, Q, hx, hb, hml, hown, hts, hnw, hK, hA, hi, rfl⟩ := hG
  intro H locs ls hP hD hS hl
  exact lv_aload_n hx hb hd rfl (lv_at hl j h) (kk H locs ls hP hD hS hl)
theorem n_iload_n (hG : OKN l cc own nL R D cA A init G) {q : Fin 4} {x : Int32} (j : Nat) (hd : decode cc pc = .ok (.iload_n q, 1)) (h : lv[j]? = some (q.val, .int x)) (kk : G k n ws lv (pc + 1) (.int x :: st)) : G k n ws lv pc st := by
  obtain ⟨p, e, s, m, args, below, meth, c, Q, hx, hb, hml, hown, hts, hnw, hK, hA, hi, rfl⟩ := hG
  intro H locs ls hP hD hS hl
  exact lv_iload_n hx hb hd rfl (lv_at hl j h) (kk H locs ls hP hD hS hl)
theorem n_iload (hG : OKN l cc own nL R D cA A init G) {i : Nat} {x : Int32} (j : Nat) (hd : decode cc pc = .ok (.iload i, 2)) (h : lv[j]? = some (i, .int x)) (kk : G k n ws lv (pc + 2) (.int x :: st)) : G k n ws lv pc st := by
  obtain ⟨p, e, s, m, args, below, meth, c, Q, hx, hb, hml, hown, hts, hnw, hK, hA, hi, rfl⟩ := hG
  intro H locs ls hP hD hS hl
  exact lv_iload hx hb hd (lv_at hl j h) (kk H locs ls hP hD hS hl)
theorem n_iconst (hG : OKN l cc own nL R D cA A init G) {z : Int} {v : Int32} (hd : decode cc pc = .ok (.iconst z, 1)) (hv : Int32.ofInt z = v) (kk : G k n ws lv (pc + 1) (.int v :: st)) : G k n ws lv pc st := by
  obtain ⟨p, e, s, m, args, below, meth, c, Q, hx, hb, hml, hown, hts, hnw, hK, hA, hi, rfl⟩ := hG
  intro H locs ls hP hD hS hl
  exact lv_iconst hx hb hd hv (kk H locs ls hP hD hS hl)
theorem n_lconst (hG : OKN l cc own nL R D cA A init G) {z : Fin 2} {v : Int64} (hd : decode cc pc = .ok (.lconst z, 1)) (hv : Int64.ofNat (z : Nat) = v) (kk : G k n ws lv (pc + 1) (.long v :: st)) : G k n ws lv pc st := by
  obtain ⟨p, e, s, m, args, below, meth, c, Q, hx, hb, hml, hown, hts, hnw, hK, hA, hi, rfl⟩ := hG
  intro H locs ls hP hD hS hl
  exact lv_lconst hx hb hd hv (kk H locs ls hP hD hS hl)
theorem n_bipush (hG : OKN l cc own nL R D cA A init G) {z : Int} {v : Int32} (hd : decode cc pc = .ok (.bipush z, 2)) (hv : (Int8.ofInt z).toInt32 = v) (kk : G k n ws lv (pc + 2) (.int v :: st)) : G k n ws lv pc st := by
  obtain ⟨p, e, s, m, args, below, meth, c, Q, hx, hb, hml, hown, hts, hnw, hK, hA, hi, rfl⟩ := hG
  intro H locs ls hP hD hS hl
  exact lv_bipush hx hb hd hv (kk H locs ls hP hD hS hl)
theorem n_sipush (hG : OKN l cc own nL R D cA A init G) {z : Int} {v : Int32} (hd : decode cc pc = .ok (.sipush z, 3)) (hv : (Int16.ofInt z).toInt32 = v) (kk : G k n ws lv (pc + 3) (.int v :: st)) : G k n ws lv pc st := by
  obtain ⟨p, e, s, m, args, below, meth, c, Q, hx, hb, hml, hown, hts, hnw, hK, hA, hi, rfl⟩ := hG
  intro H locs ls hP hD hS hl
  exact lv_sipush hx hb hd hv (kk H locs ls hP hD hS hl)
theorem n_dup (hG : OKN l cc own nL R D cA A init G) {v : Value} (hd : decode cc pc = .ok (.dup, 1)) (hc : v.category = 1) (kk : G k n ws lv (pc + 1) (v :: v :: st)) : G k n ws lv pc (v :: st) := by
  obtain ⟨p, e, s, m, args, below, meth, c, Q, hx, hb, hml, hown, hts, hnw, hK, hA, hi, rfl⟩ := hG
  intro H locs ls hP hD hS hl
  exact lv_dup hx hb hd hc (kk H locs ls hP hD hS hl)
theorem n_istore_n (hG : OKN l cc own nL R D cA A init G) {q : Fin 4} {x : Int32} {lv' : List (Nat × Value)} (hd : decode cc pc = .ok (.istore_n q, 1)) (hn : q.val < nL) (hl : (q.val, Value.int x) :: lv.filter (fun z => !(z.1 == q.val) && !(z.1 + 1 == q.val && z.2.category == 2)) = lv') (kk : G k n ws lv' (pc + 1) st) : G k n ws lv pc (.int x :: st) := by
  obtain ⟨p, e, s, m, args, below, meth, c, Q, hx, hb, hml, hown, hts, hnw, hK, hA, hi, rfl⟩ := hG
  intro H locs ls hP hD hS hl2
  exact lv_istore_n hx hb hd rfl hl2 hn hl (fun ls' hl' => kk H locs ls' hP hD hS hl')
theorem n_istore (hG : OKN l cc own nL R D cA A init G) {i : Nat} {x : Int32} {lv' : List (Nat × Value)} (hd : decode cc pc = .ok (.istore i, 2)) (hn : i < nL) (hl : (i, Value.int x) :: lv.filter (fun z => !(z.1 == i) && !(z.1 + 1 == i && z.2.category == 2)) = lv') (kk : G k n ws lv' (pc + 2) st) : G k n ws lv pc (.int x :: st) := by
  obtain ⟨p, e, s, m, args, below, meth, c, Q, hx, hb, hml, hown, hts, hnw, hK, hA, hi, rfl⟩ := hG
  intro H locs ls hP hD hS hl2
  exact lv_istore hx hb hd hl2 hn hl (fun ls' hl' => kk H locs ls' hP hD hS hl')
theorem n_astore_n (hG : OKN l cc own nL R D cA A init G) {q : Fin 4} {x : Nat} {lv' : List (Nat × Value)} (hd : decode cc pc = .ok (.astore_n q, 1)) (hn : q.val < nL) (hl : (q.val, Value.ref x) :: lv.filter (fun z => !(z.1 == q.val) && !(z.1 + 1 == q.val && z.2.category == 2)) = lv') (kk : G k n ws lv' (pc + 1) st) : G k n ws lv pc (.ref x :: st) := by
  obtain ⟨p, e, s, m, args, below, meth, c, Q, hx, hb, hml, hown, hts, hnw, hK, hA, hi, rfl⟩ := hG
  intro H locs ls hP hD hS hl2
  exact lv_astore_n hx hb hd rfl hl2 hn hl (fun ls' hl' => kk H locs ls' hP hD hS hl')
theorem n_iinc (hG : OKN l cc own nL R D cA A init G) {i : Nat} {z : Int} {x v : Int32} {lv' : List (Nat × Value)} (j : Nat) (hd : decode cc pc = .ok (.iinc i z, 3)) (h : lv[j]? = some (i, .int x)) (hv : x + Int32.ofInt z = v) (hn : i < nL) (hl : (i, Value.int v) :: lv.filter (fun z => !(z.1 == i) && !(z.1 + 1 == i && z.2.category == 2)) = lv') (kk : G k n ws lv' (pc + 3) st) : G k n ws lv pc st := by
  obtain ⟨p, e, s, m, args, below, meth, c, Q, hx, hb, hml, hown, hts, hnw, hK, hA, hi, rfl⟩ := hG
  intro H locs ls hP hD hS hl2
  exact lv_iinc hx hb hd hl2 h hv hn hl (fun ls' hl' => kk H locs ls' hP hD hS hl')
theorem n_goto (hG : OKN l cc own nL R D cA A init G) {off : Int} {tgt : Nat} (hd : decode cc pc = .ok (.goto off, 3)) (ht : (pc : Int) + off = (tgt : Int)) (kk : G k n ws lv tgt st) : G k n ws lv pc st := by
  obtain ⟨p, e, s, m, args, below, meth, c, Q, hx, hb, hml, hown, hts, hnw, hK, hA, hi, rfl⟩ := hG
  intro H locs ls hP hD hS hl
  exact lv_goto hx hb hd ht (kk H locs ls hP hD hS hl)
theorem n_geT (hG : OKN l cc own nL R D cA A init G) {off : Int} {tgt : Nat} {x y : Int32} (hd : decode cc pc = .ok (.if_icmp .ge off, 3)) (ht : (pc : Int) + off = (tgt : Int)) (h : y ≤ x) (kk : G k n ws lv tgt st) : G k n ws lv pc (.int y :: .int x :: st) := by
  obtain ⟨p, e, s, m, args, below, meth, c, Q, hx, hb, hml, hown, hts, hnw, hK, hA, hi, rfl⟩ := hG
  intro H locs ls hP hD hS hl
  exact lv_icmp_ge hx hb hd ht (fun _ => kk H locs ls hP hD hS hl) (fun h2 => absurd h h2)
theorem n_geF (hG : OKN l cc own nL R D cA A init G) {off : Int} {tgt : Nat} {x y : Int32} (hd : decode cc pc = .ok (.if_icmp .ge off, 3)) (ht : (pc : Int) + off = (tgt : Int)) (h : ¬ y ≤ x) (kk : G k n ws lv (pc + 3) st) : G k n ws lv pc (.int y :: .int x :: st) := by
  obtain ⟨p, e, s, m, args, below, meth, c, Q, hx, hb, hml, hown, hts, hnw, hK, hA, hi, rfl⟩ := hG
  intro H locs ls hP hD hS hl
  exact lv_icmp_ge hx hb hd ht (fun h2 => absurd h2 h) (fun _ => kk H locs ls hP hD hS hl)
theorem n_obj (hG : OKN l cc own nL R D cA A init G) {idx a : Nat} (hd : decode cc pc = .ok (.invokespecial idx, 3)) (hlk : Cond.methodLink own idx objectInit ∈ TB) (hR : 1 ≤ R.frames ∧ 20 ≤ R.locals) (hst : (st.map fun v => v.category).sum ≤ 8) (kk : G k n ws lv (pc + 3) st) : G k n ws lv pc (.ref a :: st) := by
  obtain ⟨p, e, s, m, args, below, meth, c, Q, hx, hb, hml, hown, hts, hnw, hK, hA, hi, rfl⟩ := hG
  intro H locs ls hP hD hS hl
  exact W.objInit hx hb hown (hts _ hlk) (hts (.instanceMethod objectInit) (by decide +kernel)) (hts (.code objectInit ⟨#[0xb1]⟩ 1 none) (by decide +kernel)) rfl (by rw [hml]; exact hl.1) rfl hd hR.1 (by show 0 + _ + 12 ≤ _; omega) (kk H locs ls hP hD hS hl)
/-- what a field's link and its class's words are: as FL, final or not -/
theorem n_put (hG : OKN l cc own nL R D cA A init G) {a kf ci idx : Nat} {ty : FieldType} {fs : List Value} {v : Value} {ws' : va_W} (q0 : Nat) (hd : decode cc pc = .ok (.putfield idx, 3)) (hf : FL own idx ci kf ty) (hp : FP ci kf) (he : ws[q0]? = some (a, .inr (ci, fs))) (hn : narrow ty v = v ∧ fits ty v = true) (hl9 : kf < fs.length) (hws : ws.set q0 (a, .inr (ci, fs.set kf v)) = ws') (kk : G k n ws' lv (pc + 3) st) : G k n ws lv pc (v :: .ref a :: st) := by
  obtain ⟨p, e, s, m, args, below, meth, c, Q, hx, hb, hml, hown, hts, hnw, hK, hA, hi, rfl⟩ := hG
  subst hws
  intro H locs ls hP hD hS hl
  obtain ⟨C, T, N, ty0, hc, hk, hin, hty, hnm, hte, hlk⟩ := hf
  have hpd : parseFieldDescriptor (T kf).2.2.1 = some ty := by rw [hty kf hk, hte]
  rcases hlk with hlk | ⟨host, hlk⟩
  · exact va_put (D := D) (ci := ci) (C := C) (T := T) (N := N) (ty := ty) hx hb hts hin ty0 hty hnm hown hK hP hD hS q0 he hc kf hk (hts _ hlk) (fun _ h9 => h9) (hp C T N hc) hpd hn.1 hn.2 hl9 hd (fun H1 locs1 hP1 hD1 hS1 => kk H1 locs1 ls hP1 hD1 hS1 hl)
  · exact va_putN (D := D) (ci := ci) (C := C) (T := T) (N := N) (ty := ty) hx hb hts hin ty0 hty hnm hown hK hP hD hS q0 he hc kf hk (va_Nw.use rfl (hnw.1 _ hlk)) (fun _ h9 => h9) (hp C T N hc) hpd hn.1 hn.2 hl9 hd (fun H1 locs1 hP1 hD1 hS1 => kk H1 locs1 ls hP1 hD1 hS1 hl)
def FF (own : String) (ci k : Nat) : Prop := ∀ C T N, vwCl[ci]? = some (C, T, N) → (T k).2.2.2 = true ∧ (T k).1 = own
def FO (own : String) (idx ci k : Nat) (ty : FieldType) : Prop :=
  ∃ (C : String) (T : u_T) (N : Nat) (ty0 : Nat → FieldType), vwCl[ci]? = some (C, T, N) ∧ k < N ∧ (∀ w ∈ u_ws C T N, w ∈ TB) ∧ (∀ k, k < N → parseFieldDescriptor (T k).2.2.1 = some (ty0 k)) ∧ (∀ a, a < N → ∀ b, b < N → a ≠ b → (T a).2.1 ≠ (T b).2.1) ∧ ty0 k = ty ∧
    Cond.fieldLink own idx (T k).1 (T k).2.1 (T k).2.2.1 ∈ TB
theorem n_putF (hG : OKN l cc own nL R D cA A True G) {a kf ci idx : Nat} {ty : FieldType} {fs : List Value} {v : Value} {ws' : va_W} (q0 : Nat) (hd : decode cc pc = .ok (.putfield idx, 3)) (hf : FO own idx ci kf ty) (hp : FF own ci kf) (he : ws[q0]? = some (a, .inr (ci, fs))) (hn : narrow ty v = v ∧ fits ty v = true) (hl9 : kf < fs.length) (hws : ws.set q0 (a, .inr (ci, fs.set kf v)) = ws') (kk : G k n ws' lv (pc + 3) st) : G k n ws lv pc (v :: .ref a :: st) := by
  obtain ⟨p, e, s, m, args, below, meth, c, Q, hx, hb, hml, hown, hts, hnw, hK, hA, hi, rfl⟩ := hG
  subst hws
  intro H locs ls hP hD hS hl
  obtain ⟨C, T, N, ty0, hc, hk, hin, hty, hnm, hte, hlk⟩ := hf
  have hpd : parseFieldDescriptor (T kf).2.2.1 = some ty := by rw [hty kf hk, hte]
  exact va_putF (D := D) (ci := ci) (C := C) (T := T) (N := N) (ty := ty) hx hb hts hin ty0 hty hnm hown hK hP hD hS q0 he hc kf hk (hts _ hlk) (fun _ h9 => h9) (hp C T N hc).1 (hi trivial) (hp C T N hc).2 hpd hn.1 hn.2 hl9 hd (fun H1 locs1 hP1 hD1 hS1 => kk H1 locs1 ls hP1 hD1 hS1 hl)
theorem n_get (hG : OKN l cc own nL R D cA A init G) {a kf ci idx : Nat} {ty : FieldType} {fs : List Value} {v : Value} (q0 : Nat) (hd : decode cc pc = .ok (.getfield idx, 3)) (hf : FL own idx ci kf ty) (he : ws[q0]? = some (a, .inr (ci, fs))) (hv : fs[kf]? = some v) (kk : G k n ws lv (pc + 3) (v :: st)) : G k n ws lv pc (.ref a :: st) := by
  obtain ⟨p, e, s, m, args, below, meth, c, Q, hx, hb, hml, hown, hts, hnw, hK, hA, hi, rfl⟩ := hG
  intro H locs ls hP hD hS hl
  obtain ⟨C, T, N, ty0, hc, hk, hin, hty, hnm, hte, hlk⟩ := hf
  rcases hlk with hlk | ⟨host, hlk⟩
  · exact va_get (D := D) (ci := ci) (C := C) (T := T) (N := N) hx hb hts hin hown hK hP q0 he hc kf hk (hts _ hlk) (fun _ h9 => h9) hv hd (kk H locs ls hP hD hS hl)
  · exact va_getN (D := D) (ci := ci) (C := C) (T := T) (N := N) hx hb hts hin hown hK hP q0 he hc kf hk (va_Nw.use rfl (hnw.1 _ hlk)) (fun _ h9 => h9) hv hd (kk H locs ls hP hD hS hl)
theorem n_alen (hG : OKN l cc own nL R D cA A init G) {a t N : Nat} {ty : FieldType} {x : (Nat → Int32) ⊕ (Nat → Int64) ⊕ (Nat → UInt32) ⊕ (Nat → UInt64) ⊕ (Nat → Option Nat)} {v : Int32} (q0 : Nat) (hd : decode cc pc = .ok (.arraylength, 1)) (he : ws[q0]? = some (a, .inl (cA t, (N, x)))) (ht : (tyl cA)[t]? = some (cA t, ty)) (hv : Int32.ofNat N = v) (kk : G k n ws lv (pc + 1) (.int v :: st)) : G k n ws lv pc (.ref a :: st) := by
  obtain ⟨p, e, s, m, args, below, meth, c, Q, hx, hb, hml, hown, hts, hnw, hK, hA, hi, rfl⟩ := hG
  intro H locs ls hP hD hS hl
  exact va_alen (D := D) hx hb hK hP q0 t he ht hv hd (kk H locs ls hP hD hS hl)
theorem n_iast (hG : OKN l cc own nL R D cA A init G) {a N : Nat} {f : Nat → Int32} {i x : Int32} {ws' : va_W} (q0 : Nat) (hd : decode cc pc = .ok (.iastore, 1)) (he : ws[q0]? = some (a, .inl (cA 0, (N, .inl f)))) (hi9 : ib i N = true) (hws : ws.set q0 (a, .inl (cA 0, (N, .inl (upd f i.toNatClampNeg x)))) = ws') (kk : G k n ws' lv (pc + 1) st) : G k n ws lv pc (.int x :: .int i :: .ref a :: st) := by
  obtain ⟨p, e, s, m, args, below, meth, c, Q, hx, hb, hml, hown, hts, hnw, hK, hA, hi, rfl⟩ := hG
  subst hws
  intro H locs ls hP hD hS hl
  exact va_iast (D := D) hx hb hK hP hD hS q0 0 he rfl (ib_in hi9) hd (fun H1 locs1 hP1 hD1 hS1 => kk H1 locs1 ls hP1 hD1 hS1 hl)
def NWc (own : String) (idx ci N : Nat) (fs : List Value) : Prop :=
  ∃ (C : String) (T : u_T) (ty0 : Nat → FieldType), vwCl[ci]? = some (C, T, N) ∧ (∀ w ∈ u_ws C T N, w ∈ TB) ∧ (∀ k, k < N → parseFieldDescriptor (T k).2.2.1 = some (ty0 k)) ∧ Cond.classLink own idx C ∈ TB ∧ Cond.instantiable C N ∈ TB ∧ Cond.initialized C ∈ TB ∧ (∀ j, j < N → defaultValue (ty0 j) = vp_V fs j)
theorem n_new (hG : OKN l cc own nL R D cA A init G) {idx ci N k' n' : Nat} {fs : List Value} (hd : decode cc pc = .ok (.new idx, 3)) (hc : NWc own idx ci N fs) (hR : k + 1 ≤ R.cells ∧ n + N ≤ R.slots) (hk : k + 1 = k') (hn : n + N = n') (kk : ∀ q : Nat, G k' n' (ws ++ [(q, .inr (ci, fs))]) lv (pc + 3) (.ref q :: st)) : G k n ws lv pc st := by
  obtain ⟨p, e, s, m, args, below, meth, c, Q, hx, hb, hml, hown, hts, hnw, hK, hA, hi, rfl⟩ := hG
  subst hk
  subst hn
  intro H locs ls hP hD hS hl
  obtain ⟨C, T, ty0, hc1, hin, hty, h1, h2, h3, hfs⟩ := hc
  exact va_new (ci := ci) (fs := fs) (C := C) (T := T) (N := N) hx hb hts hin ty0 hty hown (hts _ h1) (hts _ h2) (hts _ h3) hK hP hD hS hA hc1 hfs hR.1 hR.2 hd (fun q H1 hP1 hD1 hS1 => kk q H1 locs ls hP1 hD1 hS1 hl)
theorem n_arr (hG : OKN l cc own nL R D cA A init G) {atype : ArrayType} {ty : FieldType} {t N k' n' : Nat} {x : (Nat → Int32) ⊕ (Nat → Int64) ⊕ (Nat → UInt32) ⊕ (Nat → UInt64) ⊕ (Nat → Option Nat)} {z : Int32} (hd : decode cc pc = .ok (.newarray atype, 2)) (hac : Cond.arrayClass (newarray.typeOf atype) ∈ TB) (hty : newarray.typeOf atype = ty) (ht : (tyl cA)[t]? = some (cA t, ty)) (hpr : ty = .int ∨ ty = .long ∨ ty = .char ∨ ty = .boolean) (ha : ∀ c : ClassId, vp_cell c (N, x) = arrV c N (fun _ => defaultValue ty)) (hn0 : ¬ z < 0) (hN : z.toNatClampNeg = N) (hby : N * componentBytes ty ≤ 536870912) (hR : k + 1 ≤ R.cells ∧ n + N ≤ R.slots) (hk : k + 1 = k') (hn : n + N = n') (kk : ∀ q : Nat, G k' n' (ws ++ [(q, .inl (cA t, (N, x)))]) lv (pc + 2) (.ref q :: st)) : G k n ws lv pc (.int z :: st) := by
  obtain ⟨p, e, s, m, args, below, meth, c, Q, hx, hb, hml, hown, hts, hnw, hK, hA, hi, rfl⟩ := hG
  subst hk
  subst hn
  intro H locs ls hP hD hS hl
  refine va_newa (atype := atype) hx hb (hts _ hac) hty hK hP hD hS hA ha hn0 hN hby hR.1 hR.2 hd (fun q cA' H1 hK1 hP1 hD1 hS1 => ?_)
  have e1 : cA' = cA t := by
    have h1 := (hK1.2 4 (cA', ty) rfl).2
    have h2 := (hK.2 t (cA t, ty) ht).2
    rcases hpr with rfl | rfl | rfl | rfl <;> exact Option.some.inj (Eq.trans (Eq.symm h1) h2)
  rw [e1] at hP1 hD1
  exact kk q H1 locs ls hP1 hD1 hS1 hl
theorem n_eq {G : GNT} {ws' : va_W} (h : ws = ws') (kk : G k n ws' lv pc st) : G k n ws lv pc st := by rw [h]; exact kk
def NIc (own : String) (idx : Nat) (y : MethodName) (np : Nat) : Prop := yOK y np ∧ y.name = "<init>" ∧ Cond.instanceMethod y ∈ TB ∧ Cond.initialized y.cls ∈ TB ∧ ML own idx y
/-- a constructor called for the object made last -/
theorem n_init (hG : OKN l cc own nL R D cA A init G) {y : MethodName} {bytes : ByteArray} {nLy idx np a k' n' : Nat} {rm : Room} {as stk : List Value} {wr : va_W} {e0 : va_E} {BW : va_W → Prop} (hd : decode cc pc = .ok (.invokespecial idx, 3)) (hm : NIc own idx y np) (hcode : Cond.code y bytes nLy none ∈ TB) (hnp : as.length = np) (hR : rm.frames + 1 ≤ R.frames ∧ 8 + (nLy + 11) + rm.locals ≤ R.locals) (hst : (st.map fun v => v.category).sum ≤ 8) (hkn : k + rm.cells ≤ R.cells ∧ n + rm.slots ≤ R.slots) (hk : k + rm.cells = k') (hn : n + rm.slots = n') (hstk : stk = as.reverse ++ .ref a :: st) (hws : ws = wr ++ [(a, e0)]) (hC : CtN l y bytes nLy rm (.ref a :: as) D cA [(a, e0)] BW) (kk : ∀ w1, BW w1 → G k' n' (wr ++ w1) lv (pc + 3) st) : G k n ws lv pc stk := by
  obtain ⟨p, e, s, m, args, below, meth, c, Q, hx, hb, hml, hown, hts, hnw, hK, hA, hi, rfl⟩ := hG
  subst hk
  subst hn
  intro H locs ls hP hD hS hl
  obtain ⟨⟨hy1, hy2, hy3⟩, hyn, hinst, hini, hlk⟩ := hm
  have hM := hC H.size
  have hCi : [wr.length].map (fun i => ws[i]?) = [(a, e0)].map some := by rw [hws]; simp
  have hPc : va_P D vwCl [(a, e0)] H := hP.sub [wr.length] (by rw [hws]; simp)
  have hDc : va_D (fun _ => True) [(a, e0)] := (hD.sub (ws' := [(a, e0)]) [wr.length] (by simp [va_nd]) (by rw [hws]; simp)).weaken (fun _ _ _ _ => trivial)
  have hFc := va_free (wc := [(a, e0)]) hD hS hA [wr.length] hCi
  have hpre : PreS s H (va_Pc (.ref a :: as) (nPre D cA H.size [(a, e0)])) (.ref a :: as) := ⟨nPre.blind, fun U hU hW => ⟨rfl, by rw [hU], by rw [hU]; exact hPc, va_K.moved hW.alike hK, hDc, hnw.warm hW⟩⟩
  have hrun : va_Run p l e R s m args below meth c H locs k n rm.cells rm.slots (F0 m pc ls stk) st (nQ D H.size [(a, e0)] BW (Value.ref a :: as).toArray) (va_A [(a, e0)] H.size) := by
    rcases hlk with hlk | ⟨host, hlk⟩
    · exact va_runI (Ts := TB) (nL := nL) ⟨hx, hb, hml, hown, hts⟩ hM ⟨callB_of np hts (TB_ws hcode) rfl rfl rfl (hts _ hini) (hts _ hlk) ⟨hy1, hy2, hy3⟩ hR, hyn, hts _ hinst⟩ hpre rfl hnp hl.1 hstk (lv_room hst) hd hkn
    · exact va_runIN (Ts := TB) (nL := nL) (host := host) ⟨hx, hb, hml, hown, hts⟩ hM ⟨va_cnB np hts (TB_ws hcode) rfl rfl rfl (hnw.1 _ hlk) (hts _ hini) ⟨hy1, hy2, hy3⟩ hR, hyn, hts _ hinst⟩ hpre rfl hnp hl.1 hstk (lv_room hst) hd hkn
  intro T hT X
  obtain ⟨v, st₀, t, T', L, h0, X', hL, e1, e2, ⟨⟨hv, w1, hw1, hP1, hD1⟩, hz, hkp⟩, st9⟩ := hrun T hT X
  cases hv
  rw [h0] at hz hkp
  have hisR : (List.range wr.length).map (fun i => ws[i]?) = wr.map some := by
    rw [hws]
    apply List.ext_getElem?
    intro i
    simp only [List.getElem?_map, List.getElem?_range']
    by_cases hi : i < wr.length
    · simp [hi, List.getElem?_append_left hi]
    · simp [hi]
  obtain ⟨hP2, hD2⟩ := va_join (A0 := A) (wr := wr) (w1 := w1) hP hD [wr.length] (List.range wr.length) hCi hisR (va_nd_range _) (fun i hi hc => by
    rw [List.mem_singleton] at hc
    rw [hc] at hi
    exact absurd (List.mem_range.mp hi) (Nat.lt_irrefl _)) hkp hFc hP1 hD1
  obtain ⟨t2, a1, b1⟩ := kk w1 hw1 T'.heap (locs ++ L) ls (by rw [e1]; exact hP2) hD2
    ⟨Nat.le_trans hS.1 (by rw [e1]; exact hz), fun q h1 h2 => by rw [e1, hkp q (Nat.lt_of_lt_of_le h1 hS.1) (fun z => h2 (hFc q z))]; exact hS.2.1 q h1 h2, fun q hq => by
      rcases List.mem_append.mp hq with h | h
      · exact hS.2.2 q h
      · exact hFc _ (hL q h)⟩ hl T' rfl X'
  exact ⟨t2, st9 t2 a1, b1⟩
end
end
section
/-! constructors: by program (wip/whole/ctor.py) -/
theorem dX5_init_0 : decode cX5_init 0 = .ok (.aload_n 0, 1) := by decide +kernel
theorem dX5_init_1 : decode cX5_init 1 = .ok (.invokespecial 3, 3) := by decide +kernel
theorem dX5_init_4 : decode cX5_init 4 = .ok (.aload_n 0, 1) := by decide +kernel
theorem dX5_init_5 : decode cX5_init 5 = .ok (.iconst 0, 1) := by decide +kernel
theorem dX5_init_6 : decode cX5_init 6 = .ok (.putfield 9, 3) := by decide +kernel
theorem dX5_init_9 : decode cX5_init 9 = .ok (.aload_n 0, 1) := by decide +kernel
theorem dX5_init_10 : decode cX5_init 10 = .ok (.iconst 0, 1) := by decide +kernel
theorem dX5_init_11 : decode cX5_init 11 = .ok (.putfield 15, 3) := by decide +kernel
theorem dX5_init_14 : decode cX5_init 14 = .ok (.aload_n 0, 1) := by decide +kernel
theorem dX5_init_15 : decode cX5_init 15 = .ok (.bipush 10, 2) := by decide +kernel
theorem dX5_init_17 : decode cX5_init 17 = .ok (.newarray .int, 2) := by decide +kernel
theorem dX5_init_19 : decode cX5_init 19 = .ok (.putfield 18, 3) := by decide +kernel
theorem dX5_init_22 : decode cX5_init 22 = .ok (.aload_n 0, 1) := by decide +kernel
theorem dX5_init_23 : decode cX5_init 23 = .ok (.bipush 50, 2) := by decide +kernel
theorem dX5_init_25 : decode cX5_init 25 = .ok (.newarray .int, 2) := by decide +kernel
theorem dX5_init_27 : decode cX5_init 27 = .ok (.putfield 22, 3) := by decide +kernel
theorem dX5_init_30 : decode cX5_init 30 = .ok (.return_, 1) := by decide +kernel
theorem dX4_init_0 : decode cX4_init 0 = .ok (.aload_n 0, 1) := by decide +kernel
theorem dX4_init_1 : decode cX4_init 1 = .ok (.invokespecial 3, 3) := by decide +kernel
theorem dX4_init_4 : decode cX4_init 4 = .ok (.aload_n 0, 1) := by decide +kernel
theorem dX4_init_5 : decode cX4_init 5 = .ok (.iconst 0, 1) := by decide +kernel
theorem dX4_init_6 : decode cX4_init 6 = .ok (.putfield 9, 3) := by decide +kernel
theorem dX4_init_9 : decode cX4_init 9 = .ok (.aload_n 0, 1) := by decide +kernel
theorem dX4_init_10 : decode cX4_init 10 = .ok (.bipush 12, 2) := by decide +kernel
theorem dX4_init_12 : decode cX4_init 12 = .ok (.newarray .int, 2) := by decide +kernel
theorem dX4_init_14 : decode cX4_init 14 = .ok (.putfield 15, 3) := by decide +kernel
theorem dX4_init_17 : decode cX4_init 17 = .ok (.aload_n 0, 1) := by decide +kernel
theorem dX4_init_18 : decode cX4_init 18 = .ok (.bipush 12, 2) := by decide +kernel
theorem dX4_init_20 : decode cX4_init 20 = .ok (.newarray .int, 2) := by decide +kernel
theorem dX4_init_22 : decode cX4_init 22 = .ok (.putfield 19, 3) := by decide +kernel
theorem dX4_init_25 : decode cX4_init 25 = .ok (.aload_n 0, 1) := by decide +kernel
theorem dX4_init_26 : decode cX4_init 26 = .ok (.bipush 12, 2) := by decide +kernel
theorem dX4_init_28 : decode cX4_init 28 = .ok (.newarray .int, 2) := by decide +kernel
theorem dX4_init_30 : decode cX4_init 30 = .ok (.putfield 22, 3) := by decide +kernel
theorem dX4_init_33 : decode cX4_init 33 = .ok (.return_, 1) := by decide +kernel
theorem dX6_init_0 : decode cX6_init 0 = .ok (.aload_n 0, 1) := by decide +kernel
theorem dX6_init_1 : decode cX6_init 1 = .ok (.invokespecial 3, 3) := by decide +kernel
theorem dX6_init_4 : decode cX6_init 4 = .ok (.aload_n 0, 1) := by decide +kernel
theorem dX6_init_5 : decode cX6_init 5 = .ok (.iconst 0, 1) := by decide +kernel
theorem dX6_init_6 : decode cX6_init 6 = .ok (.putfield 9, 3) := by decide +kernel
theorem dX6_init_9 : decode cX6_init 9 = .ok (.aload_n 0, 1) := by decide +kernel
theorem dX6_init_10 : decode cX6_init 10 = .ok (.bipush 60, 2) := by decide +kernel
theorem dX6_init_12 : decode cX6_init 12 = .ok (.newarray .int, 2) := by decide +kernel
theorem dX6_init_14 : decode cX6_init 14 = .ok (.putfield 15, 3) := by decide +kernel
theorem dX6_init_17 : decode cX6_init 17 = .ok (.aload_n 0, 1) := by decide +kernel
theorem dX6_init_18 : decode cX6_init 18 = .ok (.bipush 60, 2) := by decide +kernel
theorem dX6_init_20 : decode cX6_init 20 = .ok (.newarray .int, 2) := by decide +kernel
theorem dX6_init_22 : decode cX6_init 22 = .ok (.putfield 19, 3) := by decide +kernel
theorem dX6_init_25 : decode cX6_init 25 = .ok (.aload_n 0, 1) := by decide +kernel
theorem dX6_init_26 : decode cX6_init 26 = .ok (.sipush 240, 3) := by decide +kernel
theorem dX6_init_29 : decode cX6_init 29 = .ok (.newarray .int, 2) := by decide +kernel
theorem dX6_init_31 : decode cX6_init 31 = .ok (.putfield 22, 3) := by decide +kernel
theorem dX6_init_34 : decode cX6_init 34 = .ok (.aload_n 0, 1) := by decide +kernel
theorem dX6_init_35 : decode cX6_init 35 = .ok (.bipush 60, 2) := by decide +kernel
theorem dX6_init_37 : decode cX6_init 37 = .ok (.newarray .int, 2) := by decide +kernel
theorem dX6_init_39 : decode cX6_init 39 = .ok (.putfield 25, 3) := by decide +kernel
theorem dX6_init_42 : decode cX6_init 42 = .ok (.aload_n 0, 1) := by decide +kernel
theorem dX6_init_43 : decode cX6_init 43 = .ok (.bipush 60, 2) := by decide +kernel
theorem dX6_init_45 : decode cX6_init 45 = .ok (.newarray .int, 2) := by decide +kernel
theorem dX6_init_47 : decode cX6_init 47 = .ok (.putfield 28, 3) := by decide +kernel
theorem dX6_init_50 : decode cX6_init 50 = .ok (.aload_n 0, 1) := by decide +kernel
theorem dX6_init_51 : decode cX6_init 51 = .ok (.iconst 4, 1) := by decide +kernel
theorem dX6_init_52 : decode cX6_init 52 = .ok (.newarray .int, 2) := by decide +kernel
theorem dX6_init_54 : decode cX6_init 54 = .ok (.putfield 31, 3) := by decide +kernel
theorem dX6_init_57 : decode cX6_init 57 = .ok (.iconst 0, 1) := by decide +kernel
theorem dX6_init_58 : decode cX6_init 58 = .ok (.istore_n 1, 1) := by decide +kernel
theorem dX6_init_59 : decode cX6_init 59 = .ok (.iload_n 1, 1) := by decide +kernel
theorem dX6_init_60 : decode cX6_init 60 = .ok (.aload_n 0, 1) := by decide +kernel
theorem dX6_init_61 : decode cX6_init 61 = .ok (.getfield 31, 3) := by decide +kernel
theorem dX6_init_64 : decode cX6_init 64 = .ok (.arraylength, 1) := by decide +kernel
theorem dX6_init_65 : decode cX6_init 65 = .ok (.if_icmp .ge 16, 3) := by decide +kernel
theorem dX6_init_68 : decode cX6_init 68 = .ok (.aload_n 0, 1) := by decide +kernel
theorem dX6_init_69 : decode cX6_init 69 = .ok (.getfield 31, 3) := by decide +kernel
theorem dX6_init_72 : decode cX6_init 72 = .ok (.iload_n 1, 1) := by decide +kernel
theorem dX6_init_73 : decode cX6_init 73 = .ok (.iconst (-1), 1) := by decide +kernel
theorem dX6_init_74 : decode cX6_init 74 = .ok (.iastore, 1) := by decide +kernel
theorem dX6_init_75 : decode cX6_init 75 = .ok (.iinc 1 1, 3) := by decide +kernel
theorem dX6_init_78 : decode cX6_init 78 = .ok (.goto (-19), 3) := by decide +kernel
theorem dX6_init_81 : decode cX6_init 81 = .ok (.return_, 1) := by decide +kernel
theorem dX0_init_0 : decode cX0_init 0 = .ok (.aload_n 0, 1) := by decide +kernel
theorem dX0_init_1 : decode cX0_init 1 = .ok (.invokespecial 3, 3) := by decide +kernel
theorem dX0_init_4 : decode cX0_init 4 = .ok (.aload_n 0, 1) := by decide +kernel
theorem dX0_init_5 : decode cX0_init 5 = .ok (.bipush 40, 2) := by decide +kernel
theorem dX0_init_7 : decode cX0_init 7 = .ok (.newarray .int, 2) := by decide +kernel
theorem dX0_init_9 : decode cX0_init 9 = .ok (.putfield 9, 3) := by decide +kernel
theorem dX0_init_12 : decode cX0_init 12 = .ok (.aload_n 0, 1) := by decide +kernel
theorem dX0_init_13 : decode cX0_init 13 = .ok (.bipush 24, 2) := by decide +kernel
theorem dX0_init_15 : decode cX0_init 15 = .ok (.newarray .int, 2) := by decide +kernel
theorem dX0_init_17 : decode cX0_init 17 = .ok (.putfield 15, 3) := by decide +kernel
theorem dX0_init_20 : decode cX0_init 20 = .ok (.aload_n 0, 1) := by decide +kernel
theorem dX0_init_21 : decode cX0_init 21 = .ok (.iconst 0, 1) := by decide +kernel
theorem dX0_init_22 : decode cX0_init 22 = .ok (.putfield 18, 3) := by decide +kernel
theorem dX0_init_25 : decode cX0_init 25 = .ok (.aload_n 0, 1) := by decide +kernel
theorem dX0_init_26 : decode cX0_init 26 = .ok (.iconst 0, 1) := by decide +kernel
theorem dX0_init_27 : decode cX0_init 27 = .ok (.putfield 22, 3) := by decide +kernel
theorem dX0_init_30 : decode cX0_init 30 = .ok (.aload_n 0, 1) := by decide +kernel
theorem dX0_init_31 : decode cX0_init 31 = .ok (.aload_n 1, 1) := by decide +kernel
theorem dX0_init_32 : decode cX0_init 32 = .ok (.putfield 25, 3) := by decide +kernel
theorem dX0_init_35 : decode cX0_init 35 = .ok (.aload_n 0, 1) := by decide +kernel
theorem dX0_init_36 : decode cX0_init 36 = .ok (.aload_n 2, 1) := by decide +kernel
theorem dX0_init_37 : decode cX0_init 37 = .ok (.putfield 29, 3) := by decide +kernel
theorem dX0_init_40 : decode cX0_init 40 = .ok (.aload_n 0, 1) := by decide +kernel
theorem dX0_init_41 : decode cX0_init 41 = .ok (.iload_n 3, 1) := by decide +kernel
theorem dX0_init_42 : decode cX0_init 42 = .ok (.putfield 33, 3) := by decide +kernel
theorem dX0_init_45 : decode cX0_init 45 = .ok (.return_, 1) := by decide +kernel
theorem dX3_init_0 : decode cX3_init 0 = .ok (.aload_n 0, 1) := by decide +kernel
theorem dX3_init_1 : decode cX3_init 1 = .ok (.invokespecial 3, 3) := by decide +kernel
theorem dX3_init_4 : decode cX3_init 4 = .ok (.aload_n 0, 1) := by decide +kernel
theorem dX3_init_5 : decode cX3_init 5 = .ok (.lconst 0, 1) := by decide +kernel
theorem dX3_init_6 : decode cX3_init 6 = .ok (.putfield 9, 3) := by decide +kernel
theorem dX3_init_9 : decode cX3_init 9 = .ok (.aload_n 0, 1) := by decide +kernel
theorem dX3_init_10 : decode cX3_init 10 = .ok (.aload_n 3, 1) := by decide +kernel
theorem dX3_init_11 : decode cX3_init 11 = .ok (.putfield 15, 3) := by decide +kernel
theorem dX3_init_14 : decode cX3_init 14 = .ok (.aload_n 0, 1) := by decide +kernel
theorem dX3_init_15 : decode cX3_init 15 = .ok (.new 19, 3) := by decide +kernel
theorem dX3_init_18 : decode cX3_init 18 = .ok (.dup, 1) := by decide +kernel
theorem dX3_init_19 : decode cX3_init 19 = .ok (.aload_n 1, 1) := by decide +kernel
theorem dX3_init_20 : decode cX3_init 20 = .ok (.aload_n 2, 1) := by decide +kernel
theorem dX3_init_21 : decode cX3_init 21 = .ok (.iload 4, 2) := by decide +kernel
theorem dX3_init_23 : decode cX3_init 23 = .ok (.invokespecial 21, 3) := by decide +kernel
theorem dX3_init_26 : decode cX3_init 26 = .ok (.putfield 24, 3) := by decide +kernel
theorem dX3_init_29 : decode cX3_init 29 = .ok (.aload_n 0, 1) := by decide +kernel
theorem dX3_init_30 : decode cX3_init 30 = .ok (.new 19, 3) := by decide +kernel
theorem dX3_init_33 : decode cX3_init 33 = .ok (.dup, 1) := by decide +kernel
theorem dX3_init_34 : decode cX3_init 34 = .ok (.aload_n 1, 1) := by decide +kernel
theorem dX3_init_35 : decode cX3_init 35 = .ok (.aload_n 2, 1) := by decide +kernel
theorem dX3_init_36 : decode cX3_init 36 = .ok (.iload 4, 2) := by decide +kernel
theorem dX3_init_38 : decode cX3_init 38 = .ok (.invokespecial 21, 3) := by decide +kernel
theorem dX3_init_41 : decode cX3_init 41 = .ok (.putfield 28, 3) := by decide +kernel
theorem dX3_init_44 : decode cX3_init 44 = .ok (.return_, 1) := by decide +kernel
theorem dX2_init_0 : decode cX2_init 0 = .ok (.aload_n 0, 1) := by decide +kernel
theorem dX2_init_1 : decode cX2_init 1 = .ok (.invokespecial 3, 3) := by decide +kernel
theorem dX2_init_4 : decode cX2_init 4 = .ok (.aload_n 0, 1) := by decide +kernel
theorem dX2_init_5 : decode cX2_init 5 = .ok (.iconst 0, 1) := by decide +kernel
theorem dX2_init_6 : decode cX2_init 6 = .ok (.putfield 9, 3) := by decide +kernel
theorem dX2_init_9 : decode cX2_init 9 = .ok (.aload_n 0, 1) := by decide +kernel
theorem dX2_init_10 : decode cX2_init 10 = .ok (.iconst 0, 1) := by decide +kernel
theorem dX2_init_11 : decode cX2_init 11 = .ok (.putfield 15, 3) := by decide +kernel
theorem dX2_init_14 : decode cX2_init 14 = .ok (.aload_n 0, 1) := by decide +kernel
theorem dX2_init_15 : decode cX2_init 15 = .ok (.bipush 10, 2) := by decide +kernel
theorem dX2_init_17 : decode cX2_init 17 = .ok (.newarray .long, 2) := by decide +kernel
theorem dX2_init_19 : decode cX2_init 19 = .ok (.putfield 18, 3) := by decide +kernel
theorem dX2_init_22 : decode cX2_init 22 = .ok (.aload_n 0, 1) := by decide +kernel
theorem dX2_init_23 : decode cX2_init 23 = .ok (.bipush 10, 2) := by decide +kernel
theorem dX2_init_25 : decode cX2_init 25 = .ok (.newarray .int, 2) := by decide +kernel
theorem dX2_init_27 : decode cX2_init 27 = .ok (.putfield 22, 3) := by decide +kernel
theorem dX2_init_30 : decode cX2_init 30 = .ok (.aload_n 0, 1) := by decide +kernel
theorem dX2_init_31 : decode cX2_init 31 = .ok (.sipush 3280, 3) := by decide +kernel
theorem dX2_init_34 : decode cX2_init 34 = .ok (.newarray .char, 2) := by decide +kernel
theorem dX2_init_36 : decode cX2_init 36 = .ok (.putfield 26, 3) := by decide +kernel
theorem dX2_init_39 : decode cX2_init 39 = .ok (.return_, 1) := by decide +kernel
theorem dX1_init_0 : decode cX1_init 0 = .ok (.aload_n 0, 1) := by decide +kernel
theorem dX1_init_1 : decode cX1_init 1 = .ok (.invokespecial 3, 3) := by decide +kernel
theorem dX1_init_4 : decode cX1_init 4 = .ok (.aload_n 0, 1) := by decide +kernel
theorem dX1_init_5 : decode cX1_init 5 = .ok (.sipush 328, 3) := by decide +kernel
theorem dX1_init_8 : decode cX1_init 8 = .ok (.newarray .char, 2) := by decide +kernel
theorem dX1_init_10 : decode cX1_init 10 = .ok (.putfield 9, 3) := by decide +kernel
theorem dX1_init_13 : decode cX1_init 13 = .ok (.aload_n 0, 1) := by decide +kernel
theorem dX1_init_14 : decode cX1_init 14 = .ok (.iconst 0, 1) := by decide +kernel
theorem dX1_init_15 : decode cX1_init 15 = .ok (.putfield 15, 3) := by decide +kernel
theorem dX1_init_18 : decode cX1_init 18 = .ok (.return_, 1) := by decide +kernel
theorem dX7_init_0 : decode cX7_init 0 = .ok (.aload_n 0, 1) := by decide +kernel
theorem dX7_init_1 : decode cX7_init 1 = .ok (.invokespecial 1, 3) := by decide +kernel
theorem dX7_init_4 : decode cX7_init 4 = .ok (.aload_n 0, 1) := by decide +kernel
theorem dX7_init_5 : decode cX7_init 5 = .ok (.iconst 5, 1) := by decide +kernel
theorem dX7_init_6 : decode cX7_init 6 = .ok (.newarray .int, 2) := by decide +kernel
theorem dX7_init_8 : decode cX7_init 8 = .ok (.putfield 9, 3) := by decide +kernel
theorem dX7_init_11 : decode cX7_init 11 = .ok (.aload_n 0, 1) := by decide +kernel
theorem dX7_init_12 : decode cX7_init 12 = .ok (.iconst 0, 1) := by decide +kernel
theorem dX7_init_13 : decode cX7_init 13 = .ok (.putfield 13, 3) := by decide +kernel
theorem dX7_init_16 : decode cX7_init 16 = .ok (.aload_n 0, 1) := by decide +kernel
theorem dX7_init_17 : decode cX7_init 17 = .ok (.new 17, 3) := by decide +kernel
theorem dX7_init_20 : decode cX7_init 20 = .ok (.dup, 1) := by decide +kernel
theorem dX7_init_21 : decode cX7_init 21 = .ok (.invokespecial 19, 3) := by decide +kernel
theorem dX7_init_24 : decode cX7_init 24 = .ok (.putfield 20, 3) := by decide +kernel
theorem dX7_init_27 : decode cX7_init 27 = .ok (.aload_n 0, 1) := by decide +kernel
theorem dX7_init_28 : decode cX7_init 28 = .ok (.new 24, 3) := by decide +kernel
theorem dX7_init_31 : decode cX7_init 31 = .ok (.dup, 1) := by decide +kernel
theorem dX7_init_32 : decode cX7_init 32 = .ok (.invokespecial 26, 3) := by decide +kernel
theorem dX7_init_35 : decode cX7_init 35 = .ok (.putfield 27, 3) := by decide +kernel
theorem dX7_init_38 : decode cX7_init 38 = .ok (.aload_n 0, 1) := by decide +kernel
theorem dX7_init_39 : decode cX7_init 39 = .ok (.new 31, 3) := by decide +kernel
theorem dX7_init_42 : decode cX7_init 42 = .ok (.dup, 1) := by decide +kernel
theorem dX7_init_43 : decode cX7_init 43 = .ok (.invokespecial 33, 3) := by decide +kernel
theorem dX7_init_46 : decode cX7_init 46 = .ok (.putfield 34, 3) := by decide +kernel
theorem dX7_init_49 : decode cX7_init 49 = .ok (.aload_n 0, 1) := by decide +kernel
theorem dX7_init_50 : decode cX7_init 50 = .ok (.new 38, 3) := by decide +kernel
theorem dX7_init_53 : decode cX7_init 53 = .ok (.dup, 1) := by decide +kernel
theorem dX7_init_54 : decode cX7_init 54 = .ok (.aload_n 0, 1) := by decide +kernel
theorem dX7_init_55 : decode cX7_init 55 = .ok (.getfield 20, 3) := by decide +kernel
theorem dX7_init_58 : decode cX7_init 58 = .ok (.aload_n 0, 1) := by decide +kernel
theorem dX7_init_59 : decode cX7_init 59 = .ok (.getfield 27, 3) := by decide +kernel
theorem dX7_init_62 : decode cX7_init 62 = .ok (.aload_n 0, 1) := by decide +kernel
theorem dX7_init_63 : decode cX7_init 63 = .ok (.getfield 34, 3) := by decide +kernel
theorem dX7_init_66 : decode cX7_init 66 = .ok (.iconst 0, 1) := by decide +kernel
theorem dX7_init_67 : decode cX7_init 67 = .ok (.invokespecial 40, 3) := by decide +kernel
theorem dX7_init_70 : decode cX7_init 70 = .ok (.putfield 43, 3) := by decide +kernel
theorem dX7_init_73 : decode cX7_init 73 = .ok (.aload_n 0, 1) := by decide +kernel
theorem dX7_init_74 : decode cX7_init 74 = .ok (.new 38, 3) := by decide +kernel
theorem dX7_init_77 : decode cX7_init 77 = .ok (.dup, 1) := by decide +kernel
theorem dX7_init_78 : decode cX7_init 78 = .ok (.aload_n 0, 1) := by decide +kernel
theorem dX7_init_79 : decode cX7_init 79 = .ok (.getfield 20, 3) := by decide +kernel
theorem dX7_init_82 : decode cX7_init 82 = .ok (.aload_n 0, 1) := by decide +kernel
theorem dX7_init_83 : decode cX7_init 83 = .ok (.getfield 27, 3) := by decide +kernel
theorem dX7_init_86 : decode cX7_init 86 = .ok (.aload_n 0, 1) := by decide +kernel
theorem dX7_init_87 : decode cX7_init 87 = .ok (.getfield 34, 3) := by decide +kernel
theorem dX7_init_90 : decode cX7_init 90 = .ok (.iconst 1, 1) := by decide +kernel
theorem dX7_init_91 : decode cX7_init 91 = .ok (.invokespecial 40, 3) := by decide +kernel
theorem dX7_init_94 : decode cX7_init 94 = .ok (.putfield 47, 3) := by decide +kernel
theorem dX7_init_97 : decode cX7_init 97 = .ok (.aload_n 0, 1) := by decide +kernel
theorem dX7_init_98 : decode cX7_init 98 = .ok (.new 50, 3) := by decide +kernel
theorem dX7_init_101 : decode cX7_init 101 = .ok (.dup, 1) := by decide +kernel
theorem dX7_init_102 : decode cX7_init 102 = .ok (.invokespecial 52, 3) := by decide +kernel
theorem dX7_init_105 : decode cX7_init 105 = .ok (.putfield 53, 3) := by decide +kernel
theorem dX7_init_108 : decode cX7_init 108 = .ok (.aload_n 0, 1) := by decide +kernel
theorem dX7_init_109 : decode cX7_init 109 = .ok (.new 57, 3) := by decide +kernel
theorem dX7_init_112 : decode cX7_init 112 = .ok (.dup, 1) := by decide +kernel
theorem dX7_init_113 : decode cX7_init 113 = .ok (.invokespecial 59, 3) := by decide +kernel
theorem dX7_init_116 : decode cX7_init 116 = .ok (.putfield 60, 3) := by decide +kernel
theorem dX7_init_119 : decode cX7_init 119 = .ok (.return_, 1) := by decide +kernel
theorem dX8_init_0 : decode cX8_init 0 = .ok (.aload_n 0, 1) := by decide +kernel
theorem dX8_init_1 : decode cX8_init 1 = .ok (.invokespecial 1, 3) := by decide +kernel
theorem dX8_init_4 : decode cX8_init 4 = .ok (.aload_n 0, 1) := by decide +kernel
theorem dX8_init_5 : decode cX8_init 5 = .ok (.iconst 5, 1) := by decide +kernel
theorem dX8_init_6 : decode cX8_init 6 = .ok (.newarray .int, 2) := by decide +kernel
theorem dX8_init_8 : decode cX8_init 8 = .ok (.putfield 7, 3) := by decide +kernel
theorem dX8_init_11 : decode cX8_init 11 = .ok (.aload_n 0, 1) := by decide +kernel
theorem dX8_init_12 : decode cX8_init 12 = .ok (.bipush 10, 2) := by decide +kernel
theorem dX8_init_14 : decode cX8_init 14 = .ok (.newarray .boolean, 2) := by decide +kernel
theorem dX8_init_16 : decode cX8_init 16 = .ok (.putfield 13, 3) := by decide +kernel
theorem dX8_init_19 : decode cX8_init 19 = .ok (.aload_n 0, 1) := by decide +kernel
theorem dX8_init_20 : decode cX8_init 20 = .ok (.bipush 10, 2) := by decide +kernel
theorem dX8_init_22 : decode cX8_init 22 = .ok (.newarray .boolean, 2) := by decide +kernel
theorem dX8_init_24 : decode cX8_init 24 = .ok (.putfield 17, 3) := by decide +kernel
theorem dX8_init_27 : decode cX8_init 27 = .ok (.aload_n 0, 1) := by decide +kernel
theorem dX8_init_28 : decode cX8_init 28 = .ok (.bipush 10, 2) := by decide +kernel
theorem dX8_init_30 : decode cX8_init 30 = .ok (.newarray .int, 2) := by decide +kernel
theorem dX8_init_32 : decode cX8_init 32 = .ok (.putfield 20, 3) := by decide +kernel
theorem dX8_init_35 : decode cX8_init 35 = .ok (.aload_n 0, 1) := by decide +kernel
theorem dX8_init_36 : decode cX8_init 36 = .ok (.bipush 50, 2) := by decide +kernel
theorem dX8_init_38 : decode cX8_init 38 = .ok (.newarray .int, 2) := by decide +kernel
theorem dX8_init_40 : decode cX8_init 40 = .ok (.putfield 23, 3) := by decide +kernel
theorem dX8_init_43 : decode cX8_init 43 = .ok (.aload_n 0, 1) := by decide +kernel
theorem dX8_init_44 : decode cX8_init 44 = .ok (.bipush 12, 2) := by decide +kernel
theorem dX8_init_46 : decode cX8_init 46 = .ok (.newarray .int, 2) := by decide +kernel
theorem dX8_init_48 : decode cX8_init 48 = .ok (.putfield 26, 3) := by decide +kernel
theorem dX8_init_51 : decode cX8_init 51 = .ok (.aload_n 0, 1) := by decide +kernel
theorem dX8_init_52 : decode cX8_init 52 = .ok (.bipush 12, 2) := by decide +kernel
theorem dX8_init_54 : decode cX8_init 54 = .ok (.newarray .int, 2) := by decide +kernel
theorem dX8_init_56 : decode cX8_init 56 = .ok (.putfield 29, 3) := by decide +kernel
theorem dX8_init_59 : decode cX8_init 59 = .ok (.aload_n 0, 1) := by decide +kernel
theorem dX8_init_60 : decode cX8_init 60 = .ok (.bipush 12, 2) := by decide +kernel
theorem dX8_init_62 : decode cX8_init 62 = .ok (.newarray .int, 2) := by decide +kernel
theorem dX8_init_64 : decode cX8_init 64 = .ok (.putfield 32, 3) := by decide +kernel
theorem dX8_init_67 : decode cX8_init 67 = .ok (.aload_n 0, 1) := by decide +kernel
theorem dX8_init_68 : decode cX8_init 68 = .ok (.bipush 12, 2) := by decide +kernel
theorem dX8_init_70 : decode cX8_init 70 = .ok (.newarray .int, 2) := by decide +kernel
theorem dX8_init_72 : decode cX8_init 72 = .ok (.putfield 35, 3) := by decide +kernel
theorem dX8_init_75 : decode cX8_init 75 = .ok (.aload_n 0, 1) := by decide +kernel
theorem dX8_init_76 : decode cX8_init 76 = .ok (.bipush 60, 2) := by decide +kernel
theorem dX8_init_78 : decode cX8_init 78 = .ok (.newarray .int, 2) := by decide +kernel
theorem dX8_init_80 : decode cX8_init 80 = .ok (.putfield 38, 3) := by decide +kernel
theorem dX8_init_83 : decode cX8_init 83 = .ok (.aload_n 0, 1) := by decide +kernel
theorem dX8_init_84 : decode cX8_init 84 = .ok (.bipush 60, 2) := by decide +kernel
theorem dX8_init_86 : decode cX8_init 86 = .ok (.newarray .int, 2) := by decide +kernel
theorem dX8_init_88 : decode cX8_init 88 = .ok (.putfield 41, 3) := by decide +kernel
theorem dX8_init_91 : decode cX8_init 91 = .ok (.aload_n 0, 1) := by decide +kernel
theorem dX8_init_92 : decode cX8_init 92 = .ok (.bipush 60, 2) := by decide +kernel
theorem dX8_init_94 : decode cX8_init 94 = .ok (.newarray .int, 2) := by decide +kernel
theorem dX8_init_96 : decode cX8_init 96 = .ok (.putfield 44, 3) := by decide +kernel
theorem dX8_init_99 : decode cX8_init 99 = .ok (.aload_n 0, 1) := by decide +kernel
theorem dX8_init_100 : decode cX8_init 100 = .ok (.bipush 60, 2) := by decide +kernel
theorem dX8_init_102 : decode cX8_init 102 = .ok (.newarray .int, 2) := by decide +kernel
theorem dX8_init_104 : decode cX8_init 104 = .ok (.putfield 47, 3) := by decide +kernel
theorem dX8_init_107 : decode cX8_init 107 = .ok (.aload_n 0, 1) := by decide +kernel
theorem dX8_init_108 : decode cX8_init 108 = .ok (.sipush 240, 3) := by decide +kernel
theorem dX8_init_111 : decode cX8_init 111 = .ok (.newarray .int, 2) := by decide +kernel
theorem dX8_init_113 : decode cX8_init 113 = .ok (.putfield 50, 3) := by decide +kernel
theorem dX8_init_116 : decode cX8_init 116 = .ok (.aload_n 0, 1) := by decide +kernel
theorem dX8_init_117 : decode cX8_init 117 = .ok (.bipush 60, 2) := by decide +kernel
theorem dX8_init_119 : decode cX8_init 119 = .ok (.newarray .boolean, 2) := by decide +kernel
theorem dX8_init_121 : decode cX8_init 121 = .ok (.putfield 53, 3) := by decide +kernel
theorem dX8_init_124 : decode cX8_init 124 = .ok (.aload_n 0, 1) := by decide +kernel
theorem dX8_init_125 : decode cX8_init 125 = .ok (.iconst 4, 1) := by decide +kernel
theorem dX8_init_126 : decode cX8_init 126 = .ok (.newarray .int, 2) := by decide +kernel
theorem dX8_init_128 : decode cX8_init 128 = .ok (.putfield 56, 3) := by decide +kernel
theorem dX8_init_131 : decode cX8_init 131 = .ok (.aload_n 0, 1) := by decide +kernel
theorem dX8_init_132 : decode cX8_init 132 = .ok (.bipush 40, 2) := by decide +kernel
theorem dX8_init_134 : decode cX8_init 134 = .ok (.newarray .int, 2) := by decide +kernel
theorem dX8_init_136 : decode cX8_init 136 = .ok (.putfield 59, 3) := by decide +kernel
theorem dX8_init_139 : decode cX8_init 139 = .ok (.aload_n 0, 1) := by decide +kernel
theorem dX8_init_140 : decode cX8_init 140 = .ok (.bipush 12, 2) := by decide +kernel
theorem dX8_init_142 : decode cX8_init 142 = .ok (.newarray .int, 2) := by decide +kernel
theorem dX8_init_144 : decode cX8_init 144 = .ok (.putfield 62, 3) := by decide +kernel
theorem dX8_init_147 : decode cX8_init 147 = .ok (.aload_n 0, 1) := by decide +kernel
theorem dX8_init_148 : decode cX8_init 148 = .ok (.bipush 12, 2) := by decide +kernel
theorem dX8_init_150 : decode cX8_init 150 = .ok (.newarray .int, 2) := by decide +kernel
theorem dX8_init_152 : decode cX8_init 152 = .ok (.putfield 65, 3) := by decide +kernel
theorem dX8_init_155 : decode cX8_init 155 = .ok (.aload_n 0, 1) := by decide +kernel
theorem dX8_init_156 : decode cX8_init 156 = .ok (.bipush 40, 2) := by decide +kernel
theorem dX8_init_158 : decode cX8_init 158 = .ok (.newarray .int, 2) := by decide +kernel
theorem dX8_init_160 : decode cX8_init 160 = .ok (.putfield 68, 3) := by decide +kernel
theorem dX8_init_163 : decode cX8_init 163 = .ok (.aload_n 0, 1) := by decide +kernel
theorem dX8_init_164 : decode cX8_init 164 = .ok (.bipush 10, 2) := by decide +kernel
theorem dX8_init_166 : decode cX8_init 166 = .ok (.newarray .int, 2) := by decide +kernel
theorem dX8_init_168 : decode cX8_init 168 = .ok (.putfield 71, 3) := by decide +kernel
theorem dX8_init_171 : decode cX8_init 171 = .ok (.aload_n 0, 1) := by decide +kernel
theorem dX8_init_172 : decode cX8_init 172 = .ok (.sipush 400, 3) := by decide +kernel
theorem dX8_init_175 : decode cX8_init 175 = .ok (.newarray .int, 2) := by decide +kernel
theorem dX8_init_177 : decode cX8_init 177 = .ok (.putfield 74, 3) := by decide +kernel
theorem dX8_init_180 : decode cX8_init 180 = .ok (.aload_n 0, 1) := by decide +kernel
theorem dX8_init_181 : decode cX8_init 181 = .ok (.bipush 10, 2) := by decide +kernel
theorem dX8_init_183 : decode cX8_init 183 = .ok (.newarray .int, 2) := by decide +kernel
theorem dX8_init_185 : decode cX8_init 185 = .ok (.putfield 77, 3) := by decide +kernel
theorem dX8_init_188 : decode cX8_init 188 = .ok (.iconst 0, 1) := by decide +kernel
theorem dX8_init_189 : decode cX8_init 189 = .ok (.istore_n 1, 1) := by decide +kernel
theorem dX8_init_190 : decode cX8_init 190 = .ok (.iload_n 1, 1) := by decide +kernel
theorem dX8_init_191 : decode cX8_init 191 = .ok (.iconst 4, 1) := by decide +kernel
theorem dX8_init_192 : decode cX8_init 192 = .ok (.if_icmp .ge 16, 3) := by decide +kernel
theorem dX8_init_195 : decode cX8_init 195 = .ok (.aload_n 0, 1) := by decide +kernel
theorem dX8_init_196 : decode cX8_init 196 = .ok (.getfield 56, 3) := by decide +kernel
theorem dX8_init_199 : decode cX8_init 199 = .ok (.iload_n 1, 1) := by decide +kernel
theorem dX8_init_200 : decode cX8_init 200 = .ok (.iconst (-1), 1) := by decide +kernel
theorem dX8_init_201 : decode cX8_init 201 = .ok (.iastore, 1) := by decide +kernel
theorem dX8_init_202 : decode cX8_init 202 = .ok (.iinc 1 1, 3) := by decide +kernel
theorem dX8_init_205 : decode cX8_init 205 = .ok (.goto (-15), 3) := by decide +kernel
theorem dX8_init_208 : decode cX8_init 208 = .ok (.return_, 1) := by decide +kernel
theorem nfl_RX7_9 : FL RX7 9 7 0 (tyX7 0) := ⟨RX7, TX7, 9, tyX7, rfl, by decide, lyX7, tyX7_ok, nmX7, rfl, Or.inl (tb3 (mem_i 26 rfl))⟩
theorem nfo_RX7_9 : FO RX7 9 7 0 (tyX7 0) := ⟨RX7, TX7, 9, tyX7, rfl, by decide, lyX7, tyX7_ok, nmX7, rfl, tb3 (mem_i 26 rfl)⟩
theorem nff_RX7_9 : FF RX7 7 0 := fun C T N h => by cases h; exact ⟨rfl, rfl⟩
theorem nfl_RX7_13 : FL RX7 13 7 1 .int := ⟨RX7, TX7, 9, tyX7, rfl, by decide, lyX7, tyX7_ok, nmX7, rfl, Or.inl (tb3 (mem_i 27 rfl))⟩
theorem nfp_RX7_13 : FP 7 1 := fun C T N h => by cases h; rfl
theorem nw_RX7_17 : NWc RX7 17 5 4 [.int 0, .int 0, .null, .null] := ⟨RX5, TX5, tyX5, rfl, lyX5, tyX5_ok, exin (mem_i 16 (by decide +kernel)), exin (mem_i 17 (by decide +kernel)), tb0 (mem_i 2 rfl), fun j hj => by
  match j, hj with
  | 0, _ => rfl
  | 1, _ => rfl
  | 2, _ => rfl
  | 3, _ => rfl
  | j + 4, h => exact absurd h (by omega)⟩
theorem nfl_RX5_9 : FL RX5 9 5 0 .int := ⟨RX5, TX5, 4, tyX5, rfl, by decide, lyX5, tyX5_ok, nmX5, rfl, Or.inl (tb0 (mem_i 29 rfl))⟩
theorem nfp_RX5_9 : FP 5 0 := fun C T N h => by cases h; rfl
theorem nfl_RX5_15 : FL RX5 15 5 1 .int := ⟨RX5, TX5, 4, tyX5, rfl, by decide, lyX5, tyX5_ok, nmX5, rfl, Or.inl (tb1 (mem_i 0 rfl))⟩
theorem nfp_RX5_15 : FP 5 1 := fun C T N h => by cases h; rfl
theorem nfl_RX5_18 : FL RX5 18 5 2 (tyX5 2) := ⟨RX5, TX5, 4, tyX5, rfl, by decide, lyX5, tyX5_ok, nmX5, rfl, Or.inl (tb1 (mem_i 1 rfl))⟩
theorem nfo_RX5_18 : FO RX5 18 5 2 (tyX5 2) := ⟨RX5, TX5, 4, tyX5, rfl, by decide, lyX5, tyX5_ok, nmX5, rfl, tb1 (mem_i 1 rfl)⟩
theorem nff_RX5_18 : FF RX5 5 2 := fun C T N h => by cases h; exact ⟨rfl, rfl⟩
theorem nfl_RX5_22 : FL RX5 22 5 3 (tyX5 3) := ⟨RX5, TX5, 4, tyX5, rfl, by decide, lyX5, tyX5_ok, nmX5, rfl, Or.inl (tb1 (mem_i 2 rfl))⟩
theorem nfo_RX5_22 : FO RX5 22 5 3 (tyX5 3) := ⟨RX5, TX5, 4, tyX5, rfl, by decide, lyX5, tyX5_ok, nmX5, rfl, tb1 (mem_i 2 rfl)⟩
theorem nff_RX5_22 : FF RX5 5 3 := fun C T N h => by cases h; exact ⟨rfl, rfl⟩
theorem ni_RX7_19 : NIc RX7 19 yX5_init 0 := ⟨⟨by decide +kernel, by decide +kernel, by decide +kernel⟩, rfl, tb0 (mem_i 26 rfl), tb0 (mem_i 2 rfl), Or.inr ⟨_, nf0 (mem_i 0 rfl)⟩⟩
theorem nfl_RX7_20 : FL RX7 20 7 2 (tyX7 2) := ⟨RX7, TX7, 9, tyX7, rfl, by decide, lyX7, tyX7_ok, nmX7, rfl, Or.inl (tb3 (mem_i 28 rfl))⟩
theorem nfo_RX7_20 : FO RX7 20 7 2 (tyX7 2) := ⟨RX7, TX7, 9, tyX7, rfl, by decide, lyX7, tyX7_ok, nmX7, rfl, tb3 (mem_i 28 rfl)⟩
theorem nff_RX7_20 : FF RX7 7 2 := fun C T N h => by cases h; exact ⟨rfl, rfl⟩
theorem nw_RX7_24 : NWc RX7 24 4 4 [.int 0, .null, .null, .null] := ⟨RX4, TX4, tyX4, rfl, lyX4, tyX4_ok, exin (mem_i 20 (by decide +kernel)), exin (mem_i 21 (by decide +kernel)), tb0 (mem_i 3 rfl), fun j hj => by
  match j, hj with
  | 0, _ => rfl
  | 1, _ => rfl
  | 2, _ => rfl
  | 3, _ => rfl
  | j + 4, h => exact absurd h (by omega)⟩
theorem nfl_RX4_9 : FL RX4 9 4 0 .int := ⟨RX4, TX4, 4, tyX4, rfl, by decide, lyX4, tyX4_ok, nmX4, rfl, Or.inl (tb1 (mem_i 11 rfl))⟩
theorem nfp_RX4_9 : FP 4 0 := fun C T N h => by cases h; rfl
theorem nfl_RX4_15 : FL RX4 15 4 1 (tyX4 1) := ⟨RX4, TX4, 4, tyX4, rfl, by decide, lyX4, tyX4_ok, nmX4, rfl, Or.inl (tb1 (mem_i 12 rfl))⟩
theorem nfo_RX4_15 : FO RX4 15 4 1 (tyX4 1) := ⟨RX4, TX4, 4, tyX4, rfl, by decide, lyX4, tyX4_ok, nmX4, rfl, tb1 (mem_i 12 rfl)⟩
theorem nff_RX4_15 : FF RX4 4 1 := fun C T N h => by cases h; exact ⟨rfl, rfl⟩
theorem nfl_RX4_19 : FL RX4 19 4 2 (tyX4 2) := ⟨RX4, TX4, 4, tyX4, rfl, by decide, lyX4, tyX4_ok, nmX4, rfl, Or.inl (tb1 (mem_i 13 rfl))⟩
theorem nfo_RX4_19 : FO RX4 19 4 2 (tyX4 2) := ⟨RX4, TX4, 4, tyX4, rfl, by decide, lyX4, tyX4_ok, nmX4, rfl, tb1 (mem_i 13 rfl)⟩
theorem nff_RX4_19 : FF RX4 4 2 := fun C T N h => by cases h; exact ⟨rfl, rfl⟩
theorem nfl_RX4_22 : FL RX4 22 4 3 (tyX4 3) := ⟨RX4, TX4, 4, tyX4, rfl, by decide, lyX4, tyX4_ok, nmX4, rfl, Or.inl (tb1 (mem_i 14 rfl))⟩
theorem nfo_RX4_22 : FO RX4 22 4 3 (tyX4 3) := ⟨RX4, TX4, 4, tyX4, rfl, by decide, lyX4, tyX4_ok, nmX4, rfl, tb1 (mem_i 14 rfl)⟩
theorem nff_RX4_22 : FF RX4 4 3 := fun C T N h => by cases h; exact ⟨rfl, rfl⟩
theorem ni_RX7_26 : NIc RX7 26 yX4_init 0 := ⟨⟨by decide +kernel, by decide +kernel, by decide +kernel⟩, rfl, tb1 (mem_i 8 rfl), tb0 (mem_i 3 rfl), Or.inr ⟨_, nf0 (mem_i 2 rfl)⟩⟩
theorem nfl_RX7_27 : FL RX7 27 7 3 (tyX7 3) := ⟨RX7, TX7, 9, tyX7, rfl, by decide, lyX7, tyX7_ok, nmX7, rfl, Or.inl (tb3 (mem_i 29 rfl))⟩
theorem nfo_RX7_27 : FO RX7 27 7 3 (tyX7 3) := ⟨RX7, TX7, 9, tyX7, rfl, by decide, lyX7, tyX7_ok, nmX7, rfl, tb3 (mem_i 29 rfl)⟩
theorem nff_RX7_27 : FF RX7 7 3 := fun C T N h => by cases h; exact ⟨rfl, rfl⟩
theorem nw_RX7_31 : NWc RX7 31 6 7 [.int 0, .null, .null, .null, .null, .null, .null] := ⟨RX6, TX6, tyX6, rfl, lyX6, tyX6_ok, exin (mem_i 24 (by decide +kernel)), exin (mem_i 25 (by decide +kernel)), tb0 (mem_i 4 rfl), fun j hj => by
  match j, hj with
  | 0, _ => rfl
  | 1, _ => rfl
  | 2, _ => rfl
  | 3, _ => rfl
  | 4, _ => rfl
  | 5, _ => rfl
  | 6, _ => rfl
  | j + 7, h => exact absurd h (by omega)⟩
theorem nfl_RX6_9 : FL RX6 9 6 0 .int := ⟨RX6, TX6, 7, tyX6, rfl, by decide, lyX6, tyX6_ok, nmX6, rfl, Or.inl (tb1 (mem_i 22 rfl))⟩
theorem nfp_RX6_9 : FP 6 0 := fun C T N h => by cases h; rfl
theorem nfl_RX6_15 : FL RX6 15 6 1 (tyX6 1) := ⟨RX6, TX6, 7, tyX6, rfl, by decide, lyX6, tyX6_ok, nmX6, rfl, Or.inl (tb1 (mem_i 23 rfl))⟩
theorem nfo_RX6_15 : FO RX6 15 6 1 (tyX6 1) := ⟨RX6, TX6, 7, tyX6, rfl, by decide, lyX6, tyX6_ok, nmX6, rfl, tb1 (mem_i 23 rfl)⟩
theorem nff_RX6_15 : FF RX6 6 1 := fun C T N h => by cases h; exact ⟨rfl, rfl⟩
theorem nfl_RX6_19 : FL RX6 19 6 2 (tyX6 2) := ⟨RX6, TX6, 7, tyX6, rfl, by decide, lyX6, tyX6_ok, nmX6, rfl, Or.inl (tb1 (mem_i 24 rfl))⟩
theorem nfo_RX6_19 : FO RX6 19 6 2 (tyX6 2) := ⟨RX6, TX6, 7, tyX6, rfl, by decide, lyX6, tyX6_ok, nmX6, rfl, tb1 (mem_i 24 rfl)⟩
theorem nff_RX6_19 : FF RX6 6 2 := fun C T N h => by cases h; exact ⟨rfl, rfl⟩
theorem nfl_RX6_22 : FL RX6 22 6 3 (tyX6 3) := ⟨RX6, TX6, 7, tyX6, rfl, by decide, lyX6, tyX6_ok, nmX6, rfl, Or.inl (tb1 (mem_i 25 rfl))⟩
theorem nfo_RX6_22 : FO RX6 22 6 3 (tyX6 3) := ⟨RX6, TX6, 7, tyX6, rfl, by decide, lyX6, tyX6_ok, nmX6, rfl, tb1 (mem_i 25 rfl)⟩
theorem nff_RX6_22 : FF RX6 6 3 := fun C T N h => by cases h; exact ⟨rfl, rfl⟩
theorem nfl_RX6_25 : FL RX6 25 6 4 (tyX6 4) := ⟨RX6, TX6, 7, tyX6, rfl, by decide, lyX6, tyX6_ok, nmX6, rfl, Or.inl (tb1 (mem_i 26 rfl))⟩
theorem nfo_RX6_25 : FO RX6 25 6 4 (tyX6 4) := ⟨RX6, TX6, 7, tyX6, rfl, by decide, lyX6, tyX6_ok, nmX6, rfl, tb1 (mem_i 26 rfl)⟩
theorem nff_RX6_25 : FF RX6 6 4 := fun C T N h => by cases h; exact ⟨rfl, rfl⟩
theorem nfl_RX6_28 : FL RX6 28 6 5 (tyX6 5) := ⟨RX6, TX6, 7, tyX6, rfl, by decide, lyX6, tyX6_ok, nmX6, rfl, Or.inl (tb1 (mem_i 27 rfl))⟩
theorem nfo_RX6_28 : FO RX6 28 6 5 (tyX6 5) := ⟨RX6, TX6, 7, tyX6, rfl, by decide, lyX6, tyX6_ok, nmX6, rfl, tb1 (mem_i 27 rfl)⟩
theorem nff_RX6_28 : FF RX6 6 5 := fun C T N h => by cases h; exact ⟨rfl, rfl⟩
theorem nfl_RX6_31 : FL RX6 31 6 6 (tyX6 6) := ⟨RX6, TX6, 7, tyX6, rfl, by decide, lyX6, tyX6_ok, nmX6, rfl, Or.inl (tb1 (mem_i 28 rfl))⟩
theorem nfo_RX6_31 : FO RX6 31 6 6 (tyX6 6) := ⟨RX6, TX6, 7, tyX6, rfl, by decide, lyX6, tyX6_ok, nmX6, rfl, tb1 (mem_i 28 rfl)⟩
theorem nff_RX6_31 : FF RX6 6 6 := fun C T N h => by cases h; exact ⟨rfl, rfl⟩
theorem ni_RX7_33 : NIc RX7 33 yX6_init 0 := ⟨⟨by decide +kernel, by decide +kernel, by decide +kernel⟩, rfl, tb1 (mem_i 19 rfl), tb0 (mem_i 4 rfl), Or.inr ⟨_, nf0 (mem_i 10 rfl)⟩⟩
theorem nfl_RX7_34 : FL RX7 34 7 4 (tyX7 4) := ⟨RX7, TX7, 9, tyX7, rfl, by decide, lyX7, tyX7_ok, nmX7, rfl, Or.inl (tb4 (mem_i 0 rfl))⟩
theorem nfo_RX7_34 : FO RX7 34 7 4 (tyX7 4) := ⟨RX7, TX7, 9, tyX7, rfl, by decide, lyX7, tyX7_ok, nmX7, rfl, tb4 (mem_i 0 rfl)⟩
theorem nff_RX7_34 : FF RX7 7 4 := fun C T N h => by cases h; exact ⟨rfl, rfl⟩
theorem nw_RX7_38 : NWc RX7 38 3 4 [.null, .null, .null, .long 0] := ⟨RX3, TX3, tyX3, rfl, lyX3, tyX3_ok, exin (mem_i 28 (by decide +kernel)), exin (mem_i 29 (by decide +kernel)), tb0 (mem_i 5 rfl), fun j hj => by
  match j, hj with
  | 0, _ => rfl
  | 1, _ => rfl
  | 2, _ => rfl
  | 3, _ => rfl
  | j + 4, h => exact absurd h (by omega)⟩
theorem nfl_RX3_9 : FL RX3 9 3 3 .long := ⟨RX3, TX3, 4, tyX3, rfl, by decide, lyX3, tyX3_ok, nmX3, rfl, Or.inl (tb2 (mem_i 29 rfl))⟩
theorem nfp_RX3_9 : FP 3 3 := fun C T N h => by cases h; rfl
theorem nfl_RX3_15 : FL RX3 15 3 0 (tyX3 0) := ⟨RX3, TX3, 4, tyX3, rfl, by decide, lyX3, tyX3_ok, nmX3, rfl, Or.inl (tb2 (mem_i 26 rfl))⟩
theorem nfo_RX3_15 : FO RX3 15 3 0 (tyX3 0) := ⟨RX3, TX3, 4, tyX3, rfl, by decide, lyX3, tyX3_ok, nmX3, rfl, tb2 (mem_i 26 rfl)⟩
theorem nff_RX3_15 : FF RX3 3 0 := fun C T N h => by cases h; exact ⟨rfl, rfl⟩
theorem nw_RX3_19 : NWc RX3 19 0 7 [.null, .null, .int 0, .null, .null, .int 0, .int 0] := ⟨RX0, TX0, tyX0, rfl, lyX0, tyX0_ok, exin (mem_i 31 (by decide +kernel)), exin (mem_i 32 (by decide +kernel)), tb0 (mem_i 6 rfl), fun j hj => by
  match j, hj with
  | 0, _ => rfl
  | 1, _ => rfl
  | 2, _ => rfl
  | 3, _ => rfl
  | 4, _ => rfl
  | 5, _ => rfl
  | 6, _ => rfl
  | j + 7, h => exact absurd h (by omega)⟩
theorem nfl_RX0_9 : FL RX0 9 0 3 (tyX0 3) := ⟨RX0, TX0, 7, tyX0, rfl, by decide, lyX0, tyX0_ok, nmX0, rfl, Or.inl (tb2 (mem_i 15 rfl))⟩
theorem nfo_RX0_9 : FO RX0 9 0 3 (tyX0 3) := ⟨RX0, TX0, 7, tyX0, rfl, by decide, lyX0, tyX0_ok, nmX0, rfl, tb2 (mem_i 15 rfl)⟩
theorem nff_RX0_9 : FF RX0 0 3 := fun C T N h => by cases h; exact ⟨rfl, rfl⟩
theorem nfl_RX0_15 : FL RX0 15 0 4 (tyX0 4) := ⟨RX0, TX0, 7, tyX0, rfl, by decide, lyX0, tyX0_ok, nmX0, rfl, Or.inl (tb2 (mem_i 16 rfl))⟩
theorem nfo_RX0_15 : FO RX0 15 0 4 (tyX0 4) := ⟨RX0, TX0, 7, tyX0, rfl, by decide, lyX0, tyX0_ok, nmX0, rfl, tb2 (mem_i 16 rfl)⟩
theorem nff_RX0_15 : FF RX0 0 4 := fun C T N h => by cases h; exact ⟨rfl, rfl⟩
theorem nfl_RX0_18 : FL RX0 18 0 5 .int := ⟨RX0, TX0, 7, tyX0, rfl, by decide, lyX0, tyX0_ok, nmX0, rfl, Or.inl (tb2 (mem_i 17 rfl))⟩
theorem nfp_RX0_18 : FP 0 5 := fun C T N h => by cases h; rfl
theorem nfl_RX0_22 : FL RX0 22 0 6 .int := ⟨RX0, TX0, 7, tyX0, rfl, by decide, lyX0, tyX0_ok, nmX0, rfl, Or.inl (tb2 (mem_i 18 rfl))⟩
theorem nfp_RX0_22 : FP 0 6 := fun C T N h => by cases h; rfl
theorem nfl_RX0_25 : FL RX0 25 0 0 (tyX0 0) := ⟨RX0, TX0, 7, tyX0, rfl, by decide, lyX0, tyX0_ok, nmX0, rfl, Or.inl (tb2 (mem_i 12 rfl))⟩
theorem nfo_RX0_25 : FO RX0 25 0 0 (tyX0 0) := ⟨RX0, TX0, 7, tyX0, rfl, by decide, lyX0, tyX0_ok, nmX0, rfl, tb2 (mem_i 12 rfl)⟩
theorem nff_RX0_25 : FF RX0 0 0 := fun C T N h => by cases h; exact ⟨rfl, rfl⟩
theorem nfl_RX0_29 : FL RX0 29 0 1 (tyX0 1) := ⟨RX0, TX0, 7, tyX0, rfl, by decide, lyX0, tyX0_ok, nmX0, rfl, Or.inl (tb2 (mem_i 13 rfl))⟩
theorem nfo_RX0_29 : FO RX0 29 0 1 (tyX0 1) := ⟨RX0, TX0, 7, tyX0, rfl, by decide, lyX0, tyX0_ok, nmX0, rfl, tb2 (mem_i 13 rfl)⟩
theorem nff_RX0_29 : FF RX0 0 1 := fun C T N h => by cases h; exact ⟨rfl, rfl⟩
theorem nfl_RX0_33 : FL RX0 33 0 2 .boolean := ⟨RX0, TX0, 7, tyX0, rfl, by decide, lyX0, tyX0_ok, nmX0, rfl, Or.inl (tb2 (mem_i 14 rfl))⟩
theorem nfo_RX0_33 : FO RX0 33 0 2 .boolean := ⟨RX0, TX0, 7, tyX0, rfl, by decide, lyX0, tyX0_ok, nmX0, rfl, tb2 (mem_i 14 rfl)⟩
theorem nff_RX0_33 : FF RX0 0 2 := fun C T N h => by cases h; exact ⟨rfl, rfl⟩
theorem ni_RX3_21 : NIc RX3 21 yX0_init 3 := ⟨⟨by decide +kernel, by decide +kernel, by decide +kernel⟩, rfl, tb2 (mem_i 9 rfl), tb0 (mem_i 6 rfl), Or.inr ⟨_, nf0 (mem_i 13 rfl)⟩⟩
theorem nfl_RX3_24 : FL RX3 24 3 1 (tyX3 1) := ⟨RX3, TX3, 4, tyX3, rfl, by decide, lyX3, tyX3_ok, nmX3, rfl, Or.inl (tb2 (mem_i 27 rfl))⟩
theorem nfp_RX3_24 : FP 3 1 := fun C T N h => by cases h; rfl
theorem nfl_RX3_28 : FL RX3 28 3 2 (tyX3 2) := ⟨RX3, TX3, 4, tyX3, rfl, by decide, lyX3, tyX3_ok, nmX3, rfl, Or.inl (tb2 (mem_i 28 rfl))⟩
theorem nfp_RX3_28 : FP 3 2 := fun C T N h => by cases h; rfl
theorem ni_RX7_40 : NIc RX7 40 yX3_init 4 := ⟨⟨by decide +kernel, by decide +kernel, by decide +kernel⟩, rfl, tb2 (mem_i 6 rfl), tb0 (mem_i 5 rfl), Or.inr ⟨_, nf0 (mem_i 12 rfl)⟩⟩
theorem nfl_RX7_43 : FL RX7 43 7 5 (tyX7 5) := ⟨RX7, TX7, 9, tyX7, rfl, by decide, lyX7, tyX7_ok, nmX7, rfl, Or.inl (tb4 (mem_i 1 rfl))⟩
theorem nfo_RX7_43 : FO RX7 43 7 5 (tyX7 5) := ⟨RX7, TX7, 9, tyX7, rfl, by decide, lyX7, tyX7_ok, nmX7, rfl, tb4 (mem_i 1 rfl)⟩
theorem nff_RX7_43 : FF RX7 7 5 := fun C T N h => by cases h; exact ⟨rfl, rfl⟩
theorem nfl_RX7_47 : FL RX7 47 7 6 (tyX7 6) := ⟨RX7, TX7, 9, tyX7, rfl, by decide, lyX7, tyX7_ok, nmX7, rfl, Or.inl (tb4 (mem_i 2 rfl))⟩
theorem nfo_RX7_47 : FO RX7 47 7 6 (tyX7 6) := ⟨RX7, TX7, 9, tyX7, rfl, by decide, lyX7, tyX7_ok, nmX7, rfl, tb4 (mem_i 2 rfl)⟩
theorem nff_RX7_47 : FF RX7 7 6 := fun C T N h => by cases h; exact ⟨rfl, rfl⟩
theorem nw_RX7_50 : NWc RX7 50 2 5 [.int 0, .int 0, .null, .null, .null] := ⟨RX2, TX2, tyX2, rfl, lyX2, tyX2_ok, exin (mem_i 36 (by decide +kernel)), exin (mem_i 37 (by decide +kernel)), tb0 (mem_i 7 rfl), fun j hj => by
  match j, hj with
  | 0, _ => rfl
  | 1, _ => rfl
  | 2, _ => rfl
  | 3, _ => rfl
  | 4, _ => rfl
  | j + 5, h => exact absurd h (by omega)⟩
theorem nfl_RX2_9 : FL RX2 9 2 0 .int := ⟨RX2, TX2, 5, tyX2, rfl, by decide, lyX2, tyX2_ok, nmX2, rfl, Or.inl (tb3 (mem_i 7 rfl))⟩
theorem nfp_RX2_9 : FP 2 0 := fun C T N h => by cases h; rfl
theorem nfl_RX2_15 : FL RX2 15 2 1 .int := ⟨RX2, TX2, 5, tyX2, rfl, by decide, lyX2, tyX2_ok, nmX2, rfl, Or.inl (tb3 (mem_i 8 rfl))⟩
theorem nfp_RX2_15 : FP 2 1 := fun C T N h => by cases h; rfl
theorem nfl_RX2_18 : FL RX2 18 2 2 (tyX2 2) := ⟨RX2, TX2, 5, tyX2, rfl, by decide, lyX2, tyX2_ok, nmX2, rfl, Or.inl (tb3 (mem_i 9 rfl))⟩
theorem nfo_RX2_18 : FO RX2 18 2 2 (tyX2 2) := ⟨RX2, TX2, 5, tyX2, rfl, by decide, lyX2, tyX2_ok, nmX2, rfl, tb3 (mem_i 9 rfl)⟩
theorem nff_RX2_18 : FF RX2 2 2 := fun C T N h => by cases h; exact ⟨rfl, rfl⟩
theorem nfl_RX2_22 : FL RX2 22 2 3 (tyX2 3) := ⟨RX2, TX2, 5, tyX2, rfl, by decide, lyX2, tyX2_ok, nmX2, rfl, Or.inl (tb3 (mem_i 10 rfl))⟩
theorem nfo_RX2_22 : FO RX2 22 2 3 (tyX2 3) := ⟨RX2, TX2, 5, tyX2, rfl, by decide, lyX2, tyX2_ok, nmX2, rfl, tb3 (mem_i 10 rfl)⟩
theorem nff_RX2_22 : FF RX2 2 3 := fun C T N h => by cases h; exact ⟨rfl, rfl⟩
theorem nfl_RX2_26 : FL RX2 26 2 4 (tyX2 4) := ⟨RX2, TX2, 5, tyX2, rfl, by decide, lyX2, tyX2_ok, nmX2, rfl, Or.inl (tb3 (mem_i 11 rfl))⟩
theorem nfo_RX2_26 : FO RX2 26 2 4 (tyX2 4) := ⟨RX2, TX2, 5, tyX2, rfl, by decide, lyX2, tyX2_ok, nmX2, rfl, tb3 (mem_i 11 rfl)⟩
theorem nff_RX2_26 : FF RX2 2 4 := fun C T N h => by cases h; exact ⟨rfl, rfl⟩
theorem ni_RX7_52 : NIc RX7 52 yX2_init 0 := ⟨⟨by decide +kernel, by decide +kernel, by decide +kernel⟩, rfl, tb3 (mem_i 4 rfl), tb0 (mem_i 7 rfl), Or.inr ⟨_, nf0 (mem_i 21 rfl)⟩⟩
theorem nfl_RX7_53 : FL RX7 53 7 7 (tyX7 7) := ⟨RX7, TX7, 9, tyX7, rfl, by decide, lyX7, tyX7_ok, nmX7, rfl, Or.inl (tb4 (mem_i 3 rfl))⟩
theorem nfo_RX7_53 : FO RX7 53 7 7 (tyX7 7) := ⟨RX7, TX7, 9, tyX7, rfl, by decide, lyX7, tyX7_ok, nmX7, rfl, tb4 (mem_i 3 rfl)⟩
theorem nff_RX7_53 : FF RX7 7 7 := fun C T N h => by cases h; exact ⟨rfl, rfl⟩
theorem nw_RX7_57 : NWc RX7 57 1 2 [.null, .int 0] := ⟨RX1, TX1, tyX1, rfl, lyX1, tyX1_ok, exin (mem_i 40 (by decide +kernel)), exin (mem_i 41 (by decide +kernel)), tb0 (mem_i 8 rfl), fun j hj => by
  match j, hj with
  | 0, _ => rfl
  | 1, _ => rfl
  | j + 2, h => exact absurd h (by omega)⟩
theorem nfl_RX1_9 : FL RX1 9 1 0 (tyX1 0) := ⟨RX1, TX1, 2, tyX1, rfl, by decide, lyX1, tyX1_ok, nmX1, rfl, Or.inl (tb3 (mem_i 22 rfl))⟩
theorem nfo_RX1_9 : FO RX1 9 1 0 (tyX1 0) := ⟨RX1, TX1, 2, tyX1, rfl, by decide, lyX1, tyX1_ok, nmX1, rfl, tb3 (mem_i 22 rfl)⟩
theorem nff_RX1_9 : FF RX1 1 0 := fun C T N h => by cases h; exact ⟨rfl, rfl⟩
theorem nfl_RX1_15 : FL RX1 15 1 1 .int := ⟨RX1, TX1, 2, tyX1, rfl, by decide, lyX1, tyX1_ok, nmX1, rfl, Or.inl (tb3 (mem_i 23 rfl))⟩
theorem nfp_RX1_15 : FP 1 1 := fun C T N h => by cases h; rfl
theorem ni_RX7_59 : NIc RX7 59 yX1_init 0 := ⟨⟨by decide +kernel, by decide +kernel, by decide +kernel⟩, rfl, tb3 (mem_i 19 rfl), tb0 (mem_i 8 rfl), Or.inr ⟨_, nf0 (mem_i 24 rfl)⟩⟩
theorem nfl_RX7_60 : FL RX7 60 7 8 (tyX7 8) := ⟨RX7, TX7, 9, tyX7, rfl, by decide, lyX7, tyX7_ok, nmX7, rfl, Or.inl (tb4 (mem_i 4 rfl))⟩
theorem nfo_RX7_60 : FO RX7 60 7 8 (tyX7 8) := ⟨RX7, TX7, 9, tyX7, rfl, by decide, lyX7, tyX7_ok, nmX7, rfl, tb4 (mem_i 4 rfl)⟩
theorem nff_RX7_60 : FF RX7 7 8 := fun C T N h => by cases h; exact ⟨rfl, rfl⟩
theorem nfl_RX8_7 : FL RX8 7 8 1 (tyX8 1) := ⟨RX8, TX8, 37, tyX8, rfl, by decide, lyX8, tyX8_ok, nmX8, rfl, Or.inl (tb16 (mem_i 6 rfl))⟩
theorem nfo_RX8_7 : FO RX8 7 8 1 (tyX8 1) := ⟨RX8, TX8, 37, tyX8, rfl, by decide, lyX8, tyX8_ok, nmX8, rfl, tb16 (mem_i 6 rfl)⟩
theorem nff_RX8_7 : FF RX8 8 1 := fun C T N h => by cases h; exact ⟨rfl, rfl⟩
theorem nfl_RX8_13 : FL RX8 13 8 3 (tyX8 3) := ⟨RX8, TX8, 37, tyX8, rfl, by decide, lyX8, tyX8_ok, nmX8, rfl, Or.inl (tb16 (mem_i 8 rfl))⟩
theorem nfo_RX8_13 : FO RX8 13 8 3 (tyX8 3) := ⟨RX8, TX8, 37, tyX8, rfl, by decide, lyX8, tyX8_ok, nmX8, rfl, tb16 (mem_i 8 rfl)⟩
theorem nff_RX8_13 : FF RX8 8 3 := fun C T N h => by cases h; exact ⟨rfl, rfl⟩
theorem nfl_RX8_17 : FL RX8 17 8 4 (tyX8 4) := ⟨RX8, TX8, 37, tyX8, rfl, by decide, lyX8, tyX8_ok, nmX8, rfl, Or.inl (tb16 (mem_i 9 rfl))⟩
theorem nfo_RX8_17 : FO RX8 17 8 4 (tyX8 4) := ⟨RX8, TX8, 37, tyX8, rfl, by decide, lyX8, tyX8_ok, nmX8, rfl, tb16 (mem_i 9 rfl)⟩
theorem nff_RX8_17 : FF RX8 8 4 := fun C T N h => by cases h; exact ⟨rfl, rfl⟩
theorem nfl_RX8_20 : FL RX8 20 8 5 (tyX8 5) := ⟨RX8, TX8, 37, tyX8, rfl, by decide, lyX8, tyX8_ok, nmX8, rfl, Or.inl (tb16 (mem_i 10 rfl))⟩
theorem nfo_RX8_20 : FO RX8 20 8 5 (tyX8 5) := ⟨RX8, TX8, 37, tyX8, rfl, by decide, lyX8, tyX8_ok, nmX8, rfl, tb16 (mem_i 10 rfl)⟩
theorem nff_RX8_20 : FF RX8 8 5 := fun C T N h => by cases h; exact ⟨rfl, rfl⟩
theorem nfl_RX8_23 : FL RX8 23 8 6 (tyX8 6) := ⟨RX8, TX8, 37, tyX8, rfl, by decide, lyX8, tyX8_ok, nmX8, rfl, Or.inl (tb16 (mem_i 11 rfl))⟩
theorem nfo_RX8_23 : FO RX8 23 8 6 (tyX8 6) := ⟨RX8, TX8, 37, tyX8, rfl, by decide, lyX8, tyX8_ok, nmX8, rfl, tb16 (mem_i 11 rfl)⟩
theorem nff_RX8_23 : FF RX8 8 6 := fun C T N h => by cases h; exact ⟨rfl, rfl⟩
theorem nfl_RX8_26 : FL RX8 26 8 8 (tyX8 8) := ⟨RX8, TX8, 37, tyX8, rfl, by decide, lyX8, tyX8_ok, nmX8, rfl, Or.inl (tb16 (mem_i 13 rfl))⟩
theorem nfo_RX8_26 : FO RX8 26 8 8 (tyX8 8) := ⟨RX8, TX8, 37, tyX8, rfl, by decide, lyX8, tyX8_ok, nmX8, rfl, tb16 (mem_i 13 rfl)⟩
theorem nff_RX8_26 : FF RX8 8 8 := fun C T N h => by cases h; exact ⟨rfl, rfl⟩
theorem nfl_RX8_29 : FL RX8 29 8 9 (tyX8 9) := ⟨RX8, TX8, 37, tyX8, rfl, by decide, lyX8, tyX8_ok, nmX8, rfl, Or.inl (tb16 (mem_i 14 rfl))⟩
theorem nfo_RX8_29 : FO RX8 29 8 9 (tyX8 9) := ⟨RX8, TX8, 37, tyX8, rfl, by decide, lyX8, tyX8_ok, nmX8, rfl, tb16 (mem_i 14 rfl)⟩
theorem nff_RX8_29 : FF RX8 8 9 := fun C T N h => by cases h; exact ⟨rfl, rfl⟩
theorem nfl_RX8_32 : FL RX8 32 8 10 (tyX8 10) := ⟨RX8, TX8, 37, tyX8, rfl, by decide, lyX8, tyX8_ok, nmX8, rfl, Or.inl (tb16 (mem_i 15 rfl))⟩
theorem nfo_RX8_32 : FO RX8 32 8 10 (tyX8 10) := ⟨RX8, TX8, 37, tyX8, rfl, by decide, lyX8, tyX8_ok, nmX8, rfl, tb16 (mem_i 15 rfl)⟩
theorem nff_RX8_32 : FF RX8 8 10 := fun C T N h => by cases h; exact ⟨rfl, rfl⟩
theorem nfl_RX8_35 : FL RX8 35 8 11 (tyX8 11) := ⟨RX8, TX8, 37, tyX8, rfl, by decide, lyX8, tyX8_ok, nmX8, rfl, Or.inl (tb16 (mem_i 16 rfl))⟩
theorem nfo_RX8_35 : FO RX8 35 8 11 (tyX8 11) := ⟨RX8, TX8, 37, tyX8, rfl, by decide, lyX8, tyX8_ok, nmX8, rfl, tb16 (mem_i 16 rfl)⟩
theorem nff_RX8_35 : FF RX8 8 11 := fun C T N h => by cases h; exact ⟨rfl, rfl⟩
theorem nfl_RX8_38 : FL RX8 38 8 13 (tyX8 13) := ⟨RX8, TX8, 37, tyX8, rfl, by decide, lyX8, tyX8_ok, nmX8, rfl, Or.inl (tb16 (mem_i 18 rfl))⟩
theorem nfo_RX8_38 : FO RX8 38 8 13 (tyX8 13) := ⟨RX8, TX8, 37, tyX8, rfl, by decide, lyX8, tyX8_ok, nmX8, rfl, tb16 (mem_i 18 rfl)⟩
theorem nff_RX8_38 : FF RX8 8 13 := fun C T N h => by cases h; exact ⟨rfl, rfl⟩
theorem nfl_RX8_41 : FL RX8 41 8 14 (tyX8 14) := ⟨RX8, TX8, 37, tyX8, rfl, by decide, lyX8, tyX8_ok, nmX8, rfl, Or.inl (tb16 (mem_i 19 rfl))⟩
theorem nfo_RX8_41 : FO RX8 41 8 14 (tyX8 14) := ⟨RX8, TX8, 37, tyX8, rfl, by decide, lyX8, tyX8_ok, nmX8, rfl, tb16 (mem_i 19 rfl)⟩
theorem nff_RX8_41 : FF RX8 8 14 := fun C T N h => by cases h; exact ⟨rfl, rfl⟩
theorem nfl_RX8_44 : FL RX8 44 8 15 (tyX8 15) := ⟨RX8, TX8, 37, tyX8, rfl, by decide, lyX8, tyX8_ok, nmX8, rfl, Or.inl (tb16 (mem_i 20 rfl))⟩
theorem nfo_RX8_44 : FO RX8 44 8 15 (tyX8 15) := ⟨RX8, TX8, 37, tyX8, rfl, by decide, lyX8, tyX8_ok, nmX8, rfl, tb16 (mem_i 20 rfl)⟩
theorem nff_RX8_44 : FF RX8 8 15 := fun C T N h => by cases h; exact ⟨rfl, rfl⟩
theorem nfl_RX8_47 : FL RX8 47 8 16 (tyX8 16) := ⟨RX8, TX8, 37, tyX8, rfl, by decide, lyX8, tyX8_ok, nmX8, rfl, Or.inl (tb16 (mem_i 21 rfl))⟩
theorem nfo_RX8_47 : FO RX8 47 8 16 (tyX8 16) := ⟨RX8, TX8, 37, tyX8, rfl, by decide, lyX8, tyX8_ok, nmX8, rfl, tb16 (mem_i 21 rfl)⟩
theorem nff_RX8_47 : FF RX8 8 16 := fun C T N h => by cases h; exact ⟨rfl, rfl⟩
theorem nfl_RX8_50 : FL RX8 50 8 17 (tyX8 17) := ⟨RX8, TX8, 37, tyX8, rfl, by decide, lyX8, tyX8_ok, nmX8, rfl, Or.inl (tb16 (mem_i 22 rfl))⟩
theorem nfo_RX8_50 : FO RX8 50 8 17 (tyX8 17) := ⟨RX8, TX8, 37, tyX8, rfl, by decide, lyX8, tyX8_ok, nmX8, rfl, tb16 (mem_i 22 rfl)⟩
theorem nff_RX8_50 : FF RX8 8 17 := fun C T N h => by cases h; exact ⟨rfl, rfl⟩
theorem nfl_RX8_53 : FL RX8 53 8 18 (tyX8 18) := ⟨RX8, TX8, 37, tyX8, rfl, by decide, lyX8, tyX8_ok, nmX8, rfl, Or.inl (tb16 (mem_i 23 rfl))⟩
theorem nfo_RX8_53 : FO RX8 53 8 18 (tyX8 18) := ⟨RX8, TX8, 37, tyX8, rfl, by decide, lyX8, tyX8_ok, nmX8, rfl, tb16 (mem_i 23 rfl)⟩
theorem nff_RX8_53 : FF RX8 8 18 := fun C T N h => by cases h; exact ⟨rfl, rfl⟩
theorem nfl_RX8_56 : FL RX8 56 8 19 (tyX8 19) := ⟨RX8, TX8, 37, tyX8, rfl, by decide, lyX8, tyX8_ok, nmX8, rfl, Or.inl (tb16 (mem_i 24 rfl))⟩
theorem nfo_RX8_56 : FO RX8 56 8 19 (tyX8 19) := ⟨RX8, TX8, 37, tyX8, rfl, by decide, lyX8, tyX8_ok, nmX8, rfl, tb16 (mem_i 24 rfl)⟩
theorem nff_RX8_56 : FF RX8 8 19 := fun C T N h => by cases h; exact ⟨rfl, rfl⟩
theorem nfl_RX8_59 : FL RX8 59 8 21 (tyX8 21) := ⟨RX8, TX8, 37, tyX8, rfl, by decide, lyX8, tyX8_ok, nmX8, rfl, Or.inl (tb16 (mem_i 26 rfl))⟩
theorem nfo_RX8_59 : FO RX8 59 8 21 (tyX8 21) := ⟨RX8, TX8, 37, tyX8, rfl, by decide, lyX8, tyX8_ok, nmX8, rfl, tb16 (mem_i 26 rfl)⟩
theorem nff_RX8_59 : FF RX8 8 21 := fun C T N h => by cases h; exact ⟨rfl, rfl⟩
theorem nfl_RX8_62 : FL RX8 62 8 23 (tyX8 23) := ⟨RX8, TX8, 37, tyX8, rfl, by decide, lyX8, tyX8_ok, nmX8, rfl, Or.inl (tb16 (mem_i 28 rfl))⟩
theorem nfo_RX8_62 : FO RX8 62 8 23 (tyX8 23) := ⟨RX8, TX8, 37, tyX8, rfl, by decide, lyX8, tyX8_ok, nmX8, rfl, tb16 (mem_i 28 rfl)⟩
theorem nff_RX8_62 : FF RX8 8 23 := fun C T N h => by cases h; exact ⟨rfl, rfl⟩
theorem nfl_RX8_65 : FL RX8 65 8 24 (tyX8 24) := ⟨RX8, TX8, 37, tyX8, rfl, by decide, lyX8, tyX8_ok, nmX8, rfl, Or.inl (tb16 (mem_i 29 rfl))⟩
theorem nfo_RX8_65 : FO RX8 65 8 24 (tyX8 24) := ⟨RX8, TX8, 37, tyX8, rfl, by decide, lyX8, tyX8_ok, nmX8, rfl, tb16 (mem_i 29 rfl)⟩
theorem nff_RX8_65 : FF RX8 8 24 := fun C T N h => by cases h; exact ⟨rfl, rfl⟩
theorem nfl_RX8_68 : FL RX8 68 8 26 (tyX8 26) := ⟨RX8, TX8, 37, tyX8, rfl, by decide, lyX8, tyX8_ok, nmX8, rfl, Or.inl (tb17 (mem_i 1 rfl))⟩
theorem nfo_RX8_68 : FO RX8 68 8 26 (tyX8 26) := ⟨RX8, TX8, 37, tyX8, rfl, by decide, lyX8, tyX8_ok, nmX8, rfl, tb17 (mem_i 1 rfl)⟩
theorem nff_RX8_68 : FF RX8 8 26 := fun C T N h => by cases h; exact ⟨rfl, rfl⟩
theorem nfl_RX8_71 : FL RX8 71 8 31 (tyX8 31) := ⟨RX8, TX8, 37, tyX8, rfl, by decide, lyX8, tyX8_ok, nmX8, rfl, Or.inl (tb17 (mem_i 6 rfl))⟩
theorem nfo_RX8_71 : FO RX8 71 8 31 (tyX8 31) := ⟨RX8, TX8, 37, tyX8, rfl, by decide, lyX8, tyX8_ok, nmX8, rfl, tb17 (mem_i 6 rfl)⟩
theorem nff_RX8_71 : FF RX8 8 31 := fun C T N h => by cases h; exact ⟨rfl, rfl⟩
theorem nfl_RX8_74 : FL RX8 74 8 32 (tyX8 32) := ⟨RX8, TX8, 37, tyX8, rfl, by decide, lyX8, tyX8_ok, nmX8, rfl, Or.inl (tb17 (mem_i 7 rfl))⟩
theorem nfo_RX8_74 : FO RX8 74 8 32 (tyX8 32) := ⟨RX8, TX8, 37, tyX8, rfl, by decide, lyX8, tyX8_ok, nmX8, rfl, tb17 (mem_i 7 rfl)⟩
theorem nff_RX8_74 : FF RX8 8 32 := fun C T N h => by cases h; exact ⟨rfl, rfl⟩
theorem nfl_RX8_77 : FL RX8 77 8 33 (tyX8 33) := ⟨RX8, TX8, 37, tyX8, rfl, by decide, lyX8, tyX8_ok, nmX8, rfl, Or.inl (tb17 (mem_i 8 rfl))⟩
theorem nfo_RX8_77 : FO RX8 77 8 33 (tyX8 33) := ⟨RX8, TX8, 37, tyX8, rfl, by decide, lyX8, tyX8_ok, nmX8, rfl, tb17 (mem_i 8 rfl)⟩
theorem nff_RX8_77 : FF RX8 8 33 := fun C T N h => by cases h; exact ⟨rfl, rfl⟩
def rm_X5_init : Room := { frames := 1, cells := 2, slots := 60, locals := 20 }
def BW_X5_init (cA : Nat → ClassId) (h0 : Nat) (w : va_W) : Prop := ∃ q1 q2 : Nat, w = [(h0, .inr (5, [.int (0 : Int32), .int (0 : Int32), .ref q1, .ref q2])), (q1, .inl (cA 0, (10, .inl (fun _ => 0)))), (q2, .inl (cA 0, (50, .inl (fun _ => 0))))]
set_option maxRecDepth 100000 in
set_option maxHeartbeats 4000000 in
theorem c_X5_init (l : Launch) (D : va_G) (cA : Nat → ClassId) (h0 : Nat) : CtN l yX5_init cX5_init 1 rm_X5_init [.ref h0] D cA [(h0, .inr (5, [.int 0, .int 0, .null, .null]))] (BW_X5_init cA h0) := by
  refine CtN.intro (own := RX5) (lv := [(0, .ref h0)]) (by decide +kernel) rfl rfl rfl (Nat.le_of_ble_eq_true rfl) ?_
  intro sz G hG hR
  refine n_ref hG 0 dX5_init_0 rfl ?_
  refine n_obj hG dX5_init_1 (tb0 (mem_i 28 rfl)) ⟨by decide, by decide⟩ (Nat.le_of_ble_eq_true rfl) ?_
  refine n_ref hG 0 dX5_init_4 rfl ?_
  refine n_iconst hG (v := (0 : Int32)) dX5_init_5 (by decide) ?_
  refine n_put hG (ws' := [(h0, .inr (5, [.int (0 : Int32), .int 0, .null, .null]))]) 0 dX5_init_6 nfl_RX5_9 nfp_RX5_9 rfl ⟨rfl, rfl⟩ (Nat.le_of_ble_eq_true rfl) rfl ?_
  refine n_ref hG 0 dX5_init_9 rfl ?_
  refine n_iconst hG (v := (0 : Int32)) dX5_init_10 (by decide) ?_
  refine n_put hG (ws' := [(h0, .inr (5, [.int (0 : Int32), .int (0 : Int32), .null, .null]))]) 0 dX5_init_11 nfl_RX5_15 nfp_RX5_15 rfl ⟨rfl, rfl⟩ (Nat.le_of_ble_eq_true rfl) rfl ?_
  refine n_ref hG 0 dX5_init_14 rfl ?_
  refine n_bipush hG (v := (10 : Int32)) dX5_init_15 (by decide) ?_
  refine n_arr hG (t := 0) (N := 10) (x := .inl (fun _ => 0)) (ty := .int) (k' := 1) (n' := 10) dX5_init_17 (tb1 (mem_i 7 rfl)) rfl rfl (by simp) (fun _ => rfl) (by decide) rfl (Nat.le_of_ble_eq_true rfl) ⟨Nat.le_of_ble_eq_true rfl, Nat.le_of_ble_eq_true rfl⟩ rfl rfl (fun q1 => ?_)
  refine n_eq (ws' := [(h0, .inr (5, [.int (0 : Int32), .int (0 : Int32), .null, .null])), (q1, .inl (cA 0, (10, .inl (fun _ => 0))))]) rfl ?_
  refine n_putF hG (ws' := [(h0, .inr (5, [.int (0 : Int32), .int (0 : Int32), .ref q1, .null])), (q1, .inl (cA 0, (10, .inl (fun _ => 0))))]) 0 dX5_init_19 nfo_RX5_18 nff_RX5_18 rfl ⟨rfl, rfl⟩ (Nat.le_of_ble_eq_true rfl) rfl ?_
  refine n_ref hG 0 dX5_init_22 rfl ?_
  refine n_bipush hG (v := (50 : Int32)) dX5_init_23 (by decide) ?_
  refine n_arr hG (t := 0) (N := 50) (x := .inl (fun _ => 0)) (ty := .int) (k' := 2) (n' := 60) dX5_init_25 (tb1 (mem_i 7 rfl)) rfl rfl (by simp) (fun _ => rfl) (by decide) rfl (Nat.le_of_ble_eq_true rfl) ⟨Nat.le_of_ble_eq_true rfl, Nat.le_of_ble_eq_true rfl⟩ rfl rfl (fun q2 => ?_)
  refine n_eq (ws' := [(h0, .inr (5, [.int (0 : Int32), .int (0 : Int32), .ref q1, .null])), (q1, .inl (cA 0, (10, .inl (fun _ => 0)))), (q2, .inl (cA 0, (50, .inl (fun _ => 0))))]) rfl ?_
  refine n_putF hG (ws' := [(h0, .inr (5, [.int (0 : Int32), .int (0 : Int32), .ref q1, .ref q2])), (q1, .inl (cA 0, (10, .inl (fun _ => 0)))), (q2, .inl (cA 0, (50, .inl (fun _ => 0))))]) 0 dX5_init_27 nfo_RX5_22 nff_RX5_22 rfl ⟨rfl, rfl⟩ (Nat.le_of_ble_eq_true rfl) rfl ?_
  exact hR _ _ _ ⟨q1, q2, rfl⟩ dX5_init_30
def rm_X4_init : Room := { frames := 1, cells := 3, slots := 36, locals := 20 }
def BW_X4_init (cA : Nat → ClassId) (h0 : Nat) (w : va_W) : Prop := ∃ q1 q2 q3 : Nat, w = [(h0, .inr (4, [.int (0 : Int32), .ref q1, .ref q2, .ref q3])), (q1, .inl (cA 0, (12, .inl (fun _ => 0)))), (q2, .inl (cA 0, (12, .inl (fun _ => 0)))), (q3, .inl (cA 0, (12, .inl (fun _ => 0))))]
set_option maxRecDepth 100000 in
set_option maxHeartbeats 4000000 in
theorem c_X4_init (l : Launch) (D : va_G) (cA : Nat → ClassId) (h0 : Nat) : CtN l yX4_init cX4_init 1 rm_X4_init [.ref h0] D cA [(h0, .inr (4, [.int 0, .null, .null, .null]))] (BW_X4_init cA h0) := by
  refine CtN.intro (own := RX4) (lv := [(0, .ref h0)]) (by decide +kernel) rfl rfl rfl (Nat.le_of_ble_eq_true rfl) ?_
  intro sz G hG hR
  refine n_ref hG 0 dX4_init_0 rfl ?_
  refine n_obj hG dX4_init_1 (tb1 (mem_i 10 rfl)) ⟨by decide, by decide⟩ (Nat.le_of_ble_eq_true rfl) ?_
  refine n_ref hG 0 dX4_init_4 rfl ?_
  refine n_iconst hG (v := (0 : Int32)) dX4_init_5 (by decide) ?_
  refine n_put hG (ws' := [(h0, .inr (4, [.int (0 : Int32), .null, .null, .null]))]) 0 dX4_init_6 nfl_RX4_9 nfp_RX4_9 rfl ⟨rfl, rfl⟩ (Nat.le_of_ble_eq_true rfl) rfl ?_
  refine n_ref hG 0 dX4_init_9 rfl ?_
  refine n_bipush hG (v := (12 : Int32)) dX4_init_10 (by decide) ?_
  refine n_arr hG (t := 0) (N := 12) (x := .inl (fun _ => 0)) (ty := .int) (k' := 1) (n' := 12) dX4_init_12 (tb1 (mem_i 7 rfl)) rfl rfl (by simp) (fun _ => rfl) (by decide) rfl (Nat.le_of_ble_eq_true rfl) ⟨Nat.le_of_ble_eq_true rfl, Nat.le_of_ble_eq_true rfl⟩ rfl rfl (fun q1 => ?_)
  refine n_eq (ws' := [(h0, .inr (4, [.int (0 : Int32), .null, .null, .null])), (q1, .inl (cA 0, (12, .inl (fun _ => 0))))]) rfl ?_
  refine n_putF hG (ws' := [(h0, .inr (4, [.int (0 : Int32), .ref q1, .null, .null])), (q1, .inl (cA 0, (12, .inl (fun _ => 0))))]) 0 dX4_init_14 nfo_RX4_15 nff_RX4_15 rfl ⟨rfl, rfl⟩ (Nat.le_of_ble_eq_true rfl) rfl ?_
  refine n_ref hG 0 dX4_init_17 rfl ?_
  refine n_bipush hG (v := (12 : Int32)) dX4_init_18 (by decide) ?_
  refine n_arr hG (t := 0) (N := 12) (x := .inl (fun _ => 0)) (ty := .int) (k' := 2) (n' := 24) dX4_init_20 (tb1 (mem_i 7 rfl)) rfl rfl (by simp) (fun _ => rfl) (by decide) rfl (Nat.le_of_ble_eq_true rfl) ⟨Nat.le_of_ble_eq_true rfl, Nat.le_of_ble_eq_true rfl⟩ rfl rfl (fun q2 => ?_)
  refine n_eq (ws' := [(h0, .inr (4, [.int (0 : Int32), .ref q1, .null, .null])), (q1, .inl (cA 0, (12, .inl (fun _ => 0)))), (q2, .inl (cA 0, (12, .inl (fun _ => 0))))]) rfl ?_
  refine n_putF hG (ws' := [(h0, .inr (4, [.int (0 : Int32), .ref q1, .ref q2, .null])), (q1, .inl (cA 0, (12, .inl (fun _ => 0)))), (q2, .inl (cA 0, (12, .inl (fun _ => 0))))]) 0 dX4_init_22 nfo_RX4_19 nff_RX4_19 rfl ⟨rfl, rfl⟩ (Nat.le_of_ble_eq_true rfl) rfl ?_
  refine n_ref hG 0 dX4_init_25 rfl ?_
  refine n_bipush hG (v := (12 : Int32)) dX4_init_26 (by decide) ?_
  refine n_arr hG (t := 0) (N := 12) (x := .inl (fun _ => 0)) (ty := .int) (k' := 3) (n' := 36) dX4_init_28 (tb1 (mem_i 7 rfl)) rfl rfl (by simp) (fun _ => rfl) (by decide) rfl (Nat.le_of_ble_eq_true rfl) ⟨Nat.le_of_ble_eq_true rfl, Nat.le_of_ble_eq_true rfl⟩ rfl rfl (fun q3 => ?_)
  refine n_eq (ws' := [(h0, .inr (4, [.int (0 : Int32), .ref q1, .ref q2, .null])), (q1, .inl (cA 0, (12, .inl (fun _ => 0)))), (q2, .inl (cA 0, (12, .inl (fun _ => 0)))), (q3, .inl (cA 0, (12, .inl (fun _ => 0))))]) rfl ?_
  refine n_putF hG (ws' := [(h0, .inr (4, [.int (0 : Int32), .ref q1, .ref q2, .ref q3])), (q1, .inl (cA 0, (12, .inl (fun _ => 0)))), (q2, .inl (cA 0, (12, .inl (fun _ => 0)))), (q3, .inl (cA 0, (12, .inl (fun _ => 0))))]) 0 dX4_init_30 nfo_RX4_22 nff_RX4_22 rfl ⟨rfl, rfl⟩ (Nat.le_of_ble_eq_true rfl) rfl ?_
  exact hR _ _ _ ⟨q1, q2, q3, rfl⟩ dX4_init_33
def rm_X6_init : Room := { frames := 1, cells := 6, slots := 484, locals := 20 }
def BW_X6_init (cA : Nat → ClassId) (h0 : Nat) (w : va_W) : Prop := ∃ q1 q2 q3 q4 q5 q6 : Nat, w = [(h0, .inr (6, [.int (0 : Int32), .ref q1, .ref q2, .ref q3, .ref q4, .ref q5, .ref q6])), (q1, .inl (cA 0, (60, .inl (fun _ => 0)))), (q2, .inl (cA 0, (60, .inl (fun _ => 0)))), (q3, .inl (cA 0, (240, .inl (fun _ => 0)))), (q4, .inl (cA 0, (60, .inl (fun _ => 0)))), (q5, .inl (cA 0, (60, .inl (fun _ => 0)))), (q6, .inl (cA 0, (4, .inl (upd (upd (upd (upd (fun _ => 0) (0 : Int32).toNatClampNeg (-1 : Int32)) (1 : Int32).toNatClampNeg (-1 : Int32)) (2 : Int32).toNatClampNeg (-1 : Int32)) (3 : Int32).toNatClampNeg (-1 : Int32)))))]
set_option maxRecDepth 100000 in
set_option maxHeartbeats 4000000 in
theorem c_X6_init (l : Launch) (D : va_G) (cA : Nat → ClassId) (h0 : Nat) : CtN l yX6_init cX6_init 2 rm_X6_init [.ref h0] D cA [(h0, .inr (6, [.int 0, .null, .null, .null, .null, .null, .null]))] (BW_X6_init cA h0) := by
  refine CtN.intro (own := RX6) (lv := [(0, .ref h0)]) (by decide +kernel) rfl rfl rfl (Nat.le_of_ble_eq_true rfl) ?_
  intro sz G hG hR
  refine n_ref hG 0 dX6_init_0 rfl ?_
  refine n_obj hG dX6_init_1 (tb1 (mem_i 21 rfl)) ⟨by decide, by decide⟩ (Nat.le_of_ble_eq_true rfl) ?_
  refine n_ref hG 0 dX6_init_4 rfl ?_
  refine n_iconst hG (v := (0 : Int32)) dX6_init_5 (by decide) ?_
  refine n_put hG (ws' := [(h0, .inr (6, [.int (0 : Int32), .null, .null, .null, .null, .null, .null]))]) 0 dX6_init_6 nfl_RX6_9 nfp_RX6_9 rfl ⟨rfl, rfl⟩ (Nat.le_of_ble_eq_true rfl) rfl ?_
  refine n_ref hG 0 dX6_init_9 rfl ?_
  refine n_bipush hG (v := (60 : Int32)) dX6_init_10 (by decide) ?_
  refine n_arr hG (t := 0) (N := 60) (x := .inl (fun _ => 0)) (ty := .int) (k' := 1) (n' := 60) dX6_init_12 (tb1 (mem_i 7 rfl)) rfl rfl (by simp) (fun _ => rfl) (by decide) rfl (Nat.le_of_ble_eq_true rfl) ⟨Nat.le_of_ble_eq_true rfl, Nat.le_of_ble_eq_true rfl⟩ rfl rfl (fun q1 => ?_)
  refine n_eq (ws' := [(h0, .inr (6, [.int (0 : Int32), .null, .null, .null, .null, .null, .null])), (q1, .inl (cA 0, (60, .inl (fun _ => 0))))]) rfl ?_
  refine n_putF hG (ws' := [(h0, .inr (6, [.int (0 : Int32), .ref q1, .null, .null, .null, .null, .null])), (q1, .inl (cA 0, (60, .inl (fun _ => 0))))]) 0 dX6_init_14 nfo_RX6_15 nff_RX6_15 rfl ⟨rfl, rfl⟩ (Nat.le_of_ble_eq_true rfl) rfl ?_
  refine n_ref hG 0 dX6_init_17 rfl ?_
  refine n_bipush hG (v := (60 : Int32)) dX6_init_18 (by decide) ?_
  refine n_arr hG (t := 0) (N := 60) (x := .inl (fun _ => 0)) (ty := .int) (k' := 2) (n' := 120) dX6_init_20 (tb1 (mem_i 7 rfl)) rfl rfl (by simp) (fun _ => rfl) (by decide) rfl (Nat.le_of_ble_eq_true rfl) ⟨Nat.le_of_ble_eq_true rfl, Nat.le_of_ble_eq_true rfl⟩ rfl rfl (fun q2 => ?_)
  refine n_eq (ws' := [(h0, .inr (6, [.int (0 : Int32), .ref q1, .null, .null, .null, .null, .null])), (q1, .inl (cA 0, (60, .inl (fun _ => 0)))), (q2, .inl (cA 0, (60, .inl (fun _ => 0))))]) rfl ?_
  refine n_putF hG (ws' := [(h0, .inr (6, [.int (0 : Int32), .ref q1, .ref q2, .null, .null, .null, .null])), (q1, .inl (cA 0, (60, .inl (fun _ => 0)))), (q2, .inl (cA 0, (60, .inl (fun _ => 0))))]) 0 dX6_init_22 nfo_RX6_19 nff_RX6_19 rfl ⟨rfl, rfl⟩ (Nat.le_of_ble_eq_true rfl) rfl ?_
  refine n_ref hG 0 dX6_init_25 rfl ?_
  refine n_sipush hG (v := (240 : Int32)) dX6_init_26 (by decide) ?_
  refine n_arr hG (t := 0) (N := 240) (x := .inl (fun _ => 0)) (ty := .int) (k' := 3) (n' := 360) dX6_init_29 (tb1 (mem_i 7 rfl)) rfl rfl (by simp) (fun _ => rfl) (by decide) rfl (Nat.le_of_ble_eq_true rfl) ⟨Nat.le_of_ble_eq_true rfl, Nat.le_of_ble_eq_true rfl⟩ rfl rfl (fun q3 => ?_)
  refine n_eq (ws' := [(h0, .inr (6, [.int (0 : Int32), .ref q1, .ref q2, .null, .null, .null, .null])), (q1, .inl (cA 0, (60, .inl (fun _ => 0)))), (q2, .inl (cA 0, (60, .inl (fun _ => 0)))), (q3, .inl (cA 0, (240, .inl (fun _ => 0))))]) rfl ?_
  refine n_putF hG (ws' := [(h0, .inr (6, [.int (0 : Int32), .ref q1, .ref q2, .ref q3, .null, .null, .null])), (q1, .inl (cA 0, (60, .inl (fun _ => 0)))), (q2, .inl (cA 0, (60, .inl (fun _ => 0)))), (q3, .inl (cA 0, (240, .inl (fun _ => 0))))]) 0 dX6_init_31 nfo_RX6_22 nff_RX6_22 rfl ⟨rfl, rfl⟩ (Nat.le_of_ble_eq_true rfl) rfl ?_
  refine n_ref hG 0 dX6_init_34 rfl ?_
  refine n_bipush hG (v := (60 : Int32)) dX6_init_35 (by decide) ?_
  refine n_arr hG (t := 0) (N := 60) (x := .inl (fun _ => 0)) (ty := .int) (k' := 4) (n' := 420) dX6_init_37 (tb1 (mem_i 7 rfl)) rfl rfl (by simp) (fun _ => rfl) (by decide) rfl (Nat.le_of_ble_eq_true rfl) ⟨Nat.le_of_ble_eq_true rfl, Nat.le_of_ble_eq_true rfl⟩ rfl rfl (fun q4 => ?_)
  refine n_eq (ws' := [(h0, .inr (6, [.int (0 : Int32), .ref q1, .ref q2, .ref q3, .null, .null, .null])), (q1, .inl (cA 0, (60, .inl (fun _ => 0)))), (q2, .inl (cA 0, (60, .inl (fun _ => 0)))), (q3, .inl (cA 0, (240, .inl (fun _ => 0)))), (q4, .inl (cA 0, (60, .inl (fun _ => 0))))]) rfl ?_
  refine n_putF hG (ws' := [(h0, .inr (6, [.int (0 : Int32), .ref q1, .ref q2, .ref q3, .ref q4, .null, .null])), (q1, .inl (cA 0, (60, .inl (fun _ => 0)))), (q2, .inl (cA 0, (60, .inl (fun _ => 0)))), (q3, .inl (cA 0, (240, .inl (fun _ => 0)))), (q4, .inl (cA 0, (60, .inl (fun _ => 0))))]) 0 dX6_init_39 nfo_RX6_25 nff_RX6_25 rfl ⟨rfl, rfl⟩ (Nat.le_of_ble_eq_true rfl) rfl ?_
  refine n_ref hG 0 dX6_init_42 rfl ?_
  refine n_bipush hG (v := (60 : Int32)) dX6_init_43 (by decide) ?_
  refine n_arr hG (t := 0) (N := 60) (x := .inl (fun _ => 0)) (ty := .int) (k' := 5) (n' := 480) dX6_init_45 (tb1 (mem_i 7 rfl)) rfl rfl (by simp) (fun _ => rfl) (by decide) rfl (Nat.le_of_ble_eq_true rfl) ⟨Nat.le_of_ble_eq_true rfl, Nat.le_of_ble_eq_true rfl⟩ rfl rfl (fun q5 => ?_)
  refine n_eq (ws' := [(h0, .inr (6, [.int (0 : Int32), .ref q1, .ref q2, .ref q3, .ref q4, .null, .null])), (q1, .inl (cA 0, (60, .inl (fun _ => 0)))), (q2, .inl (cA 0, (60, .inl (fun _ => 0)))), (q3, .inl (cA 0, (240, .inl (fun _ => 0)))), (q4, .inl (cA 0, (60, .inl (fun _ => 0)))), (q5, .inl (cA 0, (60, .inl (fun _ => 0))))]) rfl ?_
  refine n_putF hG (ws' := [(h0, .inr (6, [.int (0 : Int32), .ref q1, .ref q2, .ref q3, .ref q4, .ref q5, .null])), (q1, .inl (cA 0, (60, .inl (fun _ => 0)))), (q2, .inl (cA 0, (60, .inl (fun _ => 0)))), (q3, .inl (cA 0, (240, .inl (fun _ => 0)))), (q4, .inl (cA 0, (60, .inl (fun _ => 0)))), (q5, .inl (cA 0, (60, .inl (fun _ => 0))))]) 0 dX6_init_47 nfo_RX6_28 nff_RX6_28 rfl ⟨rfl, rfl⟩ (Nat.le_of_ble_eq_true rfl) rfl ?_
  refine n_ref hG 0 dX6_init_50 rfl ?_
  refine n_iconst hG (v := (4 : Int32)) dX6_init_51 (by decide) ?_
  refine n_arr hG (t := 0) (N := 4) (x := .inl (fun _ => 0)) (ty := .int) (k' := 6) (n' := 484) dX6_init_52 (tb1 (mem_i 7 rfl)) rfl rfl (by simp) (fun _ => rfl) (by decide) rfl (Nat.le_of_ble_eq_true rfl) ⟨Nat.le_of_ble_eq_true rfl, Nat.le_of_ble_eq_true rfl⟩ rfl rfl (fun q6 => ?_)
  refine n_eq (ws' := [(h0, .inr (6, [.int (0 : Int32), .ref q1, .ref q2, .ref q3, .ref q4, .ref q5, .null])), (q1, .inl (cA 0, (60, .inl (fun _ => 0)))), (q2, .inl (cA 0, (60, .inl (fun _ => 0)))), (q3, .inl (cA 0, (240, .inl (fun _ => 0)))), (q4, .inl (cA 0, (60, .inl (fun _ => 0)))), (q5, .inl (cA 0, (60, .inl (fun _ => 0)))), (q6, .inl (cA 0, (4, .inl (fun _ => 0))))]) rfl ?_
  refine n_putF hG (ws' := [(h0, .inr (6, [.int (0 : Int32), .ref q1, .ref q2, .ref q3, .ref q4, .ref q5, .ref q6])), (q1, .inl (cA 0, (60, .inl (fun _ => 0)))), (q2, .inl (cA 0, (60, .inl (fun _ => 0)))), (q3, .inl (cA 0, (240, .inl (fun _ => 0)))), (q4, .inl (cA 0, (60, .inl (fun _ => 0)))), (q5, .inl (cA 0, (60, .inl (fun _ => 0)))), (q6, .inl (cA 0, (4, .inl (fun _ => 0))))]) 0 dX6_init_54 nfo_RX6_31 nff_RX6_31 rfl ⟨rfl, rfl⟩ (Nat.le_of_ble_eq_true rfl) rfl ?_
  refine n_iconst hG (v := (0 : Int32)) dX6_init_57 (by decide) ?_
  refine n_istore_n hG (lv' := [(1, .int (0 : Int32)), (0, .ref h0)]) dX6_init_58 (by decide) rfl ?_
  refine n_iload_n hG 0 dX6_init_59 rfl ?_
  refine n_ref hG 1 dX6_init_60 rfl ?_
  refine n_get hG (v := .ref q6) 0 dX6_init_61 nfl_RX6_31 rfl rfl ?_
  refine n_alen hG (t := 0) (v := (4 : Int32)) 6 dX6_init_64 rfl rfl rfl ?_
  refine n_geF hG (tgt := 81) dX6_init_65 (by decide) (by decide) ?_
  refine n_ref hG 1 dX6_init_68 rfl ?_
  refine n_get hG (v := .ref q6) 0 dX6_init_69 nfl_RX6_31 rfl rfl ?_
  refine n_iload_n hG 0 dX6_init_72 rfl ?_
  refine n_iconst hG (v := (-1 : Int32)) dX6_init_73 (by decide) ?_
  refine n_iast hG (ws' := [(h0, .inr (6, [.int (0 : Int32), .ref q1, .ref q2, .ref q3, .ref q4, .ref q5, .ref q6])), (q1, .inl (cA 0, (60, .inl (fun _ => 0)))), (q2, .inl (cA 0, (60, .inl (fun _ => 0)))), (q3, .inl (cA 0, (240, .inl (fun _ => 0)))), (q4, .inl (cA 0, (60, .inl (fun _ => 0)))), (q5, .inl (cA 0, (60, .inl (fun _ => 0)))), (q6, .inl (cA 0, (4, .inl (upd (fun _ => 0) (0 : Int32).toNatClampNeg (-1 : Int32)))))]) 6 dX6_init_74 rfl (by decide) rfl ?_
  refine n_iinc hG (v := (1 : Int32)) (lv' := [(1, .int (1 : Int32)), (0, .ref h0)]) 0 dX6_init_75 rfl (by decide) (by decide) rfl ?_
  refine n_goto hG (tgt := 59) dX6_init_78 (by decide) ?_
  refine n_iload_n hG 0 dX6_init_59 rfl ?_
  refine n_ref hG 1 dX6_init_60 rfl ?_
  refine n_get hG (v := .ref q6) 0 dX6_init_61 nfl_RX6_31 rfl rfl ?_
  refine n_alen hG (t := 0) (v := (4 : Int32)) 6 dX6_init_64 rfl rfl rfl ?_
  refine n_geF hG (tgt := 81) dX6_init_65 (by decide) (by decide) ?_
  refine n_ref hG 1 dX6_init_68 rfl ?_
  refine n_get hG (v := .ref q6) 0 dX6_init_69 nfl_RX6_31 rfl rfl ?_
  refine n_iload_n hG 0 dX6_init_72 rfl ?_
  refine n_iconst hG (v := (-1 : Int32)) dX6_init_73 (by decide) ?_
  refine n_iast hG (ws' := [(h0, .inr (6, [.int (0 : Int32), .ref q1, .ref q2, .ref q3, .ref q4, .ref q5, .ref q6])), (q1, .inl (cA 0, (60, .inl (fun _ => 0)))), (q2, .inl (cA 0, (60, .inl (fun _ => 0)))), (q3, .inl (cA 0, (240, .inl (fun _ => 0)))), (q4, .inl (cA 0, (60, .inl (fun _ => 0)))), (q5, .inl (cA 0, (60, .inl (fun _ => 0)))), (q6, .inl (cA 0, (4, .inl (upd (upd (fun _ => 0) (0 : Int32).toNatClampNeg (-1 : Int32)) (1 : Int32).toNatClampNeg (-1 : Int32)))))]) 6 dX6_init_74 rfl (by decide) rfl ?_
  refine n_iinc hG (v := (2 : Int32)) (lv' := [(1, .int (2 : Int32)), (0, .ref h0)]) 0 dX6_init_75 rfl (by decide) (by decide) rfl ?_
  refine n_goto hG (tgt := 59) dX6_init_78 (by decide) ?_
  refine n_iload_n hG 0 dX6_init_59 rfl ?_
  refine n_ref hG 1 dX6_init_60 rfl ?_
  refine n_get hG (v := .ref q6) 0 dX6_init_61 nfl_RX6_31 rfl rfl ?_
  refine n_alen hG (t := 0) (v := (4 : Int32)) 6 dX6_init_64 rfl rfl rfl ?_
  refine n_geF hG (tgt := 81) dX6_init_65 (by decide) (by decide) ?_
  refine n_ref hG 1 dX6_init_68 rfl ?_
  refine n_get hG (v := .ref q6) 0 dX6_init_69 nfl_RX6_31 rfl rfl ?_
  refine n_iload_n hG 0 dX6_init_72 rfl ?_
  refine n_iconst hG (v := (-1 : Int32)) dX6_init_73 (by decide) ?_
  refine n_iast hG (ws' := [(h0, .inr (6, [.int (0 : Int32), .ref q1, .ref q2, .ref q3, .ref q4, .ref q5, .ref q6])), (q1, .inl (cA 0, (60, .inl (fun _ => 0)))), (q2, .inl (cA 0, (60, .inl (fun _ => 0)))), (q3, .inl (cA 0, (240, .inl (fun _ => 0)))), (q4, .inl (cA 0, (60, .inl (fun _ => 0)))), (q5, .inl (cA 0, (60, .inl (fun _ => 0)))), (q6, .inl (cA 0, (4, .inl (upd (upd (upd (fun _ => 0) (0 : Int32).toNatClampNeg (-1 : Int32)) (1 : Int32).toNatClampNeg (-1 : Int32)) (2 : Int32).toNatClampNeg (-1 : Int32)))))]) 6 dX6_init_74 rfl (by decide) rfl ?_
  refine n_iinc hG (v := (3 : Int32)) (lv' := [(1, .int (3 : Int32)), (0, .ref h0)]) 0 dX6_init_75 rfl (by decide) (by decide) rfl ?_
  refine n_goto hG (tgt := 59) dX6_init_78 (by decide) ?_
  refine n_iload_n hG 0 dX6_init_59 rfl ?_
  refine n_ref hG 1 dX6_init_60 rfl ?_
  refine n_get hG (v := .ref q6) 0 dX6_init_61 nfl_RX6_31 rfl rfl ?_
  refine n_alen hG (t := 0) (v := (4 : Int32)) 6 dX6_init_64 rfl rfl rfl ?_
  refine n_geF hG (tgt := 81) dX6_init_65 (by decide) (by decide) ?_
  refine n_ref hG 1 dX6_init_68 rfl ?_
  refine n_get hG (v := .ref q6) 0 dX6_init_69 nfl_RX6_31 rfl rfl ?_
  refine n_iload_n hG 0 dX6_init_72 rfl ?_
  refine n_iconst hG (v := (-1 : Int32)) dX6_init_73 (by decide) ?_
  refine n_iast hG (ws' := [(h0, .inr (6, [.int (0 : Int32), .ref q1, .ref q2, .ref q3, .ref q4, .ref q5, .ref q6])), (q1, .inl (cA 0, (60, .inl (fun _ => 0)))), (q2, .inl (cA 0, (60, .inl (fun _ => 0)))), (q3, .inl (cA 0, (240, .inl (fun _ => 0)))), (q4, .inl (cA 0, (60, .inl (fun _ => 0)))), (q5, .inl (cA 0, (60, .inl (fun _ => 0)))), (q6, .inl (cA 0, (4, .inl (upd (upd (upd (upd (fun _ => 0) (0 : Int32).toNatClampNeg (-1 : Int32)) (1 : Int32).toNatClampNeg (-1 : Int32)) (2 : Int32).toNatClampNeg (-1 : Int32)) (3 : Int32).toNatClampNeg (-1 : Int32)))))]) 6 dX6_init_74 rfl (by decide) rfl ?_
  refine n_iinc hG (v := (4 : Int32)) (lv' := [(1, .int (4 : Int32)), (0, .ref h0)]) 0 dX6_init_75 rfl (by decide) (by decide) rfl ?_
  refine n_goto hG (tgt := 59) dX6_init_78 (by decide) ?_
  refine n_iload_n hG 0 dX6_init_59 rfl ?_
  refine n_ref hG 1 dX6_init_60 rfl ?_
  refine n_get hG (v := .ref q6) 0 dX6_init_61 nfl_RX6_31 rfl rfl ?_
  refine n_alen hG (t := 0) (v := (4 : Int32)) 6 dX6_init_64 rfl rfl rfl ?_
  refine n_geT hG (tgt := 81) dX6_init_65 (by decide) (by decide) ?_
  exact hR _ _ _ ⟨q1, q2, q3, q4, q5, q6, rfl⟩ dX6_init_81
def rm_X0_init : Room := { frames := 1, cells := 2, slots := 64, locals := 20 }
def BW_X0_init (cA : Nat → ClassId) (h0 : Nat) (r1 : Nat) (r2 : Nat) (z3 : Int32) (w : va_W) : Prop := ∃ q1 q2 : Nat, w = [(h0, .inr (0, [.ref r1, .ref r2, .int z3, .ref q1, .ref q2, .int (0 : Int32), .int (0 : Int32)])), (q1, .inl (cA 0, (40, .inl (fun _ => 0)))), (q2, .inl (cA 0, (24, .inl (fun _ => 0))))]
set_option maxRecDepth 100000 in
set_option maxHeartbeats 4000000 in
theorem c_X0_init (l : Launch) (D : va_G) (cA : Nat → ClassId) (h0 : Nat) (r1 : Nat) (r2 : Nat) (z3 : Int32) (hz : nz z3 = true) : CtN l yX0_init cX0_init 4 rm_X0_init [.ref h0, .ref r1, .ref r2, .int z3] D cA [(h0, .inr (0, [.null, .null, .int 0, .null, .null, .int 0, .int 0]))] (BW_X0_init cA h0 r1 r2 z3) := by
  refine CtN.intro (own := RX0) (lv := [(0, .ref h0), (1, .ref r1), (2, .ref r2), (3, .int z3)]) (by decide +kernel) rfl rfl rfl (Nat.le_of_ble_eq_true rfl) ?_
  intro sz G hG hR
  refine n_ref hG 0 dX0_init_0 rfl ?_
  refine n_obj hG dX0_init_1 (tb2 (mem_i 11 rfl)) ⟨by decide, by decide⟩ (Nat.le_of_ble_eq_true rfl) ?_
  refine n_ref hG 0 dX0_init_4 rfl ?_
  refine n_bipush hG (v := (40 : Int32)) dX0_init_5 (by decide) ?_
  refine n_arr hG (t := 0) (N := 40) (x := .inl (fun _ => 0)) (ty := .int) (k' := 1) (n' := 40) dX0_init_7 (tb1 (mem_i 7 rfl)) rfl rfl (by simp) (fun _ => rfl) (by decide) rfl (Nat.le_of_ble_eq_true rfl) ⟨Nat.le_of_ble_eq_true rfl, Nat.le_of_ble_eq_true rfl⟩ rfl rfl (fun q1 => ?_)
  refine n_eq (ws' := [(h0, .inr (0, [.null, .null, .int 0, .null, .null, .int 0, .int 0])), (q1, .inl (cA 0, (40, .inl (fun _ => 0))))]) rfl ?_
  refine n_putF hG (ws' := [(h0, .inr (0, [.null, .null, .int 0, .ref q1, .null, .int 0, .int 0])), (q1, .inl (cA 0, (40, .inl (fun _ => 0))))]) 0 dX0_init_9 nfo_RX0_9 nff_RX0_9 rfl ⟨rfl, rfl⟩ (Nat.le_of_ble_eq_true rfl) rfl ?_
  refine n_ref hG 0 dX0_init_12 rfl ?_
  refine n_bipush hG (v := (24 : Int32)) dX0_init_13 (by decide) ?_
  refine n_arr hG (t := 0) (N := 24) (x := .inl (fun _ => 0)) (ty := .int) (k' := 2) (n' := 64) dX0_init_15 (tb1 (mem_i 7 rfl)) rfl rfl (by simp) (fun _ => rfl) (by decide) rfl (Nat.le_of_ble_eq_true rfl) ⟨Nat.le_of_ble_eq_true rfl, Nat.le_of_ble_eq_true rfl⟩ rfl rfl (fun q2 => ?_)
  refine n_eq (ws' := [(h0, .inr (0, [.null, .null, .int 0, .ref q1, .null, .int 0, .int 0])), (q1, .inl (cA 0, (40, .inl (fun _ => 0)))), (q2, .inl (cA 0, (24, .inl (fun _ => 0))))]) rfl ?_
  refine n_putF hG (ws' := [(h0, .inr (0, [.null, .null, .int 0, .ref q1, .ref q2, .int 0, .int 0])), (q1, .inl (cA 0, (40, .inl (fun _ => 0)))), (q2, .inl (cA 0, (24, .inl (fun _ => 0))))]) 0 dX0_init_17 nfo_RX0_15 nff_RX0_15 rfl ⟨rfl, rfl⟩ (Nat.le_of_ble_eq_true rfl) rfl ?_
  refine n_ref hG 0 dX0_init_20 rfl ?_
  refine n_iconst hG (v := (0 : Int32)) dX0_init_21 (by decide) ?_
  refine n_put hG (ws' := [(h0, .inr (0, [.null, .null, .int 0, .ref q1, .ref q2, .int (0 : Int32), .int 0])), (q1, .inl (cA 0, (40, .inl (fun _ => 0)))), (q2, .inl (cA 0, (24, .inl (fun _ => 0))))]) 0 dX0_init_22 nfl_RX0_18 nfp_RX0_18 rfl ⟨rfl, rfl⟩ (Nat.le_of_ble_eq_true rfl) rfl ?_
  refine n_ref hG 0 dX0_init_25 rfl ?_
  refine n_iconst hG (v := (0 : Int32)) dX0_init_26 (by decide) ?_
  refine n_put hG (ws' := [(h0, .inr (0, [.null, .null, .int 0, .ref q1, .ref q2, .int (0 : Int32), .int (0 : Int32)])), (q1, .inl (cA 0, (40, .inl (fun _ => 0)))), (q2, .inl (cA 0, (24, .inl (fun _ => 0))))]) 0 dX0_init_27 nfl_RX0_22 nfp_RX0_22 rfl ⟨rfl, rfl⟩ (Nat.le_of_ble_eq_true rfl) rfl ?_
  refine n_ref hG 0 dX0_init_30 rfl ?_
  refine n_ref hG 1 dX0_init_31 rfl ?_
  refine n_putF hG (ws' := [(h0, .inr (0, [.ref r1, .null, .int 0, .ref q1, .ref q2, .int (0 : Int32), .int (0 : Int32)])), (q1, .inl (cA 0, (40, .inl (fun _ => 0)))), (q2, .inl (cA 0, (24, .inl (fun _ => 0))))]) 0 dX0_init_32 nfo_RX0_25 nff_RX0_25 rfl ⟨rfl, rfl⟩ (Nat.le_of_ble_eq_true rfl) rfl ?_
  refine n_ref hG 0 dX0_init_35 rfl ?_
  refine n_ref hG 2 dX0_init_36 rfl ?_
  refine n_putF hG (ws' := [(h0, .inr (0, [.ref r1, .ref r2, .int 0, .ref q1, .ref q2, .int (0 : Int32), .int (0 : Int32)])), (q1, .inl (cA 0, (40, .inl (fun _ => 0)))), (q2, .inl (cA 0, (24, .inl (fun _ => 0))))]) 0 dX0_init_37 nfo_RX0_29 nff_RX0_29 rfl ⟨rfl, rfl⟩ (Nat.le_of_ble_eq_true rfl) rfl ?_
  refine n_ref hG 0 dX0_init_40 rfl ?_
  refine n_iload_n hG 3 dX0_init_41 rfl ?_
  refine n_putF hG (ws' := [(h0, .inr (0, [.ref r1, .ref r2, .int z3, .ref q1, .ref q2, .int (0 : Int32), .int (0 : Int32)])), (q1, .inl (cA 0, (40, .inl (fun _ => 0)))), (q2, .inl (cA 0, (24, .inl (fun _ => 0))))]) 0 dX0_init_42 nfo_RX0_33 nff_RX0_33 rfl (nz_ok hz) (Nat.le_of_ble_eq_true rfl) rfl ?_
  exact hR _ _ _ ⟨q1, q2, rfl⟩ dX0_init_45
def rm_X3_init : Room := { frames := 2, cells := 6, slots := 142, locals := 43 }
def BW_X3_init (cA : Nat → ClassId) (h0 : Nat) (r1 : Nat) (r2 : Nat) (r3 : Nat) (z4 : Int32) (w : va_W) : Prop := ∃ q1 q2 q3 q4 q5 q6 : Nat, w = [(h0, .inr (3, [.ref r3, .ref q1, .ref q4, .long 0])), (q1, .inr (0, [.ref r1, .ref r2, .int z4, .ref q2, .ref q3, .int (0 : Int32), .int (0 : Int32)])), (q2, .inl (cA 0, (40, .inl (fun _ => 0)))), (q3, .inl (cA 0, (24, .inl (fun _ => 0)))), (q4, .inr (0, [.ref r1, .ref r2, .int z4, .ref q5, .ref q6, .int (0 : Int32), .int (0 : Int32)])), (q5, .inl (cA 0, (40, .inl (fun _ => 0)))), (q6, .inl (cA 0, (24, .inl (fun _ => 0))))]
set_option maxRecDepth 100000 in
set_option maxHeartbeats 4000000 in
theorem c_X3_init (l : Launch) (D : va_G) (cA : Nat → ClassId) (h0 : Nat) (r1 : Nat) (r2 : Nat) (r3 : Nat) (z4 : Int32) (hz : nz z4 = true) : CtN l yX3_init cX3_init 5 rm_X3_init [.ref h0, .ref r1, .ref r2, .ref r3, .int z4] D cA [(h0, .inr (3, [.null, .null, .null, .long 0]))] (BW_X3_init cA h0 r1 r2 r3 z4) := by
  refine CtN.intro (own := RX3) (lv := [(0, .ref h0), (1, .ref r1), (2, .ref r2), (3, .ref r3), (4, .int z4)]) (by decide +kernel) rfl rfl rfl (Nat.le_of_ble_eq_true rfl) ?_
  intro sz G hG hR
  refine n_ref hG 0 dX3_init_0 rfl ?_
  refine n_obj hG dX3_init_1 (tb2 (mem_i 8 rfl)) ⟨by decide, by decide⟩ (Nat.le_of_ble_eq_true rfl) ?_
  refine n_ref hG 0 dX3_init_4 rfl ?_
  refine n_lconst hG (v := 0) dX3_init_5 (by decide) ?_
  refine n_put hG (ws' := [(h0, .inr (3, [.null, .null, .null, .long 0]))]) 0 dX3_init_6 nfl_RX3_9 nfp_RX3_9 rfl ⟨rfl, rfl⟩ (Nat.le_of_ble_eq_true rfl) rfl ?_
  refine n_ref hG 0 dX3_init_9 rfl ?_
  refine n_ref hG 3 dX3_init_10 rfl ?_
  refine n_putF hG (ws' := [(h0, .inr (3, [.ref r3, .null, .null, .long 0]))]) 0 dX3_init_11 nfo_RX3_15 nff_RX3_15 rfl ⟨rfl, rfl⟩ (Nat.le_of_ble_eq_true rfl) rfl ?_
  refine n_ref hG 0 dX3_init_14 rfl ?_
  refine n_new hG (k' := 1) (n' := 7) dX3_init_15 nw_RX3_19 ⟨by decide, by decide⟩ rfl rfl (fun q1 => ?_)
  refine n_eq (ws' := [(h0, .inr (3, [.ref r3, .null, .null, .long 0])), (q1, .inr (0, [.null, .null, .int 0, .null, .null, .int 0, .int 0]))]) rfl ?_
  refine n_dup hG dX3_init_18 rfl ?_
  refine n_ref hG 1 dX3_init_19 rfl ?_
  refine n_ref hG 2 dX3_init_20 rfl ?_
  refine n_iload hG 4 dX3_init_21 rfl ?_
  refine n_init hG (as := [.ref r1, .ref r2, .int z4]) (st := [.ref q1, .ref h0]) (wr := [(h0, .inr (3, [.ref r3, .null, .null, .long 0]))]) (e0 := .inr (0, [.null, .null, .int 0, .null, .null, .int 0, .int 0])) (rm := rm_X0_init) (k' := 3) (n' := 71) dX3_init_23 ni_RX3_21 (tb2 (mem_i 10 rfl)) rfl ⟨by decide, by decide⟩ (Nat.le_of_ble_eq_true rfl) ⟨by decide, by decide⟩ rfl rfl rfl rfl (c_X0_init l D cA q1 (r1) (r2) (z4) hz) (fun w1 hw1 => ?_)
  obtain ⟨q2, q3, rfl⟩ := hw1
  refine n_eq (ws' := [(h0, .inr (3, [.ref r3, .null, .null, .long 0])), (q1, .inr (0, [.ref r1, .ref r2, .int z4, .ref q2, .ref q3, .int (0 : Int32), .int (0 : Int32)])), (q2, .inl (cA 0, (40, .inl (fun _ => 0)))), (q3, .inl (cA 0, (24, .inl (fun _ => 0))))]) rfl ?_
  refine n_put hG (ws' := [(h0, .inr (3, [.ref r3, .ref q1, .null, .long 0])), (q1, .inr (0, [.ref r1, .ref r2, .int z4, .ref q2, .ref q3, .int (0 : Int32), .int (0 : Int32)])), (q2, .inl (cA 0, (40, .inl (fun _ => 0)))), (q3, .inl (cA 0, (24, .inl (fun _ => 0))))]) 0 dX3_init_26 nfl_RX3_24 nfp_RX3_24 rfl ⟨rfl, rfl⟩ (Nat.le_of_ble_eq_true rfl) rfl ?_
  refine n_ref hG 0 dX3_init_29 rfl ?_
  refine n_new hG (k' := 4) (n' := 78) dX3_init_30 nw_RX3_19 ⟨by decide, by decide⟩ rfl rfl (fun q4 => ?_)
  refine n_eq (ws' := [(h0, .inr (3, [.ref r3, .ref q1, .null, .long 0])), (q1, .inr (0, [.ref r1, .ref r2, .int z4, .ref q2, .ref q3, .int (0 : Int32), .int (0 : Int32)])), (q2, .inl (cA 0, (40, .inl (fun _ => 0)))), (q3, .inl (cA 0, (24, .inl (fun _ => 0)))), (q4, .inr (0, [.null, .null, .int 0, .null, .null, .int 0, .int 0]))]) rfl ?_
  refine n_dup hG dX3_init_33 rfl ?_
  refine n_ref hG 1 dX3_init_34 rfl ?_
  refine n_ref hG 2 dX3_init_35 rfl ?_
  refine n_iload hG 4 dX3_init_36 rfl ?_
  refine n_init hG (as := [.ref r1, .ref r2, .int z4]) (st := [.ref q4, .ref h0]) (wr := [(h0, .inr (3, [.ref r3, .ref q1, .null, .long 0])), (q1, .inr (0, [.ref r1, .ref r2, .int z4, .ref q2, .ref q3, .int (0 : Int32), .int (0 : Int32)])), (q2, .inl (cA 0, (40, .inl (fun _ => 0)))), (q3, .inl (cA 0, (24, .inl (fun _ => 0))))]) (e0 := .inr (0, [.null, .null, .int 0, .null, .null, .int 0, .int 0])) (rm := rm_X0_init) (k' := 6) (n' := 142) dX3_init_38 ni_RX3_21 (tb2 (mem_i 10 rfl)) rfl ⟨by decide, by decide⟩ (Nat.le_of_ble_eq_true rfl) ⟨by decide, by decide⟩ rfl rfl rfl rfl (c_X0_init l D cA q4 (r1) (r2) (z4) hz) (fun w1 hw1 => ?_)
  obtain ⟨q5, q6, rfl⟩ := hw1
  refine n_eq (ws' := [(h0, .inr (3, [.ref r3, .ref q1, .null, .long 0])), (q1, .inr (0, [.ref r1, .ref r2, .int z4, .ref q2, .ref q3, .int (0 : Int32), .int (0 : Int32)])), (q2, .inl (cA 0, (40, .inl (fun _ => 0)))), (q3, .inl (cA 0, (24, .inl (fun _ => 0)))), (q4, .inr (0, [.ref r1, .ref r2, .int z4, .ref q5, .ref q6, .int (0 : Int32), .int (0 : Int32)])), (q5, .inl (cA 0, (40, .inl (fun _ => 0)))), (q6, .inl (cA 0, (24, .inl (fun _ => 0))))]) rfl ?_
  refine n_put hG (ws' := [(h0, .inr (3, [.ref r3, .ref q1, .ref q4, .long 0])), (q1, .inr (0, [.ref r1, .ref r2, .int z4, .ref q2, .ref q3, .int (0 : Int32), .int (0 : Int32)])), (q2, .inl (cA 0, (40, .inl (fun _ => 0)))), (q3, .inl (cA 0, (24, .inl (fun _ => 0)))), (q4, .inr (0, [.ref r1, .ref r2, .int z4, .ref q5, .ref q6, .int (0 : Int32), .int (0 : Int32)])), (q5, .inl (cA 0, (40, .inl (fun _ => 0)))), (q6, .inl (cA 0, (24, .inl (fun _ => 0))))]) 0 dX3_init_41 nfl_RX3_28 nfp_RX3_28 rfl ⟨rfl, rfl⟩ (Nat.le_of_ble_eq_true rfl) rfl ?_
  exact hR _ _ _ ⟨q1, q2, q3, q4, q5, q6, rfl⟩ dX3_init_44
def rm_X2_init : Room := { frames := 1, cells := 3, slots := 3300, locals := 20 }
def BW_X2_init (cA : Nat → ClassId) (h0 : Nat) (w : va_W) : Prop := ∃ q1 q2 q3 : Nat, w = [(h0, .inr (2, [.int (0 : Int32), .int (0 : Int32), .ref q1, .ref q2, .ref q3])), (q1, .inl (cA 1, (10, .inr (.inl (fun _ => 0))))), (q2, .inl (cA 0, (10, .inl (fun _ => 0)))), (q3, .inl (cA 2, (3280, .inl (fun _ => 0))))]
set_option maxRecDepth 100000 in
set_option maxHeartbeats 4000000 in
theorem c_X2_init (l : Launch) (D : va_G) (cA : Nat → ClassId) (h0 : Nat) : CtN l yX2_init cX2_init 1 rm_X2_init [.ref h0] D cA [(h0, .inr (2, [.int 0, .int 0, .null, .null, .null]))] (BW_X2_init cA h0) := by
  refine CtN.intro (own := RX2) (lv := [(0, .ref h0)]) (by decide +kernel) rfl rfl rfl (Nat.le_of_ble_eq_true rfl) ?_
  intro sz G hG hR
  refine n_ref hG 0 dX2_init_0 rfl ?_
  refine n_obj hG dX2_init_1 (tb3 (mem_i 6 rfl)) ⟨by decide, by decide⟩ (Nat.le_of_ble_eq_true rfl) ?_
  refine n_ref hG 0 dX2_init_4 rfl ?_
  refine n_iconst hG (v := (0 : Int32)) dX2_init_5 (by decide) ?_
  refine n_put hG (ws' := [(h0, .inr (2, [.int (0 : Int32), .int 0, .null, .null, .null]))]) 0 dX2_init_6 nfl_RX2_9 nfp_RX2_9 rfl ⟨rfl, rfl⟩ (Nat.le_of_ble_eq_true rfl) rfl ?_
  refine n_ref hG 0 dX2_init_9 rfl ?_
  refine n_iconst hG (v := (0 : Int32)) dX2_init_10 (by decide) ?_
  refine n_put hG (ws' := [(h0, .inr (2, [.int (0 : Int32), .int (0 : Int32), .null, .null, .null]))]) 0 dX2_init_11 nfl_RX2_15 nfp_RX2_15 rfl ⟨rfl, rfl⟩ (Nat.le_of_ble_eq_true rfl) rfl ?_
  refine n_ref hG 0 dX2_init_14 rfl ?_
  refine n_bipush hG (v := (10 : Int32)) dX2_init_15 (by decide) ?_
  refine n_arr hG (t := 1) (N := 10) (x := .inr (.inl (fun _ => 0))) (ty := .long) (k' := 1) (n' := 10) dX2_init_17 (tb3 (mem_i 17 rfl)) rfl rfl (by simp) (fun _ => rfl) (by decide) rfl (Nat.le_of_ble_eq_true rfl) ⟨Nat.le_of_ble_eq_true rfl, Nat.le_of_ble_eq_true rfl⟩ rfl rfl (fun q1 => ?_)
  refine n_eq (ws' := [(h0, .inr (2, [.int (0 : Int32), .int (0 : Int32), .null, .null, .null])), (q1, .inl (cA 1, (10, .inr (.inl (fun _ => 0)))))]) rfl ?_
  refine n_putF hG (ws' := [(h0, .inr (2, [.int (0 : Int32), .int (0 : Int32), .ref q1, .null, .null])), (q1, .inl (cA 1, (10, .inr (.inl (fun _ => 0)))))]) 0 dX2_init_19 nfo_RX2_18 nff_RX2_18 rfl ⟨rfl, rfl⟩ (Nat.le_of_ble_eq_true rfl) rfl ?_
  refine n_ref hG 0 dX2_init_22 rfl ?_
  refine n_bipush hG (v := (10 : Int32)) dX2_init_23 (by decide) ?_
  refine n_arr hG (t := 0) (N := 10) (x := .inl (fun _ => 0)) (ty := .int) (k' := 2) (n' := 20) dX2_init_25 (tb1 (mem_i 7 rfl)) rfl rfl (by simp) (fun _ => rfl) (by decide) rfl (Nat.le_of_ble_eq_true rfl) ⟨Nat.le_of_ble_eq_true rfl, Nat.le_of_ble_eq_true rfl⟩ rfl rfl (fun q2 => ?_)
  refine n_eq (ws' := [(h0, .inr (2, [.int (0 : Int32), .int (0 : Int32), .ref q1, .null, .null])), (q1, .inl (cA 1, (10, .inr (.inl (fun _ => 0))))), (q2, .inl (cA 0, (10, .inl (fun _ => 0))))]) rfl ?_
  refine n_putF hG (ws' := [(h0, .inr (2, [.int (0 : Int32), .int (0 : Int32), .ref q1, .ref q2, .null])), (q1, .inl (cA 1, (10, .inr (.inl (fun _ => 0))))), (q2, .inl (cA 0, (10, .inl (fun _ => 0))))]) 0 dX2_init_27 nfo_RX2_22 nff_RX2_22 rfl ⟨rfl, rfl⟩ (Nat.le_of_ble_eq_true rfl) rfl ?_
  refine n_ref hG 0 dX2_init_30 rfl ?_
  refine n_sipush hG (v := (3280 : Int32)) dX2_init_31 (by decide) ?_
  refine n_arr hG (t := 2) (N := 3280) (x := .inl (fun _ => 0)) (ty := .char) (k' := 3) (n' := 3300) dX2_init_34 (tb3 (mem_i 18 rfl)) rfl rfl (by simp) (fun _ => rfl) (by decide) rfl (Nat.le_of_ble_eq_true rfl) ⟨Nat.le_of_ble_eq_true rfl, Nat.le_of_ble_eq_true rfl⟩ rfl rfl (fun q3 => ?_)
  refine n_eq (ws' := [(h0, .inr (2, [.int (0 : Int32), .int (0 : Int32), .ref q1, .ref q2, .null])), (q1, .inl (cA 1, (10, .inr (.inl (fun _ => 0))))), (q2, .inl (cA 0, (10, .inl (fun _ => 0)))), (q3, .inl (cA 2, (3280, .inl (fun _ => 0))))]) rfl ?_
  refine n_putF hG (ws' := [(h0, .inr (2, [.int (0 : Int32), .int (0 : Int32), .ref q1, .ref q2, .ref q3])), (q1, .inl (cA 1, (10, .inr (.inl (fun _ => 0))))), (q2, .inl (cA 0, (10, .inl (fun _ => 0)))), (q3, .inl (cA 2, (3280, .inl (fun _ => 0))))]) 0 dX2_init_36 nfo_RX2_26 nff_RX2_26 rfl ⟨rfl, rfl⟩ (Nat.le_of_ble_eq_true rfl) rfl ?_
  exact hR _ _ _ ⟨q1, q2, q3, rfl⟩ dX2_init_39
def rm_X1_init : Room := { frames := 1, cells := 1, slots := 328, locals := 20 }
def BW_X1_init (cA : Nat → ClassId) (h0 : Nat) (w : va_W) : Prop := ∃ q1 : Nat, w = [(h0, .inr (1, [.ref q1, .int (0 : Int32)])), (q1, .inl (cA 2, (328, .inl (fun _ => 0))))]
set_option maxRecDepth 100000 in
set_option maxHeartbeats 4000000 in
theorem c_X1_init (l : Launch) (D : va_G) (cA : Nat → ClassId) (h0 : Nat) : CtN l yX1_init cX1_init 1 rm_X1_init [.ref h0] D cA [(h0, .inr (1, [.null, .int 0]))] (BW_X1_init cA h0) := by
  refine CtN.intro (own := RX1) (lv := [(0, .ref h0)]) (by decide +kernel) rfl rfl rfl (Nat.le_of_ble_eq_true rfl) ?_
  intro sz G hG hR
  refine n_ref hG 0 dX1_init_0 rfl ?_
  refine n_obj hG dX1_init_1 (tb3 (mem_i 21 rfl)) ⟨by decide, by decide⟩ (Nat.le_of_ble_eq_true rfl) ?_
  refine n_ref hG 0 dX1_init_4 rfl ?_
  refine n_sipush hG (v := (328 : Int32)) dX1_init_5 (by decide) ?_
  refine n_arr hG (t := 2) (N := 328) (x := .inl (fun _ => 0)) (ty := .char) (k' := 1) (n' := 328) dX1_init_8 (tb3 (mem_i 18 rfl)) rfl rfl (by simp) (fun _ => rfl) (by decide) rfl (Nat.le_of_ble_eq_true rfl) ⟨Nat.le_of_ble_eq_true rfl, Nat.le_of_ble_eq_true rfl⟩ rfl rfl (fun q1 => ?_)
  refine n_eq (ws' := [(h0, .inr (1, [.null, .int 0])), (q1, .inl (cA 2, (328, .inl (fun _ => 0))))]) rfl ?_
  refine n_putF hG (ws' := [(h0, .inr (1, [.ref q1, .int 0])), (q1, .inl (cA 2, (328, .inl (fun _ => 0))))]) 0 dX1_init_10 nfo_RX1_9 nff_RX1_9 rfl ⟨rfl, rfl⟩ (Nat.le_of_ble_eq_true rfl) rfl ?_
  refine n_ref hG 0 dX1_init_13 rfl ?_
  refine n_iconst hG (v := (0 : Int32)) dX1_init_14 (by decide) ?_
  refine n_put hG (ws' := [(h0, .inr (1, [.ref q1, .int (0 : Int32)])), (q1, .inl (cA 2, (328, .inl (fun _ => 0))))]) 0 dX1_init_15 nfl_RX1_15 nfp_RX1_15 rfl ⟨rfl, rfl⟩ (Nat.le_of_ble_eq_true rfl) rfl ?_
  exact hR _ _ _ ⟨q1, rfl⟩ dX1_init_18
def rm_X7_init : Room := { frames := 3, cells := 35, slots := 4527, locals := 67 }
def BW_X7_init (cA : Nat → ClassId) (h0 : Nat) (w : va_W) : Prop := ∃ q1 q2 q3 q4 q5 q6 q7 q8 q9 q10 q11 q12 q13 q14 q15 q16 q17 q18 q19 q20 q21 q22 q23 q24 q25 q26 q27 q28 q29 q30 q31 q32 q33 q34 q35 : Nat, w = [(h0, .inr (7, [.ref q1, .int (0 : Int32), .ref q2, .ref q5, .ref q9, .ref q16, .ref q23, .ref q30, .ref q34])), (q1, .inl (cA 0, (5, .inl (fun _ => 0)))), (q2, .inr (5, [.int (0 : Int32), .int (0 : Int32), .ref q3, .ref q4])), (q3, .inl (cA 0, (10, .inl (fun _ => 0)))), (q4, .inl (cA 0, (50, .inl (fun _ => 0)))), (q5, .inr (4, [.int (0 : Int32), .ref q6, .ref q7, .ref q8])), (q6, .inl (cA 0, (12, .inl (fun _ => 0)))), (q7, .inl (cA 0, (12, .inl (fun _ => 0)))), (q8, .inl (cA 0, (12, .inl (fun _ => 0)))), (q9, .inr (6, [.int (0 : Int32), .ref q10, .ref q11, .ref q12, .ref q13, .ref q14, .ref q15])), (q10, .inl (cA 0, (60, .inl (fun _ => 0)))), (q11, .inl (cA 0, (60, .inl (fun _ => 0)))), (q12, .inl (cA 0, (240, .inl (fun _ => 0)))), (q13, .inl (cA 0, (60, .inl (fun _ => 0)))), (q14, .inl (cA 0, (60, .inl (fun _ => 0)))), (q15, .inl (cA 0, (4, .inl (upd (upd (upd (upd (fun _ => 0) (0 : Int32).toNatClampNeg (-1 : Int32)) (1 : Int32).toNatClampNeg (-1 : Int32)) (2 : Int32).toNatClampNeg (-1 : Int32)) (3 : Int32).toNatClampNeg (-1 : Int32))))), (q16, .inr (3, [.ref q9, .ref q17, .ref q20, .long 0])), (q17, .inr (0, [.ref q2, .ref q5, .int (0 : Int32), .ref q18, .ref q19, .int (0 : Int32), .int (0 : Int32)])), (q18, .inl (cA 0, (40, .inl (fun _ => 0)))), (q19, .inl (cA 0, (24, .inl (fun _ => 0)))), (q20, .inr (0, [.ref q2, .ref q5, .int (0 : Int32), .ref q21, .ref q22, .int (0 : Int32), .int (0 : Int32)])), (q21, .inl (cA 0, (40, .inl (fun _ => 0)))), (q22, .inl (cA 0, (24, .inl (fun _ => 0)))), (q23, .inr (3, [.ref q9, .ref q24, .ref q27, .long 0])), (q24, .inr (0, [.ref q2, .ref q5, .int (1 : Int32), .ref q25, .ref q26, .int (0 : Int32), .int (0 : Int32)])), (q25, .inl (cA 0, (40, .inl (fun _ => 0)))), (q26, .inl (cA 0, (24, .inl (fun _ => 0)))), (q27, .inr (0, [.ref q2, .ref q5, .int (1 : Int32), .ref q28, .ref q29, .int (0 : Int32), .int (0 : Int32)])), (q28, .inl (cA 0, (40, .inl (fun _ => 0)))), (q29, .inl (cA 0, (24, .inl (fun _ => 0)))), (q30, .inr (2, [.int (0 : Int32), .int (0 : Int32), .ref q31, .ref q32, .ref q33])), (q31, .inl (cA 1, (10, .inr (.inl (fun _ => 0))))), (q32, .inl (cA 0, (10, .inl (fun _ => 0)))), (q33, .inl (cA 2, (3280, .inl (fun _ => 0)))), (q34, .inr (1, [.ref q35, .int (0 : Int32)])), (q35, .inl (cA 2, (328, .inl (fun _ => 0))))]
set_option maxRecDepth 100000 in
set_option maxHeartbeats 4000000 in
theorem c_X7_init (l : Launch) (D : va_G) (cA : Nat → ClassId) (h0 : Nat) : CtN l yX7_init cX7_init 1 rm_X7_init [.ref h0] D cA [(h0, .inr (7, [.null, .int 0, .null, .null, .null, .null, .null, .null, .null]))] (BW_X7_init cA h0) := by
  refine CtN.intro (own := RX7) (lv := [(0, .ref h0)]) (by decide +kernel) rfl rfl rfl (Nat.le_of_ble_eq_true rfl) ?_
  intro sz G hG hR
  refine n_ref hG 0 dX7_init_0 rfl ?_
  refine n_obj hG dX7_init_1 (tb0 (mem_i 24 rfl)) ⟨by decide, by decide⟩ (Nat.le_of_ble_eq_true rfl) ?_
  refine n_ref hG 0 dX7_init_4 rfl ?_
  refine n_iconst hG (v := (5 : Int32)) dX7_init_5 (by decide) ?_
  refine n_arr hG (t := 0) (N := 5) (x := .inl (fun _ => 0)) (ty := .int) (k' := 1) (n' := 5) dX7_init_6 (tb1 (mem_i 7 rfl)) rfl rfl (by simp) (fun _ => rfl) (by decide) rfl (Nat.le_of_ble_eq_true rfl) ⟨Nat.le_of_ble_eq_true rfl, Nat.le_of_ble_eq_true rfl⟩ rfl rfl (fun q1 => ?_)
  refine n_eq (ws' := [(h0, .inr (7, [.null, .int 0, .null, .null, .null, .null, .null, .null, .null])), (q1, .inl (cA 0, (5, .inl (fun _ => 0))))]) rfl ?_
  refine n_putF hG (ws' := [(h0, .inr (7, [.ref q1, .int 0, .null, .null, .null, .null, .null, .null, .null])), (q1, .inl (cA 0, (5, .inl (fun _ => 0))))]) 0 dX7_init_8 nfo_RX7_9 nff_RX7_9 rfl ⟨rfl, rfl⟩ (Nat.le_of_ble_eq_true rfl) rfl ?_
  refine n_ref hG 0 dX7_init_11 rfl ?_
  refine n_iconst hG (v := (0 : Int32)) dX7_init_12 (by decide) ?_
  refine n_put hG (ws' := [(h0, .inr (7, [.ref q1, .int (0 : Int32), .null, .null, .null, .null, .null, .null, .null])), (q1, .inl (cA 0, (5, .inl (fun _ => 0))))]) 0 dX7_init_13 nfl_RX7_13 nfp_RX7_13 rfl ⟨rfl, rfl⟩ (Nat.le_of_ble_eq_true rfl) rfl ?_
  refine n_ref hG 0 dX7_init_16 rfl ?_
  refine n_new hG (k' := 2) (n' := 9) dX7_init_17 nw_RX7_17 ⟨by decide, by decide⟩ rfl rfl (fun q2 => ?_)
  refine n_eq (ws' := [(h0, .inr (7, [.ref q1, .int (0 : Int32), .null, .null, .null, .null, .null, .null, .null])), (q1, .inl (cA 0, (5, .inl (fun _ => 0)))), (q2, .inr (5, [.int 0, .int 0, .null, .null]))]) rfl ?_
  refine n_dup hG dX7_init_20 rfl ?_
  refine n_init hG (as := []) (st := [.ref q2, .ref h0]) (wr := [(h0, .inr (7, [.ref q1, .int (0 : Int32), .null, .null, .null, .null, .null, .null, .null])), (q1, .inl (cA 0, (5, .inl (fun _ => 0))))]) (e0 := .inr (5, [.int 0, .int 0, .null, .null])) (rm := rm_X5_init) (k' := 4) (n' := 69) dX7_init_21 ni_RX7_19 (tb0 (mem_i 27 rfl)) rfl ⟨by decide, by decide⟩ (Nat.le_of_ble_eq_true rfl) ⟨by decide, by decide⟩ rfl rfl rfl rfl (c_X5_init l D cA q2) (fun w1 hw1 => ?_)
  obtain ⟨q3, q4, rfl⟩ := hw1
  refine n_eq (ws' := [(h0, .inr (7, [.ref q1, .int (0 : Int32), .null, .null, .null, .null, .null, .null, .null])), (q1, .inl (cA 0, (5, .inl (fun _ => 0)))), (q2, .inr (5, [.int (0 : Int32), .int (0 : Int32), .ref q3, .ref q4])), (q3, .inl (cA 0, (10, .inl (fun _ => 0)))), (q4, .inl (cA 0, (50, .inl (fun _ => 0))))]) rfl ?_
  refine n_putF hG (ws' := [(h0, .inr (7, [.ref q1, .int (0 : Int32), .ref q2, .null, .null, .null, .null, .null, .null])), (q1, .inl (cA 0, (5, .inl (fun _ => 0)))), (q2, .inr (5, [.int (0 : Int32), .int (0 : Int32), .ref q3, .ref q4])), (q3, .inl (cA 0, (10, .inl (fun _ => 0)))), (q4, .inl (cA 0, (50, .inl (fun _ => 0))))]) 0 dX7_init_24 nfo_RX7_20 nff_RX7_20 rfl ⟨rfl, rfl⟩ (Nat.le_of_ble_eq_true rfl) rfl ?_
  refine n_ref hG 0 dX7_init_27 rfl ?_
  refine n_new hG (k' := 5) (n' := 73) dX7_init_28 nw_RX7_24 ⟨by decide, by decide⟩ rfl rfl (fun q5 => ?_)
  refine n_eq (ws' := [(h0, .inr (7, [.ref q1, .int (0 : Int32), .ref q2, .null, .null, .null, .null, .null, .null])), (q1, .inl (cA 0, (5, .inl (fun _ => 0)))), (q2, .inr (5, [.int (0 : Int32), .int (0 : Int32), .ref q3, .ref q4])), (q3, .inl (cA 0, (10, .inl (fun _ => 0)))), (q4, .inl (cA 0, (50, .inl (fun _ => 0)))), (q5, .inr (4, [.int 0, .null, .null, .null]))]) rfl ?_
  refine n_dup hG dX7_init_31 rfl ?_
  refine n_init hG (as := []) (st := [.ref q5, .ref h0]) (wr := [(h0, .inr (7, [.ref q1, .int (0 : Int32), .ref q2, .null, .null, .null, .null, .null, .null])), (q1, .inl (cA 0, (5, .inl (fun _ => 0)))), (q2, .inr (5, [.int (0 : Int32), .int (0 : Int32), .ref q3, .ref q4])), (q3, .inl (cA 0, (10, .inl (fun _ => 0)))), (q4, .inl (cA 0, (50, .inl (fun _ => 0))))]) (e0 := .inr (4, [.int 0, .null, .null, .null])) (rm := rm_X4_init) (k' := 8) (n' := 109) dX7_init_32 ni_RX7_26 (tb1 (mem_i 9 rfl)) rfl ⟨by decide, by decide⟩ (Nat.le_of_ble_eq_true rfl) ⟨by decide, by decide⟩ rfl rfl rfl rfl (c_X4_init l D cA q5) (fun w1 hw1 => ?_)
  obtain ⟨q6, q7, q8, rfl⟩ := hw1
  refine n_eq (ws' := [(h0, .inr (7, [.ref q1, .int (0 : Int32), .ref q2, .null, .null, .null, .null, .null, .null])), (q1, .inl (cA 0, (5, .inl (fun _ => 0)))), (q2, .inr (5, [.int (0 : Int32), .int (0 : Int32), .ref q3, .ref q4])), (q3, .inl (cA 0, (10, .inl (fun _ => 0)))), (q4, .inl (cA 0, (50, .inl (fun _ => 0)))), (q5, .inr (4, [.int (0 : Int32), .ref q6, .ref q7, .ref q8])), (q6, .inl (cA 0, (12, .inl (fun _ => 0)))), (q7, .inl (cA 0, (12, .inl (fun _ => 0)))), (q8, .inl (cA 0, (12, .inl (fun _ => 0))))]) rfl ?_
  refine n_putF hG (ws' := [(h0, .inr (7, [.ref q1, .int (0 : Int32), .ref q2, .ref q5, .null, .null, .null, .null, .null])), (q1, .inl (cA 0, (5, .inl (fun _ => 0)))), (q2, .inr (5, [.int (0 : Int32), .int (0 : Int32), .ref q3, .ref q4])), (q3, .inl (cA 0, (10, .inl (fun _ => 0)))), (q4, .inl (cA 0, (50, .inl (fun _ => 0)))), (q5, .inr (4, [.int (0 : Int32), .ref q6, .ref q7, .ref q8])), (q6, .inl (cA 0, (12, .inl (fun _ => 0)))), (q7, .inl (cA 0, (12, .inl (fun _ => 0)))), (q8, .inl (cA 0, (12, .inl (fun _ => 0))))]) 0 dX7_init_35 nfo_RX7_27 nff_RX7_27 rfl ⟨rfl, rfl⟩ (Nat.le_of_ble_eq_true rfl) rfl ?_
  refine n_ref hG 0 dX7_init_38 rfl ?_
  refine n_new hG (k' := 9) (n' := 116) dX7_init_39 nw_RX7_31 ⟨by decide, by decide⟩ rfl rfl (fun q9 => ?_)
  refine n_eq (ws' := [(h0, .inr (7, [.ref q1, .int (0 : Int32), .ref q2, .ref q5, .null, .null, .null, .null, .null])), (q1, .inl (cA 0, (5, .inl (fun _ => 0)))), (q2, .inr (5, [.int (0 : Int32), .int (0 : Int32), .ref q3, .ref q4])), (q3, .inl (cA 0, (10, .inl (fun _ => 0)))), (q4, .inl (cA 0, (50, .inl (fun _ => 0)))), (q5, .inr (4, [.int (0 : Int32), .ref q6, .ref q7, .ref q8])), (q6, .inl (cA 0, (12, .inl (fun _ => 0)))), (q7, .inl (cA 0, (12, .inl (fun _ => 0)))), (q8, .inl (cA 0, (12, .inl (fun _ => 0)))), (q9, .inr (6, [.int 0, .null, .null, .null, .null, .null, .null]))]) rfl ?_
  refine n_dup hG dX7_init_42 rfl ?_
  refine n_init hG (as := []) (st := [.ref q9, .ref h0]) (wr := [(h0, .inr (7, [.ref q1, .int (0 : Int32), .ref q2, .ref q5, .null, .null, .null, .null, .null])), (q1, .inl (cA 0, (5, .inl (fun _ => 0)))), (q2, .inr (5, [.int (0 : Int32), .int (0 : Int32), .ref q3, .ref q4])), (q3, .inl (cA 0, (10, .inl (fun _ => 0)))), (q4, .inl (cA 0, (50, .inl (fun _ => 0)))), (q5, .inr (4, [.int (0 : Int32), .ref q6, .ref q7, .ref q8])), (q6, .inl (cA 0, (12, .inl (fun _ => 0)))), (q7, .inl (cA 0, (12, .inl (fun _ => 0)))), (q8, .inl (cA 0, (12, .inl (fun _ => 0))))]) (e0 := .inr (6, [.int 0, .null, .null, .null, .null, .null, .null])) (rm := rm_X6_init) (k' := 15) (n' := 600) dX7_init_43 ni_RX7_33 (tb1 (mem_i 20 rfl)) rfl ⟨by decide, by decide⟩ (Nat.le_of_ble_eq_true rfl) ⟨by decide, by decide⟩ rfl rfl rfl rfl (c_X6_init l D cA q9) (fun w1 hw1 => ?_)
  obtain ⟨q10, q11, q12, q13, q14, q15, rfl⟩ := hw1
  refine n_eq (ws' := [(h0, .inr (7, [.ref q1, .int (0 : Int32), .ref q2, .ref q5, .null, .null, .null, .null, .null])), (q1, .inl (cA 0, (5, .inl (fun _ => 0)))), (q2, .inr (5, [.int (0 : Int32), .int (0 : Int32), .ref q3, .ref q4])), (q3, .inl (cA 0, (10, .inl (fun _ => 0)))), (q4, .inl (cA 0, (50, .inl (fun _ => 0)))), (q5, .inr (4, [.int (0 : Int32), .ref q6, .ref q7, .ref q8])), (q6, .inl (cA 0, (12, .inl (fun _ => 0)))), (q7, .inl (cA 0, (12, .inl (fun _ => 0)))), (q8, .inl (cA 0, (12, .inl (fun _ => 0)))), (q9, .inr (6, [.int (0 : Int32), .ref q10, .ref q11, .ref q12, .ref q13, .ref q14, .ref q15])), (q10, .inl (cA 0, (60, .inl (fun _ => 0)))), (q11, .inl (cA 0, (60, .inl (fun _ => 0)))), (q12, .inl (cA 0, (240, .inl (fun _ => 0)))), (q13, .inl (cA 0, (60, .inl (fun _ => 0)))), (q14, .inl (cA 0, (60, .inl (fun _ => 0)))), (q15, .inl (cA 0, (4, .inl (upd (upd (upd (upd (fun _ => 0) (0 : Int32).toNatClampNeg (-1 : Int32)) (1 : Int32).toNatClampNeg (-1 : Int32)) (2 : Int32).toNatClampNeg (-1 : Int32)) (3 : Int32).toNatClampNeg (-1 : Int32)))))]) rfl ?_
  refine n_putF hG (ws' := [(h0, .inr (7, [.ref q1, .int (0 : Int32), .ref q2, .ref q5, .ref q9, .null, .null, .null, .null])), (q1, .inl (cA 0, (5, .inl (fun _ => 0)))), (q2, .inr (5, [.int (0 : Int32), .int (0 : Int32), .ref q3, .ref q4])), (q3, .inl (cA 0, (10, .inl (fun _ => 0)))), (q4, .inl (cA 0, (50, .inl (fun _ => 0)))), (q5, .inr (4, [.int (0 : Int32), .ref q6, .ref q7, .ref q8])), (q6, .inl (cA 0, (12, .inl (fun _ => 0)))), (q7, .inl (cA 0, (12, .inl (fun _ => 0)))), (q8, .inl (cA 0, (12, .inl (fun _ => 0)))), (q9, .inr (6, [.int (0 : Int32), .ref q10, .ref q11, .ref q12, .ref q13, .ref q14, .ref q15])), (q10, .inl (cA 0, (60, .inl (fun _ => 0)))), (q11, .inl (cA 0, (60, .inl (fun _ => 0)))), (q12, .inl (cA 0, (240, .inl (fun _ => 0)))), (q13, .inl (cA 0, (60, .inl (fun _ => 0)))), (q14, .inl (cA 0, (60, .inl (fun _ => 0)))), (q15, .inl (cA 0, (4, .inl (upd (upd (upd (upd (fun _ => 0) (0 : Int32).toNatClampNeg (-1 : Int32)) (1 : Int32).toNatClampNeg (-1 : Int32)) (2 : Int32).toNatClampNeg (-1 : Int32)) (3 : Int32).toNatClampNeg (-1 : Int32)))))]) 0 dX7_init_46 nfo_RX7_34 nff_RX7_34 rfl ⟨rfl, rfl⟩ (Nat.le_of_ble_eq_true rfl) rfl ?_
  refine n_ref hG 0 dX7_init_49 rfl ?_
  refine n_new hG (k' := 16) (n' := 604) dX7_init_50 nw_RX7_38 ⟨by decide, by decide⟩ rfl rfl (fun q16 => ?_)
  refine n_eq (ws' := [(h0, .inr (7, [.ref q1, .int (0 : Int32), .ref q2, .ref q5, .ref q9, .null, .null, .null, .null])), (q1, .inl (cA 0, (5, .inl (fun _ => 0)))), (q2, .inr (5, [.int (0 : Int32), .int (0 : Int32), .ref q3, .ref q4])), (q3, .inl (cA 0, (10, .inl (fun _ => 0)))), (q4, .inl (cA 0, (50, .inl (fun _ => 0)))), (q5, .inr (4, [.int (0 : Int32), .ref q6, .ref q7, .ref q8])), (q6, .inl (cA 0, (12, .inl (fun _ => 0)))), (q7, .inl (cA 0, (12, .inl (fun _ => 0)))), (q8, .inl (cA 0, (12, .inl (fun _ => 0)))), (q9, .inr (6, [.int (0 : Int32), .ref q10, .ref q11, .ref q12, .ref q13, .ref q14, .ref q15])), (q10, .inl (cA 0, (60, .inl (fun _ => 0)))), (q11, .inl (cA 0, (60, .inl (fun _ => 0)))), (q12, .inl (cA 0, (240, .inl (fun _ => 0)))), (q13, .inl (cA 0, (60, .inl (fun _ => 0)))), (q14, .inl (cA 0, (60, .inl (fun _ => 0)))), (q15, .inl (cA 0, (4, .inl (upd (upd (upd (upd (fun _ => 0) (0 : Int32).toNatClampNeg (-1 : Int32)) (1 : Int32).toNatClampNeg (-1 : Int32)) (2 : Int32).toNatClampNeg (-1 : Int32)) (3 : Int32).toNatClampNeg (-1 : Int32))))), (q16, .inr (3, [.null, .null, .null, .long 0]))]) rfl ?_
  refine n_dup hG dX7_init_53 rfl ?_
  refine n_ref hG 0 dX7_init_54 rfl ?_
  refine n_get hG (v := .ref q2) 0 dX7_init_55 nfl_RX7_20 rfl rfl ?_
  refine n_ref hG 0 dX7_init_58 rfl ?_
  refine n_get hG (v := .ref q5) 0 dX7_init_59 nfl_RX7_27 rfl rfl ?_
  refine n_ref hG 0 dX7_init_62 rfl ?_
  refine n_get hG (v := .ref q9) 0 dX7_init_63 nfl_RX7_34 rfl rfl ?_
  refine n_iconst hG (v := (0 : Int32)) dX7_init_66 (by decide) ?_
  refine n_init hG (as := [.ref q2, .ref q5, .ref q9, .int (0 : Int32)]) (st := [.ref q16, .ref h0]) (wr := [(h0, .inr (7, [.ref q1, .int (0 : Int32), .ref q2, .ref q5, .ref q9, .null, .null, .null, .null])), (q1, .inl (cA 0, (5, .inl (fun _ => 0)))), (q2, .inr (5, [.int (0 : Int32), .int (0 : Int32), .ref q3, .ref q4])), (q3, .inl (cA 0, (10, .inl (fun _ => 0)))), (q4, .inl (cA 0, (50, .inl (fun _ => 0)))), (q5, .inr (4, [.int (0 : Int32), .ref q6, .ref q7, .ref q8])), (q6, .inl (cA 0, (12, .inl (fun _ => 0)))), (q7, .inl (cA 0, (12, .inl (fun _ => 0)))), (q8, .inl (cA 0, (12, .inl (fun _ => 0)))), (q9, .inr (6, [.int (0 : Int32), .ref q10, .ref q11, .ref q12, .ref q13, .ref q14, .ref q15])), (q10, .inl (cA 0, (60, .inl (fun _ => 0)))), (q11, .inl (cA 0, (60, .inl (fun _ => 0)))), (q12, .inl (cA 0, (240, .inl (fun _ => 0)))), (q13, .inl (cA 0, (60, .inl (fun _ => 0)))), (q14, .inl (cA 0, (60, .inl (fun _ => 0)))), (q15, .inl (cA 0, (4, .inl (upd (upd (upd (upd (fun _ => 0) (0 : Int32).toNatClampNeg (-1 : Int32)) (1 : Int32).toNatClampNeg (-1 : Int32)) (2 : Int32).toNatClampNeg (-1 : Int32)) (3 : Int32).toNatClampNeg (-1 : Int32)))))]) (e0 := .inr (3, [.null, .null, .null, .long 0])) (rm := rm_X3_init) (k' := 22) (n' := 746) dX7_init_67 ni_RX7_40 (tb2 (mem_i 7 rfl)) rfl ⟨by decide, by decide⟩ (Nat.le_of_ble_eq_true rfl) ⟨by decide, by decide⟩ rfl rfl rfl rfl (c_X3_init l D cA q16 (q2) (q5) (q9) ((0 : Int32)) (by decide)) (fun w1 hw1 => ?_)
  obtain ⟨q17, q18, q19, q20, q21, q22, rfl⟩ := hw1
  refine n_eq (ws' := [(h0, .inr (7, [.ref q1, .int (0 : Int32), .ref q2, .ref q5, .ref q9, .null, .null, .null, .null])), (q1, .inl (cA 0, (5, .inl (fun _ => 0)))), (q2, .inr (5, [.int (0 : Int32), .int (0 : Int32), .ref q3, .ref q4])), (q3, .inl (cA 0, (10, .inl (fun _ => 0)))), (q4, .inl (cA 0, (50, .inl (fun _ => 0)))), (q5, .inr (4, [.int (0 : Int32), .ref q6, .ref q7, .ref q8])), (q6, .inl (cA 0, (12, .inl (fun _ => 0)))), (q7, .inl (cA 0, (12, .inl (fun _ => 0)))), (q8, .inl (cA 0, (12, .inl (fun _ => 0)))), (q9, .inr (6, [.int (0 : Int32), .ref q10, .ref q11, .ref q12, .ref q13, .ref q14, .ref q15])), (q10, .inl (cA 0, (60, .inl (fun _ => 0)))), (q11, .inl (cA 0, (60, .inl (fun _ => 0)))), (q12, .inl (cA 0, (240, .inl (fun _ => 0)))), (q13, .inl (cA 0, (60, .inl (fun _ => 0)))), (q14, .inl (cA 0, (60, .inl (fun _ => 0)))), (q15, .inl (cA 0, (4, .inl (upd (upd (upd (upd (fun _ => 0) (0 : Int32).toNatClampNeg (-1 : Int32)) (1 : Int32).toNatClampNeg (-1 : Int32)) (2 : Int32).toNatClampNeg (-1 : Int32)) (3 : Int32).toNatClampNeg (-1 : Int32))))), (q16, .inr (3, [.ref q9, .ref q17, .ref q20, .long 0])), (q17, .inr (0, [.ref q2, .ref q5, .int (0 : Int32), .ref q18, .ref q19, .int (0 : Int32), .int (0 : Int32)])), (q18, .inl (cA 0, (40, .inl (fun _ => 0)))), (q19, .inl (cA 0, (24, .inl (fun _ => 0)))), (q20, .inr (0, [.ref q2, .ref q5, .int (0 : Int32), .ref q21, .ref q22, .int (0 : Int32), .int (0 : Int32)])), (q21, .inl (cA 0, (40, .inl (fun _ => 0)))), (q22, .inl (cA 0, (24, .inl (fun _ => 0))))]) rfl ?_
  refine n_putF hG (ws' := [(h0, .inr (7, [.ref q1, .int (0 : Int32), .ref q2, .ref q5, .ref q9, .ref q16, .null, .null, .null])), (q1, .inl (cA 0, (5, .inl (fun _ => 0)))), (q2, .inr (5, [.int (0 : Int32), .int (0 : Int32), .ref q3, .ref q4])), (q3, .inl (cA 0, (10, .inl (fun _ => 0)))), (q4, .inl (cA 0, (50, .inl (fun _ => 0)))), (q5, .inr (4, [.int (0 : Int32), .ref q6, .ref q7, .ref q8])), (q6, .inl (cA 0, (12, .inl (fun _ => 0)))), (q7, .inl (cA 0, (12, .inl (fun _ => 0)))), (q8, .inl (cA 0, (12, .inl (fun _ => 0)))), (q9, .inr (6, [.int (0 : Int32), .ref q10, .ref q11, .ref q12, .ref q13, .ref q14, .ref q15])), (q10, .inl (cA 0, (60, .inl (fun _ => 0)))), (q11, .inl (cA 0, (60, .inl (fun _ => 0)))), (q12, .inl (cA 0, (240, .inl (fun _ => 0)))), (q13, .inl (cA 0, (60, .inl (fun _ => 0)))), (q14, .inl (cA 0, (60, .inl (fun _ => 0)))), (q15, .inl (cA 0, (4, .inl (upd (upd (upd (upd (fun _ => 0) (0 : Int32).toNatClampNeg (-1 : Int32)) (1 : Int32).toNatClampNeg (-1 : Int32)) (2 : Int32).toNatClampNeg (-1 : Int32)) (3 : Int32).toNatClampNeg (-1 : Int32))))), (q16, .inr (3, [.ref q9, .ref q17, .ref q20, .long 0])), (q17, .inr (0, [.ref q2, .ref q5, .int (0 : Int32), .ref q18, .ref q19, .int (0 : Int32), .int (0 : Int32)])), (q18, .inl (cA 0, (40, .inl (fun _ => 0)))), (q19, .inl (cA 0, (24, .inl (fun _ => 0)))), (q20, .inr (0, [.ref q2, .ref q5, .int (0 : Int32), .ref q21, .ref q22, .int (0 : Int32), .int (0 : Int32)])), (q21, .inl (cA 0, (40, .inl (fun _ => 0)))), (q22, .inl (cA 0, (24, .inl (fun _ => 0))))]) 0 dX7_init_70 nfo_RX7_43 nff_RX7_43 rfl ⟨rfl, rfl⟩ (Nat.le_of_ble_eq_true rfl) rfl ?_
  refine n_ref hG 0 dX7_init_73 rfl ?_
  refine n_new hG (k' := 23) (n' := 750) dX7_init_74 nw_RX7_38 ⟨by decide, by decide⟩ rfl rfl (fun q23 => ?_)
  refine n_eq (ws' := [(h0, .inr (7, [.ref q1, .int (0 : Int32), .ref q2, .ref q5, .ref q9, .ref q16, .null, .null, .null])), (q1, .inl (cA 0, (5, .inl (fun _ => 0)))), (q2, .inr (5, [.int (0 : Int32), .int (0 : Int32), .ref q3, .ref q4])), (q3, .inl (cA 0, (10, .inl (fun _ => 0)))), (q4, .inl (cA 0, (50, .inl (fun _ => 0)))), (q5, .inr (4, [.int (0 : Int32), .ref q6, .ref q7, .ref q8])), (q6, .inl (cA 0, (12, .inl (fun _ => 0)))), (q7, .inl (cA 0, (12, .inl (fun _ => 0)))), (q8, .inl (cA 0, (12, .inl (fun _ => 0)))), (q9, .inr (6, [.int (0 : Int32), .ref q10, .ref q11, .ref q12, .ref q13, .ref q14, .ref q15])), (q10, .inl (cA 0, (60, .inl (fun _ => 0)))), (q11, .inl (cA 0, (60, .inl (fun _ => 0)))), (q12, .inl (cA 0, (240, .inl (fun _ => 0)))), (q13, .inl (cA 0, (60, .inl (fun _ => 0)))), (q14, .inl (cA 0, (60, .inl (fun _ => 0)))), (q15, .inl (cA 0, (4, .inl (upd (upd (upd (upd (fun _ => 0) (0 : Int32).toNatClampNeg (-1 : Int32)) (1 : Int32).toNatClampNeg (-1 : Int32)) (2 : Int32).toNatClampNeg (-1 : Int32)) (3 : Int32).toNatClampNeg (-1 : Int32))))), (q16, .inr (3, [.ref q9, .ref q17, .ref q20, .long 0])), (q17, .inr (0, [.ref q2, .ref q5, .int (0 : Int32), .ref q18, .ref q19, .int (0 : Int32), .int (0 : Int32)])), (q18, .inl (cA 0, (40, .inl (fun _ => 0)))), (q19, .inl (cA 0, (24, .inl (fun _ => 0)))), (q20, .inr (0, [.ref q2, .ref q5, .int (0 : Int32), .ref q21, .ref q22, .int (0 : Int32), .int (0 : Int32)])), (q21, .inl (cA 0, (40, .inl (fun _ => 0)))), (q22, .inl (cA 0, (24, .inl (fun _ => 0)))), (q23, .inr (3, [.null, .null, .null, .long 0]))]) rfl ?_
  refine n_dup hG dX7_init_77 rfl ?_
  refine n_ref hG 0 dX7_init_78 rfl ?_
  refine n_get hG (v := .ref q2) 0 dX7_init_79 nfl_RX7_20 rfl rfl ?_
  refine n_ref hG 0 dX7_init_82 rfl ?_
  refine n_get hG (v := .ref q5) 0 dX7_init_83 nfl_RX7_27 rfl rfl ?_
  refine n_ref hG 0 dX7_init_86 rfl ?_
  refine n_get hG (v := .ref q9) 0 dX7_init_87 nfl_RX7_34 rfl rfl ?_
  refine n_iconst hG (v := (1 : Int32)) dX7_init_90 (by decide) ?_
  refine n_init hG (as := [.ref q2, .ref q5, .ref q9, .int (1 : Int32)]) (st := [.ref q23, .ref h0]) (wr := [(h0, .inr (7, [.ref q1, .int (0 : Int32), .ref q2, .ref q5, .ref q9, .ref q16, .null, .null, .null])), (q1, .inl (cA 0, (5, .inl (fun _ => 0)))), (q2, .inr (5, [.int (0 : Int32), .int (0 : Int32), .ref q3, .ref q4])), (q3, .inl (cA 0, (10, .inl (fun _ => 0)))), (q4, .inl (cA 0, (50, .inl (fun _ => 0)))), (q5, .inr (4, [.int (0 : Int32), .ref q6, .ref q7, .ref q8])), (q6, .inl (cA 0, (12, .inl (fun _ => 0)))), (q7, .inl (cA 0, (12, .inl (fun _ => 0)))), (q8, .inl (cA 0, (12, .inl (fun _ => 0)))), (q9, .inr (6, [.int (0 : Int32), .ref q10, .ref q11, .ref q12, .ref q13, .ref q14, .ref q15])), (q10, .inl (cA 0, (60, .inl (fun _ => 0)))), (q11, .inl (cA 0, (60, .inl (fun _ => 0)))), (q12, .inl (cA 0, (240, .inl (fun _ => 0)))), (q13, .inl (cA 0, (60, .inl (fun _ => 0)))), (q14, .inl (cA 0, (60, .inl (fun _ => 0)))), (q15, .inl (cA 0, (4, .inl (upd (upd (upd (upd (fun _ => 0) (0 : Int32).toNatClampNeg (-1 : Int32)) (1 : Int32).toNatClampNeg (-1 : Int32)) (2 : Int32).toNatClampNeg (-1 : Int32)) (3 : Int32).toNatClampNeg (-1 : Int32))))), (q16, .inr (3, [.ref q9, .ref q17, .ref q20, .long 0])), (q17, .inr (0, [.ref q2, .ref q5, .int (0 : Int32), .ref q18, .ref q19, .int (0 : Int32), .int (0 : Int32)])), (q18, .inl (cA 0, (40, .inl (fun _ => 0)))), (q19, .inl (cA 0, (24, .inl (fun _ => 0)))), (q20, .inr (0, [.ref q2, .ref q5, .int (0 : Int32), .ref q21, .ref q22, .int (0 : Int32), .int (0 : Int32)])), (q21, .inl (cA 0, (40, .inl (fun _ => 0)))), (q22, .inl (cA 0, (24, .inl (fun _ => 0))))]) (e0 := .inr (3, [.null, .null, .null, .long 0])) (rm := rm_X3_init) (k' := 29) (n' := 892) dX7_init_91 ni_RX7_40 (tb2 (mem_i 7 rfl)) rfl ⟨by decide, by decide⟩ (Nat.le_of_ble_eq_true rfl) ⟨by decide, by decide⟩ rfl rfl rfl rfl (c_X3_init l D cA q23 (q2) (q5) (q9) ((1 : Int32)) (by decide)) (fun w1 hw1 => ?_)
  obtain ⟨q24, q25, q26, q27, q28, q29, rfl⟩ := hw1
  refine n_eq (ws' := [(h0, .inr (7, [.ref q1, .int (0 : Int32), .ref q2, .ref q5, .ref q9, .ref q16, .null, .null, .null])), (q1, .inl (cA 0, (5, .inl (fun _ => 0)))), (q2, .inr (5, [.int (0 : Int32), .int (0 : Int32), .ref q3, .ref q4])), (q3, .inl (cA 0, (10, .inl (fun _ => 0)))), (q4, .inl (cA 0, (50, .inl (fun _ => 0)))), (q5, .inr (4, [.int (0 : Int32), .ref q6, .ref q7, .ref q8])), (q6, .inl (cA 0, (12, .inl (fun _ => 0)))), (q7, .inl (cA 0, (12, .inl (fun _ => 0)))), (q8, .inl (cA 0, (12, .inl (fun _ => 0)))), (q9, .inr (6, [.int (0 : Int32), .ref q10, .ref q11, .ref q12, .ref q13, .ref q14, .ref q15])), (q10, .inl (cA 0, (60, .inl (fun _ => 0)))), (q11, .inl (cA 0, (60, .inl (fun _ => 0)))), (q12, .inl (cA 0, (240, .inl (fun _ => 0)))), (q13, .inl (cA 0, (60, .inl (fun _ => 0)))), (q14, .inl (cA 0, (60, .inl (fun _ => 0)))), (q15, .inl (cA 0, (4, .inl (upd (upd (upd (upd (fun _ => 0) (0 : Int32).toNatClampNeg (-1 : Int32)) (1 : Int32).toNatClampNeg (-1 : Int32)) (2 : Int32).toNatClampNeg (-1 : Int32)) (3 : Int32).toNatClampNeg (-1 : Int32))))), (q16, .inr (3, [.ref q9, .ref q17, .ref q20, .long 0])), (q17, .inr (0, [.ref q2, .ref q5, .int (0 : Int32), .ref q18, .ref q19, .int (0 : Int32), .int (0 : Int32)])), (q18, .inl (cA 0, (40, .inl (fun _ => 0)))), (q19, .inl (cA 0, (24, .inl (fun _ => 0)))), (q20, .inr (0, [.ref q2, .ref q5, .int (0 : Int32), .ref q21, .ref q22, .int (0 : Int32), .int (0 : Int32)])), (q21, .inl (cA 0, (40, .inl (fun _ => 0)))), (q22, .inl (cA 0, (24, .inl (fun _ => 0)))), (q23, .inr (3, [.ref q9, .ref q24, .ref q27, .long 0])), (q24, .inr (0, [.ref q2, .ref q5, .int (1 : Int32), .ref q25, .ref q26, .int (0 : Int32), .int (0 : Int32)])), (q25, .inl (cA 0, (40, .inl (fun _ => 0)))), (q26, .inl (cA 0, (24, .inl (fun _ => 0)))), (q27, .inr (0, [.ref q2, .ref q5, .int (1 : Int32), .ref q28, .ref q29, .int (0 : Int32), .int (0 : Int32)])), (q28, .inl (cA 0, (40, .inl (fun _ => 0)))), (q29, .inl (cA 0, (24, .inl (fun _ => 0))))]) rfl ?_
  refine n_putF hG (ws' := [(h0, .inr (7, [.ref q1, .int (0 : Int32), .ref q2, .ref q5, .ref q9, .ref q16, .ref q23, .null, .null])), (q1, .inl (cA 0, (5, .inl (fun _ => 0)))), (q2, .inr (5, [.int (0 : Int32), .int (0 : Int32), .ref q3, .ref q4])), (q3, .inl (cA 0, (10, .inl (fun _ => 0)))), (q4, .inl (cA 0, (50, .inl (fun _ => 0)))), (q5, .inr (4, [.int (0 : Int32), .ref q6, .ref q7, .ref q8])), (q6, .inl (cA 0, (12, .inl (fun _ => 0)))), (q7, .inl (cA 0, (12, .inl (fun _ => 0)))), (q8, .inl (cA 0, (12, .inl (fun _ => 0)))), (q9, .inr (6, [.int (0 : Int32), .ref q10, .ref q11, .ref q12, .ref q13, .ref q14, .ref q15])), (q10, .inl (cA 0, (60, .inl (fun _ => 0)))), (q11, .inl (cA 0, (60, .inl (fun _ => 0)))), (q12, .inl (cA 0, (240, .inl (fun _ => 0)))), (q13, .inl (cA 0, (60, .inl (fun _ => 0)))), (q14, .inl (cA 0, (60, .inl (fun _ => 0)))), (q15, .inl (cA 0, (4, .inl (upd (upd (upd (upd (fun _ => 0) (0 : Int32).toNatClampNeg (-1 : Int32)) (1 : Int32).toNatClampNeg (-1 : Int32)) (2 : Int32).toNatClampNeg (-1 : Int32)) (3 : Int32).toNatClampNeg (-1 : Int32))))), (q16, .inr (3, [.ref q9, .ref q17, .ref q20, .long 0])), (q17, .inr (0, [.ref q2, .ref q5, .int (0 : Int32), .ref q18, .ref q19, .int (0 : Int32), .int (0 : Int32)])), (q18, .inl (cA 0, (40, .inl (fun _ => 0)))), (q19, .inl (cA 0, (24, .inl (fun _ => 0)))), (q20, .inr (0, [.ref q2, .ref q5, .int (0 : Int32), .ref q21, .ref q22, .int (0 : Int32), .int (0 : Int32)])), (q21, .inl (cA 0, (40, .inl (fun _ => 0)))), (q22, .inl (cA 0, (24, .inl (fun _ => 0)))), (q23, .inr (3, [.ref q9, .ref q24, .ref q27, .long 0])), (q24, .inr (0, [.ref q2, .ref q5, .int (1 : Int32), .ref q25, .ref q26, .int (0 : Int32), .int (0 : Int32)])), (q25, .inl (cA 0, (40, .inl (fun _ => 0)))), (q26, .inl (cA 0, (24, .inl (fun _ => 0)))), (q27, .inr (0, [.ref q2, .ref q5, .int (1 : Int32), .ref q28, .ref q29, .int (0 : Int32), .int (0 : Int32)])), (q28, .inl (cA 0, (40, .inl (fun _ => 0)))), (q29, .inl (cA 0, (24, .inl (fun _ => 0))))]) 0 dX7_init_94 nfo_RX7_47 nff_RX7_47 rfl ⟨rfl, rfl⟩ (Nat.le_of_ble_eq_true rfl) rfl ?_
  refine n_ref hG 0 dX7_init_97 rfl ?_
  refine n_new hG (k' := 30) (n' := 897) dX7_init_98 nw_RX7_50 ⟨by decide, by decide⟩ rfl rfl (fun q30 => ?_)
  refine n_eq (ws' := [(h0, .inr (7, [.ref q1, .int (0 : Int32), .ref q2, .ref q5, .ref q9, .ref q16, .ref q23, .null, .null])), (q1, .inl (cA 0, (5, .inl (fun _ => 0)))), (q2, .inr (5, [.int (0 : Int32), .int (0 : Int32), .ref q3, .ref q4])), (q3, .inl (cA 0, (10, .inl (fun _ => 0)))), (q4, .inl (cA 0, (50, .inl (fun _ => 0)))), (q5, .inr (4, [.int (0 : Int32), .ref q6, .ref q7, .ref q8])), (q6, .inl (cA 0, (12, .inl (fun _ => 0)))), (q7, .inl (cA 0, (12, .inl (fun _ => 0)))), (q8, .inl (cA 0, (12, .inl (fun _ => 0)))), (q9, .inr (6, [.int (0 : Int32), .ref q10, .ref q11, .ref q12, .ref q13, .ref q14, .ref q15])), (q10, .inl (cA 0, (60, .inl (fun _ => 0)))), (q11, .inl (cA 0, (60, .inl (fun _ => 0)))), (q12, .inl (cA 0, (240, .inl (fun _ => 0)))), (q13, .inl (cA 0, (60, .inl (fun _ => 0)))), (q14, .inl (cA 0, (60, .inl (fun _ => 0)))), (q15, .inl (cA 0, (4, .inl (upd (upd (upd (upd (fun _ => 0) (0 : Int32).toNatClampNeg (-1 : Int32)) (1 : Int32).toNatClampNeg (-1 : Int32)) (2 : Int32).toNatClampNeg (-1 : Int32)) (3 : Int32).toNatClampNeg (-1 : Int32))))), (q16, .inr (3, [.ref q9, .ref q17, .ref q20, .long 0])), (q17, .inr (0, [.ref q2, .ref q5, .int (0 : Int32), .ref q18, .ref q19, .int (0 : Int32), .int (0 : Int32)])), (q18, .inl (cA 0, (40, .inl (fun _ => 0)))), (q19, .inl (cA 0, (24, .inl (fun _ => 0)))), (q20, .inr (0, [.ref q2, .ref q5, .int (0 : Int32), .ref q21, .ref q22, .int (0 : Int32), .int (0 : Int32)])), (q21, .inl (cA 0, (40, .inl (fun _ => 0)))), (q22, .inl (cA 0, (24, .inl (fun _ => 0)))), (q23, .inr (3, [.ref q9, .ref q24, .ref q27, .long 0])), (q24, .inr (0, [.ref q2, .ref q5, .int (1 : Int32), .ref q25, .ref q26, .int (0 : Int32), .int (0 : Int32)])), (q25, .inl (cA 0, (40, .inl (fun _ => 0)))), (q26, .inl (cA 0, (24, .inl (fun _ => 0)))), (q27, .inr (0, [.ref q2, .ref q5, .int (1 : Int32), .ref q28, .ref q29, .int (0 : Int32), .int (0 : Int32)])), (q28, .inl (cA 0, (40, .inl (fun _ => 0)))), (q29, .inl (cA 0, (24, .inl (fun _ => 0)))), (q30, .inr (2, [.int 0, .int 0, .null, .null, .null]))]) rfl ?_
  refine n_dup hG dX7_init_101 rfl ?_
  refine n_init hG (as := []) (st := [.ref q30, .ref h0]) (wr := [(h0, .inr (7, [.ref q1, .int (0 : Int32), .ref q2, .ref q5, .ref q9, .ref q16, .ref q23, .null, .null])), (q1, .inl (cA 0, (5, .inl (fun _ => 0)))), (q2, .inr (5, [.int (0 : Int32), .int (0 : Int32), .ref q3, .ref q4])), (q3, .inl (cA 0, (10, .inl (fun _ => 0)))), (q4, .inl (cA 0, (50, .inl (fun _ => 0)))), (q5, .inr (4, [.int (0 : Int32), .ref q6, .ref q7, .ref q8])), (q6, .inl (cA 0, (12, .inl (fun _ => 0)))), (q7, .inl (cA 0, (12, .inl (fun _ => 0)))), (q8, .inl (cA 0, (12, .inl (fun _ => 0)))), (q9, .inr (6, [.int (0 : Int32), .ref q10, .ref q11, .ref q12, .ref q13, .ref q14, .ref q15])), (q10, .inl (cA 0, (60, .inl (fun _ => 0)))), (q11, .inl (cA 0, (60, .inl (fun _ => 0)))), (q12, .inl (cA 0, (240, .inl (fun _ => 0)))), (q13, .inl (cA 0, (60, .inl (fun _ => 0)))), (q14, .inl (cA 0, (60, .inl (fun _ => 0)))), (q15, .inl (cA 0, (4, .inl (upd (upd (upd (upd (fun _ => 0) (0 : Int32).toNatClampNeg (-1 : Int32)) (1 : Int32).toNatClampNeg (-1 : Int32)) (2 : Int32).toNatClampNeg (-1 : Int32)) (3 : Int32).toNatClampNeg (-1 : Int32))))), (q16, .inr (3, [.ref q9, .ref q17, .ref q20, .long 0])), (q17, .inr (0, [.ref q2, .ref q5, .int (0 : Int32), .ref q18, .ref q19, .int (0 : Int32), .int (0 : Int32)])), (q18, .inl (cA 0, (40, .inl (fun _ => 0)))), (q19, .inl (cA 0, (24, .inl (fun _ => 0)))), (q20, .inr (0, [.ref q2, .ref q5, .int (0 : Int32), .ref q21, .ref q22, .int (0 : Int32), .int (0 : Int32)])), (q21, .inl (cA 0, (40, .inl (fun _ => 0)))), (q22, .inl (cA 0, (24, .inl (fun _ => 0)))), (q23, .inr (3, [.ref q9, .ref q24, .ref q27, .long 0])), (q24, .inr (0, [.ref q2, .ref q5, .int (1 : Int32), .ref q25, .ref q26, .int (0 : Int32), .int (0 : Int32)])), (q25, .inl (cA 0, (40, .inl (fun _ => 0)))), (q26, .inl (cA 0, (24, .inl (fun _ => 0)))), (q27, .inr (0, [.ref q2, .ref q5, .int (1 : Int32), .ref q28, .ref q29, .int (0 : Int32), .int (0 : Int32)])), (q28, .inl (cA 0, (40, .inl (fun _ => 0)))), (q29, .inl (cA 0, (24, .inl (fun _ => 0))))]) (e0 := .inr (2, [.int 0, .int 0, .null, .null, .null])) (rm := rm_X2_init) (k' := 33) (n' := 4197) dX7_init_102 ni_RX7_52 (tb3 (mem_i 5 rfl)) rfl ⟨by decide, by decide⟩ (Nat.le_of_ble_eq_true rfl) ⟨by decide, by decide⟩ rfl rfl rfl rfl (c_X2_init l D cA q30) (fun w1 hw1 => ?_)
  obtain ⟨q31, q32, q33, rfl⟩ := hw1
  refine n_eq (ws' := [(h0, .inr (7, [.ref q1, .int (0 : Int32), .ref q2, .ref q5, .ref q9, .ref q16, .ref q23, .null, .null])), (q1, .inl (cA 0, (5, .inl (fun _ => 0)))), (q2, .inr (5, [.int (0 : Int32), .int (0 : Int32), .ref q3, .ref q4])), (q3, .inl (cA 0, (10, .inl (fun _ => 0)))), (q4, .inl (cA 0, (50, .inl (fun _ => 0)))), (q5, .inr (4, [.int (0 : Int32), .ref q6, .ref q7, .ref q8])), (q6, .inl (cA 0, (12, .inl (fun _ => 0)))), (q7, .inl (cA 0, (12, .inl (fun _ => 0)))), (q8, .inl (cA 0, (12, .inl (fun _ => 0)))), (q9, .inr (6, [.int (0 : Int32), .ref q10, .ref q11, .ref q12, .ref q13, .ref q14, .ref q15])), (q10, .inl (cA 0, (60, .inl (fun _ => 0)))), (q11, .inl (cA 0, (60, .inl (fun _ => 0)))), (q12, .inl (cA 0, (240, .inl (fun _ => 0)))), (q13, .inl (cA 0, (60, .inl (fun _ => 0)))), (q14, .inl (cA 0, (60, .inl (fun _ => 0)))), (q15, .inl (cA 0, (4, .inl (upd (upd (upd (upd (fun _ => 0) (0 : Int32).toNatClampNeg (-1 : Int32)) (1 : Int32).toNatClampNeg (-1 : Int32)) (2 : Int32).toNatClampNeg (-1 : Int32)) (3 : Int32).toNatClampNeg (-1 : Int32))))), (q16, .inr (3, [.ref q9, .ref q17, .ref q20, .long 0])), (q17, .inr (0, [.ref q2, .ref q5, .int (0 : Int32), .ref q18, .ref q19, .int (0 : Int32), .int (0 : Int32)])), (q18, .inl (cA 0, (40, .inl (fun _ => 0)))), (q19, .inl (cA 0, (24, .inl (fun _ => 0)))), (q20, .inr (0, [.ref q2, .ref q5, .int (0 : Int32), .ref q21, .ref q22, .int (0 : Int32), .int (0 : Int32)])), (q21, .inl (cA 0, (40, .inl (fun _ => 0)))), (q22, .inl (cA 0, (24, .inl (fun _ => 0)))), (q23, .inr (3, [.ref q9, .ref q24, .ref q27, .long 0])), (q24, .inr (0, [.ref q2, .ref q5, .int (1 : Int32), .ref q25, .ref q26, .int (0 : Int32), .int (0 : Int32)])), (q25, .inl (cA 0, (40, .inl (fun _ => 0)))), (q26, .inl (cA 0, (24, .inl (fun _ => 0)))), (q27, .inr (0, [.ref q2, .ref q5, .int (1 : Int32), .ref q28, .ref q29, .int (0 : Int32), .int (0 : Int32)])), (q28, .inl (cA 0, (40, .inl (fun _ => 0)))), (q29, .inl (cA 0, (24, .inl (fun _ => 0)))), (q30, .inr (2, [.int (0 : Int32), .int (0 : Int32), .ref q31, .ref q32, .ref q33])), (q31, .inl (cA 1, (10, .inr (.inl (fun _ => 0))))), (q32, .inl (cA 0, (10, .inl (fun _ => 0)))), (q33, .inl (cA 2, (3280, .inl (fun _ => 0))))]) rfl ?_
  refine n_putF hG (ws' := [(h0, .inr (7, [.ref q1, .int (0 : Int32), .ref q2, .ref q5, .ref q9, .ref q16, .ref q23, .ref q30, .null])), (q1, .inl (cA 0, (5, .inl (fun _ => 0)))), (q2, .inr (5, [.int (0 : Int32), .int (0 : Int32), .ref q3, .ref q4])), (q3, .inl (cA 0, (10, .inl (fun _ => 0)))), (q4, .inl (cA 0, (50, .inl (fun _ => 0)))), (q5, .inr (4, [.int (0 : Int32), .ref q6, .ref q7, .ref q8])), (q6, .inl (cA 0, (12, .inl (fun _ => 0)))), (q7, .inl (cA 0, (12, .inl (fun _ => 0)))), (q8, .inl (cA 0, (12, .inl (fun _ => 0)))), (q9, .inr (6, [.int (0 : Int32), .ref q10, .ref q11, .ref q12, .ref q13, .ref q14, .ref q15])), (q10, .inl (cA 0, (60, .inl (fun _ => 0)))), (q11, .inl (cA 0, (60, .inl (fun _ => 0)))), (q12, .inl (cA 0, (240, .inl (fun _ => 0)))), (q13, .inl (cA 0, (60, .inl (fun _ => 0)))), (q14, .inl (cA 0, (60, .inl (fun _ => 0)))), (q15, .inl (cA 0, (4, .inl (upd (upd (upd (upd (fun _ => 0) (0 : Int32).toNatClampNeg (-1 : Int32)) (1 : Int32).toNatClampNeg (-1 : Int32)) (2 : Int32).toNatClampNeg (-1 : Int32)) (3 : Int32).toNatClampNeg (-1 : Int32))))), (q16, .inr (3, [.ref q9, .ref q17, .ref q20, .long 0])), (q17, .inr (0, [.ref q2, .ref q5, .int (0 : Int32), .ref q18, .ref q19, .int (0 : Int32), .int (0 : Int32)])), (q18, .inl (cA 0, (40, .inl (fun _ => 0)))), (q19, .inl (cA 0, (24, .inl (fun _ => 0)))), (q20, .inr (0, [.ref q2, .ref q5, .int (0 : Int32), .ref q21, .ref q22, .int (0 : Int32), .int (0 : Int32)])), (q21, .inl (cA 0, (40, .inl (fun _ => 0)))), (q22, .inl (cA 0, (24, .inl (fun _ => 0)))), (q23, .inr (3, [.ref q9, .ref q24, .ref q27, .long 0])), (q24, .inr (0, [.ref q2, .ref q5, .int (1 : Int32), .ref q25, .ref q26, .int (0 : Int32), .int (0 : Int32)])), (q25, .inl (cA 0, (40, .inl (fun _ => 0)))), (q26, .inl (cA 0, (24, .inl (fun _ => 0)))), (q27, .inr (0, [.ref q2, .ref q5, .int (1 : Int32), .ref q28, .ref q29, .int (0 : Int32), .int (0 : Int32)])), (q28, .inl (cA 0, (40, .inl (fun _ => 0)))), (q29, .inl (cA 0, (24, .inl (fun _ => 0)))), (q30, .inr (2, [.int (0 : Int32), .int (0 : Int32), .ref q31, .ref q32, .ref q33])), (q31, .inl (cA 1, (10, .inr (.inl (fun _ => 0))))), (q32, .inl (cA 0, (10, .inl (fun _ => 0)))), (q33, .inl (cA 2, (3280, .inl (fun _ => 0))))]) 0 dX7_init_105 nfo_RX7_53 nff_RX7_53 rfl ⟨rfl, rfl⟩ (Nat.le_of_ble_eq_true rfl) rfl ?_
  refine n_ref hG 0 dX7_init_108 rfl ?_
  refine n_new hG (k' := 34) (n' := 4199) dX7_init_109 nw_RX7_57 ⟨by decide, by decide⟩ rfl rfl (fun q34 => ?_)
  refine n_eq (ws' := [(h0, .inr (7, [.ref q1, .int (0 : Int32), .ref q2, .ref q5, .ref q9, .ref q16, .ref q23, .ref q30, .null])), (q1, .inl (cA 0, (5, .inl (fun _ => 0)))), (q2, .inr (5, [.int (0 : Int32), .int (0 : Int32), .ref q3, .ref q4])), (q3, .inl (cA 0, (10, .inl (fun _ => 0)))), (q4, .inl (cA 0, (50, .inl (fun _ => 0)))), (q5, .inr (4, [.int (0 : Int32), .ref q6, .ref q7, .ref q8])), (q6, .inl (cA 0, (12, .inl (fun _ => 0)))), (q7, .inl (cA 0, (12, .inl (fun _ => 0)))), (q8, .inl (cA 0, (12, .inl (fun _ => 0)))), (q9, .inr (6, [.int (0 : Int32), .ref q10, .ref q11, .ref q12, .ref q13, .ref q14, .ref q15])), (q10, .inl (cA 0, (60, .inl (fun _ => 0)))), (q11, .inl (cA 0, (60, .inl (fun _ => 0)))), (q12, .inl (cA 0, (240, .inl (fun _ => 0)))), (q13, .inl (cA 0, (60, .inl (fun _ => 0)))), (q14, .inl (cA 0, (60, .inl (fun _ => 0)))), (q15, .inl (cA 0, (4, .inl (upd (upd (upd (upd (fun _ => 0) (0 : Int32).toNatClampNeg (-1 : Int32)) (1 : Int32).toNatClampNeg (-1 : Int32)) (2 : Int32).toNatClampNeg (-1 : Int32)) (3 : Int32).toNatClampNeg (-1 : Int32))))), (q16, .inr (3, [.ref q9, .ref q17, .ref q20, .long 0])), (q17, .inr (0, [.ref q2, .ref q5, .int (0 : Int32), .ref q18, .ref q19, .int (0 : Int32), .int (0 : Int32)])), (q18, .inl (cA 0, (40, .inl (fun _ => 0)))), (q19, .inl (cA 0, (24, .inl (fun _ => 0)))), (q20, .inr (0, [.ref q2, .ref q5, .int (0 : Int32), .ref q21, .ref q22, .int (0 : Int32), .int (0 : Int32)])), (q21, .inl (cA 0, (40, .inl (fun _ => 0)))), (q22, .inl (cA 0, (24, .inl (fun _ => 0)))), (q23, .inr (3, [.ref q9, .ref q24, .ref q27, .long 0])), (q24, .inr (0, [.ref q2, .ref q5, .int (1 : Int32), .ref q25, .ref q26, .int (0 : Int32), .int (0 : Int32)])), (q25, .inl (cA 0, (40, .inl (fun _ => 0)))), (q26, .inl (cA 0, (24, .inl (fun _ => 0)))), (q27, .inr (0, [.ref q2, .ref q5, .int (1 : Int32), .ref q28, .ref q29, .int (0 : Int32), .int (0 : Int32)])), (q28, .inl (cA 0, (40, .inl (fun _ => 0)))), (q29, .inl (cA 0, (24, .inl (fun _ => 0)))), (q30, .inr (2, [.int (0 : Int32), .int (0 : Int32), .ref q31, .ref q32, .ref q33])), (q31, .inl (cA 1, (10, .inr (.inl (fun _ => 0))))), (q32, .inl (cA 0, (10, .inl (fun _ => 0)))), (q33, .inl (cA 2, (3280, .inl (fun _ => 0)))), (q34, .inr (1, [.null, .int 0]))]) rfl ?_
  refine n_dup hG dX7_init_112 rfl ?_
  refine n_init hG (as := []) (st := [.ref q34, .ref h0]) (wr := [(h0, .inr (7, [.ref q1, .int (0 : Int32), .ref q2, .ref q5, .ref q9, .ref q16, .ref q23, .ref q30, .null])), (q1, .inl (cA 0, (5, .inl (fun _ => 0)))), (q2, .inr (5, [.int (0 : Int32), .int (0 : Int32), .ref q3, .ref q4])), (q3, .inl (cA 0, (10, .inl (fun _ => 0)))), (q4, .inl (cA 0, (50, .inl (fun _ => 0)))), (q5, .inr (4, [.int (0 : Int32), .ref q6, .ref q7, .ref q8])), (q6, .inl (cA 0, (12, .inl (fun _ => 0)))), (q7, .inl (cA 0, (12, .inl (fun _ => 0)))), (q8, .inl (cA 0, (12, .inl (fun _ => 0)))), (q9, .inr (6, [.int (0 : Int32), .ref q10, .ref q11, .ref q12, .ref q13, .ref q14, .ref q15])), (q10, .inl (cA 0, (60, .inl (fun _ => 0)))), (q11, .inl (cA 0, (60, .inl (fun _ => 0)))), (q12, .inl (cA 0, (240, .inl (fun _ => 0)))), (q13, .inl (cA 0, (60, .inl (fun _ => 0)))), (q14, .inl (cA 0, (60, .inl (fun _ => 0)))), (q15, .inl (cA 0, (4, .inl (upd (upd (upd (upd (fun _ => 0) (0 : Int32).toNatClampNeg (-1 : Int32)) (1 : Int32).toNatClampNeg (-1 : Int32)) (2 : Int32).toNatClampNeg (-1 : Int32)) (3 : Int32).toNatClampNeg (-1 : Int32))))), (q16, .inr (3, [.ref q9, .ref q17, .ref q20, .long 0])), (q17, .inr (0, [.ref q2, .ref q5, .int (0 : Int32), .ref q18, .ref q19, .int (0 : Int32), .int (0 : Int32)])), (q18, .inl (cA 0, (40, .inl (fun _ => 0)))), (q19, .inl (cA 0, (24, .inl (fun _ => 0)))), (q20, .inr (0, [.ref q2, .ref q5, .int (0 : Int32), .ref q21, .ref q22, .int (0 : Int32), .int (0 : Int32)])), (q21, .inl (cA 0, (40, .inl (fun _ => 0)))), (q22, .inl (cA 0, (24, .inl (fun _ => 0)))), (q23, .inr (3, [.ref q9, .ref q24, .ref q27, .long 0])), (q24, .inr (0, [.ref q2, .ref q5, .int (1 : Int32), .ref q25, .ref q26, .int (0 : Int32), .int (0 : Int32)])), (q25, .inl (cA 0, (40, .inl (fun _ => 0)))), (q26, .inl (cA 0, (24, .inl (fun _ => 0)))), (q27, .inr (0, [.ref q2, .ref q5, .int (1 : Int32), .ref q28, .ref q29, .int (0 : Int32), .int (0 : Int32)])), (q28, .inl (cA 0, (40, .inl (fun _ => 0)))), (q29, .inl (cA 0, (24, .inl (fun _ => 0)))), (q30, .inr (2, [.int (0 : Int32), .int (0 : Int32), .ref q31, .ref q32, .ref q33])), (q31, .inl (cA 1, (10, .inr (.inl (fun _ => 0))))), (q32, .inl (cA 0, (10, .inl (fun _ => 0)))), (q33, .inl (cA 2, (3280, .inl (fun _ => 0))))]) (e0 := .inr (1, [.null, .int 0])) (rm := rm_X1_init) (k' := 35) (n' := 4527) dX7_init_113 ni_RX7_59 (tb3 (mem_i 20 rfl)) rfl ⟨by decide, by decide⟩ (Nat.le_of_ble_eq_true rfl) ⟨by decide, by decide⟩ rfl rfl rfl rfl (c_X1_init l D cA q34) (fun w1 hw1 => ?_)
  obtain ⟨q35, rfl⟩ := hw1
  refine n_eq (ws' := [(h0, .inr (7, [.ref q1, .int (0 : Int32), .ref q2, .ref q5, .ref q9, .ref q16, .ref q23, .ref q30, .null])), (q1, .inl (cA 0, (5, .inl (fun _ => 0)))), (q2, .inr (5, [.int (0 : Int32), .int (0 : Int32), .ref q3, .ref q4])), (q3, .inl (cA 0, (10, .inl (fun _ => 0)))), (q4, .inl (cA 0, (50, .inl (fun _ => 0)))), (q5, .inr (4, [.int (0 : Int32), .ref q6, .ref q7, .ref q8])), (q6, .inl (cA 0, (12, .inl (fun _ => 0)))), (q7, .inl (cA 0, (12, .inl (fun _ => 0)))), (q8, .inl (cA 0, (12, .inl (fun _ => 0)))), (q9, .inr (6, [.int (0 : Int32), .ref q10, .ref q11, .ref q12, .ref q13, .ref q14, .ref q15])), (q10, .inl (cA 0, (60, .inl (fun _ => 0)))), (q11, .inl (cA 0, (60, .inl (fun _ => 0)))), (q12, .inl (cA 0, (240, .inl (fun _ => 0)))), (q13, .inl (cA 0, (60, .inl (fun _ => 0)))), (q14, .inl (cA 0, (60, .inl (fun _ => 0)))), (q15, .inl (cA 0, (4, .inl (upd (upd (upd (upd (fun _ => 0) (0 : Int32).toNatClampNeg (-1 : Int32)) (1 : Int32).toNatClampNeg (-1 : Int32)) (2 : Int32).toNatClampNeg (-1 : Int32)) (3 : Int32).toNatClampNeg (-1 : Int32))))), (q16, .inr (3, [.ref q9, .ref q17, .ref q20, .long 0])), (q17, .inr (0, [.ref q2, .ref q5, .int (0 : Int32), .ref q18, .ref q19, .int (0 : Int32), .int (0 : Int32)])), (q18, .inl (cA 0, (40, .inl (fun _ => 0)))), (q19, .inl (cA 0, (24, .inl (fun _ => 0)))), (q20, .inr (0, [.ref q2, .ref q5, .int (0 : Int32), .ref q21, .ref q22, .int (0 : Int32), .int (0 : Int32)])), (q21, .inl (cA 0, (40, .inl (fun _ => 0)))), (q22, .inl (cA 0, (24, .inl (fun _ => 0)))), (q23, .inr (3, [.ref q9, .ref q24, .ref q27, .long 0])), (q24, .inr (0, [.ref q2, .ref q5, .int (1 : Int32), .ref q25, .ref q26, .int (0 : Int32), .int (0 : Int32)])), (q25, .inl (cA 0, (40, .inl (fun _ => 0)))), (q26, .inl (cA 0, (24, .inl (fun _ => 0)))), (q27, .inr (0, [.ref q2, .ref q5, .int (1 : Int32), .ref q28, .ref q29, .int (0 : Int32), .int (0 : Int32)])), (q28, .inl (cA 0, (40, .inl (fun _ => 0)))), (q29, .inl (cA 0, (24, .inl (fun _ => 0)))), (q30, .inr (2, [.int (0 : Int32), .int (0 : Int32), .ref q31, .ref q32, .ref q33])), (q31, .inl (cA 1, (10, .inr (.inl (fun _ => 0))))), (q32, .inl (cA 0, (10, .inl (fun _ => 0)))), (q33, .inl (cA 2, (3280, .inl (fun _ => 0)))), (q34, .inr (1, [.ref q35, .int (0 : Int32)])), (q35, .inl (cA 2, (328, .inl (fun _ => 0))))]) rfl ?_
  refine n_putF hG (ws' := [(h0, .inr (7, [.ref q1, .int (0 : Int32), .ref q2, .ref q5, .ref q9, .ref q16, .ref q23, .ref q30, .ref q34])), (q1, .inl (cA 0, (5, .inl (fun _ => 0)))), (q2, .inr (5, [.int (0 : Int32), .int (0 : Int32), .ref q3, .ref q4])), (q3, .inl (cA 0, (10, .inl (fun _ => 0)))), (q4, .inl (cA 0, (50, .inl (fun _ => 0)))), (q5, .inr (4, [.int (0 : Int32), .ref q6, .ref q7, .ref q8])), (q6, .inl (cA 0, (12, .inl (fun _ => 0)))), (q7, .inl (cA 0, (12, .inl (fun _ => 0)))), (q8, .inl (cA 0, (12, .inl (fun _ => 0)))), (q9, .inr (6, [.int (0 : Int32), .ref q10, .ref q11, .ref q12, .ref q13, .ref q14, .ref q15])), (q10, .inl (cA 0, (60, .inl (fun _ => 0)))), (q11, .inl (cA 0, (60, .inl (fun _ => 0)))), (q12, .inl (cA 0, (240, .inl (fun _ => 0)))), (q13, .inl (cA 0, (60, .inl (fun _ => 0)))), (q14, .inl (cA 0, (60, .inl (fun _ => 0)))), (q15, .inl (cA 0, (4, .inl (upd (upd (upd (upd (fun _ => 0) (0 : Int32).toNatClampNeg (-1 : Int32)) (1 : Int32).toNatClampNeg (-1 : Int32)) (2 : Int32).toNatClampNeg (-1 : Int32)) (3 : Int32).toNatClampNeg (-1 : Int32))))), (q16, .inr (3, [.ref q9, .ref q17, .ref q20, .long 0])), (q17, .inr (0, [.ref q2, .ref q5, .int (0 : Int32), .ref q18, .ref q19, .int (0 : Int32), .int (0 : Int32)])), (q18, .inl (cA 0, (40, .inl (fun _ => 0)))), (q19, .inl (cA 0, (24, .inl (fun _ => 0)))), (q20, .inr (0, [.ref q2, .ref q5, .int (0 : Int32), .ref q21, .ref q22, .int (0 : Int32), .int (0 : Int32)])), (q21, .inl (cA 0, (40, .inl (fun _ => 0)))), (q22, .inl (cA 0, (24, .inl (fun _ => 0)))), (q23, .inr (3, [.ref q9, .ref q24, .ref q27, .long 0])), (q24, .inr (0, [.ref q2, .ref q5, .int (1 : Int32), .ref q25, .ref q26, .int (0 : Int32), .int (0 : Int32)])), (q25, .inl (cA 0, (40, .inl (fun _ => 0)))), (q26, .inl (cA 0, (24, .inl (fun _ => 0)))), (q27, .inr (0, [.ref q2, .ref q5, .int (1 : Int32), .ref q28, .ref q29, .int (0 : Int32), .int (0 : Int32)])), (q28, .inl (cA 0, (40, .inl (fun _ => 0)))), (q29, .inl (cA 0, (24, .inl (fun _ => 0)))), (q30, .inr (2, [.int (0 : Int32), .int (0 : Int32), .ref q31, .ref q32, .ref q33])), (q31, .inl (cA 1, (10, .inr (.inl (fun _ => 0))))), (q32, .inl (cA 0, (10, .inl (fun _ => 0)))), (q33, .inl (cA 2, (3280, .inl (fun _ => 0)))), (q34, .inr (1, [.ref q35, .int (0 : Int32)])), (q35, .inl (cA 2, (328, .inl (fun _ => 0))))]) 0 dX7_init_116 nfo_RX7_60 nff_RX7_60 rfl ⟨rfl, rfl⟩ (Nat.le_of_ble_eq_true rfl) rfl ?_
  exact hR _ _ _ ⟨q1, q2, q3, q4, q5, q6, q7, q8, q9, q10, q11, q12, q13, q14, q15, q16, q17, q18, q19, q20, q21, q22, q23, q24, q25, q26, q27, q28, q29, q30, q31, q32, q33, q34, q35, rfl⟩ dX7_init_119
def rm_X8_init : Room := { frames := 1, cells := 23, slots := 1201, locals := 20 }
def BW_X8_init (cA : Nat → ClassId) (h0 : Nat) (w : va_W) : Prop := ∃ q1 q2 q3 q4 q5 q6 q7 q8 q9 q10 q11 q12 q13 q14 q15 q16 q17 q18 q19 q20 q21 q22 q23 : Nat, w = [(h0, .inr (8, [.int 0, .ref q1, .int 0, .ref q2, .ref q3, .ref q4, .ref q5, .int 0, .ref q6, .ref q7, .ref q8, .ref q9, .int 0, .ref q10, .ref q11, .ref q12, .ref q13, .ref q14, .ref q15, .ref q16, .int 0, .ref q17, .int 0, .ref q18, .ref q19, .int 0, .ref q20, .int 0, .int 0, .int 0, .int 0, .ref q21, .ref q22, .ref q23, .int 0, .int 0, .int 0])), (q1, .inl (cA 0, (5, .inl (fun _ => 0)))), (q2, .inl (cA 3, (10, .inl (fun _ => 0)))), (q3, .inl (cA 3, (10, .inl (fun _ => 0)))), (q4, .inl (cA 0, (10, .inl (fun _ => 0)))), (q5, .inl (cA 0, (50, .inl (fun _ => 0)))), (q6, .inl (cA 0, (12, .inl (fun _ => 0)))), (q7, .inl (cA 0, (12, .inl (fun _ => 0)))), (q8, .inl (cA 0, (12, .inl (fun _ => 0)))), (q9, .inl (cA 0, (12, .inl (fun _ => 0)))), (q10, .inl (cA 0, (60, .inl (fun _ => 0)))), (q11, .inl (cA 0, (60, .inl (fun _ => 0)))), (q12, .inl (cA 0, (60, .inl (fun _ => 0)))), (q13, .inl (cA 0, (60, .inl (fun _ => 0)))), (q14, .inl (cA 0, (240, .inl (fun _ => 0)))), (q15, .inl (cA 3, (60, .inl (fun _ => 0)))), (q16, .inl (cA 0, (4, .inl (upd (upd (upd (upd (fun _ => 0) (0 : Int32).toNatClampNeg (-1 : Int32)) (1 : Int32).toNatClampNeg (-1 : Int32)) (2 : Int32).toNatClampNeg (-1 : Int32)) (3 : Int32).toNatClampNeg (-1 : Int32))))), (q17, .inl (cA 0, (40, .inl (fun _ => 0)))), (q18, .inl (cA 0, (12, .inl (fun _ => 0)))), (q19, .inl (cA 0, (12, .inl (fun _ => 0)))), (q20, .inl (cA 0, (40, .inl (fun _ => 0)))), (q21, .inl (cA 0, (10, .inl (fun _ => 0)))), (q22, .inl (cA 0, (400, .inl (fun _ => 0)))), (q23, .inl (cA 0, (10, .inl (fun _ => 0))))]
set_option maxRecDepth 100000 in
set_option maxHeartbeats 4000000 in
theorem c_X8_init (l : Launch) (D : va_G) (cA : Nat → ClassId) (h0 : Nat) : CtN l yX8_init cX8_init 2 rm_X8_init [.ref h0] D cA [(h0, .inr (8, [.int 0, .null, .int 0, .null, .null, .null, .null, .int 0, .null, .null, .null, .null, .int 0, .null, .null, .null, .null, .null, .null, .null, .int 0, .null, .int 0, .null, .null, .int 0, .null, .int 0, .int 0, .int 0, .int 0, .null, .null, .null, .int 0, .int 0, .int 0]))] (BW_X8_init cA h0) := by
  refine CtN.intro (own := RX8) (lv := [(0, .ref h0)]) (by decide +kernel) rfl rfl rfl (Nat.le_of_ble_eq_true rfl) ?_
  intro sz G hG hR
  refine n_ref hG 0 dX8_init_0 rfl ?_
  refine n_obj hG dX8_init_1 (tb16 (mem_i 4 rfl)) ⟨by decide, by decide⟩ (Nat.le_of_ble_eq_true rfl) ?_
  refine n_ref hG 0 dX8_init_4 rfl ?_
  refine n_iconst hG (v := (5 : Int32)) dX8_init_5 (by decide) ?_
  refine n_arr hG (t := 0) (N := 5) (x := .inl (fun _ => 0)) (ty := .int) (k' := 1) (n' := 5) dX8_init_6 (tb1 (mem_i 7 rfl)) rfl rfl (by simp) (fun _ => rfl) (by decide) rfl (Nat.le_of_ble_eq_true rfl) ⟨Nat.le_of_ble_eq_true rfl, Nat.le_of_ble_eq_true rfl⟩ rfl rfl (fun q1 => ?_)
  refine n_eq (ws' := [(h0, .inr (8, [.int 0, .null, .int 0, .null, .null, .null, .null, .int 0, .null, .null, .null, .null, .int 0, .null, .null, .null, .null, .null, .null, .null, .int 0, .null, .int 0, .null, .null, .int 0, .null, .int 0, .int 0, .int 0, .int 0, .null, .null, .null, .int 0, .int 0, .int 0])), (q1, .inl (cA 0, (5, .inl (fun _ => 0))))]) rfl ?_
  refine n_putF hG (ws' := [(h0, .inr (8, [.int 0, .ref q1, .int 0, .null, .null, .null, .null, .int 0, .null, .null, .null, .null, .int 0, .null, .null, .null, .null, .null, .null, .null, .int 0, .null, .int 0, .null, .null, .int 0, .null, .int 0, .int 0, .int 0, .int 0, .null, .null, .null, .int 0, .int 0, .int 0])), (q1, .inl (cA 0, (5, .inl (fun _ => 0))))]) 0 dX8_init_8 nfo_RX8_7 nff_RX8_7 rfl ⟨rfl, rfl⟩ (Nat.le_of_ble_eq_true rfl) rfl ?_
  refine n_ref hG 0 dX8_init_11 rfl ?_
  refine n_bipush hG (v := (10 : Int32)) dX8_init_12 (by decide) ?_
  refine n_arr hG (t := 3) (N := 10) (x := .inl (fun _ => 0)) (ty := .boolean) (k' := 2) (n' := 15) dX8_init_14 (tb18 (mem_i 19 rfl)) rfl rfl (by simp) (fun _ => rfl) (by decide) rfl (Nat.le_of_ble_eq_true rfl) ⟨Nat.le_of_ble_eq_true rfl, Nat.le_of_ble_eq_true rfl⟩ rfl rfl (fun q2 => ?_)
  refine n_eq (ws' := [(h0, .inr (8, [.int 0, .ref q1, .int 0, .null, .null, .null, .null, .int 0, .null, .null, .null, .null, .int 0, .null, .null, .null, .null, .null, .null, .null, .int 0, .null, .int 0, .null, .null, .int 0, .null, .int 0, .int 0, .int 0, .int 0, .null, .null, .null, .int 0, .int 0, .int 0])), (q1, .inl (cA 0, (5, .inl (fun _ => 0)))), (q2, .inl (cA 3, (10, .inl (fun _ => 0))))]) rfl ?_
  refine n_putF hG (ws' := [(h0, .inr (8, [.int 0, .ref q1, .int 0, .ref q2, .null, .null, .null, .int 0, .null, .null, .null, .null, .int 0, .null, .null, .null, .null, .null, .null, .null, .int 0, .null, .int 0, .null, .null, .int 0, .null, .int 0, .int 0, .int 0, .int 0, .null, .null, .null, .int 0, .int 0, .int 0])), (q1, .inl (cA 0, (5, .inl (fun _ => 0)))), (q2, .inl (cA 3, (10, .inl (fun _ => 0))))]) 0 dX8_init_16 nfo_RX8_13 nff_RX8_13 rfl ⟨rfl, rfl⟩ (Nat.le_of_ble_eq_true rfl) rfl ?_
  refine n_ref hG 0 dX8_init_19 rfl ?_
  refine n_bipush hG (v := (10 : Int32)) dX8_init_20 (by decide) ?_
  refine n_arr hG (t := 3) (N := 10) (x := .inl (fun _ => 0)) (ty := .boolean) (k' := 3) (n' := 25) dX8_init_22 (tb18 (mem_i 19 rfl)) rfl rfl (by simp) (fun _ => rfl) (by decide) rfl (Nat.le_of_ble_eq_true rfl) ⟨Nat.le_of_ble_eq_true rfl, Nat.le_of_ble_eq_true rfl⟩ rfl rfl (fun q3 => ?_)
  refine n_eq (ws' := [(h0, .inr (8, [.int 0, .ref q1, .int 0, .ref q2, .null, .null, .null, .int 0, .null, .null, .null, .null, .int 0, .null, .null, .null, .null, .null, .null, .null, .int 0, .null, .int 0, .null, .null, .int 0, .null, .int 0, .int 0, .int 0, .int 0, .null, .null, .null, .int 0, .int 0, .int 0])), (q1, .inl (cA 0, (5, .inl (fun _ => 0)))), (q2, .inl (cA 3, (10, .inl (fun _ => 0)))), (q3, .inl (cA 3, (10, .inl (fun _ => 0))))]) rfl ?_
  refine n_putF hG (ws' := [(h0, .inr (8, [.int 0, .ref q1, .int 0, .ref q2, .ref q3, .null, .null, .int 0, .null, .null, .null, .null, .int 0, .null, .null, .null, .null, .null, .null, .null, .int 0, .null, .int 0, .null, .null, .int 0, .null, .int 0, .int 0, .int 0, .int 0, .null, .null, .null, .int 0, .int 0, .int 0])), (q1, .inl (cA 0, (5, .inl (fun _ => 0)))), (q2, .inl (cA 3, (10, .inl (fun _ => 0)))), (q3, .inl (cA 3, (10, .inl (fun _ => 0))))]) 0 dX8_init_24 nfo_RX8_17 nff_RX8_17 rfl ⟨rfl, rfl⟩ (Nat.le_of_ble_eq_true rfl) rfl ?_
  refine n_ref hG 0 dX8_init_27 rfl ?_
  refine n_bipush hG (v := (10 : Int32)) dX8_init_28 (by decide) ?_
  refine n_arr hG (t := 0) (N := 10) (x := .inl (fun _ => 0)) (ty := .int) (k' := 4) (n' := 35) dX8_init_30 (tb1 (mem_i 7 rfl)) rfl rfl (by simp) (fun _ => rfl) (by decide) rfl (Nat.le_of_ble_eq_true rfl) ⟨Nat.le_of_ble_eq_true rfl, Nat.le_of_ble_eq_true rfl⟩ rfl rfl (fun q4 => ?_)
  refine n_eq (ws' := [(h0, .inr (8, [.int 0, .ref q1, .int 0, .ref q2, .ref q3, .null, .null, .int 0, .null, .null, .null, .null, .int 0, .null, .null, .null, .null, .null, .null, .null, .int 0, .null, .int 0, .null, .null, .int 0, .null, .int 0, .int 0, .int 0, .int 0, .null, .null, .null, .int 0, .int 0, .int 0])), (q1, .inl (cA 0, (5, .inl (fun _ => 0)))), (q2, .inl (cA 3, (10, .inl (fun _ => 0)))), (q3, .inl (cA 3, (10, .inl (fun _ => 0)))), (q4, .inl (cA 0, (10, .inl (fun _ => 0))))]) rfl ?_
  refine n_putF hG (ws' := [(h0, .inr (8, [.int 0, .ref q1, .int 0, .ref q2, .ref q3, .ref q4, .null, .int 0, .null, .null, .null, .null, .int 0, .null, .null, .null, .null, .null, .null, .null, .int 0, .null, .int 0, .null, .null, .int 0, .null, .int 0, .int 0, .int 0, .int 0, .null, .null, .null, .int 0, .int 0, .int 0])), (q1, .inl (cA 0, (5, .inl (fun _ => 0)))), (q2, .inl (cA 3, (10, .inl (fun _ => 0)))), (q3, .inl (cA 3, (10, .inl (fun _ => 0)))), (q4, .inl (cA 0, (10, .inl (fun _ => 0))))]) 0 dX8_init_32 nfo_RX8_20 nff_RX8_20 rfl ⟨rfl, rfl⟩ (Nat.le_of_ble_eq_true rfl) rfl ?_
  refine n_ref hG 0 dX8_init_35 rfl ?_
  refine n_bipush hG (v := (50 : Int32)) dX8_init_36 (by decide) ?_
  refine n_arr hG (t := 0) (N := 50) (x := .inl (fun _ => 0)) (ty := .int) (k' := 5) (n' := 85) dX8_init_38 (tb1 (mem_i 7 rfl)) rfl rfl (by simp) (fun _ => rfl) (by decide) rfl (Nat.le_of_ble_eq_true rfl) ⟨Nat.le_of_ble_eq_true rfl, Nat.le_of_ble_eq_true rfl⟩ rfl rfl (fun q5 => ?_)
  refine n_eq (ws' := [(h0, .inr (8, [.int 0, .ref q1, .int 0, .ref q2, .ref q3, .ref q4, .null, .int 0, .null, .null, .null, .null, .int 0, .null, .null, .null, .null, .null, .null, .null, .int 0, .null, .int 0, .null, .null, .int 0, .null, .int 0, .int 0, .int 0, .int 0, .null, .null, .null, .int 0, .int 0, .int 0])), (q1, .inl (cA 0, (5, .inl (fun _ => 0)))), (q2, .inl (cA 3, (10, .inl (fun _ => 0)))), (q3, .inl (cA 3, (10, .inl (fun _ => 0)))), (q4, .inl (cA 0, (10, .inl (fun _ => 0)))), (q5, .inl (cA 0, (50, .inl (fun _ => 0))))]) rfl ?_
  refine n_putF hG (ws' := [(h0, .inr (8, [.int 0, .ref q1, .int 0, .ref q2, .ref q3, .ref q4, .ref q5, .int 0, .null, .null, .null, .null, .int 0, .null, .null, .null, .null, .null, .null, .null, .int 0, .null, .int 0, .null, .null, .int 0, .null, .int 0, .int 0, .int 0, .int 0, .null, .null, .null, .int 0, .int 0, .int 0])), (q1, .inl (cA 0, (5, .inl (fun _ => 0)))), (q2, .inl (cA 3, (10, .inl (fun _ => 0)))), (q3, .inl (cA 3, (10, .inl (fun _ => 0)))), (q4, .inl (cA 0, (10, .inl (fun _ => 0)))), (q5, .inl (cA 0, (50, .inl (fun _ => 0))))]) 0 dX8_init_40 nfo_RX8_23 nff_RX8_23 rfl ⟨rfl, rfl⟩ (Nat.le_of_ble_eq_true rfl) rfl ?_
  refine n_ref hG 0 dX8_init_43 rfl ?_
  refine n_bipush hG (v := (12 : Int32)) dX8_init_44 (by decide) ?_
  refine n_arr hG (t := 0) (N := 12) (x := .inl (fun _ => 0)) (ty := .int) (k' := 6) (n' := 97) dX8_init_46 (tb1 (mem_i 7 rfl)) rfl rfl (by simp) (fun _ => rfl) (by decide) rfl (Nat.le_of_ble_eq_true rfl) ⟨Nat.le_of_ble_eq_true rfl, Nat.le_of_ble_eq_true rfl⟩ rfl rfl (fun q6 => ?_)
  refine n_eq (ws' := [(h0, .inr (8, [.int 0, .ref q1, .int 0, .ref q2, .ref q3, .ref q4, .ref q5, .int 0, .null, .null, .null, .null, .int 0, .null, .null, .null, .null, .null, .null, .null, .int 0, .null, .int 0, .null, .null, .int 0, .null, .int 0, .int 0, .int 0, .int 0, .null, .null, .null, .int 0, .int 0, .int 0])), (q1, .inl (cA 0, (5, .inl (fun _ => 0)))), (q2, .inl (cA 3, (10, .inl (fun _ => 0)))), (q3, .inl (cA 3, (10, .inl (fun _ => 0)))), (q4, .inl (cA 0, (10, .inl (fun _ => 0)))), (q5, .inl (cA 0, (50, .inl (fun _ => 0)))), (q6, .inl (cA 0, (12, .inl (fun _ => 0))))]) rfl ?_
  refine n_putF hG (ws' := [(h0, .inr (8, [.int 0, .ref q1, .int 0, .ref q2, .ref q3, .ref q4, .ref q5, .int 0, .ref q6, .null, .null, .null, .int 0, .null, .null, .null, .null, .null, .null, .null, .int 0, .null, .int 0, .null, .null, .int 0, .null, .int 0, .int 0, .int 0, .int 0, .null, .null, .null, .int 0, .int 0, .int 0])), (q1, .inl (cA 0, (5, .inl (fun _ => 0)))), (q2, .inl (cA 3, (10, .inl (fun _ => 0)))), (q3, .inl (cA 3, (10, .inl (fun _ => 0)))), (q4, .inl (cA 0, (10, .inl (fun _ => 0)))), (q5, .inl (cA 0, (50, .inl (fun _ => 0)))), (q6, .inl (cA 0, (12, .inl (fun _ => 0))))]) 0 dX8_init_48 nfo_RX8_26 nff_RX8_26 rfl ⟨rfl, rfl⟩ (Nat.le_of_ble_eq_true rfl) rfl ?_
  refine n_ref hG 0 dX8_init_51 rfl ?_
  refine n_bipush hG (v := (12 : Int32)) dX8_init_52 (by decide) ?_
  refine n_arr hG (t := 0) (N := 12) (x := .inl (fun _ => 0)) (ty := .int) (k' := 7) (n' := 109) dX8_init_54 (tb1 (mem_i 7 rfl)) rfl rfl (by simp) (fun _ => rfl) (by decide) rfl (Nat.le_of_ble_eq_true rfl) ⟨Nat.le_of_ble_eq_true rfl, Nat.le_of_ble_eq_true rfl⟩ rfl rfl (fun q7 => ?_)
  refine n_eq (ws' := [(h0, .inr (8, [.int 0, .ref q1, .int 0, .ref q2, .ref q3, .ref q4, .ref q5, .int 0, .ref q6, .null, .null, .null, .int 0, .null, .null, .null, .null, .null, .null, .null, .int 0, .null, .int 0, .null, .null, .int 0, .null, .int 0, .int 0, .int 0, .int 0, .null, .null, .null, .int 0, .int 0, .int 0])), (q1, .inl (cA 0, (5, .inl (fun _ => 0)))), (q2, .inl (cA 3, (10, .inl (fun _ => 0)))), (q3, .inl (cA 3, (10, .inl (fun _ => 0)))), (q4, .inl (cA 0, (10, .inl (fun _ => 0)))), (q5, .inl (cA 0, (50, .inl (fun _ => 0)))), (q6, .inl (cA 0, (12, .inl (fun _ => 0)))), (q7, .inl (cA 0, (12, .inl (fun _ => 0))))]) rfl ?_
  refine n_putF hG (ws' := [(h0, .inr (8, [.int 0, .ref q1, .int 0, .ref q2, .ref q3, .ref q4, .ref q5, .int 0, .ref q6, .ref q7, .null, .null, .int 0, .null, .null, .null, .null, .null, .null, .null, .int 0, .null, .int 0, .null, .null, .int 0, .null, .int 0, .int 0, .int 0, .int 0, .null, .null, .null, .int 0, .int 0, .int 0])), (q1, .inl (cA 0, (5, .inl (fun _ => 0)))), (q2, .inl (cA 3, (10, .inl (fun _ => 0)))), (q3, .inl (cA 3, (10, .inl (fun _ => 0)))), (q4, .inl (cA 0, (10, .inl (fun _ => 0)))), (q5, .inl (cA 0, (50, .inl (fun _ => 0)))), (q6, .inl (cA 0, (12, .inl (fun _ => 0)))), (q7, .inl (cA 0, (12, .inl (fun _ => 0))))]) 0 dX8_init_56 nfo_RX8_29 nff_RX8_29 rfl ⟨rfl, rfl⟩ (Nat.le_of_ble_eq_true rfl) rfl ?_
  refine n_ref hG 0 dX8_init_59 rfl ?_
  refine n_bipush hG (v := (12 : Int32)) dX8_init_60 (by decide) ?_
  refine n_arr hG (t := 0) (N := 12) (x := .inl (fun _ => 0)) (ty := .int) (k' := 8) (n' := 121) dX8_init_62 (tb1 (mem_i 7 rfl)) rfl rfl (by simp) (fun _ => rfl) (by decide) rfl (Nat.le_of_ble_eq_true rfl) ⟨Nat.le_of_ble_eq_true rfl, Nat.le_of_ble_eq_true rfl⟩ rfl rfl (fun q8 => ?_)
  refine n_eq (ws' := [(h0, .inr (8, [.int 0, .ref q1, .int 0, .ref q2, .ref q3, .ref q4, .ref q5, .int 0, .ref q6, .ref q7, .null, .null, .int 0, .null, .null, .null, .null, .null, .null, .null, .int 0, .null, .int 0, .null, .null, .int 0, .null, .int 0, .int 0, .int 0, .int 0, .null, .null, .null, .int 0, .int 0, .int 0])), (q1, .inl (cA 0, (5, .inl (fun _ => 0)))), (q2, .inl (cA 3, (10, .inl (fun _ => 0)))), (q3, .inl (cA 3, (10, .inl (fun _ => 0)))), (q4, .inl (cA 0, (10, .inl (fun _ => 0)))), (q5, .inl (cA 0, (50, .inl (fun _ => 0)))), (q6, .inl (cA 0, (12, .inl (fun _ => 0)))), (q7, .inl (cA 0, (12, .inl (fun _ => 0)))), (q8, .inl (cA 0, (12, .inl (fun _ => 0))))]) rfl ?_
  refine n_putF hG (ws' := [(h0, .inr (8, [.int 0, .ref q1, .int 0, .ref q2, .ref q3, .ref q4, .ref q5, .int 0, .ref q6, .ref q7, .ref q8, .null, .int 0, .null, .null, .null, .null, .null, .null, .null, .int 0, .null, .int 0, .null, .null, .int 0, .null, .int 0, .int 0, .int 0, .int 0, .null, .null, .null, .int 0, .int 0, .int 0])), (q1, .inl (cA 0, (5, .inl (fun _ => 0)))), (q2, .inl (cA 3, (10, .inl (fun _ => 0)))), (q3, .inl (cA 3, (10, .inl (fun _ => 0)))), (q4, .inl (cA 0, (10, .inl (fun _ => 0)))), (q5, .inl (cA 0, (50, .inl (fun _ => 0)))), (q6, .inl (cA 0, (12, .inl (fun _ => 0)))), (q7, .inl (cA 0, (12, .inl (fun _ => 0)))), (q8, .inl (cA 0, (12, .inl (fun _ => 0))))]) 0 dX8_init_64 nfo_RX8_32 nff_RX8_32 rfl ⟨rfl, rfl⟩ (Nat.le_of_ble_eq_true rfl) rfl ?_
  refine n_ref hG 0 dX8_init_67 rfl ?_
  refine n_bipush hG (v := (12 : Int32)) dX8_init_68 (by decide) ?_
  refine n_arr hG (t := 0) (N := 12) (x := .inl (fun _ => 0)) (ty := .int) (k' := 9) (n' := 133) dX8_init_70 (tb1 (mem_i 7 rfl)) rfl rfl (by simp) (fun _ => rfl) (by decide) rfl (Nat.le_of_ble_eq_true rfl) ⟨Nat.le_of_ble_eq_true rfl, Nat.le_of_ble_eq_true rfl⟩ rfl rfl (fun q9 => ?_)
  refine n_eq (ws' := [(h0, .inr (8, [.int 0, .ref q1, .int 0, .ref q2, .ref q3, .ref q4, .ref q5, .int 0, .ref q6, .ref q7, .ref q8, .null, .int 0, .null, .null, .null, .null, .null, .null, .null, .int 0, .null, .int 0, .null, .null, .int 0, .null, .int 0, .int 0, .int 0, .int 0, .null, .null, .null, .int 0, .int 0, .int 0])), (q1, .inl (cA 0, (5, .inl (fun _ => 0)))), (q2, .inl (cA 3, (10, .inl (fun _ => 0)))), (q3, .inl (cA 3, (10, .inl (fun _ => 0)))), (q4, .inl (cA 0, (10, .inl (fun _ => 0)))), (q5, .inl (cA 0, (50, .inl (fun _ => 0)))), (q6, .inl (cA 0, (12, .inl (fun _ => 0)))), (q7, .inl (cA 0, (12, .inl (fun _ => 0)))), (q8, .inl (cA 0, (12, .inl (fun _ => 0)))), (q9, .inl (cA 0, (12, .inl (fun _ => 0))))]) rfl ?_
  refine n_putF hG (ws' := [(h0, .inr (8, [.int 0, .ref q1, .int 0, .ref q2, .ref q3, .ref q4, .ref q5, .int 0, .ref q6, .ref q7, .ref q8, .ref q9, .int 0, .null, .null, .null, .null, .null, .null, .null, .int 0, .null, .int 0, .null, .null, .int 0, .null, .int 0, .int 0, .int 0, .int 0, .null, .null, .null, .int 0, .int 0, .int 0])), (q1, .inl (cA 0, (5, .inl (fun _ => 0)))), (q2, .inl (cA 3, (10, .inl (fun _ => 0)))), (q3, .inl (cA 3, (10, .inl (fun _ => 0)))), (q4, .inl (cA 0, (10, .inl (fun _ => 0)))), (q5, .inl (cA 0, (50, .inl (fun _ => 0)))), (q6, .inl (cA 0, (12, .inl (fun _ => 0)))), (q7, .inl (cA 0, (12, .inl (fun _ => 0)))), (q8, .inl (cA 0, (12, .inl (fun _ => 0)))), (q9, .inl (cA 0, (12, .inl (fun _ => 0))))]) 0 dX8_init_72 nfo_RX8_35 nff_RX8_35 rfl ⟨rfl, rfl⟩ (Nat.le_of_ble_eq_true rfl) rfl ?_
  refine n_ref hG 0 dX8_init_75 rfl ?_
  refine n_bipush hG (v := (60 : Int32)) dX8_init_76 (by decide) ?_
  refine n_arr hG (t := 0) (N := 60) (x := .inl (fun _ => 0)) (ty := .int) (k' := 10) (n' := 193) dX8_init_78 (tb1 (mem_i 7 rfl)) rfl rfl (by simp) (fun _ => rfl) (by decide) rfl (Nat.le_of_ble_eq_true rfl) ⟨Nat.le_of_ble_eq_true rfl, Nat.le_of_ble_eq_true rfl⟩ rfl rfl (fun q10 => ?_)
  refine n_eq (ws' := [(h0, .inr (8, [.int 0, .ref q1, .int 0, .ref q2, .ref q3, .ref q4, .ref q5, .int 0, .ref q6, .ref q7, .ref q8, .ref q9, .int 0, .null, .null, .null, .null, .null, .null, .null, .int 0, .null, .int 0, .null, .null, .int 0, .null, .int 0, .int 0, .int 0, .int 0, .null, .null, .null, .int 0, .int 0, .int 0])), (q1, .inl (cA 0, (5, .inl (fun _ => 0)))), (q2, .inl (cA 3, (10, .inl (fun _ => 0)))), (q3, .inl (cA 3, (10, .inl (fun _ => 0)))), (q4, .inl (cA 0, (10, .inl (fun _ => 0)))), (q5, .inl (cA 0, (50, .inl (fun _ => 0)))), (q6, .inl (cA 0, (12, .inl (fun _ => 0)))), (q7, .inl (cA 0, (12, .inl (fun _ => 0)))), (q8, .inl (cA 0, (12, .inl (fun _ => 0)))), (q9, .inl (cA 0, (12, .inl (fun _ => 0)))), (q10, .inl (cA 0, (60, .inl (fun _ => 0))))]) rfl ?_
  refine n_putF hG (ws' := [(h0, .inr (8, [.int 0, .ref q1, .int 0, .ref q2, .ref q3, .ref q4, .ref q5, .int 0, .ref q6, .ref q7, .ref q8, .ref q9, .int 0, .ref q10, .null, .null, .null, .null, .null, .null, .int 0, .null, .int 0, .null, .null, .int 0, .null, .int 0, .int 0, .int 0, .int 0, .null, .null, .null, .int 0, .int 0, .int 0])), (q1, .inl (cA 0, (5, .inl (fun _ => 0)))), (q2, .inl (cA 3, (10, .inl (fun _ => 0)))), (q3, .inl (cA 3, (10, .inl (fun _ => 0)))), (q4, .inl (cA 0, (10, .inl (fun _ => 0)))), (q5, .inl (cA 0, (50, .inl (fun _ => 0)))), (q6, .inl (cA 0, (12, .inl (fun _ => 0)))), (q7, .inl (cA 0, (12, .inl (fun _ => 0)))), (q8, .inl (cA 0, (12, .inl (fun _ => 0)))), (q9, .inl (cA 0, (12, .inl (fun _ => 0)))), (q10, .inl (cA 0, (60, .inl (fun _ => 0))))]) 0 dX8_init_80 nfo_RX8_38 nff_RX8_38 rfl ⟨rfl, rfl⟩ (Nat.le_of_ble_eq_true rfl) rfl ?_
  refine n_ref hG 0 dX8_init_83 rfl ?_
  refine n_bipush hG (v := (60 : Int32)) dX8_init_84 (by decide) ?_
  refine n_arr hG (t := 0) (N := 60) (x := .inl (fun _ => 0)) (ty := .int) (k' := 11) (n' := 253) dX8_init_86 (tb1 (mem_i 7 rfl)) rfl rfl (by simp) (fun _ => rfl) (by decide) rfl (Nat.le_of_ble_eq_true rfl) ⟨Nat.le_of_ble_eq_true rfl, Nat.le_of_ble_eq_true rfl⟩ rfl rfl (fun q11 => ?_)
  refine n_eq (ws' := [(h0, .inr (8, [.int 0, .ref q1, .int 0, .ref q2, .ref q3, .ref q4, .ref q5, .int 0, .ref q6, .ref q7, .ref q8, .ref q9, .int 0, .ref q10, .null, .null, .null, .null, .null, .null, .int 0, .null, .int 0, .null, .null, .int 0, .null, .int 0, .int 0, .int 0, .int 0, .null, .null, .null, .int 0, .int 0, .int 0])), (q1, .inl (cA 0, (5, .inl (fun _ => 0)))), (q2, .inl (cA 3, (10, .inl (fun _ => 0)))), (q3, .inl (cA 3, (10, .inl (fun _ => 0)))), (q4, .inl (cA 0, (10, .inl (fun _ => 0)))), (q5, .inl (cA 0, (50, .inl (fun _ => 0)))), (q6, .inl (cA 0, (12, .inl (fun _ => 0)))), (q7, .inl (cA 0, (12, .inl (fun _ => 0)))), (q8, .inl (cA 0, (12, .inl (fun _ => 0)))), (q9, .inl (cA 0, (12, .inl (fun _ => 0)))), (q10, .inl (cA 0, (60, .inl (fun _ => 0)))), (q11, .inl (cA 0, (60, .inl (fun _ => 0))))]) rfl ?_
  refine n_putF hG (ws' := [(h0, .inr (8, [.int 0, .ref q1, .int 0, .ref q2, .ref q3, .ref q4, .ref q5, .int 0, .ref q6, .ref q7, .ref q8, .ref q9, .int 0, .ref q10, .ref q11, .null, .null, .null, .null, .null, .int 0, .null, .int 0, .null, .null, .int 0, .null, .int 0, .int 0, .int 0, .int 0, .null, .null, .null, .int 0, .int 0, .int 0])), (q1, .inl (cA 0, (5, .inl (fun _ => 0)))), (q2, .inl (cA 3, (10, .inl (fun _ => 0)))), (q3, .inl (cA 3, (10, .inl (fun _ => 0)))), (q4, .inl (cA 0, (10, .inl (fun _ => 0)))), (q5, .inl (cA 0, (50, .inl (fun _ => 0)))), (q6, .inl (cA 0, (12, .inl (fun _ => 0)))), (q7, .inl (cA 0, (12, .inl (fun _ => 0)))), (q8, .inl (cA 0, (12, .inl (fun _ => 0)))), (q9, .inl (cA 0, (12, .inl (fun _ => 0)))), (q10, .inl (cA 0, (60, .inl (fun _ => 0)))), (q11, .inl (cA 0, (60, .inl (fun _ => 0))))]) 0 dX8_init_88 nfo_RX8_41 nff_RX8_41 rfl ⟨rfl, rfl⟩ (Nat.le_of_ble_eq_true rfl) rfl ?_
  refine n_ref hG 0 dX8_init_91 rfl ?_
  refine n_bipush hG (v := (60 : Int32)) dX8_init_92 (by decide) ?_
  refine n_arr hG (t := 0) (N := 60) (x := .inl (fun _ => 0)) (ty := .int) (k' := 12) (n' := 313) dX8_init_94 (tb1 (mem_i 7 rfl)) rfl rfl (by simp) (fun _ => rfl) (by decide) rfl (Nat.le_of_ble_eq_true rfl) ⟨Nat.le_of_ble_eq_true rfl, Nat.le_of_ble_eq_true rfl⟩ rfl rfl (fun q12 => ?_)
  refine n_eq (ws' := [(h0, .inr (8, [.int 0, .ref q1, .int 0, .ref q2, .ref q3, .ref q4, .ref q5, .int 0, .ref q6, .ref q7, .ref q8, .ref q9, .int 0, .ref q10, .ref q11, .null, .null, .null, .null, .null, .int 0, .null, .int 0, .null, .null, .int 0, .null, .int 0, .int 0, .int 0, .int 0, .null, .null, .null, .int 0, .int 0, .int 0])), (q1, .inl (cA 0, (5, .inl (fun _ => 0)))), (q2, .inl (cA 3, (10, .inl (fun _ => 0)))), (q3, .inl (cA 3, (10, .inl (fun _ => 0)))), (q4, .inl (cA 0, (10, .inl (fun _ => 0)))), (q5, .inl (cA 0, (50, .inl (fun _ => 0)))), (q6, .inl (cA 0, (12, .inl (fun _ => 0)))), (q7, .inl (cA 0, (12, .inl (fun _ => 0)))), (q8, .inl (cA 0, (12, .inl (fun _ => 0)))), (q9, .inl (cA 0, (12, .inl (fun _ => 0)))), (q10, .inl (cA 0, (60, .inl (fun _ => 0)))), (q11, .inl (cA 0, (60, .inl (fun _ => 0)))), (q12, .inl (cA 0, (60, .inl (fun _ => 0))))]) rfl ?_
  refine n_putF hG (ws' := [(h0, .inr (8, [.int 0, .ref q1, .int 0, .ref q2, .ref q3, .ref q4, .ref q5, .int 0, .ref q6, .ref q7, .ref q8, .ref q9, .int 0, .ref q10, .ref q11, .ref q12, .null, .null, .null, .null, .int 0, .null, .int 0, .null, .null, .int 0, .null, .int 0, .int 0, .int 0, .int 0, .null, .null, .null, .int 0, .int 0, .int 0])), (q1, .inl (cA 0, (5, .inl (fun _ => 0)))), (q2, .inl (cA 3, (10, .inl (fun _ => 0)))), (q3, .inl (cA 3, (10, .inl (fun _ => 0)))), (q4, .inl (cA 0, (10, .inl (fun _ => 0)))), (q5, .inl (cA 0, (50, .inl (fun _ => 0)))), (q6, .inl (cA 0, (12, .inl (fun _ => 0)))), (q7, .inl (cA 0, (12, .inl (fun _ => 0)))), (q8, .inl (cA 0, (12, .inl (fun _ => 0)))), (q9, .inl (cA 0, (12, .inl (fun _ => 0)))), (q10, .inl (cA 0, (60, .inl (fun _ => 0)))), (q11, .inl (cA 0, (60, .inl (fun _ => 0)))), (q12, .inl (cA 0, (60, .inl (fun _ => 0))))]) 0 dX8_init_96 nfo_RX8_44 nff_RX8_44 rfl ⟨rfl, rfl⟩ (Nat.le_of_ble_eq_true rfl) rfl ?_
  refine n_ref hG 0 dX8_init_99 rfl ?_
  refine n_bipush hG (v := (60 : Int32)) dX8_init_100 (by decide) ?_
  refine n_arr hG (t := 0) (N := 60) (x := .inl (fun _ => 0)) (ty := .int) (k' := 13) (n' := 373) dX8_init_102 (tb1 (mem_i 7 rfl)) rfl rfl (by simp) (fun _ => rfl) (by decide) rfl (Nat.le_of_ble_eq_true rfl) ⟨Nat.le_of_ble_eq_true rfl, Nat.le_of_ble_eq_true rfl⟩ rfl rfl (fun q13 => ?_)
  refine n_eq (ws' := [(h0, .inr (8, [.int 0, .ref q1, .int 0, .ref q2, .ref q3, .ref q4, .ref q5, .int 0, .ref q6, .ref q7, .ref q8, .ref q9, .int 0, .ref q10, .ref q11, .ref q12, .null, .null, .null, .null, .int 0, .null, .int 0, .null, .null, .int 0, .null, .int 0, .int 0, .int 0, .int 0, .null, .null, .null, .int 0, .int 0, .int 0])), (q1, .inl (cA 0, (5, .inl (fun _ => 0)))), (q2, .inl (cA 3, (10, .inl (fun _ => 0)))), (q3, .inl (cA 3, (10, .inl (fun _ => 0)))), (q4, .inl (cA 0, (10, .inl (fun _ => 0)))), (q5, .inl (cA 0, (50, .inl (fun _ => 0)))), (q6, .inl (cA 0, (12, .inl (fun _ => 0)))), (q7, .inl (cA 0, (12, .inl (fun _ => 0)))), (q8, .inl (cA 0, (12, .inl (fun _ => 0)))), (q9, .inl (cA 0, (12, .inl (fun _ => 0)))), (q10, .inl (cA 0, (60, .inl (fun _ => 0)))), (q11, .inl (cA 0, (60, .inl (fun _ => 0)))), (q12, .inl (cA 0, (60, .inl (fun _ => 0)))), (q13, .inl (cA 0, (60, .inl (fun _ => 0))))]) rfl ?_
  refine n_putF hG (ws' := [(h0, .inr (8, [.int 0, .ref q1, .int 0, .ref q2, .ref q3, .ref q4, .ref q5, .int 0, .ref q6, .ref q7, .ref q8, .ref q9, .int 0, .ref q10, .ref q11, .ref q12, .ref q13, .null, .null, .null, .int 0, .null, .int 0, .null, .null, .int 0, .null, .int 0, .int 0, .int 0, .int 0, .null, .null, .null, .int 0, .int 0, .int 0])), (q1, .inl (cA 0, (5, .inl (fun _ => 0)))), (q2, .inl (cA 3, (10, .inl (fun _ => 0)))), (q3, .inl (cA 3, (10, .inl (fun _ => 0)))), (q4, .inl (cA 0, (10, .inl (fun _ => 0)))), (q5, .inl (cA 0, (50, .inl (fun _ => 0)))), (q6, .inl (cA 0, (12, .inl (fun _ => 0)))), (q7, .inl (cA 0, (12, .inl (fun _ => 0)))), (q8, .inl (cA 0, (12, .inl (fun _ => 0)))), (q9, .inl (cA 0, (12, .inl (fun _ => 0)))), (q10, .inl (cA 0, (60, .inl (fun _ => 0)))), (q11, .inl (cA 0, (60, .inl (fun _ => 0)))), (q12, .inl (cA 0, (60, .inl (fun _ => 0)))), (q13, .inl (cA 0, (60, .inl (fun _ => 0))))]) 0 dX8_init_104 nfo_RX8_47 nff_RX8_47 rfl ⟨rfl, rfl⟩ (Nat.le_of_ble_eq_true rfl) rfl ?_
  refine n_ref hG 0 dX8_init_107 rfl ?_
  refine n_sipush hG (v := (240 : Int32)) dX8_init_108 (by decide) ?_
  refine n_arr hG (t := 0) (N := 240) (x := .inl (fun _ => 0)) (ty := .int) (k' := 14) (n' := 613) dX8_init_111 (tb1 (mem_i 7 rfl)) rfl rfl (by simp) (fun _ => rfl) (by decide) rfl (Nat.le_of_ble_eq_true rfl) ⟨Nat.le_of_ble_eq_true rfl, Nat.le_of_ble_eq_true rfl⟩ rfl rfl (fun q14 => ?_)
  refine n_eq (ws' := [(h0, .inr (8, [.int 0, .ref q1, .int 0, .ref q2, .ref q3, .ref q4, .ref q5, .int 0, .ref q6, .ref q7, .ref q8, .ref q9, .int 0, .ref q10, .ref q11, .ref q12, .ref q13, .null, .null, .null, .int 0, .null, .int 0, .null, .null, .int 0, .null, .int 0, .int 0, .int 0, .int 0, .null, .null, .null, .int 0, .int 0, .int 0])), (q1, .inl (cA 0, (5, .inl (fun _ => 0)))), (q2, .inl (cA 3, (10, .inl (fun _ => 0)))), (q3, .inl (cA 3, (10, .inl (fun _ => 0)))), (q4, .inl (cA 0, (10, .inl (fun _ => 0)))), (q5, .inl (cA 0, (50, .inl (fun _ => 0)))), (q6, .inl (cA 0, (12, .inl (fun _ => 0)))), (q7, .inl (cA 0, (12, .inl (fun _ => 0)))), (q8, .inl (cA 0, (12, .inl (fun _ => 0)))), (q9, .inl (cA 0, (12, .inl (fun _ => 0)))), (q10, .inl (cA 0, (60, .inl (fun _ => 0)))), (q11, .inl (cA 0, (60, .inl (fun _ => 0)))), (q12, .inl (cA 0, (60, .inl (fun _ => 0)))), (q13, .inl (cA 0, (60, .inl (fun _ => 0)))), (q14, .inl (cA 0, (240, .inl (fun _ => 0))))]) rfl ?_
  refine n_putF hG (ws' := [(h0, .inr (8, [.int 0, .ref q1, .int 0, .ref q2, .ref q3, .ref q4, .ref q5, .int 0, .ref q6, .ref q7, .ref q8, .ref q9, .int 0, .ref q10, .ref q11, .ref q12, .ref q13, .ref q14, .null, .null, .int 0, .null, .int 0, .null, .null, .int 0, .null, .int 0, .int 0, .int 0, .int 0, .null, .null, .null, .int 0, .int 0, .int 0])), (q1, .inl (cA 0, (5, .inl (fun _ => 0)))), (q2, .inl (cA 3, (10, .inl (fun _ => 0)))), (q3, .inl (cA 3, (10, .inl (fun _ => 0)))), (q4, .inl (cA 0, (10, .inl (fun _ => 0)))), (q5, .inl (cA 0, (50, .inl (fun _ => 0)))), (q6, .inl (cA 0, (12, .inl (fun _ => 0)))), (q7, .inl (cA 0, (12, .inl (fun _ => 0)))), (q8, .inl (cA 0, (12, .inl (fun _ => 0)))), (q9, .inl (cA 0, (12, .inl (fun _ => 0)))), (q10, .inl (cA 0, (60, .inl (fun _ => 0)))), (q11, .inl (cA 0, (60, .inl (fun _ => 0)))), (q12, .inl (cA 0, (60, .inl (fun _ => 0)))), (q13, .inl (cA 0, (60, .inl (fun _ => 0)))), (q14, .inl (cA 0, (240, .inl (fun _ => 0))))]) 0 dX8_init_113 nfo_RX8_50 nff_RX8_50 rfl ⟨rfl, rfl⟩ (Nat.le_of_ble_eq_true rfl) rfl ?_
  refine n_ref hG 0 dX8_init_116 rfl ?_
  refine n_bipush hG (v := (60 : Int32)) dX8_init_117 (by decide) ?_
  refine n_arr hG (t := 3) (N := 60) (x := .inl (fun _ => 0)) (ty := .boolean) (k' := 15) (n' := 673) dX8_init_119 (tb18 (mem_i 19 rfl)) rfl rfl (by simp) (fun _ => rfl) (by decide) rfl (Nat.le_of_ble_eq_true rfl) ⟨Nat.le_of_ble_eq_true rfl, Nat.le_of_ble_eq_true rfl⟩ rfl rfl (fun q15 => ?_)
  refine n_eq (ws' := [(h0, .inr (8, [.int 0, .ref q1, .int 0, .ref q2, .ref q3, .ref q4, .ref q5, .int 0, .ref q6, .ref q7, .ref q8, .ref q9, .int 0, .ref q10, .ref q11, .ref q12, .ref q13, .ref q14, .null, .null, .int 0, .null, .int 0, .null, .null, .int 0, .null, .int 0, .int 0, .int 0, .int 0, .null, .null, .null, .int 0, .int 0, .int 0])), (q1, .inl (cA 0, (5, .inl (fun _ => 0)))), (q2, .inl (cA 3, (10, .inl (fun _ => 0)))), (q3, .inl (cA 3, (10, .inl (fun _ => 0)))), (q4, .inl (cA 0, (10, .inl (fun _ => 0)))), (q5, .inl (cA 0, (50, .inl (fun _ => 0)))), (q6, .inl (cA 0, (12, .inl (fun _ => 0)))), (q7, .inl (cA 0, (12, .inl (fun _ => 0)))), (q8, .inl (cA 0, (12, .inl (fun _ => 0)))), (q9, .inl (cA 0, (12, .inl (fun _ => 0)))), (q10, .inl (cA 0, (60, .inl (fun _ => 0)))), (q11, .inl (cA 0, (60, .inl (fun _ => 0)))), (q12, .inl (cA 0, (60, .inl (fun _ => 0)))), (q13, .inl (cA 0, (60, .inl (fun _ => 0)))), (q14, .inl (cA 0, (240, .inl (fun _ => 0)))), (q15, .inl (cA 3, (60, .inl (fun _ => 0))))]) rfl ?_
  refine n_putF hG (ws' := [(h0, .inr (8, [.int 0, .ref q1, .int 0, .ref q2, .ref q3, .ref q4, .ref q5, .int 0, .ref q6, .ref q7, .ref q8, .ref q9, .int 0, .ref q10, .ref q11, .ref q12, .ref q13, .ref q14, .ref q15, .null, .int 0, .null, .int 0, .null, .null, .int 0, .null, .int 0, .int 0, .int 0, .int 0, .null, .null, .null, .int 0, .int 0, .int 0])), (q1, .inl (cA 0, (5, .inl (fun _ => 0)))), (q2, .inl (cA 3, (10, .inl (fun _ => 0)))), (q3, .inl (cA 3, (10, .inl (fun _ => 0)))), (q4, .inl (cA 0, (10, .inl (fun _ => 0)))), (q5, .inl (cA 0, (50, .inl (fun _ => 0)))), (q6, .inl (cA 0, (12, .inl (fun _ => 0)))), (q7, .inl (cA 0, (12, .inl (fun _ => 0)))), (q8, .inl (cA 0, (12, .inl (fun _ => 0)))), (q9, .inl (cA 0, (12, .inl (fun _ => 0)))), (q10, .inl (cA 0, (60, .inl (fun _ => 0)))), (q11, .inl (cA 0, (60, .inl (fun _ => 0)))), (q12, .inl (cA 0, (60, .inl (fun _ => 0)))), (q13, .inl (cA 0, (60, .inl (fun _ => 0)))), (q14, .inl (cA 0, (240, .inl (fun _ => 0)))), (q15, .inl (cA 3, (60, .inl (fun _ => 0))))]) 0 dX8_init_121 nfo_RX8_53 nff_RX8_53 rfl ⟨rfl, rfl⟩ (Nat.le_of_ble_eq_true rfl) rfl ?_
  refine n_ref hG 0 dX8_init_124 rfl ?_
  refine n_iconst hG (v := (4 : Int32)) dX8_init_125 (by decide) ?_
  refine n_arr hG (t := 0) (N := 4) (x := .inl (fun _ => 0)) (ty := .int) (k' := 16) (n' := 677) dX8_init_126 (tb1 (mem_i 7 rfl)) rfl rfl (by simp) (fun _ => rfl) (by decide) rfl (Nat.le_of_ble_eq_true rfl) ⟨Nat.le_of_ble_eq_true rfl, Nat.le_of_ble_eq_true rfl⟩ rfl rfl (fun q16 => ?_)
  refine n_eq (ws' := [(h0, .inr (8, [.int 0, .ref q1, .int 0, .ref q2, .ref q3, .ref q4, .ref q5, .int 0, .ref q6, .ref q7, .ref q8, .ref q9, .int 0, .ref q10, .ref q11, .ref q12, .ref q13, .ref q14, .ref q15, .null, .int 0, .null, .int 0, .null, .null, .int 0, .null, .int 0, .int 0, .int 0, .int 0, .null, .null, .null, .int 0, .int 0, .int 0])), (q1, .inl (cA 0, (5, .inl (fun _ => 0)))), (q2, .inl (cA 3, (10, .inl (fun _ => 0)))), (q3, .inl (cA 3, (10, .inl (fun _ => 0)))), (q4, .inl (cA 0, (10, .inl (fun _ => 0)))), (q5, .inl (cA 0, (50, .inl (fun _ => 0)))), (q6, .inl (cA 0, (12, .inl (fun _ => 0)))), (q7, .inl (cA 0, (12, .inl (fun _ => 0)))), (q8, .inl (cA 0, (12, .inl (fun _ => 0)))), (q9, .inl (cA 0, (12, .inl (fun _ => 0)))), (q10, .inl (cA 0, (60, .inl (fun _ => 0)))), (q11, .inl (cA 0, (60, .inl (fun _ => 0)))), (q12, .inl (cA 0, (60, .inl (fun _ => 0)))), (q13, .inl (cA 0, (60, .inl (fun _ => 0)))), (q14, .inl (cA 0, (240, .inl (fun _ => 0)))), (q15, .inl (cA 3, (60, .inl (fun _ => 0)))), (q16, .inl (cA 0, (4, .inl (fun _ => 0))))]) rfl ?_
  refine n_putF hG (ws' := [(h0, .inr (8, [.int 0, .ref q1, .int 0, .ref q2, .ref q3, .ref q4, .ref q5, .int 0, .ref q6, .ref q7, .ref q8, .ref q9, .int 0, .ref q10, .ref q11, .ref q12, .ref q13, .ref q14, .ref q15, .ref q16, .int 0, .null, .int 0, .null, .null, .int 0, .null, .int 0, .int 0, .int 0, .int 0, .null, .null, .null, .int 0, .int 0, .int 0])), (q1, .inl (cA 0, (5, .inl (fun _ => 0)))), (q2, .inl (cA 3, (10, .inl (fun _ => 0)))), (q3, .inl (cA 3, (10, .inl (fun _ => 0)))), (q4, .inl (cA 0, (10, .inl (fun _ => 0)))), (q5, .inl (cA 0, (50, .inl (fun _ => 0)))), (q6, .inl (cA 0, (12, .inl (fun _ => 0)))), (q7, .inl (cA 0, (12, .inl (fun _ => 0)))), (q8, .inl (cA 0, (12, .inl (fun _ => 0)))), (q9, .inl (cA 0, (12, .inl (fun _ => 0)))), (q10, .inl (cA 0, (60, .inl (fun _ => 0)))), (q11, .inl (cA 0, (60, .inl (fun _ => 0)))), (q12, .inl (cA 0, (60, .inl (fun _ => 0)))), (q13, .inl (cA 0, (60, .inl (fun _ => 0)))), (q14, .inl (cA 0, (240, .inl (fun _ => 0)))), (q15, .inl (cA 3, (60, .inl (fun _ => 0)))), (q16, .inl (cA 0, (4, .inl (fun _ => 0))))]) 0 dX8_init_128 nfo_RX8_56 nff_RX8_56 rfl ⟨rfl, rfl⟩ (Nat.le_of_ble_eq_true rfl) rfl ?_
  refine n_ref hG 0 dX8_init_131 rfl ?_
  refine n_bipush hG (v := (40 : Int32)) dX8_init_132 (by decide) ?_
  refine n_arr hG (t := 0) (N := 40) (x := .inl (fun _ => 0)) (ty := .int) (k' := 17) (n' := 717) dX8_init_134 (tb1 (mem_i 7 rfl)) rfl rfl (by simp) (fun _ => rfl) (by decide) rfl (Nat.le_of_ble_eq_true rfl) ⟨Nat.le_of_ble_eq_true rfl, Nat.le_of_ble_eq_true rfl⟩ rfl rfl (fun q17 => ?_)
  refine n_eq (ws' := [(h0, .inr (8, [.int 0, .ref q1, .int 0, .ref q2, .ref q3, .ref q4, .ref q5, .int 0, .ref q6, .ref q7, .ref q8, .ref q9, .int 0, .ref q10, .ref q11, .ref q12, .ref q13, .ref q14, .ref q15, .ref q16, .int 0, .null, .int 0, .null, .null, .int 0, .null, .int 0, .int 0, .int 0, .int 0, .null, .null, .null, .int 0, .int 0, .int 0])), (q1, .inl (cA 0, (5, .inl (fun _ => 0)))), (q2, .inl (cA 3, (10, .inl (fun _ => 0)))), (q3, .inl (cA 3, (10, .inl (fun _ => 0)))), (q4, .inl (cA 0, (10, .inl (fun _ => 0)))), (q5, .inl (cA 0, (50, .inl (fun _ => 0)))), (q6, .inl (cA 0, (12, .inl (fun _ => 0)))), (q7, .inl (cA 0, (12, .inl (fun _ => 0)))), (q8, .inl (cA 0, (12, .inl (fun _ => 0)))), (q9, .inl (cA 0, (12, .inl (fun _ => 0)))), (q10, .inl (cA 0, (60, .inl (fun _ => 0)))), (q11, .inl (cA 0, (60, .inl (fun _ => 0)))), (q12, .inl (cA 0, (60, .inl (fun _ => 0)))), (q13, .inl (cA 0, (60, .inl (fun _ => 0)))), (q14, .inl (cA 0, (240, .inl (fun _ => 0)))), (q15, .inl (cA 3, (60, .inl (fun _ => 0)))), (q16, .inl (cA 0, (4, .inl (fun _ => 0)))), (q17, .inl (cA 0, (40, .inl (fun _ => 0))))]) rfl ?_
  refine n_putF hG (ws' := [(h0, .inr (8, [.int 0, .ref q1, .int 0, .ref q2, .ref q3, .ref q4, .ref q5, .int 0, .ref q6, .ref q7, .ref q8, .ref q9, .int 0, .ref q10, .ref q11, .ref q12, .ref q13, .ref q14, .ref q15, .ref q16, .int 0, .ref q17, .int 0, .null, .null, .int 0, .null, .int 0, .int 0, .int 0, .int 0, .null, .null, .null, .int 0, .int 0, .int 0])), (q1, .inl (cA 0, (5, .inl (fun _ => 0)))), (q2, .inl (cA 3, (10, .inl (fun _ => 0)))), (q3, .inl (cA 3, (10, .inl (fun _ => 0)))), (q4, .inl (cA 0, (10, .inl (fun _ => 0)))), (q5, .inl (cA 0, (50, .inl (fun _ => 0)))), (q6, .inl (cA 0, (12, .inl (fun _ => 0)))), (q7, .inl (cA 0, (12, .inl (fun _ => 0)))), (q8, .inl (cA 0, (12, .inl (fun _ => 0)))), (q9, .inl (cA 0, (12, .inl (fun _ => 0)))), (q10, .inl (cA 0, (60, .inl (fun _ => 0)))), (q11, .inl (cA 0, (60, .inl (fun _ => 0)))), (q12, .inl (cA 0, (60, .inl (fun _ => 0)))), (q13, .inl (cA 0, (60, .inl (fun _ => 0)))), (q14, .inl (cA 0, (240, .inl (fun _ => 0)))), (q15, .inl (cA 3, (60, .inl (fun _ => 0)))), (q16, .inl (cA 0, (4, .inl (fun _ => 0)))), (q17, .inl (cA 0, (40, .inl (fun _ => 0))))]) 0 dX8_init_136 nfo_RX8_59 nff_RX8_59 rfl ⟨rfl, rfl⟩ (Nat.le_of_ble_eq_true rfl) rfl ?_
  refine n_ref hG 0 dX8_init_139 rfl ?_
  refine n_bipush hG (v := (12 : Int32)) dX8_init_140 (by decide) ?_
  refine n_arr hG (t := 0) (N := 12) (x := .inl (fun _ => 0)) (ty := .int) (k' := 18) (n' := 729) dX8_init_142 (tb1 (mem_i 7 rfl)) rfl rfl (by simp) (fun _ => rfl) (by decide) rfl (Nat.le_of_ble_eq_true rfl) ⟨Nat.le_of_ble_eq_true rfl, Nat.le_of_ble_eq_true rfl⟩ rfl rfl (fun q18 => ?_)
  refine n_eq (ws' := [(h0, .inr (8, [.int 0, .ref q1, .int 0, .ref q2, .ref q3, .ref q4, .ref q5, .int 0, .ref q6, .ref q7, .ref q8, .ref q9, .int 0, .ref q10, .ref q11, .ref q12, .ref q13, .ref q14, .ref q15, .ref q16, .int 0, .ref q17, .int 0, .null, .null, .int 0, .null, .int 0, .int 0, .int 0, .int 0, .null, .null, .null, .int 0, .int 0, .int 0])), (q1, .inl (cA 0, (5, .inl (fun _ => 0)))), (q2, .inl (cA 3, (10, .inl (fun _ => 0)))), (q3, .inl (cA 3, (10, .inl (fun _ => 0)))), (q4, .inl (cA 0, (10, .inl (fun _ => 0)))), (q5, .inl (cA 0, (50, .inl (fun _ => 0)))), (q6, .inl (cA 0, (12, .inl (fun _ => 0)))), (q7, .inl (cA 0, (12, .inl (fun _ => 0)))), (q8, .inl (cA 0, (12, .inl (fun _ => 0)))), (q9, .inl (cA 0, (12, .inl (fun _ => 0)))), (q10, .inl (cA 0, (60, .inl (fun _ => 0)))), (q11, .inl (cA 0, (60, .inl (fun _ => 0)))), (q12, .inl (cA 0, (60, .inl (fun _ => 0)))), (q13, .inl (cA 0, (60, .inl (fun _ => 0)))), (q14, .inl (cA 0, (240, .inl (fun _ => 0)))), (q15, .inl (cA 3, (60, .inl (fun _ => 0)))), (q16, .inl (cA 0, (4, .inl (fun _ => 0)))), (q17, .inl (cA 0, (40, .inl (fun _ => 0)))), (q18, .inl (cA 0, (12, .inl (fun _ => 0))))]) rfl ?_
  refine n_putF hG (ws' := [(h0, .inr (8, [.int 0, .ref q1, .int 0, .ref q2, .ref q3, .ref q4, .ref q5, .int 0, .ref q6, .ref q7, .ref q8, .ref q9, .int 0, .ref q10, .ref q11, .ref q12, .ref q13, .ref q14, .ref q15, .ref q16, .int 0, .ref q17, .int 0, .ref q18, .null, .int 0, .null, .int 0, .int 0, .int 0, .int 0, .null, .null, .null, .int 0, .int 0, .int 0])), (q1, .inl (cA 0, (5, .inl (fun _ => 0)))), (q2, .inl (cA 3, (10, .inl (fun _ => 0)))), (q3, .inl (cA 3, (10, .inl (fun _ => 0)))), (q4, .inl (cA 0, (10, .inl (fun _ => 0)))), (q5, .inl (cA 0, (50, .inl (fun _ => 0)))), (q6, .inl (cA 0, (12, .inl (fun _ => 0)))), (q7, .inl (cA 0, (12, .inl (fun _ => 0)))), (q8, .inl (cA 0, (12, .inl (fun _ => 0)))), (q9, .inl (cA 0, (12, .inl (fun _ => 0)))), (q10, .inl (cA 0, (60, .inl (fun _ => 0)))), (q11, .inl (cA 0, (60, .inl (fun _ => 0)))), (q12, .inl (cA 0, (60, .inl (fun _ => 0)))), (q13, .inl (cA 0, (60, .inl (fun _ => 0)))), (q14, .inl (cA 0, (240, .inl (fun _ => 0)))), (q15, .inl (cA 3, (60, .inl (fun _ => 0)))), (q16, .inl (cA 0, (4, .inl (fun _ => 0)))), (q17, .inl (cA 0, (40, .inl (fun _ => 0)))), (q18, .inl (cA 0, (12, .inl (fun _ => 0))))]) 0 dX8_init_144 nfo_RX8_62 nff_RX8_62 rfl ⟨rfl, rfl⟩ (Nat.le_of_ble_eq_true rfl) rfl ?_
  refine n_ref hG 0 dX8_init_147 rfl ?_
  refine n_bipush hG (v := (12 : Int32)) dX8_init_148 (by decide) ?_
  refine n_arr hG (t := 0) (N := 12) (x := .inl (fun _ => 0)) (ty := .int) (k' := 19) (n' := 741) dX8_init_150 (tb1 (mem_i 7 rfl)) rfl rfl (by simp) (fun _ => rfl) (by decide) rfl (Nat.le_of_ble_eq_true rfl) ⟨Nat.le_of_ble_eq_true rfl, Nat.le_of_ble_eq_true rfl⟩ rfl rfl (fun q19 => ?_)
  refine n_eq (ws' := [(h0, .inr (8, [.int 0, .ref q1, .int 0, .ref q2, .ref q3, .ref q4, .ref q5, .int 0, .ref q6, .ref q7, .ref q8, .ref q9, .int 0, .ref q10, .ref q11, .ref q12, .ref q13, .ref q14, .ref q15, .ref q16, .int 0, .ref q17, .int 0, .ref q18, .null, .int 0, .null, .int 0, .int 0, .int 0, .int 0, .null, .null, .null, .int 0, .int 0, .int 0])), (q1, .inl (cA 0, (5, .inl (fun _ => 0)))), (q2, .inl (cA 3, (10, .inl (fun _ => 0)))), (q3, .inl (cA 3, (10, .inl (fun _ => 0)))), (q4, .inl (cA 0, (10, .inl (fun _ => 0)))), (q5, .inl (cA 0, (50, .inl (fun _ => 0)))), (q6, .inl (cA 0, (12, .inl (fun _ => 0)))), (q7, .inl (cA 0, (12, .inl (fun _ => 0)))), (q8, .inl (cA 0, (12, .inl (fun _ => 0)))), (q9, .inl (cA 0, (12, .inl (fun _ => 0)))), (q10, .inl (cA 0, (60, .inl (fun _ => 0)))), (q11, .inl (cA 0, (60, .inl (fun _ => 0)))), (q12, .inl (cA 0, (60, .inl (fun _ => 0)))), (q13, .inl (cA 0, (60, .inl (fun _ => 0)))), (q14, .inl (cA 0, (240, .inl (fun _ => 0)))), (q15, .inl (cA 3, (60, .inl (fun _ => 0)))), (q16, .inl (cA 0, (4, .inl (fun _ => 0)))), (q17, .inl (cA 0, (40, .inl (fun _ => 0)))), (q18, .inl (cA 0, (12, .inl (fun _ => 0)))), (q19, .inl (cA 0, (12, .inl (fun _ => 0))))]) rfl ?_
  refine n_putF hG (ws' := [(h0, .inr (8, [.int 0, .ref q1, .int 0, .ref q2, .ref q3, .ref q4, .ref q5, .int 0, .ref q6, .ref q7, .ref q8, .ref q9, .int 0, .ref q10, .ref q11, .ref q12, .ref q13, .ref q14, .ref q15, .ref q16, .int 0, .ref q17, .int 0, .ref q18, .ref q19, .int 0, .null, .int 0, .int 0, .int 0, .int 0, .null, .null, .null, .int 0, .int 0, .int 0])), (q1, .inl (cA 0, (5, .inl (fun _ => 0)))), (q2, .inl (cA 3, (10, .inl (fun _ => 0)))), (q3, .inl (cA 3, (10, .inl (fun _ => 0)))), (q4, .inl (cA 0, (10, .inl (fun _ => 0)))), (q5, .inl (cA 0, (50, .inl (fun _ => 0)))), (q6, .inl (cA 0, (12, .inl (fun _ => 0)))), (q7, .inl (cA 0, (12, .inl (fun _ => 0)))), (q8, .inl (cA 0, (12, .inl (fun _ => 0)))), (q9, .inl (cA 0, (12, .inl (fun _ => 0)))), (q10, .inl (cA 0, (60, .inl (fun _ => 0)))), (q11, .inl (cA 0, (60, .inl (fun _ => 0)))), (q12, .inl (cA 0, (60, .inl (fun _ => 0)))), (q13, .inl (cA 0, (60, .inl (fun _ => 0)))), (q14, .inl (cA 0, (240, .inl (fun _ => 0)))), (q15, .inl (cA 3, (60, .inl (fun _ => 0)))), (q16, .inl (cA 0, (4, .inl (fun _ => 0)))), (q17, .inl (cA 0, (40, .inl (fun _ => 0)))), (q18, .inl (cA 0, (12, .inl (fun _ => 0)))), (q19, .inl (cA 0, (12, .inl (fun _ => 0))))]) 0 dX8_init_152 nfo_RX8_65 nff_RX8_65 rfl ⟨rfl, rfl⟩ (Nat.le_of_ble_eq_true rfl) rfl ?_
  refine n_ref hG 0 dX8_init_155 rfl ?_
  refine n_bipush hG (v := (40 : Int32)) dX8_init_156 (by decide) ?_
  refine n_arr hG (t := 0) (N := 40) (x := .inl (fun _ => 0)) (ty := .int) (k' := 20) (n' := 781) dX8_init_158 (tb1 (mem_i 7 rfl)) rfl rfl (by simp) (fun _ => rfl) (by decide) rfl (Nat.le_of_ble_eq_true rfl) ⟨Nat.le_of_ble_eq_true rfl, Nat.le_of_ble_eq_true rfl⟩ rfl rfl (fun q20 => ?_)
  refine n_eq (ws' := [(h0, .inr (8, [.int 0, .ref q1, .int 0, .ref q2, .ref q3, .ref q4, .ref q5, .int 0, .ref q6, .ref q7, .ref q8, .ref q9, .int 0, .ref q10, .ref q11, .ref q12, .ref q13, .ref q14, .ref q15, .ref q16, .int 0, .ref q17, .int 0, .ref q18, .ref q19, .int 0, .null, .int 0, .int 0, .int 0, .int 0, .null, .null, .null, .int 0, .int 0, .int 0])), (q1, .inl (cA 0, (5, .inl (fun _ => 0)))), (q2, .inl (cA 3, (10, .inl (fun _ => 0)))), (q3, .inl (cA 3, (10, .inl (fun _ => 0)))), (q4, .inl (cA 0, (10, .inl (fun _ => 0)))), (q5, .inl (cA 0, (50, .inl (fun _ => 0)))), (q6, .inl (cA 0, (12, .inl (fun _ => 0)))), (q7, .inl (cA 0, (12, .inl (fun _ => 0)))), (q8, .inl (cA 0, (12, .inl (fun _ => 0)))), (q9, .inl (cA 0, (12, .inl (fun _ => 0)))), (q10, .inl (cA 0, (60, .inl (fun _ => 0)))), (q11, .inl (cA 0, (60, .inl (fun _ => 0)))), (q12, .inl (cA 0, (60, .inl (fun _ => 0)))), (q13, .inl (cA 0, (60, .inl (fun _ => 0)))), (q14, .inl (cA 0, (240, .inl (fun _ => 0)))), (q15, .inl (cA 3, (60, .inl (fun _ => 0)))), (q16, .inl (cA 0, (4, .inl (fun _ => 0)))), (q17, .inl (cA 0, (40, .inl (fun _ => 0)))), (q18, .inl (cA 0, (12, .inl (fun _ => 0)))), (q19, .inl (cA 0, (12, .inl (fun _ => 0)))), (q20, .inl (cA 0, (40, .inl (fun _ => 0))))]) rfl ?_
  refine n_putF hG (ws' := [(h0, .inr (8, [.int 0, .ref q1, .int 0, .ref q2, .ref q3, .ref q4, .ref q5, .int 0, .ref q6, .ref q7, .ref q8, .ref q9, .int 0, .ref q10, .ref q11, .ref q12, .ref q13, .ref q14, .ref q15, .ref q16, .int 0, .ref q17, .int 0, .ref q18, .ref q19, .int 0, .ref q20, .int 0, .int 0, .int 0, .int 0, .null, .null, .null, .int 0, .int 0, .int 0])), (q1, .inl (cA 0, (5, .inl (fun _ => 0)))), (q2, .inl (cA 3, (10, .inl (fun _ => 0)))), (q3, .inl (cA 3, (10, .inl (fun _ => 0)))), (q4, .inl (cA 0, (10, .inl (fun _ => 0)))), (q5, .inl (cA 0, (50, .inl (fun _ => 0)))), (q6, .inl (cA 0, (12, .inl (fun _ => 0)))), (q7, .inl (cA 0, (12, .inl (fun _ => 0)))), (q8, .inl (cA 0, (12, .inl (fun _ => 0)))), (q9, .inl (cA 0, (12, .inl (fun _ => 0)))), (q10, .inl (cA 0, (60, .inl (fun _ => 0)))), (q11, .inl (cA 0, (60, .inl (fun _ => 0)))), (q12, .inl (cA 0, (60, .inl (fun _ => 0)))), (q13, .inl (cA 0, (60, .inl (fun _ => 0)))), (q14, .inl (cA 0, (240, .inl (fun _ => 0)))), (q15, .inl (cA 3, (60, .inl (fun _ => 0)))), (q16, .inl (cA 0, (4, .inl (fun _ => 0)))), (q17, .inl (cA 0, (40, .inl (fun _ => 0)))), (q18, .inl (cA 0, (12, .inl (fun _ => 0)))), (q19, .inl (cA 0, (12, .inl (fun _ => 0)))), (q20, .inl (cA 0, (40, .inl (fun _ => 0))))]) 0 dX8_init_160 nfo_RX8_68 nff_RX8_68 rfl ⟨rfl, rfl⟩ (Nat.le_of_ble_eq_true rfl) rfl ?_
  refine n_ref hG 0 dX8_init_163 rfl ?_
  refine n_bipush hG (v := (10 : Int32)) dX8_init_164 (by decide) ?_
  refine n_arr hG (t := 0) (N := 10) (x := .inl (fun _ => 0)) (ty := .int) (k' := 21) (n' := 791) dX8_init_166 (tb1 (mem_i 7 rfl)) rfl rfl (by simp) (fun _ => rfl) (by decide) rfl (Nat.le_of_ble_eq_true rfl) ⟨Nat.le_of_ble_eq_true rfl, Nat.le_of_ble_eq_true rfl⟩ rfl rfl (fun q21 => ?_)
  refine n_eq (ws' := [(h0, .inr (8, [.int 0, .ref q1, .int 0, .ref q2, .ref q3, .ref q4, .ref q5, .int 0, .ref q6, .ref q7, .ref q8, .ref q9, .int 0, .ref q10, .ref q11, .ref q12, .ref q13, .ref q14, .ref q15, .ref q16, .int 0, .ref q17, .int 0, .ref q18, .ref q19, .int 0, .ref q20, .int 0, .int 0, .int 0, .int 0, .null, .null, .null, .int 0, .int 0, .int 0])), (q1, .inl (cA 0, (5, .inl (fun _ => 0)))), (q2, .inl (cA 3, (10, .inl (fun _ => 0)))), (q3, .inl (cA 3, (10, .inl (fun _ => 0)))), (q4, .inl (cA 0, (10, .inl (fun _ => 0)))), (q5, .inl (cA 0, (50, .inl (fun _ => 0)))), (q6, .inl (cA 0, (12, .inl (fun _ => 0)))), (q7, .inl (cA 0, (12, .inl (fun _ => 0)))), (q8, .inl (cA 0, (12, .inl (fun _ => 0)))), (q9, .inl (cA 0, (12, .inl (fun _ => 0)))), (q10, .inl (cA 0, (60, .inl (fun _ => 0)))), (q11, .inl (cA 0, (60, .inl (fun _ => 0)))), (q12, .inl (cA 0, (60, .inl (fun _ => 0)))), (q13, .inl (cA 0, (60, .inl (fun _ => 0)))), (q14, .inl (cA 0, (240, .inl (fun _ => 0)))), (q15, .inl (cA 3, (60, .inl (fun _ => 0)))), (q16, .inl (cA 0, (4, .inl (fun _ => 0)))), (q17, .inl (cA 0, (40, .inl (fun _ => 0)))), (q18, .inl (cA 0, (12, .inl (fun _ => 0)))), (q19, .inl (cA 0, (12, .inl (fun _ => 0)))), (q20, .inl (cA 0, (40, .inl (fun _ => 0)))), (q21, .inl (cA 0, (10, .inl (fun _ => 0))))]) rfl ?_
  refine n_putF hG (ws' := [(h0, .inr (8, [.int 0, .ref q1, .int 0, .ref q2, .ref q3, .ref q4, .ref q5, .int 0, .ref q6, .ref q7, .ref q8, .ref q9, .int 0, .ref q10, .ref q11, .ref q12, .ref q13, .ref q14, .ref q15, .ref q16, .int 0, .ref q17, .int 0, .ref q18, .ref q19, .int 0, .ref q20, .int 0, .int 0, .int 0, .int 0, .ref q21, .null, .null, .int 0, .int 0, .int 0])), (q1, .inl (cA 0, (5, .inl (fun _ => 0)))), (q2, .inl (cA 3, (10, .inl (fun _ => 0)))), (q3, .inl (cA 3, (10, .inl (fun _ => 0)))), (q4, .inl (cA 0, (10, .inl (fun _ => 0)))), (q5, .inl (cA 0, (50, .inl (fun _ => 0)))), (q6, .inl (cA 0, (12, .inl (fun _ => 0)))), (q7, .inl (cA 0, (12, .inl (fun _ => 0)))), (q8, .inl (cA 0, (12, .inl (fun _ => 0)))), (q9, .inl (cA 0, (12, .inl (fun _ => 0)))), (q10, .inl (cA 0, (60, .inl (fun _ => 0)))), (q11, .inl (cA 0, (60, .inl (fun _ => 0)))), (q12, .inl (cA 0, (60, .inl (fun _ => 0)))), (q13, .inl (cA 0, (60, .inl (fun _ => 0)))), (q14, .inl (cA 0, (240, .inl (fun _ => 0)))), (q15, .inl (cA 3, (60, .inl (fun _ => 0)))), (q16, .inl (cA 0, (4, .inl (fun _ => 0)))), (q17, .inl (cA 0, (40, .inl (fun _ => 0)))), (q18, .inl (cA 0, (12, .inl (fun _ => 0)))), (q19, .inl (cA 0, (12, .inl (fun _ => 0)))), (q20, .inl (cA 0, (40, .inl (fun _ => 0)))), (q21, .inl (cA 0, (10, .inl (fun _ => 0))))]) 0 dX8_init_168 nfo_RX8_71 nff_RX8_71 rfl ⟨rfl, rfl⟩ (Nat.le_of_ble_eq_true rfl) rfl ?_
  refine n_ref hG 0 dX8_init_171 rfl ?_
  refine n_sipush hG (v := (400 : Int32)) dX8_init_172 (by decide) ?_
  refine n_arr hG (t := 0) (N := 400) (x := .inl (fun _ => 0)) (ty := .int) (k' := 22) (n' := 1191) dX8_init_175 (tb1 (mem_i 7 rfl)) rfl rfl (by simp) (fun _ => rfl) (by decide) rfl (Nat.le_of_ble_eq_true rfl) ⟨Nat.le_of_ble_eq_true rfl, Nat.le_of_ble_eq_true rfl⟩ rfl rfl (fun q22 => ?_)
  refine n_eq (ws' := [(h0, .inr (8, [.int 0, .ref q1, .int 0, .ref q2, .ref q3, .ref q4, .ref q5, .int 0, .ref q6, .ref q7, .ref q8, .ref q9, .int 0, .ref q10, .ref q11, .ref q12, .ref q13, .ref q14, .ref q15, .ref q16, .int 0, .ref q17, .int 0, .ref q18, .ref q19, .int 0, .ref q20, .int 0, .int 0, .int 0, .int 0, .ref q21, .null, .null, .int 0, .int 0, .int 0])), (q1, .inl (cA 0, (5, .inl (fun _ => 0)))), (q2, .inl (cA 3, (10, .inl (fun _ => 0)))), (q3, .inl (cA 3, (10, .inl (fun _ => 0)))), (q4, .inl (cA 0, (10, .inl (fun _ => 0)))), (q5, .inl (cA 0, (50, .inl (fun _ => 0)))), (q6, .inl (cA 0, (12, .inl (fun _ => 0)))), (q7, .inl (cA 0, (12, .inl (fun _ => 0)))), (q8, .inl (cA 0, (12, .inl (fun _ => 0)))), (q9, .inl (cA 0, (12, .inl (fun _ => 0)))), (q10, .inl (cA 0, (60, .inl (fun _ => 0)))), (q11, .inl (cA 0, (60, .inl (fun _ => 0)))), (q12, .inl (cA 0, (60, .inl (fun _ => 0)))), (q13, .inl (cA 0, (60, .inl (fun _ => 0)))), (q14, .inl (cA 0, (240, .inl (fun _ => 0)))), (q15, .inl (cA 3, (60, .inl (fun _ => 0)))), (q16, .inl (cA 0, (4, .inl (fun _ => 0)))), (q17, .inl (cA 0, (40, .inl (fun _ => 0)))), (q18, .inl (cA 0, (12, .inl (fun _ => 0)))), (q19, .inl (cA 0, (12, .inl (fun _ => 0)))), (q20, .inl (cA 0, (40, .inl (fun _ => 0)))), (q21, .inl (cA 0, (10, .inl (fun _ => 0)))), (q22, .inl (cA 0, (400, .inl (fun _ => 0))))]) rfl ?_
  refine n_putF hG (ws' := [(h0, .inr (8, [.int 0, .ref q1, .int 0, .ref q2, .ref q3, .ref q4, .ref q5, .int 0, .ref q6, .ref q7, .ref q8, .ref q9, .int 0, .ref q10, .ref q11, .ref q12, .ref q13, .ref q14, .ref q15, .ref q16, .int 0, .ref q17, .int 0, .ref q18, .ref q19, .int 0, .ref q20, .int 0, .int 0, .int 0, .int 0, .ref q21, .ref q22, .null, .int 0, .int 0, .int 0])), (q1, .inl (cA 0, (5, .inl (fun _ => 0)))), (q2, .inl (cA 3, (10, .inl (fun _ => 0)))), (q3, .inl (cA 3, (10, .inl (fun _ => 0)))), (q4, .inl (cA 0, (10, .inl (fun _ => 0)))), (q5, .inl (cA 0, (50, .inl (fun _ => 0)))), (q6, .inl (cA 0, (12, .inl (fun _ => 0)))), (q7, .inl (cA 0, (12, .inl (fun _ => 0)))), (q8, .inl (cA 0, (12, .inl (fun _ => 0)))), (q9, .inl (cA 0, (12, .inl (fun _ => 0)))), (q10, .inl (cA 0, (60, .inl (fun _ => 0)))), (q11, .inl (cA 0, (60, .inl (fun _ => 0)))), (q12, .inl (cA 0, (60, .inl (fun _ => 0)))), (q13, .inl (cA 0, (60, .inl (fun _ => 0)))), (q14, .inl (cA 0, (240, .inl (fun _ => 0)))), (q15, .inl (cA 3, (60, .inl (fun _ => 0)))), (q16, .inl (cA 0, (4, .inl (fun _ => 0)))), (q17, .inl (cA 0, (40, .inl (fun _ => 0)))), (q18, .inl (cA 0, (12, .inl (fun _ => 0)))), (q19, .inl (cA 0, (12, .inl (fun _ => 0)))), (q20, .inl (cA 0, (40, .inl (fun _ => 0)))), (q21, .inl (cA 0, (10, .inl (fun _ => 0)))), (q22, .inl (cA 0, (400, .inl (fun _ => 0))))]) 0 dX8_init_177 nfo_RX8_74 nff_RX8_74 rfl ⟨rfl, rfl⟩ (Nat.le_of_ble_eq_true rfl) rfl ?_
  refine n_ref hG 0 dX8_init_180 rfl ?_
  refine n_bipush hG (v := (10 : Int32)) dX8_init_181 (by decide) ?_
  refine n_arr hG (t := 0) (N := 10) (x := .inl (fun _ => 0)) (ty := .int) (k' := 23) (n' := 1201) dX8_init_183 (tb1 (mem_i 7 rfl)) rfl rfl (by simp) (fun _ => rfl) (by decide) rfl (Nat.le_of_ble_eq_true rfl) ⟨Nat.le_of_ble_eq_true rfl, Nat.le_of_ble_eq_true rfl⟩ rfl rfl (fun q23 => ?_)
  refine n_eq (ws' := [(h0, .inr (8, [.int 0, .ref q1, .int 0, .ref q2, .ref q3, .ref q4, .ref q5, .int 0, .ref q6, .ref q7, .ref q8, .ref q9, .int 0, .ref q10, .ref q11, .ref q12, .ref q13, .ref q14, .ref q15, .ref q16, .int 0, .ref q17, .int 0, .ref q18, .ref q19, .int 0, .ref q20, .int 0, .int 0, .int 0, .int 0, .ref q21, .ref q22, .null, .int 0, .int 0, .int 0])), (q1, .inl (cA 0, (5, .inl (fun _ => 0)))), (q2, .inl (cA 3, (10, .inl (fun _ => 0)))), (q3, .inl (cA 3, (10, .inl (fun _ => 0)))), (q4, .inl (cA 0, (10, .inl (fun _ => 0)))), (q5, .inl (cA 0, (50, .inl (fun _ => 0)))), (q6, .inl (cA 0, (12, .inl (fun _ => 0)))), (q7, .inl (cA 0, (12, .inl (fun _ => 0)))), (q8, .inl (cA 0, (12, .inl (fun _ => 0)))), (q9, .inl (cA 0, (12, .inl (fun _ => 0)))), (q10, .inl (cA 0, (60, .inl (fun _ => 0)))), (q11, .inl (cA 0, (60, .inl (fun _ => 0)))), (q12, .inl (cA 0, (60, .inl (fun _ => 0)))), (q13, .inl (cA 0, (60, .inl (fun _ => 0)))), (q14, .inl (cA 0, (240, .inl (fun _ => 0)))), (q15, .inl (cA 3, (60, .inl (fun _ => 0)))), (q16, .inl (cA 0, (4, .inl (fun _ => 0)))), (q17, .inl (cA 0, (40, .inl (fun _ => 0)))), (q18, .inl (cA 0, (12, .inl (fun _ => 0)))), (q19, .inl (cA 0, (12, .inl (fun _ => 0)))), (q20, .inl (cA 0, (40, .inl (fun _ => 0)))), (q21, .inl (cA 0, (10, .inl (fun _ => 0)))), (q22, .inl (cA 0, (400, .inl (fun _ => 0)))), (q23, .inl (cA 0, (10, .inl (fun _ => 0))))]) rfl ?_
  refine n_putF hG (ws' := [(h0, .inr (8, [.int 0, .ref q1, .int 0, .ref q2, .ref q3, .ref q4, .ref q5, .int 0, .ref q6, .ref q7, .ref q8, .ref q9, .int 0, .ref q10, .ref q11, .ref q12, .ref q13, .ref q14, .ref q15, .ref q16, .int 0, .ref q17, .int 0, .ref q18, .ref q19, .int 0, .ref q20, .int 0, .int 0, .int 0, .int 0, .ref q21, .ref q22, .ref q23, .int 0, .int 0, .int 0])), (q1, .inl (cA 0, (5, .inl (fun _ => 0)))), (q2, .inl (cA 3, (10, .inl (fun _ => 0)))), (q3, .inl (cA 3, (10, .inl (fun _ => 0)))), (q4, .inl (cA 0, (10, .inl (fun _ => 0)))), (q5, .inl (cA 0, (50, .inl (fun _ => 0)))), (q6, .inl (cA 0, (12, .inl (fun _ => 0)))), (q7, .inl (cA 0, (12, .inl (fun _ => 0)))), (q8, .inl (cA 0, (12, .inl (fun _ => 0)))), (q9, .inl (cA 0, (12, .inl (fun _ => 0)))), (q10, .inl (cA 0, (60, .inl (fun _ => 0)))), (q11, .inl (cA 0, (60, .inl (fun _ => 0)))), (q12, .inl (cA 0, (60, .inl (fun _ => 0)))), (q13, .inl (cA 0, (60, .inl (fun _ => 0)))), (q14, .inl (cA 0, (240, .inl (fun _ => 0)))), (q15, .inl (cA 3, (60, .inl (fun _ => 0)))), (q16, .inl (cA 0, (4, .inl (fun _ => 0)))), (q17, .inl (cA 0, (40, .inl (fun _ => 0)))), (q18, .inl (cA 0, (12, .inl (fun _ => 0)))), (q19, .inl (cA 0, (12, .inl (fun _ => 0)))), (q20, .inl (cA 0, (40, .inl (fun _ => 0)))), (q21, .inl (cA 0, (10, .inl (fun _ => 0)))), (q22, .inl (cA 0, (400, .inl (fun _ => 0)))), (q23, .inl (cA 0, (10, .inl (fun _ => 0))))]) 0 dX8_init_185 nfo_RX8_77 nff_RX8_77 rfl ⟨rfl, rfl⟩ (Nat.le_of_ble_eq_true rfl) rfl ?_
  refine n_iconst hG (v := (0 : Int32)) dX8_init_188 (by decide) ?_
  refine n_istore_n hG (lv' := [(1, .int (0 : Int32)), (0, .ref h0)]) dX8_init_189 (by decide) rfl ?_
  refine n_iload_n hG 0 dX8_init_190 rfl ?_
  refine n_iconst hG (v := (4 : Int32)) dX8_init_191 (by decide) ?_
  refine n_geF hG (tgt := 208) dX8_init_192 (by decide) (by decide) ?_
  refine n_ref hG 1 dX8_init_195 rfl ?_
  refine n_get hG (v := .ref q16) 0 dX8_init_196 nfl_RX8_56 rfl rfl ?_
  refine n_iload_n hG 0 dX8_init_199 rfl ?_
  refine n_iconst hG (v := (-1 : Int32)) dX8_init_200 (by decide) ?_
  refine n_iast hG (ws' := [(h0, .inr (8, [.int 0, .ref q1, .int 0, .ref q2, .ref q3, .ref q4, .ref q5, .int 0, .ref q6, .ref q7, .ref q8, .ref q9, .int 0, .ref q10, .ref q11, .ref q12, .ref q13, .ref q14, .ref q15, .ref q16, .int 0, .ref q17, .int 0, .ref q18, .ref q19, .int 0, .ref q20, .int 0, .int 0, .int 0, .int 0, .ref q21, .ref q22, .ref q23, .int 0, .int 0, .int 0])), (q1, .inl (cA 0, (5, .inl (fun _ => 0)))), (q2, .inl (cA 3, (10, .inl (fun _ => 0)))), (q3, .inl (cA 3, (10, .inl (fun _ => 0)))), (q4, .inl (cA 0, (10, .inl (fun _ => 0)))), (q5, .inl (cA 0, (50, .inl (fun _ => 0)))), (q6, .inl (cA 0, (12, .inl (fun _ => 0)))), (q7, .inl (cA 0, (12, .inl (fun _ => 0)))), (q8, .inl (cA 0, (12, .inl (fun _ => 0)))), (q9, .inl (cA 0, (12, .inl (fun _ => 0)))), (q10, .inl (cA 0, (60, .inl (fun _ => 0)))), (q11, .inl (cA 0, (60, .inl (fun _ => 0)))), (q12, .inl (cA 0, (60, .inl (fun _ => 0)))), (q13, .inl (cA 0, (60, .inl (fun _ => 0)))), (q14, .inl (cA 0, (240, .inl (fun _ => 0)))), (q15, .inl (cA 3, (60, .inl (fun _ => 0)))), (q16, .inl (cA 0, (4, .inl (upd (fun _ => 0) (0 : Int32).toNatClampNeg (-1 : Int32))))), (q17, .inl (cA 0, (40, .inl (fun _ => 0)))), (q18, .inl (cA 0, (12, .inl (fun _ => 0)))), (q19, .inl (cA 0, (12, .inl (fun _ => 0)))), (q20, .inl (cA 0, (40, .inl (fun _ => 0)))), (q21, .inl (cA 0, (10, .inl (fun _ => 0)))), (q22, .inl (cA 0, (400, .inl (fun _ => 0)))), (q23, .inl (cA 0, (10, .inl (fun _ => 0))))]) 16 dX8_init_201 rfl (by decide) rfl ?_
  refine n_iinc hG (v := (1 : Int32)) (lv' := [(1, .int (1 : Int32)), (0, .ref h0)]) 0 dX8_init_202 rfl (by decide) (by decide) rfl ?_
  refine n_goto hG (tgt := 190) dX8_init_205 (by decide) ?_
  refine n_iload_n hG 0 dX8_init_190 rfl ?_
  refine n_iconst hG (v := (4 : Int32)) dX8_init_191 (by decide) ?_
  refine n_geF hG (tgt := 208) dX8_init_192 (by decide) (by decide) ?_
  refine n_ref hG 1 dX8_init_195 rfl ?_
  refine n_get hG (v := .ref q16) 0 dX8_init_196 nfl_RX8_56 rfl rfl ?_
  refine n_iload_n hG 0 dX8_init_199 rfl ?_
  refine n_iconst hG (v := (-1 : Int32)) dX8_init_200 (by decide) ?_
  refine n_iast hG (ws' := [(h0, .inr (8, [.int 0, .ref q1, .int 0, .ref q2, .ref q3, .ref q4, .ref q5, .int 0, .ref q6, .ref q7, .ref q8, .ref q9, .int 0, .ref q10, .ref q11, .ref q12, .ref q13, .ref q14, .ref q15, .ref q16, .int 0, .ref q17, .int 0, .ref q18, .ref q19, .int 0, .ref q20, .int 0, .int 0, .int 0, .int 0, .ref q21, .ref q22, .ref q23, .int 0, .int 0, .int 0])), (q1, .inl (cA 0, (5, .inl (fun _ => 0)))), (q2, .inl (cA 3, (10, .inl (fun _ => 0)))), (q3, .inl (cA 3, (10, .inl (fun _ => 0)))), (q4, .inl (cA 0, (10, .inl (fun _ => 0)))), (q5, .inl (cA 0, (50, .inl (fun _ => 0)))), (q6, .inl (cA 0, (12, .inl (fun _ => 0)))), (q7, .inl (cA 0, (12, .inl (fun _ => 0)))), (q8, .inl (cA 0, (12, .inl (fun _ => 0)))), (q9, .inl (cA 0, (12, .inl (fun _ => 0)))), (q10, .inl (cA 0, (60, .inl (fun _ => 0)))), (q11, .inl (cA 0, (60, .inl (fun _ => 0)))), (q12, .inl (cA 0, (60, .inl (fun _ => 0)))), (q13, .inl (cA 0, (60, .inl (fun _ => 0)))), (q14, .inl (cA 0, (240, .inl (fun _ => 0)))), (q15, .inl (cA 3, (60, .inl (fun _ => 0)))), (q16, .inl (cA 0, (4, .inl (upd (upd (fun _ => 0) (0 : Int32).toNatClampNeg (-1 : Int32)) (1 : Int32).toNatClampNeg (-1 : Int32))))), (q17, .inl (cA 0, (40, .inl (fun _ => 0)))), (q18, .inl (cA 0, (12, .inl (fun _ => 0)))), (q19, .inl (cA 0, (12, .inl (fun _ => 0)))), (q20, .inl (cA 0, (40, .inl (fun _ => 0)))), (q21, .inl (cA 0, (10, .inl (fun _ => 0)))), (q22, .inl (cA 0, (400, .inl (fun _ => 0)))), (q23, .inl (cA 0, (10, .inl (fun _ => 0))))]) 16 dX8_init_201 rfl (by decide) rfl ?_
  refine n_iinc hG (v := (2 : Int32)) (lv' := [(1, .int (2 : Int32)), (0, .ref h0)]) 0 dX8_init_202 rfl (by decide) (by decide) rfl ?_
  refine n_goto hG (tgt := 190) dX8_init_205 (by decide) ?_
  refine n_iload_n hG 0 dX8_init_190 rfl ?_
  refine n_iconst hG (v := (4 : Int32)) dX8_init_191 (by decide) ?_
  refine n_geF hG (tgt := 208) dX8_init_192 (by decide) (by decide) ?_
  refine n_ref hG 1 dX8_init_195 rfl ?_
  refine n_get hG (v := .ref q16) 0 dX8_init_196 nfl_RX8_56 rfl rfl ?_
  refine n_iload_n hG 0 dX8_init_199 rfl ?_
  refine n_iconst hG (v := (-1 : Int32)) dX8_init_200 (by decide) ?_
  refine n_iast hG (ws' := [(h0, .inr (8, [.int 0, .ref q1, .int 0, .ref q2, .ref q3, .ref q4, .ref q5, .int 0, .ref q6, .ref q7, .ref q8, .ref q9, .int 0, .ref q10, .ref q11, .ref q12, .ref q13, .ref q14, .ref q15, .ref q16, .int 0, .ref q17, .int 0, .ref q18, .ref q19, .int 0, .ref q20, .int 0, .int 0, .int 0, .int 0, .ref q21, .ref q22, .ref q23, .int 0, .int 0, .int 0])), (q1, .inl (cA 0, (5, .inl (fun _ => 0)))), (q2, .inl (cA 3, (10, .inl (fun _ => 0)))), (q3, .inl (cA 3, (10, .inl (fun _ => 0)))), (q4, .inl (cA 0, (10, .inl (fun _ => 0)))), (q5, .inl (cA 0, (50, .inl (fun _ => 0)))), (q6, .inl (cA 0, (12, .inl (fun _ => 0)))), (q7, .inl (cA 0, (12, .inl (fun _ => 0)))), (q8, .inl (cA 0, (12, .inl (fun _ => 0)))), (q9, .inl (cA 0, (12, .inl (fun _ => 0)))), (q10, .inl (cA 0, (60, .inl (fun _ => 0)))), (q11, .inl (cA 0, (60, .inl (fun _ => 0)))), (q12, .inl (cA 0, (60, .inl (fun _ => 0)))), (q13, .inl (cA 0, (60, .inl (fun _ => 0)))), (q14, .inl (cA 0, (240, .inl (fun _ => 0)))), (q15, .inl (cA 3, (60, .inl (fun _ => 0)))), (q16, .inl (cA 0, (4, .inl (upd (upd (upd (fun _ => 0) (0 : Int32).toNatClampNeg (-1 : Int32)) (1 : Int32).toNatClampNeg (-1 : Int32)) (2 : Int32).toNatClampNeg (-1 : Int32))))), (q17, .inl (cA 0, (40, .inl (fun _ => 0)))), (q18, .inl (cA 0, (12, .inl (fun _ => 0)))), (q19, .inl (cA 0, (12, .inl (fun _ => 0)))), (q20, .inl (cA 0, (40, .inl (fun _ => 0)))), (q21, .inl (cA 0, (10, .inl (fun _ => 0)))), (q22, .inl (cA 0, (400, .inl (fun _ => 0)))), (q23, .inl (cA 0, (10, .inl (fun _ => 0))))]) 16 dX8_init_201 rfl (by decide) rfl ?_
  refine n_iinc hG (v := (3 : Int32)) (lv' := [(1, .int (3 : Int32)), (0, .ref h0)]) 0 dX8_init_202 rfl (by decide) (by decide) rfl ?_
  refine n_goto hG (tgt := 190) dX8_init_205 (by decide) ?_
  refine n_iload_n hG 0 dX8_init_190 rfl ?_
  refine n_iconst hG (v := (4 : Int32)) dX8_init_191 (by decide) ?_
  refine n_geF hG (tgt := 208) dX8_init_192 (by decide) (by decide) ?_
  refine n_ref hG 1 dX8_init_195 rfl ?_
  refine n_get hG (v := .ref q16) 0 dX8_init_196 nfl_RX8_56 rfl rfl ?_
  refine n_iload_n hG 0 dX8_init_199 rfl ?_
  refine n_iconst hG (v := (-1 : Int32)) dX8_init_200 (by decide) ?_
  refine n_iast hG (ws' := [(h0, .inr (8, [.int 0, .ref q1, .int 0, .ref q2, .ref q3, .ref q4, .ref q5, .int 0, .ref q6, .ref q7, .ref q8, .ref q9, .int 0, .ref q10, .ref q11, .ref q12, .ref q13, .ref q14, .ref q15, .ref q16, .int 0, .ref q17, .int 0, .ref q18, .ref q19, .int 0, .ref q20, .int 0, .int 0, .int 0, .int 0, .ref q21, .ref q22, .ref q23, .int 0, .int 0, .int 0])), (q1, .inl (cA 0, (5, .inl (fun _ => 0)))), (q2, .inl (cA 3, (10, .inl (fun _ => 0)))), (q3, .inl (cA 3, (10, .inl (fun _ => 0)))), (q4, .inl (cA 0, (10, .inl (fun _ => 0)))), (q5, .inl (cA 0, (50, .inl (fun _ => 0)))), (q6, .inl (cA 0, (12, .inl (fun _ => 0)))), (q7, .inl (cA 0, (12, .inl (fun _ => 0)))), (q8, .inl (cA 0, (12, .inl (fun _ => 0)))), (q9, .inl (cA 0, (12, .inl (fun _ => 0)))), (q10, .inl (cA 0, (60, .inl (fun _ => 0)))), (q11, .inl (cA 0, (60, .inl (fun _ => 0)))), (q12, .inl (cA 0, (60, .inl (fun _ => 0)))), (q13, .inl (cA 0, (60, .inl (fun _ => 0)))), (q14, .inl (cA 0, (240, .inl (fun _ => 0)))), (q15, .inl (cA 3, (60, .inl (fun _ => 0)))), (q16, .inl (cA 0, (4, .inl (upd (upd (upd (upd (fun _ => 0) (0 : Int32).toNatClampNeg (-1 : Int32)) (1 : Int32).toNatClampNeg (-1 : Int32)) (2 : Int32).toNatClampNeg (-1 : Int32)) (3 : Int32).toNatClampNeg (-1 : Int32))))), (q17, .inl (cA 0, (40, .inl (fun _ => 0)))), (q18, .inl (cA 0, (12, .inl (fun _ => 0)))), (q19, .inl (cA 0, (12, .inl (fun _ => 0)))), (q20, .inl (cA 0, (40, .inl (fun _ => 0)))), (q21, .inl (cA 0, (10, .inl (fun _ => 0)))), (q22, .inl (cA 0, (400, .inl (fun _ => 0)))), (q23, .inl (cA 0, (10, .inl (fun _ => 0))))]) 16 dX8_init_201 rfl (by decide) rfl ?_
  refine n_iinc hG (v := (4 : Int32)) (lv' := [(1, .int (4 : Int32)), (0, .ref h0)]) 0 dX8_init_202 rfl (by decide) (by decide) rfl ?_
  refine n_goto hG (tgt := 190) dX8_init_205 (by decide) ?_
  refine n_iload_n hG 0 dX8_init_190 rfl ?_
  refine n_iconst hG (v := (4 : Int32)) dX8_init_191 (by decide) ?_
  refine n_geT hG (tgt := 208) dX8_init_192 (by decide) (by decide) ?_
  exact hR _ _ _ ⟨q1, q2, q3, q4, q5, q6, q7, q8, q9, q10, q11, q12, q13, q14, q15, q16, q17, q18, q19, q20, q21, q22, q23, rfl⟩ dX8_init_208
end
section
/-! what holds at the law's entry, in the words of the other parts (by wip/whole/start.py) -/
theorem lt0 : ∀ w ∈ TBc0, w ∈ lw_tbl := by
  have h : TBc0 = [89, 90, 91, 92, 93, 94, 95, 96, 97, 98, 99, 100, 101, 102, 103, 104, 105, 106, 107, 108, 109, 112, 113, 114, 115, 116, 121, 122, 123, 124].filterMap (fun i => lw_tbl[i]?) := by decide +kernel
  intro w hw
  rw [h] at hw
  obtain ⟨i, -, hi⟩ := List.mem_filterMap.mp hw
  exact List.mem_of_getElem? hi
theorem lt1 : ∀ w ∈ TBc1, w ∈ lw_tbl := by
  have h : TBc1 = [126, 127, 128, 129, 131, 133, 135, 138, 142, 143, 144, 145, 147, 150, 153, 156, 158, 160, 162, 168, 169, 170, 171, 173, 174, 175, 176, 177, 178, 179].filterMap (fun i => lw_tbl[i]?) := by decide +kernel
  intro w hw
  rw [h] at hw
  obtain ⟨i, -, hi⟩ := List.mem_filterMap.mp hw
  exact List.mem_of_getElem? hi
theorem lt2 : ∀ w ∈ TBc2, w ∈ lw_tbl := by
  have h : TBc2 = [181, 183, 185, 187, 189, 191, 197, 198, 199, 203, 204, 205, 206, 207, 208, 209, 210, 211, 215, 218, 220, 222, 224, 226, 228, 230, 233, 234, 236, 237].filterMap (fun i => lw_tbl[i]?) := by decide +kernel
  intro w hw
  rw [h] at hw
  obtain ⟨i, -, hi⟩ := List.mem_filterMap.mp hw
  exact List.mem_of_getElem? hi
theorem lt3 : ∀ w ∈ TBc3, w ∈ lw_tbl := by
  have h : TBc3 = [239, 241, 243, 245, 251, 252, 253, 254, 256, 258, 259, 260, 261, 263, 265, 267, 269, 272, 273, 277, 278, 279, 280, 281, 284, 286, 289, 290, 291, 292].filterMap (fun i => lw_tbl[i]?) := by decide +kernel
  intro w hw
  rw [h] at hw
  obtain ⟨i, -, hi⟩ := List.mem_filterMap.mp hw
  exact List.mem_of_getElem? hi
theorem lt4 : ∀ w ∈ TBc4, w ∈ lw_tbl := by
  have h : TBc4 = [293, 294, 295, 296, 297, 298, 300, 302, 304, 306, 308, 310, 312, 314, 317, 318, 319, 320, 321, 322, 323, 324, 325, 326, 327, 328, 329, 330, 331, 334].filterMap (fun i => lw_tbl[i]?) := by decide +kernel
  intro w hw
  rw [h] at hw
  obtain ⟨i, -, hi⟩ := List.mem_filterMap.mp hw
  exact List.mem_of_getElem? hi
theorem lt5 : ∀ w ∈ TBc5, w ∈ lw_tbl := by
  have h : TBc5 = [335, 337, 338, 339, 340, 341, 342, 343, 344, 348, 349, 350, 351, 377, 437, 438, 439, 440, 441, 442, 445, 446, 447, 448, 449, 451, 452, 454, 456, 457].filterMap (fun i => lw_tbl[i]?) := by decide +kernel
  intro w hw
  rw [h] at hw
  obtain ⟨i, -, hi⟩ := List.mem_filterMap.mp hw
  exact List.mem_of_getElem? hi
theorem lt6 : ∀ w ∈ TBc6, w ∈ lw_tbl := by
  have h : TBc6 = [458, 459, 460, 477, 479, 480, 485, 486, 490, 491, 494, 496, 497, 500, 501, 504, 505, 508, 509, 512, 513, 514, 515, 516, 520, 521, 522, 524, 525, 529].filterMap (fun i => lw_tbl[i]?) := by decide +kernel
  intro w hw
  rw [h] at hw
  obtain ⟨i, -, hi⟩ := List.mem_filterMap.mp hw
  exact List.mem_of_getElem? hi
theorem lt7 : ∀ w ∈ TBc7, w ∈ lw_tbl := by
  have h : TBc7 = [530, 532, 534, 535, 537, 539, 540, 542, 543, 544, 546, 547, 548, 550, 551, 554, 555, 559, 560, 561, 563, 564, 565, 567, 568, 569, 571, 572, 573, 575].filterMap (fun i => lw_tbl[i]?) := by decide +kernel
  intro w hw
  rw [h] at hw
  obtain ⟨i, -, hi⟩ := List.mem_filterMap.mp hw
  exact List.mem_of_getElem? hi
theorem lt8 : ∀ w ∈ TBc8, w ∈ lw_tbl := by
  have h : TBc8 = [576, 577, 578, 579, 580, 581, 583, 584, 587, 588, 591, 592, 596, 597, 598, 600, 601, 602, 603, 605, 606, 607, 608, 610, 611, 613, 614, 615, 616, 617].filterMap (fun i => lw_tbl[i]?) := by decide +kernel
  intro w hw
  rw [h] at hw
  obtain ⟨i, -, hi⟩ := List.mem_filterMap.mp hw
  exact List.mem_of_getElem? hi
theorem lt9 : ∀ w ∈ TBc9, w ∈ lw_tbl := by
  have h : TBc9 = [619, 620, 624, 625, 629, 630, 631, 632, 634, 635, 636, 637, 638, 639, 641, 642, 643, 644, 649, 650, 652, 653, 655, 656, 657, 658, 659, 661, 662, 664].filterMap (fun i => lw_tbl[i]?) := by decide +kernel
  intro w hw
  rw [h] at hw
  obtain ⟨i, -, hi⟩ := List.mem_filterMap.mp hw
  exact List.mem_of_getElem? hi
theorem lt10 : ∀ w ∈ TBc10, w ∈ lw_tbl := by
  have h : TBc10 = [665, 666, 667, 668, 669, 670, 671, 673, 674, 675, 676, 681, 682, 685, 686, 689, 690, 691, 694, 695, 698, 699, 700, 701, 702, 703, 704, 705, 706, 707].filterMap (fun i => lw_tbl[i]?) := by decide +kernel
  intro w hw
  rw [h] at hw
  obtain ⟨i, -, hi⟩ := List.mem_filterMap.mp hw
  exact List.mem_of_getElem? hi
theorem lt11 : ∀ w ∈ TBc11, w ∈ lw_tbl := by
  have h : TBc11 = [708, 710, 711, 712, 713, 716, 717, 718, 720, 721, 723, 724, 726, 727, 728, 729, 732, 733, 734, 735, 737, 738, 739, 740, 743, 744, 746, 747, 748, 750].filterMap (fun i => lw_tbl[i]?) := by decide +kernel
  intro w hw
  rw [h] at hw
  obtain ⟨i, -, hi⟩ := List.mem_filterMap.mp hw
  exact List.mem_of_getElem? hi
theorem lt12 : ∀ w ∈ TBc12, w ∈ lw_tbl := by
  have h : TBc12 = [751, 752, 753, 754, 755, 757, 758, 759, 760, 761, 763, 764, 766, 767, 769, 770, 771, 772, 773, 774, 776, 777, 778, 779, 780, 781, 784, 785, 786, 787].filterMap (fun i => lw_tbl[i]?) := by decide +kernel
  intro w hw
  rw [h] at hw
  obtain ⟨i, -, hi⟩ := List.mem_filterMap.mp hw
  exact List.mem_of_getElem? hi
theorem lt13 : ∀ w ∈ TBc13, w ∈ lw_tbl := by
  have h : TBc13 = [788, 790, 791, 793, 795, 796, 814, 815, 817, 818, 819, 820, 821, 822, 824, 825, 826, 827, 828, 829, 831, 832, 833, 834, 838, 839, 840, 841, 843, 844].filterMap (fun i => lw_tbl[i]?) := by decide +kernel
  intro w hw
  rw [h] at hw
  obtain ⟨i, -, hi⟩ := List.mem_filterMap.mp hw
  exact List.mem_of_getElem? hi
theorem lt14 : ∀ w ∈ TBc14, w ∈ lw_tbl := by
  have h : TBc14 = [845, 846, 848, 849, 851, 852, 853, 854, 858, 859, 861, 863, 864, 866, 868, 869, 870, 872, 873, 874, 875, 876, 880, 881, 883, 884, 886, 887, 888, 889].filterMap (fun i => lw_tbl[i]?) := by decide +kernel
  intro w hw
  rw [h] at hw
  obtain ⟨i, -, hi⟩ := List.mem_filterMap.mp hw
  exact List.mem_of_getElem? hi
theorem lt15 : ∀ w ∈ TBc15, w ∈ lw_tbl := by
  have h : TBc15 = [892, 893, 896, 897, 898, 899, 901, 902, 903, 904, 905, 907, 908, 913, 914, 916, 917, 919, 920, 921, 922, 926, 927, 928, 929, 931, 932, 933, 934, 937].filterMap (fun i => lw_tbl[i]?) := by decide +kernel
  intro w hw
  rw [h] at hw
  obtain ⟨i, -, hi⟩ := List.mem_filterMap.mp hw
  exact List.mem_of_getElem? hi
theorem lt16 : ∀ w ∈ TBc16, w ∈ lw_tbl := by
  have h : TBc16 = [938, 942, 943, 944, 945, 946, 947, 948, 949, 950, 951, 952, 953, 954, 955, 956, 957, 958, 959, 960, 961, 962, 963, 964, 965, 966, 967, 968, 969, 970].filterMap (fun i => lw_tbl[i]?) := by decide +kernel
  intro w hw
  rw [h] at hw
  obtain ⟨i, -, hi⟩ := List.mem_filterMap.mp hw
  exact List.mem_of_getElem? hi
theorem lt17 : ∀ w ∈ TBc17, w ∈ lw_tbl := by
  have h : TBc17 = [971, 972, 973, 974, 975, 976, 977, 978, 979, 980, 981, 982, 983, 985, 987, 989, 991, 993, 995, 997, 999, 1001, 1003, 1005, 1007, 1009, 1011, 1013, 1015, 1017].filterMap (fun i => lw_tbl[i]?) := by decide +kernel
  intro w hw
  rw [h] at hw
  obtain ⟨i, -, hi⟩ := List.mem_filterMap.mp hw
  exact List.mem_of_getElem? hi
theorem lt18 : ∀ w ∈ TBc18, w ∈ lw_tbl := by
  have h : TBc18 = [1019, 1021, 1023, 1025, 1027, 1029, 1031, 1033, 1035, 1037, 1039, 1041, 1043, 1045, 1047, 1049, 1051, 1053, 1055, 1058, 1059, 1060, 1061, 1062, 1063, 1064, 1065, 1066, 1067, 1068].filterMap (fun i => lw_tbl[i]?) := by decide +kernel
  intro w hw
  rw [h] at hw
  obtain ⟨i, -, hi⟩ := List.mem_filterMap.mp hw
  exact List.mem_of_getElem? hi
theorem lt19 : ∀ w ∈ TBc19, w ∈ lw_tbl := by
  have h : TBc19 = [1069, 1070, 1072, 1073, 1074, 1075, 1076, 1077, 1078, 1079, 1080, 1081, 1082, 1083, 1084, 1085, 1086, 1087, 1088, 1089, 1090, 1091, 1093, 1094, 1095, 1097, 1098, 1099, 1101, 1102].filterMap (fun i => lw_tbl[i]?) := by decide +kernel
  intro w hw
  rw [h] at hw
  obtain ⟨i, -, hi⟩ := List.mem_filterMap.mp hw
  exact List.mem_of_getElem? hi
theorem lt20 : ∀ w ∈ TBc20, w ∈ lw_tbl := by
  have h : TBc20 = [1103, 1104, 1105, 1106, 1108, 1109, 1110, 1112, 1113, 1114, 1115, 1116, 1117, 1119, 1120, 1121, 1123, 1124, 1125, 1127, 1128, 1129, 1131, 1132, 1133, 1135, 1136, 1137, 1139, 1140].filterMap (fun i => lw_tbl[i]?) := by decide +kernel
  intro w hw
  rw [h] at hw
  obtain ⟨i, -, hi⟩ := List.mem_filterMap.mp hw
  exact List.mem_of_getElem? hi
theorem lt21 : ∀ w ∈ TBc21, w ∈ lw_tbl := by
  have h : TBc21 = [1141, 1143, 1144, 1145, 1147, 1148, 1149, 1150, 1151, 1152, 1153, 1154, 1155, 1156, 1157, 1159, 1160, 1161, 1163, 1164, 1165, 1167, 1168, 1169, 1170, 1171, 1172, 1173, 1174, 1175].filterMap (fun i => lw_tbl[i]?) := by decide +kernel
  intro w hw
  rw [h] at hw
  obtain ⟨i, -, hi⟩ := List.mem_filterMap.mp hw
  exact List.mem_of_getElem? hi
theorem lt22 : ∀ w ∈ TBc22, w ∈ lw_tbl := by
  have h : TBc22 = [1176, 1177, 1178, 1179, 1180, 1181, 1183, 1184, 1185, 1186, 1187, 1188, 1189, 1190, 1191, 1192, 1194, 1195, 1196, 1198, 1199, 1200, 1201, 1202, 1203, 1204, 1206, 1207, 1208, 1209].filterMap (fun i => lw_tbl[i]?) := by decide +kernel
  intro w hw
  rw [h] at hw
  obtain ⟨i, -, hi⟩ := List.mem_filterMap.mp hw
  exact List.mem_of_getElem? hi
theorem lt23 : ∀ w ∈ TBc23, w ∈ lw_tbl := by
  have h : TBc23 = [1210, 1211, 1212, 1213, 1214, 1215, 1216, 1217, 1218, 1219, 1220, 1221, 1222, 1223, 1224, 1225, 1226, 1227, 1228, 1230, 1231, 1232, 1233, 1234, 1235, 1236, 1237, 1238, 1239, 1240].filterMap (fun i => lw_tbl[i]?) := by decide +kernel
  intro w hw
  rw [h] at hw
  obtain ⟨i, -, hi⟩ := List.mem_filterMap.mp hw
  exact List.mem_of_getElem? hi
theorem lt24 : ∀ w ∈ TBc24, w ∈ lw_tbl := by
  have h : TBc24 = [1241, 1242, 1243, 1244, 1246, 1247, 1248, 1249, 1250, 1251, 1252, 1253, 1254, 1255, 1256, 1257, 1258, 1259, 1260, 1261, 1262, 1263, 1264, 1265, 1266, 1267, 1268, 1269, 1270, 1271].filterMap (fun i => lw_tbl[i]?) := by decide +kernel
  intro w hw
  rw [h] at hw
  obtain ⟨i, -, hi⟩ := List.mem_filterMap.mp hw
  exact List.mem_of_getElem? hi
theorem lt25 : ∀ w ∈ TBc25, w ∈ lw_tbl := by
  have h : TBc25 = [1272, 1273, 1274, 1275, 1276, 1277, 1278, 1279, 1280, 1282, 1283, 1284, 1286, 1287, 1288, 1290, 1291, 1292, 1294, 1295, 1296, 1298, 1299, 1300, 1301, 1302, 1303, 1304, 1305, 1306].filterMap (fun i => lw_tbl[i]?) := by decide +kernel
  intro w hw
  rw [h] at hw
  obtain ⟨i, -, hi⟩ := List.mem_filterMap.mp hw
  exact List.mem_of_getElem? hi
theorem lt26 : ∀ w ∈ TBc26, w ∈ lw_tbl := by
  have h : TBc26 = [1308, 1309, 1310, 1311, 1312, 1313, 0, 2, 3, 4, 5, 6, 7, 8, 9, 10, 11, 12, 13, 14, 15, 16, 17, 18, 19, 20, 21, 22, 23, 24].filterMap (fun i => lw_tbl[i]?) := by decide +kernel
  intro w hw
  rw [h] at hw
  obtain ⟨i, -, hi⟩ := List.mem_filterMap.mp hw
  exact List.mem_of_getElem? hi
theorem lt27 : ∀ w ∈ TBc27, w ∈ lw_tbl := by
  have h : TBc27 = [25, 26, 27, 28, 29, 30, 31, 32, 33, 34, 35, 36, 37, 38, 39, 40, 41, 42, 43, 44, 45, 46, 47, 48, 49, 50, 51, 52, 53, 54].filterMap (fun i => lw_tbl[i]?) := by decide +kernel
  intro w hw
  rw [h] at hw
  obtain ⟨i, -, hi⟩ := List.mem_filterMap.mp hw
  exact List.mem_of_getElem? hi
theorem lt28 : ∀ w ∈ TBc28, w ∈ lw_tbl := by
  have h : TBc28 = [55, 56, 57, 58, 59, 60, 61, 62, 63, 64, 65, 66, 67, 68, 69, 70, 71, 72, 73, 74, 75, 76, 77, 78, 79, 80, 81, 82, 83, 84].filterMap (fun i => lw_tbl[i]?) := by decide +kernel
  intro w hw
  rw [h] at hw
  obtain ⟨i, -, hi⟩ := List.mem_filterMap.mp hw
  exact List.mem_of_getElem? hi
theorem lt29 : ∀ w ∈ TBc29, w ∈ lw_tbl := by
  have h : TBc29 = [85, 86, 87, 88].filterMap (fun i => lw_tbl[i]?) := by decide +kernel
  intro w hw
  rw [h] at hw
  obtain ⟨i, -, hi⟩ := List.mem_filterMap.mp hw
  exact List.mem_of_getElem? hi
theorem lt30 : ∀ w ∈ TBc30, w ∈ lw_tbl := by
  have h : TBc30 = [99, 100, 101, 102, 103, 104, 105, 106, 107, 108, 109, 110, 111, 115, 116, 117, 118, 119, 123, 137, 139, 140, 144, 164, 165, 166, 170, 193, 194, 195, 199, 200, 201, 205, 232, 247, 248, 249, 253, 271, 274, 275, 279, 288, 316, 345, 346, 347, 352, 353, 361, 362, 363, 364, 365, 366, 367, 368, 369, 370, 371, 372, 373, 374, 375, 376, 377, 378, 380, 382, 383, 384, 385, 386, 387, 388, 389, 391, 392, 393, 395, 396, 397, 398, 399, 400, 401, 402, 403, 404, 405, 406, 407, 408, 409, 410, 411, 416, 419, 421, 422, 424, 425, 426, 427, 428, 429, 431, 432, 433, 434, 435, 436, 443, 444, 461, 462, 464, 465, 466, 467, 468, 469, 471, 472, 473, 474, 475, 476, 514, 516, 577, 579, 604, 612, 633, 640, 654, 664, 666, 672, 701, 703, 709, 725, 736, 746, 749, 756, 768, 775, 782, 783, 797, 798, 800, 801, 802, 803, 804, 805, 807, 808, 809, 810, 811, 812, 816, 823, 830, 842, 850, 874, 876, 900, 918, 930, 940, 941, 945, 1057, 1314, 1].filterMap (fun i => lw_tbl[i]?) := by decide +kernel
  intro w hw
  rw [h] at hw
  obtain ⟨i, -, hi⟩ := List.mem_filterMap.mp hw
  exact List.mem_of_getElem? hi
theorem ln0 : ∀ w ∈ NFc0, w ∈ lw_tbl := by
  have h : NFc0 = [120, 125, 141, 146, 148, 149, 151, 152, 154, 155, 167, 172, 196, 202, 212, 213, 214, 216, 217, 235, 238, 250, 255, 257, 276, 282, 283, 332, 336, 483].filterMap (fun i => lw_tbl[i]?) := by decide +kernel
  intro w hw
  rw [h] at hw
  obtain ⟨i, -, hi⟩ := List.mem_filterMap.mp hw
  exact List.mem_of_getElem? hi
theorem ln1 : ∀ w ∈ NFc1, w ∈ lw_tbl := by
  have h : NFc1 = [487, 488, 492, 493, 498, 502, 506, 510, 517, 518, 526, 527, 531, 536, 541, 552, 556, 557, 585, 589, 594, 622, 626, 627, 647, 651, 677, 679, 683, 687].filterMap (fun i => lw_tbl[i]?) := by decide +kernel
  intro w hw
  rw [h] at hw
  obtain ⟨i, -, hi⟩ := List.mem_filterMap.mp hw
  exact List.mem_of_getElem? hi
theorem ln2 : ∀ w ∈ NFc2, w ∈ lw_tbl := by
  have h : NFc2 = [692, 696, 714, 730, 741, 745, 813, 836, 847, 856, 860, 865, 877, 878, 882, 890, 894, 911, 915, 924, 935, 939, 354, 355, 356, 357, 358, 359, 360, 423].filterMap (fun i => lw_tbl[i]?) := by decide +kernel
  intro w hw
  rw [h] at hw
  obtain ⟨i, -, hi⟩ := List.mem_filterMap.mp hw
  exact List.mem_of_getElem? hi
theorem ln3 : ∀ w ∈ NFc3, w ∈ lw_tbl := by
  have h : NFc3 = [463, 799, 1315, 1316, 1317, 1318, 1319, 1320, 1321, 1322, 1323, 1324, 1325, 1326, 1327, 1328, 1329].filterMap (fun i => lw_tbl[i]?) := by decide +kernel
  intro w hw
  rw [h] at hw
  obtain ⟨i, -, hi⟩ := List.mem_filterMap.mp hw
  exact List.mem_of_getElem? hi
theorem TB_lw : ∀ w ∈ TB, w ∈ lw_tbl := by
  intro w h
  unfold TB at h
  rcases List.mem_append.mp h with h | h
  · exact lt0 w h
  rcases List.mem_append.mp h with h | h
  · exact lt1 w h
  rcases List.mem_append.mp h with h | h
  · exact lt2 w h
  rcases List.mem_append.mp h with h | h
  · exact lt3 w h
  rcases List.mem_append.mp h with h | h
  · exact lt4 w h
  rcases List.mem_append.mp h with h | h
  · exact lt5 w h
  rcases List.mem_append.mp h with h | h
  · exact lt6 w h
  rcases List.mem_append.mp h with h | h
  · exact lt7 w h
  rcases List.mem_append.mp h with h | h
  · exact lt8 w h
  rcases List.mem_append.mp h with h | h
  · exact lt9 w h
  rcases List.mem_append.mp h with h | h
  · exact lt10 w h
  rcases List.mem_append.mp h with h | h
  · exact lt11 w h
  rcases List.mem_append.mp h with h | h
  · exact lt12 w h
  rcases List.mem_append.mp h with h | h
  · exact lt13 w h
  rcases List.mem_append.mp h with h | h
  · exact lt14 w h
  rcases List.mem_append.mp h with h | h
  · exact lt15 w h
  rcases List.mem_append.mp h with h | h
  · exact lt16 w h
  rcases List.mem_append.mp h with h | h
  · exact lt17 w h
  rcases List.mem_append.mp h with h | h
  · exact lt18 w h
  rcases List.mem_append.mp h with h | h
  · exact lt19 w h
  rcases List.mem_append.mp h with h | h
  · exact lt20 w h
  rcases List.mem_append.mp h with h | h
  · exact lt21 w h
  rcases List.mem_append.mp h with h | h
  · exact lt22 w h
  rcases List.mem_append.mp h with h | h
  · exact lt23 w h
  rcases List.mem_append.mp h with h | h
  · exact lt24 w h
  rcases List.mem_append.mp h with h | h
  · exact lt25 w h
  rcases List.mem_append.mp h with h | h
  · exact lt26 w h
  rcases List.mem_append.mp h with h | h
  · exact lt27 w h
  rcases List.mem_append.mp h with h | h
  · exact lt28 w h
  rcases List.mem_append.mp h with h | h
  · exact lt29 w h
  exact lt30 w h
theorem NF_lw : ∀ w ∈ NF, w ∈ lw_tbl := by
  intro w h
  unfold NF at h
  rcases List.mem_append.mp h with h | h
  · exact ln0 w h
  rcases List.mem_append.mp h with h | h
  · exact ln1 w h
  rcases List.mem_append.mp h with h | h
  · exact ln2 w h
  exact ln3 w h
abbrev lw_N : Jvm.Cond := Jvm.Cond.and given_1 narrow_1
theorem STR_lw : ∀ q ∈ STR, Cond.stringRef q.1 q.2.1 q.2.2 ∈ lw_tbl ∧ Cond.exactly (.string q.1 q.2.1) "java/lang/String" ∈ flatC lw_N := by decide +kernel
theorem NCS_lw : ∀ q ∈ NCS, Cond.not (.castable q.1 q.2) ∈ flatC lw_N := by decide +kernel
theorem sta_lw : Cond.laysStatic Bundle.tN "UNASSIGNED_STACK" Bundle.steD ∈ lw_tbl ∧ Cond.laysStatic Bundle.tN "SUPPRESSED_SENTINEL" Bundle.listD ∈ lw_tbl ∧ Cond.initialized Bundle.tN ∈ lw_tbl ∧ Cond.isRef (.static Bundle.tN "UNASSIGNED_STACK" Bundle.steD) ∈ flatC lw_N ∧ Cond.isRef (.static Bundle.tN "SUPPRESSED_SENTINEL" Bundle.listD) ∈ flatC lw_N := by decide +kernel
theorem NwA_at {args : Array Value} {s : State} (hts : ∀ w ∈ lw_tbl, w.before args s = true) (hgv : lw_N.before args s = true) : NwA s := by
  have hs := flat_of_before _ hgv
  refine ⟨fun w hw => va_Nw.of (List.all_eq_true.mp nf_tab w hw) (hts w (NF_lw w hw)), fun q hq => ?_, fun q hq => va_Nc.of (hs _ (NCS_lw q hq))⟩
  obtain ⟨h1, h2⟩ := STR_lw q hq
  obtain ⟨a, c, cell, k, h3, -⟩ := Cond.exactly_spec (hs _ h2)
  exact ⟨a, vk_R.of (hts _ h1) h3⟩
theorem Zq_at {args : Array Value} {s : State} (hts : ∀ w ∈ lw_tbl, w.before args s = true) (hgv : lw_N.before args s = true) {A : Nat → Prop} (hA : ∀ a : Nat, a < s.heap.size → ¬ A a) : vx_Zq Bundle.tN "UNASSIGNED_STACK" Bundle.steD A s s.heap ∧ vx_Zq Bundle.tN "SUPPRESSED_SENTINEL" Bundle.listD A s s.heap := by
  have hs := flat_of_before _ hgv
  obtain ⟨h1, h2, h3, h4, h5⟩ := sta_lw
  exact ⟨vx_Zqof (hts _ h1) (hts _ h3) (hs _ h4) hA, vx_Zqof (hts _ h2) (hts _ h3) (hs _ h5) hA⟩
theorem arr_at {args : Array Value} {s : State} {ty : FieldType} (h : (Cond.arrayClass ty).before args s = true) : ∃ cA : ClassId, ArrOfT s cA ty ∧ s.vm.findClass ("[" ++ ty.toString) = some cA := by
  obtain ⟨c, k, comp, h1, h2, h3⟩ := Cond.arrayClass_spec h
  exact ⟨c, fun n z => ⟨fun k h => (by cases h), k, h2, comp, h3⟩, h1⟩

theorem K_at {args : Array Value} {s : State} (hts : ∀ w ∈ lw_tbl, w.before args s = true) : ∃ (D : va_G) (cA : Nat → ClassId), va_K D vwCl (tyl cA) s := by
  have htb : ∀ w ∈ TB, w.before args s = true := fun w hw => hts w (TB_lw w hw)
  obtain ⟨c0, i0, h0⟩ := u_known (C := RX0) (T := TX0) (N := 7) (n := 7) htb lyX0 (htb _ (exin (mem_i 32 (by decide +kernel)) : Cond.instantiable RX0 7 ∈ TB))
  obtain ⟨c1, i1, h1⟩ := u_known (C := RX1) (T := TX1) (N := 2) (n := 2) htb lyX1 (htb _ (exin (mem_i 41 (by decide +kernel)) : Cond.instantiable RX1 2 ∈ TB))
  obtain ⟨c2, i2, h2⟩ := u_known (C := RX2) (T := TX2) (N := 5) (n := 5) htb lyX2 (htb _ (exin (mem_i 37 (by decide +kernel)) : Cond.instantiable RX2 5 ∈ TB))
  obtain ⟨c3, i3, h3⟩ := u_known (C := RX3) (T := TX3) (N := 4) (n := 4) htb lyX3 (htb _ (exin (mem_i 29 (by decide +kernel)) : Cond.instantiable RX3 4 ∈ TB))
  obtain ⟨c4, i4, h4⟩ := u_known (C := RX4) (T := TX4) (N := 4) (n := 4) htb lyX4 (htb _ (exin (mem_i 21 (by decide +kernel)) : Cond.instantiable RX4 4 ∈ TB))
  obtain ⟨c5, i5, h5⟩ := u_known (C := RX5) (T := TX5) (N := 4) (n := 4) htb lyX5 (htb _ (exin (mem_i 17 (by decide +kernel)) : Cond.instantiable RX5 4 ∈ TB))
  obtain ⟨c6, i6, h6⟩ := u_known (C := RX6) (T := TX6) (N := 7) (n := 7) htb lyX6 (htb _ (exin (mem_i 25 (by decide +kernel)) : Cond.instantiable RX6 7 ∈ TB))
  obtain ⟨c7, i7, h7⟩ := u_known (C := RX7) (T := TX7) (N := 9) (n := 9) htb lyX7 (htb _ (exin (mem_i 12 (by decide +kernel)) : Cond.instantiable RX7 9 ∈ TB))
  obtain ⟨c8, i8, h8⟩ := u_known (C := RX8) (T := TX8) (N := 37) (n := 37) htb lyX8 (htb _ (exin (mem_i 178 (by decide +kernel)) : Cond.instantiable RX8 37 ∈ TB))
  obtain ⟨a0, z0⟩ := arr_at (ty := .int) (htb _ (tb1 (mem_i 7 rfl)))
  obtain ⟨a1, z1⟩ := arr_at (ty := .long) (htb _ (tb3 (mem_i 17 rfl)))
  obtain ⟨a2, z2⟩ := arr_at (ty := .char) (htb _ (tb3 (mem_i 18 rfl)))
  obtain ⟨a3, z3⟩ := arr_at (ty := .boolean) (htb _ (tb18 (mem_i 19 rfl)))
  refine ⟨(fun k => if k = 0 then c0 else if k = 1 then c1 else if k = 2 then c2 else if k = 3 then c3 else if k = 4 then c4 else if k = 5 then c5 else if k = 6 then c6 else if k = 7 then c7 else  c8, fun k => if k = 0 then i0 else if k = 1 then i1 else if k = 2 then i2 else if k = 3 then i3 else if k = 4 then i4 else if k = 5 then i5 else if k = 6 then i6 else if k = 7 then i7 else  i8), fun t => if t = 0 then a0 else if t = 1 then a1 else if t = 2 then a2 else a3, ?_, ?_⟩
  · intro k q hq
    match k, hq with
    | 0, hq => cases hq; exact h0
    | 1, hq => cases hq; exact h1
    | 2, hq => cases hq; exact h2
    | 3, hq => cases hq; exact h3
    | 4, hq => cases hq; exact h4
    | 5, hq => cases hq; exact h5
    | 6, hq => cases hq; exact h6
    | 7, hq => cases hq; exact h7
    | 8, hq => cases hq; exact h8
    | k + 9, hq => simp [vwCl] at hq
  · intro k q hq
    match k, hq with
    | 0, hq => cases hq; exact ⟨z0.1, z0.2⟩
    | 1, hq => cases hq; exact ⟨z1.1, z1.2⟩
    | 2, hq => cases hq; exact ⟨z2.1, z2.2⟩
    | 3, hq => cases hq; exact ⟨z3.1, z3.2⟩
    | k + 4, hq => simp [tyl] at hq
end
