section
-- ===== PART A: goes FIRST, ahead of the names: the tables' words, and 'selects' of the private methods out of them =====
/-- a private method of a class that the tables say can be made, by its rows of tables_1 -/
def lw_okq (q : MethodName × Nat) : Prop := (q.1.cls ≠ "java/lang/invoke/MethodHandle" ∧ q.1.cls ≠ "java/lang/invoke/VarHandle") ∧ Cond.instantiable q.1.cls q.2 ∈ tables_1 ∧ Cond.privateMethod q.1 ∈ tables_1 ∧ Cond.instanceMethod q.1 ∈ tables_1
theorem lw_p0 : lw_okq (⟨"Sketchlock", "requireDrawer", "(I)V"⟩, 9) := ⟨⟨by decide +kernel, by decide +kernel⟩, List.mem_of_getElem? (i := 24) (by decide +kernel), List.mem_of_getElem? (i := 248) (by decide +kernel), List.mem_of_getElem? (i := 249) (by decide +kernel)⟩
theorem lw_p1 : lw_okq (⟨"java/lang/Throwable", "fillInStackTrace", "(I)Ljava/lang/Throwable;"⟩, 6) := ⟨⟨by decide +kernel, by decide +kernel⟩, List.mem_of_getElem? (i := 291) (by decide +kernel), List.mem_of_getElem? (i := 289) (by decide +kernel), List.mem_of_getElem? (i := 290) (by decide +kernel)⟩
theorem lw_p2 : lw_okq (⟨"Sketchlock", "requirePlace", "(II)V"⟩, 9) := ⟨⟨by decide +kernel, by decide +kernel⟩, List.mem_of_getElem? (i := 24) (by decide +kernel), List.mem_of_getElem? (i := 321) (by decide +kernel), List.mem_of_getElem? (i := 322) (by decide +kernel)⟩
theorem lw_p3 : lw_okq (⟨"Sketchlock", "requireSize", "(II)V"⟩, 9) := ⟨⟨by decide +kernel, by decide +kernel⟩, List.mem_of_getElem? (i := 24) (by decide +kernel), List.mem_of_getElem? (i := 344) (by decide +kernel), List.mem_of_getElem? (i := 345) (by decide +kernel)⟩
theorem lw_p4 : lw_okq (⟨"Sketchlock$Tree", "draft", "(IIIIII)V"⟩, 7) := ⟨⟨by decide +kernel, by decide +kernel⟩, List.mem_of_getElem? (i := 79) (by decide +kernel), List.mem_of_getElem? (i := 365) (by decide +kernel), List.mem_of_getElem? (i := 366) (by decide +kernel)⟩
theorem lw_p5 : lw_okq (⟨"Sketchlock$Shapes", "draft", "([IIZ)V"⟩, 4) := ⟨⟨by decide +kernel, by decide +kernel⟩, List.mem_of_getElem? (i := 32) (by decide +kernel), List.mem_of_getElem? (i := 372) (by decide +kernel), List.mem_of_getElem? (i := 373) (by decide +kernel)⟩
theorem lw_p6 : lw_okq (⟨"Sketchlock", "doDraft", "(I)V"⟩, 9) := ⟨⟨by decide +kernel, by decide +kernel⟩, List.mem_of_getElem? (i := 24) (by decide +kernel), List.mem_of_getElem? (i := 380) (by decide +kernel), List.mem_of_getElem? (i := 381) (by decide +kernel)⟩
theorem lw_p7 : lw_okq (⟨"Sketchlock$Replay", "tryAct", "(I)Z"⟩, 4) := ⟨⟨by decide +kernel, by decide +kernel⟩, List.mem_of_getElem? (i := 108) (by decide +kernel), List.mem_of_getElem? (i := 384) (by decide +kernel), List.mem_of_getElem? (i := 385) (by decide +kernel)⟩
theorem lw_p8 : lw_okq (⟨"Sketchlock$Tree", "subjectOf", "(I)I"⟩, 7) := ⟨⟨by decide +kernel, by decide +kernel⟩, List.mem_of_getElem? (i := 79) (by decide +kernel), List.mem_of_getElem? (i := 388) (by decide +kernel), List.mem_of_getElem? (i := 389) (by decide +kernel)⟩
theorem lw_p9 : lw_okq (⟨"Sketchlock$Tree", "wantedBy", "(II)I"⟩, 7) := ⟨⟨by decide +kernel, by decide +kernel⟩, List.mem_of_getElem? (i := 79) (by decide +kernel), List.mem_of_getElem? (i := 393) (by decide +kernel), List.mem_of_getElem? (i := 394) (by decide +kernel)⟩
theorem lw_p10 : lw_okq (⟨"Sketchlock$Board", "copyFrom", "(LSketchlock$Board;)V"⟩, 7) := ⟨⟨by decide +kernel, by decide +kernel⟩, List.mem_of_getElem? (i := 114) (by decide +kernel), List.mem_of_getElem? (i := 397) (by decide +kernel), List.mem_of_getElem? (i := 398) (by decide +kernel)⟩
theorem lw_p11 : lw_okq (⟨"Sketchlock$Tree", "deedOf", "(I)I"⟩, 7) := ⟨⟨by decide +kernel, by decide +kernel⟩, List.mem_of_getElem? (i := 79) (by decide +kernel), List.mem_of_getElem? (i := 404) (by decide +kernel), List.mem_of_getElem? (i := 405) (by decide +kernel)⟩
theorem lw_p12 : lw_okq (⟨"Sketchlock$Board", "addShape", "(IIIII)Z"⟩, 7) := ⟨⟨by decide +kernel, by decide +kernel⟩, List.mem_of_getElem? (i := 114) (by decide +kernel), List.mem_of_getElem? (i := 408) (by decide +kernel), List.mem_of_getElem? (i := 409) (by decide +kernel)⟩
theorem lw_p13 : lw_okq (⟨"Sketchlock$Board", "set", "(III)V"⟩, 7) := ⟨⟨by decide +kernel, by decide +kernel⟩, List.mem_of_getElem? (i := 114) (by decide +kernel), List.mem_of_getElem? (i := 412) (by decide +kernel), List.mem_of_getElem? (i := 413) (by decide +kernel)⟩
theorem lw_p14 : lw_okq (⟨"Sketchlock$Board", "moveTo", "(III)Z"⟩, 7) := ⟨⟨by decide +kernel, by decide +kernel⟩, List.mem_of_getElem? (i := 114) (by decide +kernel), List.mem_of_getElem? (i := 417) (by decide +kernel), List.mem_of_getElem? (i := 418) (by decide +kernel)⟩
theorem lw_p15 : lw_okq (⟨"Sketchlock$Board", "groupOf", "(II)I"⟩, 7) := ⟨⟨by decide +kernel, by decide +kernel⟩, List.mem_of_getElem? (i := 114) (by decide +kernel), List.mem_of_getElem? (i := 424) (by decide +kernel), List.mem_of_getElem? (i := 425) (by decide +kernel)⟩
def lw_privs_1 : List (MethodName × Nat) := [(⟨"Sketchlock", "requireDrawer", "(I)V"⟩, 9), (⟨"java/lang/Throwable", "fillInStackTrace", "(I)Ljava/lang/Throwable;"⟩, 6), (⟨"Sketchlock", "requirePlace", "(II)V"⟩, 9), (⟨"Sketchlock", "requireSize", "(II)V"⟩, 9), (⟨"Sketchlock$Tree", "draft", "(IIIIII)V"⟩, 7), (⟨"Sketchlock$Shapes", "draft", "([IIZ)V"⟩, 4), (⟨"Sketchlock", "doDraft", "(I)V"⟩, 9), (⟨"Sketchlock$Replay", "tryAct", "(I)Z"⟩, 4), (⟨"Sketchlock$Tree", "subjectOf", "(I)I"⟩, 7), (⟨"Sketchlock$Tree", "wantedBy", "(II)I"⟩, 7), (⟨"Sketchlock$Board", "copyFrom", "(LSketchlock$Board;)V"⟩, 7), (⟨"Sketchlock$Tree", "deedOf", "(I)I"⟩, 7), (⟨"Sketchlock$Board", "addShape", "(IIIII)Z"⟩, 7), (⟨"Sketchlock$Board", "set", "(III)V"⟩, 7), (⟨"Sketchlock$Board", "moveTo", "(III)Z"⟩, 7), (⟨"Sketchlock$Board", "groupOf", "(II)I"⟩, 7)]
theorem lw_r1 : ∀ q ∈ lw_privs_1, lw_okq q := List.forall_mem_cons.mpr ⟨lw_p0, List.forall_mem_cons.mpr ⟨lw_p1, List.forall_mem_cons.mpr ⟨lw_p2, List.forall_mem_cons.mpr ⟨lw_p3, List.forall_mem_cons.mpr ⟨lw_p4, List.forall_mem_cons.mpr ⟨lw_p5, List.forall_mem_cons.mpr ⟨lw_p6, List.forall_mem_cons.mpr ⟨lw_p7, List.forall_mem_cons.mpr ⟨lw_p8, List.forall_mem_cons.mpr ⟨lw_p9, List.forall_mem_cons.mpr ⟨lw_p10, List.forall_mem_cons.mpr ⟨lw_p11, List.forall_mem_cons.mpr ⟨lw_p12, List.forall_mem_cons.mpr ⟨lw_p13, List.forall_mem_cons.mpr ⟨lw_p14, List.forall_mem_cons.mpr ⟨lw_p15, fun _ h => absurd h List.not_mem_nil⟩⟩⟩⟩⟩⟩⟩⟩⟩⟩⟩⟩⟩⟩⟩⟩
theorem lw_p16 : lw_okq (⟨"Sketchlock$Board", "isLink", "(II)Z"⟩, 7) := ⟨⟨by decide +kernel, by decide +kernel⟩, List.mem_of_getElem? (i := 114) (by decide +kernel), List.mem_of_getElem? (i := 429) (by decide +kernel), List.mem_of_getElem? (i := 430) (by decide +kernel)⟩
theorem lw_p17 : lw_okq (⟨"Sketchlock$Board", "numberOf", "(II)I"⟩, 7) := ⟨⟨by decide +kernel, by decide +kernel⟩, List.mem_of_getElem? (i := 114) (by decide +kernel), List.mem_of_getElem? (i := 436) (by decide +kernel), List.mem_of_getElem? (i := 437) (by decide +kernel)⟩
theorem lw_p18 : lw_okq (⟨"Sketchlock$Board", "shiftGroup", "(III)Z"⟩, 7) := ⟨⟨by decide +kernel, by decide +kernel⟩, List.mem_of_getElem? (i := 114) (by decide +kernel), List.mem_of_getElem? (i := 440) (by decide +kernel), List.mem_of_getElem? (i := 441) (by decide +kernel)⟩
theorem lw_p19 : lw_okq (⟨"Sketchlock$Shapes", "lettersOf", "(I)I"⟩, 4) := ⟨⟨by decide +kernel, by decide +kernel⟩, List.mem_of_getElem? (i := 32) (by decide +kernel), List.mem_of_getElem? (i := 444) (by decide +kernel), List.mem_of_getElem? (i := 445) (by decide +kernel)⟩
theorem lw_p20 : lw_okq (⟨"Sketchlock$Board", "resizeTo", "(III)Z"⟩, 7) := ⟨⟨by decide +kernel, by decide +kernel⟩, List.mem_of_getElem? (i := 114) (by decide +kernel), List.mem_of_getElem? (i := 449) (by decide +kernel), List.mem_of_getElem? (i := 450) (by decide +kernel)⟩
theorem lw_p21 : lw_okq (⟨"Sketchlock$Board", "growClass", "(IIII)Z"⟩, 7) := ⟨⟨by decide +kernel, by decide +kernel⟩, List.mem_of_getElem? (i := 114) (by decide +kernel), List.mem_of_getElem? (i := 453) (by decide +kernel), List.mem_of_getElem? (i := 454) (by decide +kernel)⟩
theorem lw_p22 : lw_okq (⟨"Sketchlock$Board", "tellInRounds", "(II)Z"⟩, 7) := ⟨⟨by decide +kernel, by decide +kernel⟩, List.mem_of_getElem? (i := 114) (by decide +kernel), List.mem_of_getElem? (i := 457) (by decide +kernel), List.mem_of_getElem? (i := 458) (by decide +kernel)⟩
theorem lw_p23 : lw_okq (⟨"Sketchlock$Board", "gapOf", "(II)I"⟩, 7) := ⟨⟨by decide +kernel, by decide +kernel⟩, List.mem_of_getElem? (i := 114) (by decide +kernel), List.mem_of_getElem? (i := 461) (by decide +kernel), List.mem_of_getElem? (i := 462) (by decide +kernel)⟩
theorem lw_p24 : lw_okq (⟨"Sketchlock$Board", "tellByWalk", "(II)Z"⟩, 7) := ⟨⟨by decide +kernel, by decide +kernel⟩, List.mem_of_getElem? (i := 114) (by decide +kernel), List.mem_of_getElem? (i := 465) (by decide +kernel), List.mem_of_getElem? (i := 466) (by decide +kernel)⟩
theorem lw_p25 : lw_okq (⟨"Sketchlock$Board", "areInRange", "(I)Z"⟩, 7) := ⟨⟨by decide +kernel, by decide +kernel⟩, List.mem_of_getElem? (i := 114) (by decide +kernel), List.mem_of_getElem? (i := 473) (by decide +kernel), List.mem_of_getElem? (i := 474) (by decide +kernel)⟩
theorem lw_p26 : lw_okq (⟨"Sketchlock$Board", "layRule", "(I)Z"⟩, 7) := ⟨⟨by decide +kernel, by decide +kernel⟩, List.mem_of_getElem? (i := 114) (by decide +kernel), List.mem_of_getElem? (i := 477) (by decide +kernel), List.mem_of_getElem? (i := 478) (by decide +kernel)⟩
theorem lw_p27 : lw_okq (⟨"Sketchlock$Board", "dropRule", "(I)Z"⟩, 7) := ⟨⟨by decide +kernel, by decide +kernel⟩, List.mem_of_getElem? (i := 114) (by decide +kernel), List.mem_of_getElem? (i := 481) (by decide +kernel), List.mem_of_getElem? (i := 482) (by decide +kernel)⟩
theorem lw_p28 : lw_okq (⟨"Sketchlock$Tree", "hang", "(I)V"⟩, 7) := ⟨⟨by decide +kernel, by decide +kernel⟩, List.mem_of_getElem? (i := 79) (by decide +kernel), List.mem_of_getElem? (i := 486) (by decide +kernel), List.mem_of_getElem? (i := 487) (by decide +kernel)⟩
theorem lw_p29 : lw_okq (⟨"Sketchlock$Tree", "standOf", "(I)I"⟩, 7) := ⟨⟨by decide +kernel, by decide +kernel⟩, List.mem_of_getElem? (i := 79) (by decide +kernel), List.mem_of_getElem? (i := 490) (by decide +kernel), List.mem_of_getElem? (i := 491) (by decide +kernel)⟩
theorem lw_p30 : lw_okq (⟨"Sketchlock", "requireShape", "(I)V"⟩, 9) := ⟨⟨by decide +kernel, by decide +kernel⟩, List.mem_of_getElem? (i := 24) (by decide +kernel), List.mem_of_getElem? (i := 503) (by decide +kernel), List.mem_of_getElem? (i := 504) (by decide +kernel)⟩
theorem lw_p31 : lw_okq (⟨"Sketchlock$Replay", "changedShapes", "()I"⟩, 4) := ⟨⟨by decide +kernel, by decide +kernel⟩, List.mem_of_getElem? (i := 108) (by decide +kernel), List.mem_of_getElem? (i := 508) (by decide +kernel), List.mem_of_getElem? (i := 509) (by decide +kernel)⟩
def lw_privs_2 : List (MethodName × Nat) := [(⟨"Sketchlock$Board", "isLink", "(II)Z"⟩, 7), (⟨"Sketchlock$Board", "numberOf", "(II)I"⟩, 7), (⟨"Sketchlock$Board", "shiftGroup", "(III)Z"⟩, 7), (⟨"Sketchlock$Shapes", "lettersOf", "(I)I"⟩, 4), (⟨"Sketchlock$Board", "resizeTo", "(III)Z"⟩, 7), (⟨"Sketchlock$Board", "growClass", "(IIII)Z"⟩, 7), (⟨"Sketchlock$Board", "tellInRounds", "(II)Z"⟩, 7), (⟨"Sketchlock$Board", "gapOf", "(II)I"⟩, 7), (⟨"Sketchlock$Board", "tellByWalk", "(II)Z"⟩, 7), (⟨"Sketchlock$Board", "areInRange", "(I)Z"⟩, 7), (⟨"Sketchlock$Board", "layRule", "(I)Z"⟩, 7), (⟨"Sketchlock$Board", "dropRule", "(I)Z"⟩, 7), (⟨"Sketchlock$Tree", "hang", "(I)V"⟩, 7), (⟨"Sketchlock$Tree", "standOf", "(I)I"⟩, 7), (⟨"Sketchlock", "requireShape", "(I)V"⟩, 9), (⟨"Sketchlock$Replay", "changedShapes", "()I"⟩, 4)]
theorem lw_r2 : ∀ q ∈ lw_privs_2, lw_okq q := List.forall_mem_cons.mpr ⟨lw_p16, List.forall_mem_cons.mpr ⟨lw_p17, List.forall_mem_cons.mpr ⟨lw_p18, List.forall_mem_cons.mpr ⟨lw_p19, List.forall_mem_cons.mpr ⟨lw_p20, List.forall_mem_cons.mpr ⟨lw_p21, List.forall_mem_cons.mpr ⟨lw_p22, List.forall_mem_cons.mpr ⟨lw_p23, List.forall_mem_cons.mpr ⟨lw_p24, List.forall_mem_cons.mpr ⟨lw_p25, List.forall_mem_cons.mpr ⟨lw_p26, List.forall_mem_cons.mpr ⟨lw_p27, List.forall_mem_cons.mpr ⟨lw_p28, List.forall_mem_cons.mpr ⟨lw_p29, List.forall_mem_cons.mpr ⟨lw_p30, List.forall_mem_cons.mpr ⟨lw_p31, fun _ h => absurd h List.not_mem_nil⟩⟩⟩⟩⟩⟩⟩⟩⟩⟩⟩⟩⟩⟩⟩⟩
theorem lw_p32 : lw_okq (⟨"Sketchlock$Board", "differsAt", "(ILSketchlock$Board;)Z"⟩, 7) := ⟨⟨by decide +kernel, by decide +kernel⟩, List.mem_of_getElem? (i := 114) (by decide +kernel), List.mem_of_getElem? (i := 513) (by decide +kernel), List.mem_of_getElem? (i := 514) (by decide +kernel)⟩
theorem lw_p33 : lw_okq (⟨"Sketchlock$Rules", "draft", "(III)V"⟩, 4) := ⟨⟨by decide +kernel, by decide +kernel⟩, List.mem_of_getElem? (i := 53) (by decide +kernel), List.mem_of_getElem? (i := 527) (by decide +kernel), List.mem_of_getElem? (i := 528) (by decide +kernel)⟩
theorem lw_p34 : lw_okq (⟨"Sketchlock", "requireRule", "(I)V"⟩, 9) := ⟨⟨by decide +kernel, by decide +kernel⟩, List.mem_of_getElem? (i := 24) (by decide +kernel), List.mem_of_getElem? (i := 536) (by decide +kernel), List.mem_of_getElem? (i := 537) (by decide +kernel)⟩
theorem lw_p35 : lw_okq (⟨"Sketchlock$Tree", "aboveOf", "(I)I"⟩, 7) := ⟨⟨by decide +kernel, by decide +kernel⟩, List.mem_of_getElem? (i := 79) (by decide +kernel), List.mem_of_getElem? (i := 553) (by decide +kernel), List.mem_of_getElem? (i := 554) (by decide +kernel)⟩
theorem lw_p36 : lw_okq (⟨"Sketchlock$Tree", "stand", "(II)V"⟩, 7) := ⟨⟨by decide +kernel, by decide +kernel⟩, List.mem_of_getElem? (i := 79) (by decide +kernel), List.mem_of_getElem? (i := 557) (by decide +kernel), List.mem_of_getElem? (i := 558) (by decide +kernel)⟩
theorem lw_p37 : lw_okq (⟨"Sketchlock$Tree", "counting", "()J"⟩, 7) := ⟨⟨by decide +kernel, by decide +kernel⟩, List.mem_of_getElem? (i := 79) (by decide +kernel), List.mem_of_getElem? (i := 561) (by decide +kernel), List.mem_of_getElem? (i := 562) (by decide +kernel)⟩
theorem lw_p38 : lw_okq (⟨"Sketchlock$Replay", "redo", "(J)V"⟩, 4) := ⟨⟨by decide +kernel, by decide +kernel⟩, List.mem_of_getElem? (i := 108) (by decide +kernel), List.mem_of_getElem? (i := 566) (by decide +kernel), List.mem_of_getElem? (i := 567) (by decide +kernel)⟩
theorem lw_p39 : lw_okq (⟨"Sketchlock$Board", "clear", "()V"⟩, 7) := ⟨⟨by decide +kernel, by decide +kernel⟩, List.mem_of_getElem? (i := 114) (by decide +kernel), List.mem_of_getElem? (i := 570) (by decide +kernel), List.mem_of_getElem? (i := 571) (by decide +kernel)⟩
theorem lw_p40 : lw_okq (⟨"Sketchlock$Tree", "branchOf", "(II)I"⟩, 7) := ⟨⟨by decide +kernel, by decide +kernel⟩, List.mem_of_getElem? (i := 79) (by decide +kernel), List.mem_of_getElem? (i := 585) (by decide +kernel), List.mem_of_getElem? (i := 586) (by decide +kernel)⟩
theorem lw_p41 : lw_okq (⟨"Sketchlock$Tree", "isBranch", "(II)Z"⟩, 7) := ⟨⟨by decide +kernel, by decide +kernel⟩, List.mem_of_getElem? (i := 79) (by decide +kernel), List.mem_of_getElem? (i := 589) (by decide +kernel), List.mem_of_getElem? (i := 590) (by decide +kernel)⟩
theorem lw_p42 : lw_okq (⟨"Sketchlock", "requireWhat", "(I)V"⟩, 9) := ⟨⟨by decide +kernel, by decide +kernel⟩, List.mem_of_getElem? (i := 24) (by decide +kernel), List.mem_of_getElem? (i := 606) (by decide +kernel), List.mem_of_getElem? (i := 607) (by decide +kernel)⟩
theorem lw_p43 : lw_okq (⟨"Sketchlock", "requireOn", "(LSketchlock$Board;I)V"⟩, 9) := ⟨⟨by decide +kernel, by decide +kernel⟩, List.mem_of_getElem? (i := 24) (by decide +kernel), List.mem_of_getElem? (i := 611) (by decide +kernel), List.mem_of_getElem? (i := 612) (by decide +kernel)⟩
theorem lw_p44 : lw_okq (⟨"Sketchlock$Board", "fits", "(I)Z"⟩, 7) := ⟨⟨by decide +kernel, by decide +kernel⟩, List.mem_of_getElem? (i := 114) (by decide +kernel), List.mem_of_getElem? (i := 638) (by decide +kernel), List.mem_of_getElem? (i := 639) (by decide +kernel)⟩
theorem lw_p45 : lw_okq (⟨"Sketchlock", "requireMade", "(I)V"⟩, 9) := ⟨⟨by decide +kernel, by decide +kernel⟩, List.mem_of_getElem? (i := 24) (by decide +kernel), List.mem_of_getElem? (i := 651) (by decide +kernel), List.mem_of_getElem? (i := 652) (by decide +kernel)⟩
theorem lw_p46 : lw_okq (⟨"Sketchlock$Exports", "charsOf", "(I)I"⟩, 5) := ⟨⟨by decide +kernel, by decide +kernel⟩, List.mem_of_getElem? (i := 162) (by decide +kernel), List.mem_of_getElem? (i := 657) (by decide +kernel), List.mem_of_getElem? (i := 658) (by decide +kernel)⟩
theorem lw_p47 : lw_okq (⟨"Sketchlock$Exports", "signOf", "(II)C"⟩, 5) := ⟨⟨by decide +kernel, by decide +kernel⟩, List.mem_of_getElem? (i := 162) (by decide +kernel), List.mem_of_getElem? (i := 663) (by decide +kernel), List.mem_of_getElem? (i := 664) (by decide +kernel)⟩
def lw_privs_3 : List (MethodName × Nat) := [(⟨"Sketchlock$Board", "differsAt", "(ILSketchlock$Board;)Z"⟩, 7), (⟨"Sketchlock$Rules", "draft", "(III)V"⟩, 4), (⟨"Sketchlock", "requireRule", "(I)V"⟩, 9), (⟨"Sketchlock$Tree", "aboveOf", "(I)I"⟩, 7), (⟨"Sketchlock$Tree", "stand", "(II)V"⟩, 7), (⟨"Sketchlock$Tree", "counting", "()J"⟩, 7), (⟨"Sketchlock$Replay", "redo", "(J)V"⟩, 4), (⟨"Sketchlock$Board", "clear", "()V"⟩, 7), (⟨"Sketchlock$Tree", "branchOf", "(II)I"⟩, 7), (⟨"Sketchlock$Tree", "isBranch", "(II)Z"⟩, 7), (⟨"Sketchlock", "requireWhat", "(I)V"⟩, 9), (⟨"Sketchlock", "requireOn", "(LSketchlock$Board;I)V"⟩, 9), (⟨"Sketchlock$Board", "fits", "(I)Z"⟩, 7), (⟨"Sketchlock", "requireMade", "(I)V"⟩, 9), (⟨"Sketchlock$Exports", "charsOf", "(I)I"⟩, 5), (⟨"Sketchlock$Exports", "signOf", "(II)C"⟩, 5)]
theorem lw_r3 : ∀ q ∈ lw_privs_3, lw_okq q := List.forall_mem_cons.mpr ⟨lw_p32, List.forall_mem_cons.mpr ⟨lw_p33, List.forall_mem_cons.mpr ⟨lw_p34, List.forall_mem_cons.mpr ⟨lw_p35, List.forall_mem_cons.mpr ⟨lw_p36, List.forall_mem_cons.mpr ⟨lw_p37, List.forall_mem_cons.mpr ⟨lw_p38, List.forall_mem_cons.mpr ⟨lw_p39, List.forall_mem_cons.mpr ⟨lw_p40, List.forall_mem_cons.mpr ⟨lw_p41, List.forall_mem_cons.mpr ⟨lw_p42, List.forall_mem_cons.mpr ⟨lw_p43, List.forall_mem_cons.mpr ⟨lw_p44, List.forall_mem_cons.mpr ⟨lw_p45, List.forall_mem_cons.mpr ⟨lw_p46, List.forall_mem_cons.mpr ⟨lw_p47, fun _ h => absurd h List.not_mem_nil⟩⟩⟩⟩⟩⟩⟩⟩⟩⟩⟩⟩⟩⟩⟩⟩
theorem lw_p48 : lw_okq (⟨"Sketchlock", "requireAct", "(I)V"⟩, 9) := ⟨⟨by decide +kernel, by decide +kernel⟩, List.mem_of_getElem? (i := 24) (by decide +kernel), List.mem_of_getElem? (i := 702) (by decide +kernel), List.mem_of_getElem? (i := 703) (by decide +kernel)⟩
theorem lw_p49 : lw_okq (⟨"Sketchlock$Tree", "countBranches", "(I)I"⟩, 7) := ⟨⟨by decide +kernel, by decide +kernel⟩, List.mem_of_getElem? (i := 79) (by decide +kernel), List.mem_of_getElem? (i := 720) (by decide +kernel), List.mem_of_getElem? (i := 721) (by decide +kernel)⟩
theorem lw_p50 : lw_okq (⟨"Sketchlock$ExportText", "show", "(LSketchlock$Board;LSketchlock$Shapes;)V"⟩, 2) := ⟨⟨by decide +kernel, by decide +kernel⟩, List.mem_of_getElem? (i := 188) (by decide +kernel), List.mem_of_getElem? (i := 729) (by decide +kernel), List.mem_of_getElem? (i := 730) (by decide +kernel)⟩
theorem lw_p51 : lw_okq (⟨"Sketchlock$ExportText", "showShape", "(LSketchlock$Board;LSketchlock$Shapes;I)V"⟩, 2) := ⟨⟨by decide +kernel, by decide +kernel⟩, List.mem_of_getElem? (i := 188) (by decide +kernel), List.mem_of_getElem? (i := 734) (by decide +kernel), List.mem_of_getElem? (i := 735) (by decide +kernel)⟩
theorem lw_p52 : lw_okq (⟨"Sketchlock$ExportText", "write", "(C)V"⟩, 2) := ⟨⟨by decide +kernel, by decide +kernel⟩, List.mem_of_getElem? (i := 188) (by decide +kernel), List.mem_of_getElem? (i := 739) (by decide +kernel), List.mem_of_getElem? (i := 740) (by decide +kernel)⟩
theorem lw_p53 : lw_okq (⟨"Sketchlock$ExportText", "writeNumber", "(I)V"⟩, 2) := ⟨⟨by decide +kernel, by decide +kernel⟩, List.mem_of_getElem? (i := 188) (by decide +kernel), List.mem_of_getElem? (i := 743) (by decide +kernel), List.mem_of_getElem? (i := 744) (by decide +kernel)⟩
theorem lw_p54 : lw_okq (⟨"Sketchlock$Shapes", "shownLetter", "(II)I"⟩, 4) := ⟨⟨by decide +kernel, by decide +kernel⟩, List.mem_of_getElem? (i := 32) (by decide +kernel), List.mem_of_getElem? (i := 751) (by decide +kernel), List.mem_of_getElem? (i := 752) (by decide +kernel)⟩
theorem lw_p55 : lw_okq (⟨"Sketchlock$ExportText", "writeLetter", "(I)V"⟩, 2) := ⟨⟨by decide +kernel, by decide +kernel⟩, List.mem_of_getElem? (i := 188) (by decide +kernel), List.mem_of_getElem? (i := 757) (by decide +kernel), List.mem_of_getElem? (i := 758) (by decide +kernel)⟩
theorem lw_p56 : lw_okq (⟨"Sketchlock$Exports", "keep", "(LSketchlock$ExportText;J)V"⟩, 5) := ⟨⟨by decide +kernel, by decide +kernel⟩, List.mem_of_getElem? (i := 162) (by decide +kernel), List.mem_of_getElem? (i := 763) (by decide +kernel), List.mem_of_getElem? (i := 764) (by decide +kernel)⟩
theorem lw_p57 : lw_okq (⟨"Sketchlock$ExportText", "signOf", "(I)C"⟩, 2) := ⟨⟨by decide +kernel, by decide +kernel⟩, List.mem_of_getElem? (i := 188) (by decide +kernel), List.mem_of_getElem? (i := 767) (by decide +kernel), List.mem_of_getElem? (i := 768) (by decide +kernel)⟩
theorem lw_p58 : lw_okq (⟨"Sketchlock$Exports", "actsOf", "(I)J"⟩, 5) := ⟨⟨by decide +kernel, by decide +kernel⟩, List.mem_of_getElem? (i := 162) (by decide +kernel), List.mem_of_getElem? (i := 789) (by decide +kernel), List.mem_of_getElem? (i := 790) (by decide +kernel)⟩
theorem lw_p59 : lw_okq (⟨"Sketchlock$Tree", "countBelow", "(I)I"⟩, 7) := ⟨⟨by decide +kernel, by decide +kernel⟩, List.mem_of_getElem? (i := 79) (by decide +kernel), List.mem_of_getElem? (i := 812) (by decide +kernel), List.mem_of_getElem? (i := 813) (by decide +kernel)⟩
def lw_privs_4 : List (MethodName × Nat) := [(⟨"Sketchlock", "requireAct", "(I)V"⟩, 9), (⟨"Sketchlock$Tree", "countBranches", "(I)I"⟩, 7), (⟨"Sketchlock$ExportText", "show", "(LSketchlock$Board;LSketchlock$Shapes;)V"⟩, 2), (⟨"Sketchlock$ExportText", "showShape", "(LSketchlock$Board;LSketchlock$Shapes;I)V"⟩, 2), (⟨"Sketchlock$ExportText", "write", "(C)V"⟩, 2), (⟨"Sketchlock$ExportText", "writeNumber", "(I)V"⟩, 2), (⟨"Sketchlock$Shapes", "shownLetter", "(II)I"⟩, 4), (⟨"Sketchlock$ExportText", "writeLetter", "(I)V"⟩, 2), (⟨"Sketchlock$Exports", "keep", "(LSketchlock$ExportText;J)V"⟩, 5), (⟨"Sketchlock$ExportText", "signOf", "(I)C"⟩, 2), (⟨"Sketchlock$Exports", "actsOf", "(I)J"⟩, 5), (⟨"Sketchlock$Tree", "countBelow", "(I)I"⟩, 7)]
theorem lw_r4 : ∀ q ∈ lw_privs_4, lw_okq q := List.forall_mem_cons.mpr ⟨lw_p48, List.forall_mem_cons.mpr ⟨lw_p49, List.forall_mem_cons.mpr ⟨lw_p50, List.forall_mem_cons.mpr ⟨lw_p51, List.forall_mem_cons.mpr ⟨lw_p52, List.forall_mem_cons.mpr ⟨lw_p53, List.forall_mem_cons.mpr ⟨lw_p54, List.forall_mem_cons.mpr ⟨lw_p55, List.forall_mem_cons.mpr ⟨lw_p56, List.forall_mem_cons.mpr ⟨lw_p57, List.forall_mem_cons.mpr ⟨lw_p58, List.forall_mem_cons.mpr ⟨lw_p59, fun _ h => absurd h List.not_mem_nil⟩⟩⟩⟩⟩⟩⟩⟩⟩⟩⟩⟩
def lw_privs : List (MethodName × Nat) := lw_privs_1 ++ (lw_privs_2 ++ (lw_privs_3 ++ (lw_privs_4)))
def lw_tbl : List Cond := k2_sels lw_privs ++ tables_1
theorem lw_privs_ok : ∀ q ∈ lw_privs, lw_okq q := by
  show ∀ q ∈ lw_privs_1 ++ (lw_privs_2 ++ (lw_privs_3 ++ (lw_privs_4))), lw_okq q
  exact List.forall_mem_append.mpr ⟨lw_r1, List.forall_mem_append.mpr ⟨lw_r2, List.forall_mem_append.mpr ⟨lw_r3, lw_r4⟩⟩⟩
-- ===== end of PART A; then your names; then what follows =====
end
section
/-! ===== BEGIN words of one list among another's, by their places ===== -/
theorem goodIn_r {big : List Cond} (ws : List Cond) (ps : List Nat) (hp : ws = ps.filterMap (fun i => big[i]?)) (h : ws.all goodWord = true) : GoodIn big ws := by
  intro w hw
  have h1 := List.all_eq_true.mp h w hw
  rw [hp] at hw
  obtain ⟨i, -, hi⟩ := List.mem_filterMap.mp hw
  have hm : w ∈ big := by first | exact List.mem_of_getElem? hi | exact List.getElem?_mem hi
  exact ⟨hm, good_of_word h1⟩
theorem goodIn_app {big a b : List Cond} (ha : GoodIn big a) (hb : GoodIn big b) : GoodIn big (a ++ b) := fun w h => (List.mem_append.mp h).elim (ha w) (hb w)
theorem goodIn_ca {big a b : List Cond} {c : Cond} (ha : GoodIn big (c :: a)) (hb : GoodIn big b) : GoodIn big (c :: (a ++ b)) := fun w h => (List.mem_cons.mp h).elim (fun e => ha w (List.mem_cons.mpr (Or.inl e))) (fun h => (List.mem_append.mp h).elim (fun h => ha w (List.mem_cons.mpr (Or.inr h))) (hb w))
theorem goodIn_sub {big ws : List Cond} (hm : ∀ w ∈ ws, w ∈ big) (h : ws.all goodWord = true) : GoodIn big ws := fun w hw => ⟨hm w hw, good_of_word (List.all_eq_true.mp h w hw)⟩
/-! ===== END ===== -/

/-! ===== BEGIN exceptions that leave a method, and their catching by the caller (launches without stack traces) ===== -/
section VXA
/-! The laws vx_back, vx_callV, vx_callS, vx_callSW, vx_throw0, vx_throwS follow proofs of the library, with one case more: JvmDerived/Free/Laws.lean (Back.of_free), Shelf42/LK1.lean (callV, callS), Shelf/KitTraced.lean (throwNew0V, throwNewS). -/
/-- where a method has thrown q: the class by its name, the cell, what was written, the world -/
def vx_T (XC : String → State → State → Prop) (st : State) (q : Addr) (t : State) (mc ms : Nat) (free : Addr → Prop) : Prop :=
  ∃ (E : String) (ce : Cell) (L : List Loc), XC E st t ∧ t.heap[q]? = some ce ∧ ce.vm = .none ∧ st.vm.findClass E = some ce.cls ∧ st.WarmedH t.vm ∧ st.sameButNew ({ t with vm := st.vm } : State) L mc ms ∧ ∀ z ∈ L, free z.base
def vx_Q (Qc : Array Value → State → Outcome → State → Prop) (XC : String → State → State → Prop) (mc ms : Nat) (free : Addr → Prop) : Array Value → State → Outcome → State → Prop := fun a st o t =>
  (Qc a st o t ∧ ∃ L, FrameEnd st o t L mc ms ∧ ∀ q ∈ L, free q.base) ∨ ∃ q, o = .threw q ∧ vx_T XC st q t mc ms free
/-- a callee that returns or throws -/
def vx_Met (l : Launch) (y : MethodName) (ws : List Cond) (rm : Room) (Pc : Array Value → State → Prop) (Qc : Array Value → State → Outcome → State → Prop) (XC : String → State → State → Prop) (mc ms : Nat) (free : Addr → Prop) : Prop :=
  MetFree l y (headSpec ws rm) Pc (fun _ _ _ _ _ => True) (vx_Q Qc XC mc ms free)
def vx_Post (XC : String → State → State → Prop) (mc ms : Nat) (free : Addr → Prop) : Pt → Array Value → Addr → Pt → Prop := fun A a q B =>
  ∃ (g : JFrame) (mk : MethodId) (t : State) (L : List Loc) (E : String) (ce : Cell), B.U.heap = t.heap ∧ B.U.vm = t.vm ∧ XC E (A.U.calling g mk a) t ∧ t.heap[q]? = some ce ∧ ce.vm = .none ∧ A.U.vm.findClass E = some ce.cls ∧ B.locs = A.locs ++ L ∧ (∀ z ∈ L, free z.base) ∧ B.cells = A.cells + mc ∧ B.slots = A.slots + ms
def vx_Back (l : Launch) (R : Room) (p : Program) (e : Env) (below : List Frame) (s : State) (sargs : Array Value) (y : MethodName) (len W9 : Nat)
    (Pre : Pt → Array Value → Prop) (Post : Pt → Array Value → Option Value → Pt → Prop) (PostX : Pt → Array Value → Addr → Pt → Prop) : Prop :=
  ∀ (m : MethodId) (meth : Method) (c : Code) (A : Pt) (g : JFrame) (ig : Instr) (mk : MethodId) (a : Array Value),
    Stand p l e R s m sargs below meth c A.U A.locs A.cells A.slots → g.method = m → g.locals.size = c.maxLocals → decode c.code g.pc = .ok (ig, len) →
    2 * g.monitorRoom + (g.stack.map fun v => v.category).sum ≤ W9 → A.U.methodNamed? y = some mk → Pre A a →
    (∃ (v : Option Value) (B : Pt), Stand p l e R s m sargs below meth c B.U B.locs B.cells B.slots ∧ Post A a v B ∧
      Steps p.tables e below (doInvoke e (A.U.setTop g) [] mk a).1 (B.U.setTop { g with pc := g.pc + len, stack := v.toList ++ g.stack })) ∨
    (∃ (q : Addr) (B : Pt), Stand p l e R s m sargs below meth c B.U B.locs B.cells B.slots ∧ PostX A a q B ∧
      Steps p.tables e below (doInvoke e (A.U.setTop g) [] mk a).1 ((B.U.setTop g).pushFrame (.throwing q)))
section Payer
variable {l : Launch} {R : Room} {p : Program} {e : Env} {below : List Frame} {s : State} {sargs : Array Value} {y : MethodName} {len W9 : Nat}
theorem vx_back {ws : List Cond} {rm : Room} {Pc : Array Value → State → Prop} {Qc : Array Value → State → Outcome → State → Prop} {XC : String → State → State → Prop} {mc ms : Nat} {free : Addr → Prop} {bytes : ByteArray} {maxL : Nat} {ret : Option FieldType}
    (hM : vx_Met l y ws rm Pc Qc XC mc ms free) (hblind : FrameBlind Pc) (hrc : rm.cells = mc) (hrs : rm.slots = ms)
    (hframes : rm.frames + 1 ≤ R.frames) (hlocals : W9 + (maxL + 11) + rm.locals ≤ R.locals)
    (hws : ∀ w ∈ ws, ∀ a' U, s.WarmedH U.vm → w.before a' U = true) (hcode : Cond.code y bytes maxL ret ∈ ws) (hinit : ∀ a' U, s.WarmedH U.vm → (Cond.initialized y.cls).before a' U = true) :
    vx_Back l R p e below s sargs y len W9 (PreOf R mc ms Pc) (PostOf Qc mc ms free) (vx_Post XC mc ms free) := by
  intro m meth c A g ig mk a X hg hsize hdg hW hn hp
  have h1 : (headSpec ws rm).pre.before a A.U = true := atoms_intro fun w hw => hws w hw _ _ X.warmed
  have h2 : (Cond.code y bytes maxL ret).before a A.U = true := hws _ hcode _ _ X.warmed
  have h3 : (Cond.initialized y.cls).before a A.U = true := hinit _ _ X.warmed
  have h4 : A.cells + (headSpec ws rm).room.cells ≤ R.cells := by rw [show (headSpec ws rm).room.cells = mc from hrc]; exact hp.1
  have h5 : A.slots + (headSpec ws rm).room.slots ≤ R.slots := by rw [show (headSpec ws rm).room.slots = ms from hrs]; exact hp.2.1
  have hPc : Pc a (A.U.calling g mk a) := hblind _ _ _ _ hp.2.2
  obtain ⟨U, Ls, c0, s0⟩ := A
  dsimp only [Pt.U, Pt.locs, Pt.cells, Pt.slots] at h1 h2 h3 h4 h5 X hn hPc ⊢
  obtain ⟨methY, cY, hmY, hcY, -, hlY, -, -, -, -⟩ := Cond.code_spec hn h2
  obtain ⟨kY, hkY, -⟩ := className_of_methodNamed hn
  have hinitY : kY.init = .initialized := Cond.initialized_spec (findClass_of_methodNamed hn) hkY h3
  have h : At U g.method c below := by rw [hg]; exact X.here
  have hlocals9 : W9 + (maxL + 11) + (headSpec ws rm).room.locals ≤ R.locals := hlocals
  have happ : (headSpec ws rm).appliesLoose y e.platform (U.calling g mk a) = true :=
    Spec.appliesLoose_calling (g := g) h hdg hn hkY hinitY
      (X.room_calling (g := g) (R' := (headSpec ws rm).room) hsize hmY hcY hframes (by rw [hlY]; omega) h4 h5) h1
  obtain ⟨mid, hmid⟩ := h.above
  have hfr : (U.setTop g).frames = (.java g :: mid) ++ below := by rw [State.frames_setTop' g h.top, hmid]; rfl
  obtain ⟨o, s₂, hsteps, -, hend, hq⟩ := Steps.callFree hM p X.admits X.cas X.clock (acts := []) hfr happ hPc trivial
  have hq' : vx_Q Qc XC mc ms free a (U.calling g mk a) o s₂ := hq
  rw [State.frames_setTop' g h.top] at hend
  obtain ⟨g₀, hg0⟩ := Option.isSome_iff_exists.mp h.top
  obtain ⟨r, hr⟩ := State.topJava?_eq_some.mp hg0
  have hr' : (({ U with heap := s₂.heap, slotsUsed := s₂.slotsUsed } : State).setVm s₂.vm).frames = .java g₀ :: r := hr
  rcases hq' with ⟨hqc, L, hfe, hL⟩ | ⟨q, rfl, E, ce, L, hx, hce, hcv, hcl, hW₂, hsm, hL⟩
  · obtain ⟨⟨v, rfl⟩, hW₂, e2, q2, q3, q4, q5, q6⟩ := id hfe
    have e3 : s₂ = ({ (U.calling g mk a).setFrames s₂.frames with heap := s₂.heap, slotsUsed := s₂.slotsUsed } : State).setVm s₂.vm := by
      have : s₂ = ({ s₂ with vm := (U.calling g mk a).vm } : State).setVm s₂.vm := rfl
      rw [e2] at this
      exact this
    obtain ⟨c₂, i₂, len₂, hc₂, hd₂, hf₂⟩ := hend
    have hW' : U.WarmedH s₂.vm := hW₂
    have hcc : c₂ = c := by
      have h1 : s₂.code? g.method = U.code? g.method := by
        rw [State.code?_eq, State.code?_eq, hW'.alike.method?]
      exact Option.some.inj (hc₂.symm.trans (h1.trans h.code))
    subst hcc
    have hlen : len₂ = len := by rw [hdg] at hd₂; cases hd₂; rfl
    subst hlen
    have hs₂ : s₂ = (({ U with heap := s₂.heap, slotsUsed := s₂.slotsUsed } : State).setVm s₂.vm).setTop { g with pc := g.pc + len₂, stack := v.toList ++ g.stack } := by
      refine e3.trans ?_
      rw [hf₂, State.calling_eq h.top, State.setFrames_setFrames, State.setTop_of_frames _ hr', hr]
      rfl
    have hsame : U.sameButNew ({ U with heap := s₂.heap, slotsUsed := s₂.slotsUsed } : State) L mc ms := by
      refine ⟨?_, q2, q3, q4, q5, q6⟩
      obtain ⟨t, ht, -⟩ := State.frames_cons hr
      show ({ U with heap := s₂.heap, slotsUsed := s₂.slotsUsed } : State) = { U.setFrames U.frames with heap := s₂.heap, slotsUsed := s₂.slotsUsed }
      rw [State.setFrames_self ht]
    subst hg
    refine Or.inl ⟨v, ⟨(({ U with heap := s₂.heap, slotsUsed := s₂.slotsUsed } : State).setVm s₂.vm), Ls ++ L, c0 + mc, s0 + ms⟩,
      ⟨X.admits, X.cas, X.clock, X.frames, X.room, X.hears, X.method, X.code, (X.here.setHeapUsed s₂.heap s₂.slotsUsed).setVm hW'.alike, X.tail, State.WarmedH.trans X.warmed hW', X.limits, X.bytes, X.same.trans (hsame.setVm s.vm)⟩,
      ⟨g, mk, s₂, L, rfl, rfl, hqc, rfl, hL, rfl, rfl⟩, ?_⟩
    show Steps p.tables e below _ ((({ U with heap := s₂.heap, slotsUsed := s₂.slotsUsed } : State).setVm s₂.vm).setTop { g with pc := g.pc + len₂, stack := v.toList ++ g.stack })
    rw [← hs₂]
    exact hsteps
  · obtain ⟨e2, q2, q3, q4, q5, q6⟩ := id hsm
    have e3 : s₂ = ({ (U.calling g mk a).setFrames s₂.frames with heap := s₂.heap, slotsUsed := s₂.slotsUsed } : State).setVm s₂.vm := by
      have : s₂ = ({ s₂ with vm := (U.calling g mk a).vm } : State).setVm s₂.vm := rfl
      rw [e2] at this
      exact this
    have hf₂ : s₂.frames = .throwing q :: .java g :: U.frames.tail := hend
    have hW' : U.WarmedH s₂.vm := hW₂
    have hs₂ : s₂ = ((({ U with heap := s₂.heap, slotsUsed := s₂.slotsUsed } : State).setVm s₂.vm).setTop g).pushFrame (.throwing q) := by
      refine e3.trans ?_
      rw [hf₂, State.calling_eq h.top, State.setFrames_setFrames, State.pushFrame, State.frames_setTop _ hr', State.setTop_of_frames _ hr', State.setFrames_setFrames, hr]
      rfl
    have hsame : U.sameButNew ({ U with heap := s₂.heap, slotsUsed := s₂.slotsUsed } : State) L mc ms := by
      refine ⟨?_, q2, q3, q4, q5, q6⟩
      obtain ⟨t, ht, -⟩ := State.frames_cons hr
      show ({ U with heap := s₂.heap, slotsUsed := s₂.slotsUsed } : State) = { U.setFrames U.frames with heap := s₂.heap, slotsUsed := s₂.slotsUsed }
      rw [State.setFrames_self ht]
    subst hg
    refine Or.inr ⟨q, ⟨(({ U with heap := s₂.heap, slotsUsed := s₂.slotsUsed } : State).setVm s₂.vm), Ls ++ L, c0 + mc, s0 + ms⟩,
      ⟨X.admits, X.cas, X.clock, X.frames, X.room, X.hears, X.method, X.code, (X.here.setHeapUsed s₂.heap s₂.slotsUsed).setVm hW'.alike, X.tail, State.WarmedH.trans X.warmed hW', X.limits, X.bytes, X.same.trans (hsame.setVm s.vm)⟩,
      ⟨g, mk, s₂, L, E, ce, rfl, rfl, hx, hce, hcv, hcl, rfl, hL, rfl, rfl⟩, ?_⟩
    show Steps p.tables e below _ (((({ U with heap := s₂.heap, slotsUsed := s₂.slotsUsed } : State).setVm s₂.vm).setTop g).pushFrame (.throwing q))
    rw [← hs₂]
    exact hsteps
end Payer
section Calls
variable {p : Program} {l : Launch} {e : Env} {R : Room} {s : State} {m : MethodId} {args : Array Value} {below : List Frame} {meth : Method} {c : Code} {T : State} {locs : List Loc} {cells slots : Nat}
theorem vx_callV (X : Stand p l e R s m args below meth c T locs cells slots) (hexec : p.tables.exec = Jvm.exec) {own C : String} {index : Nat} {y : MethodName} {bytes : ByteArray} {maxL : Nat} {ret : Option FieldType}
    (hown : s.vm.findClass own = some m.cls) (hlink : (Cond.methodLink own index y).before args s = true) (hinst : (Cond.instanceMethod y).before args s = true) (hsel : (Cond.selects C y y).before args s = true)
    (hcode : (Cond.code y bytes maxL ret).before args s = true) (hy : y.cls ≠ "java/lang/invoke/MethodHandle" ∧ y.cls ≠ "java/lang/invoke/VarHandle")
    {W9 : Nat} {Pre : Pt → Array Value → Prop} {Post : Pt → Array Value → Option Value → Pt → Prop} {PostX : Pt → Array Value → Addr → Pt → Prop} (hK : vx_Back l R p e below s args y 3 W9 Pre Post PostX)
    {b : Addr} {cellB : Cell} (hcell : T.heap[b]? = some cellB) (hobj : cellB.vm.isStatics = false) (hcls : s.vm.findClass C = some cellB.cls)
    {g : JFrame} (hg : g.method = m) (hsize : g.locals.size = c.maxLocals) {argsL rest : List Value} (hlen : ∀ sig, parseMethodDescriptor y.desc = some sig → argsL.length = sig.parameters.length)
    (hstack : g.stack = argsL.reverse ++ .ref b :: rest) (hW : 2 * g.monitorRoom + (rest.map fun v => v.category).sum ≤ W9) (hdg : decode c.code g.pc = .ok (.invokevirtual index, 3))
    (hpre : ∀ vm₁, s.WarmedH vm₁ → Pre ⟨T.setVm vm₁, locs, cells, slots⟩ (Value.ref b :: argsL).toArray) :
    (∃ (v : Option Value) (vm₁ : Vm) (B : Pt), s.WarmedH vm₁ ∧ Stand p l e R s m args below meth c B.U B.locs B.cells B.slots ∧ Post ⟨T.setVm vm₁, locs, cells, slots⟩ (Value.ref b :: argsL).toArray v B ∧
      ∀ target, Steps p.tables e below (B.U.setTop { g with pc := g.pc + 3, stack := v.toList ++ rest }) target → Steps p.tables e below (T.setTop g) target) ∨
    (∃ (q : Addr) (vm₁ : Vm) (B : Pt), s.WarmedH vm₁ ∧ Stand p l e R s m args below meth c B.U B.locs B.cells B.slots ∧ PostX ⟨T.setVm vm₁, locs, cells, slots⟩ (Value.ref b :: argsL).toArray q B ∧
      Steps p.tables e below (T.setTop g) ((B.U.setTop { g with stack := rest }).pushFrame (.throwing q))) := by
  obtain ⟨mk, methM, hnamed, hmethM, hstM, habM⟩ := Cond.instanceMethod_spec hinst
  obtain ⟨methM', cM, hmethM', -, -, -, -, -, -, hsigM⟩ := Cond.code_spec hnamed hcode
  cases hmethM.symm.trans hmethM'
  obtain ⟨c2, r2, m2, q1, q2, q3, q4, kP, hkP, hkPi⟩ := Cond.selects_spec hsel
  cases hcls.symm.trans q1
  cases (State.methodFound?_of_named hnamed hy).symm.trans q2
  cases hnamed.symm.trans q3
  have hselP : selectMethod e.platform s.vm cellB.cls mk = .method mk := by rw [Launch.admits_selectMethod X.admits]; exact q4
  obtain ⟨vm₁, X₁, hstep₁⟩ := X.invokevirtual hexec hown hlink hnamed hmethM hstM hkP hkPi hy (a := b) (cell := cellB) hcell
    (fun z h => by rw [h] at hobj; cases hobj) hselP hmethM habM hkP hkPi (g := g) hg (argsL := argsL) (rest := rest) (hlen _ hsigM) hstack hdg
  rcases hK m meth c ⟨T.setVm vm₁, locs, cells, slots⟩ { g with stack := rest } (.invokevirtual index) mk (Value.ref b :: argsL).toArray X₁ hg hsize hdg hW (X₁.named hnamed) (hpre vm₁ X₁.warmed) with ⟨v, B, X', hpost, hsteps⟩ | ⟨q, B, X', hpost, hsteps⟩
  · exact Or.inl ⟨v, vm₁, B, X₁.warmed, X', hpost, fun target h => hstep₁ _ fun acts => by rw [doInvoke_state]; exact hsteps.trans h⟩
  · exact Or.inr ⟨q, vm₁, B, X₁.warmed, X', hpost, hstep₁ _ fun acts => by rw [doInvoke_state]; exact hsteps⟩
theorem vx_callS (X : Stand p l e R s m args below meth c T locs cells slots) (hexec : p.tables.exec = Jvm.exec) {own : String} {index : Nat} {y : MethodName} {bytes : ByteArray} {maxL : Nat} {ret : Option FieldType}
    (hown : s.vm.findClass own = some m.cls) (hlink : (Cond.methodLink own index y).before args s = true) (hstat : (Cond.static y).before args s = true) (hinit : (Cond.initialized y.cls).before args s = true)
    (hcode : (Cond.code y bytes maxL ret).before args s = true) (hy : y.cls ≠ "java/lang/invoke/MethodHandle" ∧ y.cls ≠ "java/lang/invoke/VarHandle")
    {W9 : Nat} {Pre : Pt → Array Value → Prop} {Post : Pt → Array Value → Option Value → Pt → Prop} {PostX : Pt → Array Value → Addr → Pt → Prop} (hK : vx_Back l R p e below s args y 3 W9 Pre Post PostX)
    {g : JFrame} (hg : g.method = m) (hsize : g.locals.size = c.maxLocals) {argsL rest : List Value} (hlen : ∀ sig, parseMethodDescriptor y.desc = some sig → argsL.length = sig.parameters.length)
    (hstack : g.stack = argsL.reverse ++ rest) (hW : 2 * g.monitorRoom + (rest.map fun v => v.category).sum ≤ W9) (hdg : decode c.code g.pc = .ok (.invokestatic index, 3))
    (hpre : ∀ vm₁, s.WarmedH vm₁ → Pre ⟨T.setVm vm₁, locs, cells, slots⟩ argsL.toArray) :
    (∃ (v : Option Value) (vm₁ : Vm) (B : Pt), s.WarmedH vm₁ ∧ Stand p l e R s m args below meth c B.U B.locs B.cells B.slots ∧ Post ⟨T.setVm vm₁, locs, cells, slots⟩ argsL.toArray v B ∧
      ∀ target, Steps p.tables e below (B.U.setTop { g with pc := g.pc + 3, stack := v.toList ++ rest }) target → Steps p.tables e below (T.setTop g) target) ∨
    (∃ (q : Addr) (vm₁ : Vm) (B : Pt), s.WarmedH vm₁ ∧ Stand p l e R s m args below meth c B.U B.locs B.cells B.slots ∧ PostX ⟨T.setVm vm₁, locs, cells, slots⟩ argsL.toArray q B ∧
      Steps p.tables e below (T.setTop g) ((B.U.setTop { g with stack := rest }).pushFrame (.throwing q))) := by
  obtain ⟨mk, hnamed⟩ := Cond.code_named hcode
  obtain ⟨methM, cM, hmethM, -, -, -, -, -, -, hsigM⟩ := Cond.code_spec hnamed hcode
  have hstatic : methM.isStatic = true := Cond.static_spec hnamed hmethM hstat
  obtain ⟨kP, hkP, -⟩ := className_of_methodNamed hnamed
  have hinitP : kP.init = .initialized := Cond.initialized_spec (findClass_of_methodNamed hnamed) hkP hinit
  obtain ⟨vm₁, X₁, hstep₁⟩ := X.invokestatic hexec hown hlink hnamed hmethM hstatic hkP hinitP hy (g := g) hg (argsL := argsL) (rest := rest) (hlen _ hsigM) hstack hdg
  rcases hK m meth c ⟨T.setVm vm₁, locs, cells, slots⟩ { g with stack := rest } (.invokestatic index) mk argsL.toArray X₁ hg hsize hdg hW (X₁.named hnamed) (hpre vm₁ X₁.warmed) with ⟨v, B, X', hpost, hsteps⟩ | ⟨q, B, X', hpost, hsteps⟩
  · exact Or.inl ⟨v, vm₁, B, X₁.warmed, X', hpost, fun target h => hstep₁ _ fun acts => by rw [doInvoke_state]; exact hsteps.trans h⟩
  · exact Or.inr ⟨q, vm₁, B, X₁.warmed, X', hpost, hstep₁ _ fun acts => by rw [doInvoke_state]; exact hsteps⟩
end Calls
theorem vx_cls {s : State} {T : State} {vm₁ : Vm} {E : String} {k : ClassId} (hW : s.WarmedH vm₁) (h : (T.setVm vm₁).vm.findClass E = some k) : s.vm.findClass E = some k := by
  have h1 : vm₁.findClass E = some k := h
  rw [hW.alike.findClass] at h1
  exact h1
/-- the method's frame g, with q thrown over it -/
def vx_W (p : Program) (l : Launch) (e : Env) (R : Room) (s : State) (m : MethodId) (args : Array Value) (below : List Frame) (meth : Method) (c : Code) (H : Heap) (locs : List Loc) (cells slots : Nat) (Q : State → Prop) (g : JFrame) (q : Addr) : Prop :=
  ∀ T : State, T.heap = H → Stand p l e R s m args below meth c T locs cells slots → ∃ t, Steps p.tables e below ((T.setTop g).pushFrame (.throwing q)) t ∧ Q t
def vx_Run (p : Program) (l : Launch) (e : Env) (R : Room) (s : State) (m : MethodId) (args : Array Value) (below : List Frame) (meth : Method) (c : Code) (H : Heap) (locs : List Loc) (cells slots mc ms : Nat) (g : JFrame) (rest : List Value) (Qa : State → Outcome → State → Prop) (XC : String → State → State → Prop) (free : Addr → Prop) : Prop :=
  ∀ T : State, T.heap = H → Stand p l e R s m args below meth c T locs cells slots →
    (∃ (v : Option Value) (st₀ t T' : State) (L : List Loc), st₀.heap = H ∧ Stand p l e R s m args below meth c T' (locs ++ L) (cells + mc) (slots + ms) ∧ (∀ q ∈ L, free q.base) ∧ T'.heap = t.heap ∧ T'.vm = t.vm ∧ Qa st₀ (.returned v) t ∧
      Goes p e below T g T' { g with pc := g.pc + 3, stack := v.toList ++ rest }) ∨
    (∃ (q : Addr) (st₀ t T' : State) (L : List Loc) (E : String) (ce : Cell), st₀.heap = H ∧ Stand p l e R s m args below meth c T' (locs ++ L) (cells + mc) (slots + ms) ∧ (∀ z ∈ L, free z.base) ∧ T'.heap = t.heap ∧ T'.vm = t.vm ∧ XC E st₀ t ∧ t.heap[q]? = some ce ∧ ce.vm = .none ∧ s.vm.findClass E = some ce.cls ∧
      Steps p.tables e below (T.setTop g) ((T'.setTop { g with stack := rest }).pushFrame (.throwing q)))
def vx_X {S : Type} (px : S → Prop) (B : String → S → State → Prop) (A : Nat → Prop) : String → State → State → Prop := fun E st t => ∃ u : S, px u ∧ B E u t ∧ va_F A st t
section Runs
variable {p : Program} {l : Launch} {e : Env} {R : Room} {s : State} {m : MethodId} {args : Array Value} {below : List Frame} {meth : Method} {c : Code} {H : Heap} {locs : List Loc} {cells slots : Nat}
variable {y : MethodName} {bytes cc : ByteArray} {maxL nL mc ms n index : Nat} {ret : Option FieldType} {ws : List Cond} {rm : Room} {Pc : Array Value → State → Prop} {Qc : Array Value → State → Outcome → State → Prop} {XC : String → State → State → Prop} {free : Addr → Prop} {Ts : List Cond} {own C : String} {b : Addr} {As rest : List Value} {g : JFrame}
theorem vx_callBack (cb : CallB R s args own index y bytes maxL ret ws rm mc ms n) (hM : vx_Met l y ws rm Pc Qc XC mc ms free) (hbl : FrameBlind Pc) : vx_Back l R p e below s args y 3 8 (PreOf R mc ms Pc) (PostOf Qc mc ms free) (vx_Post XC mc ms free) := by
  obtain ⟨hrc, hrs, hfr, hlo, hws, hcw, -, hini, -⟩ := cb
  exact vx_back (bytes := bytes) (maxL := maxL) (ret := ret) hM hbl hrc hrs hfr hlo hws hcw (fun a' U hW => word_at hW (Or.inl (by first | rfl | simp [Cond.onTables, Cond.keeps, Cond.steady])) hini)
theorem vx_runV (S : CallFix p m c cc nL s args Ts own) (hM : vx_Met l y ws rm Pc Qc XC mc ms free) (cw : CallW R s args own C index y bytes maxL ret ws rm mc ms n) (hp : PreV s H C b Pc As)
    (hg : g.method = m) (hn : As.length = n) (hsize : g.locals.size = nL) (hstack : g.stack = As.reverse ++ .ref b :: rest) (hW : 2 * g.monitorRoom + (rest.map fun v => v.category).sum ≤ 8) (hdg : decode cc g.pc = .ok (.invokevirtual index, 3)) (hf : cells + mc ≤ R.cells ∧ slots + ms ≤ R.slots) :
    vx_Run p l e R s m args below meth c H locs cells slots mc ms g rest (Qc (Value.ref b :: As).toArray) XC free := by
  have hK : vx_Back l R p e below s args y 3 8 (PreOf R mc ms Pc) (PostOf Qc mc ms free) (vx_Post XC mc ms free) := vx_callBack cw.1 hM hp.1
  obtain ⟨⟨-, -, -, -, -, -, hcode, -, hy, hlen, hl⟩, hin, hse⟩ := cw
  obtain ⟨hx, hb, hml, ho, -⟩ := S
  obtain ⟨-, ⟨cellB, hcB, hoB, hclB⟩, hPc⟩ := hp
  intro T hT X
  rcases vx_callV X hx (C := C) (bytes := bytes) (maxL := maxL) (ret := ret) ho hl hin hse hcode hy hK (by rw [hT]; exact hcB) hoB hclB hg (hsize.trans hml.symm) (argsL := As) (rest := rest) (fun sig h => hn.trans (hlen sig h)) hstack hW (by rw [hb]; exact hdg)
    (fun vm₁ hW₁ => ⟨hf.1, hf.2, hPc (T.setVm vm₁) hT hW₁⟩) with ⟨v, vm₁, ⟨U', l2, c2, s2⟩, hW₁, X', ⟨g', mk, t, L, e1, e2, hq, h1, hL, h2, h3⟩, st⟩ | ⟨q, vm₁, ⟨U', l2, c2, s2⟩, hW₁, X', ⟨g', mk, t, L, E, ce, e1, e2, hq, hce, hcv, hcl, h1, hL, h2, h3⟩, st⟩
  · dsimp only [Pt.U, Pt.locs, Pt.cells, Pt.slots] at X' e1 e2 h1 h2 h3 st
    subst h1; subst h2; subst h3
    exact Or.inl ⟨v, (T.setVm vm₁).calling g' mk (Value.ref b :: As).toArray, t, U', L, hT, X', hL, e1, e2, hq, st⟩
  · dsimp only [Pt.U, Pt.locs, Pt.cells, Pt.slots] at X' e1 e2 h1 h2 h3 st hcl
    subst h1; subst h2; subst h3
    exact Or.inr ⟨q, (T.setVm vm₁).calling g' mk (Value.ref b :: As).toArray, t, U', L, E, ce, hT, X', hL, e1, e2, hq, hce, hcv, vx_cls hW₁ hcl, st⟩
theorem vx_runS (S : CallFix p m c cc nL s args Ts own) (hM : vx_Met l y ws rm Pc Qc XC mc ms free) (cw : CallB R s args own index y bytes maxL ret ws rm mc ms n ∧ (Cond.static y).before args s = true) (hp : PreS s H Pc As)
    (hg : g.method = m) (hn : As.length = n) (hsize : g.locals.size = nL) (hstack : g.stack = As.reverse ++ rest) (hW : 2 * g.monitorRoom + (rest.map fun v => v.category).sum ≤ 8) (hdg : decode cc g.pc = .ok (.invokestatic index, 3)) (hf : cells + mc ≤ R.cells ∧ slots + ms ≤ R.slots) :
    vx_Run p l e R s m args below meth c H locs cells slots mc ms g rest (Qc As.toArray) XC free := by
  have hK : vx_Back l R p e below s args y 3 8 (PreOf R mc ms Pc) (PostOf Qc mc ms free) (vx_Post XC mc ms free) := vx_callBack cw.1 hM hp.1
  obtain ⟨⟨-, -, -, -, -, -, hcode, hini, hy, hlen, hl⟩, hstt⟩ := cw
  obtain ⟨hx, hb, hml, ho, -⟩ := S
  intro T hT X
  rcases vx_callS X hx (bytes := bytes) (maxL := maxL) (ret := ret) ho hl hstt hini hcode hy hK hg (hsize.trans hml.symm) (argsL := As) (rest := rest) (fun sig h => hn.trans (hlen sig h)) hstack hW (by rw [hb]; exact hdg)
    (fun vm₁ hW₁ => ⟨hf.1, hf.2, hp.2 (T.setVm vm₁) hT hW₁⟩) with ⟨v, vm₁, ⟨U', l2, c2, s2⟩, hW₁, X', ⟨g', mk, t, L, e1, e2, hq, h1, hL, h2, h3⟩, st⟩ | ⟨q, vm₁, ⟨U', l2, c2, s2⟩, hW₁, X', ⟨g', mk, t, L, E, ce, e1, e2, hq, hce, hcv, hcl, h1, hL, h2, h3⟩, st⟩
  · dsimp only [Pt.U, Pt.locs, Pt.cells, Pt.slots] at X' e1 e2 h1 h2 h3 st
    subst h1; subst h2; subst h3
    exact Or.inl ⟨v, (T.setVm vm₁).calling g' mk As.toArray, t, U', L, hT, X', hL, e1, e2, hq, st⟩
  · dsimp only [Pt.U, Pt.locs, Pt.cells, Pt.slots] at X' e1 e2 h1 h2 h3 st hcl
    subst h1; subst h2; subst h3
    exact Or.inr ⟨q, (T.setVm vm₁).calling g' mk As.toArray, t, U', L, E, ce, hT, X', hL, e1, e2, hq, hce, hcv, vx_cls hW₁ hcl, st⟩
end Runs
section Rows
variable {p : Program} {l : Launch} {e : Env} {R : Room} {s : State} {m : MethodId} {args : Array Value} {below : List Frame} {meth : Method} {c : Code} {H : Heap} {locs : List Loc} {cells slots : Nat} {Q : State → Prop}
variable {mc ms : Nat} {free : Addr → Prop} {A0 A1 : Nat → Prop} {H0 : Heap} {a : Array Value} {pc : Nat} {ls : Array Slot} {st0 rest : List Value}
theorem vx_keep {st₀ t T' : State} {L : List Loc} (h0 : st₀.heap = H) (e1 : T'.heap = t.heap) (hS : va_S A0 H0 H locs) (hA : ∀ q, q < H.size → A1 q → A0 q) (hf : ∀ q, free q → A0 q) (hL : ∀ q ∈ L, free q.base) (hF : va_F A1 st₀ t) :
    H.size ≤ T'.heap.size ∧ (∀ q : Nat, q < H.size → ¬ A1 q → T'.heap[q]? = H[q]?) ∧ va_S A0 H0 T'.heap (locs ++ L) := by
  obtain ⟨hz, hk⟩ := hF
  rw [h0] at hz hk
  exact ⟨by rw [e1]; exact hz, fun q h1 h2 => by rw [e1]; exact hk q h1 h2,
    ⟨Nat.le_trans hS.1 (by rw [e1]; exact hz), fun q h1 h2 => by rw [e1, hk q (Nat.lt_of_lt_of_le h1 hS.1) (fun z => h2 (hA q (Nat.lt_of_lt_of_le h1 hS.1) z))]; exact hS.2.1 q h1 h2, fun q hq => by
      rcases List.mem_append.mp hq with h | h
      · exact hS.2.2 q h
      · exact hf _ (hL q h)⟩⟩
theorem vx_calli {S SX : Type} {post : Int32 → S → Prop} {px : SX → Prop} {B : S → State → Prop} {BX : String → SX → State → Prop} {AX : Nat → Prop} (hr : vx_Run p l e R s m args below meth c H locs cells slots mc ms (F0 m pc ls st0) rest (va_Qi post B A1 a) (vx_X px BX AX) free) (hS : va_S A0 H0 H locs) (hA : ∀ q, q < H.size → A1 q → A0 q) (hf : ∀ q, free q → A0 q) (hAX : ∀ q, q < H.size → AX q → A0 q)
    (kx : ∀ (E : String) (ce : Cell) (q9 : Addr) (u : SX) (t : State) (H1 : Heap) (locs1 : List Loc), t.heap = H1 → s.vm.Alike t.vm → px u → BX E u t → H.size ≤ H1.size → (∀ q : Nat, q < H.size → ¬ AX q → H1[q]? = H[q]?) → va_S A0 H0 H1 locs1 → H1[q9]? = some ce → ce.vm = .none → s.vm.findClass E = some ce.cls → vx_W p l e R s m args below meth c H1 locs1 (cells + mc) (slots + ms) Q (F0 m pc ls rest) q9)
    (kk : ∀ (r : Int32) (u : S) (t : State) (H1 : Heap) (locs1 : List Loc), t.heap = H1 → s.vm.Alike t.vm → post r u → B u t → H.size ≤ H1.size → (∀ q : Nat, q < H.size → ¬ A1 q → H1[q]? = H[q]?) → va_S A0 H0 H1 locs1 → W p l e R s m args below meth c H1 locs1 (cells + mc) (slots + ms) Q (F0 m (pc + 3) ls (.int r :: rest))) : W p l e R s m args below meth c H locs cells slots Q (F0 m pc ls st0) := by
  intro T hT X
  rcases hr T hT X with ⟨v, st₀, t, T', L, h0, X', hL, e1, e2, ⟨⟨r, u, hv, hp, hb⟩, hF⟩, st⟩ | ⟨q, st₀, t, T', L, E, ce, h0, X', hL, e1, e2, ⟨u, hp, hb, hF⟩, hce, hcv, hcl, st⟩
  · cases hv
    obtain ⟨k1, k2, k3⟩ := vx_keep h0 e1 hS hA hf hL hF
    obtain ⟨t2, a1, b1⟩ := kk r u t T'.heap (locs ++ L) e1.symm (by rw [← e2]; exact X'.warmed.alike) hp hb k1 k2 k3 T' rfl X'
    exact ⟨t2, st t2 a1, b1⟩
  · obtain ⟨k1, k2, k3⟩ := vx_keep h0 e1 hS hAX hf hL hF
    obtain ⟨t2, a1, b1⟩ := kx E ce q u t T'.heap (locs ++ L) e1.symm (by rw [← e2]; exact X'.warmed.alike) hp hb k1 k2 k3 (by rw [e1]; exact hce) hcv hcl T' rfl X'
    exact ⟨t2, st.trans a1, b1⟩
theorem vx_calll {S SX : Type} {post : Int64 → S → Prop} {px : SX → Prop} {B : S → State → Prop} {BX : String → SX → State → Prop} {AX : Nat → Prop} (hr : vx_Run p l e R s m args below meth c H locs cells slots mc ms (F0 m pc ls st0) rest (va_Ql post B A1 a) (vx_X px BX AX) free) (hS : va_S A0 H0 H locs) (hA : ∀ q, q < H.size → A1 q → A0 q) (hf : ∀ q, free q → A0 q) (hAX : ∀ q, q < H.size → AX q → A0 q)
    (kx : ∀ (E : String) (ce : Cell) (q9 : Addr) (u : SX) (t : State) (H1 : Heap) (locs1 : List Loc), t.heap = H1 → s.vm.Alike t.vm → px u → BX E u t → H.size ≤ H1.size → (∀ q : Nat, q < H.size → ¬ AX q → H1[q]? = H[q]?) → va_S A0 H0 H1 locs1 → H1[q9]? = some ce → ce.vm = .none → s.vm.findClass E = some ce.cls → vx_W p l e R s m args below meth c H1 locs1 (cells + mc) (slots + ms) Q (F0 m pc ls rest) q9)
    (kk : ∀ (r : Int64) (u : S) (t : State) (H1 : Heap) (locs1 : List Loc), t.heap = H1 → s.vm.Alike t.vm → post r u → B u t → H.size ≤ H1.size → (∀ q : Nat, q < H.size → ¬ A1 q → H1[q]? = H[q]?) → va_S A0 H0 H1 locs1 → W p l e R s m args below meth c H1 locs1 (cells + mc) (slots + ms) Q (F0 m (pc + 3) ls (.long r :: rest))) : W p l e R s m args below meth c H locs cells slots Q (F0 m pc ls st0) := by
  intro T hT X
  rcases hr T hT X with ⟨v, st₀, t, T', L, h0, X', hL, e1, e2, ⟨⟨r, u, hv, hp, hb⟩, hF⟩, st⟩ | ⟨q, st₀, t, T', L, E, ce, h0, X', hL, e1, e2, ⟨u, hp, hb, hF⟩, hce, hcv, hcl, st⟩
  · cases hv
    obtain ⟨k1, k2, k3⟩ := vx_keep h0 e1 hS hA hf hL hF
    obtain ⟨t2, a1, b1⟩ := kk r u t T'.heap (locs ++ L) e1.symm (by rw [← e2]; exact X'.warmed.alike) hp hb k1 k2 k3 T' rfl X'
    exact ⟨t2, st t2 a1, b1⟩
  · obtain ⟨k1, k2, k3⟩ := vx_keep h0 e1 hS hAX hf hL hF
    obtain ⟨t2, a1, b1⟩ := kx E ce q u t T'.heap (locs ++ L) e1.symm (by rw [← e2]; exact X'.warmed.alike) hp hb k1 k2 k3 (by rw [e1]; exact hce) hcv hcl T' rfl X'
    exact ⟨t2, st.trans a1, b1⟩
theorem vx_callf {S SX : Type} {post : UInt32 → S → Prop} {px : SX → Prop} {B : S → State → Prop} {BX : String → SX → State → Prop} {AX : Nat → Prop} (hr : vx_Run p l e R s m args below meth c H locs cells slots mc ms (F0 m pc ls st0) rest (va_Qf post B A1 a) (vx_X px BX AX) free) (hS : va_S A0 H0 H locs) (hA : ∀ q, q < H.size → A1 q → A0 q) (hf : ∀ q, free q → A0 q) (hAX : ∀ q, q < H.size → AX q → A0 q)
    (kx : ∀ (E : String) (ce : Cell) (q9 : Addr) (u : SX) (t : State) (H1 : Heap) (locs1 : List Loc), t.heap = H1 → s.vm.Alike t.vm → px u → BX E u t → H.size ≤ H1.size → (∀ q : Nat, q < H.size → ¬ AX q → H1[q]? = H[q]?) → va_S A0 H0 H1 locs1 → H1[q9]? = some ce → ce.vm = .none → s.vm.findClass E = some ce.cls → vx_W p l e R s m args below meth c H1 locs1 (cells + mc) (slots + ms) Q (F0 m pc ls rest) q9)
    (kk : ∀ (r : UInt32) (u : S) (t : State) (H1 : Heap) (locs1 : List Loc), t.heap = H1 → s.vm.Alike t.vm → post r u → B u t → H.size ≤ H1.size → (∀ q : Nat, q < H.size → ¬ A1 q → H1[q]? = H[q]?) → va_S A0 H0 H1 locs1 → W p l e R s m args below meth c H1 locs1 (cells + mc) (slots + ms) Q (F0 m (pc + 3) ls (.float r :: rest))) : W p l e R s m args below meth c H locs cells slots Q (F0 m pc ls st0) := by
  intro T hT X
  rcases hr T hT X with ⟨v, st₀, t, T', L, h0, X', hL, e1, e2, ⟨⟨r, u, hv, hp, hb⟩, hF⟩, st⟩ | ⟨q, st₀, t, T', L, E, ce, h0, X', hL, e1, e2, ⟨u, hp, hb, hF⟩, hce, hcv, hcl, st⟩
  · cases hv
    obtain ⟨k1, k2, k3⟩ := vx_keep h0 e1 hS hA hf hL hF
    obtain ⟨t2, a1, b1⟩ := kk r u t T'.heap (locs ++ L) e1.symm (by rw [← e2]; exact X'.warmed.alike) hp hb k1 k2 k3 T' rfl X'
    exact ⟨t2, st t2 a1, b1⟩
  · obtain ⟨k1, k2, k3⟩ := vx_keep h0 e1 hS hAX hf hL hF
    obtain ⟨t2, a1, b1⟩ := kx E ce q u t T'.heap (locs ++ L) e1.symm (by rw [← e2]; exact X'.warmed.alike) hp hb k1 k2 k3 (by rw [e1]; exact hce) hcv hcl T' rfl X'
    exact ⟨t2, st.trans a1, b1⟩
theorem vx_calld {S SX : Type} {post : UInt64 → S → Prop} {px : SX → Prop} {B : S → State → Prop} {BX : String → SX → State → Prop} {AX : Nat → Prop} (hr : vx_Run p l e R s m args below meth c H locs cells slots mc ms (F0 m pc ls st0) rest (va_Qd post B A1 a) (vx_X px BX AX) free) (hS : va_S A0 H0 H locs) (hA : ∀ q, q < H.size → A1 q → A0 q) (hf : ∀ q, free q → A0 q) (hAX : ∀ q, q < H.size → AX q → A0 q)
    (kx : ∀ (E : String) (ce : Cell) (q9 : Addr) (u : SX) (t : State) (H1 : Heap) (locs1 : List Loc), t.heap = H1 → s.vm.Alike t.vm → px u → BX E u t → H.size ≤ H1.size → (∀ q : Nat, q < H.size → ¬ AX q → H1[q]? = H[q]?) → va_S A0 H0 H1 locs1 → H1[q9]? = some ce → ce.vm = .none → s.vm.findClass E = some ce.cls → vx_W p l e R s m args below meth c H1 locs1 (cells + mc) (slots + ms) Q (F0 m pc ls rest) q9)
    (kk : ∀ (r : UInt64) (u : S) (t : State) (H1 : Heap) (locs1 : List Loc), t.heap = H1 → s.vm.Alike t.vm → post r u → B u t → H.size ≤ H1.size → (∀ q : Nat, q < H.size → ¬ A1 q → H1[q]? = H[q]?) → va_S A0 H0 H1 locs1 → W p l e R s m args below meth c H1 locs1 (cells + mc) (slots + ms) Q (F0 m (pc + 3) ls (.double r :: rest))) : W p l e R s m args below meth c H locs cells slots Q (F0 m pc ls st0) := by
  intro T hT X
  rcases hr T hT X with ⟨v, st₀, t, T', L, h0, X', hL, e1, e2, ⟨⟨r, u, hv, hp, hb⟩, hF⟩, st⟩ | ⟨q, st₀, t, T', L, E, ce, h0, X', hL, e1, e2, ⟨u, hp, hb, hF⟩, hce, hcv, hcl, st⟩
  · cases hv
    obtain ⟨k1, k2, k3⟩ := vx_keep h0 e1 hS hA hf hL hF
    obtain ⟨t2, a1, b1⟩ := kk r u t T'.heap (locs ++ L) e1.symm (by rw [← e2]; exact X'.warmed.alike) hp hb k1 k2 k3 T' rfl X'
    exact ⟨t2, st t2 a1, b1⟩
  · obtain ⟨k1, k2, k3⟩ := vx_keep h0 e1 hS hAX hf hL hF
    obtain ⟨t2, a1, b1⟩ := kx E ce q u t T'.heap (locs ++ L) e1.symm (by rw [← e2]; exact X'.warmed.alike) hp hb k1 k2 k3 (by rw [e1]; exact hce) hcv hcl T' rfl X'
    exact ⟨t2, st.trans a1, b1⟩
theorem vx_callv {S SX : Type} {post : S → Prop} {px : SX → Prop} {B : S → State → Prop} {BX : String → SX → State → Prop} {AX : Nat → Prop} (hr : vx_Run p l e R s m args below meth c H locs cells slots mc ms (F0 m pc ls st0) rest (va_Qv post B A1 a) (vx_X px BX AX) free) (hS : va_S A0 H0 H locs) (hA : ∀ q, q < H.size → A1 q → A0 q) (hf : ∀ q, free q → A0 q) (hAX : ∀ q, q < H.size → AX q → A0 q)
    (kx : ∀ (E : String) (ce : Cell) (q9 : Addr) (u : SX) (t : State) (H1 : Heap) (locs1 : List Loc), t.heap = H1 → s.vm.Alike t.vm → px u → BX E u t → H.size ≤ H1.size → (∀ q : Nat, q < H.size → ¬ AX q → H1[q]? = H[q]?) → va_S A0 H0 H1 locs1 → H1[q9]? = some ce → ce.vm = .none → s.vm.findClass E = some ce.cls → vx_W p l e R s m args below meth c H1 locs1 (cells + mc) (slots + ms) Q (F0 m pc ls rest) q9)
    (kk : ∀ (u : S) (t : State) (H1 : Heap) (locs1 : List Loc), t.heap = H1 → s.vm.Alike t.vm → post u → B u t → H.size ≤ H1.size → (∀ q : Nat, q < H.size → ¬ A1 q → H1[q]? = H[q]?) → va_S A0 H0 H1 locs1 → W p l e R s m args below meth c H1 locs1 (cells + mc) (slots + ms) Q (F0 m (pc + 3) ls (rest))) : W p l e R s m args below meth c H locs cells slots Q (F0 m pc ls st0) := by
  intro T hT X
  rcases hr T hT X with ⟨v, st₀, t, T', L, h0, X', hL, e1, e2, ⟨⟨u, hv, hp, hb⟩, hF⟩, st⟩ | ⟨q, st₀, t, T', L, E, ce, h0, X', hL, e1, e2, ⟨u, hp, hb, hF⟩, hce, hcv, hcl, st⟩
  · cases hv
    obtain ⟨k1, k2, k3⟩ := vx_keep h0 e1 hS hA hf hL hF
    obtain ⟨t2, a1, b1⟩ := kk u t T'.heap (locs ++ L) e1.symm (by rw [← e2]; exact X'.warmed.alike) hp hb k1 k2 k3 T' rfl X'
    exact ⟨t2, st t2 a1, b1⟩
  · obtain ⟨k1, k2, k3⟩ := vx_keep h0 e1 hS hAX hf hL hF
    obtain ⟨t2, a1, b1⟩ := kx E ce q u t T'.heap (locs ++ L) e1.symm (by rw [← e2]; exact X'.warmed.alike) hp hb k1 k2 k3 (by rw [e1]; exact hce) hcv hcl T' rfl X'
    exact ⟨t2, st.trans a1, b1⟩
/-- caught by the row x of this method's table; the rows ahead don't take it -/
theorem vx_catch {own name : String} {E : String} {ce : Cell} {q : Addr} (hown : s.vm.findClass own = some m.cls) (pre : List ExceptionTableEntry) (x : ExceptionTableEntry) (suf : List ExceptionTableEntry) (hsplit : c.exceptionTable.toList = pre ++ x :: suf)
    (hpass : ∀ z ∈ pre, covers z pc = false ∨ (z.catchType ≠ 0 ∧ ∃ nm : String, (Cond.classLink own z.catchType nm).before args s = true ∧ va_Nc E nm s)) (hx : covers x pc = true) (h0 : x.catchType ≠ 0)
    (hlink : (Cond.classLink own x.catchType name).before args s = true) (hcast : (Cond.castable E name).before args s = true) (hcell : H[q]? = some ce) (hv : ce.vm = .none) (hcl : s.vm.findClass E = some ce.cls)
    (kk : W p l e R s m args below meth c H locs cells slots Q (F0 m x.handlerPc ls [.ref q])) : vx_W p l e R s m args below meth c H locs cells slots Q (F0 m pc ls rest) q := by
  intro T hT X
  have hpl : e.platform.magicAccessors = ({} : Platform).magicAccessors := by rw [X.admits.platform]
  obtain ⟨c3, c4, hc3, hc4, hasg⟩ := Cond.castable_spec hcast
  cases Option.some.inj (hc3.symm.trans hcl)
  obtain ⟨c5, hc5, hcl5⟩ := Cond.classLink_spec hown hlink e.platform hpl
  cases Option.some.inj (hc4.symm.trans hc5)
  obtain ⟨vm', X', st⟩ := X.thenCaughtThrough q (g := F0 m pc ls rest) rfl (Steps.refl _) (by rw [hT]; exact hcell) (by rw [hv]; rfl) (by obtain ⟨k9, h9, -⟩ := Vm.findClass_spec hcl; exact ⟨k9, h9⟩) pre x suf hsplit
    (fun z hz => by
      rcases hpass z hz with h | ⟨hz0, nm, hl1, hn1⟩
      · exact Or.inl h
      · obtain ⟨c6, hc6, hcl6⟩ := Cond.classLink_spec hown hl1 e.platform hpl
        obtain ⟨a8, b8, h1, h2, h3⟩ := hn1
        cases Option.some.inj (h1.symm.trans hcl)
        cases Option.some.inj (h2.symm.trans hc6)
        exact Or.inr ⟨hz0, _, hcl6, h3⟩) hx (Or.inr ⟨h0, c4, hcl5, hasg⟩)
  obtain ⟨t, a1, b1⟩ := kk (T.setVm vm') hT X'
  exact ⟨t, st.trans a1, b1⟩
end Rows
section Ends
variable {p : Program} {l : Launch} {e : Env} {R : Room} {s : State} {m : MethodId} {args : Array Value} {below : List Frame} {meth : Method} {c : Code} {H : Heap} {locs : List Loc} {cells slots : Nat} {Q : State → Prop}
variable {mc ms : Nat} {free : Addr → Prop} {A0 A1 : Nat → Prop} {H0 : Heap} {a : Array Value} {ls : Array Slot} {st0 rest : List Value}
variable {Qc : Array Value → State → Outcome → State → Prop} {XC : String → State → State → Prop}
/-- what a body that may throw owes at its end -/
def vx_MQ (below : List Frame) (Qc : Array Value → State → Outcome → State → Prop) (XC : String → State → State → Prop) (a : Array Value) (s : State) (mc ms : Nat) (free : Addr → Prop) : State → Prop := fun t =>
  ∃ o, t.status = .running ∧ Ended t below o ∧ vx_Q Qc XC mc ms free a s o t
theorem vx_ret {g : JFrame} {mc ms : Nat} (k : W p l e R s m args below meth c H locs cells slots (MQ below Qc args s mc ms free) g) : W p l e R s m args below meth c H locs cells slots (vx_MQ below Qc XC args s mc ms free) g := by
  intro T hT X
  obtain ⟨t, a1, o, b1, b2, b3, b4⟩ := k T hT X
  exact ⟨t, a1, o, b1, b2, Or.inl ⟨b3, b4⟩⟩
/-- not caught here: it goes on to the caller -/
theorem vx_widen {g : JFrame} {q : Addr} {k n : Nat} (h1 : cells ≤ k) (h2 : slots ≤ n) (kk : vx_W p l e R s m args below meth c H locs k n Q g q) : vx_W p l e R s m args below meth c H locs cells slots Q g q := fun T hT X => kk T hT (stand_widen X h1 h2)
theorem vx_out {pc : Nat} {E : String} {ce : Cell} {q : Addr} {mc ms : Nat} (hout : ∀ x ∈ c.exceptionTable.toList, covers x pc = false) (hlocks : meth.locks = false) (hcell : H[q]? = some ce) (hv : ce.vm = .none) (hcl : s.vm.findClass E = some ce.cls)
    (hx : ∀ t : State, t.heap = H → s.vm.Alike t.vm → XC E s t) (hf : ∀ z ∈ locs, free z.base) (hc : cells ≤ mc) (hs : slots ≤ ms) :
    vx_W p l e R s m args below meth c H locs cells slots (vx_MQ below Qc XC args s mc ms free) (F0 m pc ls rest) q := by
  intro T hT X
  obtain ⟨st1, hrun, hend, hW, hsm⟩ := X.leaveThrown q (g := F0 m pc ls rest) rfl rfl rfl hout hlocks
  have hcell9 : (T.setFrames (.throwing q :: below)).heap[q]? = some ce := by
    show T.heap[q]? = some ce
    rw [hT]; exact hcell
  exact ⟨_, st1, .threw q, hrun, hend, Or.inr ⟨q, rfl, E, ce, locs, hx _ hT hW.alike, hcell9, hv, hcl, hW, hsm.mono hc hs, hf⟩⟩
theorem vx_frame {U : State} {k n : Nat} (h : s.sameButNew ({ U with vm := s.vm } : State) locs k n) : s.heap.size ≤ U.heap.size ∧ ∀ q : Nat, q < s.heap.size → (∀ z ∈ locs, z.base ≠ q) → U.heap[q]? = s.heap[q]? := by
  obtain ⟨-, h2, -, -, -, h6⟩ := h
  refine ⟨h2, fun q hq hz => ?_⟩
  obtain ⟨c9, e1, e2, e3, e4⟩ := h6 q _ (Array.getElem?_eq_getElem hq)
  have hs : c9.slots = (s.heap[q]).slots := Array.ext_getElem? fun i => e4 i fun hm => hz _ hm rfl
  have h9 : c9 = s.heap[q] := by
    rw [hs] at e2
    exact e2
  have e5 : U.heap[q]? = some c9 := e1
  rw [e5, h9, Array.getElem?_eq_getElem hq]
/-- the words of a throw but the four that speak of the heap -/
def vx_no (w : Cond) : Bool := decide (w ≠ .isRef (.static Bundle.tN "UNASSIGNED_STACK" Bundle.steD)) && decide (w ≠ .isRef (.static Bundle.tN "SUPPRESSED_SENTINEL" Bundle.listD)) && decide (w ≠ .laysStatic Bundle.tN "UNASSIGNED_STACK" Bundle.steD) && decide (w ≠ .laysStatic Bundle.tN "SUPPRESSED_SENTINEL" Bundle.listD)
def vx_at0 (own : String) (ic : Nat) (X : String) (names : List String) : List Cond := (Bundle.ownAtoms0 own ic X names).filter vx_no
def vx_atS (own : String) (ic : Nat) (X : String) (names : List String) : List Cond := (Bundle.ownAtoms own ic X names).filter vx_no
/-- a word that the tables alone decide, or a good one -/
def vx_ot (w : Cond) : Bool := w.onTables || goodWord w
theorem vx_ot_at {args a' : Array Value} {s U : State} {w : Cond} (hW : s.WarmedH U.vm) (hvm : s.vm = U.vm) (hg : vx_ot w = true) (h : w.before args s = true) : w.before a' U = true := by
  simp only [vx_ot, Bool.or_eq_true] at hg
  rcases hg with hg | hg
  · exact va_tabs hg hvm h
  · exact word_at hW (good_of_word hg) h
/-- a list's words: the good ones out of the method's own list, the others by premises of their own -/
theorem vx_hat {args : Array Value} {s : State} {L B : List Cond} (h1 : ∀ w ∈ L.filter goodWord, w.before args s = true) (h2 : ∀ w ∈ L.filter (fun w => !goodWord w), w ∈ B) (h3 : ∀ w ∈ B, w.before args s = true) : ∀ w ∈ L, w.before args s = true := by
  intro w hw
  by_cases g : goodWord w = true
  · exact h1 w (List.mem_filter.mpr ⟨hw, g⟩)
  · refine h3 w (h2 w (List.mem_filter.mpr ⟨hw, ?_⟩))
    show (!goodWord w) = true
    cases hgw : goodWord w
    · rfl
    · exact absurd hgw g
theorem vx_c {args : Array Value} {s : State} {w : Cond} {B : List Cond} (h : w.before args s = true) (t : ∀ w ∈ B, w.before args s = true) : ∀ w' ∈ w :: B, w'.before args s = true := fun w' h' => (List.mem_cons.mp h').elim (fun e => by rw [e]; exact h) (t w')
theorem vx_n {args : Array Value} {s : State} : ∀ w ∈ ([] : List Cond), w.before args s = true := fun _ h => nomatch h
theorem vx_own {args : Array Value} {s : State} {L : List Cond} (h1 : ∀ w ∈ L.filter vx_no, w.before args s = true)
    (hU : (Cond.isRef (.static Bundle.tN "UNASSIGNED_STACK" Bundle.steD)).before args s = true) (hN : (Cond.isRef (.static Bundle.tN "SUPPRESSED_SENTINEL" Bundle.listD)).before args s = true)
    (lU : (Cond.laysStatic Bundle.tN "UNASSIGNED_STACK" Bundle.steD).before args s = true) (lN : (Cond.laysStatic Bundle.tN "SUPPRESSED_SENTINEL" Bundle.listD).before args s = true) : ∀ w ∈ L, w.before args s = true := by
  intro w hw
  by_cases e1 : w = .isRef (.static Bundle.tN "UNASSIGNED_STACK" Bundle.steD)
  · rw [e1]; exact hU
  · by_cases e2 : w = .isRef (.static Bundle.tN "SUPPRESSED_SENTINEL" Bundle.listD)
    · rw [e2]; exact hN
    · by_cases e3 : w = .laysStatic Bundle.tN "UNASSIGNED_STACK" Bundle.steD
      · rw [e3]; exact lU
      · by_cases e4 : w = .laysStatic Bundle.tN "SUPPRESSED_SENTINEL" Bundle.listD
        · rw [e4]; exact lN
        · exact h1 w (List.mem_filter.mpr ⟨hw, by unfold vx_no; rw [decide_eq_true e1, decide_eq_true e2, decide_eq_true e3, decide_eq_true e4]; rfl⟩)
/-- where a static field lies, its class's statics cell in H -/
def vx_L (C n d : String) (A : Nat → Prop) (U : State) (H : Heap) : Prop := ∃ (c : ClassId) (k : Class) (i : Nat) (f : Field) (a : Nat) (cell : Cell), U.vm.findClass C = some c ∧ U.fieldFound? C n d = some (c, k, i, f) ∧ f.isStatic = true ∧ k.statics = some a ∧ H[a]? = some cell ∧ cell.vm.isStatics = true ∧ cell.cls = c ∧ f.slot < cell.slots.size ∧ k.staticTypes[f.slot]? = some f.type ∧ ¬ A a
theorem vx_L.moved {C n d : String} {A : Nat → Prop} {u U : State} {H : Heap} (hvm : u.vm.Alike U.vm) (h : vx_L C n d A u H) : vx_L C n d A U H := by
  obtain ⟨c, k, i, f, a, cell, h1, h2, h3, h4, h5, h6, h7, h8, h9, h10⟩ := h
  obtain ⟨k', hi', he⟩ := State.fieldFound?_setVm hvm h2
  exact ⟨c, k', i, f, a, cell, by rw [hvm.findClass]; exact h1, hi', h3, by rw [he]; exact h4, h5, h6, h7, h8, by rw [he]; exact h9, h10⟩
theorem vx_L.kept {C n d : String} {A : Nat → Prop} {U : State} {H H1 : Heap} (h : vx_L C n d A U H) (hq : ∀ a : Nat, a < H.size → ¬ A a → H1[a]? = H[a]?) : vx_L C n d A U H1 := by
  obtain ⟨c, k, i, f, a, cell, h1, h2, h3, h4, h5, h6, h7, h8, h9, h10⟩ := h
  exact ⟨c, k, i, f, a, cell, h1, h2, h3, h4, by rw [hq a (Array.getElem?_eq_some_iff.mp h5).1 h10]; exact h5, h6, h7, h8, h9, h10⟩
theorem vx_L.narrow {C n d : String} {A B : Nat → Prop} {U : State} {H : Heap} (h : vx_L C n d A U H) (hAB : ∀ q, B q → A q) : vx_L C n d B U H := by
  obtain ⟨c, k, i, f, a, cell, h1, h2, h3, h4, h5, h6, h7, h8, h9, h10⟩ := h
  exact ⟨c, k, i, f, a, cell, h1, h2, h3, h4, h5, h6, h7, h8, h9, fun z => h10 (hAB _ z)⟩
theorem vx_L.word {C n d : String} {A : Nat → Prop} {s : State} {args : Array Value} (h : vx_L C n d A s s.heap) : (Cond.laysStatic C n d).before args s = true := by
  obtain ⟨c, k, i, f, a, cell, h1, h2, h3, h4, h5, h6, h7, h8, h9, -⟩ := h
  show (Cond.laysStatic C n d).holds args s none s [] = true
  exact Cond.laysStatic_of h1 h2 h3 h4 h5 h6 h7 h8 h9
/-- .. and what it holds: null or some reference -/
def vx_Zq (C n d : String) (A : Nat → Prop) (U : State) (H : Heap) : Prop := va_Zq C n d A U H ∧ vx_L C n d A U H
theorem vx_Zq.moved {C n d : String} {A : Nat → Prop} {u U : State} {H : Heap} (hvm : u.vm.Alike U.vm) (h : vx_Zq C n d A u H) : vx_Zq C n d A U H := ⟨va_Zq.moved hvm h.1, vx_L.moved hvm h.2⟩
theorem vx_Zq.kept {C n d : String} {A : Nat → Prop} {U : State} {H H1 : Heap} (h : vx_Zq C n d A U H) (hq : ∀ a : Nat, a < H.size → ¬ A a → H1[a]? = H[a]?) : vx_Zq C n d A U H1 := ⟨va_Zq.kept h.1 hq, vx_L.kept h.2 hq⟩
theorem vx_Zq.narrow {C n d : String} {A B : Nat → Prop} {U : State} {H : Heap} (h : vx_Zq C n d A U H) (hAB : ∀ q, B q → A q) : vx_Zq C n d B U H := ⟨va_Zq.narrow h.1 hAB, vx_L.narrow h.2 hAB⟩
theorem vx_Zqof {args : Array Value} {s : State} {C n d : String} {A : Nat → Prop} (hl : (Cond.laysStatic C n d).before args s = true) (hini : (Cond.initialized C).before args s = true) (h : (Cond.isRef (.static C n d)).before args s = true) (hA : ∀ a : Nat, a < s.heap.size → ¬ A a) : vx_Zq C n d A s s.heap := by
  refine ⟨va_Zqof hl hini h hA, ?_⟩
  obtain ⟨c, k, i, f, a, cell, h1, h2, h3, h4, h5, h6, h7, h8, h9⟩ := Cond.laysStatic_spec hl
  exact ⟨c, k, i, f, a, cell, h1, h2, h3, h4, h5, h6, h7, h8, h9, hA a (Array.getElem?_eq_some_iff.mp h5).1⟩
theorem vx_isRef {C n d : String} {v : Value} {A : Nat → Prop} {s : State} {args : Array Value} (h : va_Z C n d v A s s.heap) (hv : v.isRef = true) : (Cond.isRef (.static C n d)).before args s = true := by
  obtain ⟨cf, kf, fi, f, a, cell, h1, h2, h3, h4, h5, h6, h7, -⟩ := h
  have he : (Term.static C n d).eval args s none [] s = some v := by
    simp [Term.eval, State.fieldNamed?, h1, h2, h4, h5, h6, h7]
  simp only [Cond.before, Cond.holds, Cond.value, he]
  cases v <;> simp_all [Value.isRef]
theorem vx_isRefq {C n d : String} {A : Nat → Prop} {s : State} {args : Array Value} (h : va_Zq C n d A s s.heap) : (Cond.isRef (.static C n d)).before args s = true := by
  rcases h with h | ⟨t, h⟩
  · exact vx_isRef h rfl
  · exact vx_isRef h rfl
/-- the same frame, seen from here: as if the method were called anew in this heap -/
theorem vx_rebase {T : State} (X : Stand p l e R s m args below meth c T locs cells slots) {R' : Room} (hf : R'.frames ≤ R.frames) (hl : R'.locals ≤ R.locals) (hc : cells + R'.cells ≤ R.cells) (hs : slots + R'.slots ≤ R.slots) :
    Stand p l e R' ((T.setVm s.vm).setFrames (.invoking m args :: below)) m args below meth c T [] 0 0 := by
  have htop : (T.setVm s.vm).topJava?.isSome := X.here.top
  have hF : ((T.setVm s.vm).setFrames (.invoking m args :: below)).frames = .invoking m args :: below := State.frames_setFrames _ (State.cur_lt_of_top htop)
  obtain ⟨g₀, hg0⟩ := Option.isSome_iff_exists.mp htop
  obtain ⟨r, hr⟩ := State.topJava?_eq_some.mp hg0
  have hl9 : e.platform.stackLimits (T.setVm s.vm).me = e.platform.stackLimits s.me := X.limits
  have hb9 : (T.setVm s.vm).me.stackBytes = s.me.stackBytes := X.bytes
  refine ⟨X.admits, X.cas, X.clock, hF, ?_, X.hears, X.method, X.code, X.here, X.tail, X.warmed, ?_, ?_, ?_⟩
  · have h := X.room
    have hU : ((T.setVm s.vm).setFrames (.invoking m args :: below)).localsInUse = s.localsInUse := by
      rw [State.localsInUse_invoking hF (meth := meth) (c := c) X.method X.code, State.localsInUse_invoking X.frames X.method X.code]
    simp only [State.hasRoom, Bool.and_eq_true, decide_eq_true_eq] at h ⊢
    obtain ⟨⟨⟨⟨h1, h2, h3, h4, h5, h6⟩, h7⟩, h8⟩, h9⟩ := h
    rw [X.frames, List.length_cons] at h2 h3
    have q1 := X.heapSize
    have q2 := X.used
    simp only [hF, hU, List.length_cons, State.stackLimits_setFrames, State.stackBytes_setFrames, hl9, hb9]
    refine ⟨⟨⟨⟨by omega, by omega, by omega, by omega, by omega, h6⟩, ?_⟩, ?_⟩, X.book⟩
    · show T.heap.size + R'.cells ≤ e.platform.maxCells
      omega
    · show T.slotsUsed + R'.slots ≤ e.platform.maxSlots
      omega
  · rw [State.stackLimits_setFrames]; rfl
  · rw [State.stackBytes_setFrames]; rfl
  · refine ⟨?_, Nat.le_refl _, Nat.le_refl _, ?_, ?_, fun a c9 h9 => ⟨c9, h9, rfl, rfl, fun _ _ => rfl⟩⟩
    · obtain ⟨t, ht, -⟩ := State.frames_cons hr
      show T.setVm s.vm = { ((T.setVm s.vm).setFrames (.invoking m args :: below)).setFrames (T.setVm s.vm).frames with heap := T.heap, slotsUsed := T.slotsUsed }
      rw [State.setFrames_setFrames, State.setFrames_self ht]
      rfl
    · show T.slotsUsed = T.slotsUsed + ((T.heap.toList.drop T.heap.size).map (·.slots.size)).sum
      rw [List.drop_eq_nil_of_le (Nat.le_of_eq Array.length_toList)]
      rfl
    · show ((T.heap.toList.drop T.heap.size).map (·.slots.size)).sum ≤ 0
      rw [List.drop_eq_nil_of_le (Nat.le_of_eq Array.length_toList)]
      exact Nat.le_refl _
/-- 'throw new E()': new; dup; invokespecial; athrow -/
theorem vx_throw0 {cc : ByteArray} {pc : Nat} (hexec : p.tables.exec = Jvm.exec) (hb : c.code = cc) (hl : l.stackTraces = false) {own cls : String} {names : List String} {ik ic mc ms : Nat} {A : Nat → Prop}
    (hown : s.vm.findClass own = some m.cls) (hcls : Bundle.fit cls = true) (hnames : ∀ n ∈ names, Bundle.fit n = true)
    (hk : (Cond.classLink own ik cls).before args s = true) (hini : (Cond.initialized cls).before args s = true) (hat : ∀ w ∈ vx_at0 own ic cls names, w.before args s = true)
    (hgood : ∀ w ∈ Cond.classLink own ik cls :: Cond.initialized cls :: vx_at0 own ic cls names, vx_ot w = true)
    (hU : vx_Zq Bundle.tN "UNASSIGNED_STACK" Bundle.steD A s s.heap) (hN : vx_Zq Bundle.tN "SUPPRESSED_SENTINEL" Bundle.listD A s s.heap) (hS : va_S A s.heap H locs) (hsize : ls.size = c.maxLocals)
    (d0 : decode cc pc = .ok (.new ik, 3)) (d3 : decode cc (pc + 3) = .ok (.dup, 1)) (d4 : decode cc (pc + 4) = .ok (.invokespecial ic, 3)) (d7 : decode cc (pc + 7) = .ok (.athrow, 1))
    (hout : ∀ x ∈ c.exceptionTable.toList, covers x (pc + 7) = false)
    (hRframes : names.length + 3 < R.frames) (hRlocals : (rest.map fun v => v.category).sum + (13 * (names.length + 1) + 42) ≤ R.locals) (hRcells : cells + 1 ≤ R.cells) (hRslots : slots + 6 ≤ R.slots) (hlocks : meth.locks = false)
    (hx : ∀ t : State, s.vm.Alike t.vm → H.size ≤ t.heap.size → (∀ q : Nat, q < H.size → t.heap[q]? = H[q]?) → XC cls s t)
    (hf : ∀ z ∈ locs, free z.base) (hc : cells + 1 ≤ mc) (hs : slots + 6 ≤ ms) :
    W p l e R s m args below meth c H locs cells slots (vx_MQ below Qc XC args s mc ms free) (F0 m pc ls rest) := by
  intro T hT X
  have htr : e.platform.stackTraces = false := (show e.platform.stackTraces = l.stackTraces by rw [X.admits.platform]).trans hl
  have Y := vx_rebase X (R' := { frames := R.frames, locals := R.locals, cells := 1, slots := 6 }) (Nat.le_refl _) (Nat.le_refl _) hRcells hRslots
  obtain ⟨s', hA⟩ : ∃ z, z = (T.setVm s.vm).setFrames (.invoking m args :: below) := ⟨_, rfl⟩
  rw [← hA] at Y
  have hvm : s'.vm = s.vm := by rw [hA]; rfl
  have hhp : s'.heap = H := by rw [hA]; exact hT
  have hW0 : s.WarmedH s'.vm := by rw [hvm]; exact State.WarmedH.refl s
  have hat' : ∀ w ∈ vx_at0 own ic cls names, w.before args s' = true := fun w hw => vx_ot_at hW0 hvm.symm (hgood w (List.mem_cons_of_mem _ (List.mem_cons_of_mem _ hw))) (hat w hw)
  have hk' : (Cond.classLink own ik cls).before args s' = true := vx_ot_at hW0 hvm.symm (hgood _ List.mem_cons_self) hk
  have hini' : (Cond.initialized cls).before args s' = true := vx_ot_at hW0 hvm.symm (hgood _ (List.mem_cons_of_mem _ List.mem_cons_self)) hini
  have hU' : vx_Zq Bundle.tN "UNASSIGNED_STACK" Bundle.steD A s' s'.heap := by rw [hhp]; exact vx_Zq.moved hW0.alike (hU.kept hS.2.1)
  have hN' : vx_Zq Bundle.tN "SUPPRESSED_SENTINEL" Bundle.listD A s' s'.heap := by rw [hhp]; exact vx_Zq.moved hW0.alike (hN.kept hS.2.1)
  have h : ∀ w ∈ Bundle.ownAtoms0 own ic cls names, w.before args s' = true := vx_own hat' (vx_isRefq hU'.1) (vx_isRefq hN'.1) hU'.2.word hN'.2.word
  have hown' : s'.vm.findClass own = some m.cls := by rw [hvm]; exact hown
  have hins : (Cond.instantiable cls 6).before args s' = true := h _ (by simp [Bundle.ownAtoms0])
  obtain ⟨vm₁, cX, kX, hfX, hkX, -, -, X₁, st1⟩ := Y.newCold hexec (own := own) (C := cls) (index := ik) (n := 6) hown' hk' hins hini'
    (g := F0 m pc ls rest) rfl (by rw [hb]; exact d0) (Nat.le_refl _) (Nat.le_refl _)
  generalize hT1 : (T.setVm vm₁).pushCell { cls := cX, slots := kX.instanceTypes.map defaultValue, vm := .none } = T1 at X₁ st1
  have hcat : (Value.ref T.heap.size).category = 1 := rfl
  have hcellA : T1.heap[T.heap.size]? = some (freshCell cX kX) := by rw [← hT1]; exact State.heap_pushCell_size _ _
  have d3' : decode c.code (pc + 3) = .ok (.dup, 1) := by rw [hb]; exact d3
  obtain ⟨U, hsteps, hrun, hend, hW, hsame, ce, hce, hO⟩ := X₁.ctorThrow0 hexec htr (own := own) (cls := cls) (names := names) (ic := ic) hown' hcls hnames h (fun x hx => nomatch hx) hfX hkX hcellA (by rw [hhp, hT]; exact Nat.le_refl _)
    (g := { method := m, pc := pc + 4, locals := ls, stack := .ref T.heap.size :: .ref T.heap.size :: rest, locked := none }) rfl hsize rfl rfl (rest := rest) rfl
    (by rw [hb]; exact d4) (by rw [hb]; exact d7) hout hRframes (by simp only [List.map_cons, List.sum_cons, hcat]; omega) hlocks
  obtain ⟨f1, f2⟩ := vx_frame hsame
  rw [hhp] at f1 f2
  have hWs : s.WarmedH U.vm := State.WarmedH.trans hW0 hW
  have hcl : s.vm.findClass cls = some ce.cls := by
    have h9 := hO.cls
    rw [hvm] at h9
    exact h9
  have hall : s.sameButNew ({ U with vm := s.vm } : State) locs mc ms := by
    subst hA
    obtain ⟨e1, e2⟩ := hsame
    rw [State.setFrames_setFrames] at e1
    have h2 : (T.setVm s.vm).sameButNew ({ U with vm := s.vm } : State) [] (0 + 1) (0 + 6) := ⟨e1, e2⟩
    have h3 := X.same.trans h2
    rw [List.append_nil] at h3
    exact h3.mono hc hs
  refine ⟨U, ?_, .threw T.heap.size, hrun, hend, Or.inr ⟨T.heap.size, rfl, cls, ce, locs, hx U hWs.alike f1 (fun q hq => f2 q hq (fun z hz => nomatch hz)), hce, hO.vm, hcl, hWs, hall, hf⟩⟩
  refine st1 _ ?_
  show Steps p.tables e below (T1.setTop { method := m, pc := pc + 3, locals := ls, stack := .ref T.heap.size :: rest, locked := none }) _
  jvm_step X₁.here [X₁.here.top, hexec, d3', Value.category]
  exact hsteps
/-- 'throw new E("text")': new; dup; ldc; invokespecial; athrow -/
theorem vx_throwS {cc : ByteArray} {pc : Nat} (hexec : p.tables.exec = Jvm.exec) (hb : c.code = cc) (hl : l.stackTraces = false) {own cls text : String} {names : List String} {ik is ic mc ms sa : Nat} {A : Nat → Prop}
    (hown : s.vm.findClass own = some m.cls) (hcls : Bundle.fit cls = true) (hnames : ∀ n ∈ names, Bundle.fit n = true)
    (hk : (Cond.classLink own ik cls).before args s = true) (hini : (Cond.initialized cls).before args s = true) (hstr : vk_R own is text sa s) (hat : ∀ w ∈ vx_atS own ic cls names, w.before args s = true)
    (hgood : ∀ w ∈ Cond.classLink own ik cls :: Cond.initialized cls :: vx_atS own ic cls names, vx_ot w = true)
    (hU : vx_Zq Bundle.tN "UNASSIGNED_STACK" Bundle.steD A s s.heap) (hN : vx_Zq Bundle.tN "SUPPRESSED_SENTINEL" Bundle.listD A s s.heap) (hS : va_S A s.heap H locs) (hsize : ls.size = c.maxLocals)
    (d0 : decode cc pc = .ok (.new ik, 3)) (d3 : decode cc (pc + 3) = .ok (.dup, 1)) (d4 : decode cc (pc + 4) = .ok (.ldc is, 2)) (d6 : decode cc (pc + 6) = .ok (.invokespecial ic, 3)) (d9 : decode cc (pc + 9) = .ok (.athrow, 1))
    (hout : ∀ x ∈ c.exceptionTable.toList, covers x (pc + 9) = false)
    (hRframes : names.length + 3 < R.frames) (hRlocals : (rest.map fun v => v.category).sum + (13 * (names.length + 1) + 43) ≤ R.locals) (hRcells : cells + 1 ≤ R.cells) (hRslots : slots + 6 ≤ R.slots) (hlocks : meth.locks = false)
    (hx : ∀ t : State, s.vm.Alike t.vm → H.size ≤ t.heap.size → (∀ q : Nat, q < H.size → t.heap[q]? = H[q]?) → XC cls s t)
    (hf : ∀ z ∈ locs, free z.base) (hc : cells + 1 ≤ mc) (hs : slots + 6 ≤ ms) :
    W p l e R s m args below meth c H locs cells slots (vx_MQ below Qc XC args s mc ms free) (F0 m pc ls rest) := by
  intro T hT X
  have htr : e.platform.stackTraces = false := (show e.platform.stackTraces = l.stackTraces by rw [X.admits.platform]).trans hl
  have Y := vx_rebase X (R' := { frames := R.frames, locals := R.locals, cells := 1, slots := 6 }) (Nat.le_refl _) (Nat.le_refl _) hRcells hRslots
  obtain ⟨s', hA⟩ : ∃ z, z = (T.setVm s.vm).setFrames (.invoking m args :: below) := ⟨_, rfl⟩
  rw [← hA] at Y
  have hvm : s'.vm = s.vm := by rw [hA]; rfl
  have hhp : s'.heap = H := by rw [hA]; exact hT
  have hW0 : s.WarmedH s'.vm := by rw [hvm]; exact State.WarmedH.refl s
  have hat' : ∀ w ∈ vx_atS own ic cls names, w.before args s' = true := fun w hw => vx_ot_at hW0 hvm.symm (hgood w (List.mem_cons_of_mem _ (List.mem_cons_of_mem _ hw))) (hat w hw)
  have hk' : (Cond.classLink own ik cls).before args s' = true := vx_ot_at hW0 hvm.symm (hgood _ List.mem_cons_self) hk
  have hini' : (Cond.initialized cls).before args s' = true := vx_ot_at hW0 hvm.symm (hgood _ (List.mem_cons_of_mem _ List.mem_cons_self)) hini
  have hU' : vx_Zq Bundle.tN "UNASSIGNED_STACK" Bundle.steD A s' s'.heap := by rw [hhp]; exact vx_Zq.moved hW0.alike (hU.kept hS.2.1)
  have hN' : vx_Zq Bundle.tN "SUPPRESSED_SENTINEL" Bundle.listD A s' s'.heap := by rw [hhp]; exact vx_Zq.moved hW0.alike (hN.kept hS.2.1)
  have h : ∀ w ∈ Bundle.ownAtoms own ic cls names, w.before args s' = true := vx_own hat' (vx_isRefq hU'.1) (vx_isRefq hN'.1) hU'.2.word hN'.2.word
  have hown' : s'.vm.findClass own = some m.cls := by rw [hvm]; exact hown
  have hins : (Cond.instantiable cls 6).before args s' = true := h _ (by simp [Bundle.ownAtoms])
  obtain ⟨vm₁, cX, kX, hfX, hkX, -, -, X₁, st1⟩ := Y.newCold hexec (own := own) (C := cls) (index := ik) (n := 6) hown' hk' hins hini'
    (g := F0 m pc ls rest) rfl (by rw [hb]; exact d0) (Nat.le_refl _) (Nat.le_refl _)
  generalize hT1 : (T.setVm vm₁).pushCell { cls := cX, slots := kX.instanceTypes.map defaultValue, vm := .none } = T1 at X₁ st1
  have hcat : (Value.ref T.heap.size).category = 1 := rfl
  have hcellA : T1.heap[T.heap.size]? = some (freshCell cX kX) := by rw [← hT1]; exact State.heap_pushCell_size _ _
  have d3' : decode c.code (pc + 3) = .ok (.dup, 1) := by rw [hb]; exact d3
  have d4' : decode c.code (pc + 4) = .ok (.ldc is, 2) := by rw [hb]; exact d4
  have hstr' : vk_R own is text sa s' := vk_R.warm hW0 hstr
  obtain ⟨U, hsteps, hrun, hend, hW, hsame, ce, hce, hO⟩ := X₁.ctorThrowS hexec htr (own := own) (cls := cls) (names := names) (ic := ic) hown' hcls hnames h (fun x hx => nomatch hx) hfX hkX hcellA (by rw [hhp, hT]; exact Nat.le_refl _) (msg := .ref sa) rfl
    (g := { method := m, pc := pc + 6, locals := ls, stack := .ref sa :: .ref T.heap.size :: .ref T.heap.size :: rest, locked := none }) rfl hsize rfl rfl (rest := rest) rfl
    (by rw [hb]; exact d6) (by rw [hb]; exact d9) hout hRframes (by simp only [List.map_cons, List.sum_cons, hcat]; omega) hlocks
  obtain ⟨f1, f2⟩ := vx_frame hsame
  rw [hhp] at f1 f2
  have hWs : s.WarmedH U.vm := State.WarmedH.trans hW0 hW
  have hcl : s.vm.findClass cls = some ce.cls := by
    have h9 := hO.cls
    rw [hvm] at h9
    exact h9
  have hall : s.sameButNew ({ U with vm := s.vm } : State) locs mc ms := by
    subst hA
    obtain ⟨e1, e2⟩ := hsame
    rw [State.setFrames_setFrames] at e1
    have h2 : (T.setVm s.vm).sameButNew ({ U with vm := s.vm } : State) [] (0 + 1) (0 + 6) := ⟨e1, e2⟩
    have h3 := X.same.trans h2
    rw [List.append_nil] at h3
    exact h3.mono hc hs
  refine ⟨U, ?_, .threw T.heap.size, hrun, hend, Or.inr ⟨T.heap.size, rfl, cls, ce, locs, hx U hWs.alike f1 (fun q hq => f2 q hq (fun z hz => nomatch hz)), hce, hO.vm, hcl, hWs, hall, hf⟩⟩
  refine st1 _ ?_
  show Steps p.tables e below (T1.setTop { method := m, pc := pc + 3, locals := ls, stack := .ref T.heap.size :: rest, locked := none }) _
  jvm_step X₁.here [X₁.here.top, hexec, d3', Value.category]
  exact X₁.ldcString hexec (own := own) (text := text) (index := is) (a := sa) hown' hstr'.1 hstr'.2
    (g := { method := m, pc := pc + 4, locals := ls, stack := .ref T.heap.size :: .ref T.heap.size :: rest, locked := none }) rfl d4' _ hsteps
/-- 'throw new E("text")', the text by a wide index -/
theorem vx_throwSW {cc : ByteArray} {pc : Nat} (hexec : p.tables.exec = Jvm.exec) (hb : c.code = cc) (hl : l.stackTraces = false) {own cls text : String} {names : List String} {ik is ic mc ms sa : Nat} {A : Nat → Prop}
    (hown : s.vm.findClass own = some m.cls) (hcls : Bundle.fit cls = true) (hnames : ∀ n ∈ names, Bundle.fit n = true)
    (hk : (Cond.classLink own ik cls).before args s = true) (hini : (Cond.initialized cls).before args s = true) (hstr : vk_R own is text sa s) (hat : ∀ w ∈ vx_atS own ic cls names, w.before args s = true)
    (hgood : ∀ w ∈ Cond.classLink own ik cls :: Cond.initialized cls :: vx_atS own ic cls names, vx_ot w = true)
    (hU : vx_Zq Bundle.tN "UNASSIGNED_STACK" Bundle.steD A s s.heap) (hN : vx_Zq Bundle.tN "SUPPRESSED_SENTINEL" Bundle.listD A s s.heap) (hS : va_S A s.heap H locs) (hsize : ls.size = c.maxLocals)
    (d0 : decode cc pc = .ok (.new ik, 3)) (d3 : decode cc (pc + 3) = .ok (.dup, 1)) (d4 : decode cc (pc + 4) = .ok (.ldc_w is, 3)) (d7 : decode cc (pc + 7) = .ok (.invokespecial ic, 3)) (d10 : decode cc (pc + 10) = .ok (.athrow, 1))
    (hout : ∀ x ∈ c.exceptionTable.toList, covers x (pc + 10) = false)
    (hRframes : names.length + 3 < R.frames) (hRlocals : (rest.map fun v => v.category).sum + (13 * (names.length + 1) + 43) ≤ R.locals) (hRcells : cells + 1 ≤ R.cells) (hRslots : slots + 6 ≤ R.slots) (hlocks : meth.locks = false)
    (hx : ∀ t : State, s.vm.Alike t.vm → H.size ≤ t.heap.size → (∀ q : Nat, q < H.size → t.heap[q]? = H[q]?) → XC cls s t)
    (hf : ∀ z ∈ locs, free z.base) (hc : cells + 1 ≤ mc) (hs : slots + 6 ≤ ms) :
    W p l e R s m args below meth c H locs cells slots (vx_MQ below Qc XC args s mc ms free) (F0 m pc ls rest) := by
  intro T hT X
  have htr : e.platform.stackTraces = false := (show e.platform.stackTraces = l.stackTraces by rw [X.admits.platform]).trans hl
  have Y := vx_rebase X (R' := { frames := R.frames, locals := R.locals, cells := 1, slots := 6 }) (Nat.le_refl _) (Nat.le_refl _) hRcells hRslots
  obtain ⟨s', hA⟩ : ∃ z, z = (T.setVm s.vm).setFrames (.invoking m args :: below) := ⟨_, rfl⟩
  rw [← hA] at Y
  have hvm : s'.vm = s.vm := by rw [hA]; rfl
  have hhp : s'.heap = H := by rw [hA]; exact hT
  have hW0 : s.WarmedH s'.vm := by rw [hvm]; exact State.WarmedH.refl s
  have hat' : ∀ w ∈ vx_atS own ic cls names, w.before args s' = true := fun w hw => vx_ot_at hW0 hvm.symm (hgood w (List.mem_cons_of_mem _ (List.mem_cons_of_mem _ hw))) (hat w hw)
  have hk' : (Cond.classLink own ik cls).before args s' = true := vx_ot_at hW0 hvm.symm (hgood _ List.mem_cons_self) hk
  have hini' : (Cond.initialized cls).before args s' = true := vx_ot_at hW0 hvm.symm (hgood _ (List.mem_cons_of_mem _ List.mem_cons_self)) hini
  have hU' : vx_Zq Bundle.tN "UNASSIGNED_STACK" Bundle.steD A s' s'.heap := by rw [hhp]; exact vx_Zq.moved hW0.alike (hU.kept hS.2.1)
  have hN' : vx_Zq Bundle.tN "SUPPRESSED_SENTINEL" Bundle.listD A s' s'.heap := by rw [hhp]; exact vx_Zq.moved hW0.alike (hN.kept hS.2.1)
  have h : ∀ w ∈ Bundle.ownAtoms own ic cls names, w.before args s' = true := vx_own hat' (vx_isRefq hU'.1) (vx_isRefq hN'.1) hU'.2.word hN'.2.word
  have hown' : s'.vm.findClass own = some m.cls := by rw [hvm]; exact hown
  have hins : (Cond.instantiable cls 6).before args s' = true := h _ (by simp [Bundle.ownAtoms])
  obtain ⟨vm₁, cX, kX, hfX, hkX, -, -, X₁, st1⟩ := Y.newCold hexec (own := own) (C := cls) (index := ik) (n := 6) hown' hk' hins hini'
    (g := F0 m pc ls rest) rfl (by rw [hb]; exact d0) (Nat.le_refl _) (Nat.le_refl _)
  generalize hT1 : (T.setVm vm₁).pushCell { cls := cX, slots := kX.instanceTypes.map defaultValue, vm := .none } = T1 at X₁ st1
  have hcat : (Value.ref T.heap.size).category = 1 := rfl
  have hcellA : T1.heap[T.heap.size]? = some (freshCell cX kX) := by rw [← hT1]; exact State.heap_pushCell_size _ _
  have d3' : decode c.code (pc + 3) = .ok (.dup, 1) := by rw [hb]; exact d3
  have d4' : decode c.code (pc + 4) = .ok (.ldc_w is, 3) := by rw [hb]; exact d4
  have hstr' : vk_R own is text sa s' := vk_R.warm hW0 hstr
  obtain ⟨U, hsteps, hrun, hend, hW, hsame, ce, hce, hO⟩ := X₁.ctorThrowS hexec htr (own := own) (cls := cls) (names := names) (ic := ic) hown' hcls hnames h (fun x hx => nomatch hx) hfX hkX hcellA (by rw [hhp, hT]; exact Nat.le_refl _) (msg := .ref sa) rfl
    (g := { method := m, pc := pc + 7, locals := ls, stack := .ref sa :: .ref T.heap.size :: .ref T.heap.size :: rest, locked := none }) rfl hsize rfl rfl (rest := rest) rfl
    (by rw [hb]; exact d7) (by rw [hb]; exact d10) hout hRframes (by simp only [List.map_cons, List.sum_cons, hcat]; omega) hlocks
  obtain ⟨f1, f2⟩ := vx_frame hsame
  rw [hhp] at f1 f2
  have hWs : s.WarmedH U.vm := State.WarmedH.trans hW0 hW
  have hcl : s.vm.findClass cls = some ce.cls := by
    have h9 := hO.cls
    rw [hvm] at h9
    exact h9
  have hall : s.sameButNew ({ U with vm := s.vm } : State) locs mc ms := by
    subst hA
    obtain ⟨e1, e2⟩ := hsame
    rw [State.setFrames_setFrames] at e1
    have h2 : (T.setVm s.vm).sameButNew ({ U with vm := s.vm } : State) [] (0 + 1) (0 + 6) := ⟨e1, e2⟩
    have h3 := X.same.trans h2
    rw [List.append_nil] at h3
    exact h3.mono hc hs
  refine ⟨U, ?_, .threw T.heap.size, hrun, hend, Or.inr ⟨T.heap.size, rfl, cls, ce, locs, hx U hWs.alike f1 (fun q hq => f2 q hq (fun z hz => nomatch hz)), hce, hO.vm, hcl, hWs, hall, hf⟩⟩
  refine st1 _ ?_
  show Steps p.tables e below (T1.setTop { method := m, pc := pc + 3, locals := ls, stack := .ref T.heap.size :: rest, locked := none }) _
  jvm_step X₁.here [X₁.here.top, hexec, d3', Value.category]
  exact X₁.ldcStringW hexec (own := own) (text := text) (index := is) (a := sa) hown' hstr'.1 hstr'.2
    (g := { method := m, pc := pc + 4, locals := ls, stack := .ref T.heap.size :: .ref T.heap.size :: rest, locked := none }) rfl d4' _ hsteps
end Ends
section Bodies
variable {l : Launch}
theorem vx_ofW {y : MethodName} {ws ws' : List Cond} {rm : Room} {Pc : Array Value → State → Prop} {Qc : Array Value → State → Outcome → State → Prop} {XC : String → State → State → Prop} {mc ms : Nat} {free : Addr → Prop} {cc : ByteArray} {maxL : Nat} {ret : Option FieldType}
    (hy : plainName y.cls = true) (hw : ws = Cond.code y cc maxL ret :: ws')
    (body : ∀ p e s m args below meth c s₁, BodyLoose p l y (headSpec ws rm) cc maxL ret e s m args below meth c s₁ → c.maxLocals = maxL → (∀ x ∈ c.exceptionTable.toList, False) → Pc args s →
      W p l e (headSpec ws rm).room s m args below meth c s.heap [] 0 0 (vx_MQ below Qc XC args s mc ms free) (entryFrame m args maxL)) : vx_Met l y ws rm Pc Qc XC mc ms free := by
  refine MetFree.of_bodyS (code := cc) (maxLocals := maxL) (ret := ret) hy ?_ ?_
  · intro args s m h hn
    obtain ⟨meth, c, h1, h2, h3, h4, h5, h6, -, -⟩ := Cond.code_spec hn (atoms_spec (ws := ws) h _ (by rw [hw]; exact List.mem_cons_self))
    exact ⟨meth, c, h1, h2, h3, h4, h5, h6⟩
  · intro p e s m args below meth c s₁ B hml hP _
    have hh0 : s₁.heap = s.heap := by rw [B.state]; rfl
    have ht : ∀ x ∈ c.exceptionTable.toList, False := by
      obtain ⟨meth9, c9, h1, h2, -, -, -, -, h7, -⟩ := Cond.code_spec B.named (atoms_spec (ws := ws) B.pre _ (by rw [hw]; exact List.mem_cons_self))
      cases Option.some.inj (h1.symm.trans B.method)
      cases Option.some.inj (h2.symm.trans (Stand.of_body B).code)
      intro x hx
      rw [Array.isEmpty_iff.mp h7] at hx
      cases hx
    obtain ⟨t, a1, o, b1, b2, b3⟩ := body p e s m args below meth c s₁ B hml ht hP s₁ hh0 (Stand.of_body B)
    exact ⟨t, o, a1, b1, b2, b3⟩
/-- the table of a body with handlers -/
theorem vx_table {p : Program} {x y : MethodName} {S : Spec} {cc bytes : ByteArray} {maxL maxL' : Nat} {ret ret' : Option FieldType} {e : Env} {s s₁ : State} {m : MethodId} {args : Array Value} {below : List Frame} {meth : Method} {c : Code} {hh : List (Nat × Nat × Nat × Nat)}
    (B : BodyLoose p l y S cc maxL ret e s m args below meth c s₁) (h : (Cond.codeWith y bytes maxL' ret' hh).before args s = true) : c.exceptionTable.toList = tableOf hh := by
  obtain ⟨m9, meth9, c9, hn9, h1, h2, -, -, h6, -⟩ := Cond.codeWith_spec h
  cases Option.some.inj (hn9.symm.trans B.named)
  cases Option.some.inj (h1.symm.trans B.method)
  cases Option.some.inj (h2.symm.trans (Stand.of_body B).code)
  rw [← h6, table_eq]
end Bodies
end VXA
/-! ===== END ===== -/
/-! ===== BEGIN a static call of a method with an exception table ===== -/
section VXS
variable {p : Program} {l : Launch} {e : Env} {R : Room} {s : State} {m : MethodId} {args : Array Value} {below : List Frame} {meth : Method} {c : Code} {T : State} {H : Heap} {locs : List Loc} {cells slots : Nat}
abbrev vx_CSW (R : Room) (s : State) (args : Array Value) (own : String) (index : Nat) (y : MethodName) (bytes : ByteArray) (maxL : Nat) (ret : Option FieldType) (hh : List (Nat × Nat × Nat × Nat)) (ws : List Cond) (rm : Room) (mc ms n : Nat) : Prop :=
  (rm.cells = mc ∧ rm.slots = ms ∧ rm.frames + 1 ≤ R.frames ∧ 8 + (maxL + 11) + rm.locals ≤ R.locals ∧ (∀ w ∈ ws, ∀ (a' : Array Value) (U : State), s.WarmedH U.vm → w.before a' U = true) ∧ Cond.codeWith y bytes maxL ret hh ∈ ws) ∧
  (Cond.codeWith y bytes maxL ret hh).before args s = true ∧ (Cond.initialized y.cls).before args s = true ∧ (y.cls ≠ "java/lang/invoke/MethodHandle" ∧ y.cls ≠ "java/lang/invoke/VarHandle") ∧
  (∀ sig, parseMethodDescriptor y.desc = some sig → n = sig.parameters.length) ∧ (Cond.methodLink own index y).before args s = true ∧ (Cond.static y).before args s = true
theorem vx_cwSW {own : String} {index maxL mc ms : Nat} {y : MethodName} {bytes : ByteArray} {ret : Option FieldType} {hh : List (Nat × Nat × Nat × Nat)} {Ts ws ws' : List Cond} {rm : Room} (n : Nat) (ht : ∀ w ∈ Ts, w.before args s = true) (hT : GoodIn Ts (va_wsS own index y ws)) (hw : ws = Cond.codeWith y bytes maxL ret hh :: ws') (hrc : rm.cells = mc) (hrs : rm.slots = ms)
    (hd : y.cls ≠ "java/lang/invoke/MethodHandle" ∧ y.cls ≠ "java/lang/invoke/VarHandle" ∧ (parseMethodDescriptor y.desc).map (fun d => d.parameters.length) = some n) (hR : rm.frames + 1 ≤ R.frames ∧ 8 + (maxL + 11) + rm.locals ≤ R.locals) :
    vx_CSW R s args own index y bytes maxL ret hh ws rm mc ms n := by
  have ok : ∀ w ∈ va_wsS own index y ws, w.before args s = true := fun w h => ht w (hT w h).1
  have hG : GoodIn Ts ws := fun w h => hT w (by unfold va_wsS; exact List.mem_append_right _ h)
  have hc : Cond.codeWith y bytes maxL ret hh ∈ ws := by rw [hw]; exact List.mem_cons_self
  refine ⟨⟨hrc, hrs, hR.1, hR.2, pay_in ht hG, hc⟩, ht _ (hG _ hc).1, ok _ (by simp [va_wsS]), ⟨hd.1, hd.2.1⟩, fun sig h => ?_, ok _ (by simp [va_wsS]), ok _ (by simp [va_wsS])⟩
  have h2 := hd.2.2
  rw [h] at h2
  exact (Option.some.inj h2).symm
theorem vx_callSW (X : Stand p l e R s m args below meth c T locs cells slots) (hexec : p.tables.exec = Jvm.exec) {own : String} {index : Nat} {y : MethodName} {bytes : ByteArray} {maxL : Nat} {ret : Option FieldType} {hh : List (Nat × Nat × Nat × Nat)}
    (hown : s.vm.findClass own = some m.cls) (hlink : (Cond.methodLink own index y).before args s = true) (hstat : (Cond.static y).before args s = true) (hinit : (Cond.initialized y.cls).before args s = true)
    (hcode : (Cond.codeWith y bytes maxL ret hh).before args s = true) (hy : y.cls ≠ "java/lang/invoke/MethodHandle" ∧ y.cls ≠ "java/lang/invoke/VarHandle")
    {W9 : Nat} {Pre : Pt → Array Value → Prop} {Post : Pt → Array Value → Option Value → Pt → Prop} (hK : Back l R p e below s args y 3 W9 Pre Post)
    {g : JFrame} (hg : g.method = m) (hsize : g.locals.size = c.maxLocals) {argsL rest : List Value} (hlen : ∀ sig, parseMethodDescriptor y.desc = some sig → argsL.length = sig.parameters.length)
    (hstack : g.stack = argsL.reverse ++ rest) (hW : 2 * g.monitorRoom + (rest.map fun v => v.category).sum ≤ W9) (hdg : decode c.code g.pc = .ok (.invokestatic index, 3))
    (hpre : ∀ vm₁, s.WarmedH vm₁ → Pre ⟨T.setVm vm₁, locs, cells, slots⟩ argsL.toArray) :
    ∃ (v : Option Value) (vm₁ : Vm) (B : Pt), s.WarmedH vm₁ ∧ Stand p l e R s m args below meth c B.U B.locs B.cells B.slots ∧ Post ⟨T.setVm vm₁, locs, cells, slots⟩ argsL.toArray v B ∧
      ∀ target, Steps p.tables e below (B.U.setTop { g with pc := g.pc + 3, stack := v.toList ++ rest }) target → Steps p.tables e below (T.setTop g) target := by
  obtain ⟨mk, methM, cM, hnamed, hmethM, -, -, -, -, -, -, hsigM⟩ := Cond.codeWith_spec hcode
  have hstatic : methM.isStatic = true := Cond.static_spec hnamed hmethM hstat
  obtain ⟨kP, hkP, -⟩ := className_of_methodNamed hnamed
  have hinitP : kP.init = .initialized := Cond.initialized_spec (findClass_of_methodNamed hnamed) hkP hinit
  obtain ⟨vm₁, X₁, hstep₁⟩ := X.invokestatic hexec hown hlink hnamed hmethM hstatic hkP hinitP hy (g := g) hg (argsL := argsL) (rest := rest) (hlen _ hsigM) hstack hdg
  obtain ⟨v, B, X', hpost, hsteps⟩ := hK m meth c ⟨T.setVm vm₁, locs, cells, slots⟩ { g with stack := rest } (.invokestatic index) mk argsL.toArray X₁ hg hsize hdg hW (X₁.named hnamed) (hpre vm₁ X₁.warmed)
  exact ⟨v, vm₁, B, X₁.warmed, X', hpost, fun target h => hstep₁ _ fun acts => by rw [doInvoke_state]; exact hsteps.trans h⟩
theorem vx_runSW {y : MethodName} {bytes cc : ByteArray} {maxL nL mc ms n index : Nat} {ret : Option FieldType} {hh : List (Nat × Nat × Nat × Nat)} {ws : List Cond} {rm : Room} {Pc : Array Value → State → Prop} {Qc : Array Value → State → Outcome → State → Prop} {free : Addr → Prop} {Ts : List Cond} {own : String} {As rest : List Value} {g : JFrame}
    (S : CallFix p m c cc nL s args Ts own) (hM : Met l y ws rm Pc Qc mc ms free) (cw : vx_CSW R s args own index y bytes maxL ret hh ws rm mc ms n) (hp : PreS s H Pc As)
    (hg : g.method = m) (hn : As.length = n) (hsize : g.locals.size = nL) (hstack : g.stack = As.reverse ++ rest) (hW : 2 * g.monitorRoom + (rest.map fun v => v.category).sum ≤ 8) (hdg : decode cc g.pc = .ok (.invokestatic index, 3)) (hf : cells + mc ≤ R.cells ∧ slots + ms ≤ R.slots) :
    va_Run p l e R s m args below meth c H locs cells slots mc ms g rest (Qc As.toArray) (free) := by
  obtain ⟨⟨hrc, hrs, hfr, hlo, hws, hcw⟩, hcode, hini, hy, hlen, hl, hstt⟩ := cw
  have hK : Back l R p e below s args y 3 8 (PreOf R mc ms Pc) (PostOf Qc mc ms free) := va_backW (hh := hh) (bytes := bytes) (maxL := maxL) (ret := ret) hM hp.1 hrc hrs hfr hlo hws hcw (fun a' U hW => word_at hW (Or.inl (by first | rfl | simp [Cond.onTables, Cond.keeps, Cond.steady])) hini)
  obtain ⟨hx, hb, hml, ho, -⟩ := S
  intro T hT X
  obtain ⟨v, vm₁, ⟨U', l2, c2, s2⟩, hW₁, X', ⟨g', mk, t, L, e1, e2, hq, h1, hL, h2, h3⟩, st⟩ := vx_callSW X hx (hh := hh) (bytes := bytes) (maxL := maxL) (ret := ret) ho hl hstt hini hcode hy hK hg (hsize.trans hml.symm) (argsL := As) (rest := rest) (fun sig h => hn.trans (hlen sig h)) hstack hW (by rw [hb]; exact hdg)
    (fun vm₁ hW₁ => ⟨hf.1, hf.2, hp.2 (T.setVm vm₁) hT hW₁⟩)
  dsimp only [Pt.U, Pt.locs, Pt.cells, Pt.slots] at X' e1 e2 h1 h2 h3 st
  subst h1; subst h2; subst h3
  exact ⟨v, (T.setVm vm₁).calling g' mk As.toArray, t, U', L, hT, X', hL, e1, e2, hq, st⟩
/-- not caught here, past rows that name other classes: it goes on to the caller -/
theorem vx_outP {p : Program} {l : Launch} {e : Env} {R : Room} {s : State} {m : MethodId} {args : Array Value} {below : List Frame} {meth : Method} {c : Code} {H : Heap} {locs : List Loc} {cells slots : Nat} {free : Addr → Prop} {ls : Array Slot} {rest : List Value} {Qc : Array Value → State → Outcome → State → Prop} {XC : String → State → State → Prop}
    {pc : Nat} {own E : String} {ce : Cell} {q : Addr} {mc ms : Nat} (hown : s.vm.findClass own = some m.cls) (hlocks : meth.locks = false)
    (hpass : ∀ z ∈ c.exceptionTable.toList, covers z pc = false ∨ (z.catchType ≠ 0 ∧ ∃ nm : String, (Cond.classLink own z.catchType nm).before args s = true ∧ va_Nc E nm s)) (hcell : H[q]? = some ce) (hv : ce.vm = .none) (hcl : s.vm.findClass E = some ce.cls)
    (hx : ∀ t : State, t.heap = H → s.vm.Alike t.vm → XC E s t) (hf : ∀ z ∈ locs, free z.base) (hc : cells ≤ mc) (hs : slots ≤ ms) :
    vx_W p l e R s m args below meth c H locs cells slots (vx_MQ below Qc XC args s mc ms free) (F0 m pc ls rest) q := by
  intro T hT X
  have hpl : e.platform.magicAccessors = ({} : Platform).magicAccessors := by rw [X.admits.platform]
  obtain ⟨vm', hW', X', st⟩ := X.outThrough hlocks q (g := F0 m pc ls rest) rfl rfl rfl (cell := ce) (by rw [hT]; exact hcell) (by rw [hv]; rfl)
    (by obtain ⟨k9, h9, -⟩ := Vm.findClass_spec hcl; exact ⟨k9, h9⟩) (fun z hz => by
      rcases hpass z hz with h | ⟨hz0, nm, hl1, hn1⟩
      · exact Or.inl h
      · obtain ⟨c6, hc6, hcl6⟩ := Cond.classLink_spec hown hl1 e.platform hpl
        obtain ⟨a8, b8, h1, h2, h3⟩ := hn1
        cases Option.some.inj (h1.symm.trans hcl)
        cases Option.some.inj (h2.symm.trans hc6)
        exact Or.inr ⟨hz0, _, hcl6, h3⟩)
  obtain ⟨g₀, hfr⟩ := X'.frames_eq
  have hcell9 : ((T.setVm vm').setFrames (.throwing q :: below)).heap[q]? = some ce := by
    show T.heap[q]? = some ce
    rw [hT]; exact hcell
  have hend : Ended ((T.setVm vm').setFrames (.throwing q :: below)) below (.threw q) := State.frames_setFrames _ (State.cur_lt_of_frames hfr)
  refine ⟨(T.setVm vm').setFrames (.throwing q :: below), ?_, .threw q, X'.here.running, hend, Or.inr ⟨q, rfl, E, ce, locs, hx _ hT (X'.ends _).1.alike, hcell9, hv, hcl, (X'.ends _).1, (X'.ends _).2.mono hc hs, hf⟩⟩
  rw [X.pushThrowing_eq]
  exact st
/-- a thing of a world lies in the heap -/
theorem vx_lt {D : va_G} {cl : List vw_C} {ws : va_W} {H1 : Heap} (h : va_P D cl ws H1) {k : Nat} {q : Nat × va_E} (hk : ws[k]? = some q) : q.1 < H1.size := (h k q hk).lt
end VXS
/-! ===== END ===== -/
/-! ===== BEGIN methods with a table of their own: called by a name, returning or throwing ===== -/
section VXH
/-! vx_backW, vx_callVX, vx_callSX, vx_callVW, vx_runVW, vx_runVX, vx_runSX, vx_ofWH follow the same proofs as their sisters above (Free/Laws.lean, Shelf42/LK1.lean); vx_outP calls Shelf42/NT130.lean (outThrough). -/
section
variable {l : Launch} {R : Room} {p : Program} {e : Env} {below : List Frame} {s : State} {sargs : Array Value} {y : MethodName} {len W9 : Nat}
theorem vx_backW {ws : List Cond} {rm : Room} {Pc : Array Value → State → Prop} {Qc : Array Value → State → Outcome → State → Prop} {XC : String → State → State → Prop} {mc ms : Nat} {free : Addr → Prop} {bytes : ByteArray} {maxL : Nat} {ret : Option FieldType} {hh : List (Nat × Nat × Nat × Nat)}
    (hM : vx_Met l y ws rm Pc Qc XC mc ms free) (hblind : FrameBlind Pc) (hrc : rm.cells = mc) (hrs : rm.slots = ms)
    (hframes : rm.frames + 1 ≤ R.frames) (hlocals : W9 + (maxL + 11) + rm.locals ≤ R.locals)
    (hws : ∀ w ∈ ws, ∀ a' U, s.WarmedH U.vm → w.before a' U = true) (hcode : Cond.codeWith y bytes maxL ret hh ∈ ws) (hinit : ∀ a' U, s.WarmedH U.vm → (Cond.initialized y.cls).before a' U = true) :
    vx_Back l R p e below s sargs y len W9 (PreOf R mc ms Pc) (PostOf Qc mc ms free) (vx_Post XC mc ms free) := by
  intro m meth c A g ig mk a X hg hsize hdg hW hn hp
  have h1 : (headSpec ws rm).pre.before a A.U = true := atoms_intro fun w hw => hws w hw _ _ X.warmed
  have h2 : (Cond.codeWith y bytes maxL ret hh).before a A.U = true := hws _ hcode _ _ X.warmed
  have h3 : (Cond.initialized y.cls).before a A.U = true := hinit _ _ X.warmed
  have h4 : A.cells + (headSpec ws rm).room.cells ≤ R.cells := by rw [show (headSpec ws rm).room.cells = mc from hrc]; exact hp.1
  have h5 : A.slots + (headSpec ws rm).room.slots ≤ R.slots := by rw [show (headSpec ws rm).room.slots = ms from hrs]; exact hp.2.1
  have hPc : Pc a (A.U.calling g mk a) := hblind _ _ _ _ hp.2.2
  obtain ⟨U, Ls, c0, s0⟩ := A
  dsimp only [Pt.U, Pt.locs, Pt.cells, Pt.slots] at h1 h2 h3 h4 h5 X hn hPc ⊢
  obtain ⟨m9, methY, cY, hn9, hmY, hcY, -, hlY, -⟩ := Cond.codeWith_spec h2
  cases Option.some.inj (hn9.symm.trans hn)
  obtain ⟨kY, hkY, -⟩ := className_of_methodNamed hn
  have hinitY : kY.init = .initialized := Cond.initialized_spec (findClass_of_methodNamed hn) hkY h3
  have h : At U g.method c below := by rw [hg]; exact X.here
  have hlocals9 : W9 + (maxL + 11) + (headSpec ws rm).room.locals ≤ R.locals := hlocals
  have happ : (headSpec ws rm).appliesLoose y e.platform (U.calling g mk a) = true :=
    Spec.appliesLoose_calling (g := g) h hdg hn hkY hinitY
      (X.room_calling (g := g) (R' := (headSpec ws rm).room) hsize hmY hcY hframes (by rw [hlY]; omega) h4 h5) h1
  obtain ⟨mid, hmid⟩ := h.above
  have hfr : (U.setTop g).frames = (.java g :: mid) ++ below := by rw [State.frames_setTop' g h.top, hmid]; rfl
  obtain ⟨o, s₂, hsteps, -, hend, hq⟩ := Steps.callFree hM p X.admits X.cas X.clock (acts := []) hfr happ hPc trivial
  have hq' : vx_Q Qc XC mc ms free a (U.calling g mk a) o s₂ := hq
  rw [State.frames_setTop' g h.top] at hend
  obtain ⟨g₀, hg0⟩ := Option.isSome_iff_exists.mp h.top
  obtain ⟨r, hr⟩ := State.topJava?_eq_some.mp hg0
  have hr' : (({ U with heap := s₂.heap, slotsUsed := s₂.slotsUsed } : State).setVm s₂.vm).frames = .java g₀ :: r := hr
  rcases hq' with ⟨hqc, L, hfe, hL⟩ | ⟨q, rfl, E, ce, L, hx, hce, hcv, hcl, hW₂, hsm, hL⟩
  · obtain ⟨⟨v, rfl⟩, hW₂, e2, q2, q3, q4, q5, q6⟩ := id hfe
    have e3 : s₂ = ({ (U.calling g mk a).setFrames s₂.frames with heap := s₂.heap, slotsUsed := s₂.slotsUsed } : State).setVm s₂.vm := by
      have : s₂ = ({ s₂ with vm := (U.calling g mk a).vm } : State).setVm s₂.vm := rfl
      rw [e2] at this
      exact this
    obtain ⟨c₂, i₂, len₂, hc₂, hd₂, hf₂⟩ := hend
    have hW' : U.WarmedH s₂.vm := hW₂
    have hcc : c₂ = c := by
      have h1 : s₂.code? g.method = U.code? g.method := by
        rw [State.code?_eq, State.code?_eq, hW'.alike.method?]
      exact Option.some.inj (hc₂.symm.trans (h1.trans h.code))
    subst hcc
    have hlen : len₂ = len := by rw [hdg] at hd₂; cases hd₂; rfl
    subst hlen
    have hs₂ : s₂ = (({ U with heap := s₂.heap, slotsUsed := s₂.slotsUsed } : State).setVm s₂.vm).setTop { g with pc := g.pc + len₂, stack := v.toList ++ g.stack } := by
      refine e3.trans ?_
      rw [hf₂, State.calling_eq h.top, State.setFrames_setFrames, State.setTop_of_frames _ hr', hr]
      rfl
    have hsame : U.sameButNew ({ U with heap := s₂.heap, slotsUsed := s₂.slotsUsed } : State) L mc ms := by
      refine ⟨?_, q2, q3, q4, q5, q6⟩
      obtain ⟨t, ht, -⟩ := State.frames_cons hr
      show ({ U with heap := s₂.heap, slotsUsed := s₂.slotsUsed } : State) = { U.setFrames U.frames with heap := s₂.heap, slotsUsed := s₂.slotsUsed }
      rw [State.setFrames_self ht]
    subst hg
    refine Or.inl ⟨v, ⟨(({ U with heap := s₂.heap, slotsUsed := s₂.slotsUsed } : State).setVm s₂.vm), Ls ++ L, c0 + mc, s0 + ms⟩,
      ⟨X.admits, X.cas, X.clock, X.frames, X.room, X.hears, X.method, X.code, (X.here.setHeapUsed s₂.heap s₂.slotsUsed).setVm hW'.alike, X.tail, State.WarmedH.trans X.warmed hW', X.limits, X.bytes, X.same.trans (hsame.setVm s.vm)⟩,
      ⟨g, mk, s₂, L, rfl, rfl, hqc, rfl, hL, rfl, rfl⟩, ?_⟩
    show Steps p.tables e below _ ((({ U with heap := s₂.heap, slotsUsed := s₂.slotsUsed } : State).setVm s₂.vm).setTop { g with pc := g.pc + len₂, stack := v.toList ++ g.stack })
    rw [← hs₂]
    exact hsteps
  · obtain ⟨e2, q2, q3, q4, q5, q6⟩ := id hsm
    have e3 : s₂ = ({ (U.calling g mk a).setFrames s₂.frames with heap := s₂.heap, slotsUsed := s₂.slotsUsed } : State).setVm s₂.vm := by
      have : s₂ = ({ s₂ with vm := (U.calling g mk a).vm } : State).setVm s₂.vm := rfl
      rw [e2] at this
      exact this
    have hf₂ : s₂.frames = .throwing q :: .java g :: U.frames.tail := hend
    have hW' : U.WarmedH s₂.vm := hW₂
    have hs₂ : s₂ = ((({ U with heap := s₂.heap, slotsUsed := s₂.slotsUsed } : State).setVm s₂.vm).setTop g).pushFrame (.throwing q) := by
      refine e3.trans ?_
      rw [hf₂, State.calling_eq h.top, State.setFrames_setFrames, State.pushFrame, State.frames_setTop _ hr', State.setTop_of_frames _ hr', State.setFrames_setFrames, hr]
      rfl
    have hsame : U.sameButNew ({ U with heap := s₂.heap, slotsUsed := s₂.slotsUsed } : State) L mc ms := by
      refine ⟨?_, q2, q3, q4, q5, q6⟩
      obtain ⟨t, ht, -⟩ := State.frames_cons hr
      show ({ U with heap := s₂.heap, slotsUsed := s₂.slotsUsed } : State) = { U.setFrames U.frames with heap := s₂.heap, slotsUsed := s₂.slotsUsed }
      rw [State.setFrames_self ht]
    subst hg
    refine Or.inr ⟨q, ⟨(({ U with heap := s₂.heap, slotsUsed := s₂.slotsUsed } : State).setVm s₂.vm), Ls ++ L, c0 + mc, s0 + ms⟩,
      ⟨X.admits, X.cas, X.clock, X.frames, X.room, X.hears, X.method, X.code, (X.here.setHeapUsed s₂.heap s₂.slotsUsed).setVm hW'.alike, X.tail, State.WarmedH.trans X.warmed hW', X.limits, X.bytes, X.same.trans (hsame.setVm s.vm)⟩,
      ⟨g, mk, s₂, L, E, ce, rfl, rfl, hx, hce, hcv, hcl, rfl, hL, rfl, rfl⟩, ?_⟩
    show Steps p.tables e below _ (((({ U with heap := s₂.heap, slotsUsed := s₂.slotsUsed } : State).setVm s₂.vm).setTop g).pushFrame (.throwing q))
    rw [← hs₂]
    exact hsteps
end
variable {p : Program} {l : Launch} {e : Env} {R : Room} {s : State} {m : MethodId} {args : Array Value} {below : List Frame} {meth : Method} {c : Code} {T : State} {H : Heap} {locs : List Loc} {cells slots : Nat}
theorem vx_callVX (X : Stand p l e R s m args below meth c T locs cells slots) (hexec : p.tables.exec = Jvm.exec) {own C : String} {index : Nat} {y : MethodName} {bytes : ByteArray} {maxL : Nat} {ret : Option FieldType} {hh : List (Nat × Nat × Nat × Nat)}
    (hown : s.vm.findClass own = some m.cls) (hlink : (Cond.methodLink own index y).before args s = true) (hinst : (Cond.instanceMethod y).before args s = true) (hsel : (Cond.selects C y y).before args s = true)
    (hcode : (Cond.codeWith y bytes maxL ret hh).before args s = true) (hy : y.cls ≠ "java/lang/invoke/MethodHandle" ∧ y.cls ≠ "java/lang/invoke/VarHandle")
    {W9 : Nat} {Pre : Pt → Array Value → Prop} {Post : Pt → Array Value → Option Value → Pt → Prop} {PostX : Pt → Array Value → Addr → Pt → Prop} (hK : vx_Back l R p e below s args y 3 W9 Pre Post PostX)
    {b : Addr} {cellB : Cell} (hcell : T.heap[b]? = some cellB) (hobj : cellB.vm.isStatics = false) (hcls : s.vm.findClass C = some cellB.cls)
    {g : JFrame} (hg : g.method = m) (hsize : g.locals.size = c.maxLocals) {argsL rest : List Value} (hlen : ∀ sig, parseMethodDescriptor y.desc = some sig → argsL.length = sig.parameters.length)
    (hstack : g.stack = argsL.reverse ++ .ref b :: rest) (hW : 2 * g.monitorRoom + (rest.map fun v => v.category).sum ≤ W9) (hdg : decode c.code g.pc = .ok (.invokevirtual index, 3))
    (hpre : ∀ vm₁, s.WarmedH vm₁ → Pre ⟨T.setVm vm₁, locs, cells, slots⟩ (Value.ref b :: argsL).toArray) :
    (∃ (v : Option Value) (vm₁ : Vm) (B : Pt), s.WarmedH vm₁ ∧ Stand p l e R s m args below meth c B.U B.locs B.cells B.slots ∧ Post ⟨T.setVm vm₁, locs, cells, slots⟩ (Value.ref b :: argsL).toArray v B ∧
      ∀ target, Steps p.tables e below (B.U.setTop { g with pc := g.pc + 3, stack := v.toList ++ rest }) target → Steps p.tables e below (T.setTop g) target) ∨
    (∃ (q : Addr) (vm₁ : Vm) (B : Pt), s.WarmedH vm₁ ∧ Stand p l e R s m args below meth c B.U B.locs B.cells B.slots ∧ PostX ⟨T.setVm vm₁, locs, cells, slots⟩ (Value.ref b :: argsL).toArray q B ∧
      Steps p.tables e below (T.setTop g) ((B.U.setTop { g with stack := rest }).pushFrame (.throwing q))) := by
  obtain ⟨mk, methM, hnamed, hmethM, hstM, habM⟩ := Cond.instanceMethod_spec hinst
  obtain ⟨m8, methM', cM, hn8, hmethM', -, -, -, -, -, -, hsigM⟩ := Cond.codeWith_spec hcode
  cases Option.some.inj (hn8.symm.trans hnamed)
  cases hmethM.symm.trans hmethM'
  obtain ⟨c2, r2, m2, q1, q2, q3, q4, kP, hkP, hkPi⟩ := Cond.selects_spec hsel
  cases hcls.symm.trans q1
  cases (State.methodFound?_of_named hnamed hy).symm.trans q2
  cases hnamed.symm.trans q3
  have hselP : selectMethod e.platform s.vm cellB.cls mk = .method mk := by rw [Launch.admits_selectMethod X.admits]; exact q4
  obtain ⟨vm₁, X₁, hstep₁⟩ := X.invokevirtual hexec hown hlink hnamed hmethM hstM hkP hkPi hy (a := b) (cell := cellB) hcell
    (fun z h => by rw [h] at hobj; cases hobj) hselP hmethM habM hkP hkPi (g := g) hg (argsL := argsL) (rest := rest) (hlen _ hsigM) hstack hdg
  rcases hK m meth c ⟨T.setVm vm₁, locs, cells, slots⟩ { g with stack := rest } (.invokevirtual index) mk (Value.ref b :: argsL).toArray X₁ hg hsize hdg hW (X₁.named hnamed) (hpre vm₁ X₁.warmed) with ⟨v, B, X', hpost, hsteps⟩ | ⟨q, B, X', hpost, hsteps⟩
  · exact Or.inl ⟨v, vm₁, B, X₁.warmed, X', hpost, fun target h => hstep₁ _ fun acts => by rw [doInvoke_state]; exact hsteps.trans h⟩
  · exact Or.inr ⟨q, vm₁, B, X₁.warmed, X', hpost, hstep₁ _ fun acts => by rw [doInvoke_state]; exact hsteps⟩
theorem vx_callSX (X : Stand p l e R s m args below meth c T locs cells slots) (hexec : p.tables.exec = Jvm.exec) {own : String} {index : Nat} {y : MethodName} {bytes : ByteArray} {maxL : Nat} {ret : Option FieldType} {hh : List (Nat × Nat × Nat × Nat)}
    (hown : s.vm.findClass own = some m.cls) (hlink : (Cond.methodLink own index y).before args s = true) (hstat : (Cond.static y).before args s = true) (hinit : (Cond.initialized y.cls).before args s = true)
    (hcode : (Cond.codeWith y bytes maxL ret hh).before args s = true) (hy : y.cls ≠ "java/lang/invoke/MethodHandle" ∧ y.cls ≠ "java/lang/invoke/VarHandle")
    {W9 : Nat} {Pre : Pt → Array Value → Prop} {Post : Pt → Array Value → Option Value → Pt → Prop} {PostX : Pt → Array Value → Addr → Pt → Prop} (hK : vx_Back l R p e below s args y 3 W9 Pre Post PostX)
    {g : JFrame} (hg : g.method = m) (hsize : g.locals.size = c.maxLocals) {argsL rest : List Value} (hlen : ∀ sig, parseMethodDescriptor y.desc = some sig → argsL.length = sig.parameters.length)
    (hstack : g.stack = argsL.reverse ++ rest) (hW : 2 * g.monitorRoom + (rest.map fun v => v.category).sum ≤ W9) (hdg : decode c.code g.pc = .ok (.invokestatic index, 3))
    (hpre : ∀ vm₁, s.WarmedH vm₁ → Pre ⟨T.setVm vm₁, locs, cells, slots⟩ argsL.toArray) :
    (∃ (v : Option Value) (vm₁ : Vm) (B : Pt), s.WarmedH vm₁ ∧ Stand p l e R s m args below meth c B.U B.locs B.cells B.slots ∧ Post ⟨T.setVm vm₁, locs, cells, slots⟩ argsL.toArray v B ∧
      ∀ target, Steps p.tables e below (B.U.setTop { g with pc := g.pc + 3, stack := v.toList ++ rest }) target → Steps p.tables e below (T.setTop g) target) ∨
    (∃ (q : Addr) (vm₁ : Vm) (B : Pt), s.WarmedH vm₁ ∧ Stand p l e R s m args below meth c B.U B.locs B.cells B.slots ∧ PostX ⟨T.setVm vm₁, locs, cells, slots⟩ argsL.toArray q B ∧
      Steps p.tables e below (T.setTop g) ((B.U.setTop { g with stack := rest }).pushFrame (.throwing q))) := by
  obtain ⟨mk, methM, cM, hnamed, hmethM, -, -, -, -, -, -, hsigM⟩ := Cond.codeWith_spec hcode
  have hstatic : methM.isStatic = true := Cond.static_spec hnamed hmethM hstat
  obtain ⟨kP, hkP, -⟩ := className_of_methodNamed hnamed
  have hinitP : kP.init = .initialized := Cond.initialized_spec (findClass_of_methodNamed hnamed) hkP hinit
  obtain ⟨vm₁, X₁, hstep₁⟩ := X.invokestatic hexec hown hlink hnamed hmethM hstatic hkP hinitP hy (g := g) hg (argsL := argsL) (rest := rest) (hlen _ hsigM) hstack hdg
  rcases hK m meth c ⟨T.setVm vm₁, locs, cells, slots⟩ { g with stack := rest } (.invokestatic index) mk argsL.toArray X₁ hg hsize hdg hW (X₁.named hnamed) (hpre vm₁ X₁.warmed) with ⟨v, B, X', hpost, hsteps⟩ | ⟨q, B, X', hpost, hsteps⟩
  · exact Or.inl ⟨v, vm₁, B, X₁.warmed, X', hpost, fun target h => hstep₁ _ fun acts => by rw [doInvoke_state]; exact hsteps.trans h⟩
  · exact Or.inr ⟨q, vm₁, B, X₁.warmed, X', hpost, hstep₁ _ fun acts => by rw [doInvoke_state]; exact hsteps⟩
theorem vx_callVW (X : Stand p l e R s m args below meth c T locs cells slots) (hexec : p.tables.exec = Jvm.exec) {own C : String} {index : Nat} {y : MethodName} {bytes : ByteArray} {maxL : Nat} {ret : Option FieldType} {hh : List (Nat × Nat × Nat × Nat)}
    (hown : s.vm.findClass own = some m.cls) (hlink : (Cond.methodLink own index y).before args s = true) (hinst : (Cond.instanceMethod y).before args s = true) (hsel : (Cond.selects C y y).before args s = true)
    (hcode : (Cond.codeWith y bytes maxL ret hh).before args s = true) (hy : y.cls ≠ "java/lang/invoke/MethodHandle" ∧ y.cls ≠ "java/lang/invoke/VarHandle")
    {W9 : Nat} {Pre : Pt → Array Value → Prop} {Post : Pt → Array Value → Option Value → Pt → Prop} (hK : Back l R p e below s args y 3 W9 Pre Post)
    {b : Addr} {cellB : Cell} (hcell : T.heap[b]? = some cellB) (hobj : cellB.vm.isStatics = false) (hcls : s.vm.findClass C = some cellB.cls)
    {g : JFrame} (hg : g.method = m) (hsize : g.locals.size = c.maxLocals) {argsL rest : List Value} (hlen : ∀ sig, parseMethodDescriptor y.desc = some sig → argsL.length = sig.parameters.length)
    (hstack : g.stack = argsL.reverse ++ .ref b :: rest) (hW : 2 * g.monitorRoom + (rest.map fun v => v.category).sum ≤ W9) (hdg : decode c.code g.pc = .ok (.invokevirtual index, 3))
    (hpre : ∀ vm₁, s.WarmedH vm₁ → Pre ⟨T.setVm vm₁, locs, cells, slots⟩ (Value.ref b :: argsL).toArray) :
    ∃ (v : Option Value) (vm₁ : Vm) (B : Pt), s.WarmedH vm₁ ∧ Stand p l e R s m args below meth c B.U B.locs B.cells B.slots ∧ Post ⟨T.setVm vm₁, locs, cells, slots⟩ (Value.ref b :: argsL).toArray v B ∧
      ∀ target, Steps p.tables e below (B.U.setTop { g with pc := g.pc + 3, stack := v.toList ++ rest }) target → Steps p.tables e below (T.setTop g) target := by
  obtain ⟨mk, methM, hnamed, hmethM, hstM, habM⟩ := Cond.instanceMethod_spec hinst
  obtain ⟨m8, methM', cM, hn8, hmethM', -, -, -, -, -, -, hsigM⟩ := Cond.codeWith_spec hcode
  cases Option.some.inj (hn8.symm.trans hnamed)
  cases hmethM.symm.trans hmethM'
  obtain ⟨c2, r2, m2, q1, q2, q3, q4, kP, hkP, hkPi⟩ := Cond.selects_spec hsel
  cases hcls.symm.trans q1
  cases (State.methodFound?_of_named hnamed hy).symm.trans q2
  cases hnamed.symm.trans q3
  have hselP : selectMethod e.platform s.vm cellB.cls mk = .method mk := by rw [Launch.admits_selectMethod X.admits]; exact q4
  obtain ⟨vm₁, X₁, hstep₁⟩ := X.invokevirtual hexec hown hlink hnamed hmethM hstM hkP hkPi hy (a := b) (cell := cellB) hcell
    (fun z h => by rw [h] at hobj; cases hobj) hselP hmethM habM hkP hkPi (g := g) hg (argsL := argsL) (rest := rest) (hlen _ hsigM) hstack hdg
  obtain ⟨v, B, X', hpost, hsteps⟩ := hK m meth c ⟨T.setVm vm₁, locs, cells, slots⟩ { g with stack := rest } (.invokevirtual index) mk (Value.ref b :: argsL).toArray X₁ hg hsize hdg hW (X₁.named hnamed) (hpre vm₁ X₁.warmed)
  exact ⟨v, vm₁, B, X₁.warmed, X', hpost, fun target h => hstep₁ _ fun acts => by rw [doInvoke_state]; exact hsteps.trans h⟩
abbrev vx_CVW (R : Room) (s : State) (args : Array Value) (own C : String) (index : Nat) (y : MethodName) (bytes : ByteArray) (maxL : Nat) (ret : Option FieldType) (hh : List (Nat × Nat × Nat × Nat)) (ws : List Cond) (rm : Room) (mc ms n : Nat) : Prop :=
  (rm.cells = mc ∧ rm.slots = ms ∧ rm.frames + 1 ≤ R.frames ∧ 8 + (maxL + 11) + rm.locals ≤ R.locals ∧ (∀ w ∈ ws, ∀ (a' : Array Value) (U : State), s.WarmedH U.vm → w.before a' U = true) ∧ Cond.codeWith y bytes maxL ret hh ∈ ws) ∧
  (Cond.codeWith y bytes maxL ret hh).before args s = true ∧ (Cond.initialized y.cls).before args s = true ∧ (y.cls ≠ "java/lang/invoke/MethodHandle" ∧ y.cls ≠ "java/lang/invoke/VarHandle") ∧
  (∀ sig, parseMethodDescriptor y.desc = some sig → n = sig.parameters.length) ∧ (Cond.methodLink own index y).before args s = true ∧ (Cond.instanceMethod y).before args s = true ∧ (Cond.selects C y y).before args s = true
theorem vx_cwVW {own C : String} {index maxL mc ms : Nat} {y : MethodName} {bytes : ByteArray} {ret : Option FieldType} {hh : List (Nat × Nat × Nat × Nat)} {Ts ws ws' : List Cond} {rm : Room} (n : Nat) (ht : ∀ w ∈ Ts, w.before args s = true) (hT : GoodIn Ts (wsV own index C y ws)) (hw : ws = Cond.codeWith y bytes maxL ret hh :: ws') (hrc : rm.cells = mc) (hrs : rm.slots = ms)
    (hd : y.cls = C ∧ y.cls ≠ "java/lang/invoke/MethodHandle" ∧ y.cls ≠ "java/lang/invoke/VarHandle" ∧ (parseMethodDescriptor y.desc).map (fun d => d.parameters.length) = some n) (hR : rm.frames + 1 ≤ R.frames ∧ 8 + (maxL + 11) + rm.locals ≤ R.locals) :
    vx_CVW R s args own C index y bytes maxL ret hh ws rm mc ms n := by
  obtain ⟨hC, hd⟩ := hd
  subst hC
  have ok : ∀ w ∈ wsV own index y.cls y ws, w.before args s = true := fun w h => ht w (hT w h).1
  have hG : GoodIn Ts ws := fun w h => hT w (by unfold wsV; exact List.mem_append_right _ h)
  have hc : Cond.codeWith y bytes maxL ret hh ∈ ws := by rw [hw]; exact List.mem_cons_self
  refine ⟨⟨hrc, hrs, hR.1, hR.2, pay_in ht hG, hc⟩, ht _ (hG _ hc).1, ok _ (by simp [wsV]), ⟨hd.1, hd.2.1⟩, fun sig h => ?_, ok _ (by simp [wsV]), ok _ (by simp [wsV]), ok _ (by simp [wsV])⟩
  have h2 := hd.2.2
  rw [h] at h2
  exact (Option.some.inj h2).symm
theorem vx_runVW {y : MethodName} {bytes cc : ByteArray} {maxL nL mc ms n index : Nat} {ret : Option FieldType} {hh : List (Nat × Nat × Nat × Nat)} {ws : List Cond} {rm : Room} {Pc : Array Value → State → Prop} {Qc : Array Value → State → Outcome → State → Prop} {free : Addr → Prop} {Ts : List Cond} {own C : String} {b : Addr} {As rest : List Value} {g : JFrame}
    (S : CallFix p m c cc nL s args Ts own) (hM : Met l y ws rm Pc Qc mc ms free) (cw : vx_CVW R s args own C index y bytes maxL ret hh ws rm mc ms n) (hp : PreV s H C b Pc As)
    (hg : g.method = m) (hn : As.length = n) (hsize : g.locals.size = nL) (hstack : g.stack = As.reverse ++ .ref b :: rest) (hW : 2 * g.monitorRoom + (rest.map fun v => v.category).sum ≤ 8) (hdg : decode cc g.pc = .ok (.invokevirtual index, 3)) (hf : cells + mc ≤ R.cells ∧ slots + ms ≤ R.slots) :
    va_Run p l e R s m args below meth c H locs cells slots mc ms g rest (Qc (Value.ref b :: As).toArray) free := by
  obtain ⟨⟨hrc, hrs, hfr, hlo, hws, hcw⟩, hcode, hini, hy, hlen, hl, hin, hse⟩ := cw
  have hK : Back l R p e below s args y 3 8 (PreOf R mc ms Pc) (PostOf Qc mc ms free) := va_backW (hh := hh) (bytes := bytes) (maxL := maxL) (ret := ret) hM hp.1 hrc hrs hfr hlo hws hcw (fun a' U hW => word_at hW (Or.inl (by first | rfl | simp [Cond.onTables, Cond.keeps, Cond.steady])) hini)
  obtain ⟨hx, hb, hml, ho, -⟩ := S
  obtain ⟨-, ⟨cellB, hcB, hoB, hclB⟩, hPc⟩ := hp
  intro T hT X
  obtain ⟨v, vm₁, ⟨U', l2, c2, s2⟩, hW₁, X', ⟨g', mk, t, L, e1, e2, hq, h1, hL, h2, h3⟩, st⟩ := vx_callVW X hx (C := C) (hh := hh) (bytes := bytes) (maxL := maxL) (ret := ret) ho hl hin hse hcode hy hK (by rw [hT]; exact hcB) hoB hclB hg (hsize.trans hml.symm) (argsL := As) (rest := rest) (fun sig h => hn.trans (hlen sig h)) hstack hW (by rw [hb]; exact hdg)
    (fun vm₁ hW₁ => ⟨hf.1, hf.2, hPc (T.setVm vm₁) hT hW₁⟩)
  dsimp only [Pt.U, Pt.locs, Pt.cells, Pt.slots] at X' e1 e2 h1 h2 h3 st
  subst h1; subst h2; subst h3
  exact ⟨v, (T.setVm vm₁).calling g' mk (Value.ref b :: As).toArray, t, U', L, hT, X', hL, e1, e2, hq, st⟩
section
variable {y : MethodName} {bytes cc : ByteArray} {maxL nL mc ms n index : Nat} {ret : Option FieldType} {ws : List Cond} {rm : Room} {Pc : Array Value → State → Prop} {Qc : Array Value → State → Outcome → State → Prop} {XC : String → State → State → Prop} {free : Addr → Prop} {Ts : List Cond} {own C : String} {b : Addr} {As rest : List Value} {g : JFrame}
theorem vx_runVX {hh : List (Nat × Nat × Nat × Nat)} (S : CallFix p m c cc nL s args Ts own) (hM : vx_Met l y ws rm Pc Qc XC mc ms free) (cw : vx_CVW R s args own C index y bytes maxL ret hh ws rm mc ms n) (hp : PreV s H C b Pc As)
    (hg : g.method = m) (hn : As.length = n) (hsize : g.locals.size = nL) (hstack : g.stack = As.reverse ++ .ref b :: rest) (hW : 2 * g.monitorRoom + (rest.map fun v => v.category).sum ≤ 8) (hdg : decode cc g.pc = .ok (.invokevirtual index, 3)) (hf : cells + mc ≤ R.cells ∧ slots + ms ≤ R.slots) :
    vx_Run p l e R s m args below meth c H locs cells slots mc ms g rest (Qc (Value.ref b :: As).toArray) XC free := by
  obtain ⟨⟨hrc, hrs, hfr, hlo, hws, hcw⟩, hcode, hini, hy, hlen, hl, hin, hse⟩ := cw
  have hK : vx_Back l R p e below s args y 3 8 (PreOf R mc ms Pc) (PostOf Qc mc ms free) (vx_Post XC mc ms free) := vx_backW (hh := hh) (bytes := bytes) (maxL := maxL) (ret := ret) hM hp.1 hrc hrs hfr hlo hws hcw (fun a' U hW => word_at hW (Or.inl (by first | rfl | simp [Cond.onTables, Cond.keeps, Cond.steady])) hini)
  obtain ⟨hx, hb, hml, ho, -⟩ := S
  obtain ⟨-, ⟨cellB, hcB, hoB, hclB⟩, hPc⟩ := hp
  intro T hT X
  rcases vx_callVX X hx (C := C) (hh := hh) (bytes := bytes) (maxL := maxL) (ret := ret) ho hl hin hse hcode hy hK (by rw [hT]; exact hcB) hoB hclB hg (hsize.trans hml.symm) (argsL := As) (rest := rest) (fun sig h => hn.trans (hlen sig h)) hstack hW (by rw [hb]; exact hdg)
    (fun vm₁ hW₁ => ⟨hf.1, hf.2, hPc (T.setVm vm₁) hT hW₁⟩) with ⟨v, vm₁, ⟨U', l2, c2, s2⟩, hW₁, X', ⟨g', mk, t, L, e1, e2, hq, h1, hL, h2, h3⟩, st⟩ | ⟨q, vm₁, ⟨U', l2, c2, s2⟩, hW₁, X', ⟨g', mk, t, L, E, ce, e1, e2, hq, hce, hcv, hcl, h1, hL, h2, h3⟩, st⟩
  · dsimp only [Pt.U, Pt.locs, Pt.cells, Pt.slots] at X' e1 e2 h1 h2 h3 st
    subst h1; subst h2; subst h3
    exact Or.inl ⟨v, (T.setVm vm₁).calling g' mk (Value.ref b :: As).toArray, t, U', L, hT, X', hL, e1, e2, hq, st⟩
  · dsimp only [Pt.U, Pt.locs, Pt.cells, Pt.slots] at X' e1 e2 h1 h2 h3 st hcl
    subst h1; subst h2; subst h3
    exact Or.inr ⟨q, (T.setVm vm₁).calling g' mk (Value.ref b :: As).toArray, t, U', L, E, ce, hT, X', hL, e1, e2, hq, hce, hcv, vx_cls hW₁ hcl, st⟩
theorem vx_runSX {hh : List (Nat × Nat × Nat × Nat)} (S : CallFix p m c cc nL s args Ts own) (hM : vx_Met l y ws rm Pc Qc XC mc ms free) (cw : vx_CSW R s args own index y bytes maxL ret hh ws rm mc ms n) (hp : PreS s H Pc As)
    (hg : g.method = m) (hn : As.length = n) (hsize : g.locals.size = nL) (hstack : g.stack = As.reverse ++ rest) (hW : 2 * g.monitorRoom + (rest.map fun v => v.category).sum ≤ 8) (hdg : decode cc g.pc = .ok (.invokestatic index, 3)) (hf : cells + mc ≤ R.cells ∧ slots + ms ≤ R.slots) :
    vx_Run p l e R s m args below meth c H locs cells slots mc ms g rest (Qc As.toArray) XC free := by
  obtain ⟨⟨hrc, hrs, hfr, hlo, hws, hcw⟩, hcode, hini, hy, hlen, hl, hstt⟩ := cw
  have hK : vx_Back l R p e below s args y 3 8 (PreOf R mc ms Pc) (PostOf Qc mc ms free) (vx_Post XC mc ms free) := vx_backW (hh := hh) (bytes := bytes) (maxL := maxL) (ret := ret) hM hp.1 hrc hrs hfr hlo hws hcw (fun a' U hW => word_at hW (Or.inl (by first | rfl | simp [Cond.onTables, Cond.keeps, Cond.steady])) hini)
  obtain ⟨hx, hb, hml, ho, -⟩ := S
  intro T hT X
  rcases vx_callSX X hx (hh := hh) (bytes := bytes) (maxL := maxL) (ret := ret) ho hl hstt hini hcode hy hK hg (hsize.trans hml.symm) (argsL := As) (rest := rest) (fun sig h => hn.trans (hlen sig h)) hstack hW (by rw [hb]; exact hdg)
    (fun vm₁ hW₁ => ⟨hf.1, hf.2, hp.2 (T.setVm vm₁) hT hW₁⟩) with ⟨v, vm₁, ⟨U', l2, c2, s2⟩, hW₁, X', ⟨g', mk, t, L, e1, e2, hq, h1, hL, h2, h3⟩, st⟩ | ⟨q, vm₁, ⟨U', l2, c2, s2⟩, hW₁, X', ⟨g', mk, t, L, E, ce, e1, e2, hq, hce, hcv, hcl, h1, hL, h2, h3⟩, st⟩
  · dsimp only [Pt.U, Pt.locs, Pt.cells, Pt.slots] at X' e1 e2 h1 h2 h3 st
    subst h1; subst h2; subst h3
    exact Or.inl ⟨v, (T.setVm vm₁).calling g' mk As.toArray, t, U', L, hT, X', hL, e1, e2, hq, st⟩
  · dsimp only [Pt.U, Pt.locs, Pt.cells, Pt.slots] at X' e1 e2 h1 h2 h3 st hcl
    subst h1; subst h2; subst h3
    exact Or.inr ⟨q, (T.setVm vm₁).calling g' mk As.toArray, t, U', L, E, ce, hT, X', hL, e1, e2, hq, hce, hcv, vx_cls hW₁ hcl, st⟩
end
end VXH
theorem vx_ofWH {l : Launch} {y : MethodName} {ws ws' : List Cond} {rm : Room} {Pc : Array Value → State → Prop} {Qc : Array Value → State → Outcome → State → Prop} {XC : String → State → State → Prop} {mc ms : Nat} {free : Addr → Prop} {cc : ByteArray} {maxL : Nat} {ret : Option FieldType} {hh : List (Nat × Nat × Nat × Nat)}
    (hy : plainName y.cls = true) (hw : ws = Cond.codeWith y cc maxL ret hh :: ws')
    (body : ∀ p e s m args below meth c s₁, BodyLoose p l y (headSpec ws rm) cc maxL ret e s m args below meth c s₁ → c.maxLocals = maxL → Pc args s →
      W p l e (headSpec ws rm).room s m args below meth c s.heap [] 0 0 (vx_MQ below Qc XC args s mc ms free) (entryFrame m args maxL)) : vx_Met l y ws rm Pc Qc XC mc ms free := by
  refine MetFree.of_bodyS (code := cc) (maxLocals := maxL) (ret := ret) hy ?_ ?_
  · intro args s m h hn
    obtain ⟨m9, meth, c, hn9, h1, h2, h3, h4, -, h5, h6, -⟩ := Cond.codeWith_spec (atoms_spec (ws := ws) h _ (by rw [hw]; exact List.mem_cons_self))
    cases hn.symm.trans hn9
    exact ⟨meth, c, h1, h2, h3, h4, h5, h6⟩
  · intro p e s m args below meth c s₁ B hml hP _
    have hh0 : s₁.heap = s.heap := by rw [B.state]; rfl
    obtain ⟨t, a1, o, b1, b2, b3⟩ := body p e s m args below meth c s₁ B hml hP s₁ hh0 (Stand.of_body B)
    exact ⟨t, o, a1, b1, b2, b3⟩
/-! ===== END ===== -/
end
section
/-! printed names (claim/NAMES.whole.lean.txt), without its word lists and pools -/
def RX0 : String := "Sketchlock$Board"
def TX0 : u_T := fun k => match k with
  | 0 => ("Sketchlock$Board", "shapes", "LSketchlock$Shapes;", true)
  | 1 => ("Sketchlock$Board", "rules", "LSketchlock$Rules;", true)
  | 2 => ("Sketchlock$Board", "isInRounds", "Z", true)
  | 3 => ("Sketchlock$Board", "numbers", "[I", true)
  | 4 => ("Sketchlock$Board", "tieGaps", "[I", true)
  | 5 => ("Sketchlock$Board", "there", "I", false)
  | _ => ("Sketchlock$Board", "inForce", "I", false)
def tyX0 : Nat → FieldType := fun k => match k with
  | 0 => .object "Sketchlock$Shapes"
  | 1 => .object "Sketchlock$Rules"
  | 2 => .boolean
  | 3 => .array .int
  | 4 => .array .int
  | 5 => .int
  | _ => .int
theorem nmX0 : ∀ a, a < 7 → ∀ b, b < 7 → a ≠ b → (TX0 a).2.1 ≠ (TX0 b).2.1 := by decide +kernel
theorem tyX0_ok : ∀ k, k < 7 → parseFieldDescriptor (TX0 k).2.2.1 = some (tyX0 k) := by decide +kernel
abbrev cX0_init : ByteArray := prog_2_method_1_code
def yX0_init : MethodName := ⟨RX0, "<init>", "(LSketchlock$Shapes;LSketchlock$Rules;Z)V"⟩
abbrev cX0_clear : ByteArray := prog_2_method_2_code
def yX0_clear : MethodName := ⟨RX0, "clear", "()V"⟩
abbrev cX0_copyFrom : ByteArray := prog_2_method_3_code
def yX0_copyFrom : MethodName := ⟨RX0, "copyFrom", "(LSketchlock$Board;)V"⟩
abbrev cX0_numberOf : ByteArray := prog_2_method_4_code
def yX0_numberOf : MethodName := ⟨RX0, "numberOf", "(II)I"⟩
abbrev cX0_set : ByteArray := prog_2_method_5_code
def yX0_set : MethodName := ⟨RX0, "set", "(III)V"⟩
abbrev cX0_differsAt : ByteArray := prog_2_method_6_code
def yX0_differsAt : MethodName := ⟨RX0, "differsAt", "(ILSketchlock$Board;)Z"⟩
abbrev cX0_addShape : ByteArray := prog_2_method_7_code
def yX0_addShape : MethodName := ⟨RX0, "addShape", "(IIIII)Z"⟩
abbrev cX0_moveTo : ByteArray := prog_2_method_8_code
def yX0_moveTo : MethodName := ⟨RX0, "moveTo", "(III)Z"⟩
abbrev cX0_resizeTo : ByteArray := prog_2_method_9_code
def yX0_resizeTo : MethodName := ⟨RX0, "resizeTo", "(III)Z"⟩
abbrev cX0_layRule : ByteArray := prog_2_method_10_code
def yX0_layRule : MethodName := ⟨RX0, "layRule", "(I)Z"⟩
abbrev cX0_dropRule : ByteArray := prog_2_method_11_code
def yX0_dropRule : MethodName := ⟨RX0, "dropRule", "(I)Z"⟩
abbrev cX0_isLink : ByteArray := prog_2_method_12_code
def yX0_isLink : MethodName := ⟨RX0, "isLink", "(II)Z"⟩
abbrev cX0_gapOf : ByteArray := prog_2_method_13_code
def yX0_gapOf : MethodName := ⟨RX0, "gapOf", "(II)I"⟩
abbrev cX0_fits : ByteArray := prog_2_method_14_code
def yX0_fits : MethodName := ⟨RX0, "fits", "(I)Z"⟩
abbrev cX0_groupOf : ByteArray := prog_2_method_15_code
def yX0_groupOf : MethodName := ⟨RX0, "groupOf", "(II)I"⟩
abbrev cX0_shiftGroup : ByteArray := prog_2_method_16_code
def yX0_shiftGroup : MethodName := ⟨RX0, "shiftGroup", "(III)Z"⟩
abbrev cX0_growClass : ByteArray := prog_2_method_17_code
def yX0_growClass : MethodName := ⟨RX0, "growClass", "(IIII)Z"⟩
abbrev cX0_areInRange : ByteArray := prog_2_method_18_code
def yX0_areInRange : MethodName := ⟨RX0, "areInRange", "(I)Z"⟩
abbrev cX0_tellByWalk : ByteArray := prog_2_method_19_code
def yX0_tellByWalk : MethodName := ⟨RX0, "tellByWalk", "(II)Z"⟩
abbrev cX0_tellInRounds : ByteArray := prog_2_method_20_code
def yX0_tellInRounds : MethodName := ⟨RX0, "tellInRounds", "(II)Z"⟩
def RX1 : String := "Sketchlock$ExportText"
def TX1 : u_T := fun k => match k with
  | 0 => ("Sketchlock$ExportText", "signs", "[C", true)
  | _ => ("Sketchlock$ExportText", "chars", "I", false)
def tyX1 : Nat → FieldType := fun k => match k with
  | 0 => .array .char
  | _ => .int
theorem nmX1 : ∀ a, a < 2 → ∀ b, b < 2 → a ≠ b → (TX1 a).2.1 ≠ (TX1 b).2.1 := by decide +kernel
theorem tyX1_ok : ∀ k, k < 2 → parseFieldDescriptor (TX1 k).2.2.1 = some (tyX1 k) := by decide +kernel
abbrev cX1_init : ByteArray := prog_3_method_1_code
def yX1_init : MethodName := ⟨RX1, "<init>", "()V"⟩
abbrev cX1_signOf : ByteArray := prog_3_method_2_code
def yX1_signOf : MethodName := ⟨RX1, "signOf", "(I)C"⟩
abbrev cX1_show : ByteArray := prog_3_method_3_code
def yX1_show : MethodName := ⟨RX1, "show", "(LSketchlock$Board;LSketchlock$Shapes;)V"⟩
abbrev cX1_showShape : ByteArray := prog_3_method_4_code
def yX1_showShape : MethodName := ⟨RX1, "showShape", "(LSketchlock$Board;LSketchlock$Shapes;I)V"⟩
abbrev cX1_writeLetter : ByteArray := prog_3_method_5_code
def yX1_writeLetter : MethodName := ⟨RX1, "writeLetter", "(I)V"⟩
abbrev cX1_writeNumber : ByteArray := prog_3_method_6_code
def yX1_writeNumber : MethodName := ⟨RX1, "writeNumber", "(I)V"⟩
abbrev cX1_write : ByteArray := prog_3_method_7_code
def yX1_write : MethodName := ⟨RX1, "write", "(C)V"⟩
def RX2 : String := "Sketchlock$Exports"
def TX2 : u_T := fun k => match k with
  | 0 => ("Sketchlock$Exports", "asked", "I", false)
  | 1 => ("Sketchlock$Exports", "made", "I", false)
  | 2 => ("Sketchlock$Exports", "counted", "[J", true)
  | 3 => ("Sketchlock$Exports", "chars", "[I", true)
  | _ => ("Sketchlock$Exports", "signs", "[C", true)
def tyX2 : Nat → FieldType := fun k => match k with
  | 0 => .int
  | 1 => .int
  | 2 => .array .long
  | 3 => .array .int
  | _ => .array .char
theorem nmX2 : ∀ a, a < 5 → ∀ b, b < 5 → a ≠ b → (TX2 a).2.1 ≠ (TX2 b).2.1 := by decide +kernel
theorem tyX2_ok : ∀ k, k < 5 → parseFieldDescriptor (TX2 k).2.2.1 = some (tyX2 k) := by decide +kernel
abbrev cX2_init : ByteArray := prog_4_method_1_code
def yX2_init : MethodName := ⟨RX2, "<init>", "()V"⟩
abbrev cX2_keep : ByteArray := prog_4_method_2_code
def yX2_keep : MethodName := ⟨RX2, "keep", "(LSketchlock$ExportText;J)V"⟩
abbrev cX2_charsOf : ByteArray := prog_4_method_3_code
def yX2_charsOf : MethodName := ⟨RX2, "charsOf", "(I)I"⟩
abbrev cX2_actsOf : ByteArray := prog_4_method_4_code
def yX2_actsOf : MethodName := ⟨RX2, "actsOf", "(I)J"⟩
abbrev cX2_signOf : ByteArray := prog_4_method_5_code
def yX2_signOf : MethodName := ⟨RX2, "signOf", "(II)C"⟩
def RX3 : String := "Sketchlock$Replay"
def TX3 : u_T := fun k => match k with
  | 0 => ("Sketchlock$Replay", "tree", "LSketchlock$Tree;", true)
  | 1 => ("Sketchlock$Replay", "board", "LSketchlock$Board;", false)
  | 2 => ("Sketchlock$Replay", "trial", "LSketchlock$Board;", false)
  | _ => ("Sketchlock$Replay", "voids", "J", false)
def tyX3 : Nat → FieldType := fun k => match k with
  | 0 => .object "Sketchlock$Tree"
  | 1 => .object "Sketchlock$Board"
  | 2 => .object "Sketchlock$Board"
  | _ => .long
theorem nmX3 : ∀ a, a < 4 → ∀ b, b < 4 → a ≠ b → (TX3 a).2.1 ≠ (TX3 b).2.1 := by decide +kernel
theorem tyX3_ok : ∀ k, k < 4 → parseFieldDescriptor (TX3 k).2.2.1 = some (tyX3 k) := by decide +kernel
abbrev cX3_init : ByteArray := prog_5_method_1_code
def yX3_init : MethodName := ⟨RX3, "<init>", "(LSketchlock$Shapes;LSketchlock$Rules;LSketchlock$Tree;Z)V"⟩
abbrev cX3_redo : ByteArray := prog_5_method_2_code
def yX3_redo : MethodName := ⟨RX3, "redo", "(J)V"⟩
abbrev cX3_tryAct : ByteArray := prog_5_method_3_code
def yX3_tryAct : MethodName := ⟨RX3, "tryAct", "(I)Z"⟩
abbrev cX3_changedShapes : ByteArray := prog_5_method_4_code
def yX3_changedShapes : MethodName := ⟨RX3, "changedShapes", "()I"⟩
def RX4 : String := "Sketchlock$Rules"
def TX4 : u_T := fun k => match k with
  | 0 => ("Sketchlock$Rules", "made", "I", false)
  | 1 => ("Sketchlock$Rules", "kinds", "[I", true)
  | 2 => ("Sketchlock$Rules", "firsts", "[I", true)
  | _ => ("Sketchlock$Rules", "seconds", "[I", true)
def tyX4 : Nat → FieldType := fun k => match k with
  | 0 => .int
  | 1 => .array .int
  | 2 => .array .int
  | _ => .array .int
theorem nmX4 : ∀ a, a < 4 → ∀ b, b < 4 → a ≠ b → (TX4 a).2.1 ≠ (TX4 b).2.1 := by decide +kernel
theorem tyX4_ok : ∀ k, k < 4 → parseFieldDescriptor (TX4 k).2.2.1 = some (tyX4 k) := by decide +kernel
abbrev cX4_init : ByteArray := prog_6_method_1_code
def yX4_init : MethodName := ⟨RX4, "<init>", "()V"⟩
abbrev cX4_draft : ByteArray := prog_6_method_2_code
def yX4_draft : MethodName := ⟨RX4, "draft", "(III)V"⟩
def RX5 : String := "Sketchlock$Shapes"
def TX5 : u_T := fun k => match k with
  | 0 => ("Sketchlock$Shapes", "made", "I", false)
  | 1 => ("Sketchlock$Shapes", "turned", "I", false)
  | 2 => ("Sketchlock$Shapes", "letterCounts", "[I", true)
  | _ => ("Sketchlock$Shapes", "letters", "[I", true)
def tyX5 : Nat → FieldType := fun k => match k with
  | 0 => .int
  | 1 => .int
  | 2 => .array .int
  | _ => .array .int
theorem nmX5 : ∀ a, a < 4 → ∀ b, b < 4 → a ≠ b → (TX5 a).2.1 ≠ (TX5 b).2.1 := by decide +kernel
theorem tyX5_ok : ∀ k, k < 4 → parseFieldDescriptor (TX5 k).2.2.1 = some (tyX5 k) := by decide +kernel
abbrev cX5_init : ByteArray := prog_7_method_1_code
def yX5_init : MethodName := ⟨RX5, "<init>", "()V"⟩
abbrev cX5_draft : ByteArray := prog_7_method_2_code
def yX5_draft : MethodName := ⟨RX5, "draft", "([IIZ)V"⟩
abbrev cX5_lettersOf : ByteArray := prog_7_method_3_code
def yX5_lettersOf : MethodName := ⟨RX5, "lettersOf", "(I)I"⟩
abbrev cX5_shownLetter : ByteArray := prog_7_method_4_code
def yX5_shownLetter : MethodName := ⟨RX5, "shownLetter", "(II)I"⟩
def RX6 : String := "Sketchlock$Tree"
def TX6 : u_T := fun k => match k with
  | 0 => ("Sketchlock$Tree", "made", "I", false)
  | 1 => ("Sketchlock$Tree", "deeds", "[I", true)
  | 2 => ("Sketchlock$Tree", "subjects", "[I", true)
  | 3 => ("Sketchlock$Tree", "numbers", "[I", true)
  | 4 => ("Sketchlock$Tree", "drawers", "[I", true)
  | 5 => ("Sketchlock$Tree", "aboves", "[I", true)
  | _ => ("Sketchlock$Tree", "stands", "[I", true)
def tyX6 : Nat → FieldType := fun k => match k with
  | 0 => .int
  | 1 => .array .int
  | 2 => .array .int
  | 3 => .array .int
  | 4 => .array .int
  | 5 => .array .int
  | _ => .array .int
theorem nmX6 : ∀ a, a < 7 → ∀ b, b < 7 → a ≠ b → (TX6 a).2.1 ≠ (TX6 b).2.1 := by decide +kernel
theorem tyX6_ok : ∀ k, k < 7 → parseFieldDescriptor (TX6 k).2.2.1 = some (tyX6 k) := by decide +kernel
abbrev cX6_init : ByteArray := prog_8_method_1_code
def yX6_init : MethodName := ⟨RX6, "<init>", "()V"⟩
abbrev cX6_draft : ByteArray := prog_8_method_2_code
def yX6_draft : MethodName := ⟨RX6, "draft", "(IIIIII)V"⟩
abbrev cX6_hang : ByteArray := prog_8_method_3_code
def yX6_hang : MethodName := ⟨RX6, "hang", "(I)V"⟩
abbrev cX6_stand : ByteArray := prog_8_method_4_code
def yX6_stand : MethodName := ⟨RX6, "stand", "(II)V"⟩
abbrev cX6_standOf : ByteArray := prog_8_method_5_code
def yX6_standOf : MethodName := ⟨RX6, "standOf", "(I)I"⟩
abbrev cX6_aboveOf : ByteArray := prog_8_method_6_code
def yX6_aboveOf : MethodName := ⟨RX6, "aboveOf", "(I)I"⟩
abbrev cX6_deedOf : ByteArray := prog_8_method_7_code
def yX6_deedOf : MethodName := ⟨RX6, "deedOf", "(I)I"⟩
abbrev cX6_subjectOf : ByteArray := prog_8_method_8_code
def yX6_subjectOf : MethodName := ⟨RX6, "subjectOf", "(I)I"⟩
abbrev cX6_wantedBy : ByteArray := prog_8_method_9_code
def yX6_wantedBy : MethodName := ⟨RX6, "wantedBy", "(II)I"⟩
abbrev cX6_counting : ByteArray := prog_8_method_10_code
def yX6_counting : MethodName := ⟨RX6, "counting", "()J"⟩
abbrev cX6_isBranch : ByteArray := prog_8_method_11_code
def yX6_isBranch : MethodName := ⟨RX6, "isBranch", "(II)Z"⟩
abbrev cX6_branchOf : ByteArray := prog_8_method_12_code
def yX6_branchOf : MethodName := ⟨RX6, "branchOf", "(II)I"⟩
abbrev cX6_countBranches : ByteArray := prog_8_method_13_code
def yX6_countBranches : MethodName := ⟨RX6, "countBranches", "(I)I"⟩
abbrev cX6_countBelow : ByteArray := prog_8_method_14_code
def yX6_countBelow : MethodName := ⟨RX6, "countBelow", "(I)I"⟩
def RX7 : String := "Sketchlock"
def TX7 : u_T := fun k => match k with
  | 0 => ("Sketchlock", "spelled", "[I", true)
  | 1 => ("Sketchlock", "spelledLetters", "I", false)
  | 2 => ("Sketchlock", "shapes", "LSketchlock$Shapes;", true)
  | 3 => ("Sketchlock", "rules", "LSketchlock$Rules;", true)
  | 4 => ("Sketchlock", "tree", "LSketchlock$Tree;", true)
  | 5 => ("Sketchlock", "kept", "LSketchlock$Replay;", true)
  | 6 => ("Sketchlock", "anew", "LSketchlock$Replay;", true)
  | 7 => ("Sketchlock", "exports", "LSketchlock$Exports;", true)
  | _ => ("Sketchlock", "text", "LSketchlock$ExportText;", true)
def tyX7 : Nat → FieldType := fun k => match k with
  | 0 => .array .int
  | 1 => .int
  | 2 => .object "Sketchlock$Shapes"
  | 3 => .object "Sketchlock$Rules"
  | 4 => .object "Sketchlock$Tree"
  | 5 => .object "Sketchlock$Replay"
  | 6 => .object "Sketchlock$Replay"
  | 7 => .object "Sketchlock$Exports"
  | _ => .object "Sketchlock$ExportText"
theorem nmX7 : ∀ a, a < 9 → ∀ b, b < 9 → a ≠ b → (TX7 a).2.1 ≠ (TX7 b).2.1 := by decide +kernel
theorem tyX7_ok : ∀ k, k < 9 → parseFieldDescriptor (TX7 k).2.2.1 = some (tyX7 k) := by decide +kernel
abbrev cX7_init : ByteArray := prog_1_method_1_code
def yX7_init : MethodName := ⟨RX7, "<init>", "()V"⟩
abbrev cX7_spell : ByteArray := prog_1_method_2_code
def yX7_spell : MethodName := ⟨RX7, "spell", "(I)I"⟩
abbrev cX7_clearSpelled : ByteArray := prog_1_method_3_code
def yX7_clearSpelled : MethodName := ⟨RX7, "clearSpelled", "()I"⟩
abbrev cX7_addBox : ByteArray := prog_1_method_4_code
def yX7_addBox : MethodName := ⟨RX7, "addBox", "(IIIII)I"⟩
abbrev cX7_addLabel : ByteArray := prog_1_method_5_code
def yX7_addLabel : MethodName := ⟨RX7, "addLabel", "(IIIZ)I"⟩
abbrev cX7_move : ByteArray := prog_1_method_6_code
def yX7_move : MethodName := ⟨RX7, "move", "(IIII)I"⟩
abbrev cX7_resize : ByteArray := prog_1_method_7_code
def yX7_resize : MethodName := ⟨RX7, "resize", "(IIII)I"⟩
abbrev cX7_lay : ByteArray := prog_1_method_8_code
def yX7_lay : MethodName := ⟨RX7, "lay", "(IIII)I"⟩
abbrev cX7_drop : ByteArray := prog_1_method_9_code
def yX7_drop : MethodName := ⟨RX7, "drop", "(II)I"⟩
abbrev cX7_back : ByteArray := prog_1_method_10_code
def yX7_back : MethodName := ⟨RX7, "back", "(I)I"⟩
abbrev cX7_on : ByteArray := prog_1_method_11_code
def yX7_on : MethodName := ⟨RX7, "on", "(II)I"⟩
abbrev cX7_branches : ByteArray := prog_1_method_12_code
def yX7_branches : MethodName := ⟨RX7, "branches", "(I)I"⟩
abbrev cX7_below : ByteArray := prog_1_method_13_code
def yX7_below : MethodName := ⟨RX7, "below", "(I)I"⟩
abbrev cX7_standsAt : ByteArray := prog_1_method_14_code
def yX7_standsAt : MethodName := ⟨RX7, "standsAt", "(I)I"⟩
abbrev cX7_acts : ByteArray := prog_1_method_15_code
def yX7_acts : MethodName := ⟨RX7, "acts", "()I"⟩
abbrev cX7_counts : ByteArray := prog_1_method_16_code
def yX7_counts : MethodName := ⟨RX7, "counts", "(I)Z"⟩
abbrev cX7_isVoid : ByteArray := prog_1_method_17_code
def yX7_isVoid : MethodName := ⟨RX7, "isVoid", "(I)Z"⟩
abbrev cX7_isThere : ByteArray := prog_1_method_18_code
def yX7_isThere : MethodName := ⟨RX7, "isThere", "(I)Z"⟩
abbrev cX7_number : ByteArray := prog_1_method_19_code
def yX7_number : MethodName := ⟨RX7, "number", "(II)I"⟩
abbrev cX7_numberAnew : ByteArray := prog_1_method_20_code
def yX7_numberAnew : MethodName := ⟨RX7, "numberAnew", "(II)I"⟩
abbrev cX7_isInForce : ByteArray := prog_1_method_21_code
def yX7_isInForce : MethodName := ⟨RX7, "isInForce", "(I)Z"⟩
abbrev cX7_holds : ByteArray := prog_1_method_22_code
def yX7_holds : MethodName := ⟨RX7, "holds", "(I)Z"⟩
abbrev cX7_broken : ByteArray := prog_1_method_23_code
def yX7_broken : MethodName := ⟨RX7, "broken", "()I"⟩
abbrev cX7_part : ByteArray := prog_1_method_24_code
def yX7_part : MethodName := ⟨RX7, "part", "(IZ)I"⟩
abbrev cX7_ask : ByteArray := prog_1_method_25_code
def yX7_ask : MethodName := ⟨RX7, "ask", "()I"⟩
abbrev cX7_make : ByteArray := prog_1_method_26_code
def yX7_make : MethodName := ⟨RX7, "make", "()I"⟩
abbrev cX7_length : ByteArray := prog_1_method_27_code
def yX7_length : MethodName := ⟨RX7, "length", "(I)I"⟩
abbrev cX7_charAt : ByteArray := prog_1_method_28_code
def yX7_charAt : MethodName := ⟨RX7, "charAt", "(II)C"⟩
abbrev cX7_charAnew : ByteArray := prog_1_method_29_code
def yX7_charAnew : MethodName := ⟨RX7, "charAnew", "(II)C"⟩
abbrev cX7_requireDrawer : ByteArray := prog_1_method_30_code
def yX7_requireDrawer : MethodName := ⟨RX7, "requireDrawer", "(I)V"⟩
abbrev cX7_requireShape : ByteArray := prog_1_method_31_code
def yX7_requireShape : MethodName := ⟨RX7, "requireShape", "(I)V"⟩
abbrev cX7_requireRule : ByteArray := prog_1_method_32_code
def yX7_requireRule : MethodName := ⟨RX7, "requireRule", "(I)V"⟩
abbrev cX7_requireAct : ByteArray := prog_1_method_33_code
def yX7_requireAct : MethodName := ⟨RX7, "requireAct", "(I)V"⟩
abbrev cX7_requirePlace : ByteArray := prog_1_method_34_code
def yX7_requirePlace : MethodName := ⟨RX7, "requirePlace", "(II)V"⟩
abbrev cX7_requireSize : ByteArray := prog_1_method_35_code
def yX7_requireSize : MethodName := ⟨RX7, "requireSize", "(II)V"⟩
abbrev cX7_requireWhat : ByteArray := prog_1_method_36_code
def yX7_requireWhat : MethodName := ⟨RX7, "requireWhat", "(I)V"⟩
abbrev cX7_requireOn : ByteArray := prog_1_method_37_code
def yX7_requireOn : MethodName := ⟨RX7, "requireOn", "(LSketchlock$Board;I)V"⟩
abbrev cX7_requireMade : ByteArray := prog_1_method_38_code
def yX7_requireMade : MethodName := ⟨RX7, "requireMade", "(I)V"⟩
abbrev cX7_doDraft : ByteArray := prog_1_method_39_code
def yX7_doDraft : MethodName := ⟨RX7, "doDraft", "(I)V"⟩
abbrev cX7_has : ByteArray := prog_1_method_40_code
def yX7_has : MethodName := ⟨RX7, "has", "(JI)Z"⟩
abbrev cX7_isInRange : ByteArray := prog_1_method_41_code
def yX7_isInRange : MethodName := ⟨RX7, "isInRange", "(II)Z"⟩
abbrev cX7_isAbout : ByteArray := prog_1_method_42_code
def yX7_isAbout : MethodName := ⟨RX7, "isAbout", "(II)Z"⟩
abbrev cX7_read : ByteArray := prog_1_method_43_code
def yX7_read : MethodName := ⟨RX7, "read", "([II)I"⟩
abbrev cX7_put : ByteArray := prog_1_method_44_code
def yX7_put : MethodName := ⟨RX7, "put", "([III)V"⟩
def RX8 : String := "SketchlockModel"
def RJx145de : String := "java/io/Serializable"
def RJ6 : String := "java/lang/Integer"
abbrev cJ6_numberOfTrailingZeros_0f7a4 : ByteArray := prog_16_method_48_code
def yJ6_numberOfTrailingZeros_0f7a4 : MethodName := ⟨RJ6, "numberOfTrailingZeros", "(I)I"⟩
abbrev cJ6_bitCount_0f7a4 : ByteArray := prog_16_method_49_code
def yJ6_bitCount_0f7a4 : MethodName := ⟨RJ6, "bitCount", "(I)I"⟩
def RJ13 : String := "java/lang/Long"
abbrev cJ13_bitCount_95d88 : ByteArray := prog_17_method_50_code
def yJ13_bitCount_95d88 : MethodName := ⟨RJ13, "bitCount", "(J)I"⟩
def RJ9 : String := "java/lang/Math"
abbrev cJ9_abs_0f7a4 : ByteArray := prog_18_method_59_code
def yJ9_abs_0f7a4 : MethodName := ⟨RJ9, "abs", "(I)I"⟩
def RJ0 : String := "java/lang/String"
def RJ10 : String := "java/lang/System"
def RL : String := "SketchlockLaw"
abbrev cL_draw : ByteArray := method_2_code
def yL_draw : MethodName := ⟨RL, "draw", "([III)I"⟩
abbrev cL_part : ByteArray := method_3_code
def yL_part : MethodName := ⟨RL, "part", "(III)I"⟩
abbrev cL_asks : ByteArray := method_4_code
def yL_asks : MethodName := ⟨RL, "asks", "(LSketchlock;IIIIII)I"⟩
abbrev cL_notes : ByteArray := method_5_code
def yL_notes : MethodName := ⟨RL, "notes", "(LSketchlock;[I[I)V"⟩
abbrev cL_differs : ByteArray := method_6_code
def yL_differs : MethodName := ⟨RL, "differs", "(LSketchlock;[I[I)I"⟩
abbrev cL_isBoard : ByteArray := method_7_code
def yL_isBoard : MethodName := ⟨RL, "isBoard", "(LSketchlock;[I[I[I)Z"⟩
abbrev cL_isOn : ByteArray := method_8_code
def yL_isOn : MethodName := ⟨RL, "isOn", "([I[II)Z"⟩
abbrev cL_areTrees : ByteArray := method_9_code
def yL_areTrees : MethodName := ⟨RL, "areTrees", "(LSketchlock;[I[I[I)Z"⟩
abbrev cL_voids : ByteArray := method_10_code
def yL_voids : MethodName := ⟨RL, "voids", "(LSketchlock;[I)I"⟩
abbrev cL_reads : ByteArray := method_11_code
def yL_reads : MethodName := ⟨RL, "reads", "(LSketchlock;III)I"⟩
abbrev cL_isExport : ByteArray := method_12_code
def yL_isExport : MethodName := ⟨RL, "isExport", "(LSketchlock;I[I)Z"⟩
abbrev cL_makes : ByteArray := method_13_code
def yL_makes : MethodName := ⟨RL, "makes", "([I[I[III)V"⟩
abbrev cL_adds : ByteArray := method_14_code
def yL_adds : MethodName := ⟨RL, "adds", "(LSketchlock;III[I[I[II)Z"⟩
abbrev cL_acts : ByteArray := method_15_code
def yL_acts : MethodName := ⟨RL, "acts", "(LSketchlock;IIII[I[I[I[I[I)Z"⟩
abbrev cL_goes : ByteArray := method_16_code
def yL_goes : MethodName := ⟨RL, "goes", "(LSketchlock;III[I[I[I[I)Z"⟩
abbrev cL_board : ByteArray := method_17_code
def yL_board : MethodName := ⟨RL, "board", "([II)Z"⟩
abbrev cL_law : ByteArray := code
def yL_law : MethodName := ⟨RL, "law", "([I)Z"⟩
abbrev vwCl : List vw_C := [(RX0, TX0, 7), (RX1, TX1, 2), (RX2, TX2, 5), (RX3, TX3, 4), (RX4, TX4, 4), (RX5, TX5, 4), (RX6, TX6, 7), (RX7, TX7, 9)]
end
section
/-! tables of this system: its words, its heap by handles (by wip/p31/tab.py) -/
def TBc0 : List Cond := [.initialized RL,
  .initialized RX7,
  .initialized RX5,
  .initialized RX4,
  .initialized RX6,
  .initialized RX3,
  .initialized RX0,
  .initialized RX2,
  .initialized RX1,
  .initialized "java/lang/Throwable",
  .initialized "java/lang/Exception",
  .initialized "java/lang/RuntimeException",
  .initialized "java/lang/IndexOutOfBoundsException",
  .initialized "java/lang/IllegalArgumentException",
  .initialized "java/lang/IllegalStateException",
  .initialized RJ10,
  .initialized RJ6,
  .initialized RJ13,
  .initialized "java/util/NoSuchElementException",
  .initialized RJ9,
  .methodLink RL 172 yL_board,
  .static yL_board,
  .code yL_board cL_board 16 (some .boolean),
  .methodLink RL 135 yX7_init,
  .instanceMethod yX7_init,
  .code yX7_init cX7_init 1 none,
  .methodLink RX7 1 objectInit,
  .instanceMethod objectInit,
  .instanceMethod yX5_init,
  .code yX5_init cX5_init 1 none]
def TBc1 : List Cond := [.methodLink RX5 3 objectInit,
  .fieldLink RX5 9 "Sketchlock$Shapes" "made" "I",
  .fieldLink RX5 15 "Sketchlock$Shapes" "turned" "I",
  .fieldLink RX5 18 "Sketchlock$Shapes" "letterCounts" "[I",
  .fieldLink RX5 22 "Sketchlock$Shapes" "letters" "[I",
  .lays "Sketchlock$Shapes" "Sketchlock$Shapes" "made" "I",
  .lays "Sketchlock$Shapes" "Sketchlock$Shapes" "turned" "I",
  .laysFinal "Sketchlock$Shapes" "Sketchlock$Shapes" "letterCounts" "[I",
  .laysFinal "Sketchlock$Shapes" "Sketchlock$Shapes" "letters" "[I",
  .arrayClass .int,
  .instanceMethod yX4_init,
  .code yX4_init cX4_init 1 none,
  .methodLink RX4 3 objectInit,
  .fieldLink RX4 9 "Sketchlock$Rules" "made" "I",
  .fieldLink RX4 15 "Sketchlock$Rules" "kinds" "[I",
  .fieldLink RX4 19 "Sketchlock$Rules" "firsts" "[I",
  .fieldLink RX4 22 "Sketchlock$Rules" "seconds" "[I",
  .lays "Sketchlock$Rules" "Sketchlock$Rules" "made" "I",
  .laysFinal "Sketchlock$Rules" "Sketchlock$Rules" "kinds" "[I",
  .laysFinal "Sketchlock$Rules" "Sketchlock$Rules" "firsts" "[I",
  .laysFinal "Sketchlock$Rules" "Sketchlock$Rules" "seconds" "[I",
  .instanceMethod yX6_init,
  .code yX6_init cX6_init 2 none,
  .methodLink RX6 3 objectInit,
  .fieldLink RX6 9 "Sketchlock$Tree" "made" "I",
  .fieldLink RX6 15 "Sketchlock$Tree" "deeds" "[I",
  .fieldLink RX6 19 "Sketchlock$Tree" "subjects" "[I",
  .fieldLink RX6 22 "Sketchlock$Tree" "numbers" "[I",
  .fieldLink RX6 25 "Sketchlock$Tree" "drawers" "[I",
  .fieldLink RX6 28 "Sketchlock$Tree" "aboves" "[I"]
def TBc2 : List Cond := [.fieldLink RX6 31 "Sketchlock$Tree" "stands" "[I",
  .lays "Sketchlock$Tree" "Sketchlock$Tree" "made" "I",
  .laysFinal "Sketchlock$Tree" "Sketchlock$Tree" "deeds" "[I",
  .laysFinal "Sketchlock$Tree" "Sketchlock$Tree" "subjects" "[I",
  .laysFinal "Sketchlock$Tree" "Sketchlock$Tree" "numbers" "[I",
  .laysFinal "Sketchlock$Tree" "Sketchlock$Tree" "drawers" "[I",
  .laysFinal "Sketchlock$Tree" "Sketchlock$Tree" "aboves" "[I",
  .laysFinal "Sketchlock$Tree" "Sketchlock$Tree" "stands" "[I",
  .instanceMethod yX3_init,
  .code yX3_init cX3_init 5 none,
  .methodLink RX3 3 objectInit,
  .instanceMethod yX0_init,
  .code yX0_init cX0_init 4 none,
  .methodLink RX0 3 objectInit,
  .fieldLink RX0 25 "Sketchlock$Board" "shapes" "LSketchlock$Shapes;",
  .fieldLink RX0 29 "Sketchlock$Board" "rules" "LSketchlock$Rules;",
  .fieldLink RX0 33 "Sketchlock$Board" "isInRounds" "Z",
  .fieldLink RX0 9 "Sketchlock$Board" "numbers" "[I",
  .fieldLink RX0 15 "Sketchlock$Board" "tieGaps" "[I",
  .fieldLink RX0 18 "Sketchlock$Board" "there" "I",
  .fieldLink RX0 22 "Sketchlock$Board" "inForce" "I",
  .laysFinal "Sketchlock$Board" "Sketchlock$Board" "shapes" "LSketchlock$Shapes;",
  .laysFinal "Sketchlock$Board" "Sketchlock$Board" "rules" "LSketchlock$Rules;",
  .laysFinal "Sketchlock$Board" "Sketchlock$Board" "isInRounds" "Z",
  .laysFinal "Sketchlock$Board" "Sketchlock$Board" "numbers" "[I",
  .laysFinal "Sketchlock$Board" "Sketchlock$Board" "tieGaps" "[I",
  .lays "Sketchlock$Board" "Sketchlock$Board" "there" "I",
  .lays "Sketchlock$Board" "Sketchlock$Board" "inForce" "I",
  .fieldLink RX3 15 "Sketchlock$Replay" "tree" "LSketchlock$Tree;",
  .fieldLink RX3 24 "Sketchlock$Replay" "board" "LSketchlock$Board;"]
def TBc3 : List Cond := [.fieldLink RX3 28 "Sketchlock$Replay" "trial" "LSketchlock$Board;",
  .fieldLink RX3 9 "Sketchlock$Replay" "voids" "J",
  .laysFinal "Sketchlock$Replay" "Sketchlock$Replay" "tree" "LSketchlock$Tree;",
  .lays "Sketchlock$Replay" "Sketchlock$Replay" "board" "LSketchlock$Board;",
  .lays "Sketchlock$Replay" "Sketchlock$Replay" "trial" "LSketchlock$Board;",
  .lays "Sketchlock$Replay" "Sketchlock$Replay" "voids" "J",
  .instanceMethod yX2_init,
  .code yX2_init cX2_init 1 none,
  .methodLink RX2 3 objectInit,
  .fieldLink RX2 9 "Sketchlock$Exports" "asked" "I",
  .fieldLink RX2 15 "Sketchlock$Exports" "made" "I",
  .fieldLink RX2 18 "Sketchlock$Exports" "counted" "[J",
  .fieldLink RX2 22 "Sketchlock$Exports" "chars" "[I",
  .fieldLink RX2 26 "Sketchlock$Exports" "signs" "[C",
  .lays "Sketchlock$Exports" "Sketchlock$Exports" "asked" "I",
  .lays "Sketchlock$Exports" "Sketchlock$Exports" "made" "I",
  .laysFinal "Sketchlock$Exports" "Sketchlock$Exports" "counted" "[J",
  .laysFinal "Sketchlock$Exports" "Sketchlock$Exports" "chars" "[I",
  .laysFinal "Sketchlock$Exports" "Sketchlock$Exports" "signs" "[C",
  .arrayClass .long,
  .arrayClass .char,
  .instanceMethod yX1_init,
  .code yX1_init cX1_init 1 none,
  .methodLink RX1 3 objectInit,
  .fieldLink RX1 9 "Sketchlock$ExportText" "signs" "[C",
  .fieldLink RX1 15 "Sketchlock$ExportText" "chars" "I",
  .laysFinal "Sketchlock$ExportText" "Sketchlock$ExportText" "signs" "[C",
  .lays "Sketchlock$ExportText" "Sketchlock$ExportText" "chars" "I",
  .fieldLink RX7 9 "Sketchlock" "spelled" "[I",
  .fieldLink RX7 13 "Sketchlock" "spelledLetters" "I"]
def TBc4 : List Cond := [.fieldLink RX7 20 "Sketchlock" "shapes" "LSketchlock$Shapes;",
  .fieldLink RX7 27 "Sketchlock" "rules" "LSketchlock$Rules;",
  .fieldLink RX7 34 "Sketchlock" "tree" "LSketchlock$Tree;",
  .fieldLink RX7 43 "Sketchlock" "kept" "LSketchlock$Replay;",
  .fieldLink RX7 47 "Sketchlock" "anew" "LSketchlock$Replay;",
  .fieldLink RX7 53 "Sketchlock" "exports" "LSketchlock$Exports;",
  .fieldLink RX7 60 "Sketchlock" "text" "LSketchlock$ExportText;",
  .laysFinal "Sketchlock" "Sketchlock" "spelled" "[I",
  .lays "Sketchlock" "Sketchlock" "spelledLetters" "I",
  .laysFinal "Sketchlock" "Sketchlock" "shapes" "LSketchlock$Shapes;",
  .laysFinal "Sketchlock" "Sketchlock" "rules" "LSketchlock$Rules;",
  .laysFinal "Sketchlock" "Sketchlock" "tree" "LSketchlock$Tree;",
  .laysFinal "Sketchlock" "Sketchlock" "kept" "LSketchlock$Replay;",
  .laysFinal "Sketchlock" "Sketchlock" "anew" "LSketchlock$Replay;",
  .laysFinal "Sketchlock" "Sketchlock" "exports" "LSketchlock$Exports;",
  .laysFinal "Sketchlock" "Sketchlock" "text" "LSketchlock$ExportText;",
  .constant RL 136 (1073741824),
  .methodLink RL 137 yL_draw,
  .static yL_draw,
  .code yL_draw cL_draw 4 (some .int),
  .constant RL 7 (935978451),
  .constant RL 8 (732018677),
  .constant RL 9 (2147483647),
  .methodLink RL 68 yL_asks,
  .static yL_asks,
  .methodLink RL 10 yX7_addBox,
  .instanceMethod yX7_addBox,
  .selects RX7 yX7_addBox yX7_addBox,
  .code yX7_addBox cX7_addBox 7 (some .int),
  .methodLink RX7 84 yX7_requireDrawer]
def TBc5 : List Cond := [.instanceMethod yX7_requireDrawer,
  .code yX7_requireDrawer cX7_requireDrawer 2 none,
  .methodLink "java/lang/Throwable" 1 objectInit,
  .methodLink RX7 88 yX7_requirePlace,
  .instanceMethod yX7_requirePlace,
  .code yX7_requirePlace cX7_requirePlace 3 none,
  .methodLink RX7 277 yX7_isInRange,
  .static yX7_isInRange,
  .code yX7_isInRange cX7_isInRange 2 (some .boolean),
  .methodLink RX7 92 yX7_requireSize,
  .instanceMethod yX7_requireSize,
  .code yX7_requireSize cX7_requireSize 3 none,
  .instanceMethod yX6_draft,
  .code yX6_draft cX6_draft 7 none,
  .static yX7_put,
  .code yX7_put cX7_put 3 none,
  .instanceMethod yX5_draft,
  .code yX5_draft cX5_draft 5 none,
  .static yX7_read,
  .code yX7_read cX7_read 2 (some .int),
  .methodLink RX7 107 yX7_doDraft,
  .instanceMethod yX7_doDraft,
  .code yX7_doDraft cX7_doDraft 2 none,
  .instanceMethod yX3_tryAct,
  .code yX3_tryAct cX3_tryAct 9 (some .boolean),
  .instanceMethod yX6_subjectOf,
  .code yX6_subjectOf cX6_subjectOf 2 (some .int),
  .instanceMethod yX6_wantedBy,
  .code yX6_wantedBy cX6_wantedBy 3 (some .int),
  .instanceMethod yX0_copyFrom]
def TBc6 : List Cond := [.code yX0_copyFrom cX0_copyFrom 2 none,
  .methodLink RX0 37 arraycopyName,
  .static arraycopyName,
  .native arraycopyName,
  .instanceMethod yX6_deedOf,
  .code yX6_deedOf cX6_deedOf 2 (some .int),
  .instanceMethod yX0_addShape,
  .code yX0_addShape cX0_addShape 6 (some .boolean),
  .methodLink RX0 55 yX0_set,
  .instanceMethod yX0_set,
  .code yX0_set cX0_set 4 none,
  .instanceMethod yX0_moveTo,
  .code yX0_moveTo cX0_moveTo 4 (some .boolean),
  .static yX7_has,
  .code yX7_has cX7_has 3 (some .boolean),
  .methodLink RX0 63 yX0_groupOf,
  .instanceMethod yX0_groupOf,
  .code yX0_groupOf cX0_groupOf 8 (some .int),
  .methodLink RX0 92 yX0_isLink,
  .instanceMethod yX0_isLink,
  .code yX0_isLink cX0_isLink 3 (some .boolean),
  .static yX7_isAbout,
  .code yX7_isAbout cX7_isAbout 2 (some .boolean),
  .methodLink RX0 51 yX0_numberOf,
  .instanceMethod yX0_numberOf,
  .code yX0_numberOf cX0_numberOf 3 (some .int),
  .methodLink RX0 66 yX0_shiftGroup,
  .instanceMethod yX0_shiftGroup,
  .code yX0_shiftGroup cX0_shiftGroup 7 (some .boolean),
  .instanceMethod yX5_lettersOf]
def TBc7 : List Cond := [.code yX5_lettersOf cX5_lettersOf 2 (some .int),
  .instanceMethod yX0_resizeTo,
  .code yX0_resizeTo cX0_resizeTo 4 (some .boolean),
  .methodLink RX0 70 yX0_growClass,
  .instanceMethod yX0_growClass,
  .code yX0_growClass cX0_growClass 10 (some .boolean),
  .methodLink RX0 104 yX0_tellInRounds,
  .instanceMethod yX0_tellInRounds,
  .code yX0_tellInRounds cX0_tellInRounds 10 (some .boolean),
  .methodLink RX0 89 yX0_gapOf,
  .instanceMethod yX0_gapOf,
  .code yX0_gapOf cX0_gapOf 3 (some .int),
  .methodLink RX0 107 yX0_tellByWalk,
  .instanceMethod yX0_tellByWalk,
  .code yX0_tellByWalk cX0_tellByWalk 13 (some .boolean),
  .methodLink RX0 114 yJ6_numberOfTrailingZeros_0f7a4,
  .static yJ6_numberOfTrailingZeros_0f7a4,
  .code yJ6_numberOfTrailingZeros_0f7a4 cJ6_numberOfTrailingZeros_0f7a4 2 (some .int),
  .constant RJ6 264 (65536),
  .methodLink RX0 110 yX0_areInRange,
  .instanceMethod yX0_areInRange,
  .code yX0_areInRange cX0_areInRange 3 (some .boolean),
  .instanceMethod yX0_layRule,
  .code yX0_layRule cX0_layRule 10 (some .boolean),
  .instanceMethod yX0_dropRule,
  .code yX0_dropRule cX0_dropRule 3 (some .boolean),
  .instanceMethod yX6_hang,
  .code yX6_hang cX6_hang 2 none,
  .methodLink RX6 38 yX6_standOf,
  .instanceMethod yX6_standOf]
def TBc8 : List Cond := [.code yX6_standOf cX6_standOf 2 (some .int),
  .methodLink RL 16 yX7_addLabel,
  .instanceMethod yX7_addLabel,
  .selects RX7 yX7_addLabel yX7_addLabel,
  .code yX7_addLabel cX7_addLabel 6 (some .int),
  .methodLink RL 20 yX7_move,
  .instanceMethod yX7_move,
  .selects RX7 yX7_move yX7_move,
  .code yX7_move cX7_move 5 (some .int),
  .methodLink RX7 112 yX7_requireShape,
  .instanceMethod yX7_requireShape,
  .code yX7_requireShape cX7_requireShape 2 none,
  .instanceMethod yX3_changedShapes,
  .code yX3_changedShapes cX3_changedShapes 3 (some .int),
  .instanceMethod yX0_differsAt,
  .code yX0_differsAt cX0_differsAt 4 (some .boolean),
  .methodLink RL 24 yX7_resize,
  .instanceMethod yX7_resize,
  .selects RX7 yX7_resize yX7_resize,
  .code yX7_resize cX7_resize 5 (some .int),
  .methodLink RL 27 yX7_lay,
  .instanceMethod yX7_lay,
  .selects RX7 yX7_lay yX7_lay,
  .code yX7_lay cX7_lay 6 (some .int),
  .instanceMethod yX4_draft,
  .code yX4_draft cX4_draft 4 none,
  .methodLink RL 30 yX7_drop,
  .instanceMethod yX7_drop,
  .selects RX7 yX7_drop yX7_drop,
  .code yX7_drop cX7_drop 3 (some .int)]
def TBc9 : List Cond := [.methodLink RX7 130 yX7_requireRule,
  .instanceMethod yX7_requireRule,
  .code yX7_requireRule cX7_requireRule 2 none,
  .methodLink RX7 142 yJ6_bitCount_0f7a4,
  .static yJ6_bitCount_0f7a4,
  .code yJ6_bitCount_0f7a4 cJ6_bitCount_0f7a4 1 (some .int),
  .constant RJ6 265 (1431655765),
  .constant RJ6 266 (858993459),
  .constant RJ6 267 (252645135),
  .methodLink RL 34 yX7_back,
  .instanceMethod yX7_back,
  .selects RX7 yX7_back yX7_back,
  .code yX7_back cX7_back 3 (some .int),
  .instanceMethod yX6_aboveOf,
  .code yX6_aboveOf cX6_aboveOf 2 (some .int),
  .instanceMethod yX6_stand,
  .code yX6_stand cX6_stand 3 none,
  .instanceMethod yX6_counting,
  .code yX6_counting cX6_counting 6 (some .long),
  .methodLink RX6 46 yX6_aboveOf,
  .instanceMethod yX3_redo,
  .code yX3_redo cX3_redo 4 none,
  .instanceMethod yX0_clear,
  .code yX0_clear cX0_clear 1 none,
  .methodLink RX3 38 yX3_tryAct,
  .methodLink RX7 171 yJ13_bitCount_95d88,
  .static yJ13_bitCount_95d88,
  .code yJ13_bitCount_95d88 cJ13_bitCount_95d88 2 (some .int),
  .constantLong RJ13 314 (6148914691236517205),
  .constantLong RJ13 316 (3689348814741910323)]
def TBc10 : List Cond := [.constantLong RJ13 318 (1085102592571150095),
  .methodLink RL 38 yX7_on,
  .instanceMethod yX7_on,
  .selects RX7 yX7_on yX7_on,
  .code yX7_on cX7_on 4 (some .int),
  .instanceMethod yX6_branchOf,
  .code yX6_branchOf cX6_branchOf 5 (some .int),
  .methodLink RX6 49 yX6_isBranch,
  .instanceMethod yX6_isBranch,
  .code yX6_isBranch cX6_isBranch 3 (some .boolean),
  .methodLink RL 41 yX7_spell,
  .instanceMethod yX7_spell,
  .selects RX7 yX7_spell yX7_spell,
  .code yX7_spell cX7_spell 4 (some .int),
  .methodLink RX7 76 yX7_put,
  .methodLink RX7 80 yX7_read,
  .methodLink RL 44 yX7_number,
  .instanceMethod yX7_number,
  .selects RX7 yX7_number yX7_number,
  .code yX7_number cX7_number 3 (some .int),
  .methodLink RX7 199 yX7_requireWhat,
  .instanceMethod yX7_requireWhat,
  .code yX7_requireWhat cX7_requireWhat 2 none,
  .methodLink RX7 202 yX7_requireOn,
  .instanceMethod yX7_requireOn,
  .code yX7_requireOn cX7_requireOn 3 none,
  .methodLink RX7 192 yX7_has,
  .methodLink RL 47 yX7_holds,
  .instanceMethod yX7_holds,
  .selects RX7 yX7_holds yX7_holds]
def TBc11 : List Cond := [.code yX7_holds cX7_holds 2 (some .boolean),
  .instanceMethod yX0_fits,
  .code yX0_fits cX0_fits 5 (some .boolean),
  .methodLink RL 51 yX7_part,
  .instanceMethod yX7_part,
  .selects RX7 yX7_part yX7_part,
  .code yX7_part cX7_part 3 (some .int),
  .methodLink RL 55 yX7_charAt,
  .instanceMethod yX7_charAt,
  .selects RX7 yX7_charAt yX7_charAt,
  .code yX7_charAt cX7_charAt 3 (some .char),
  .methodLink RX7 247 yX7_requireMade,
  .instanceMethod yX7_requireMade,
  .code yX7_requireMade cX7_requireMade 2 none,
  .instanceMethod yX2_charsOf,
  .code yX2_charsOf cX2_charsOf 2 (some .int),
  .instanceMethod yX2_signOf,
  .code yX2_signOf cX2_signOf 4 (some .char),
  .methodLink RL 141 yX7_clearSpelled,
  .instanceMethod yX7_clearSpelled,
  .selects RX7 yX7_clearSpelled yX7_clearSpelled,
  .code yX7_clearSpelled cX7_clearSpelled 2 (some .int),
  .methodLink RL 144 yL_adds,
  .static yL_adds,
  .code yL_adds cL_adds 14 (some .boolean),
  .methodLink RL 119 yL_makes,
  .static yL_makes,
  .code yL_makes cL_makes 5 none,
  .methodLink RL 65 yX7_isThere,
  .instanceMethod yX7_isThere]
def TBc12 : List Cond := [.selects RX7 yX7_isThere yX7_isThere,
  .code yX7_isThere cX7_isThere 2 (some .boolean),
  .methodLink RL 148 yL_acts,
  .static yL_acts,
  .code yL_acts cL_acts 17 (some .boolean),
  .methodLink RL 123 yL_notes,
  .static yL_notes,
  .code yL_notes cL_notes 4 none,
  .methodLink RL 127 yL_differs,
  .static yL_differs,
  .code yL_differs cL_differs 7 (some .int),
  .methodLink RL 80 yX7_isInForce,
  .instanceMethod yX7_isInForce,
  .selects RX7 yX7_isInForce yX7_isInForce,
  .code yX7_isInForce cX7_isInForce 2 (some .boolean),
  .methodLink RL 93 yX7_acts,
  .instanceMethod yX7_acts,
  .selects RX7 yX7_acts yX7_acts,
  .code yX7_acts cX7_acts 1 (some .int),
  .methodLink RL 83 yX7_isVoid,
  .instanceMethod yX7_isVoid,
  .selects RX7 yX7_isVoid yX7_isVoid,
  .code yX7_isVoid cX7_isVoid 2 (some .boolean),
  .methodLink RX7 189 yX7_requireAct,
  .instanceMethod yX7_requireAct,
  .code yX7_requireAct cX7_requireAct 2 none,
  .methodLink RL 151 yL_goes,
  .static yL_goes,
  .code yL_goes cL_goes 14 (some .boolean),
  .methodLink RL 77 yL_part]
def TBc13 : List Cond := [.static yL_part,
  .code yL_part cL_part 3 (some .int),
  .methodLink RL 131 yL_voids,
  .static yL_voids,
  .code yL_voids cL_voids 4 (some .int),
  .methodLink RL 103 yX7_branches,
  .instanceMethod yX7_branches,
  .selects RX7 yX7_branches yX7_branches,
  .code yX7_branches cX7_branches 2 (some .int),
  .instanceMethod yX6_countBranches,
  .code yX6_countBranches cX6_countBranches 4 (some .int),
  .methodLink RL 155 yX7_ask,
  .instanceMethod yX7_ask,
  .selects RX7 yX7_ask yX7_ask,
  .code yX7_ask cX7_ask 2 (some .int),
  .instanceMethod yX1_show,
  .code yX1_show cX1_show 4 none,
  .methodLink RX1 28 yX1_showShape,
  .instanceMethod yX1_showShape,
  .code yX1_showShape cX1_showShape 6 none,
  .methodLink RX1 35 yX1_write,
  .instanceMethod yX1_write,
  .code yX1_write cX1_write 2 none,
  .methodLink RX1 39 yX1_writeNumber,
  .instanceMethod yX1_writeNumber,
  .code yX1_writeNumber cX1_writeNumber 3 none,
  .methodLink RX1 61 yJ9_abs_0f7a4,
  .static yJ9_abs_0f7a4,
  .code yJ9_abs_0f7a4 cJ9_abs_0f7a4 1 (some .int),
  .instanceMethod yX5_shownLetter]
def TBc14 : List Cond := [.code yX5_shownLetter cX5_shownLetter 4 (some .int),
  .methodLink RX5 37 yX5_lettersOf,
  .methodLink RX1 56 yX1_writeLetter,
  .instanceMethod yX1_writeLetter,
  .code yX1_writeLetter cX1_writeLetter 2 none,
  .constant RX1 59 (55357),
  .constant RX1 60 (56528),
  .instanceMethod yX2_keep,
  .code yX2_keep cX2_keep 5 none,
  .instanceMethod yX1_signOf,
  .code yX1_signOf cX1_signOf 2 (some .char),
  .methodLink RL 158 yX7_make,
  .instanceMethod yX7_make,
  .selects RX7 yX7_make yX7_make,
  .code yX7_make cX7_make 1 (some .int),
  .methodLink RL 161 yL_isExport,
  .static yL_isExport,
  .code yL_isExport cL_isExport 8 (some .boolean),
  .methodLink RL 109 yX7_length,
  .instanceMethod yX7_length,
  .selects RX7 yX7_length yX7_length,
  .code yX7_length cX7_length 2 (some .int),
  .methodLink RL 112 yL_reads,
  .static yL_reads,
  .code yL_reads cL_reads 7 (some .int),
  .methodLink RL 116 yX7_charAnew,
  .instanceMethod yX7_charAnew,
  .selects RX7 yX7_charAnew yX7_charAnew,
  .code yX7_charAnew cX7_charAnew 3 (some .char),
  .instanceMethod yX2_actsOf]
def TBc15 : List Cond := [.code yX2_actsOf cX2_actsOf 2 (some .long),
  .methodLink RL 165 yL_areTrees,
  .static yL_areTrees,
  .code yL_areTrees cL_areTrees 11 (some .boolean),
  .methodLink RL 96 yL_isOn,
  .static yL_isOn,
  .code yL_isOn cL_isOn 4 (some .boolean),
  .methodLink RL 86 yX7_counts,
  .instanceMethod yX7_counts,
  .selects RX7 yX7_counts yX7_counts,
  .code yX7_counts cX7_counts 2 (some .boolean),
  .methodLink RL 100 yX7_standsAt,
  .instanceMethod yX7_standsAt,
  .selects RX7 yX7_standsAt yX7_standsAt,
  .code yX7_standsAt cX7_standsAt 2 (some .int),
  .methodLink RL 106 yX7_below,
  .instanceMethod yX7_below,
  .selects RX7 yX7_below yX7_below,
  .code yX7_below cX7_below 2 (some .int),
  .instanceMethod yX6_countBelow,
  .code yX6_countBelow cX6_countBelow 5 (some .int),
  .methodLink RX6 57 yJ13_bitCount_95d88,
  .methodLink RL 169 yL_isBoard,
  .static yL_isBoard,
  .code yL_isBoard cL_isBoard 16 (some .boolean),
  .methodLink RL 74 yX7_numberAnew,
  .instanceMethod yX7_numberAnew,
  .selects RX7 yX7_numberAnew yX7_numberAnew,
  .code yX7_numberAnew cX7_numberAnew 3 (some .int),
  .methodLink RL 89 yX7_broken]
def TBc16 : List Cond := [.instanceMethod yX7_broken,
  .selects RX7 yX7_broken yX7_broken,
  .code yX7_broken cX7_broken 3 (some .int),
  .selects RX7 yX7_requireDrawer yX7_requireDrawer,
  .selects RX7 yX7_requirePlace yX7_requirePlace,
  .selects RX7 yX7_requireSize yX7_requireSize,
  .selects RX6 yX6_draft yX6_draft,
  .selects RX5 yX5_draft yX5_draft,
  .selects RX7 yX7_doDraft yX7_doDraft,
  .selects RX3 yX3_tryAct yX3_tryAct,
  .selects RX6 yX6_subjectOf yX6_subjectOf,
  .selects RX6 yX6_wantedBy yX6_wantedBy,
  .selects RX0 yX0_copyFrom yX0_copyFrom,
  .selects RX6 yX6_deedOf yX6_deedOf,
  .selects RX0 yX0_addShape yX0_addShape,
  .selects RX0 yX0_set yX0_set,
  .selects RX0 yX0_moveTo yX0_moveTo,
  .selects RX0 yX0_groupOf yX0_groupOf,
  .selects RX0 yX0_isLink yX0_isLink,
  .selects RX0 yX0_numberOf yX0_numberOf,
  .selects RX0 yX0_shiftGroup yX0_shiftGroup,
  .selects RX5 yX5_lettersOf yX5_lettersOf,
  .selects RX0 yX0_resizeTo yX0_resizeTo,
  .selects RX0 yX0_growClass yX0_growClass,
  .selects RX0 yX0_tellInRounds yX0_tellInRounds,
  .selects RX0 yX0_gapOf yX0_gapOf,
  .selects RX0 yX0_tellByWalk yX0_tellByWalk,
  .selects RX0 yX0_areInRange yX0_areInRange,
  .selects RX0 yX0_layRule yX0_layRule,
  .selects RX0 yX0_dropRule yX0_dropRule]
def TBc17 : List Cond := [.selects RX6 yX6_hang yX6_hang,
  .selects RX6 yX6_standOf yX6_standOf,
  .selects RX7 yX7_requireShape yX7_requireShape,
  .selects RX3 yX3_changedShapes yX3_changedShapes,
  .selects RX0 yX0_differsAt yX0_differsAt,
  .selects RX4 yX4_draft yX4_draft,
  .selects RX7 yX7_requireRule yX7_requireRule,
  .selects RX6 yX6_aboveOf yX6_aboveOf,
  .selects RX6 yX6_stand yX6_stand,
  .selects RX6 yX6_counting yX6_counting,
  .selects RX3 yX3_redo yX3_redo,
  .selects RX0 yX0_clear yX0_clear,
  .selects RX6 yX6_branchOf yX6_branchOf,
  .selects RX6 yX6_isBranch yX6_isBranch,
  .selects RX7 yX7_requireWhat yX7_requireWhat,
  .selects RX7 yX7_requireOn yX7_requireOn,
  .selects RX0 yX0_fits yX0_fits,
  .selects RX7 yX7_requireMade yX7_requireMade,
  .selects RX2 yX2_charsOf yX2_charsOf,
  .selects RX2 yX2_signOf yX2_signOf,
  .selects RX7 yX7_requireAct yX7_requireAct,
  .selects RX6 yX6_countBranches yX6_countBranches,
  .selects RX1 yX1_show yX1_show,
  .selects RX1 yX1_showShape yX1_showShape,
  .selects RX1 yX1_write yX1_write,
  .selects RX1 yX1_writeNumber yX1_writeNumber,
  .selects RX5 yX5_shownLetter yX5_shownLetter,
  .selects RX1 yX1_writeLetter yX1_writeLetter,
  .selects RX2 yX2_keep yX2_keep,
  .selects RX1 yX1_signOf yX1_signOf]
def TBc18 : List Cond := [.selects RX2 yX2_actsOf yX2_actsOf,
  .selects RX6 yX6_countBelow yX6_countBelow]
def TBc19 : List Cond := [(Jvm.Cond.initialized "java/lang/Throwable"),
  (Jvm.Cond.initialized "java/lang/Exception"),
  (Jvm.Cond.initialized "java/lang/RuntimeException"),
  (Jvm.Cond.initialized "java/lang/IndexOutOfBoundsException"),
  (Jvm.Cond.initialized "java/lang/IllegalArgumentException"),
  (Jvm.Cond.initialized "java/lang/IllegalStateException"),
  (Jvm.Cond.initialized "java/lang/System"),
  (Jvm.Cond.initialized "java/lang/Integer"),
  (Jvm.Cond.initialized "java/lang/Long"),
  (Jvm.Cond.initialized "java/util/NoSuchElementException"),
  (Jvm.Cond.initialized "java/lang/Math"),
  (Jvm.Cond.classLink "SketchlockLaw" (11 : Nat) "Sketchlock"),
  (Jvm.Cond.instantiable "Sketchlock" (9 : Nat)),
  (Jvm.Cond.methodLink "Sketchlock" (1 : Nat) ({ cls := "java/lang/Object", name := "<init>", desc := "()V" } : Jvm.MethodName)),
  (Jvm.Cond.instanceMethod ({ cls := "java/lang/Object", name := "<init>", desc := "()V" } : Jvm.MethodName)),
  (Jvm.Cond.code ({ cls := "java/lang/Object", name := "<init>", desc := "()V" } : Jvm.MethodName) object_method_1_code (1 : Nat) (Option.none : Option Jvm.ClassFile.FieldType)),
  (Jvm.Cond.classLink "Sketchlock" (17 : Nat) "Sketchlock$Shapes"),
  (Jvm.Cond.instantiable "Sketchlock$Shapes" (4 : Nat)),
  (Jvm.Cond.methodLink "Sketchlock$Shapes" (3 : Nat) ({ cls := "java/lang/Object", name := "<init>", desc := "()V" } : Jvm.MethodName)),
  (Jvm.Cond.superclass "Sketchlock$Shapes" "java/lang/Object"),
  (Jvm.Cond.classLink "Sketchlock" (24 : Nat) "Sketchlock$Rules"),
  (Jvm.Cond.instantiable "Sketchlock$Rules" (4 : Nat)),
  (Jvm.Cond.methodLink "Sketchlock$Rules" (3 : Nat) ({ cls := "java/lang/Object", name := "<init>", desc := "()V" } : Jvm.MethodName)),
  (Jvm.Cond.superclass "Sketchlock$Rules" "java/lang/Object"),
  (Jvm.Cond.classLink "Sketchlock" (31 : Nat) "Sketchlock$Tree"),
  (Jvm.Cond.instantiable "Sketchlock$Tree" (7 : Nat)),
  (Jvm.Cond.methodLink "Sketchlock$Tree" (3 : Nat) ({ cls := "java/lang/Object", name := "<init>", desc := "()V" } : Jvm.MethodName)),
  (Jvm.Cond.superclass "Sketchlock$Tree" "java/lang/Object"),
  (Jvm.Cond.classLink "Sketchlock" (38 : Nat) "Sketchlock$Replay"),
  (Jvm.Cond.instantiable "Sketchlock$Replay" (4 : Nat)),
  (Jvm.Cond.methodLink "Sketchlock$Replay" (3 : Nat) ({ cls := "java/lang/Object", name := "<init>", desc := "()V" } : Jvm.MethodName)),
  (Jvm.Cond.classLink "Sketchlock$Replay" (19 : Nat) "Sketchlock$Board"),
  (Jvm.Cond.instantiable "Sketchlock$Board" (7 : Nat)),
  (Jvm.Cond.methodLink "Sketchlock$Board" (3 : Nat) ({ cls := "java/lang/Object", name := "<init>", desc := "()V" } : Jvm.MethodName)),
  (Jvm.Cond.superclass "Sketchlock$Board" "java/lang/Object"),
  (Jvm.Cond.superclass "Sketchlock$Replay" "java/lang/Object"),
  (Jvm.Cond.classLink "Sketchlock" (50 : Nat) "Sketchlock$Exports"),
  (Jvm.Cond.instantiable "Sketchlock$Exports" (5 : Nat)),
  (Jvm.Cond.methodLink "Sketchlock$Exports" (3 : Nat) ({ cls := "java/lang/Object", name := "<init>", desc := "()V" } : Jvm.MethodName)),
  (Jvm.Cond.superclass "Sketchlock$Exports" "java/lang/Object"),
  (Jvm.Cond.classLink "Sketchlock" (57 : Nat) "Sketchlock$ExportText"),
  (Jvm.Cond.instantiable "Sketchlock$ExportText" (2 : Nat)),
  (Jvm.Cond.methodLink "Sketchlock$ExportText" (3 : Nat) ({ cls := "java/lang/Object", name := "<init>", desc := "()V" } : Jvm.MethodName)),
  (Jvm.Cond.superclass "Sketchlock$ExportText" "java/lang/Object"),
  (Jvm.Cond.superclass "Sketchlock" "java/lang/Object"),
  (Jvm.Cond.codeWith ({ cls := "SketchlockLaw", name := "asks", desc := "(LSketchlock;IIIIII)I" } : Jvm.MethodName) method_4_code (8 : Nat) (Option.some Jvm.ClassFile.FieldType.int) [((0 : Nat), (222 : Nat), (223 : Nat), (59 : Nat)), ((0 : Nat), (222 : Nat), (229 : Nat), (61 : Nat)), ((0 : Nat), (222 : Nat), (235 : Nat), (63 : Nat))]),
  (Jvm.Cond.classLink "SketchlockLaw" (59 : Nat) "java/lang/IndexOutOfBoundsException"),
  (Jvm.Cond.classLink "SketchlockLaw" (61 : Nat) "java/lang/IllegalStateException"),
  (Jvm.Cond.classLink "SketchlockLaw" (63 : Nat) "java/util/NoSuchElementException"),
  (Jvm.Cond.classLink "Sketchlock" (64 : Nat) "java/lang/IndexOutOfBoundsException"),
  (Jvm.Cond.instantiable "java/lang/IndexOutOfBoundsException" (6 : Nat)),
  (Jvm.Cond.selects "java/lang/IndexOutOfBoundsException" ({ cls := "java/lang/Throwable", name := "fillInStackTrace", desc := "(I)Ljava/lang/Throwable;" } : Jvm.MethodName) ({ cls := "java/lang/Throwable", name := "fillInStackTrace", desc := "(I)Ljava/lang/Throwable;" } : Jvm.MethodName)),
  (Jvm.Cond.selects "java/lang/IndexOutOfBoundsException" ({ cls := "java/lang/Throwable", name := "fillInStackTrace", desc := "()Ljava/lang/Throwable;" } : Jvm.MethodName) ({ cls := "java/lang/Throwable", name := "fillInStackTrace", desc := "()Ljava/lang/Throwable;" } : Jvm.MethodName)),
  (Jvm.Cond.lays "java/lang/IndexOutOfBoundsException" "java/lang/Throwable" "cause" "Ljava/lang/Throwable;"),
  (Jvm.Cond.lays "java/lang/Throwable" "java/lang/Throwable" "cause" "Ljava/lang/Throwable;"),
  (Jvm.Cond.lays "java/lang/IndexOutOfBoundsException" "java/lang/Throwable" "stackTrace" "[Ljava/lang/StackTraceElement;"),
  (Jvm.Cond.lays "java/lang/Throwable" "java/lang/Throwable" "stackTrace" "[Ljava/lang/StackTraceElement;"),
  (Jvm.Cond.lays "java/lang/IndexOutOfBoundsException" "java/lang/Throwable" "suppressedExceptions" "Ljava/util/List;"),
  (Jvm.Cond.lays "java/lang/Throwable" "java/lang/Throwable" "suppressedExceptions" "Ljava/util/List;"),
  (Jvm.Cond.lays "java/lang/IndexOutOfBoundsException" "java/lang/Throwable" "detailMessage" "Ljava/lang/String;"),
  (Jvm.Cond.lays "java/lang/Throwable" "java/lang/Throwable" "detailMessage" "Ljava/lang/String;"),
  (Jvm.Cond.lays "java/lang/IndexOutOfBoundsException" "java/lang/Throwable" "backtrace" "Ljava/lang/Object;"),
  (Jvm.Cond.lays "java/lang/Throwable" "java/lang/Throwable" "backtrace" "Ljava/lang/Object;"),
  (Jvm.Cond.fieldLink "java/lang/Throwable" (198 : Nat) "java/lang/Throwable" "backtrace" "Ljava/lang/Object;"),
  (Jvm.Cond.superclass "java/lang/Throwable" "java/lang/Object"),
  (Jvm.Cond.instanceMethod ({ cls := "java/lang/Throwable", name := "<init>", desc := "()V" } : Jvm.MethodName)),
  (Jvm.Cond.code ({ cls := "java/lang/Throwable", name := "<init>", desc := "()V" } : Jvm.MethodName) prog_22_method_1_code (1 : Nat) (Option.none : Option Jvm.ClassFile.FieldType)),
  (Jvm.Cond.methodLink "java/lang/Throwable" (1 : Nat) ({ cls := "java/lang/Object", name := "<init>", desc := "()V" } : Jvm.MethodName)),
  (Jvm.Cond.fieldLink "java/lang/Throwable" (13 : Nat) "java/lang/Throwable" "UNASSIGNED_STACK" "[Ljava/lang/StackTraceElement;"),
  (Jvm.Cond.fieldLink "java/lang/Throwable" (20 : Nat) "java/lang/Throwable" "SUPPRESSED_SENTINEL" "Ljava/util/List;"),
  (Jvm.Cond.methodLink "java/lang/Throwable" (27 : Nat) ({ cls := "java/lang/Throwable", name := "fillInStackTrace", desc := "()Ljava/lang/Throwable;" } : Jvm.MethodName)),
  (Jvm.Cond.instanceMethod ({ cls := "java/lang/Throwable", name := "fillInStackTrace", desc := "()Ljava/lang/Throwable;" } : Jvm.MethodName)),
  (Jvm.Cond.sameMethod "java/lang/Throwable" "java/lang/Throwable" "fillInStackTrace" "()Ljava/lang/Throwable;"),
  (Jvm.Cond.selects "java/lang/IllegalArgumentException" ({ cls := "java/lang/Throwable", name := "fillInStackTrace", desc := "()Ljava/lang/Throwable;" } : Jvm.MethodName) ({ cls := "java/lang/Throwable", name := "fillInStackTrace", desc := "()Ljava/lang/Throwable;" } : Jvm.MethodName)),
  (Jvm.Cond.selects "java/lang/IllegalStateException" ({ cls := "java/lang/Throwable", name := "fillInStackTrace", desc := "()Ljava/lang/Throwable;" } : Jvm.MethodName) ({ cls := "java/lang/Throwable", name := "fillInStackTrace", desc := "()Ljava/lang/Throwable;" } : Jvm.MethodName)),
  (Jvm.Cond.selects "java/util/NoSuchElementException" ({ cls := "java/lang/Throwable", name := "fillInStackTrace", desc := "()Ljava/lang/Throwable;" } : Jvm.MethodName) ({ cls := "java/lang/Throwable", name := "fillInStackTrace", desc := "()Ljava/lang/Throwable;" } : Jvm.MethodName)),
  (Jvm.Cond.codeSync ({ cls := "java/lang/Throwable", name := "fillInStackTrace", desc := "()Ljava/lang/Throwable;" } : Jvm.MethodName) prog_22_method_18_code (1 : Nat) (Option.some (Jvm.ClassFile.FieldType.object "java/lang/Throwable"))),
  (Jvm.Cond.methodLink "java/lang/Throwable" (202 : Nat) ({ cls := "java/lang/Throwable", name := "fillInStackTrace", desc := "(I)Ljava/lang/Throwable;" } : Jvm.MethodName)),
  (Jvm.Cond.instanceMethod ({ cls := "java/lang/Throwable", name := "fillInStackTrace", desc := "(I)Ljava/lang/Throwable;" } : Jvm.MethodName)),
  (Jvm.Cond.instantiable "java/lang/Throwable" (6 : Nat)),
  (Jvm.Cond.native ({ cls := "java/lang/Throwable", name := "fillInStackTrace", desc := "(I)Ljava/lang/Throwable;" } : Jvm.MethodName)),
  (Jvm.Cond.methodLink "Sketchlock" (68 : Nat) ({ cls := "java/lang/IndexOutOfBoundsException", name := "<init>", desc := "(Ljava/lang/String;)V" } : Jvm.MethodName)),
  (Jvm.Cond.instanceMethod ({ cls := "java/lang/IndexOutOfBoundsException", name := "<init>", desc := "(Ljava/lang/String;)V" } : Jvm.MethodName)),
  (Jvm.Cond.code ({ cls := "java/lang/IndexOutOfBoundsException", name := "<init>", desc := "(Ljava/lang/String;)V" } : Jvm.MethodName) prog_15_method_2_code (2 : Nat) (Option.none : Option Jvm.ClassFile.FieldType)),
  (Jvm.Cond.methodLink "java/lang/IndexOutOfBoundsException" (7 : Nat) ({ cls := "java/lang/RuntimeException", name := "<init>", desc := "(Ljava/lang/String;)V" } : Jvm.MethodName)),
  (Jvm.Cond.instanceMethod ({ cls := "java/lang/RuntimeException", name := "<init>", desc := "(Ljava/lang/String;)V" } : Jvm.MethodName)),
  (Jvm.Cond.code ({ cls := "java/lang/RuntimeException", name := "<init>", desc := "(Ljava/lang/String;)V" } : Jvm.MethodName) prog_19_method_2_code (2 : Nat) (Option.none : Option Jvm.ClassFile.FieldType)),
  (Jvm.Cond.methodLink "java/lang/RuntimeException" (7 : Nat) ({ cls := "java/lang/Exception", name := "<init>", desc := "(Ljava/lang/String;)V" } : Jvm.MethodName)),
  (Jvm.Cond.instanceMethod ({ cls := "java/lang/Exception", name := "<init>", desc := "(Ljava/lang/String;)V" } : Jvm.MethodName)),
  (Jvm.Cond.code ({ cls := "java/lang/Exception", name := "<init>", desc := "(Ljava/lang/String;)V" } : Jvm.MethodName) prog_12_method_2_code (2 : Nat) (Option.none : Option Jvm.ClassFile.FieldType)),
  (Jvm.Cond.methodLink "java/lang/Exception" (7 : Nat) ({ cls := "java/lang/Throwable", name := "<init>", desc := "(Ljava/lang/String;)V" } : Jvm.MethodName)),
  (Jvm.Cond.instanceMethod ({ cls := "java/lang/Throwable", name := "<init>", desc := "(Ljava/lang/String;)V" } : Jvm.MethodName)),
  (Jvm.Cond.code ({ cls := "java/lang/Throwable", name := "<init>", desc := "(Ljava/lang/String;)V" } : Jvm.MethodName) prog_22_method_2_code (2 : Nat) (Option.none : Option Jvm.ClassFile.FieldType)),
  (Jvm.Cond.fieldLink "java/lang/Throwable" (198 : Nat) "java/lang/Throwable" "backtrace" "Ljava/lang/Object;"),
  (Jvm.Cond.fieldLink "java/lang/Throwable" (31 : Nat) "java/lang/Throwable" "detailMessage" "Ljava/lang/String;"),
  (Jvm.Cond.fieldLink "java/lang/Throwable" (7 : Nat) "java/lang/Throwable" "cause" "Ljava/lang/Throwable;"),
  (Jvm.Cond.fieldLink "java/lang/Throwable" (17 : Nat) "java/lang/Throwable" "stackTrace" "[Ljava/lang/StackTraceElement;"),
  (Jvm.Cond.fieldLink "java/lang/Throwable" (24 : Nat) "java/lang/Throwable" "suppressedExceptions" "Ljava/util/List;"),
  (Jvm.Cond.lays "java/lang/IndexOutOfBoundsException" "java/lang/Throwable" "depth" "I"),
  (Jvm.Cond.superclass "java/lang/IndexOutOfBoundsException" "java/lang/RuntimeException"),
  (Jvm.Cond.classLink "Sketchlock" (119 : Nat) "java/lang/IllegalArgumentException"),
  (Jvm.Cond.instantiable "java/lang/IllegalArgumentException" (6 : Nat)),
  (Jvm.Cond.selects "java/lang/IllegalArgumentException" ({ cls := "java/lang/Throwable", name := "fillInStackTrace", desc := "(I)Ljava/lang/Throwable;" } : Jvm.MethodName) ({ cls := "java/lang/Throwable", name := "fillInStackTrace", desc := "(I)Ljava/lang/Throwable;" } : Jvm.MethodName)),
  (Jvm.Cond.lays "java/lang/IllegalArgumentException" "java/lang/Throwable" "cause" "Ljava/lang/Throwable;"),
  (Jvm.Cond.lays "java/lang/IllegalArgumentException" "java/lang/Throwable" "stackTrace" "[Ljava/lang/StackTraceElement;"),
  (Jvm.Cond.lays "java/lang/IllegalArgumentException" "java/lang/Throwable" "suppressedExceptions" "Ljava/util/List;"),
  (Jvm.Cond.lays "java/lang/IllegalArgumentException" "java/lang/Throwable" "detailMessage" "Ljava/lang/String;"),
  (Jvm.Cond.lays "java/lang/IllegalArgumentException" "java/lang/Throwable" "backtrace" "Ljava/lang/Object;"),
  (Jvm.Cond.methodLink "Sketchlock" (123 : Nat) ({ cls := "java/lang/IllegalArgumentException", name := "<init>", desc := "(Ljava/lang/String;)V" } : Jvm.MethodName)),
  (Jvm.Cond.instanceMethod ({ cls := "java/lang/IllegalArgumentException", name := "<init>", desc := "(Ljava/lang/String;)V" } : Jvm.MethodName)),
  (Jvm.Cond.code ({ cls := "java/lang/IllegalArgumentException", name := "<init>", desc := "(Ljava/lang/String;)V" } : Jvm.MethodName) prog_13_method_2_code (2 : Nat) (Option.none : Option Jvm.ClassFile.FieldType)),
  (Jvm.Cond.methodLink "java/lang/IllegalArgumentException" (7 : Nat) ({ cls := "java/lang/RuntimeException", name := "<init>", desc := "(Ljava/lang/String;)V" } : Jvm.MethodName)),
  (Jvm.Cond.lays "java/lang/IllegalArgumentException" "java/lang/Throwable" "depth" "I"),
  (Jvm.Cond.superclass "java/lang/IllegalArgumentException" "java/lang/RuntimeException"),
  (Jvm.Cond.classLink "Sketchlock" (71 : Nat) "java/lang/IllegalStateException"),
  (Jvm.Cond.instantiable "java/lang/IllegalStateException" (6 : Nat)),
  (Jvm.Cond.selects "java/lang/IllegalStateException" ({ cls := "java/lang/Throwable", name := "fillInStackTrace", desc := "(I)Ljava/lang/Throwable;" } : Jvm.MethodName) ({ cls := "java/lang/Throwable", name := "fillInStackTrace", desc := "(I)Ljava/lang/Throwable;" } : Jvm.MethodName)),
  (Jvm.Cond.lays "java/lang/IllegalStateException" "java/lang/Throwable" "cause" "Ljava/lang/Throwable;"),
  (Jvm.Cond.lays "java/lang/IllegalStateException" "java/lang/Throwable" "stackTrace" "[Ljava/lang/StackTraceElement;"),
  (Jvm.Cond.lays "java/lang/IllegalStateException" "java/lang/Throwable" "suppressedExceptions" "Ljava/util/List;"),
  (Jvm.Cond.lays "java/lang/IllegalStateException" "java/lang/Throwable" "detailMessage" "Ljava/lang/String;"),
  (Jvm.Cond.lays "java/lang/IllegalStateException" "java/lang/Throwable" "backtrace" "Ljava/lang/Object;"),
  (Jvm.Cond.methodLink "Sketchlock" (75 : Nat) ({ cls := "java/lang/IllegalStateException", name := "<init>", desc := "(Ljava/lang/String;)V" } : Jvm.MethodName)),
  (Jvm.Cond.instanceMethod ({ cls := "java/lang/IllegalStateException", name := "<init>", desc := "(Ljava/lang/String;)V" } : Jvm.MethodName)),
  (Jvm.Cond.code ({ cls := "java/lang/IllegalStateException", name := "<init>", desc := "(Ljava/lang/String;)V" } : Jvm.MethodName) prog_14_method_2_code (2 : Nat) (Option.none : Option Jvm.ClassFile.FieldType)),
  (Jvm.Cond.methodLink "java/lang/IllegalStateException" (7 : Nat) ({ cls := "java/lang/RuntimeException", name := "<init>", desc := "(Ljava/lang/String;)V" } : Jvm.MethodName)),
  (Jvm.Cond.lays "java/lang/IllegalStateException" "java/lang/Throwable" "depth" "I"),
  (Jvm.Cond.superclass "java/lang/IllegalStateException" "java/lang/RuntimeException"),
  (Jvm.Cond.methodLink "Sketchlock$Board" (37 : Nat) ({ cls := "java/lang/System", name := "arraycopy", desc := "(Ljava/lang/Object;ILjava/lang/Object;II)V" } : Jvm.MethodName)),
  (Jvm.Cond.native ({ cls := "java/lang/System", name := "arraycopy", desc := "(Ljava/lang/Object;ILjava/lang/Object;II)V" } : Jvm.MethodName)),
  (Jvm.Cond.methodLink "Sketchlock$Board" (114 : Nat) ({ cls := "java/lang/Integer", name := "numberOfTrailingZeros", desc := "(I)I" } : Jvm.MethodName)),
  (Jvm.Cond.code ({ cls := "java/lang/Integer", name := "numberOfTrailingZeros", desc := "(I)I" } : Jvm.MethodName) prog_16_method_48_code (2 : Nat) (Option.some Jvm.ClassFile.FieldType.int)),
  (Jvm.Cond.methodLink "Sketchlock" (142 : Nat) ({ cls := "java/lang/Integer", name := "bitCount", desc := "(I)I" } : Jvm.MethodName)),
  (Jvm.Cond.code ({ cls := "java/lang/Integer", name := "bitCount", desc := "(I)I" } : Jvm.MethodName) prog_16_method_49_code (1 : Nat) (Option.some Jvm.ClassFile.FieldType.int)),
  (Jvm.Cond.methodLink "Sketchlock" (171 : Nat) ({ cls := "java/lang/Long", name := "bitCount", desc := "(J)I" } : Jvm.MethodName)),
  (Jvm.Cond.code ({ cls := "java/lang/Long", name := "bitCount", desc := "(J)I" } : Jvm.MethodName) prog_17_method_50_code (2 : Nat) (Option.some Jvm.ClassFile.FieldType.int)),
  (Jvm.Cond.classLink "Sketchlock" (218 : Nat) "java/util/NoSuchElementException"),
  (Jvm.Cond.instantiable "java/util/NoSuchElementException" (6 : Nat)),
  (Jvm.Cond.selects "java/util/NoSuchElementException" ({ cls := "java/lang/Throwable", name := "fillInStackTrace", desc := "(I)Ljava/lang/Throwable;" } : Jvm.MethodName) ({ cls := "java/lang/Throwable", name := "fillInStackTrace", desc := "(I)Ljava/lang/Throwable;" } : Jvm.MethodName)),
  (Jvm.Cond.lays "java/util/NoSuchElementException" "java/lang/Throwable" "cause" "Ljava/lang/Throwable;"),
  (Jvm.Cond.lays "java/util/NoSuchElementException" "java/lang/Throwable" "stackTrace" "[Ljava/lang/StackTraceElement;"),
  (Jvm.Cond.lays "java/util/NoSuchElementException" "java/lang/Throwable" "suppressedExceptions" "Ljava/util/List;"),
  (Jvm.Cond.lays "java/util/NoSuchElementException" "java/lang/Throwable" "detailMessage" "Ljava/lang/String;"),
  (Jvm.Cond.lays "java/util/NoSuchElementException" "java/lang/Throwable" "backtrace" "Ljava/lang/Object;"),
  (Jvm.Cond.methodLink "Sketchlock" (222 : Nat) ({ cls := "java/util/NoSuchElementException", name := "<init>", desc := "(Ljava/lang/String;)V" } : Jvm.MethodName)),
  (Jvm.Cond.instanceMethod ({ cls := "java/util/NoSuchElementException", name := "<init>", desc := "(Ljava/lang/String;)V" } : Jvm.MethodName)),
  (Jvm.Cond.code ({ cls := "java/util/NoSuchElementException", name := "<init>", desc := "(Ljava/lang/String;)V" } : Jvm.MethodName) prog_23_method_4_code (2 : Nat) (Option.none : Option Jvm.ClassFile.FieldType)),
  (Jvm.Cond.methodLink "java/util/NoSuchElementException" (13 : Nat) ({ cls := "java/lang/RuntimeException", name := "<init>", desc := "(Ljava/lang/String;)V" } : Jvm.MethodName)),
  (Jvm.Cond.lays "java/util/NoSuchElementException" "java/lang/Throwable" "depth" "I"),
  (Jvm.Cond.superclass "java/util/NoSuchElementException" "java/lang/RuntimeException"),
  (Jvm.Cond.methodLink "Sketchlock$ExportText" (61 : Nat) ({ cls := "java/lang/Math", name := "abs", desc := "(I)I" } : Jvm.MethodName)),
  (Jvm.Cond.code ({ cls := "java/lang/Math", name := "abs", desc := "(I)I" } : Jvm.MethodName) prog_18_method_59_code (1 : Nat) (Option.some Jvm.ClassFile.FieldType.int)),
  (Jvm.Cond.methodLink "Sketchlock$Tree" (57 : Nat) ({ cls := "java/lang/Long", name := "bitCount", desc := "(J)I" } : Jvm.MethodName)),
  (Jvm.Cond.sameMethod "java/lang/Throwable" "java/lang/Throwable" "fillInStackTrace" "(I)Ljava/lang/Throwable;"),
  (Jvm.Cond.selects "java/lang/Throwable" ⟨"java/lang/Throwable", "fillInStackTrace", "(I)Ljava/lang/Throwable;"⟩ ⟨"java/lang/Throwable", "fillInStackTrace", "(I)Ljava/lang/Throwable;"⟩)]
abbrev EXl : List Cond := TBc19
def TB : List Cond := TBc0 ++ (TBc1 ++ (TBc2 ++ (TBc3 ++ (TBc4 ++ (TBc5 ++ (TBc6 ++ (TBc7 ++ (TBc8 ++ (TBc9 ++ (TBc10 ++ (TBc11 ++ (TBc12 ++ (TBc13 ++ (TBc14 ++ (TBc15 ++ (TBc16 ++ (TBc17 ++ (TBc18 ++ (TBc19)))))))))))))))))))
theorem tb0 {w : Cond} (h : w ∈ TBc0) : w ∈ TB := List.mem_append_left _ h
theorem tb1 {w : Cond} (h : w ∈ TBc1) : w ∈ TB := List.mem_append_right _ (List.mem_append_left _ h)
theorem tb2 {w : Cond} (h : w ∈ TBc2) : w ∈ TB := List.mem_append_right _ (List.mem_append_right _ (List.mem_append_left _ h))
theorem tb3 {w : Cond} (h : w ∈ TBc3) : w ∈ TB := List.mem_append_right _ (List.mem_append_right _ (List.mem_append_right _ (List.mem_append_left _ h)))
theorem tb4 {w : Cond} (h : w ∈ TBc4) : w ∈ TB := List.mem_append_right _ (List.mem_append_right _ (List.mem_append_right _ (List.mem_append_right _ (List.mem_append_left _ h))))
theorem tb5 {w : Cond} (h : w ∈ TBc5) : w ∈ TB := List.mem_append_right _ (List.mem_append_right _ (List.mem_append_right _ (List.mem_append_right _ (List.mem_append_right _ (List.mem_append_left _ h)))))
theorem tb6 {w : Cond} (h : w ∈ TBc6) : w ∈ TB := List.mem_append_right _ (List.mem_append_right _ (List.mem_append_right _ (List.mem_append_right _ (List.mem_append_right _ (List.mem_append_right _ (List.mem_append_left _ h))))))
theorem tb7 {w : Cond} (h : w ∈ TBc7) : w ∈ TB := List.mem_append_right _ (List.mem_append_right _ (List.mem_append_right _ (List.mem_append_right _ (List.mem_append_right _ (List.mem_append_right _ (List.mem_append_right _ (List.mem_append_left _ h)))))))
theorem tb8 {w : Cond} (h : w ∈ TBc8) : w ∈ TB := List.mem_append_right _ (List.mem_append_right _ (List.mem_append_right _ (List.mem_append_right _ (List.mem_append_right _ (List.mem_append_right _ (List.mem_append_right _ (List.mem_append_right _ (List.mem_append_left _ h))))))))
theorem tb9 {w : Cond} (h : w ∈ TBc9) : w ∈ TB := List.mem_append_right _ (List.mem_append_right _ (List.mem_append_right _ (List.mem_append_right _ (List.mem_append_right _ (List.mem_append_right _ (List.mem_append_right _ (List.mem_append_right _ (List.mem_append_right _ (List.mem_append_left _ h)))))))))
theorem tb10 {w : Cond} (h : w ∈ TBc10) : w ∈ TB := List.mem_append_right _ (List.mem_append_right _ (List.mem_append_right _ (List.mem_append_right _ (List.mem_append_right _ (List.mem_append_right _ (List.mem_append_right _ (List.mem_append_right _ (List.mem_append_right _ (List.mem_append_right _ (List.mem_append_left _ h))))))))))
theorem tb11 {w : Cond} (h : w ∈ TBc11) : w ∈ TB := List.mem_append_right _ (List.mem_append_right _ (List.mem_append_right _ (List.mem_append_right _ (List.mem_append_right _ (List.mem_append_right _ (List.mem_append_right _ (List.mem_append_right _ (List.mem_append_right _ (List.mem_append_right _ (List.mem_append_right _ (List.mem_append_left _ h)))))))))))
theorem tb12 {w : Cond} (h : w ∈ TBc12) : w ∈ TB := List.mem_append_right _ (List.mem_append_right _ (List.mem_append_right _ (List.mem_append_right _ (List.mem_append_right _ (List.mem_append_right _ (List.mem_append_right _ (List.mem_append_right _ (List.mem_append_right _ (List.mem_append_right _ (List.mem_append_right _ (List.mem_append_right _ (List.mem_append_left _ h))))))))))))
theorem tb13 {w : Cond} (h : w ∈ TBc13) : w ∈ TB := List.mem_append_right _ (List.mem_append_right _ (List.mem_append_right _ (List.mem_append_right _ (List.mem_append_right _ (List.mem_append_right _ (List.mem_append_right _ (List.mem_append_right _ (List.mem_append_right _ (List.mem_append_right _ (List.mem_append_right _ (List.mem_append_right _ (List.mem_append_right _ (List.mem_append_left _ h)))))))))))))
theorem tb14 {w : Cond} (h : w ∈ TBc14) : w ∈ TB := List.mem_append_right _ (List.mem_append_right _ (List.mem_append_right _ (List.mem_append_right _ (List.mem_append_right _ (List.mem_append_right _ (List.mem_append_right _ (List.mem_append_right _ (List.mem_append_right _ (List.mem_append_right _ (List.mem_append_right _ (List.mem_append_right _ (List.mem_append_right _ (List.mem_append_right _ (List.mem_append_left _ h))))))))))))))
theorem tb15 {w : Cond} (h : w ∈ TBc15) : w ∈ TB := List.mem_append_right _ (List.mem_append_right _ (List.mem_append_right _ (List.mem_append_right _ (List.mem_append_right _ (List.mem_append_right _ (List.mem_append_right _ (List.mem_append_right _ (List.mem_append_right _ (List.mem_append_right _ (List.mem_append_right _ (List.mem_append_right _ (List.mem_append_right _ (List.mem_append_right _ (List.mem_append_right _ (List.mem_append_left _ h)))))))))))))))
theorem tb16 {w : Cond} (h : w ∈ TBc16) : w ∈ TB := List.mem_append_right _ (List.mem_append_right _ (List.mem_append_right _ (List.mem_append_right _ (List.mem_append_right _ (List.mem_append_right _ (List.mem_append_right _ (List.mem_append_right _ (List.mem_append_right _ (List.mem_append_right _ (List.mem_append_right _ (List.mem_append_right _ (List.mem_append_right _ (List.mem_append_right _ (List.mem_append_right _ (List.mem_append_right _ (List.mem_append_left _ h))))))))))))))))
theorem tb17 {w : Cond} (h : w ∈ TBc17) : w ∈ TB := List.mem_append_right _ (List.mem_append_right _ (List.mem_append_right _ (List.mem_append_right _ (List.mem_append_right _ (List.mem_append_right _ (List.mem_append_right _ (List.mem_append_right _ (List.mem_append_right _ (List.mem_append_right _ (List.mem_append_right _ (List.mem_append_right _ (List.mem_append_right _ (List.mem_append_right _ (List.mem_append_right _ (List.mem_append_right _ (List.mem_append_right _ (List.mem_append_left _ h)))))))))))))))))
theorem tb18 {w : Cond} (h : w ∈ TBc18) : w ∈ TB := List.mem_append_right _ (List.mem_append_right _ (List.mem_append_right _ (List.mem_append_right _ (List.mem_append_right _ (List.mem_append_right _ (List.mem_append_right _ (List.mem_append_right _ (List.mem_append_right _ (List.mem_append_right _ (List.mem_append_right _ (List.mem_append_right _ (List.mem_append_right _ (List.mem_append_right _ (List.mem_append_right _ (List.mem_append_right _ (List.mem_append_right _ (List.mem_append_right _ (List.mem_append_left _ h))))))))))))))))))
theorem tb19 {w : Cond} (h : w ∈ TBc19) : w ∈ TB := List.mem_append_right _ (List.mem_append_right _ (List.mem_append_right _ (List.mem_append_right _ (List.mem_append_right _ (List.mem_append_right _ (List.mem_append_right _ (List.mem_append_right _ (List.mem_append_right _ (List.mem_append_right _ (List.mem_append_right _ (List.mem_append_right _ (List.mem_append_right _ (List.mem_append_right _ (List.mem_append_right _ (List.mem_append_right _ (List.mem_append_right _ (List.mem_append_right _ (List.mem_append_right _ (h)))))))))))))))))))
def NFc0 : List Cond := [.methodLinkNest RX7 19 yX5_init "Sketchlock",
  .fieldLinkNest RX7 95 "Sketchlock$Shapes" "made" "I" "Sketchlock",
  .methodLinkNest RX7 26 yX4_init "Sketchlock",
  .fieldLinkNest RX7 124 "Sketchlock$Rules" "made" "I" "Sketchlock",
  .fieldLinkNest RX0 74 "Sketchlock$Rules" "kinds" "[I" "Sketchlock",
  .fieldLinkNest RX7 215 "Sketchlock$Rules" "kinds" "[I" "Sketchlock",
  .fieldLinkNest RX0 79 "Sketchlock$Rules" "firsts" "[I" "Sketchlock",
  .fieldLinkNest RX7 209 "Sketchlock$Rules" "firsts" "[I" "Sketchlock",
  .fieldLinkNest RX0 82 "Sketchlock$Rules" "seconds" "[I" "Sketchlock",
  .fieldLinkNest RX7 212 "Sketchlock$Rules" "seconds" "[I" "Sketchlock",
  .methodLinkNest RX7 33 yX6_init "Sketchlock",
  .fieldLinkNest RX7 188 "Sketchlock$Tree" "made" "I" "Sketchlock",
  .methodLinkNest RX7 40 yX3_init "Sketchlock",
  .methodLinkNest RX3 21 yX0_init "Sketchlock",
  .fieldLinkNest RX1 19 "Sketchlock$Board" "there" "I" "Sketchlock",
  .fieldLinkNest RX3 76 "Sketchlock$Board" "there" "I" "Sketchlock",
  .fieldLinkNest RX7 196 "Sketchlock$Board" "there" "I" "Sketchlock",
  .fieldLinkNest RX1 32 "Sketchlock$Board" "inForce" "I" "Sketchlock",
  .fieldLinkNest RX7 137 "Sketchlock$Board" "inForce" "I" "Sketchlock",
  .fieldLinkNest RX7 133 "Sketchlock$Replay" "board" "LSketchlock$Board;" "Sketchlock",
  .fieldLinkNest RX7 167 "Sketchlock$Replay" "voids" "J" "Sketchlock",
  .methodLinkNest RX7 52 yX2_init "Sketchlock",
  .fieldLinkNest RX7 233 "Sketchlock$Exports" "asked" "I" "Sketchlock",
  .fieldLinkNest RX7 246 "Sketchlock$Exports" "made" "I" "Sketchlock",
  .methodLinkNest RX7 59 yX1_init "Sketchlock",
  .fieldLinkNest RX2 30 "Sketchlock$ExportText" "chars" "I" "Sketchlock",
  .fieldLinkNest RX7 263 "Sketchlock$ExportText" "chars" "I" "Sketchlock",
  .methodLinkNest RX7 100 yX6_draft "Sketchlock",
  .methodLinkNest RX6 34 yX7_put "Sketchlock",
  .methodLinkNest RX7 104 yX5_draft "Sketchlock"]
def NFc1 : List Cond := [.methodLinkNest RX5 25 yX7_put "Sketchlock",
  .methodLinkNest RX5 29 yX7_read "Sketchlock",
  .methodLinkNest RX7 293 yX3_tryAct "Sketchlock",
  .methodLinkNest RX3 42 yX6_subjectOf "Sketchlock",
  .methodLinkNest RX6 42 yX7_read "Sketchlock",
  .methodLinkNest RX3 48 yX6_wantedBy "Sketchlock",
  .methodLinkNest RX3 52 yX0_copyFrom "Sketchlock",
  .methodLinkNest RX3 56 yX6_deedOf "Sketchlock",
  .methodLinkNest RX3 59 yX0_addShape "Sketchlock",
  .methodLinkNest RX0 47 yX7_put "Sketchlock",
  .methodLinkNest RX3 63 yX0_moveTo "Sketchlock",
  .methodLinkNest RX0 59 yX7_has "Sketchlock",
  .methodLinkNest RX0 43 yX7_read "Sketchlock",
  .methodLinkNest RX0 85 yX7_isAbout "Sketchlock",
  .methodLinkNest RX0 95 yX5_lettersOf "Sketchlock",
  .methodLinkNest RX0 101 yX7_isInRange "Sketchlock",
  .methodLinkNest RX3 67 yX0_resizeTo "Sketchlock",
  .methodLinkNest RX3 70 yX0_layRule "Sketchlock",
  .methodLinkNest RX3 73 yX0_dropRule "Sketchlock",
  .methodLinkNest RX7 298 yX6_hang "Sketchlock",
  .methodLinkNest RX7 115 yX3_changedShapes "Sketchlock",
  .methodLinkNest RX3 34 yX7_has "Sketchlock",
  .methodLinkNest RX3 80 yX0_differsAt "Sketchlock",
  .methodLinkNest RX7 127 yX4_draft "Sketchlock",
  .methodLinkNest RX4 25 yX7_put "Sketchlock",
  .methodLinkNest RX7 148 yX6_standOf "Sketchlock",
  .methodLinkNest RX7 153 yX6_aboveOf "Sketchlock",
  .methodLinkNest RX7 156 yX6_stand "Sketchlock",
  .methodLinkNest RX7 159 yX6_counting "Sketchlock",
  .methodLinkNest RX7 163 yX3_redo "Sketchlock"]
def NFc2 : List Cond := [.methodLinkNest RX3 31 yX0_clear "Sketchlock",
  .methodLinkNest RX7 176 yX6_branchOf "Sketchlock",
  .methodLinkNest RX7 206 yX0_numberOf "Sketchlock",
  .methodLinkNest RX7 223 yX0_fits "Sketchlock",
  .methodLinkNest RX7 230 yX0_groupOf "Sketchlock",
  .methodLinkNest RX7 250 yX2_charsOf "Sketchlock",
  .methodLinkNest RX2 38 yX7_read "Sketchlock",
  .methodLinkNest RX7 255 yX2_signOf "Sketchlock",
  .methodLinkNest RX7 182 yX6_countBranches "Sketchlock",
  .methodLinkNest RX7 238 yX1_show "Sketchlock",
  .methodLinkNest RX1 24 yX7_has "Sketchlock",
  .methodLinkNest RX1 43 yX5_lettersOf "Sketchlock",
  .methodLinkNest RX1 49 yX0_numberOf "Sketchlock",
  .methodLinkNest RX1 53 yX5_shownLetter "Sketchlock",
  .methodLinkNest RX5 33 yX7_has "Sketchlock",
  .methodLinkNest RX7 242 yX2_keep "Sketchlock",
  .methodLinkNest RX2 34 yX1_signOf "Sketchlock",
  .methodLinkNest RX7 259 yX2_actsOf "Sketchlock",
  .methodLinkNest RX7 266 yX1_signOf "Sketchlock",
  .methodLinkNest RX7 185 yX6_countBelow "Sketchlock",
  .methodLinkNest RX6 53 yX7_has "Sketchlock",
  .methodLinkNest RX7 227 yX6_deedOf "Sketchlock",
  (Jvm.Cond.castable "java/lang/IndexOutOfBoundsException" "java/lang/IndexOutOfBoundsException"),
  (Jvm.Cond.declares ({ cls := "java/lang/RuntimeException", name := "<init>", desc := "()V" } : Jvm.MethodName)),
  (Jvm.Cond.declares ({ cls := "java/lang/RuntimeException", name := "<init>", desc := "(Ljava/lang/String;)V" } : Jvm.MethodName)),
  (Jvm.Cond.declares ({ cls := "java/lang/Exception", name := "<init>", desc := "()V" } : Jvm.MethodName)),
  (Jvm.Cond.declares ({ cls := "java/lang/Exception", name := "<init>", desc := "(Ljava/lang/String;)V" } : Jvm.MethodName)),
  (Jvm.Cond.declares ({ cls := "java/lang/Throwable", name := "<init>", desc := "()V" } : Jvm.MethodName)),
  (Jvm.Cond.declares ({ cls := "java/lang/Throwable", name := "<init>", desc := "(Ljava/lang/String;)V" } : Jvm.MethodName)),
  (Jvm.Cond.castable "java/lang/IllegalArgumentException" "java/lang/IllegalArgumentException")]
def NFc3 : List Cond := [(Jvm.Cond.castable "java/lang/IllegalStateException" "java/lang/IllegalStateException"),
  (Jvm.Cond.castable "java/util/NoSuchElementException" "java/util/NoSuchElementException"),
  (Jvm.Cond.castable "Sketchlock" "java/lang/Object"),
  (Jvm.Cond.castable "Sketchlock$Shapes" "java/lang/Object"),
  (Jvm.Cond.castable "Sketchlock$Rules" "java/lang/Object"),
  (Jvm.Cond.castable "Sketchlock$Tree" "java/lang/Object"),
  (Jvm.Cond.castable "Sketchlock$Replay" "java/lang/Object"),
  (Jvm.Cond.castable "Sketchlock$Board" "java/lang/Object"),
  (Jvm.Cond.castable "Sketchlock$Exports" "java/lang/Object"),
  (Jvm.Cond.castable "Sketchlock$ExportText" "java/lang/Object"),
  (Jvm.Cond.castable "java/lang/IndexOutOfBoundsException" "java/lang/Object"),
  (Jvm.Cond.castable "java/lang/IllegalArgumentException" "java/lang/Object"),
  (Jvm.Cond.castable "java/lang/IllegalStateException" "java/lang/Object"),
  (Jvm.Cond.castable "java/util/NoSuchElementException" "java/lang/Object"),
  (Jvm.Cond.castable "java/lang/Throwable" "java/lang/Object"),
  (Jvm.Cond.castable "java/lang/String" "java/lang/Object")]
def NF : List Cond := NFc0 ++ (NFc1 ++ (NFc2 ++ (NFc3)))
theorem nf0 {w : Cond} (h : w ∈ NFc0) : w ∈ NF := List.mem_append_left _ h
theorem nf1 {w : Cond} (h : w ∈ NFc1) : w ∈ NF := List.mem_append_right _ (List.mem_append_left _ h)
theorem nf2 {w : Cond} (h : w ∈ NFc2) : w ∈ NF := List.mem_append_right _ (List.mem_append_right _ (List.mem_append_left _ h))
theorem nf3 {w : Cond} (h : w ∈ NFc3) : w ∈ NF := List.mem_append_right _ (List.mem_append_right _ (List.mem_append_right _ (h)))
theorem mem_i {α : Type} {l : List α} {x : α} (i : Nat) (h : l[i]? = some x) : x ∈ l := List.mem_of_getElem? h
theorem exin {w : Cond} (h : w ∈ EXl) : w ∈ TB := tb19 h
def STR : List (String × Nat × String) := [("Sketchlock", 269, "no such drawer"), ("Sketchlock", 281, "x or y is out of range"), ("Sketchlock", 283, "width or height is out of range"), ("Sketchlock", 98, "there are 10 shapes"), ("Sketchlock", 296, "that cannot be done, or there are 60 acts"), ("Sketchlock", 110, "the text is empty, or there are 10 shapes"), ("Sketchlock", 271, "no such shape"), ("Sketchlock", 121, "no such kind, or one shape twice"), ("Sketchlock", 125, "there are 12 rules"), ("Sketchlock", 273, "no such rule"), ("Sketchlock", 151, "the drawer stands at the root"), ("Sketchlock", 180, "no such branch"), ("Sketchlock", 66, "no such letter"), ("Sketchlock", 73, "the text has 5 letters"), ("Sketchlock", 285, "what is out of range"), ("Sketchlock", 287, "the shape is not there"), ("Sketchlock", 220, "a tie that is not in force"), ("Sketchlock", 289, "no such export"), ("Sketchlock", 291, "the export waits"), ("Sketchlock", 253, "no such char"), ("Sketchlock", 275, "no such act"), ("Sketchlock", 236, "there are 10 exports")]
def NCS : List (String × String) := [("java/lang/IndexOutOfBoundsException", "java/lang/IllegalArgumentException"), ("java/lang/IndexOutOfBoundsException", "java/lang/IllegalStateException"), ("java/lang/IndexOutOfBoundsException", "java/util/NoSuchElementException"), ("java/lang/IllegalArgumentException", "java/lang/IndexOutOfBoundsException"), ("java/lang/IllegalArgumentException", "java/lang/IllegalStateException"), ("java/lang/IllegalArgumentException", "java/util/NoSuchElementException"), ("java/lang/IllegalStateException", "java/lang/IndexOutOfBoundsException"), ("java/lang/IllegalStateException", "java/lang/IllegalArgumentException"), ("java/lang/IllegalStateException", "java/util/NoSuchElementException"), ("java/util/NoSuchElementException", "java/lang/IndexOutOfBoundsException"), ("java/util/NoSuchElementException", "java/lang/IllegalArgumentException"), ("java/util/NoSuchElementException", "java/lang/IllegalStateException")]
abbrev Sh : Type := (Nat × List (Nat × Nat)) ⊕ (Nat × Nat)
def shp : List Sh := [
  .inl (7, [(3, 1), (0, 0), (3, 2), (3, 5), (3, 9), (3, 16), (3, 17), (3, 30), (3, 34)]),
  .inr (0, 5),
  .inl (5, [(0, 0), (0, 0), (3, 3), (3, 4)]),
  .inr (0, 10),
  .inr (0, 50),
  .inl (4, [(0, 0), (3, 6), (3, 7), (3, 8)]),
  .inr (0, 12),
  .inr (0, 12),
  .inr (0, 12),
  .inl (6, [(0, 0), (3, 10), (3, 11), (3, 12), (3, 13), (3, 14), (3, 15)]),
  .inr (0, 60),
  .inr (0, 60),
  .inr (0, 240),
  .inr (0, 60),
  .inr (0, 60),
  .inr (0, 4),
  .inl (3, [(3, 9), (2, 0), (2, 0), (1, 0)]),
  .inl (3, [(3, 9), (2, 0), (2, 0), (1, 0)]),
  .inl (0, [(3, 2), (3, 5), (0, 0), (3, 19), (3, 20), (0, 0), (0, 0)]),
  .inr (0, 40),
  .inr (0, 24),
  .inl (0, [(3, 2), (3, 5), (0, 0), (3, 22), (3, 23), (0, 0), (0, 0)]),
  .inr (0, 40),
  .inr (0, 24),
  .inl (0, [(3, 2), (3, 5), (0, 0), (3, 25), (3, 26), (0, 0), (0, 0)]),
  .inr (0, 40),
  .inr (0, 24),
  .inl (0, [(3, 2), (3, 5), (0, 0), (3, 28), (3, 29), (0, 0), (0, 0)]),
  .inr (0, 40),
  .inr (0, 24),
  .inl (2, [(0, 0), (0, 0), (3, 31), (3, 32), (3, 33)]),
  .inr (1, 10),
  .inr (0, 10),
  .inr (2, 3280),
  .inl (1, [(3, 35), (0, 0)]),
  .inr (2, 328),
  .inr (0, 60),
  .inr (0, 12),
  .inr (0, 5),
  .inr (0, 4),
  .inr (0, 40)]
def nH : Nat := 41
theorem nH_eq : shp.length = nH := rfl
set_option maxRecDepth 100000 in
theorem TB_good : TB.all goodWord = true := by decide +kernel
theorem lyX0 : ∀ w ∈ u_ws RX0 TX0 7, w ∈ TB := by
  have h : u_ws RX0 TX0 7 = [81, 82, 83, 84, 85, 86, 87].filterMap (fun i => TB[i]?) := by decide +kernel
  intro w hw
  rw [h] at hw
  obtain ⟨i, -, hi⟩ := List.mem_filterMap.mp hw
  exact List.mem_of_getElem? hi
theorem lyX1 : ∀ w ∈ u_ws RX1 TX1 2, w ∈ TB := by
  have h : u_ws RX1 TX1 2 = [116, 117].filterMap (fun i => TB[i]?) := by decide +kernel
  intro w hw
  rw [h] at hw
  obtain ⟨i, -, hi⟩ := List.mem_filterMap.mp hw
  exact List.mem_of_getElem? hi
theorem lyX2 : ∀ w ∈ u_ws RX2 TX2 5, w ∈ TB := by
  have h : u_ws RX2 TX2 5 = [104, 105, 106, 107, 108].filterMap (fun i => TB[i]?) := by decide +kernel
  intro w hw
  rw [h] at hw
  obtain ⟨i, -, hi⟩ := List.mem_filterMap.mp hw
  exact List.mem_of_getElem? hi
theorem lyX3 : ∀ w ∈ u_ws RX3 TX3 4, w ∈ TB := by
  have h : u_ws RX3 TX3 4 = [92, 93, 94, 95].filterMap (fun i => TB[i]?) := by decide +kernel
  intro w hw
  rw [h] at hw
  obtain ⟨i, -, hi⟩ := List.mem_filterMap.mp hw
  exact List.mem_of_getElem? hi
theorem lyX4 : ∀ w ∈ u_ws RX4 TX4 4, w ∈ TB := by
  have h : u_ws RX4 TX4 4 = [47, 48, 49, 50].filterMap (fun i => TB[i]?) := by decide +kernel
  intro w hw
  rw [h] at hw
  obtain ⟨i, -, hi⟩ := List.mem_filterMap.mp hw
  exact List.mem_of_getElem? hi
theorem lyX5 : ∀ w ∈ u_ws RX5 TX5 4, w ∈ TB := by
  have h : u_ws RX5 TX5 4 = [35, 36, 37, 38].filterMap (fun i => TB[i]?) := by decide +kernel
  intro w hw
  rw [h] at hw
  obtain ⟨i, -, hi⟩ := List.mem_filterMap.mp hw
  exact List.mem_of_getElem? hi
theorem lyX6 : ∀ w ∈ u_ws RX6 TX6 7, w ∈ TB := by
  have h : u_ws RX6 TX6 7 = [61, 62, 63, 64, 65, 66, 67].filterMap (fun i => TB[i]?) := by decide +kernel
  intro w hw
  rw [h] at hw
  obtain ⟨i, -, hi⟩ := List.mem_filterMap.mp hw
  exact List.mem_of_getElem? hi
theorem lyX7 : ∀ w ∈ u_ws RX7 TX7 9, w ∈ TB := by
  have h : u_ws RX7 TX7 9 = [127, 128, 129, 130, 131, 132, 133, 134, 135].filterMap (fun i => TB[i]?) := by decide +kernel
  intro w hw
  rw [h] at hw
  obtain ⟨i, -, hi⟩ := List.mem_filterMap.mp hw
  exact List.mem_of_getElem? hi
end
section
/-! the system's heap by handles; a judgement G over it; a rule an instruction (by wip/p31/core.py) -/
abbrev AV : Type := Int32 ⊕ (Int64 ⊕ Option Nat)
abbrev vI (x : Int32) : AV := .inl x
abbrev vL (x : Int64) : AV := .inr (.inl x)
abbrev vR (k : Nat) : AV := .inr (.inr (some k))
def gV (ad : Nat → Nat) : AV → Value
  | .inl x => .int x
  | .inr (.inl x) => .long x
  | .inr (.inr r) => va_rf (r.map ad)
def cat2 : AV → Bool
  | .inr (.inl _) => true
  | _ => false
abbrev HS : Type := (Nat → Nat → Int32) × ((Nat → Nat → Int64) × (Nat → Nat → Option Nat))
def sI (S : HS) (a k : Nat) (v : Int32) : HS := (fun b => if b = a then upd (S.1 b) k v else S.1 b, S.2)
def sL (S : HS) (a k : Nat) (v : Int64) : HS := (S.1, (fun b => if b = a then vp_updL (S.2.1 b) k v else S.2.1 b, S.2.2))
def sR (S : HS) (a k : Nat) (v : Option Nat) : HS := (S.1, (S.2.1, fun b => if b = a then va_up (S.2.2 b) k v else S.2.2 b))
def sA (S : HS) (a : Nat) (f : Nat → Int32) : HS := (fun b => if b = a then f else S.1 b, S.2)
def fV (ad : Nat → Nat) (S : HS) (a j : Nat) (kd : Nat × Nat) : Value :=
  if kd.1 = 0 then .int (S.1 a j) else if kd.1 = 1 then .long (S.2.1 a j) else if kd.1 = 2 then va_rf ((S.2.2 a j).map ad) else .ref (ad kd.2)
def eV (cA : Nat → ClassId) (ad : Nat → Nat) (S : HS) (a : Nat) : Sh → va_E
  | .inl q => .inr (q.1, q.2.mapIdx fun j kd => fV ad S a j kd)
  | .inr q => .inl (cA q.1, (q.2, if q.1 = 1 then .inr (.inl (S.2.1 a)) else .inl (S.1 a)))
def wld (cA : Nat → ClassId) (ad : Nat → Nat) (S : HS) : va_W := shp.mapIdx fun a sh => (ad a, eV cA ad S a sh)
def tyl (cA : Nat → ClassId) : List (ClassId × FieldType) := [(cA 0, .int), (cA 1, .long), (cA 2, .char)]
def oc (a : Nat) : Option Nat := match shp[a]? with
  | some (.inl q) => some q.1
  | _ => none
def fk (a k : Nat) : Option (Nat × (Nat × Nat)) := match shp[a]? with
  | some (.inl q) => (q.2[k]?).map fun z => (q.1, z)
  | _ => none
def ak (a : Nat) : Option (Nat × Nat) := match shp[a]? with
  | some (.inr q) => some q
  | _ => none
def alen (a : Nat) : Nat := match ak a with
  | some q => q.2
  | none => 0
theorem fk_at {a k ci : Nat} {kd : Nat × Nat} (h : fk a k = some (ci, kd)) : ∃ ks, shp[a]? = some (.inl (ci, ks)) ∧ ks[k]? = some kd := by
  unfold fk at h
  split at h
  · next q hq =>
    cases hk : q.2[k]? with
    | none => rw [hk] at h; cases h
    | some z =>
      rw [hk] at h
      cases h
      exact ⟨q.2, hq, hk⟩
  · cases h
theorem ak_at {a t N : Nat} (h : ak a = some (t, N)) : shp[a]? = some (.inr (t, N)) := by
  unfold ak at h
  split at h
  · next q hq => cases h; exact hq
  · cases h
theorem oc_at {a ci : Nat} (h : oc a = some ci) : ∃ ks, shp[a]? = some (.inl (ci, ks)) := by
  unfold oc at h
  split at h
  · next q hq => cases h; exact ⟨q.2, hq⟩
  · cases h
theorem wld_at {cA : Nat → ClassId} {ad : Nat → Nat} {S : HS} {a : Nat} {x : Sh} (h : shp[a]? = some x) : (wld cA ad S)[a]? = some (ad a, eV cA ad S a x) := by
  simp [wld, List.getElem?_mapIdx, h]
theorem wld_set {cA : Nat → ClassId} {ad : Nat → Nat} {S S' : HS} {a : Nat} {x : Sh} {e : va_E} (h : shp[a]? = some x) (he : e = eV cA ad S' a x) (ho : ∀ b y, b ≠ a → eV cA ad S' b y = eV cA ad S b y) :
    (wld cA ad S).set a (ad a, e) = wld cA ad S' := by
  apply List.ext_getElem?
  intro b
  rw [List.getElem?_set]
  by_cases hb : a = b
  · subst hb
    have hl : a < (wld cA ad S).length := by
      rcases List.getElem?_eq_some_iff.mp (wld_at (cA := cA) (ad := ad) (S := S) h) with ⟨q, -⟩
      exact q
    simp only [if_pos, hl]
    rw [wld_at h, he]
  · rw [if_neg hb]
    simp only [wld, List.getElem?_mapIdx]
    cases shp[b]? with
    | none => rfl
    | some y => simp only [Option.map_some]; rw [ho b y (fun q => hb q.symm)]
theorem eV_I {cA : Nat → ClassId} {ad : Nat → Nat} {S : HS} {a b k : Nat} {v : Int32} {y : Sh} (h : b ≠ a) : eV cA ad (sI S a k v) b y = eV cA ad S b y := by
  cases y <;> simp [eV, fV, sI, h]
theorem eV_L {cA : Nat → ClassId} {ad : Nat → Nat} {S : HS} {a b k : Nat} {v : Int64} {y : Sh} (h : b ≠ a) : eV cA ad (sL S a k v) b y = eV cA ad S b y := by
  cases y <;> simp [eV, fV, sL, h]
theorem eV_R {cA : Nat → ClassId} {ad : Nat → Nat} {S : HS} {a b k : Nat} {v : Option Nat} {y : Sh} (h : b ≠ a) : eV cA ad (sR S a k v) b y = eV cA ad S b y := by
  cases y <;> simp [eV, fV, sR, h]
theorem eV_A {cA : Nat → ClassId} {ad : Nat → Nat} {S : HS} {a b : Nat} {f : Nat → Int32} {y : Sh} (h : b ≠ a) : eV cA ad (sA S a f) b y = eV cA ad S b y := by
  cases y <;> simp [eV, fV, sA, h]
theorem mapIdx_set {α β : Type} {f g : Nat → α → β} {l : List α} {k : Nat} {v : β} {z : α} (hk : l[k]? = some z) (hv : g k z = v) (ho : ∀ j x, j ≠ k → g j x = f j x) : (l.mapIdx f).set k v = l.mapIdx g := by
  apply List.ext_getElem?
  intro b
  rw [List.getElem?_set]
  by_cases hb : k = b
  · subst hb
    have hl : k < (l.mapIdx f).length := by
      rcases List.getElem?_eq_some_iff.mp hk with ⟨q, -⟩
      simpa using q
    simp only [if_pos, hl, List.getElem?_mapIdx, hk, Option.map_some, hv]
  · rw [if_neg hb]
    simp only [List.getElem?_mapIdx]
    cases l[b]? with
    | none => rfl
    | some y => simp only [Option.map_some]; rw [ho b y (fun q => hb q.symm)]
theorem setI_obj {cA : Nat → ClassId} {ad : Nat → Nat} {S : HS} {a k ci z : Nat} {ks : List (Nat × Nat)} {v : Int32} (h : shp[a]? = some (.inl (ci, ks))) (hk : ks[k]? = some (0, z)) :
    (wld cA ad S).set a (ad a, .inr (ci, (ks.mapIdx fun j kd => fV ad S a j kd).set k (.int v))) = wld cA ad (sI S a k v) :=
  wld_set h (by
    show _ = (Sum.inr (ci, ks.mapIdx fun j kd => fV ad (sI S a k v) a j kd) : va_E)
    rw [mapIdx_set (g := fun j kd => fV ad (sI S a k v) a j kd) hk (by simp [fV, sI, upd]) (fun j x hj => by simp [fV, sI, upd, hj])]) (fun b y hb => eV_I hb)
theorem setL_obj {cA : Nat → ClassId} {ad : Nat → Nat} {S : HS} {a k ci z : Nat} {ks : List (Nat × Nat)} {v : Int64} (h : shp[a]? = some (.inl (ci, ks))) (hk : ks[k]? = some (1, z)) :
    (wld cA ad S).set a (ad a, .inr (ci, (ks.mapIdx fun j kd => fV ad S a j kd).set k (.long v))) = wld cA ad (sL S a k v) :=
  wld_set h (by
    show _ = (Sum.inr (ci, ks.mapIdx fun j kd => fV ad (sL S a k v) a j kd) : va_E)
    rw [mapIdx_set (g := fun j kd => fV ad (sL S a k v) a j kd) hk (by simp [fV, sL, vp_updL]) (fun j x hj => by simp [fV, sL, vp_updL, hj])]) (fun b y hb => eV_L hb)
theorem setR_obj {cA : Nat → ClassId} {ad : Nat → Nat} {S : HS} {a k ci z b : Nat} {ks : List (Nat × Nat)} (h : shp[a]? = some (.inl (ci, ks))) (hk : ks[k]? = some (2, z)) :
    (wld cA ad S).set a (ad a, .inr (ci, (ks.mapIdx fun j kd => fV ad S a j kd).set k (.ref (ad b)))) = wld cA ad (sR S a k (some b)) :=
  wld_set h (by
    show _ = (Sum.inr (ci, ks.mapIdx fun j kd => fV ad (sR S a k (some b)) a j kd) : va_E)
    rw [mapIdx_set (g := fun j kd => fV ad (sR S a k (some b)) a j kd) hk (by simp [fV, sR, va_up, va_rf]) (fun j x hj => by simp [fV, sR, va_up, hj])]) (fun b y hb => eV_R hb)
theorem setI_arr {cA : Nat → ClassId} {ad : Nat → Nat} {S : HS} {a t N k : Nat} {v : Int32} (h : shp[a]? = some (.inr (t, N))) (ht : t ≠ 1) :
    (wld cA ad S).set a (ad a, .inl (cA t, (N, .inl (upd (S.1 a) k v)))) = wld cA ad (sI S a k v) :=
  wld_set h (by simp [eV, sI, ht]) (fun b y hb => eV_I hb)
theorem setA_arr {cA : Nat → ClassId} {ad : Nat → Nat} {S : HS} {a t N : Nat} {f : Nat → Int32} (h : shp[a]? = some (.inr (t, N))) (ht : t ≠ 1) :
    (wld cA ad S).set a (ad a, .inl (cA t, (N, .inl f))) = wld cA ad (sA S a f) :=
  wld_set h (by simp [eV, sA, ht]) (fun b y hb => eV_A hb)
theorem setL_arr {cA : Nat → ClassId} {ad : Nat → Nat} {S : HS} {a N k : Nat} {v : Int64} (h : shp[a]? = some (.inr (1, N))) :
    (wld cA ad S).set a (ad a, .inl (cA 1, (N, .inr (.inl (vp_updL (S.2.1 a) k v))))) = wld cA ad (sL S a k v) :=
  wld_set h (by simp [eV, sL]) (fun b y hb => eV_L hb)
def Inj (ad : Nat → Nat) : Prop := ∀ i j, i < nH → j < nH → ad i = ad j → i = j
def fA (ad : Nat → Nat) (sz : Nat) : Nat → Prop := fun q => (∃ k, k < nH ∧ q = ad k) ∨ sz ≤ q
def NwA (U : State) : Prop := (∀ w ∈ NF, va_Nw w U) ∧ (∀ q ∈ STR, ∃ a, vk_R q.1 q.2.1 q.2.2 a U) ∧ (∀ q ∈ NCS, va_Nc q.1 q.2 U)
def ZW (ad : Nat → Nat) (sz : Nat) (U : State) : Prop := vx_Zq Bundle.tN "UNASSIGNED_STACK" Bundle.steD (fA ad sz) U U.heap ∧ vx_Zq Bundle.tN "SUPPRESSED_SENTINEL" Bundle.listD (fA ad sz) U U.heap
def wAt (dC : Nat → ClassId) (dI : Nat → Nat → Nat) (cA : Nat → ClassId) (ad : Nat → Nat) (S : HS) (U : State) : Prop := va_P (dC, dI) vwCl (wld cA ad S) U.heap ∧ va_K (dC, dI) vwCl (tyl cA) U
def wPre (dC : Nat → ClassId) (dI : Nat → Nat → Nat) (cA : Nat → ClassId) (ad : Nat → Nat) (sz : Nat) (S : HS) (U : State) : Prop := U.heap.size = sz ∧ wAt dC dI cA ad S U ∧ NwA U ∧ ZW ad sz U
def wQ (dC : Nat → ClassId) (dI : Nat → Nat → Nat) (cA : Nat → ClassId) (ad : Nat → Nat) (sz : Nat) (r : Option AV) (S : HS) : Array Value → State → Outcome → State → Prop := fun _ st oc t =>
  (oc = .returned (r.map (gV ad)) ∧ wAt dC dI cA ad S t) ∧ va_F (fA ad sz) st t
/-- a method's contract, at one state: it returns r, and leaves S' -/
def Ct (l : Launch) (y : MethodName) (cc : ByteArray) (n : Nat) (ret : Option FieldType) (rm : Room) (as : List AV) (S : HS) (r : Option AV) (S' : HS) : Prop :=
  ∀ dC dI cA ad sz, Inj ad → Met l y (.code y cc n ret :: TB) rm (va_Pc (as.map (gV ad)) (wPre dC dI cA ad sz S)) (wQ dC dI cA ad sz r S') 0 0 (fA ad sz)
theorem wld_idx {cA : Nat → ClassId} {ad : Nat → Nat} {S : HS} {k : Nat} {q : Nat × va_E} (h : (wld cA ad S)[k]? = some q) : k < nH ∧ q.1 = ad k := by
  have hl : k < nH := by
    rcases List.getElem?_eq_some_iff.mp h with ⟨z, -⟩
    rw [← nH_eq]
    simpa [wld] using z
  refine ⟨hl, ?_⟩
  simp only [wld, List.getElem?_mapIdx] at h
  cases hk : shp[k]? with
  | none => rw [hk] at h; cases h
  | some x => rw [hk] at h; cases h; rfl
theorem wld_D {cA : Nat → ClassId} {ad : Nat → Nat} {S : HS} {A : Nat → Prop} (hj : Inj ad) (hA : ∀ k, k < nH → A (ad k)) : va_D A (wld cA ad S) := by
  refine ⟨fun i j p q hp hq e => ?_, fun k q hq => ?_⟩
  · obtain ⟨h1, h2⟩ := wld_idx hp
    obtain ⟨h3, h4⟩ := wld_idx hq
    rw [h2, h4] at e
    exact hj i j h1 h3 e
  · obtain ⟨h1, h2⟩ := wld_idx hq
    rw [h2]
    exact hA k h1
theorem nf_nest : NF.all (fun w => match w with
  | .fieldLinkNest _ _ _ _ _ _ => true
  | .methodLinkNest _ _ _ _ => true
  | .castable _ _ => true
  | .declares _ => true
  | _ => false) = true := by decide +kernel
theorem NwA.warm {s U : State} (hW : s.WarmedH U.vm) (h : NwA s) : NwA U := by
  refine ⟨?_, fun q hq => (h.2.1 q hq).elim fun a ha => ⟨a, ha.warm hW⟩, fun q hq => va_Nc.moved hW.alike (h.2.2 q hq)⟩
  intro w hw
  have h1 := List.all_eq_true.mp nf_nest w hw
  have h2 := h.1 w hw
  cases w <;> first | exact va_Nw.warmF hW h2 | exact va_Nw.warmM hW h2 | exact va_Nw.warmC hW h2 | exact va_Nw.warmD hW h2 | cases h1
theorem NwA.blind {U : State} {g : JFrame} {mk : MethodId} {a : Array Value} (h : NwA U) : NwA (U.calling g mk a) := by
  refine ⟨?_, fun q hq => (h.2.1 q hq).elim fun z hz => ⟨z, vk_R.same (u := U) (U := U.calling g mk a) rfl hz⟩, fun q hq => va_Nc.moved (u := U) (U := U.calling g mk a) (Vm.Alike.refl U.vm) (h.2.2 q hq)⟩
  intro w hw
  have h1 := List.all_eq_true.mp nf_nest w hw
  have h2 := h.1 w hw
  cases w <;> first | exact va_Nw.same rfl rfl h2 | cases h1
theorem fA_le {ad : Nat → Nat} {a b : Nat} (h : a ≤ b) (q : Nat) (hq : fA ad b q) : fA ad a q := hq.elim Or.inl (fun z => Or.inr (Nat.le_trans h z))
theorem ZW.to {ad : Nat → Nat} {s U : State} {H : Heap} (hvm : s.vm.Alike U.vm) (hU : U.heap = H) (hS : va_S (fA ad s.heap.size) s.heap H []) (h : ZW ad s.heap.size s) : ZW ad H.size U := by
  rw [← hU] at hS ⊢
  exact ⟨vx_Zq.moved hvm (vx_Zq.narrow (vx_Zq.kept h.1 hS.2.1) (fA_le hS.1)), vx_Zq.moved hvm (vx_Zq.narrow (vx_Zq.kept h.2 hS.2.1) (fA_le hS.1))⟩
theorem wPre.blind {dC : Nat → ClassId} {dI : Nat → Nat → Nat} {cA : Nat → ClassId} {ad : Nat → Nat} {sz : Nat} {S : HS} {as : List Value} : FrameBlind (va_Pc as (wPre dC dI cA ad sz S)) := by
  intro a U g mk h
  obtain ⟨h1, h2, ⟨h3, h4⟩, h5, h6⟩ := h
  exact ⟨h1, h2, ⟨h3, va_K.moved (u := U) (U := U.calling g mk a) (Vm.Alike.refl U.vm) h4⟩, h5.blind, vx_Zq.moved (u := U) (U := U.calling g mk a) (Vm.Alike.refl U.vm) h6.1, vx_Zq.moved (u := U) (U := U.calling g mk a) (Vm.Alike.refl U.vm) h6.2⟩
abbrev GT : Type := Nat → Nat → HS → List (Nat × AV) → Nat → List AV → Prop
def gL (ad : Nat → Nat) (lv : List (Nat × AV)) : List (Nat × Value) := lv.map fun q => (q.1, gV ad q.2)
def Go (p : Program) (l : Launch) (e : Env) (R : Room) (s : State) (m : MethodId) (args : Array Value) (below : List Frame) (meth : Method) (c : Code) (dC : Nat → ClassId) (dI : Nat → Nat → Nat) (cA : Nat → ClassId) (ad : Nat → Nat) (nL : Nat) (Q : State → Prop) : GT := fun k n S lv pc st =>
  ∀ (H : Heap) (locs : List Loc) (ls : Array Slot), va_P (dC, dI) vwCl (wld cA ad S) H → va_S (fA ad s.heap.size) s.heap H locs → lv_has ls nL (gL ad lv) → W p l e R s m args below meth c H locs k n Q (F0 m pc ls (st.map (gV ad)))
def OK (l : Launch) (cc : ByteArray) (own : String) (nL : Nat) (R : Room) (G : GT) : Prop :=
  ∃ (p : Program) (e : Env) (s : State) (m : MethodId) (args : Array Value) (below : List Frame) (meth : Method) (c : Code) (dC : Nat → ClassId) (dI : Nat → Nat → Nat) (cA : Nat → ClassId) (ad : Nat → Nat) (Q : State → Prop),
    p.tables.exec = Jvm.exec ∧ c.code = cc ∧ c.maxLocals = nL ∧ s.vm.findClass own = some m.cls ∧ (∀ w ∈ TB, w.before args s = true) ∧ NwA s ∧ va_K (dC, dI) vwCl (tyl cA) s ∧ Inj ad ∧ ZW ad s.heap.size s ∧ G = Go p l e R s m args below meth c dC dI cA ad nL Q
def lget : List (Nat × AV) → Nat → Option AV
  | [], _ => none
  | (j, v) :: t, i => if i = j then some v else lget t i
theorem lget_at {ad : Nat → Nat} {lv : List (Nat × AV)} {i : Nat} {v : AV} {ls : Array Slot} {nL : Nat} (hl : lv_has ls nL (gL ad lv)) (h : lget lv i = some v) : ls[i]? = some (.val (gV ad v)) := by
  refine hl.2.2 (i, gV ad v) ?_
  clear hl
  induction lv with
  | nil => cases h
  | cons q t ih =>
    obtain ⟨j, u⟩ := q
    unfold lget at h
    by_cases hj : i = j
    · rw [if_pos hj] at h
      cases h
      subst hj
      exact List.mem_cons_self
    · rw [if_neg hj] at h
      exact List.mem_cons_of_mem _ (ih h)
def lset (lv : List (Nat × AV)) (i : Nat) (v : AV) : List (Nat × AV) := (i, v) :: lv.filter (fun q => !(q.1 == i) && !(q.1 + 1 == i && cat2 q.2))
def lsetL (lv : List (Nat × AV)) (i : Nat) (v : AV) : List (Nat × AV) := (i, v) :: lv.filter (fun q => !(q.1 == i) && (!(q.1 == i + 1) && !(q.1 + 1 == i && cat2 q.2)))
theorem gV_cat (ad : Nat → Nat) (v : AV) : ((gV ad v).category == 2) = cat2 v := by
  rcases v with x | x | r
  · rfl
  · rfl
  · cases r <;> rfl
theorem gV_cat1 {ad : Nat → Nat} {v : AV} (h : cat2 v = false) : (gV ad v).category = 1 := by
  rcases v with x | x | r
  · rfl
  · cases h
  · cases r <;> rfl
theorem gL_lset (ad : Nat → Nat) (lv : List (Nat × AV)) (i : Nat) (v : AV) : (i, gV ad v) :: (gL ad lv).filter (fun q => !(q.1 == i) && !(q.1 + 1 == i && q.2.category == 2)) = gL ad (lset lv i v) := by
  unfold gL lset
  rw [List.map_cons, List.filter_map]
  congr 2
  apply List.filter_congr
  intro q _
  simp only [Function.comp, gV_cat]
theorem gL_lsetL (ad : Nat → Nat) (lv : List (Nat × AV)) (i : Nat) (v : AV) : (i, gV ad v) :: (gL ad lv).filter (fun q => !(q.1 == i) && (!(q.1 == i + 1) && !(q.1 + 1 == i && q.2.category == 2))) = gL ad (lsetL lv i v) := by
  unfold gL lsetL
  rw [List.map_cons, List.filter_map]
  congr 2
  apply List.filter_congr
  intro q _
  simp only [Function.comp, gV_cat]
def ib (i : Int32) (n : Nat) : Bool := decide (0 ≤ i) && decide (i.toNatClampNeg < n)
theorem ib_in {i : Int32} {n : Nat} (h : ib i n = true) : vp_in i n := by
  unfold ib at h
  rw [Bool.and_eq_true, decide_eq_true_eq, decide_eq_true_eq] at h
  rintro (q | q)
  · rw [Int32.lt_iff_toInt_lt] at q
    have h1 := h.1
    rw [Int32.le_iff_toInt_le] at h1
    omega
  · omega
def nz (x : Int32) : Bool := decide (x = 0) || decide (x = 1)
theorem nz_ok {x : Int32} (h : nz x = true) : narrow .boolean (.int x) = .int x ∧ fits .boolean (.int x) = true := by
  unfold nz at h
  rw [Bool.or_eq_true, decide_eq_true_eq, decide_eq_true_eq] at h
  rcases h with rfl | rfl <;> decide
/-- where a field lies, and the word that links it -/
def FL (own : String) (idx ci k : Nat) (ty : FieldType) : Prop :=
  ∃ (C : String) (T : u_T) (N : Nat) (ty0 : Nat → FieldType), vwCl[ci]? = some (C, T, N) ∧ k < N ∧ (∀ w ∈ u_ws C T N, w ∈ TB) ∧ (∀ k, k < N → parseFieldDescriptor (T k).2.2.1 = some (ty0 k)) ∧ (∀ a, a < N → ∀ b, b < N → a ≠ b → (T a).2.1 ≠ (T b).2.1) ∧ ty0 k = ty ∧
    (Cond.fieldLink own idx (T k).1 (T k).2.1 (T k).2.2.1 ∈ TB ∨ ∃ host, Cond.fieldLinkNest own idx (T k).1 (T k).2.1 (T k).2.2.1 host ∈ NF)
def FP (ci k : Nat) : Prop := ∀ C T N, vwCl[ci]? = some (C, T, N) → (T k).2.2.2 = false
section
variable {l : Launch} {cc : ByteArray} {own : String} {nL : Nat} {R : Room} {G : GT} {E : Prop} {k n pc : Nat} {S : HS} {lv : List (Nat × AV)} {st : List AV}

theorem s_aload_n (hG : OK l cc own nL R G) {q : Fin 4} {a : Nat} (hd : decode cc pc = .ok (.aload_n q, 1)) (h : lget lv q.val = some (vR a)) (kk : E → G k n S lv (pc + 1) (vR a :: st)) : E → G k n S lv pc (st) := by
  intro hE
  obtain ⟨p, e, s, m, args, below, meth, c, dC, dI, cA, ad, Q, hx, hb, hml, hown, hts, hnw, hK, hj, hzw, rfl⟩ := hG
  intro H locs ls hP hS hl
  exact lv_aload_n hx hb hd rfl (lget_at hl h) (kk hE H locs ls hP hS hl)
theorem s_aload (hG : OK l cc own nL R G) {i a : Nat} (hd : decode cc pc = .ok (.aload i, 2)) (h : lget lv i = some (vR a)) (kk : E → G k n S lv (pc + 2) (vR a :: st)) : E → G k n S lv pc (st) := by
  intro hE
  obtain ⟨p, e, s, m, args, below, meth, c, dC, dI, cA, ad, Q, hx, hb, hml, hown, hts, hnw, hK, hj, hzw, rfl⟩ := hG
  intro H locs ls hP hS hl
  exact lv_aload hx hb hd (lget_at hl h) (kk hE H locs ls hP hS hl)
theorem s_iload_n (hG : OK l cc own nL R G) {q : Fin 4} {x : Int32} (hd : decode cc pc = .ok (.iload_n q, 1)) (h : lget lv q.val = some (vI x)) (kk : E → G k n S lv (pc + 1) (vI x :: st)) : E → G k n S lv pc (st) := by
  intro hE
  obtain ⟨p, e, s, m, args, below, meth, c, dC, dI, cA, ad, Q, hx, hb, hml, hown, hts, hnw, hK, hj, hzw, rfl⟩ := hG
  intro H locs ls hP hS hl
  exact lv_iload_n hx hb hd rfl (lget_at hl h) (kk hE H locs ls hP hS hl)
theorem s_iload (hG : OK l cc own nL R G) {i : Nat} {x : Int32} (hd : decode cc pc = .ok (.iload i, 2)) (h : lget lv i = some (vI x)) (kk : E → G k n S lv (pc + 2) (vI x :: st)) : E → G k n S lv pc (st) := by
  intro hE
  obtain ⟨p, e, s, m, args, below, meth, c, dC, dI, cA, ad, Q, hx, hb, hml, hown, hts, hnw, hK, hj, hzw, rfl⟩ := hG
  intro H locs ls hP hS hl
  exact lv_iload hx hb hd (lget_at hl h) (kk hE H locs ls hP hS hl)
theorem s_lload_n (hG : OK l cc own nL R G) {q : Fin 4} {x : Int64} (hd : decode cc pc = .ok (.lload_n q, 1)) (h : lget lv q.val = some (vL x)) (kk : E → G k n S lv (pc + 1) (vL x :: st)) : E → G k n S lv pc (st) := by
  intro hE
  obtain ⟨p, e, s, m, args, below, meth, c, dC, dI, cA, ad, Q, hx, hb, hml, hown, hts, hnw, hK, hj, hzw, rfl⟩ := hG
  intro H locs ls hP hS hl
  exact lv_lload_n hx hb hd rfl (lget_at hl h) (kk hE H locs ls hP hS hl)
theorem s_lload (hG : OK l cc own nL R G) {i : Nat} {x : Int64} (hd : decode cc pc = .ok (.lload i, 2)) (h : lget lv i = some (vL x)) (kk : E → G k n S lv (pc + 2) (vL x :: st)) : E → G k n S lv pc (st) := by
  intro hE
  obtain ⟨p, e, s, m, args, below, meth, c, dC, dI, cA, ad, Q, hx, hb, hml, hown, hts, hnw, hK, hj, hzw, rfl⟩ := hG
  intro H locs ls hP hS hl
  exact lv_lload hx hb hd (lget_at hl h) (kk hE H locs ls hP hS hl)
theorem s_istore_n (hG : OK l cc own nL R G) {q : Fin 4} {x : Int32} {lv' : List (Nat × AV)} (hd : decode cc pc = .ok (.istore_n q, 1)) (hn : q.val < nL) (hl : lset lv q.val (vI x) = lv') (kk : E → G k n S lv' (pc + 1) st) : E → G k n S lv pc (vI x :: st) := by
  intro hE
  obtain ⟨p, e, s, m, args, below, meth, c, dC, dI, cA, ad, Q, hx, hb, hml, hown, hts, hnw, hK, hj, hzw, rfl⟩ := hG
  subst hl
  intro H locs ls hP hS hl
  exact lv_istore_n hx hb hd rfl hl hn (gL_lset ad lv q.val (vI x)) (fun ls' hl' => kk hE H locs ls' hP hS hl')
theorem s_istore (hG : OK l cc own nL R G) {i : Nat} {x : Int32} {lv' : List (Nat × AV)} (hd : decode cc pc = .ok (.istore i, 2)) (hn : i < nL) (hl : lset lv i (vI x) = lv') (kk : E → G k n S lv' (pc + 2) st) : E → G k n S lv pc (vI x :: st) := by
  intro hE
  obtain ⟨p, e, s, m, args, below, meth, c, dC, dI, cA, ad, Q, hx, hb, hml, hown, hts, hnw, hK, hj, hzw, rfl⟩ := hG
  subst hl
  intro H locs ls hP hS hl
  exact lv_istore hx hb hd hl hn (gL_lset ad lv i (vI x)) (fun ls' hl' => kk hE H locs ls' hP hS hl')
theorem s_astore_n (hG : OK l cc own nL R G) {q : Fin 4} {a : Nat} {lv' : List (Nat × AV)} (hd : decode cc pc = .ok (.astore_n q, 1)) (hn : q.val < nL) (hl : lset lv q.val (vR a) = lv') (kk : E → G k n S lv' (pc + 1) st) : E → G k n S lv pc (vR a :: st) := by
  intro hE
  obtain ⟨p, e, s, m, args, below, meth, c, dC, dI, cA, ad, Q, hx, hb, hml, hown, hts, hnw, hK, hj, hzw, rfl⟩ := hG
  subst hl
  intro H locs ls hP hS hl
  exact lv_astore_n hx hb hd rfl hl hn (gL_lset ad lv q.val (vR a)) (fun ls' hl' => kk hE H locs ls' hP hS hl')
theorem s_astore (hG : OK l cc own nL R G) {i a : Nat} {lv' : List (Nat × AV)} (hd : decode cc pc = .ok (.astore i, 2)) (hn : i < nL) (hl : lset lv i (vR a) = lv') (kk : E → G k n S lv' (pc + 2) st) : E → G k n S lv pc (vR a :: st) := by
  intro hE
  obtain ⟨p, e, s, m, args, below, meth, c, dC, dI, cA, ad, Q, hx, hb, hml, hown, hts, hnw, hK, hj, hzw, rfl⟩ := hG
  subst hl
  intro H locs ls hP hS hl
  exact lv_astore hx hb hd hl hn (gL_lset ad lv i (vR a)) (fun ls' hl' => kk hE H locs ls' hP hS hl')
theorem s_lstore_n (hG : OK l cc own nL R G) {q : Fin 4} {x : Int64} {lv' : List (Nat × AV)} (hd : decode cc pc = .ok (.lstore_n q, 1)) (hn : q.val + 1 < nL) (hl : lsetL lv q.val (vL x) = lv') (kk : E → G k n S lv' (pc + 1) st) : E → G k n S lv pc (vL x :: st) := by
  intro hE
  obtain ⟨p, e, s, m, args, below, meth, c, dC, dI, cA, ad, Q, hx, hb, hml, hown, hts, hnw, hK, hj, hzw, rfl⟩ := hG
  subst hl
  intro H locs ls hP hS hl
  exact lv_lstore_n hx hb hd rfl hl hn (gL_lsetL ad lv q.val (vL x)) (fun ls' hl' => kk hE H locs ls' hP hS hl')
theorem s_iinc (hG : OK l cc own nL R G) {i : Nat} {z : Int} {x v : Int32} {lv' : List (Nat × AV)} (hd : decode cc pc = .ok (.iinc i z, 3)) (h : lget lv i = some (vI x)) (hv : x + Int32.ofInt z = v) (hn : i < nL) (hl : lset lv i (vI v) = lv') (kk : E → G k n S lv' (pc + 3) st) : E → G k n S lv pc st := by
  intro hE
  obtain ⟨p, e, s, m, args, below, meth, c, dC, dI, cA, ad, Q, hx, hb, hml, hown, hts, hnw, hK, hj, hzw, rfl⟩ := hG
  subst hl
  intro H locs ls hP hS hl
  have hm : (i, Value.int x) ∈ gL ad lv := by
    have h2 := h
    clear kk hl h
    induction lv with
    | nil => cases h2
    | cons q t ih =>
      obtain ⟨j, u⟩ := q
      unfold lget at h2
      by_cases hj : i = j
      · rw [if_pos hj] at h2
        cases h2
        subst hj
        exact List.mem_cons_self
      · rw [if_neg hj] at h2
        exact List.mem_cons_of_mem _ (ih h2)
  obtain ⟨q, hq⟩ := List.getElem?_of_mem hm
  exact lv_iinc hx hb hd hl hq hv hn (gL_lset ad lv i (vI v)) (fun ls' hl' => kk hE H locs ls' hP hS hl')
theorem s_iconst (hG : OK l cc own nL R G) {z : Int} {v : Int32} (hd : decode cc pc = .ok (.iconst z, 1)) (hv : Int32.ofInt z = v) (kk : E → G k n S lv (pc + 1) (vI v :: st)) : E → G k n S lv pc (st) := by
  intro hE
  obtain ⟨p, e, s, m, args, below, meth, c, dC, dI, cA, ad, Q, hx, hb, hml, hown, hts, hnw, hK, hj, hzw, rfl⟩ := hG
  intro H locs ls hP hS hl
  exact lv_iconst hx hb hd hv (kk hE H locs ls hP hS hl)
theorem s_lconst (hG : OK l cc own nL R G) {z : Fin 2} {v : Int64} (hd : decode cc pc = .ok (.lconst z, 1)) (hv : Int64.ofNat (z : Nat) = v) (kk : E → G k n S lv (pc + 1) (vL v :: st)) : E → G k n S lv pc (st) := by
  intro hE
  obtain ⟨p, e, s, m, args, below, meth, c, dC, dI, cA, ad, Q, hx, hb, hml, hown, hts, hnw, hK, hj, hzw, rfl⟩ := hG
  intro H locs ls hP hS hl
  exact lv_lconst hx hb hd hv (kk hE H locs ls hP hS hl)
theorem s_bipush (hG : OK l cc own nL R G) {z : Int} {v : Int32} (hd : decode cc pc = .ok (.bipush z, 2)) (hv : (Int8.ofInt z).toInt32 = v) (kk : E → G k n S lv (pc + 2) (vI v :: st)) : E → G k n S lv pc (st) := by
  intro hE
  obtain ⟨p, e, s, m, args, below, meth, c, dC, dI, cA, ad, Q, hx, hb, hml, hown, hts, hnw, hK, hj, hzw, rfl⟩ := hG
  intro H locs ls hP hS hl
  exact lv_bipush hx hb hd hv (kk hE H locs ls hP hS hl)
theorem s_sipush (hG : OK l cc own nL R G) {z : Int} {v : Int32} (hd : decode cc pc = .ok (.sipush z, 3)) (hv : (Int16.ofInt z).toInt32 = v) (kk : E → G k n S lv (pc + 3) (vI v :: st)) : E → G k n S lv pc (st) := by
  intro hE
  obtain ⟨p, e, s, m, args, below, meth, c, dC, dI, cA, ad, Q, hx, hb, hml, hown, hts, hnw, hK, hj, hzw, rfl⟩ := hG
  intro H locs ls hP hS hl
  exact lv_sipush hx hb hd hv (kk hE H locs ls hP hS hl)
theorem s_ldc (hG : OK l cc own nL R G) {i : Nat} {v : Int32} (hd : decode cc pc = .ok (.ldc i, 2)) (h : Cond.constant own i v ∈ TB) (kk : E → G k n S lv (pc + 2) (vI v :: st)) : E → G k n S lv pc (st) := by
  intro hE
  obtain ⟨p, e, s, m, args, below, meth, c, dC, dI, cA, ad, Q, hx, hb, hml, hown, hts, hnw, hK, hj, hzw, rfl⟩ := hG
  intro H locs ls hP hS hl
  exact lv_ldc hx hb hown (hts _ h) hd (kk hE H locs ls hP hS hl)
theorem s_ldcw (hG : OK l cc own nL R G) {i : Nat} {v : Int32} (hd : decode cc pc = .ok (.ldc_w i, 3)) (h : Cond.constant own i v ∈ TB) (kk : E → G k n S lv (pc + 3) (vI v :: st)) : E → G k n S lv pc (st) := by
  intro hE
  obtain ⟨p, e, s, m, args, below, meth, c, dC, dI, cA, ad, Q, hx, hb, hml, hown, hts, hnw, hK, hj, hzw, rfl⟩ := hG
  intro H locs ls hP hS hl
  exact lv_ldcw hx hb hown (hts _ h) hd (kk hE H locs ls hP hS hl)
theorem s_ldc2 (hG : OK l cc own nL R G) {i : Nat} {v : Int64} (hd : decode cc pc = .ok (.ldc2_w i, 3)) (h : Cond.constantLong own i v ∈ TB) (kk : E → G k n S lv (pc + 3) (vL v :: st)) : E → G k n S lv pc (st) := by
  intro hE
  obtain ⟨p, e, s, m, args, below, meth, c, dC, dI, cA, ad, Q, hx, hb, hml, hown, hts, hnw, hK, hj, hzw, rfl⟩ := hG
  intro H locs ls hP hS hl
  exact lv_ldc2 hx hb hown (hts _ h) hd (kk hE H locs ls hP hS hl)
theorem s_iadd (hG : OK l cc own nL R G) {x y : Int32} (hd : decode cc pc = .ok (.iadd, 1)) (kk : E → G k n S lv (pc + 1) (vI (x + y) :: st)) : E → G k n S lv pc (vI y :: vI x :: st) := by
  intro hE
  obtain ⟨p, e, s, m, args, below, meth, c, dC, dI, cA, ad, Q, hx, hb, hml, hown, hts, hnw, hK, hj, hzw, rfl⟩ := hG
  intro H locs ls hP hS hl
  exact lv_iadd hx hb hd (kk hE H locs ls hP hS hl)
theorem s_isub (hG : OK l cc own nL R G) {x y : Int32} (hd : decode cc pc = .ok (.isub, 1)) (kk : E → G k n S lv (pc + 1) (vI (x - y) :: st)) : E → G k n S lv pc (vI y :: vI x :: st) := by
  intro hE
  obtain ⟨p, e, s, m, args, below, meth, c, dC, dI, cA, ad, Q, hx, hb, hml, hown, hts, hnw, hK, hj, hzw, rfl⟩ := hG
  intro H locs ls hP hS hl
  exact lv_isub hx hb hd (kk hE H locs ls hP hS hl)
theorem s_imul (hG : OK l cc own nL R G) {x y : Int32} (hd : decode cc pc = .ok (.imul, 1)) (kk : E → G k n S lv (pc + 1) (vI (x * y) :: st)) : E → G k n S lv pc (vI y :: vI x :: st) := by
  intro hE
  obtain ⟨p, e, s, m, args, below, meth, c, dC, dI, cA, ad, Q, hx, hb, hml, hown, hts, hnw, hK, hj, hzw, rfl⟩ := hG
  intro H locs ls hP hS hl
  exact lv_imul hx hb hd (kk hE H locs ls hP hS hl)
theorem s_iand (hG : OK l cc own nL R G) {x y : Int32} (hd : decode cc pc = .ok (.iand, 1)) (kk : E → G k n S lv (pc + 1) (vI (x &&& y) :: st)) : E → G k n S lv pc (vI y :: vI x :: st) := by
  intro hE
  obtain ⟨p, e, s, m, args, below, meth, c, dC, dI, cA, ad, Q, hx, hb, hml, hown, hts, hnw, hK, hj, hzw, rfl⟩ := hG
  intro H locs ls hP hS hl
  exact lv_iand hx hb hd (kk hE H locs ls hP hS hl)
theorem s_ior (hG : OK l cc own nL R G) {x y : Int32} (hd : decode cc pc = .ok (.ior, 1)) (kk : E → G k n S lv (pc + 1) (vI (x ||| y) :: st)) : E → G k n S lv pc (vI y :: vI x :: st) := by
  intro hE
  obtain ⟨p, e, s, m, args, below, meth, c, dC, dI, cA, ad, Q, hx, hb, hml, hown, hts, hnw, hK, hj, hzw, rfl⟩ := hG
  intro H locs ls hP hS hl
  exact lv_ior hx hb hd (kk hE H locs ls hP hS hl)
theorem s_ixor (hG : OK l cc own nL R G) {x y : Int32} (hd : decode cc pc = .ok (.ixor, 1)) (kk : E → G k n S lv (pc + 1) (vI (x ^^^ y) :: st)) : E → G k n S lv pc (vI y :: vI x :: st) := by
  intro hE
  obtain ⟨p, e, s, m, args, below, meth, c, dC, dI, cA, ad, Q, hx, hb, hml, hown, hts, hnw, hK, hj, hzw, rfl⟩ := hG
  intro H locs ls hP hS hl
  exact lv_ixor hx hb hd (kk hE H locs ls hP hS hl)
theorem s_ishl (hG : OK l cc own nL R G) {x y : Int32} (hd : decode cc pc = .ok (.ishl, 1)) (kk : E → G k n S lv (pc + 1) (vI (x <<< (y &&& 31)) :: st)) : E → G k n S lv pc (vI y :: vI x :: st) := by
  intro hE
  obtain ⟨p, e, s, m, args, below, meth, c, dC, dI, cA, ad, Q, hx, hb, hml, hown, hts, hnw, hK, hj, hzw, rfl⟩ := hG
  intro H locs ls hP hS hl
  exact lv_ishl hx hb hd (kk hE H locs ls hP hS hl)
theorem s_ishr (hG : OK l cc own nL R G) {x y : Int32} (hd : decode cc pc = .ok (.ishr, 1)) (kk : E → G k n S lv (pc + 1) (vI (x >>> (y &&& 31)) :: st)) : E → G k n S lv pc (vI y :: vI x :: st) := by
  intro hE
  obtain ⟨p, e, s, m, args, below, meth, c, dC, dI, cA, ad, Q, hx, hb, hml, hown, hts, hnw, hK, hj, hzw, rfl⟩ := hG
  intro H locs ls hP hS hl
  exact lv_ishr hx hb hd (kk hE H locs ls hP hS hl)
def ushr (x y : Int32) : Int32 := (x.toUInt32 >>> (y.toUInt32 &&& Int32.toUInt32 31)).toInt32
def lushr (x : Int64) (y : Int32) : Int64 := (x.toUInt64 >>> (y.toInt64.toUInt64 &&& Int64.toUInt64 63)).toInt64
def i2c (x : Int32) : Int32 := (x.toUInt32 % 65536).toInt32
theorem s_iushr (hG : OK l cc own nL R G) {x y : Int32} (hd : decode cc pc = .ok (.iushr, 1)) (kk : E → G k n S lv (pc + 1) (vI (ushr x y) :: st)) : E → G k n S lv pc (vI y :: vI x :: st) := by
  intro hE
  obtain ⟨p, e, s, m, args, below, meth, c, dC, dI, cA, ad, Q, hx, hb, hml, hown, hts, hnw, hK, hj, hzw, rfl⟩ := hG
  intro H locs ls hP hS hl
  exact lv_iushr hx hb hd rfl (kk hE H locs ls hP hS hl)
theorem s_ineg (hG : OK l cc own nL R G) {x : Int32} (hd : decode cc pc = .ok (.ineg, 1)) (kk : E → G k n S lv (pc + 1) (vI (-x) :: st)) : E → G k n S lv pc (vI x :: st) := by
  intro hE
  obtain ⟨p, e, s, m, args, below, meth, c, dC, dI, cA, ad, Q, hx, hb, hml, hown, hts, hnw, hK, hj, hzw, rfl⟩ := hG
  intro H locs ls hP hS hl
  exact lv_ineg hx hb hd (kk hE H locs ls hP hS hl)
theorem s_land (hG : OK l cc own nL R G) {x y : Int64} (hd : decode cc pc = .ok (.land, 1)) (kk : E → G k n S lv (pc + 1) (vL (x &&& y) :: st)) : E → G k n S lv pc (vL y :: vL x :: st) := by
  intro hE
  obtain ⟨p, e, s, m, args, below, meth, c, dC, dI, cA, ad, Q, hx, hb, hml, hown, hts, hnw, hK, hj, hzw, rfl⟩ := hG
  intro H locs ls hP hS hl
  exact lv_land hx hb hd (kk hE H locs ls hP hS hl)
theorem s_lor (hG : OK l cc own nL R G) {x y : Int64} (hd : decode cc pc = .ok (.lor, 1)) (kk : E → G k n S lv (pc + 1) (vL (x ||| y) :: st)) : E → G k n S lv pc (vL y :: vL x :: st) := by
  intro hE
  obtain ⟨p, e, s, m, args, below, meth, c, dC, dI, cA, ad, Q, hx, hb, hml, hown, hts, hnw, hK, hj, hzw, rfl⟩ := hG
  intro H locs ls hP hS hl
  exact lv_lor hx hb hd (kk hE H locs ls hP hS hl)
theorem s_ladd (hG : OK l cc own nL R G) {x y : Int64} (hd : decode cc pc = .ok (.ladd, 1)) (kk : E → G k n S lv (pc + 1) (vL (x + y) :: st)) : E → G k n S lv pc (vL y :: vL x :: st) := by
  intro hE
  obtain ⟨p, e, s, m, args, below, meth, c, dC, dI, cA, ad, Q, hx, hb, hml, hown, hts, hnw, hK, hj, hzw, rfl⟩ := hG
  intro H locs ls hP hS hl
  exact lv_ladd hx hb hd (kk hE H locs ls hP hS hl)
theorem s_lsub (hG : OK l cc own nL R G) {x y : Int64} (hd : decode cc pc = .ok (.lsub, 1)) (kk : E → G k n S lv (pc + 1) (vL (x - y) :: st)) : E → G k n S lv pc (vL y :: vL x :: st) := by
  intro hE
  obtain ⟨p, e, s, m, args, below, meth, c, dC, dI, cA, ad, Q, hx, hb, hml, hown, hts, hnw, hK, hj, hzw, rfl⟩ := hG
  intro H locs ls hP hS hl
  exact lv_lsub hx hb hd (kk hE H locs ls hP hS hl)
theorem s_lshl (hG : OK l cc own nL R G) {x : Int64} {y : Int32} (hd : decode cc pc = .ok (.lshl, 1)) (kk : E → G k n S lv (pc + 1) (vL (x <<< (y.toInt64 &&& 63)) :: st)) : E → G k n S lv pc (vI y :: vL x :: st) := by
  intro hE
  obtain ⟨p, e, s, m, args, below, meth, c, dC, dI, cA, ad, Q, hx, hb, hml, hown, hts, hnw, hK, hj, hzw, rfl⟩ := hG
  intro H locs ls hP hS hl
  exact lv_lshl hx hb hd rfl (kk hE H locs ls hP hS hl)
theorem s_lshr (hG : OK l cc own nL R G) {x : Int64} {y : Int32} (hd : decode cc pc = .ok (.lshr, 1)) (kk : E → G k n S lv (pc + 1) (vL (x >>> (y.toInt64 &&& 63)) :: st)) : E → G k n S lv pc (vI y :: vL x :: st) := by
  intro hE
  obtain ⟨p, e, s, m, args, below, meth, c, dC, dI, cA, ad, Q, hx, hb, hml, hown, hts, hnw, hK, hj, hzw, rfl⟩ := hG
  intro H locs ls hP hS hl
  exact lv_lshr hx hb hd rfl (kk hE H locs ls hP hS hl)
theorem s_lushr (hG : OK l cc own nL R G) {x : Int64} {y : Int32} (hd : decode cc pc = .ok (.lushr, 1)) (kk : E → G k n S lv (pc + 1) (vL (lushr x y) :: st)) : E → G k n S lv pc (vI y :: vL x :: st) := by
  intro hE
  obtain ⟨p, e, s, m, args, below, meth, c, dC, dI, cA, ad, Q, hx, hb, hml, hown, hts, hnw, hK, hj, hzw, rfl⟩ := hG
  intro H locs ls hP hS hl
  exact lv_lushr hx hb hd rfl (kk hE H locs ls hP hS hl)
theorem s_lcmp (hG : OK l cc own nL R G) {x y : Int64} (hd : decode cc pc = .ok (.lcmp, 1)) (kk : E → G k n S lv (pc + 1) (vI (lg_cmp x y) :: st)) : E → G k n S lv pc (vL y :: vL x :: st) := by
  intro hE
  obtain ⟨p, e, s, m, args, below, meth, c, dC, dI, cA, ad, Q, hx, hb, hml, hown, hts, hnw, hK, hj, hzw, rfl⟩ := hG
  intro H locs ls hP hS hl
  exact W.lcmp hx hb hd (kk hE H locs ls hP hS hl)
theorem s_i2l (hG : OK l cc own nL R G) {x : Int32} (hd : decode cc pc = .ok (.i2l, 1)) (kk : E → G k n S lv (pc + 1) (vL x.toInt64 :: st)) : E → G k n S lv pc (vI x :: st) := by
  intro hE
  obtain ⟨p, e, s, m, args, below, meth, c, dC, dI, cA, ad, Q, hx, hb, hml, hown, hts, hnw, hK, hj, hzw, rfl⟩ := hG
  intro H locs ls hP hS hl
  exact lv_i2l hx hb hd rfl (kk hE H locs ls hP hS hl)
theorem s_l2i (hG : OK l cc own nL R G) {x : Int64} (hd : decode cc pc = .ok (.l2i, 1)) (kk : E → G k n S lv (pc + 1) (vI x.toInt32 :: st)) : E → G k n S lv pc (vL x :: st) := by
  intro hE
  obtain ⟨p, e, s, m, args, below, meth, c, dC, dI, cA, ad, Q, hx, hb, hml, hown, hts, hnw, hK, hj, hzw, rfl⟩ := hG
  intro H locs ls hP hS hl
  exact lv_l2i hx hb hd rfl (kk hE H locs ls hP hS hl)
theorem s_i2c (hG : OK l cc own nL R G) {x : Int32} (hd : decode cc pc = .ok (.i2c, 1)) (kk : E → G k n S lv (pc + 1) (vI (i2c x) :: st)) : E → G k n S lv pc (vI x :: st) := by
  intro hE
  obtain ⟨p, e, s, m, args, below, meth, c, dC, dI, cA, ad, Q, hx, hb, hml, hown, hts, hnw, hK, hj, hzw, rfl⟩ := hG
  intro H locs ls hP hS hl
  exact lv_i2c hx hb hd rfl (kk hE H locs ls hP hS hl)
theorem s_dup (hG : OK l cc own nL R G) {v : AV} (hd : decode cc pc = .ok (.dup, 1)) (hc : cat2 v = false) (kk : E → G k n S lv (pc + 1) (v :: v :: st)) : E → G k n S lv pc (v :: st) := by
  intro hE
  obtain ⟨p, e, s, m, args, below, meth, c, dC, dI, cA, ad, Q, hx, hb, hml, hown, hts, hnw, hK, hj, hzw, rfl⟩ := hG
  intro H locs ls hP hS hl
  exact lv_dup hx hb hd (gV_cat1 hc) (kk hE H locs ls hP hS hl)
theorem s_dup2 (hG : OK l cc own nL R G) {v u : AV} (hd : decode cc pc = .ok (.dup2, 1)) (hc : cat2 v = false) (hc2 : cat2 u = false) (kk : E → G k n S lv (pc + 1) (v :: u :: v :: u :: st)) : E → G k n S lv pc (v :: u :: st) := by
  intro hE
  obtain ⟨p, e, s, m, args, below, meth, c, dC, dI, cA, ad, Q, hx, hb, hml, hown, hts, hnw, hK, hj, hzw, rfl⟩ := hG
  intro H locs ls hP hS hl
  exact lv_dup2_11 hx hb hd (gV_cat1 hc) (gV_cat1 hc2) (kk hE H locs ls hP hS hl)
theorem s_pop (hG : OK l cc own nL R G) {v : AV} (hd : decode cc pc = .ok (.pop, 1)) (hc : cat2 v = false) (kk : E → G k n S lv (pc + 1) (st)) : E → G k n S lv pc (v :: st) := by
  intro hE
  obtain ⟨p, e, s, m, args, below, meth, c, dC, dI, cA, ad, Q, hx, hb, hml, hown, hts, hnw, hK, hj, hzw, rfl⟩ := hG
  intro H locs ls hP hS hl
  exact lv_pop hx hb hd (gV_cat1 hc) (kk hE H locs ls hP hS hl)
theorem s_goto (hG : OK l cc own nL R G) {off : Int} {tgt : Nat} (hd : decode cc pc = .ok (.goto off, 3)) (ht : (pc : Int) + off = (tgt : Int)) (kk : E → G k n S lv tgt st) : E → G k n S lv pc st := by
  intro hE
  obtain ⟨p, e, s, m, args, below, meth, c, dC, dI, cA, ad, Q, hx, hb, hml, hown, hts, hnw, hK, hj, hzw, rfl⟩ := hG
  intro H locs ls hP hS hl
  exact lv_goto hx hb hd ht (kk hE H locs ls hP hS hl)
theorem s_lv (hG : OK l cc own nL R G) {lv' : List (Nat × AV)} (ks : List Nat) (h : ks.filterMap (fun i => lv[i]?) = lv') (kk : E → G k n S lv' pc st) : E → G k n S lv pc st := by
  intro hE
  obtain ⟨p, e, s, m, args, below, meth, c, dC, dI, cA, ad, Q, hx, hb, hml, hown, hts, hnw, hK, hj, hzw, rfl⟩ := hG
  intro H locs ls hP hS hl
  refine kk hE H locs ls hP hS (lv_sub hl ks ?_)
  subst h
  unfold lv_pick gL
  rw [List.map_filterMap]
  congr 1
  funext i
  simp
theorem s_idiv (hG : OK l cc own nL R G) {α : Type} {A : Option α} {out : α} {x y : Int32} (hd : decode cc pc = .ok (.idiv, 1)) (kk : A = some out → G k n S lv (pc + 1) (vI (x / y) :: st)) : (if y = 0 then none else A) = some out → G k n S lv pc (vI y :: vI x :: st) := by
  intro hE
  by_cases hy : y = 0
  · rw [if_pos hy] at hE; cases hE
  rw [if_neg hy] at hE
  obtain ⟨p, e, s, m, args, below, meth, c, dC, dI, cA, ad, Q, hx, hb, hml, hown, hts, hnw, hK, hj, hzw, rfl⟩ := hG
  intro H locs ls hP hS hl
  exact lv_idiv hx hb hd hy (kk hE H locs ls hP hS hl)
theorem s_irem (hG : OK l cc own nL R G) {α : Type} {A : Option α} {out : α} {x y : Int32} (hd : decode cc pc = .ok (.irem, 1)) (kk : A = some out → G k n S lv (pc + 1) (vI (x - x / y * y) :: st)) : (if y = 0 then none else A) = some out → G k n S lv pc (vI y :: vI x :: st) := by
  intro hE
  by_cases hy : y = 0
  · rw [if_pos hy] at hE; cases hE
  rw [if_neg hy] at hE
  obtain ⟨p, e, s, m, args, below, meth, c, dC, dI, cA, ad, Q, hx, hb, hml, hown, hts, hnw, hK, hj, hzw, rfl⟩ := hG
  intro H locs ls hP hS hl
  exact lv_irem hx hb hd hy (kk hE H locs ls hP hS hl)
theorem s_if_eq (hG : OK l cc own nL R G) {α : Type} {A B : Option α} {out : α} {x : Int32} {off : Int} {tgt : Nat} (hd : decode cc pc = .ok (.ifCond .eq off, 3)) (ht : (pc : Int) + off = (tgt : Int)) (kt : A = some out → G k n S lv tgt st) (kf : B = some out → G k n S lv (pc + 3) st) : (if x = 0 then A else B) = some out → G k n S lv pc (vI x :: st) := by
  intro hE
  obtain ⟨p, e, s, m, args, below, meth, c, dC, dI, cA, ad, Q, hx, hb, hml, hown, hts, hnw, hK, hj, hzw, rfl⟩ := hG
  intro H locs ls hP hS hl
  exact lv_if_eq hx hb hd ht (fun h => kt (by rwa [if_pos h] at hE) H locs ls hP hS hl) (fun h => kf (by rwa [if_neg h] at hE) H locs ls hP hS hl)
theorem s_if_lt (hG : OK l cc own nL R G) {α : Type} {A B : Option α} {out : α} {x : Int32} {off : Int} {tgt : Nat} (hd : decode cc pc = .ok (.ifCond .lt off, 3)) (ht : (pc : Int) + off = (tgt : Int)) (kt : A = some out → G k n S lv tgt st) (kf : B = some out → G k n S lv (pc + 3) st) : (if x < 0 then A else B) = some out → G k n S lv pc (vI x :: st) := by
  intro hE
  obtain ⟨p, e, s, m, args, below, meth, c, dC, dI, cA, ad, Q, hx, hb, hml, hown, hts, hnw, hK, hj, hzw, rfl⟩ := hG
  intro H locs ls hP hS hl
  exact lv_if_lt hx hb hd ht (fun h => kt (by rwa [if_pos h] at hE) H locs ls hP hS hl) (fun h => kf (by rwa [if_neg h] at hE) H locs ls hP hS hl)
theorem s_if_le (hG : OK l cc own nL R G) {α : Type} {A B : Option α} {out : α} {x : Int32} {off : Int} {tgt : Nat} (hd : decode cc pc = .ok (.ifCond .le off, 3)) (ht : (pc : Int) + off = (tgt : Int)) (kt : A = some out → G k n S lv tgt st) (kf : B = some out → G k n S lv (pc + 3) st) : (if x ≤ 0 then A else B) = some out → G k n S lv pc (vI x :: st) := by
  intro hE
  obtain ⟨p, e, s, m, args, below, meth, c, dC, dI, cA, ad, Q, hx, hb, hml, hown, hts, hnw, hK, hj, hzw, rfl⟩ := hG
  intro H locs ls hP hS hl
  exact lv_if_le hx hb hd ht (fun h => kt (by rwa [if_pos h] at hE) H locs ls hP hS hl) (fun h => kf (by rwa [if_neg h] at hE) H locs ls hP hS hl)
theorem s_if_ge (hG : OK l cc own nL R G) {α : Type} {A B : Option α} {out : α} {x : Int32} {off : Int} {tgt : Nat} (hd : decode cc pc = .ok (.ifCond .ge off, 3)) (ht : (pc : Int) + off = (tgt : Int)) (kt : A = some out → G k n S lv tgt st) (kf : B = some out → G k n S lv (pc + 3) st) : (if 0 ≤ x then A else B) = some out → G k n S lv pc (vI x :: st) := by
  intro hE
  obtain ⟨p, e, s, m, args, below, meth, c, dC, dI, cA, ad, Q, hx, hb, hml, hown, hts, hnw, hK, hj, hzw, rfl⟩ := hG
  intro H locs ls hP hS hl
  exact lv_if_ge hx hb hd ht (fun h => kt (by rwa [if_pos h] at hE) H locs ls hP hS hl) (fun h => kf (by rwa [if_neg h] at hE) H locs ls hP hS hl)
theorem s_if_gt (hG : OK l cc own nL R G) {α : Type} {A B : Option α} {out : α} {x : Int32} {off : Int} {tgt : Nat} (hd : decode cc pc = .ok (.ifCond .gt off, 3)) (ht : (pc : Int) + off = (tgt : Int)) (kt : A = some out → G k n S lv tgt st) (kf : B = some out → G k n S lv (pc + 3) st) : (if 0 < x then A else B) = some out → G k n S lv pc (vI x :: st) := by
  intro hE
  obtain ⟨p, e, s, m, args, below, meth, c, dC, dI, cA, ad, Q, hx, hb, hml, hown, hts, hnw, hK, hj, hzw, rfl⟩ := hG
  intro H locs ls hP hS hl
  exact lv_if_gt hx hb hd ht (fun h => kt (by rwa [if_pos h] at hE) H locs ls hP hS hl) (fun h => kf (by rwa [if_neg h] at hE) H locs ls hP hS hl)
theorem s_icmp_eq (hG : OK l cc own nL R G) {α : Type} {A B : Option α} {out : α} {x y : Int32} {off : Int} {tgt : Nat} (hd : decode cc pc = .ok (.if_icmp .eq off, 3)) (ht : (pc : Int) + off = (tgt : Int)) (kt : A = some out → G k n S lv tgt st) (kf : B = some out → G k n S lv (pc + 3) st) : (if x = y then A else B) = some out → G k n S lv pc (vI y :: vI x :: st) := by
  intro hE
  obtain ⟨p, e, s, m, args, below, meth, c, dC, dI, cA, ad, Q, hx, hb, hml, hown, hts, hnw, hK, hj, hzw, rfl⟩ := hG
  intro H locs ls hP hS hl
  exact lv_icmp_eq hx hb hd ht (fun h => kt (by rwa [if_pos h] at hE) H locs ls hP hS hl) (fun h => kf (by rwa [if_neg h] at hE) H locs ls hP hS hl)
theorem s_icmp_lt (hG : OK l cc own nL R G) {α : Type} {A B : Option α} {out : α} {x y : Int32} {off : Int} {tgt : Nat} (hd : decode cc pc = .ok (.if_icmp .lt off, 3)) (ht : (pc : Int) + off = (tgt : Int)) (kt : A = some out → G k n S lv tgt st) (kf : B = some out → G k n S lv (pc + 3) st) : (if x < y then A else B) = some out → G k n S lv pc (vI y :: vI x :: st) := by
  intro hE
  obtain ⟨p, e, s, m, args, below, meth, c, dC, dI, cA, ad, Q, hx, hb, hml, hown, hts, hnw, hK, hj, hzw, rfl⟩ := hG
  intro H locs ls hP hS hl
  exact lv_icmp_lt hx hb hd ht (fun h => kt (by rwa [if_pos h] at hE) H locs ls hP hS hl) (fun h => kf (by rwa [if_neg h] at hE) H locs ls hP hS hl)
theorem s_icmp_gt (hG : OK l cc own nL R G) {α : Type} {A B : Option α} {out : α} {x y : Int32} {off : Int} {tgt : Nat} (hd : decode cc pc = .ok (.if_icmp .gt off, 3)) (ht : (pc : Int) + off = (tgt : Int)) (kt : A = some out → G k n S lv tgt st) (kf : B = some out → G k n S lv (pc + 3) st) : (if y < x then A else B) = some out → G k n S lv pc (vI y :: vI x :: st) := by
  intro hE
  obtain ⟨p, e, s, m, args, below, meth, c, dC, dI, cA, ad, Q, hx, hb, hml, hown, hts, hnw, hK, hj, hzw, rfl⟩ := hG
  intro H locs ls hP hS hl
  exact lv_icmp_gt hx hb hd ht (fun h => kt (by rwa [if_pos h] at hE) H locs ls hP hS hl) (fun h => kf (by rwa [if_neg h] at hE) H locs ls hP hS hl)
theorem s_icmp_le (hG : OK l cc own nL R G) {α : Type} {A B : Option α} {out : α} {x y : Int32} {off : Int} {tgt : Nat} (hd : decode cc pc = .ok (.if_icmp .le off, 3)) (ht : (pc : Int) + off = (tgt : Int)) (kt : A = some out → G k n S lv tgt st) (kf : B = some out → G k n S lv (pc + 3) st) : (if x ≤ y then A else B) = some out → G k n S lv pc (vI y :: vI x :: st) := by
  intro hE
  obtain ⟨p, e, s, m, args, below, meth, c, dC, dI, cA, ad, Q, hx, hb, hml, hown, hts, hnw, hK, hj, hzw, rfl⟩ := hG
  intro H locs ls hP hS hl
  exact lv_icmp_le hx hb hd ht (fun h => kt (by rwa [if_pos h] at hE) H locs ls hP hS hl) (fun h => kf (by rwa [if_neg h] at hE) H locs ls hP hS hl)
theorem s_icmp_ge (hG : OK l cc own nL R G) {α : Type} {A B : Option α} {out : α} {x y : Int32} {off : Int} {tgt : Nat} (hd : decode cc pc = .ok (.if_icmp .ge off, 3)) (ht : (pc : Int) + off = (tgt : Int)) (kt : A = some out → G k n S lv tgt st) (kf : B = some out → G k n S lv (pc + 3) st) : (if y ≤ x then A else B) = some out → G k n S lv pc (vI y :: vI x :: st) := by
  intro hE
  obtain ⟨p, e, s, m, args, below, meth, c, dC, dI, cA, ad, Q, hx, hb, hml, hown, hts, hnw, hK, hj, hzw, rfl⟩ := hG
  intro H locs ls hP hS hl
  exact lv_icmp_ge hx hb hd ht (fun h => kt (by rwa [if_pos h] at hE) H locs ls hP hS hl) (fun h => kf (by rwa [if_neg h] at hE) H locs ls hP hS hl)
theorem s_if_ne (hG : OK l cc own nL R G) {α : Type} {A B : Option α} {out : α} {x : Int32} {off : Int} {tgt : Nat} (hd : decode cc pc = .ok (.ifCond .ne off, 3)) (ht : (pc : Int) + off = (tgt : Int)) (kt : A = some out → G k n S lv tgt st) (kf : B = some out → G k n S lv (pc + 3) st) : (if x = 0 then B else A) = some out → G k n S lv pc (vI x :: st) := by
  intro hE
  obtain ⟨p, e, s, m, args, below, meth, c, dC, dI, cA, ad, Q, hx, hb, hml, hown, hts, hnw, hK, hj, hzw, rfl⟩ := hG
  intro H locs ls hP hS hl
  exact lv_if_ne hx hb hd ht (fun h => kt (by rwa [if_neg h] at hE) H locs ls hP hS hl) (fun h => kf (by rwa [if_pos h] at hE) H locs ls hP hS hl)
theorem s_icmp_ne (hG : OK l cc own nL R G) {α : Type} {A B : Option α} {out : α} {x y : Int32} {off : Int} {tgt : Nat} (hd : decode cc pc = .ok (.if_icmp .ne off, 3)) (ht : (pc : Int) + off = (tgt : Int)) (kt : A = some out → G k n S lv tgt st) (kf : B = some out → G k n S lv (pc + 3) st) : (if x = y then B else A) = some out → G k n S lv pc (vI y :: vI x :: st) := by
  intro hE
  obtain ⟨p, e, s, m, args, below, meth, c, dC, dI, cA, ad, Q, hx, hb, hml, hown, hts, hnw, hK, hj, hzw, rfl⟩ := hG
  intro H locs ls hP hS hl
  exact lv_icmp_ne hx hb hd ht (fun h => kt (by rwa [if_neg h] at hE) H locs ls hP hS hl) (fun h => kf (by rwa [if_pos h] at hE) H locs ls hP hS hl)
theorem s_getI (hG : OK l cc own nL R G) {a kf ci idx z : Nat} {ty : FieldType} (hd : decode cc pc = .ok (.getfield idx, 3)) (hf : FL own idx ci kf ty) (h : fk a kf = some (ci, (0, z))) (kk : E → G k n S lv (pc + 3) (vI (S.1 a kf) :: st)) : E → G k n S lv pc (vR a :: st) := by
  intro hE
  obtain ⟨p, e, s, m, args, below, meth, c, dC, dI, cA, ad, Q, hx, hb, hml, hown, hts, hnw, hK, hj, hzw, rfl⟩ := hG
  intro H locs ls hP hS hl
  obtain ⟨ks, h1, h2⟩ := fk_at h
  obtain ⟨C, T, N, ty0, hc, hk, hin, hty, hnm, -, hlk⟩ := hf
  have he := wld_at (cA := cA) (ad := ad) (S := S) h1
  have hv : (ks.mapIdx fun j kd => fV ad S a j kd)[kf]? = some (.int (S.1 a kf)) := by
    rw [List.getElem?_mapIdx, h2]
    simp [fV]
  rcases hlk with hlk | ⟨host, hlk⟩
  · exact va_get (D := (dC, dI)) (ci := ci) (C := C) (T := T) (N := N) hx hb hts hin hown hK hP a he hc kf hk (hts _ hlk) (fun _ h9 => h9) hv hd (kk hE H locs ls hP hS hl)
  · exact va_getN (D := (dC, dI)) (ci := ci) (C := C) (T := T) (N := N) hx hb hts hin hown hK hP a he hc kf hk (va_Nw.use rfl (hnw.1 _ hlk)) (fun _ h9 => h9) hv hd (kk hE H locs ls hP hS hl)
theorem s_getL (hG : OK l cc own nL R G) {a kf ci idx z : Nat} {ty : FieldType} (hd : decode cc pc = .ok (.getfield idx, 3)) (hf : FL own idx ci kf ty) (h : fk a kf = some (ci, (1, z))) (kk : E → G k n S lv (pc + 3) (vL (S.2.1 a kf) :: st)) : E → G k n S lv pc (vR a :: st) := by
  intro hE
  obtain ⟨p, e, s, m, args, below, meth, c, dC, dI, cA, ad, Q, hx, hb, hml, hown, hts, hnw, hK, hj, hzw, rfl⟩ := hG
  intro H locs ls hP hS hl
  obtain ⟨ks, h1, h2⟩ := fk_at h
  obtain ⟨C, T, N, ty0, hc, hk, hin, hty, hnm, -, hlk⟩ := hf
  have he := wld_at (cA := cA) (ad := ad) (S := S) h1
  have hv : (ks.mapIdx fun j kd => fV ad S a j kd)[kf]? = some (.long (S.2.1 a kf)) := by
    rw [List.getElem?_mapIdx, h2]
    simp [fV]
  rcases hlk with hlk | ⟨host, hlk⟩
  · exact va_get (D := (dC, dI)) (ci := ci) (C := C) (T := T) (N := N) hx hb hts hin hown hK hP a he hc kf hk (hts _ hlk) (fun _ h9 => h9) hv hd (kk hE H locs ls hP hS hl)
  · exact va_getN (D := (dC, dI)) (ci := ci) (C := C) (T := T) (N := N) hx hb hts hin hown hK hP a he hc kf hk (va_Nw.use rfl (hnw.1 _ hlk)) (fun _ h9 => h9) hv hd (kk hE H locs ls hP hS hl)
theorem s_getC (hG : OK l cc own nL R G) {a kf ci idx z : Nat} {ty : FieldType} (hd : decode cc pc = .ok (.getfield idx, 3)) (hf : FL own idx ci kf ty) (h : fk a kf = some (ci, (3, z))) (kk : E → G k n S lv (pc + 3) (vR z :: st)) : E → G k n S lv pc (vR a :: st) := by
  intro hE
  obtain ⟨p, e, s, m, args, below, meth, c, dC, dI, cA, ad, Q, hx, hb, hml, hown, hts, hnw, hK, hj, hzw, rfl⟩ := hG
  intro H locs ls hP hS hl
  obtain ⟨ks, h1, h2⟩ := fk_at h
  obtain ⟨C, T, N, ty0, hc, hk, hin, hty, hnm, -, hlk⟩ := hf
  have he := wld_at (cA := cA) (ad := ad) (S := S) h1
  have hv : (ks.mapIdx fun j kd => fV ad S a j kd)[kf]? = some (.ref (ad z)) := by
    rw [List.getElem?_mapIdx, h2]
    simp [fV]
  rcases hlk with hlk | ⟨host, hlk⟩
  · exact va_get (D := (dC, dI)) (ci := ci) (C := C) (T := T) (N := N) hx hb hts hin hown hK hP a he hc kf hk (hts _ hlk) (fun _ h9 => h9) hv hd (kk hE H locs ls hP hS hl)
  · exact va_getN (D := (dC, dI)) (ci := ci) (C := C) (T := T) (N := N) hx hb hts hin hown hK hP a he hc kf hk (va_Nw.use rfl (hnw.1 _ hlk)) (fun _ h9 => h9) hv hd (kk hE H locs ls hP hS hl)
theorem s_getR0 (hG : OK l cc own nL R G) {a kf ci idx z : Nat} {ty : FieldType} {b : Nat} (hd : decode cc pc = .ok (.getfield idx, 3)) (hf : FL own idx ci kf ty) (h : fk a kf = some (ci, (2, z))) (hr : S.2.2 a kf = some b) (kk : E → G k n S lv (pc + 3) (vR b :: st)) : E → G k n S lv pc (vR a :: st) := by
  intro hE
  obtain ⟨p, e, s, m, args, below, meth, c, dC, dI, cA, ad, Q, hx, hb, hml, hown, hts, hnw, hK, hj, hzw, rfl⟩ := hG
  intro H locs ls hP hS hl
  obtain ⟨ks, h1, h2⟩ := fk_at h
  obtain ⟨C, T, N, ty0, hc, hk, hin, hty, hnm, -, hlk⟩ := hf
  have he := wld_at (cA := cA) (ad := ad) (S := S) h1
  have hv : (ks.mapIdx fun j kd => fV ad S a j kd)[kf]? = some (.ref (ad b)) := by
    rw [List.getElem?_mapIdx, h2]
    simp [fV, hr, va_rf]
  rcases hlk with hlk | ⟨host, hlk⟩
  · exact va_get (D := (dC, dI)) (ci := ci) (C := C) (T := T) (N := N) hx hb hts hin hown hK hP a he hc kf hk (hts _ hlk) (fun _ h9 => h9) hv hd (kk hE H locs ls hP hS hl)
  · exact va_getN (D := (dC, dI)) (ci := ci) (C := C) (T := T) (N := N) hx hb hts hin hown hK hP a he hc kf hk (va_Nw.use rfl (hnw.1 _ hlk)) (fun _ h9 => h9) hv hd (kk hE H locs ls hP hS hl)
def rf {α : Type} (r : Option Nat) (ci : Nat) (f : Nat → Option α) : Option α := match r with
  | none => none
  | some b => if oc b = some ci then f b else none
theorem s_getR (hG : OK l cc own nL R G) {α : Type} {out : α} {F : Nat → Option α} {a kf ci idx z cj : Nat} {ty : FieldType} (hd : decode cc pc = .ok (.getfield idx, 3)) (hf : FL own idx ci kf ty) (h : fk a kf = some (ci, (2, z))) (kk : ∀ b, oc b = some cj → F b = some out → G k n S lv (pc + 3) (vR b :: st)) : rf (S.2.2 a kf) cj F = some out → G k n S lv pc (vR a :: st) := by
  intro hE
  unfold rf at hE
  split at hE
  · cases hE
  · next b hb =>
    by_cases ho : oc b = some cj
    · rw [if_pos ho] at hE
      exact s_getR0 hG hd hf h hb (kk b ho) hE
    · rw [if_neg ho] at hE
      cases hE
theorem s_putI (hG : OK l cc own nL R G) {a kf ci idx z : Nat} {ty : FieldType} {x : Int32} (hd : decode cc pc = .ok (.putfield idx, 3)) (hf : FL own idx ci kf ty) (hp : FP ci kf) (h : fk a kf = some (ci, (0, z))) (hn : narrow ty (.int x) = .int x ∧ fits ty (.int x) = true) (kk : E → G k n (sI S a kf x) lv (pc + 3) st) : E → G k n S lv pc (vI x :: vR a :: st) := by
  intro hE
  obtain ⟨p, e, s, m, args, below, meth, c, dC, dI, cA, ad, Q, hx, hb, hml, hown, hts, hnw, hK, hj, hzw, rfl⟩ := hG
  intro H locs ls hP hS hl
  obtain ⟨ks, h1, h2⟩ := fk_at h
  obtain ⟨C, T, N, ty0, hc, hk, hin, hty, hnm, hte, hlk⟩ := hf
  have he := wld_at (cA := cA) (ad := ad) (S := S) h1
  have hD : va_D (fA ad s.heap.size) (wld cA ad S) := wld_D hj (fun k hk => Or.inl ⟨k, hk, rfl⟩)
  have hl9 : kf < (ks.mapIdx fun j kd => fV ad S a j kd).length := by
    rcases List.getElem?_eq_some_iff.mp h2 with ⟨q, -⟩
    simpa using q
  have hpd : parseFieldDescriptor (T kf).2.2.1 = some ty := by rw [hty kf hk, hte]
  rcases hlk with hlk | ⟨host, hlk⟩
  · exact va_put (D := (dC, dI)) (ci := ci) (C := C) (T := T) (N := N) (ty := ty) hx hb hts hin ty0 hty hnm hown hK hP hD hS a he hc kf hk (hts _ hlk) (fun _ h9 => h9) (hp C T N hc) hpd hn.1 hn.2 hl9 hd (fun H1 locs1 hP1 _ hS1 => kk hE H1 locs1 ls (by rw [← setI_obj h1 h2]; exact hP1) hS1 hl)
  · exact va_putN (D := (dC, dI)) (ci := ci) (C := C) (T := T) (N := N) (ty := ty) hx hb hts hin ty0 hty hnm hown hK hP hD hS a he hc kf hk (va_Nw.use rfl (hnw.1 _ hlk)) (fun _ h9 => h9) (hp C T N hc) hpd hn.1 hn.2 hl9 hd (fun H1 locs1 hP1 _ hS1 => kk hE H1 locs1 ls (by rw [← setI_obj h1 h2]; exact hP1) hS1 hl)
theorem s_putL (hG : OK l cc own nL R G) {a kf ci idx z : Nat} {ty : FieldType} {x : Int64} (hd : decode cc pc = .ok (.putfield idx, 3)) (hf : FL own idx ci kf ty) (hp : FP ci kf) (h : fk a kf = some (ci, (1, z))) (hn : narrow ty (.long x) = .long x ∧ fits ty (.long x) = true) (kk : E → G k n (sL S a kf x) lv (pc + 3) st) : E → G k n S lv pc (vL x :: vR a :: st) := by
  intro hE
  obtain ⟨p, e, s, m, args, below, meth, c, dC, dI, cA, ad, Q, hx, hb, hml, hown, hts, hnw, hK, hj, hzw, rfl⟩ := hG
  intro H locs ls hP hS hl
  obtain ⟨ks, h1, h2⟩ := fk_at h
  obtain ⟨C, T, N, ty0, hc, hk, hin, hty, hnm, hte, hlk⟩ := hf
  have he := wld_at (cA := cA) (ad := ad) (S := S) h1
  have hD : va_D (fA ad s.heap.size) (wld cA ad S) := wld_D hj (fun k hk => Or.inl ⟨k, hk, rfl⟩)
  have hl9 : kf < (ks.mapIdx fun j kd => fV ad S a j kd).length := by
    rcases List.getElem?_eq_some_iff.mp h2 with ⟨q, -⟩
    simpa using q
  have hpd : parseFieldDescriptor (T kf).2.2.1 = some ty := by rw [hty kf hk, hte]
  rcases hlk with hlk | ⟨host, hlk⟩
  · exact va_put (D := (dC, dI)) (ci := ci) (C := C) (T := T) (N := N) (ty := ty) hx hb hts hin ty0 hty hnm hown hK hP hD hS a he hc kf hk (hts _ hlk) (fun _ h9 => h9) (hp C T N hc) hpd hn.1 hn.2 hl9 hd (fun H1 locs1 hP1 _ hS1 => kk hE H1 locs1 ls (by rw [← setL_obj h1 h2]; exact hP1) hS1 hl)
  · exact va_putN (D := (dC, dI)) (ci := ci) (C := C) (T := T) (N := N) (ty := ty) hx hb hts hin ty0 hty hnm hown hK hP hD hS a he hc kf hk (va_Nw.use rfl (hnw.1 _ hlk)) (fun _ h9 => h9) (hp C T N hc) hpd hn.1 hn.2 hl9 hd (fun H1 locs1 hP1 _ hS1 => kk hE H1 locs1 ls (by rw [← setL_obj h1 h2]; exact hP1) hS1 hl)
theorem s_putR (hG : OK l cc own nL R G) {a kf ci idx z : Nat} {ty : FieldType} {b : Nat} (hd : decode cc pc = .ok (.putfield idx, 3)) (hf : FL own idx ci kf ty) (hp : FP ci kf) (h : fk a kf = some (ci, (2, z))) (hn : ∀ q9 : Nat, narrow ty (.ref q9) = .ref q9 ∧ fits ty (.ref q9) = true) (kk : E → G k n (sR S a kf (some b)) lv (pc + 3) st) : E → G k n S lv pc (vR b :: vR a :: st) := by
  intro hE
  obtain ⟨p, e, s, m, args, below, meth, c, dC, dI, cA, ad, Q, hx, hb, hml, hown, hts, hnw, hK, hj, hzw, rfl⟩ := hG
  intro H locs ls hP hS hl
  obtain ⟨ks, h1, h2⟩ := fk_at h
  obtain ⟨C, T, N, ty0, hc, hk, hin, hty, hnm, hte, hlk⟩ := hf
  have he := wld_at (cA := cA) (ad := ad) (S := S) h1
  have hD : va_D (fA ad s.heap.size) (wld cA ad S) := wld_D hj (fun k hk => Or.inl ⟨k, hk, rfl⟩)
  have hl9 : kf < (ks.mapIdx fun j kd => fV ad S a j kd).length := by
    rcases List.getElem?_eq_some_iff.mp h2 with ⟨q, -⟩
    simpa using q
  have hpd : parseFieldDescriptor (T kf).2.2.1 = some ty := by rw [hty kf hk, hte]
  rcases hlk with hlk | ⟨host, hlk⟩
  · exact va_put (D := (dC, dI)) (ci := ci) (C := C) (T := T) (N := N) (ty := ty) hx hb hts hin ty0 hty hnm hown hK hP hD hS a he hc kf hk (hts _ hlk) (fun _ h9 => h9) (hp C T N hc) hpd (hn (ad b)).1 (hn (ad b)).2 hl9 hd (fun H1 locs1 hP1 _ hS1 => kk hE H1 locs1 ls (by rw [← setR_obj h1 h2]; exact hP1) hS1 hl)
  · exact va_putN (D := (dC, dI)) (ci := ci) (C := C) (T := T) (N := N) (ty := ty) hx hb hts hin ty0 hty hnm hown hK hP hD hS a he hc kf hk (va_Nw.use rfl (hnw.1 _ hlk)) (fun _ h9 => h9) (hp C T N hc) hpd (hn (ad b)).1 (hn (ad b)).2 hl9 hd (fun H1 locs1 hP1 _ hS1 => kk hE H1 locs1 ls (by rw [← setR_obj h1 h2]; exact hP1) hS1 hl)
theorem s_putZ (hG : OK l cc own nL R G) {α : Type} {A : Option α} {out : α} {a kf ci idx z : Nat} {x : Int32} (hd : decode cc pc = .ok (.putfield idx, 3)) (hf : FL own idx ci kf .boolean) (hp : FP ci kf) (h : fk a kf = some (ci, (0, z))) (kk : A = some out → G k n (sI S a kf x) lv (pc + 3) st) : (if nz x = true then A else none) = some out → G k n S lv pc (vI x :: vR a :: st) := by
  intro hE
  by_cases hy : nz x = true
  · rw [if_pos hy] at hE
    exact s_putI hG hd hf hp h (nz_ok hy) kk hE
  · rw [if_neg hy] at hE; cases hE
theorem s_iaload (hG : OK l cc own nL R G) {α : Type} {A : Option α} {out : α} {a N : Nat} {i : Int32} (hd : decode cc pc = .ok (.iaload, 1)) (h : ak a = some (0, N)) (kk : A = some out → G k n S lv (pc + 1) (vI (S.1 a i.toNatClampNeg) :: st)) : (if ib i N = true then A else none) = some out → G k n S lv pc (vI i :: vR a :: st) := by
  intro hE
  by_cases hy : ib i N = true
  · rw [if_pos hy] at hE
    obtain ⟨p, e, s, m, args, below, meth, c, dC, dI, cA, ad, Q, hx, hb, hml, hown, hts, hnw, hK, hj, hzw, rfl⟩ := hG
    intro H locs ls hP hS hl
    exact va_iald (D := (dC, dI)) hx hb hK hP a 0 (wld_at (ak_at h)) rfl (ib_in hy) hd (kk hE H locs ls hP hS hl)
  · rw [if_neg hy] at hE; cases hE
theorem s_laload (hG : OK l cc own nL R G) {α : Type} {A : Option α} {out : α} {a N : Nat} {i : Int32} (hd : decode cc pc = .ok (.laload, 1)) (h : ak a = some (1, N)) (kk : A = some out → G k n S lv (pc + 1) (vL (S.2.1 a i.toNatClampNeg) :: st)) : (if ib i N = true then A else none) = some out → G k n S lv pc (vI i :: vR a :: st) := by
  intro hE
  by_cases hy : ib i N = true
  · rw [if_pos hy] at hE
    obtain ⟨p, e, s, m, args, below, meth, c, dC, dI, cA, ad, Q, hx, hb, hml, hown, hts, hnw, hK, hj, hzw, rfl⟩ := hG
    intro H locs ls hP hS hl
    exact va_lald (D := (dC, dI)) hx hb hK hP a 1 (wld_at (ak_at h)) rfl (ib_in hy) hd (kk hE H locs ls hP hS hl)
  · rw [if_neg hy] at hE; cases hE
theorem s_caload (hG : OK l cc own nL R G) {α : Type} {A : Option α} {out : α} {a N : Nat} {i : Int32} (hd : decode cc pc = .ok (.caload, 1)) (h : ak a = some (2, N)) (kk : A = some out → G k n S lv (pc + 1) (vI (S.1 a i.toNatClampNeg) :: st)) : (if ib i N = true then A else none) = some out → G k n S lv pc (vI i :: vR a :: st) := by
  intro hE
  by_cases hy : ib i N = true
  · rw [if_pos hy] at hE
    obtain ⟨p, e, s, m, args, below, meth, c, dC, dI, cA, ad, Q, hx, hb, hml, hown, hts, hnw, hK, hj, hzw, rfl⟩ := hG
    intro H locs ls hP hS hl
    exact va_cald (D := (dC, dI)) hx hb hK hP a 2 (wld_at (ak_at h)) rfl (ib_in hy) hd (kk hE H locs ls hP hS hl)
  · rw [if_neg hy] at hE; cases hE
theorem s_iastore (hG : OK l cc own nL R G) {α : Type} {A : Option α} {out : α} {a N : Nat} {i : Int32} {x : Int32} (hd : decode cc pc = .ok (.iastore, 1)) (h : ak a = some (0, N)) (kk : A = some out → G k n (sI S a i.toNatClampNeg x) lv (pc + 1) st) : (if ib i N = true then A else none) = some out → G k n S lv pc (vI x :: vI i :: vR a :: st) := by
  intro hE
  by_cases hy : ib i N = true
  · rw [if_pos hy] at hE
    obtain ⟨p, e, s, m, args, below, meth, c, dC, dI, cA, ad, Q, hx, hb, hml, hown, hts, hnw, hK, hj, hzw, rfl⟩ := hG
    intro H locs ls hP hS hl
    have hD : va_D (fA ad s.heap.size) (wld cA ad S) := wld_D hj (fun k hk => Or.inl ⟨k, hk, rfl⟩)
    exact va_iast (D := (dC, dI)) hx hb hK hP hD hS a 0 (wld_at (ak_at h)) rfl (ib_in hy) hd (fun H1 locs1 hP1 _ hS1 => kk hE H1 locs1 ls (by rw [← setI_arr (ak_at h) (by decide)]; exact hP1) hS1 hl)
  · rw [if_neg hy] at hE; cases hE
theorem s_lastore (hG : OK l cc own nL R G) {α : Type} {A : Option α} {out : α} {a N : Nat} {i : Int32} {x : Int64} (hd : decode cc pc = .ok (.lastore, 1)) (h : ak a = some (1, N)) (kk : A = some out → G k n (sL S a i.toNatClampNeg x) lv (pc + 1) st) : (if ib i N = true then A else none) = some out → G k n S lv pc (vL x :: vI i :: vR a :: st) := by
  intro hE
  by_cases hy : ib i N = true
  · rw [if_pos hy] at hE
    obtain ⟨p, e, s, m, args, below, meth, c, dC, dI, cA, ad, Q, hx, hb, hml, hown, hts, hnw, hK, hj, hzw, rfl⟩ := hG
    intro H locs ls hP hS hl
    have hD : va_D (fA ad s.heap.size) (wld cA ad S) := wld_D hj (fun k hk => Or.inl ⟨k, hk, rfl⟩)
    exact va_last (D := (dC, dI)) hx hb hK hP hD hS a 1 (wld_at (ak_at h)) rfl (ib_in hy) hd (fun H1 locs1 hP1 _ hS1 => kk hE H1 locs1 ls (by rw [← setL_arr (ak_at h)]; exact hP1) hS1 hl)
  · rw [if_neg hy] at hE; cases hE
theorem s_castore (hG : OK l cc own nL R G) {α : Type} {A : Option α} {out : α} {a N : Nat} {i : Int32} {x : Int32} (hd : decode cc pc = .ok (.castore, 1)) (h : ak a = some (2, N)) (kk : A = some out → G k n (sI S a i.toNatClampNeg (vp_nar .char x)) lv (pc + 1) st) : (if ib i N = true then A else none) = some out → G k n S lv pc (vI x :: vI i :: vR a :: st) := by
  intro hE
  by_cases hy : ib i N = true
  · rw [if_pos hy] at hE
    obtain ⟨p, e, s, m, args, below, meth, c, dC, dI, cA, ad, Q, hx, hb, hml, hown, hts, hnw, hK, hj, hzw, rfl⟩ := hG
    intro H locs ls hP hS hl
    have hD : va_D (fA ad s.heap.size) (wld cA ad S) := wld_D hj (fun k hk => Or.inl ⟨k, hk, rfl⟩)
    exact va_cast (D := (dC, dI)) hx hb hK hP hD hS a 2 (wld_at (ak_at h)) rfl (ib_in hy) hd (fun H1 locs1 hP1 _ hS1 => kk hE H1 locs1 ls (by rw [← setI_arr (ak_at h) (by decide)]; exact hP1) hS1 hl)
  · rw [if_neg hy] at hE; cases hE
theorem s_alen (hG : OK l cc own nL R G) {a t N : Nat} {v : Int32} {ty : FieldType} (hd : decode cc pc = .ok (.arraylength, 1)) (h : ak a = some (t, N)) (ht : ∀ cA, (tyl cA)[t]? = some (cA t, ty)) (hv : Int32.ofNat N = v) (kk : E → G k n S lv (pc + 1) (vI v :: st)) : E → G k n S lv pc (vR a :: st) := by
  intro hE
  obtain ⟨p, e, s, m, args, below, meth, c, dC, dI, cA, ad, Q, hx, hb, hml, hown, hts, hnw, hK, hj, hzw, rfl⟩ := hG
  intro H locs ls hP hS hl
  exact va_alen (D := (dC, dI)) hx hb hK hP a t (wld_at (ak_at h)) (ht cA) hv hd (kk hE H locs ls hP hS hl)
theorem s_copyi (hG : OK l cc own nL R G) {α : Type} {A : Option α} {out : α} {a0 a1 N0 N1 idx : Nat} {sp dp x : Int32} (hd : decode cc pc = .ok (.invokestatic idx, 3)) (hml9 : Cond.methodLink own idx arraycopyName ∈ TB) (h0 : ak a0 = some (0, N0)) (h1 : ak a1 = some (0, N1)) (hR : 1 ≤ R.frames ∧ 8 + (nativeFrameWords "java/lang/System" "arraycopy" 5 + 11) ≤ R.locals) (hst : (st.map fun v => if cat2 v then 2 else 1).sum ≤ 8)
    (kk : A = some out → G k n (sA S a1 (va_cpy (S.1 a0) (S.1 a1) sp.toNatClampNeg dp.toNatClampNeg x.toNatClampNeg)) lv (pc + 3) st) : (if sp < 0 ∨ dp < 0 ∨ x < 0 ∨ N0 < sp.toNatClampNeg + x.toNatClampNeg ∨ N1 < dp.toNatClampNeg + x.toNatClampNeg then none else A) = some out → G k n S lv pc (vI x :: vI dp :: vR a1 :: vI sp :: vR a0 :: st) := by
  intro hE
  by_cases hy : sp < 0 ∨ dp < 0 ∨ x < 0 ∨ N0 < sp.toNatClampNeg + x.toNatClampNeg ∨ N1 < dp.toNatClampNeg + x.toNatClampNeg
  · rw [if_pos hy] at hE; cases hE
  rw [if_neg hy] at hE
  obtain ⟨p, e, s, m, args, below, meth, c, dC, dI, cA, ad, Q, hx, hb, hml, hown, hts, hnw, hK, hj, hzw, rfl⟩ := hG
  intro H locs ls hP hS hl
  have hD : va_D (fA ad s.heap.size) (wld cA ad S) := wld_D hj (fun k hk => Or.inl ⟨k, hk, rfl⟩)
  have hc : ((st.map (gV ad)).map fun v => v.category).sum ≤ 8 := by
    refine Nat.le_trans (Nat.le_of_eq ?_) hst
    rw [List.map_map]
    congr 1
    apply List.map_congr_left
    intro v _
    rcases v with z | z | r
    · rfl
    · rfl
    · cases r <;> rfl
  exact va_copyi (D := (dC, dI)) hx hb (by rw [hml]; exact hl.1.symm) hown (hts _ hml9) (hts (.native arraycopyName) (by decide +kernel)) (hts (.static arraycopyName) (by decide +kernel)) (hts (.initialized "java/lang/System") (by decide +kernel)) hK hP hD hS a0 a1 0 0 (wld_at (ak_at h0)) (wld_at (ak_at h1)) rfl rfl rfl (fun h => hy (Or.inl h)) (fun h => hy (Or.inr (Or.inl h))) (fun h => hy (Or.inr (Or.inr (Or.inl h)))) (by omega) (by omega) (fun _ _ => rfl) hR.1 (by omega) hd (fun H1 locs1 hP1 _ hS1 => kk hE H1 locs1 ls (by rw [← setA_arr (ak_at h1) (by decide)]; exact hP1) hS1 hl)
end
end
section
/-! calls, returns, contracts out of a walk -/
theorem va_S.nil {A : Nat → Prop} {H0 H : Heap} {locs : List Loc} (h : va_S A H0 H locs) : va_S A H0 H [] := ⟨h.1, h.2.1, fun _ q => absurd q List.not_mem_nil⟩
def cats (st : List AV) : Nat := (st.map fun v => if cat2 v then 2 else 1).sum
theorem cats_V (ad : Nat → Nat) (st : List AV) : ((st.map (gV ad)).map fun v => v.category).sum = cats st := by
  unfold cats
  rw [List.map_map]
  congr 1
  apply List.map_congr_left
  intro v _
  rcases v with z | z | r
  · rfl
  · rfl
  · cases r <;> rfl
def yOK (y : MethodName) (np : Nat) : Prop := y.cls ≠ "java/lang/invoke/MethodHandle" ∧ y.cls ≠ "java/lang/invoke/VarHandle" ∧ (parseMethodDescriptor y.desc).map (fun d => d.parameters.length) = some np
def ML (own : String) (idx : Nat) (y : MethodName) : Prop := Cond.methodLink own idx y ∈ TB ∨ ∃ host, Cond.methodLinkNest own idx y host ∈ NF
def MS (own : String) (idx : Nat) (y : MethodName) (np : Nat) : Prop := yOK y np ∧ Cond.static y ∈ TB ∧ Cond.initialized y.cls ∈ TB ∧ ML own idx y
def MV (own : String) (idx ci : Nat) (y : MethodName) (np : Nat) : Prop := yOK y np ∧ Cond.instanceMethod y ∈ TB ∧ Cond.initialized y.cls ∈ TB ∧ ML own idx y ∧ ∃ C T N, vwCl[ci]? = some (C, T, N) ∧ y.cls = C ∧ Cond.selects C y y ∈ TB
theorem TB_in {w : Cond} (h : w ∈ TB) : w ∈ TB ∧ ((w.onTables && w.keeps) = true ∨ ∃ ty, w = .arrayClass ty) := ⟨h, good_of_word (List.all_eq_true.mp TB_good w h)⟩
theorem TB_ws {c : Cond} (h : c ∈ TB) : GoodIn TB (c :: TB) := fun w hw => by
  rcases List.mem_cons.mp hw with rfl | hw
  · exact TB_in h
  · exact TB_in hw
section
variable {p : Program} {l : Launch} {e : Env} {R : Room} {s : State} {m : MethodId} {args : Array Value} {below : List Frame} {meth : Method} {c : Code} {H : Heap} {locs : List Loc} {cells slots : Nat} {Q : State → Prop} {dC : Nat → ClassId} {dI : Nat → Nat → Nat} {cA : Nat → ClassId} {ad : Nat → Nat}
theorem callw {pc : Nat} {ls : Array Slot} {st0 rest : List Value} {a : Array Value} {r : Option AV} {S' : HS} (hr : va_Run p l e R s m args below meth c H locs cells slots 0 0 (F0 m pc ls st0) rest (wQ dC dI cA ad H.size r S' a) (fA ad H.size)) (hS : va_S (fA ad s.heap.size) s.heap H locs)
    (kk : ∀ (H1 : Heap) (locs1 : List Loc), va_P (dC, dI) vwCl (wld cA ad S') H1 → va_S (fA ad s.heap.size) s.heap H1 locs1 → W p l e R s m args below meth c H1 locs1 cells slots Q (F0 m (pc + 3) ls ((r.map (gV ad)).toList ++ rest))) : W p l e R s m args below meth c H locs cells slots Q (F0 m pc ls st0) := by
  intro T hT X
  obtain ⟨v, st₀, t, T', L, h0, X', hL, e1, e2, ⟨⟨hv, hwA⟩, hz, hk⟩, st⟩ := hr T hT X
  cases hv
  rw [h0] at hz hk
  have hA : ∀ q, fA ad H.size q → fA ad s.heap.size q := fA_le hS.1
  obtain ⟨t2, a1, b1⟩ := kk T'.heap (locs ++ L) (by rw [e1]; exact hwA.1)
    ⟨Nat.le_trans hS.1 (by rw [e1]; exact hz), fun q h1 h2 => by rw [e1, hk q (Nat.lt_of_lt_of_le h1 hS.1) (fun z => h2 (hA q z))]; exact hS.2.1 q h1 h2, fun q hq => by
      rcases List.mem_append.mp hq with h | h
      · exact hS.2.2 q h
      · exact hA _ (hL q h)⟩ T' rfl X'
  exact ⟨t2, st t2 a1, b1⟩
end
section
variable {l : Launch} {cc : ByteArray} {own : String} {nL : Nat} {R : Room} {G : GT} {E : Prop} {k n pc : Nat} {S : HS} {lv : List (Nat × AV)} {st : List AV}
theorem s_cs (hG : OK l cc own nL R G) {y : MethodName} {bytes : ByteArray} {nLy idx np : Nat} {ret : Option FieldType} {rm : Room} {as stk : List AV} {r : Option AV} {S' : HS} (hd : decode cc pc = .ok (.invokestatic idx, 3)) (hm : MS own idx y np) (hcode : Cond.code y bytes nLy ret ∈ TB) (hnp : as.length = np) (hrm : rm.cells = 0 ∧ rm.slots = 0) (hR : rm.frames + 1 ≤ R.frames ∧ 8 + (nLy + 11) + rm.locals ≤ R.locals) (hst : cats st ≤ 8) (hkn : k ≤ R.cells ∧ n ≤ R.slots) (hstk : stk = as.reverse ++ st) (hC : Ct l y bytes nLy ret rm as S r S') (kk : G k n S' lv (pc + 3) (r.toList ++ st)) : G k n S lv pc stk := by
  obtain ⟨p, e, s, m, args, below, meth, c, dC, dI, cA, ad, Q, hx, hb, hml, hown, hts, hnw, hK, hj, hzw, rfl⟩ := hG
  intro H locs ls hP hS hl
  obtain ⟨⟨hy1, hy2, hy3⟩, hstat, hini, hlk⟩ := hm
  have hM := hC dC dI cA ad H.size hj
  have hcat : ((st.map (gV ad)).map fun v => v.category).sum ≤ 8 := by rw [cats_V]; exact hst
  have hpre : PreS s H (va_Pc (as.map (gV ad)) (wPre dC dI cA ad H.size S)) (as.map (gV ad)) := ⟨wPre.blind, fun U hU hW => ⟨rfl, by rw [hU], ⟨by rw [hU]; exact hP, va_K.moved hW.alike hK⟩, hnw.warm hW, hzw.to hW.alike hU (hS.nil)⟩⟩
  have hstk2 : stk.map (gV ad) = (as.map (gV ad)).reverse ++ st.map (gV ad) := by rw [hstk, List.map_append, List.map_reverse]
  have hlen : (as.map (gV ad)).length = np := by rw [List.length_map]; exact hnp
  refine callw (dC := dC) (dI := dI) (cA := cA) (r := r) (S' := S') (rest := st.map (gV ad)) (a := (as.map (gV ad)).toArray) ?_ hS (fun H1 locs1 hP1 hS1 => ?_)
  · rcases hlk with hlk | ⟨host, hlk⟩
    · exact va_runS (Ts := TB) (nL := nL) ⟨hx, hb, hml, hown, hts⟩ hM ⟨callB_of np hts (TB_ws hcode) rfl hrm.1 hrm.2 (hts _ hini) (hts _ hlk) ⟨hy1, hy2, hy3⟩ hR, hts _ hstat⟩ hpre rfl hlen hl.1 hstk2 (lv_room hcat) hd ⟨hkn.1, hkn.2⟩
    · exact va_runSN (Ts := TB) (nL := nL) (host := host) ⟨hx, hb, hml, hown, hts⟩ hM ⟨va_cnB np hts (TB_ws hcode) rfl hrm.1 hrm.2 (hnw.1 _ hlk) (hts _ hini) ⟨hy1, hy2, hy3⟩ hR, hts _ hstat, trivial⟩ hpre rfl hlen hl.1 hstk2 (lv_room hcat) hd ⟨hkn.1, hkn.2⟩
  · have h := kk H1 locs1 ls hP1 hS1 hl
    rw [List.map_append] at h
    cases r <;> exact h
theorem s_cv (hG : OK l cc own nL R G) {y : MethodName} {bytes : ByteArray} {nLy idx ci np b : Nat} {ret : Option FieldType} {rm : Room} {as stk : List AV} {r : Option AV} {S' : HS} (hd : decode cc pc = .ok (.invokevirtual idx, 3)) (hm : MV own idx ci y np) (hrec : oc b = some ci) (hcode : Cond.code y bytes nLy ret ∈ TB) (hnp : as.length = np) (hrm : rm.cells = 0 ∧ rm.slots = 0) (hR : rm.frames + 1 ≤ R.frames ∧ 8 + (nLy + 11) + rm.locals ≤ R.locals) (hst : cats st ≤ 8) (hkn : k ≤ R.cells ∧ n ≤ R.slots) (hstk : stk = as.reverse ++ vR b :: st) (hC : Ct l y bytes nLy ret rm (vR b :: as) S r S') (kk : G k n S' lv (pc + 3) (r.toList ++ st)) : G k n S lv pc stk := by
  obtain ⟨p, e, s, m, args, below, meth, c, dC, dI, cA, ad, Q, hx, hb, hml, hown, hts, hnw, hK, hj, hzw, rfl⟩ := hG
  intro H locs ls hP hS hl
  obtain ⟨⟨hy1, hy2, hy3⟩, hinst, hini, hlk, C, T, N, hc, hcls, hsel⟩ := hm
  obtain ⟨ks, hsh⟩ := oc_at hrec
  have hM := hC dC dI cA ad H.size hj
  have hcat : ((st.map (gV ad)).map fun v => v.category).sum ≤ 8 := by rw [cats_V]; exact hst
  have hpre : PreV s H C (ad b) (va_Pc ((vR b :: as).map (gV ad)) (wPre dC dI cA ad H.size S)) (as.map (gV ad)) := ⟨wPre.blind, va_recv (q0 := b) hK hP hc (wld_at hsh), fun U hU hW => ⟨rfl, by rw [hU], ⟨by rw [hU]; exact hP, va_K.moved hW.alike hK⟩, hnw.warm hW, hzw.to hW.alike hU (hS.nil)⟩⟩
  have hstk2 : stk.map (gV ad) = (as.map (gV ad)).reverse ++ Value.ref (ad b) :: st.map (gV ad) := by rw [hstk, List.map_append, List.map_reverse]; rfl
  have hlen : (as.map (gV ad)).length = np := by rw [List.length_map]; exact hnp
  refine callw (dC := dC) (dI := dI) (cA := cA) (r := r) (S' := S') (rest := st.map (gV ad)) (a := (Value.ref (ad b) :: as.map (gV ad)).toArray) ?_ hS (fun H1 locs1 hP1 hS1 => ?_)
  · rcases hlk with hlk | ⟨host, hlk⟩
    · exact va_runV (Ts := TB) (nL := nL) (C := C) ⟨hx, hb, hml, hown, hts⟩ hM ⟨callB_of np hts (TB_ws hcode) rfl hrm.1 hrm.2 (hts _ hini) (hts _ hlk) ⟨hy1, hy2, hy3⟩ hR, hts _ hinst, hts _ hsel⟩ hpre rfl hlen hl.1 hstk2 (lv_room hcat) hd ⟨hkn.1, hkn.2⟩
    · exact va_runVN (Ts := TB) (nL := nL) (C := C) (host := host) ⟨hx, hb, hml, hown, hts⟩ hM ⟨va_cnB np hts (TB_ws hcode) rfl hrm.1 hrm.2 (hnw.1 _ hlk) (hts _ hini) ⟨hy1, hy2, hy3⟩ hR, hts _ hinst, hts _ hsel⟩ hpre rfl hlen hl.1 hstk2 (lv_room hcat) hd ⟨hkn.1, hkn.2⟩
  · have h := kk H1 locs1 ls hP1 hS1 hl
    rw [List.map_append] at h
    cases r <;> exact h
theorem bind_some {α β : Type} {F : Option α} {K : α → Option β} {out : β} (h : F.bind K = some out) : ∃ o, F = some o ∧ K o = some out := by
  cases F with
  | none => cases h
  | some o => exact ⟨o, rfl, h⟩
/-- the ends of a method that doesn't throw -/
def Rt (G : GT) (cc : ByteArray) (ret : Option FieldType) (r : Option AV) (S' : HS) : Prop :=
  (∀ lv pc, ret = none → r = none → decode cc pc = .ok (.return_, 1) → G 0 0 S' lv pc []) ∧
  (∀ lv pc ty x, ret = some ty → narrow ty (.int x) = .int x → r = some (vI x) → decode cc pc = .ok (.ireturn, 1) → G 0 0 S' lv pc [vI x]) ∧
  (∀ lv pc x, ret = some .long → r = some (vL x) → decode cc pc = .ok (.lreturn, 1) → G 0 0 S' lv pc [vL x])
def lvA : Nat → List AV → List (Nat × AV)
  | _, [] => []
  | i, v :: vs => (i, v) :: lvA (if cat2 v then i + 2 else i + 1) vs
theorem lvA_eq (ad : Nat → Nat) : ∀ (as : List AV) (i : Nat), lv_args i (as.map (gV ad)) = gL ad (lvA i as)
  | [], _ => rfl
  | v :: vs, i => by
    have h : (if (gV ad v).category = 2 then i + 2 else i + 1) = (if cat2 v = true then i + 2 else i + 1) := by
      have h2 := gV_cat ad v
      cases hc : cat2 v <;> rw [hc] at h2 <;> simp at h2 <;> simp [h2]
    show (i, gV ad v) :: lv_args (if (gV ad v).category = 2 then i + 2 else i + 1) (vs.map (gV ad)) = _
    rw [h, lvA_eq ad vs]
    rfl
theorem lvA_len (ad : Nat → Nat) : ∀ (as : List AV), (lg_sl (as.map (gV ad))).length = cats as
  | [] => rfl
  | v :: vs => by
    have h2 := gV_cat ad v
    have ih := lvA_len ad vs
    unfold lg_sl cats at *
    rw [List.map_cons, List.flatMap_cons, List.length_append, ih, List.map_cons, List.sum_cons]
    congr 1
    cases hc : cat2 v <;> rw [hc] at h2 <;> simp at h2 <;> simp [h2]
theorem Ct.intro {y : MethodName} {cc : ByteArray} {nL : Nat} {ret : Option FieldType} {rm : Room} {as : List AV} {S : HS} {r : Option AV} {S' : HS} {own : String} {lv : List (Nat × AV)} (hy : plainName y.cls = true) (ho : y.cls = own) (hrm : rm.cells = 0 ∧ rm.slots = 0) (hlv : lvA 0 as = lv) (hn : cats as ≤ nL)
    (body : ∀ G, OK l cc own nL rm G → Rt G cc ret r S' → G 0 0 S lv 0 []) : Ct l y cc nL ret rm as S r S' := by
  intro dC dI cA ad sz hj
  refine Met.ofW (cc := cc) (maxL := nL) (ret := ret) hy rfl ?_
  intro p e s m args below meth c s₁ B hml hv
  obtain ⟨rfl, hsz, ⟨hP, hK⟩, hnw, hzw⟩ := hv
  have hx := B.exec
  have hb := B.bytes
  have hr := B.returns
  have hts0 := atoms_spec (ws := .code y cc nL ret :: TB) B.pre
  have hown : s.vm.findClass own = some m.cls := by rw [← ho]; exact findClass_of_methodNamed B.named
  have hlocks := B.notSynchronized
  subst hsz
  have hl := lv_entry (as.map (gV ad)) (n := nL) (by rw [lvA_len]; exact hn)
  rw [lg_entry_eq]
  generalize (lg_sl (as.map (gV ad)) ++ List.replicate (nL - (lg_sl (as.map (gV ad))).length) Slot.unset).toArray = ls at hl ⊢
  rw [lvA_eq, hlv] at hl
  have hG : OK l cc own nL rm (Go p l e rm s m (as.map (gV ad)).toArray below meth c dC dI cA ad nL (MQ below (wQ dC dI cA ad s.heap.size r S') (as.map (gV ad)).toArray s 0 0 (fA ad s.heap.size))) :=
    ⟨p, e, s, m, _, below, meth, c, dC, dI, cA, ad, _, hx, hb, hml, hown, fun w hw => hts0 w (List.mem_cons_of_mem _ hw), hnw, hK, hj, hzw, rfl⟩
  refine body _ hG ⟨?_, ?_, ?_⟩ s.heap [] ls hP va_S.rf hl
  · intro lv pc h1 h2 hd H locs ls hP hS hl
    rw [h1] at hr
    exact W.vret hx hb hr (fun t ht hW => ⟨⟨by rw [h2]; rfl, by rw [ht]; exact hP, va_K.moved hW.alike hK⟩, hS.F ht⟩) hS.2.2 hd
  · intro lv pc ty x h1 hnr h2 hd H locs ls hP hS hl
    rw [h1] at hr
    exact W.zret (v := x) hx hb hr hnr (fun t ht hW => ⟨⟨by rw [h2]; rfl, by rw [ht]; exact hP, va_K.moved hW.alike hK⟩, hS.F ht⟩) hS.2.2 hd
  · intro lv pc x h1 h2 hd H locs ls hP hS hl
    rw [h1] at hr
    exact W.lret (v := x) hx hb hr (fun t ht hW => ⟨⟨by rw [h2]; rfl, by rw [ht]; exact hP, va_K.moved hW.alike hK⟩, hS.F ht⟩) hS.2.2 hd
end
/-- a loop's function: the body, so often -/
def fx {V α : Type} (F : (V → Option α) → V → Option α) : Nat → V → Option α
  | 0, _ => none
  | n + 1, v => F (fx F n) v
def FU : Nat := 1000
theorem s_csP {l : Launch} {cc : ByteArray} {own : String} {nL : Nat} {R : Room} {G : GT} {k n pc : Nat} {S : HS} {lv : List (Nat × AV)} {st : List AV} (hG : OK l cc own nL R G) {α : Type} {out : α} {F : Option (Int32)} {K : Int32 → Option α} {y : MethodName} {bytes : ByteArray} {nLy idx np : Nat} {ret : Option FieldType} {rm : Room} {as stk : List AV} (hd : decode cc pc = .ok (.invokestatic idx, 3)) (hm : MS own idx y np) (hcode : Cond.code y bytes nLy ret ∈ TB) (hnp : as.length = np) (hrm : rm.cells = 0 ∧ rm.slots = 0) (hR : rm.frames + 1 ≤ R.frames ∧ 8 + (nLy + 11) + rm.locals ≤ R.locals) (hst : cats st ≤ 8) (hkn : k ≤ R.cells ∧ n ≤ R.slots) (hstk : stk = as.reverse ++ st) (hC : ∀ o, F = some o → Ct l y bytes nLy ret rm (as) S (some (vI o)) (S)) (kk : ∀ o, K o = some out → G k n (S) lv (pc + 3) (vI o :: st)) : F.bind K = some out → G k n S lv pc stk := by
  intro hE
  obtain ⟨o, h1, h2⟩ := bind_some hE
  exact s_cs hG hd hm hcode hnp hrm hR hst hkn hstk (hC o h1) (kk o h2)
theorem s_csQ {l : Launch} {cc : ByteArray} {own : String} {nL : Nat} {R : Room} {G : GT} {k n pc : Nat} {S : HS} {lv : List (Nat × AV)} {st : List AV} (hG : OK l cc own nL R G) {α : Type} {out : α} {F : Option (Int64)} {K : Int64 → Option α} {y : MethodName} {bytes : ByteArray} {nLy idx np : Nat} {ret : Option FieldType} {rm : Room} {as stk : List AV} (hd : decode cc pc = .ok (.invokestatic idx, 3)) (hm : MS own idx y np) (hcode : Cond.code y bytes nLy ret ∈ TB) (hnp : as.length = np) (hrm : rm.cells = 0 ∧ rm.slots = 0) (hR : rm.frames + 1 ≤ R.frames ∧ 8 + (nLy + 11) + rm.locals ≤ R.locals) (hst : cats st ≤ 8) (hkn : k ≤ R.cells ∧ n ≤ R.slots) (hstk : stk = as.reverse ++ st) (hC : ∀ o, F = some o → Ct l y bytes nLy ret rm (as) S (some (vL o)) (S)) (kk : ∀ o, K o = some out → G k n (S) lv (pc + 3) (vL o :: st)) : F.bind K = some out → G k n S lv pc stk := by
  intro hE
  obtain ⟨o, h1, h2⟩ := bind_some hE
  exact s_cs hG hd hm hcode hnp hrm hR hst hkn hstk (hC o h1) (kk o h2)
theorem s_csI {l : Launch} {cc : ByteArray} {own : String} {nL : Nat} {R : Room} {G : GT} {k n pc : Nat} {S : HS} {lv : List (Nat × AV)} {st : List AV} (hG : OK l cc own nL R G) {α : Type} {out : α} {F : Option (HS × Int32)} {K : (HS × Int32) → Option α} {y : MethodName} {bytes : ByteArray} {nLy idx np : Nat} {ret : Option FieldType} {rm : Room} {as stk : List AV} (hd : decode cc pc = .ok (.invokestatic idx, 3)) (hm : MS own idx y np) (hcode : Cond.code y bytes nLy ret ∈ TB) (hnp : as.length = np) (hrm : rm.cells = 0 ∧ rm.slots = 0) (hR : rm.frames + 1 ≤ R.frames ∧ 8 + (nLy + 11) + rm.locals ≤ R.locals) (hst : cats st ≤ 8) (hkn : k ≤ R.cells ∧ n ≤ R.slots) (hstk : stk = as.reverse ++ st) (hC : ∀ o, F = some o → Ct l y bytes nLy ret rm (as) S (some (vI o.2)) (o.1)) (kk : ∀ o, K o = some out → G k n (o.1) lv (pc + 3) (vI o.2 :: st)) : F.bind K = some out → G k n S lv pc stk := by
  intro hE
  obtain ⟨o, h1, h2⟩ := bind_some hE
  exact s_cs hG hd hm hcode hnp hrm hR hst hkn hstk (hC o h1) (kk o h2)
theorem s_csV {l : Launch} {cc : ByteArray} {own : String} {nL : Nat} {R : Room} {G : GT} {k n pc : Nat} {S : HS} {lv : List (Nat × AV)} {st : List AV} (hG : OK l cc own nL R G) {α : Type} {out : α} {F : Option (HS)} {K : HS → Option α} {y : MethodName} {bytes : ByteArray} {nLy idx np : Nat} {ret : Option FieldType} {rm : Room} {as stk : List AV} (hd : decode cc pc = .ok (.invokestatic idx, 3)) (hm : MS own idx y np) (hcode : Cond.code y bytes nLy ret ∈ TB) (hnp : as.length = np) (hrm : rm.cells = 0 ∧ rm.slots = 0) (hR : rm.frames + 1 ≤ R.frames ∧ 8 + (nLy + 11) + rm.locals ≤ R.locals) (hst : cats st ≤ 8) (hkn : k ≤ R.cells ∧ n ≤ R.slots) (hstk : stk = as.reverse ++ st) (hC : ∀ o, F = some o → Ct l y bytes nLy ret rm (as) S (none) (o)) (kk : ∀ o, K o = some out → G k n (o) lv (pc + 3) (st)) : F.bind K = some out → G k n S lv pc stk := by
  intro hE
  obtain ⟨o, h1, h2⟩ := bind_some hE
  exact s_cs hG hd hm hcode hnp hrm hR hst hkn hstk (hC o h1) (kk o h2)
theorem s_cvP {l : Launch} {cc : ByteArray} {own : String} {nL : Nat} {R : Room} {G : GT} {k n pc : Nat} {S : HS} {lv : List (Nat × AV)} {st : List AV} (hG : OK l cc own nL R G) {α : Type} {out : α} {F : Option (Int32)} {K : Int32 → Option α} {y : MethodName} {bytes : ByteArray} {nLy idx np : Nat} {ci b : Nat} {ret : Option FieldType} {rm : Room} {as stk : List AV} (hd : decode cc pc = .ok (.invokevirtual idx, 3)) (hm : MV own idx ci y np) (hrec : oc b = some ci) (hcode : Cond.code y bytes nLy ret ∈ TB) (hnp : as.length = np) (hrm : rm.cells = 0 ∧ rm.slots = 0) (hR : rm.frames + 1 ≤ R.frames ∧ 8 + (nLy + 11) + rm.locals ≤ R.locals) (hst : cats st ≤ 8) (hkn : k ≤ R.cells ∧ n ≤ R.slots) (hstk : stk = as.reverse ++ vR b :: st) (hC : ∀ o, F = some o → Ct l y bytes nLy ret rm (vR b :: as) S (some (vI o)) (S)) (kk : ∀ o, K o = some out → G k n (S) lv (pc + 3) (vI o :: st)) : F.bind K = some out → G k n S lv pc stk := by
  intro hE
  obtain ⟨o, h1, h2⟩ := bind_some hE
  exact s_cv hG hd hm hrec hcode hnp hrm hR hst hkn hstk (hC o h1) (kk o h2)
theorem s_cvQ {l : Launch} {cc : ByteArray} {own : String} {nL : Nat} {R : Room} {G : GT} {k n pc : Nat} {S : HS} {lv : List (Nat × AV)} {st : List AV} (hG : OK l cc own nL R G) {α : Type} {out : α} {F : Option (Int64)} {K : Int64 → Option α} {y : MethodName} {bytes : ByteArray} {nLy idx np : Nat} {ci b : Nat} {ret : Option FieldType} {rm : Room} {as stk : List AV} (hd : decode cc pc = .ok (.invokevirtual idx, 3)) (hm : MV own idx ci y np) (hrec : oc b = some ci) (hcode : Cond.code y bytes nLy ret ∈ TB) (hnp : as.length = np) (hrm : rm.cells = 0 ∧ rm.slots = 0) (hR : rm.frames + 1 ≤ R.frames ∧ 8 + (nLy + 11) + rm.locals ≤ R.locals) (hst : cats st ≤ 8) (hkn : k ≤ R.cells ∧ n ≤ R.slots) (hstk : stk = as.reverse ++ vR b :: st) (hC : ∀ o, F = some o → Ct l y bytes nLy ret rm (vR b :: as) S (some (vL o)) (S)) (kk : ∀ o, K o = some out → G k n (S) lv (pc + 3) (vL o :: st)) : F.bind K = some out → G k n S lv pc stk := by
  intro hE
  obtain ⟨o, h1, h2⟩ := bind_some hE
  exact s_cv hG hd hm hrec hcode hnp hrm hR hst hkn hstk (hC o h1) (kk o h2)
theorem s_cvI {l : Launch} {cc : ByteArray} {own : String} {nL : Nat} {R : Room} {G : GT} {k n pc : Nat} {S : HS} {lv : List (Nat × AV)} {st : List AV} (hG : OK l cc own nL R G) {α : Type} {out : α} {F : Option (HS × Int32)} {K : (HS × Int32) → Option α} {y : MethodName} {bytes : ByteArray} {nLy idx np : Nat} {ci b : Nat} {ret : Option FieldType} {rm : Room} {as stk : List AV} (hd : decode cc pc = .ok (.invokevirtual idx, 3)) (hm : MV own idx ci y np) (hrec : oc b = some ci) (hcode : Cond.code y bytes nLy ret ∈ TB) (hnp : as.length = np) (hrm : rm.cells = 0 ∧ rm.slots = 0) (hR : rm.frames + 1 ≤ R.frames ∧ 8 + (nLy + 11) + rm.locals ≤ R.locals) (hst : cats st ≤ 8) (hkn : k ≤ R.cells ∧ n ≤ R.slots) (hstk : stk = as.reverse ++ vR b :: st) (hC : ∀ o, F = some o → Ct l y bytes nLy ret rm (vR b :: as) S (some (vI o.2)) (o.1)) (kk : ∀ o, K o = some out → G k n (o.1) lv (pc + 3) (vI o.2 :: st)) : F.bind K = some out → G k n S lv pc stk := by
  intro hE
  obtain ⟨o, h1, h2⟩ := bind_some hE
  exact s_cv hG hd hm hrec hcode hnp hrm hR hst hkn hstk (hC o h1) (kk o h2)
theorem s_cvV {l : Launch} {cc : ByteArray} {own : String} {nL : Nat} {R : Room} {G : GT} {k n pc : Nat} {S : HS} {lv : List (Nat × AV)} {st : List AV} (hG : OK l cc own nL R G) {α : Type} {out : α} {F : Option (HS)} {K : HS → Option α} {y : MethodName} {bytes : ByteArray} {nLy idx np : Nat} {ci b : Nat} {ret : Option FieldType} {rm : Room} {as stk : List AV} (hd : decode cc pc = .ok (.invokevirtual idx, 3)) (hm : MV own idx ci y np) (hrec : oc b = some ci) (hcode : Cond.code y bytes nLy ret ∈ TB) (hnp : as.length = np) (hrm : rm.cells = 0 ∧ rm.slots = 0) (hR : rm.frames + 1 ≤ R.frames ∧ 8 + (nLy + 11) + rm.locals ≤ R.locals) (hst : cats st ≤ 8) (hkn : k ≤ R.cells ∧ n ≤ R.slots) (hstk : stk = as.reverse ++ vR b :: st) (hC : ∀ o, F = some o → Ct l y bytes nLy ret rm (vR b :: as) S (none) (o)) (kk : ∀ o, K o = some out → G k n (o) lv (pc + 3) (st)) : F.bind K = some out → G k n S lv pc stk := by
  intro hE
  obtain ⟨o, h1, h2⟩ := bind_some hE
  exact s_cv hG hd hm hrec hcode hnp hrm hR hst hkn hstk (hC o h1) (kk o h2)
end
section
/-! ends of methods, switches, what handles hold -/
def ch (x : Int32) : Bool := decide (0 ≤ x) && decide (x ≤ 65535)
theorem ch_ok {x : Int32} (h : ch x = true) : narrow .char (.int x) = .int x := by
  unfold ch at h
  rw [Bool.and_eq_true, decide_eq_true_eq, decide_eq_true_eq] at h
  obtain ⟨j, hj, rfl⟩ := nI_of2 (M := 65535) (n := 65535) (by decide) (fun q => by
    have h1 := h.1
    rw [Int32.le_iff_toInt_le] at h1
    rw [Int32.lt_iff_toInt_lt] at q
    omega) h.2
  exact (pk_charN (by omega)).1
section
variable {l : Launch} {cc : ByteArray} {own : String} {nL : Nat} {R : Room} {G : GT} {pc : Nat} {S : HS} {lv : List (Nat × AV)} {st : List AV}
theorem s_rvC {out : HS} (hR : Rt G cc none none out) (hd : decode cc pc = .ok (.return_, 1)) : some S = some out → G 0 0 S lv pc [] := fun h => by cases h; exact hR.1 _ _ rfl rfl hd
theorem s_rvP {out : Unit} (hR : Rt G cc none none S) (hd : decode cc pc = .ok (.return_, 1)) : some () = some out → G 0 0 S lv pc [] := fun _ => hR.1 _ _ rfl rfl hd
theorem s_riC {out : HS × Int32} {x : Int32} (hR : Rt G cc (some .int) (some (vI out.2)) out.1) (hd : decode cc pc = .ok (.ireturn, 1)) : some (S, x) = some out → G 0 0 S lv pc [vI x] := fun h => by cases h; exact hR.2.1 _ _ _ _ rfl rfl rfl hd
theorem s_riP {out x : Int32} (hR : Rt G cc (some .int) (some (vI out)) S) (hd : decode cc pc = .ok (.ireturn, 1)) : some x = some out → G 0 0 S lv pc [vI x] := fun h => by cases h; exact hR.2.1 _ _ _ _ rfl rfl rfl hd
theorem s_rlP {out x : Int64} (hR : Rt G cc (some .long) (some (vL out)) S) (hd : decode cc pc = .ok (.lreturn, 1)) : some x = some out → G 0 0 S lv pc [vL x] := fun h => by cases h; exact hR.2.2 _ _ _ rfl rfl hd
theorem s_rlC {out : HS × Int64} {x : Int64} (hR : Rt G cc (some .long) (some (vL out.2)) out.1) (hd : decode cc pc = .ok (.lreturn, 1)) : some (S, x) = some out → G 0 0 S lv pc [vL x] := fun h => by cases h; exact hR.2.2 _ _ _ rfl rfl hd
theorem s_rzC {out : HS × Int32} {x : Int32} (hR : Rt G cc (some .boolean) (some (vI out.2)) out.1) (hd : decode cc pc = .ok (.ireturn, 1)) : (if nz x = true then some (S, x) else none) = some out → G 0 0 S lv pc [vI x] := fun h => by
  by_cases hn : nz x = true
  · rw [if_pos hn] at h; cases h; exact hR.2.1 _ _ _ _ rfl (nz_ok hn).1 rfl hd
  · rw [if_neg hn] at h; cases h
theorem s_rzP {out x : Int32} (hR : Rt G cc (some .boolean) (some (vI out)) S) (hd : decode cc pc = .ok (.ireturn, 1)) : (if nz x = true then some x else none) = some out → G 0 0 S lv pc [vI x] := fun h => by
  by_cases hn : nz x = true
  · rw [if_pos hn] at h; cases h; exact hR.2.1 _ _ _ _ rfl (nz_ok hn).1 rfl hd
  · rw [if_neg hn] at h; cases h
theorem s_rcC {out : HS × Int32} {x : Int32} (hR : Rt G cc (some .char) (some (vI out.2)) out.1) (hd : decode cc pc = .ok (.ireturn, 1)) : (if ch x = true then some (S, x) else none) = some out → G 0 0 S lv pc [vI x] := fun h => by
  by_cases hn : ch x = true
  · rw [if_pos hn] at h; cases h; exact hR.2.1 _ _ _ _ rfl (ch_ok hn) rfl hd
  · rw [if_neg hn] at h; cases h
theorem s_rcP {out x : Int32} (hR : Rt G cc (some .char) (some (vI out)) S) (hd : decode cc pc = .ok (.ireturn, 1)) : (if ch x = true then some x else none) = some out → G 0 0 S lv pc [vI x] := fun h => by
  by_cases hn : ch x = true
  · rw [if_pos hn] at h; cases h; exact hR.2.1 _ _ _ _ rfl (ch_ok hn) rfl hd
  · rw [if_neg hn] at h; cases h
theorem sw_ne {x v : Int32} {z : Int} (h : ¬ x = v) (hz : v.toInt = z) : x.toInt ≠ z := fun e => h (Int32.toInt_inj.mp (e.trans hz.symm))
theorem s_tsw1 {k n : Nat} (hG : OK l cc own nL R G) {α : Type} {A B : Option α} {out : α} {x v : Int32} {dflt lo hi off : Int} {offs : Array Int} {len tgt : Nat} (hd : decode cc pc = .ok (.tableswitch dflt lo hi offs, len)) (h1 : ¬ v.toInt < lo) (h2 : ¬ hi < v.toInt) (ho : offs[(v.toInt - lo).toNat]? = some off) (ht : (pc : Int) + off = (tgt : Int)) (kt : A = some out → G k n S lv tgt st) (kf : ¬ x = v → B = some out → G k n S lv pc (vI x :: st)) : (if x = v then A else B) = some out → G k n S lv pc (vI x :: st) := by
  intro hE
  by_cases hv : x = v
  · rw [if_pos hv] at hE
    subst hv
    obtain ⟨p, e, s, m, args, below, meth, c, dC, dI, cA, ad, Q, hx, hb, hml, hown, hts, hnw, hK, hj, hzw, rfl⟩ := hG
    intro H locs ls hP hS hl
    exact lv_tableIn hx hb hd h1 h2 ho ht (kt hE H locs ls hP hS hl)
  · rw [if_neg hv] at hE
    exact kf hv hE
theorem s_tswD {k n : Nat} (hG : OK l cc own nL R G) {E : Prop} {x : Int32} {dflt lo hi : Int} {offs : Array Int} {len tgt : Nat} (hd : decode cc pc = .ok (.tableswitch dflt lo hi offs, len)) (h : x.toInt < lo ∨ hi < x.toInt) (ht : (pc : Int) + dflt = (tgt : Int)) (kk : E → G k n S lv tgt st) : E → G k n S lv pc (vI x :: st) := by
  intro hE
  obtain ⟨p, e, s, m, args, below, meth, c, dC, dI, cA, ad, Q, hx, hb, hml, hown, hts, hnw, hK, hj, hzw, rfl⟩ := hG
  intro H locs ls hP hS hl
  exact lv_tableOut hx hb hd h ht (kk hE H locs ls hP hS hl)
end
theorem oc_lt {b ci : Nat} (h : oc b = some ci) : b < 41 := by
  obtain ⟨ks, h1⟩ := oc_at h
  rcases List.getElem?_eq_some_iff.mp h1 with ⟨z, -⟩
  exact z
theorem fk0_0 (b : Nat) (h : oc b = some 0) : fk b 0 = some (0, (3, 2)) := (by decide +kernel : ∀ b, b < 41 → oc b = some 0 → fk b 0 = some (0, (3, 2))) b (oc_lt h) h
theorem fk0_1 (b : Nat) (h : oc b = some 0) : fk b 1 = some (0, (3, 5)) := (by decide +kernel : ∀ b, b < 41 → oc b = some 0 → fk b 1 = some (0, (3, 5))) b (oc_lt h) h
theorem fk0_2 (b : Nat) (h : oc b = some 0) : fk b 2 = some (0, (0, 0)) := (by decide +kernel : ∀ b, b < 41 → oc b = some 0 → fk b 2 = some (0, (0, 0))) b (oc_lt h) h
theorem fk0_3 (b : Nat) (h : oc b = some 0) : fk b 3 = some (0, (3, b + 1)) := (by decide +kernel : ∀ b, b < 41 → oc b = some 0 → fk b 3 = some (0, (3, b + 1))) b (oc_lt h) h
theorem fk0_4 (b : Nat) (h : oc b = some 0) : fk b 4 = some (0, (3, b + 2)) := (by decide +kernel : ∀ b, b < 41 → oc b = some 0 → fk b 4 = some (0, (3, b + 2))) b (oc_lt h) h
theorem fk0_5 (b : Nat) (h : oc b = some 0) : fk b 5 = some (0, (0, 0)) := (by decide +kernel : ∀ b, b < 41 → oc b = some 0 → fk b 5 = some (0, (0, 0))) b (oc_lt h) h
theorem fk0_6 (b : Nat) (h : oc b = some 0) : fk b 6 = some (0, (0, 0)) := (by decide +kernel : ∀ b, b < 41 → oc b = some 0 → fk b 6 = some (0, (0, 0))) b (oc_lt h) h
theorem ak0_3 (b : Nat) (h : oc b = some 0) : ak (b + 1) = some (0, 40) := (by decide +kernel : ∀ b, b < 41 → oc b = some 0 → ak (b + 1) = some (0, 40)) b (oc_lt h) h
theorem ak0_4 (b : Nat) (h : oc b = some 0) : ak (b + 2) = some (0, 24) := (by decide +kernel : ∀ b, b < 41 → oc b = some 0 → ak (b + 2) = some (0, 24)) b (oc_lt h) h
theorem fk3_0 (b : Nat) (h : oc b = some 3) : fk b 0 = some (3, (3, 9)) := (by decide +kernel : ∀ b, b < 41 → oc b = some 3 → fk b 0 = some (3, (3, 9))) b (oc_lt h) h
theorem fk3_1 (b : Nat) (h : oc b = some 3) : fk b 1 = some (3, (2, 0)) := (by decide +kernel : ∀ b, b < 41 → oc b = some 3 → fk b 1 = some (3, (2, 0))) b (oc_lt h) h
theorem fk3_2 (b : Nat) (h : oc b = some 3) : fk b 2 = some (3, (2, 0)) := (by decide +kernel : ∀ b, b < 41 → oc b = some 3 → fk b 2 = some (3, (2, 0))) b (oc_lt h) h
theorem fk3_3 (b : Nat) (h : oc b = some 3) : fk b 3 = some (3, (1, 0)) := (by decide +kernel : ∀ b, b < 41 → oc b = some 3 → fk b 3 = some (3, (1, 0))) b (oc_lt h) h
def iabs (x : Int32) : Int32 := if 0 ≤ x then x else 0 - x
theorem s_abs {l : Launch} {cc : ByteArray} {own : String} {nL : Nat} {R : Room} {G : GT} {E : Prop} {k n pc : Nat} {S : HS} {lv : List (Nat × AV)} {st : List AV} (hG : OK l cc own nL R G) {idx : Nat} {x : Int32} (hd : decode cc pc = .ok (.invokestatic idx, 3)) (h1 : Cond.methodLink own idx Lib.Math.abs.name ∈ TB) (h2 : Cond.static Lib.Math.abs.name ∈ TB) (h3 : Cond.initialized "java/lang/Math" ∈ TB) (h4 : Cond.code Lib.Math.abs.name Lib.Math.abs.code 1 (some .int) ∈ TB) (hR : 1 ≤ R.frames ∧ 21 ≤ R.locals) (hst : cats st ≤ 8) (hkn : k ≤ R.cells ∧ n ≤ R.slots) (kk : E → G k n S lv (pc + 3) (vI (iabs x) :: st)) : E → G k n S lv pc (vI x :: st) := by
  intro hE
  obtain ⟨p, e, s, m, args, below, meth, c, dC, dI, cA, ad, Q, hx, hb, hml, hown, hts, hnw, hK, hj, hzw, rfl⟩ := hG
  intro H locs ls hP hS hl
  have hcat : ((st.map (gV ad)).map fun v => v.category).sum ≤ 8 := by rw [cats_V]; exact hst
  exact va_mabs hx hb (by rw [hml]; exact hl.1.symm) hown (hts _ h1) (hts _ h2) (hts _ h3) (hts _ h4) hR.1 (by omega) hkn.1 hkn.2 hd (kk hE H locs ls hP hS hl)
theorem ak_len {a t N : Nat} (h : ak a = some (t, N)) : ak a = some (t, alen a) := by
  have h2 : alen a = N := by unfold alen; rw [h]
  rw [h2]; exact h
end
section
/-! 'throw new E(text)' where E's own constructor names its super's at another place of its pool than the kit's row has it (java.util.NoSuchElementException: entry 13, not 7). Follows the library's Stand.ctorThrowS and the kit's vx_throwS, with that one link general. -/
def ex_six (b : UInt8) : ByteArray := ⟨#[0x2a, 0x2b, 0xb7, 0x00, b, 0xb1]⟩
def ex_at (own : String) (ic ix : Nat) (b : UInt8) (X Y : String) (r : List String) : List Cond :=
  Bundle.throwableAtoms ++ Bundle.throwableSAtoms ++ (Bundle.passSAtoms X Y ix (ex_six b) ++ Bundle.chainSAtoms Y r) ++
  [.methodLink own ic (Bundle.initS X), .instantiable X 6, .castable X X, .selects X Bundle.tFill0 Bundle.tFill0, .selects X Bundle.tFill Bundle.tFill,
   .lays X Bundle.tN "cause" "Ljava/lang/Throwable;", .lays X Bundle.tN "stackTrace" Bundle.steD, .lays X Bundle.tN "suppressedExceptions" Bundle.listD, .lays X Bundle.tN "detailMessage" "Ljava/lang/String;",
   .isRef (.static Bundle.tN "UNASSIGNED_STACK" Bundle.steD), .isRef (.static Bundle.tN "SUPPRESSED_SENTINEL" Bundle.listD),
   .fieldLink Bundle.tN 198 Bundle.tN "backtrace" "Ljava/lang/Object;", .lays Bundle.tN Bundle.tN "backtrace" "Ljava/lang/Object;", .lays X Bundle.tN "backtrace" "Ljava/lang/Object;"]
section
variable {p : Program} {l : Launch} {e : Env} {R : Room} {s : State} {m₀ : MethodId} {args : Array Value} {below : List Frame} {meth : Method} {c : Code} {W : State} {locs : List Loc} {cells slots : Nat}
set_option maxHeartbeats 2000000 in
theorem ex_ctor (X : Stand p l e R s m₀ args below meth c W locs cells slots) (hexec : p.tables.exec = Jvm.exec) (htr : e.platform.stackTraces = false) {own cls Y0 : String} {r0 : List String} {ic ix : Nat} {b0 : UInt8}
    (hown : s.vm.findClass own = some m₀.cls) (hcls : Bundle.fit cls = true) (hY0 : Bundle.fit Y0 = true) (hnames : ∀ n ∈ r0, Bundle.fit n = true)
    (s0 : decode (ex_six b0) 0 = .ok (.aload_n 0, 1)) (s1 : decode (ex_six b0) 1 = .ok (.aload_n 1, 1)) (s2 : decode (ex_six b0) 2 = .ok (.invokespecial ix, 3)) (s5 : decode (ex_six b0) 5 = .ok (.return_, 1))
    (h : ∀ a ∈ ex_at own ic ix b0 cls Y0 r0, a.before args s = true)
    (hlocs : ∀ x ∈ locs, ∀ cell, s.heap[x.base]? = some cell → cell.vm.isStatics = false)
    {a : Addr} {cX : ClassId} {kX : Class} (hfoundX : s.vm.findClass cls = some cX) (hkX : s.vm.classes[cX]? = some kX) (hcell : W.heap[a]? = some (freshCell cX kX)) (hnew : s.heap.size ≤ a)
    {msg : Value} (hmsg : msg.isRef = true)
    {g : JFrame} (hg : g.method = m₀) (hsize : g.locals.size = c.maxLocals) (hlocked : g.locked = none) (hentered : g.entered = []) {rest : List Value} (hstack : g.stack = msg :: .ref a :: .ref a :: rest)
    (hd6 : decode c.code g.pc = .ok (.invokespecial ic, 3)) (hd9 : decode c.code (g.pc + 3) = .ok (.athrow, 1)) (hout : ∀ x ∈ c.exceptionTable.toList, covers x (g.pc + 3) = false)
    (hRframes : r0.length + 4 < R.frames) (hRlocals : 2 * g.monitorRoom + ((Value.ref a :: rest).map fun v => v.category).sum + (13 * (r0.length + 2) + 42) ≤ R.locals) (hlocks : meth.locks = false) :
    ∃ U : State, Steps p.tables e below (W.setTop g) U ∧ U.status = .running ∧ Ended U below (.threw a) ∧ s.WarmedH U.vm ∧ s.sameButNew ({ U with vm := s.vm } : State) locs cells slots ∧
      ∃ ce, U.heap[a]? = some ce ∧ ce.vm = .none ∧ s.vm.findClass cls = some ce.cls := by
  have howns : e.platform.frameOwnsMonitors = true := by rw [X.admits.platform]
  have hfin : e.platform.finalization = false := by rw [X.admits.platform]
  have hpl : e.platform.magicAccessors = ({} : Platform).magicAccessors := by rw [X.admits.platform]
  have a' : ∀ x, x ∈ ex_at own ic ix b0 cls Y0 r0 → x.holds args s none s [] = true := fun x hx => h x hx
  obtain ⟨T, Z0, L, -, Y⟩ := ThrowableC.of_atoms (args := args) howns hfin hpl (fun x hx => h x (by simp [ex_at, hx]))
  obtain ⟨Z, M, LZ, LM, hnZ⟩ := Init0T.ofS_atoms (args := args) hpl L Y (fun x hx => h x (by simp [ex_at, hx]))
  obtain ⟨P1, L1, hP1m, hs1⟩ := PassC.ofS_atoms (args := args) (s := s) hpl (X := cls) (Y := Y0) (Bundle.fit_spec hcls).1 (Bundle.fit_spec hY0).2 s0 s1 s2 s5 (fun x hx => h x (by simp [ex_at, hx]))
  obtain ⟨P2, Ps2, hlen, L2, hL2, hP2m, hsup, hpass⟩ := Bundle.chainS (args := args) hpl hnZ r0 Y0 hY0 hnames (fun x hx => h x (by simp [ex_at, hx]))
  have hlink1 : P1.sup = P2.m := Option.some.inj (hs1.symm.trans hP2m)
  have hfound : s.vm.findClass cls = some P1.m.cls := findClass_of_methodNamed hP1m
  cases Option.some.inj (hfoundX.symm.trans hfound)
  obtain ⟨c1, kX', hc1, hk, hord, -, -, hn6⟩ := Cond.instantiable_spec (a' (.instantiable cls 6) (by simp [ex_at]))
  cases Option.some.inj (hc1.symm.trans hfound)
  cases Option.some.inj (hkX.symm.trans hk)
  have hsel0 : selectMethod e.platform s.vm P1.m.cls T.fill0 = .method T.fill0 := by
    obtain ⟨c2, r2, m2, q1, q2, q3, q4, -⟩ := Cond.selects_spec (a' (.selects cls Bundle.tFill0 Bundle.tFill0) (by simp [ex_at]))
    cases Option.some.inj (q1.symm.trans hfound)
    cases Option.some.inj (q2.symm.trans (State.methodFound?_of_named Y.fill0 (by decide)))
    cases Option.some.inj (q3.symm.trans Y.fill0)
    rw [Launch.admits_selectMethod X.admits]; exact q4
  have hselF : selectMethod e.platform s.vm P1.m.cls T.fill = .method T.fill := by
    obtain ⟨c2, r2, m2, q1, q2, q3, q4, -⟩ := Cond.selects_spec (a' (.selects cls Bundle.tFill Bundle.tFill) (by simp [ex_at]))
    cases Option.some.inj (q1.symm.trans hfound)
    cases Option.some.inj (q2.symm.trans (State.methodFound?_of_named Y.fill (by decide)))
    cases Option.some.inj (q3.symm.trans Y.fill)
    rw [Launch.admits_selectMethod X.admits]; exact q4
  obtain ⟨cellS0, hcS0, hiss⟩ := Y.statics
  obtain ⟨u0, hu0⟩ := Cond.staticRefV Y.unassigned L.unassignedStatic L.statics hcS0 hiss (a' (.isRef (.static Bundle.tN "UNASSIGNED_STACK" Bundle.steD)) (by simp [ex_at]))
  obtain ⟨sen, hsen⟩ := Cond.staticRefV Y.sentinel L.sentinelStatic L.statics hcS0 hiss (a' (.isRef (.static Bundle.tN "SUPPRESSED_SENTINEL" Bundle.listD)) (by simp [ex_at]))
  obtain ⟨ci198, i198, fB, hk198, hg198, ha198, hsB, -, hnB, htB, hffB⟩ := Cond.ownField (t := .object "java/lang/Object") Y.found L.cls (by decide +kernel) (a' (.fieldLink Bundle.tN 198 Bundle.tN "backtrace" "Ljava/lang/Object;") (by simp [ex_at])) (a' (.lays Bundle.tN Bundle.tN "backtrace" "Ljava/lang/Object;") (by simp [ex_at])) e.platform hpl
  obtain ⟨cellS, hcS', heS, -, hkeep⟩ := X.same.2.2.2.2.2 T.aS cellS0 hcS0
  have hcellS : W.heap[T.aS]? = some cellS := hcS'
  have hout' : ∀ i, (⟨T.aS, i⟩ : Loc) ∉ locs := fun i hmem => by
    have := hlocs _ hmem cellS0 hcS0
    rw [hiss] at this; cases this
  have hknownS : cellS.vm ≠ .unknown := by
    rw [heS]; intro hu
    rw [show cellS0.vm = .unknown from hu] at hiss
    cases hiss
  have hneS : T.aS ≠ a := Nat.ne_of_lt (Nat.lt_of_lt_of_le (Array.getElem?_eq_some_iff.mp hcS0).1 hnew)
  obtain ⟨iM, hffM⟩ := Y.msg
  obtain ⟨tyC, dC, hdC, hdnC⟩ := Cond.laysAt hfound hk Y.cause (a' (.lays cls Bundle.tN "cause" "Ljava/lang/Throwable;") (by simp [ex_at]))
  obtain ⟨tyS, dS, hdS, hdnS⟩ := Cond.laysAt hfound hk Y.stack (a' (.lays cls Bundle.tN "stackTrace" Bundle.steD) (by simp [ex_at]))
  obtain ⟨tyP, dP, hdP, hdnP⟩ := Cond.laysAt hfound hk Y.supp (a' (.lays cls Bundle.tN "suppressedExceptions" Bundle.listD) (by simp [ex_at]))
  obtain ⟨tyM, dM, hdM, hdnM⟩ := Cond.laysAt hfound hk hffM (a' (.lays cls Bundle.tN "detailMessage" "Ljava/lang/String;") (by simp [ex_at]))
  obtain ⟨tyB, dB, hdB, hdnB⟩ := Cond.laysAt hfound hk hffB (a' (.lays cls Bundle.tN "backtrace" "Ljava/lang/Object;") (by simp [ex_at]))
  have bC := Cond.laysApart hdB hdC hdnB hdnC (by rw [hnB, Y.causeName]; decide)
  have bS := Cond.laysApart hdB hdS hdnB hdnS (by rw [hnB, Y.stackName]; decide)
  have bP := Cond.laysApart hdB hdP hdnB hdnP (by rw [hnB, Y.suppName]; decide)
  have hskip : SkipFacts T e.platform s (fun u => u) u0 ((preparedCellV T.toThrowableT (freshCell P1.m.cls kX) a u0 sen).withEntry W.cur) :=
    ⟨{ ci198 := ci198, i198 := i198, fBack := fB }, ⟨hk198, hg198, ha198, hsB⟩, by
      have := fresh_default (c := P1.m.cls) tyB
      rw [htB] at this
      simpa [preparedCellV, Cell.setSlot, Cell.withEntry, Array.getElem?_setIfInBounds, bC, bS, bP, bC.symm, bS.symm, bP.symm, defaultValue] using this, fun _ _ => rfl⟩
  obtain ⟨tm, methC, cdC, kC, vm₁, hnC, -, -, -, -, -, -, -, hW₁, st1⟩ := Steps.initColdS (tb := p.tables) (e := e) (below := below) (s := s) (U := W) X.here hexec X.warmed hpl hown (t := Bundle.initS cls) rfl rfl (Bundle.fit_spec hcls).2
    (a' (.methodLink own ic (Bundle.initS cls)) (by simp [ex_at])) (h (.instanceMethod (Bundle.initS cls)) (by simp [ex_at, Bundle.passSAtoms])) (bytes := ex_six b0) (maxL := 2) (h (.code (Bundle.initS cls) (ex_six b0) 2 none) (by simp [ex_at, Bundle.passSAtoms]))
    (f := g) hg (a := a) (msg := msg) (rest := .ref a :: rest) hstack hd6
  cases Option.some.inj (hnC.symm.trans hP1m)
  have X₁ := X.noted hW₁
  obtain ⟨vm₂, X₂, st2⟩ := X₁.ctorMessageOffV hexec (g := { g with stack := .ref a :: rest }) hg hsize T L Z LZ M LM (P1 :: P2 :: Ps2)
    (fun P hP => by
      rcases List.mem_cons.mp hP with rfl | hP
      · exact L1
      · rcases List.mem_cons.mp hP with rfl | hP
        · exact L2
        · exact hL2 P hP) ⟨hlink1, hsup, hpass⟩ (u0 := u0) (sen := sen) (self := a) hmsg (cell := freshCell P1.m.cls kX) (cellS := cellS)
    hcell (fun _ => by simp) (by simp) rfl rfl hsel0 hselF hcellS hneS hknownS (by rw [hkeep _ (hout' _)]; exact hu0) (by rw [hkeep _ (hout' _)]; exact hsen)
    (Takes.of_laid hk hord tyC (by rw [Y.causeType]; rfl)) (Takes.of_laid hk hord tyS (by rw [Y.stackType]; exact fits_refV_array _ u0)) (Takes.of_laid hk hord tyP (by rw [Y.suppType]; exact fits_refV_object _ sen))
    (Takes.of_laid hk hord tyM (by rw [Y.msgType]; exact fits_refV_object _ ⟨msg, hmsg⟩)) Y.objLocals hskip htr [] hd6
    (by simp only [List.length_cons, hlen]; omega) (by simp only [List.length_cons, hlen]; exact hRlocals)
  obtain ⟨hwalk, hrun, hended, hWU, hsame⟩ := X₂.athrowLeaves hexec (g := { g with stack := .ref a :: rest, pc := g.pc + 3 }) hg hlocked hentered hout (a := a) (rest := rest) rfl hd9
  have hlt : a < ((W.setVm vm₁).setVm vm₂).heap.size := (Array.getElem?_eq_some_iff.mp hcell).1
  have hU := heapAt_setCell_self (s := (W.setVm vm₁).setVm vm₂) (plainBareV T.toThrowableT (freshCell P1.m.cls kX) a u0 sen msg) hlt
  refine ⟨_, st1 _ (fun acts => ?_), hrun, hended, hWU, hsame.weaken (fun y hy hlt' => ?_) (Nat.le_refl _) (Nat.le_refl _), _, hU, rfl, hfound⟩
  · rw [doInvoke_state]
    exact st2 _ hwalk
  · rcases List.mem_append.mp hy with h1 | h1
    · exact h1
    · exfalso
      have hb : y.base = a := by
        simp only [List.mem_cons, List.not_mem_nil, or_false] at h1
        rcases h1 with rfl | rfl | rfl | rfl | rfl <;> rfl
      rw [hb] at hlt'
      exact Nat.not_lt.mpr hnew hlt'
end
section
variable {p : Program} {l : Launch} {e : Env} {R : Room} {s : State} {m : MethodId} {args : Array Value} {below : List Frame} {meth : Method} {c : Code} {H : Heap} {locs : List Loc} {cells slots : Nat}
variable {ls : Array Slot} {rest : List Value} {Qc : Array Value → State → Outcome → State → Prop} {XC : String → State → State → Prop} {free : Addr → Prop}
theorem ex_throwS {cc : ByteArray} {pc : Nat} (hexec : p.tables.exec = Jvm.exec) (hb : c.code = cc) (hl : l.stackTraces = false) {own cls Y0 text : String} {r0 : List String} {ik is ic ix mc ms sa : Nat} {b0 : UInt8} {A : Nat → Prop}
    (hown : s.vm.findClass own = some m.cls) (hcls : Bundle.fit cls = true) (hY0 : Bundle.fit Y0 = true) (hnames : ∀ n ∈ r0, Bundle.fit n = true)
    (s0 : decode (ex_six b0) 0 = .ok (.aload_n 0, 1)) (s1 : decode (ex_six b0) 1 = .ok (.aload_n 1, 1)) (s2 : decode (ex_six b0) 2 = .ok (.invokespecial ix, 3)) (s5 : decode (ex_six b0) 5 = .ok (.return_, 1))
    (hk : (Cond.classLink own ik cls).before args s = true) (hini : (Cond.initialized cls).before args s = true) (hstr : vk_R own is text sa s) (hat : ∀ w ∈ (ex_at own ic ix b0 cls Y0 r0).filter vx_no, w.before args s = true)
    (hgood : ∀ w ∈ Cond.classLink own ik cls :: Cond.initialized cls :: (ex_at own ic ix b0 cls Y0 r0).filter vx_no, vx_ot w = true)
    (hU : vx_Zq Bundle.tN "UNASSIGNED_STACK" Bundle.steD A s s.heap) (hN : vx_Zq Bundle.tN "SUPPRESSED_SENTINEL" Bundle.listD A s s.heap) (hS : va_S A s.heap H locs) (hsize : ls.size = c.maxLocals)
    (d0 : decode cc pc = .ok (.new ik, 3)) (d3 : decode cc (pc + 3) = .ok (.dup, 1)) (d4 : decode cc (pc + 4) = .ok (.ldc is, 2)) (d6 : decode cc (pc + 6) = .ok (.invokespecial ic, 3)) (d9 : decode cc (pc + 9) = .ok (.athrow, 1))
    (hout : ∀ x ∈ c.exceptionTable.toList, covers x (pc + 9) = false)
    (hRframes : r0.length + 4 < R.frames) (hRlocals : (rest.map fun v => v.category).sum + (13 * (r0.length + 2) + 43) ≤ R.locals) (hRcells : cells + 1 ≤ R.cells) (hRslots : slots + 6 ≤ R.slots) (hlocks : meth.locks = false)
    (hx : ∀ t : State, s.vm.Alike t.vm → H.size ≤ t.heap.size → (∀ q : Nat, q < H.size → t.heap[q]? = H[q]?) → XC cls s t)
    (hf : ∀ z ∈ locs, free z.base) (hc : cells + 1 ≤ mc) (hs : slots + 6 ≤ ms) :
    W p l e R s m args below meth c H locs cells slots (vx_MQ below Qc XC args s mc ms free) (F0 m pc ls rest) := by
  intro T hT X
  have htr : e.platform.stackTraces = false := (show e.platform.stackTraces = l.stackTraces by rw [X.admits.platform]).trans hl
  have Y := vx_rebase X (R' := { frames := R.frames, locals := R.locals, cells := 1, slots := 6 }) (Nat.le_refl _) (Nat.le_refl _) hRcells hRslots
  obtain ⟨s', hA⟩ : ∃ z, z = (T.setVm s.vm).setFrames (.invoking m args :: below) := ⟨_, rfl⟩
  rw [← hA] at Y
  have hvm : s'.vm = s.vm := by rw [hA]; rfl
  have hhp : s'.heap = H := by rw [hA]; exact hT
  have hW0 : s.WarmedH s'.vm := by rw [hvm]; exact State.WarmedH.refl s
  have hat' : ∀ w ∈ (ex_at own ic ix b0 cls Y0 r0).filter vx_no, w.before args s' = true := fun w hw => vx_ot_at hW0 hvm.symm (hgood w (List.mem_cons_of_mem _ (List.mem_cons_of_mem _ hw))) (hat w hw)
  have hk' : (Cond.classLink own ik cls).before args s' = true := vx_ot_at hW0 hvm.symm (hgood _ List.mem_cons_self) hk
  have hini' : (Cond.initialized cls).before args s' = true := vx_ot_at hW0 hvm.symm (hgood _ (List.mem_cons_of_mem _ List.mem_cons_self)) hini
  have hU' : vx_Zq Bundle.tN "UNASSIGNED_STACK" Bundle.steD A s' s'.heap := by rw [hhp]; exact vx_Zq.moved hW0.alike (hU.kept hS.2.1)
  have hN' : vx_Zq Bundle.tN "SUPPRESSED_SENTINEL" Bundle.listD A s' s'.heap := by rw [hhp]; exact vx_Zq.moved hW0.alike (hN.kept hS.2.1)
  have h : ∀ w ∈ ex_at own ic ix b0 cls Y0 r0, w.before args s' = true := vx_own hat' (vx_isRefq hU'.1) (vx_isRefq hN'.1) hU'.2.word hN'.2.word
  have hown' : s'.vm.findClass own = some m.cls := by rw [hvm]; exact hown
  have hins : (Cond.instantiable cls 6).before args s' = true := h _ (by simp [ex_at])
  obtain ⟨vm₁, cX, kX, hfX, hkX, -, -, X₁, st1⟩ := Y.newCold hexec (own := own) (C := cls) (index := ik) (n := 6) hown' hk' hins hini'
    (g := F0 m pc ls rest) rfl (by rw [hb]; exact d0) (Nat.le_refl _) (Nat.le_refl _)
  generalize hT1 : (T.setVm vm₁).pushCell { cls := cX, slots := kX.instanceTypes.map defaultValue, vm := .none } = T1 at X₁ st1
  have hcat : (Value.ref T.heap.size).category = 1 := rfl
  have hcellA : T1.heap[T.heap.size]? = some (freshCell cX kX) := by rw [← hT1]; exact State.heap_pushCell_size _ _
  have d3' : decode c.code (pc + 3) = .ok (.dup, 1) := by rw [hb]; exact d3
  have d4' : decode c.code (pc + 4) = .ok (.ldc is, 2) := by rw [hb]; exact d4
  have hstr' : vk_R own is text sa s' := vk_R.warm hW0 hstr
  obtain ⟨U, hsteps, hrun, hend, hW, hsame, ce, hce, hO, hOc⟩ := ex_ctor X₁ hexec htr (own := own) (cls := cls) (Y0 := Y0) (r0 := r0) (ic := ic) (ix := ix) (b0 := b0) hown' hcls hY0 hnames s0 s1 s2 s5 h (fun x hx => nomatch hx) hfX hkX hcellA (by rw [hhp, hT]; exact Nat.le_refl _) (msg := .ref sa) rfl
    (g := { method := m, pc := pc + 6, locals := ls, stack := .ref sa :: .ref T.heap.size :: .ref T.heap.size :: rest, locked := none }) rfl hsize rfl rfl (rest := rest) rfl
    (by rw [hb]; exact d6) (by rw [hb]; exact d9) hout hRframes (by simp only [List.map_cons, List.sum_cons, hcat]; omega) hlocks
  obtain ⟨f1, f2⟩ := vx_frame hsame
  rw [hhp] at f1 f2
  have hWs : s.WarmedH U.vm := State.WarmedH.trans hW0 hW
  have hcl : s.vm.findClass cls = some ce.cls := by
    rw [hvm] at hOc
    exact hOc
  have hall : s.sameButNew ({ U with vm := s.vm } : State) locs mc ms := by
    subst hA
    obtain ⟨e1, e2⟩ := hsame
    rw [State.setFrames_setFrames] at e1
    have h2 : (T.setVm s.vm).sameButNew ({ U with vm := s.vm } : State) [] (0 + 1) (0 + 6) := ⟨e1, e2⟩
    have h3 := X.same.trans h2
    rw [List.append_nil] at h3
    exact h3.mono hc hs
  refine ⟨U, ?_, .threw T.heap.size, hrun, hend, Or.inr ⟨T.heap.size, rfl, cls, ce, locs, hx U hWs.alike f1 (fun q hq => f2 q hq (fun z hz => nomatch hz)), hce, hO, hcl, hWs, hall, hf⟩⟩
  refine st1 _ ?_
  show Steps p.tables e below (T1.setTop { method := m, pc := pc + 3, locals := ls, stack := .ref T.heap.size :: rest, locked := none }) _
  jvm_step X₁.here [X₁.here.top, hexec, d3', Value.category]
  exact X₁.ldcString hexec (own := own) (text := text) (index := is) (a := sa) hown' hstr'.1 hstr'.2
    (g := { method := m, pc := pc + 4, locals := ls, stack := .ref T.heap.size :: .ref T.heap.size :: rest, locked := none }) rfl d4' _ hsteps
theorem ex_throwSW {cc : ByteArray} {pc : Nat} (hexec : p.tables.exec = Jvm.exec) (hb : c.code = cc) (hl : l.stackTraces = false) {own cls Y0 text : String} {r0 : List String} {ik is ic ix mc ms sa : Nat} {b0 : UInt8} {A : Nat → Prop}
    (hown : s.vm.findClass own = some m.cls) (hcls : Bundle.fit cls = true) (hY0 : Bundle.fit Y0 = true) (hnames : ∀ n ∈ r0, Bundle.fit n = true)
    (s0 : decode (ex_six b0) 0 = .ok (.aload_n 0, 1)) (s1 : decode (ex_six b0) 1 = .ok (.aload_n 1, 1)) (s2 : decode (ex_six b0) 2 = .ok (.invokespecial ix, 3)) (s5 : decode (ex_six b0) 5 = .ok (.return_, 1))
    (hk : (Cond.classLink own ik cls).before args s = true) (hini : (Cond.initialized cls).before args s = true) (hstr : vk_R own is text sa s) (hat : ∀ w ∈ (ex_at own ic ix b0 cls Y0 r0).filter vx_no, w.before args s = true)
    (hgood : ∀ w ∈ Cond.classLink own ik cls :: Cond.initialized cls :: (ex_at own ic ix b0 cls Y0 r0).filter vx_no, vx_ot w = true)
    (hU : vx_Zq Bundle.tN "UNASSIGNED_STACK" Bundle.steD A s s.heap) (hN : vx_Zq Bundle.tN "SUPPRESSED_SENTINEL" Bundle.listD A s s.heap) (hS : va_S A s.heap H locs) (hsize : ls.size = c.maxLocals)
    (d0 : decode cc pc = .ok (.new ik, 3)) (d3 : decode cc (pc + 3) = .ok (.dup, 1)) (d4 : decode cc (pc + 4) = .ok (.ldc_w is, 3)) (d6 : decode cc (pc + 7) = .ok (.invokespecial ic, 3)) (d9 : decode cc (pc + 10) = .ok (.athrow, 1))
    (hout : ∀ x ∈ c.exceptionTable.toList, covers x (pc + 10) = false)
    (hRframes : r0.length + 4 < R.frames) (hRlocals : (rest.map fun v => v.category).sum + (13 * (r0.length + 2) + 43) ≤ R.locals) (hRcells : cells + 1 ≤ R.cells) (hRslots : slots + 6 ≤ R.slots) (hlocks : meth.locks = false)
    (hx : ∀ t : State, s.vm.Alike t.vm → H.size ≤ t.heap.size → (∀ q : Nat, q < H.size → t.heap[q]? = H[q]?) → XC cls s t)
    (hf : ∀ z ∈ locs, free z.base) (hc : cells + 1 ≤ mc) (hs : slots + 6 ≤ ms) :
    W p l e R s m args below meth c H locs cells slots (vx_MQ below Qc XC args s mc ms free) (F0 m pc ls rest) := by
  intro T hT X
  have htr : e.platform.stackTraces = false := (show e.platform.stackTraces = l.stackTraces by rw [X.admits.platform]).trans hl
  have Y := vx_rebase X (R' := { frames := R.frames, locals := R.locals, cells := 1, slots := 6 }) (Nat.le_refl _) (Nat.le_refl _) hRcells hRslots
  obtain ⟨s', hA⟩ : ∃ z, z = (T.setVm s.vm).setFrames (.invoking m args :: below) := ⟨_, rfl⟩
  rw [← hA] at Y
  have hvm : s'.vm = s.vm := by rw [hA]; rfl
  have hhp : s'.heap = H := by rw [hA]; exact hT
  have hW0 : s.WarmedH s'.vm := by rw [hvm]; exact State.WarmedH.refl s
  have hat' : ∀ w ∈ (ex_at own ic ix b0 cls Y0 r0).filter vx_no, w.before args s' = true := fun w hw => vx_ot_at hW0 hvm.symm (hgood w (List.mem_cons_of_mem _ (List.mem_cons_of_mem _ hw))) (hat w hw)
  have hk' : (Cond.classLink own ik cls).before args s' = true := vx_ot_at hW0 hvm.symm (hgood _ List.mem_cons_self) hk
  have hini' : (Cond.initialized cls).before args s' = true := vx_ot_at hW0 hvm.symm (hgood _ (List.mem_cons_of_mem _ List.mem_cons_self)) hini
  have hU' : vx_Zq Bundle.tN "UNASSIGNED_STACK" Bundle.steD A s' s'.heap := by rw [hhp]; exact vx_Zq.moved hW0.alike (hU.kept hS.2.1)
  have hN' : vx_Zq Bundle.tN "SUPPRESSED_SENTINEL" Bundle.listD A s' s'.heap := by rw [hhp]; exact vx_Zq.moved hW0.alike (hN.kept hS.2.1)
  have h : ∀ w ∈ ex_at own ic ix b0 cls Y0 r0, w.before args s' = true := vx_own hat' (vx_isRefq hU'.1) (vx_isRefq hN'.1) hU'.2.word hN'.2.word
  have hown' : s'.vm.findClass own = some m.cls := by rw [hvm]; exact hown
  have hins : (Cond.instantiable cls 6).before args s' = true := h _ (by simp [ex_at])
  obtain ⟨vm₁, cX, kX, hfX, hkX, -, -, X₁, st1⟩ := Y.newCold hexec (own := own) (C := cls) (index := ik) (n := 6) hown' hk' hins hini'
    (g := F0 m pc ls rest) rfl (by rw [hb]; exact d0) (Nat.le_refl _) (Nat.le_refl _)
  generalize hT1 : (T.setVm vm₁).pushCell { cls := cX, slots := kX.instanceTypes.map defaultValue, vm := .none } = T1 at X₁ st1
  have hcat : (Value.ref T.heap.size).category = 1 := rfl
  have hcellA : T1.heap[T.heap.size]? = some (freshCell cX kX) := by rw [← hT1]; exact State.heap_pushCell_size _ _
  have d3' : decode c.code (pc + 3) = .ok (.dup, 1) := by rw [hb]; exact d3
  have d4' : decode c.code (pc + 4) = .ok (.ldc_w is, 3) := by rw [hb]; exact d4
  have hstr' : vk_R own is text sa s' := vk_R.warm hW0 hstr
  obtain ⟨U, hsteps, hrun, hend, hW, hsame, ce, hce, hO, hOc⟩ := ex_ctor X₁ hexec htr (own := own) (cls := cls) (Y0 := Y0) (r0 := r0) (ic := ic) (ix := ix) (b0 := b0) hown' hcls hY0 hnames s0 s1 s2 s5 h (fun x hx => nomatch hx) hfX hkX hcellA (by rw [hhp, hT]; exact Nat.le_refl _) (msg := .ref sa) rfl
    (g := { method := m, pc := pc + 7, locals := ls, stack := .ref sa :: .ref T.heap.size :: .ref T.heap.size :: rest, locked := none }) rfl hsize rfl rfl (rest := rest) rfl
    (by rw [hb]; exact d6) (by rw [hb]; exact d9) hout hRframes (by simp only [List.map_cons, List.sum_cons, hcat]; omega) hlocks
  obtain ⟨f1, f2⟩ := vx_frame hsame
  rw [hhp] at f1 f2
  have hWs : s.WarmedH U.vm := State.WarmedH.trans hW0 hW
  have hcl : s.vm.findClass cls = some ce.cls := by
    rw [hvm] at hOc
    exact hOc
  have hall : s.sameButNew ({ U with vm := s.vm } : State) locs mc ms := by
    subst hA
    obtain ⟨e1, e2⟩ := hsame
    rw [State.setFrames_setFrames] at e1
    have h2 : (T.setVm s.vm).sameButNew ({ U with vm := s.vm } : State) [] (0 + 1) (0 + 6) := ⟨e1, e2⟩
    have h3 := X.same.trans h2
    rw [List.append_nil] at h3
    exact h3.mono hc hs
  refine ⟨U, ?_, .threw T.heap.size, hrun, hend, Or.inr ⟨T.heap.size, rfl, cls, ce, locs, hx U hWs.alike f1 (fun q hq => f2 q hq (fun z hz => nomatch hz)), hce, hO, hcl, hWs, hall, hf⟩⟩
  refine st1 _ ?_
  show Steps p.tables e below (T1.setTop { method := m, pc := pc + 3, locals := ls, stack := .ref T.heap.size :: rest, locked := none }) _
  jvm_step X₁.here [X₁.here.top, hexec, d3', Value.category]
  exact X₁.ldcStringW hexec (own := own) (text := text) (index := is) (a := sa) hown' hstr'.1 hstr'.2
    (g := { method := m, pc := pc + 4, locals := ls, stack := .ref T.heap.size :: .ref T.heap.size :: rest, locked := none }) rfl d4' _ hsteps
end
end
section
/-! methods that throw: out = (the state, (0 or which exception, the answer)) -/
abbrev XO : Type := HS × (Nat × Int32)
def exC (e : Nat) : String := if e = 1 then "java/lang/IndexOutOfBoundsException" else if e = 2 then "java/lang/IllegalArgumentException" else if e = 3 then "java/lang/IllegalStateException" else "java/util/NoSuchElementException"
def exI (e : Nat) : Nat := if e = 4 then 13 else 7
def exB (e : Nat) : UInt8 := if e = 4 then 13 else 7
def EA (own : String) (ic e : Nat) : List Cond := (ex_at own ic (exI e) (exB e) (exC e) "java/lang/RuntimeException" ["java/lang/Exception"]).filter vx_no
def XCw (dC : Nat → ClassId) (dI : Nat → Nat → Nat) (cA : Nat → ClassId) (ad : Nat → Nat) (sz : Nat) (e : Nat) (S : HS) : String → State → State → Prop := fun E st t => E = exC e ∧ wAt dC dI cA ad S t ∧ va_F (fA ad sz) st t
def CtT (l : Launch) (y : MethodName) (cc : ByteArray) (n : Nat) (ret : Option FieldType) (rm : Room) (as : List AV) (S : HS) (e : Nat) (S' : HS) : Prop :=
  ∀ dC dI cA ad sz, Inj ad → vx_Met l y (.code y cc n ret :: TB) rm (va_Pc (as.map (gV ad)) (wPre dC dI cA ad sz S)) (fun _ _ _ _ => False) (XCw dC dI cA ad sz e S') 1 6 (fA ad sz)
/-- the ends of a method that may throw -/
def RtX (G : GT) (cc : ByteArray) (ret : Option FieldType) (out : XO) : Prop :=
  (∀ S lv pc, ret = none → out = (S, (0, 0)) → decode cc pc = .ok (.return_, 1) → G 0 0 S lv pc []) ∧
  (∀ S lv pc ty x, ret = some ty → narrow ty (.int x) = .int x → out = (S, (0, x)) → decode cc pc = .ok (.ireturn, 1) → G 0 0 S lv pc [vI x])
/-- 'throw new E(text)' at pc, its class's number e -/
def ThW (own : String) (cc : ByteArray) (pc e : Nat) : Prop :=
  ∃ (ik is ic : Nat) (text : String), decode cc pc = .ok (.new ik, 3) ∧ decode cc (pc + 3) = .ok (.dup, 1) ∧
    ((decode cc (pc + 4) = .ok (.ldc is, 2) ∧ decode cc (pc + 6) = .ok (.invokespecial ic, 3) ∧ decode cc (pc + 9) = .ok (.athrow, 1)) ∨ (decode cc (pc + 4) = .ok (.ldc_w is, 3) ∧ decode cc (pc + 7) = .ok (.invokespecial ic, 3) ∧ decode cc (pc + 10) = .ok (.athrow, 1))) ∧
    Cond.classLink own ik (exC e) ∈ TB ∧ Cond.initialized (exC e) ∈ TB ∧ (own, is, text) ∈ STR ∧ (∀ w ∈ (EA own ic e).filter goodWord, w ∈ TB) ∧ (∀ w ∈ (EA own ic e).filter (fun w => !goodWord w), w ∈ NF) ∧ (EA own ic e).all vx_ot = true ∧ Bundle.fit (exC e) = true ∧ decode (ex_six (exB e)) 0 = .ok (.aload_n 0, 1) ∧ decode (ex_six (exB e)) 1 = .ok (.aload_n 1, 1) ∧ decode (ex_six (exB e)) 2 = .ok (.invokespecial (exI e), 3) ∧ decode (ex_six (exB e)) 5 = .ok (.return_, 1)
def ThX (own : String) (R : Room) (G : GT) (cc : ByteArray) (out : XO) : Prop :=
  ∀ S lv pc st e, e ≠ 0 → ThW own cc pc e → 5 < R.frames → 90 ≤ R.locals → cats st ≤ 8 → out = (S, (e, 0)) → G 0 0 S lv pc st
/-- a call of a method that throws -/
def XcV (l : Launch) (own : String) (R : Room) (G : GT) (cc : ByteArray) (out : XO) : Prop :=
  ∀ {y : MethodName} {bytes : ByteArray} {nLy idx ci np b pc : Nat} {ret : Option FieldType} {rm : Room} {as st : List AV} {S S' : HS} {lv : List (Nat × AV)} {stk : List AV} {e : Nat}, e ≠ 0 → decode cc pc = .ok (.invokevirtual idx, 3) → MV own idx ci y np → Cond.methodLink own idx y ∈ TB → oc b = some ci → Cond.code y bytes nLy ret ∈ TB → as.length = np → rm.cells = 1 ∧ rm.slots = 6 → (rm.frames + 1 ≤ R.frames ∧ 8 + (nLy + 11) + rm.locals ≤ R.locals) → cats st ≤ 8 → stk = as.reverse ++ vR b :: st → CtT l y bytes nLy ret rm (vR b :: as) S e S' → out = (S', (e, 0)) → G 0 0 S lv pc stk
def CtX (l : Launch) (y : MethodName) (cc : ByteArray) (n : Nat) (ret : Option FieldType) (rm rmT : Room) (as : List AV) (S : HS) (out : XO) : Prop :=
  (out.2.1 = 0 → Ct l y cc n ret rm as S (if ret = none then none else some (vI out.2.2)) out.1) ∧ (out.2.1 ≠ 0 → CtT l y cc n ret rmT as S out.2.1 out.1)
theorem nf_tab : NF.all (fun w => w.onTables) = true := by decide +kernel
theorem atS_of {L : List Cond} {args : Array Value} {s : State} (hg : ∀ w ∈ L.filter goodWord, w ∈ TB) (hb : ∀ w ∈ L.filter (fun w => !goodWord w), w ∈ NF) (hts : ∀ w ∈ TB, w.before args s = true) (hnw : NwA s) : ∀ w ∈ L, w.before args s = true :=
  vx_hat (B := NF) (fun w hw => hts w (hg w hw)) hb (fun w hw => va_Nw.use (List.all_eq_true.mp nf_tab w hw) (hnw.1 w hw))
theorem va_P.grown {D : va_G} {cl : List vw_C} {ws : va_W} {H H1 : Heap} (h : va_P D cl ws H) (hq : ∀ q : Nat, q < H.size → H1[q]? = H[q]?) : va_P D cl ws H1 := fun k q hk => (h k q hk).kept (hq _ (h k q hk).lt)
theorem CtX.intro {l : Launch} {y : MethodName} {cc : ByteArray} {nL : Nat} {ret : Option FieldType} {rm rmT : Room} {as : List AV} {S : HS} {out : XO} {own : String} {lv : List (Nat × AV)} (hl9 : l.stackTraces = false) (hy : plainName y.cls = true) (ho : y.cls = own) (hrm : rm.cells = 0 ∧ rm.slots = 0) (hrmT : rmT.cells = 1 ∧ rmT.slots = 6 ∧ rmT.frames = rm.frames ∧ rmT.locals = rm.locals) (hlv : lvA 0 as = lv) (hn : cats as ≤ nL)
    (body : ∀ R G, R.frames = rm.frames ∧ R.locals = rm.locals → OK l cc own nL R G → RtX G cc ret out → ThX own R G cc out → XcV l own R G cc out → G 0 0 S lv 0 []) : CtX l y cc nL ret rm rmT as S out := by
  refine ⟨fun he => ?_, fun he => ?_⟩
  · refine Ct.intro hy ho hrm hlv hn (fun G hG hR => body rm G ⟨rfl, rfl⟩ hG ⟨?_, ?_⟩ ?_ ?_)
    · intro S2 lv pc h1 h2 hd
      subst h2
      exact hR.1 lv pc h1 (by rw [if_pos h1]) hd
    · intro S2 lv pc ty x h1 hn2 h2 hd
      subst h2
      exact hR.2.1 lv pc ty x h1 hn2 (by rw [if_neg (by rw [h1]; exact fun h => by cases h)]) hd
    · intro S2 lv pc st e h1 _ _ _ _ h2
      subst h2
      exact absurd he h1
    · intro _ _ _ _ _ _ _ _ _ _ _ _ _ _ _ _ _ h1 _ _ _ _ _ _ _ _ _ _ _ h2
      subst h2
      exact absurd he h1
  · intro dC dI cA ad sz hj
    refine vx_ofW (cc := cc) (maxL := nL) (ret := ret) hy rfl ?_
    intro p e s m args below meth c s₁ B hml htab hv
    obtain ⟨rfl, hsz, ⟨hP, hK⟩, hnw, hzw⟩ := hv
    have hx := B.exec
    have hb := B.bytes
    have hts0 := atoms_spec (ws := .code y cc nL ret :: TB) B.pre
    have hts : ∀ w ∈ TB, w.before (as.map (gV ad)).toArray s = true := fun w hw => hts0 w (List.mem_cons_of_mem _ hw)
    have hown : s.vm.findClass own = some m.cls := by rw [← ho]; exact findClass_of_methodNamed B.named
    have hlocks := B.notSynchronized
    subst hsz
    have hl := lv_entry (as.map (gV ad)) (n := nL) (by rw [lvA_len]; exact hn)
    rw [lg_entry_eq]
    generalize (lg_sl (as.map (gV ad)) ++ List.replicate (nL - (lg_sl (as.map (gV ad))).length) Slot.unset).toArray = ls at hl ⊢
    rw [lvA_eq, hlv] at hl
    have hG : OK l cc own nL rmT (Go p l e rmT s m (as.map (gV ad)).toArray below meth c dC dI cA ad nL (vx_MQ below (fun _ _ _ _ => False) (XCw dC dI cA ad s.heap.size out.2.1 out.1) (as.map (gV ad)).toArray s 1 6 (fA ad s.heap.size))) :=
      ⟨p, e, s, m, _, below, meth, c, dC, dI, cA, ad, _, hx, hb, hml, hown, hts, hnw, hK, hj, hzw, rfl⟩
    refine body rmT _ ⟨hrmT.2.2.1, hrmT.2.2.2⟩ hG ⟨?_, ?_⟩ ?_ ?_ s.heap [] ls hP va_S.rf hl
    · intro S2 lv pc _ h2
      subst h2
      exact absurd rfl he
    · intro S2 lv pc ty x _ _ h2
      subst h2
      exact absurd rfl he
    · intro S2 lv pc st e2 h1 hT hRf hRl hcat h2 H locs ls hP hS hl
      obtain ⟨ik, is, ic, text, d0, d3, dd, hk, hini, hstr, hg, hb2, hot, hfit, s0, s1, s2, s5⟩ := hT
      obtain ⟨sa, hsa⟩ := hnw.2.1 _ hstr
      have hcat2 : ((st.map (gV ad)).map fun v => v.category).sum ≤ 8 := by rw [cats_V]; exact hcat
      have hat := atS_of hg hb2 hts hnw
      subst h2
      have hx2 : ∀ t : State, s.vm.Alike t.vm → H.size ≤ t.heap.size → (∀ q : Nat, q < H.size → t.heap[q]? = H[q]?) → XCw dC dI cA ad s.heap.size e2 S2 (exC e2) s t := fun t ht hz hq =>
        ⟨rfl, ⟨hP.grown hq, va_K.moved ht hK⟩, Nat.le_trans hS.1 hz, fun q h1 h2 => by rw [hq q (Nat.lt_of_lt_of_le h1 hS.1)]; exact hS.2.1 q h1 h2⟩
      have hot2 : ∀ w ∈ Cond.classLink own ik (exC e2) :: Cond.initialized (exC e2) :: EA own ic e2, vx_ot w = true := by
        intro w hw
        rcases List.mem_cons.mp hw with rfl | hw
        · rfl
        · rcases List.mem_cons.mp hw with rfl | hw
          · rfl
          · exact List.all_eq_true.mp hot w hw
      have hcl : rmT.cells = 1 ∧ rmT.slots = 6 := ⟨hrmT.1, hrmT.2.1⟩
      rcases dd with ⟨d4, d6, d9⟩ | ⟨d4, d6, d9⟩
      · exact ex_throwS (Y0 := "java/lang/RuntimeException") (r0 := ["java/lang/Exception"]) (ic := ic) (is := is) (sa := sa) (A := fA ad s.heap.size) hx hb hl9 hown hfit (by decide +kernel) (by decide +kernel) s0 s1 s2 s5 (hts _ hk) (hts _ hini) hsa hat hot2 hzw.1 hzw.2 hS (by rw [hml]; exact hl.1) d0 d3 d4 d6 d9 (fun x h => (htab x h).elim) hRf (by show _ + (13 * (1 + 2) + 43) ≤ _; omega) (by omega) (by omega) hlocks hx2 hS.2.2 (by omega) (by omega)
      · exact ex_throwSW (Y0 := "java/lang/RuntimeException") (r0 := ["java/lang/Exception"]) (ic := ic) (is := is) (sa := sa) (A := fA ad s.heap.size) hx hb hl9 hown hfit (by decide +kernel) (by decide +kernel) s0 s1 s2 s5 (hts _ hk) (hts _ hini) hsa hat hot2 hzw.1 hzw.2 hS (by rw [hml]; exact hl.1) d0 d3 d4 d6 d9 (fun x h => (htab x h).elim) hRf (by show _ + (13 * (1 + 2) + 43) ≤ _; omega) (by omega) (by omega) hlocks hx2 hS.2.2 (by omega) (by omega)
    · intro y2 bytes nLy idx ci np b pc ret2 rm2 as2 st S2 S3 lv stk e2 h1 hd hm hlk2 hrec hcode hnp hrm2 hR hst hstk hC h2 H locs ls hP hS hl
      subst h2
      obtain ⟨⟨hy1, hy2, hy3⟩, hinst, hini, hlk, C, T, N, hc, hcls, hsel⟩ := hm
      obtain ⟨ks, hsh⟩ := oc_at hrec
      have hM := hC dC dI cA ad H.size hj
      have hcat : ((st.map (gV ad)).map fun v => v.category).sum ≤ 8 := by rw [cats_V]; exact hst
      have hpre : PreV s H C (ad b) (va_Pc ((vR b :: as2).map (gV ad)) (wPre dC dI cA ad H.size S2)) (as2.map (gV ad)) := ⟨wPre.blind, va_recv (q0 := b) hK hP hc (wld_at hsh), fun U hU hW => ⟨rfl, by rw [hU], ⟨by rw [hU]; exact hP, va_K.moved hW.alike hK⟩, hnw.warm hW, hzw.to hW.alike hU hS.nil⟩⟩
      have hstk2 : stk.map (gV ad) = (as2.map (gV ad)).reverse ++ Value.ref (ad b) :: st.map (gV ad) := by rw [hstk, List.map_append, List.map_reverse]; rfl
      have hlen : (as2.map (gV ad)).length = np := by rw [List.length_map]; exact hnp
      have hr := vx_runV (l := l) (below := below) (meth := meth) (locs := locs) (cells := 0) (slots := 0) (R := rmT) (e := e) (Ts := TB) (nL := nL) (C := C) (rest := st.map (gV ad)) (g := F0 m pc ls (stk.map (gV ad))) ⟨hx, hb, hml, hown, hts⟩ hM ⟨callB_of np hts (TB_ws hcode) rfl hrm2.1 hrm2.2 (hts _ hini) (hts _ hlk2) ⟨hy1, hy2, hy3⟩ hR, hts _ hinst, hts _ hsel⟩ hpre rfl hlen hl.1 hstk2 (lv_room hcat) hd ⟨by omega, by omega⟩
      intro Tt hT X
      rcases hr Tt hT X with ⟨v, st₀, t, T', L, h0, X', hL, e1, e3, hq, st9⟩ | ⟨q, st₀, t, T', L, E9, ce, h0, X', hL, e1, e3, hxc, hce, hcv, hcl, st9⟩
      · exact hq.elim
      · obtain ⟨hE9, hwA, hF⟩ := hxc
        obtain ⟨k1, k2, k3⟩ := vx_keep (A0 := fA ad s.heap.size) (A1 := fA ad H.size) h0 e1 hS (fun q _ => fA_le hS.1 q) (fun q => fA_le hS.1 q) hL hF
        have hW9 := vx_out (p := p) (l := l) (e := e) (R := rmT) (below := below) (c := c) (args := (as.map (gV ad)).toArray) (cells := 0 + 1) (slots := 0 + 6) (mc := 1) (ms := 6) (free := fA ad s.heap.size) (Qc := fun _ _ _ _ => False) (XC := XCw dC dI cA ad s.heap.size e2 S3) (pc := pc) (ls := ls) (rest := st.map (gV ad)) (m := m) (H := T'.heap) (q := q) (E := E9) (ce := ce) (fun x h => (htab x h).elim) hlocks (by rw [e1]; exact hce) hcv hcl (fun t9 ht hA9 => ⟨hE9, ⟨by rw [ht, e1]; exact hwA.1, va_K.moved hA9 hK⟩, by rw [ht]; exact k3.1, fun q h1 h2 => by rw [ht]; exact k3.2.1 q h1 h2⟩) k3.2.2 (by omega) (by omega)
        obtain ⟨t2, a1, b1⟩ := hW9 T' rfl X'
        exact ⟨t2, st9.trans a1, b1⟩
theorem s_xI {l : Launch} {cc : ByteArray} {own : String} {nL : Nat} {R : Room} {G : GT} {pc : Nat} {S : HS} {lv : List (Nat × AV)} {st : List AV} (hG : OK l cc own nL R G) {out : XO} (hX : XcV l own R G cc out) {F : Option XO} {K : XO → Option XO} {y : MethodName} {bytes : ByteArray} {nLy idx np ci b : Nat} {ret : Option FieldType} {rm rmT : Room} {as stk : List AV} (hret : ret ≠ none) (hd : decode cc pc = .ok (.invokevirtual idx, 3)) (hm : MV own idx ci y np) (hlk : Cond.methodLink own idx y ∈ TB) (hrec : oc b = some ci) (hcode : Cond.code y bytes nLy ret ∈ TB) (hnp : as.length = np) (hrm : rm.cells = 0 ∧ rm.slots = 0) (hrmT : rmT.cells = 1 ∧ rmT.slots = 6 ∧ rmT.frames = rm.frames ∧ rmT.locals = rm.locals) (hR : rm.frames + 1 ≤ R.frames ∧ 8 + (nLy + 11) + rm.locals ≤ R.locals) (hst : cats st ≤ 8) (hstk : stk = as.reverse ++ vR b :: st) (hC : ∀ o, F = some o → CtX l y bytes nLy ret rm rmT (vR b :: as) S o) (kk : ∀ o, K o = some out → G 0 0 o.1 lv (pc + 3) (vI o.2.2 :: st)) : F.bind (fun o => if o.2.1 = 0 then K o else some (o.1, (o.2.1, 0))) = some out → G 0 0 S lv pc stk := by
  intro hE
  obtain ⟨o, h1, h2⟩ := bind_some hE
  by_cases he : o.2.1 = 0
  · rw [if_pos he] at h2
    have hc := (hC o h1).1 he
    rw [if_neg hret] at hc
    exact s_cv hG hd hm hrec hcode hnp hrm hR hst ⟨Nat.zero_le _, Nat.zero_le _⟩ hstk hc (kk o h2)
  · rw [if_neg he] at h2
    cases h2
    exact hX he hd hm hlk hrec hcode hnp ⟨hrmT.1, hrmT.2.1⟩ (by rw [hrmT.2.2.1, hrmT.2.2.2]; exact hR) hst hstk ((hC o h1).2 he) rfl
theorem s_xV {l : Launch} {cc : ByteArray} {own : String} {nL : Nat} {R : Room} {G : GT} {pc : Nat} {S : HS} {lv : List (Nat × AV)} {st : List AV} (hG : OK l cc own nL R G) {out : XO} (hX : XcV l own R G cc out) {F : Option XO} {K : XO → Option XO} {y : MethodName} {bytes : ByteArray} {nLy idx np ci b : Nat} {ret : Option FieldType} {rm rmT : Room} {as stk : List AV} (hret : ret = none) (hd : decode cc pc = .ok (.invokevirtual idx, 3)) (hm : MV own idx ci y np) (hlk : Cond.methodLink own idx y ∈ TB) (hrec : oc b = some ci) (hcode : Cond.code y bytes nLy ret ∈ TB) (hnp : as.length = np) (hrm : rm.cells = 0 ∧ rm.slots = 0) (hrmT : rmT.cells = 1 ∧ rmT.slots = 6 ∧ rmT.frames = rm.frames ∧ rmT.locals = rm.locals) (hR : rm.frames + 1 ≤ R.frames ∧ 8 + (nLy + 11) + rm.locals ≤ R.locals) (hst : cats st ≤ 8) (hstk : stk = as.reverse ++ vR b :: st) (hC : ∀ o, F = some o → CtX l y bytes nLy ret rm rmT (vR b :: as) S o) (kk : ∀ o, K o = some out → G 0 0 o.1 lv (pc + 3) (st)) : F.bind (fun o => if o.2.1 = 0 then K o else some (o.1, (o.2.1, 0))) = some out → G 0 0 S lv pc stk := by
  intro hE
  obtain ⟨o, h1, h2⟩ := bind_some hE
  by_cases he : o.2.1 = 0
  · rw [if_pos he] at h2
    have hc := (hC o h1).1 he
    rw [if_pos hret] at hc
    exact s_cv hG hd hm hrec hcode hnp hrm hR hst ⟨Nat.zero_le _, Nat.zero_le _⟩ hstk hc (kk o h2)
  · rw [if_neg he] at h2
    cases h2
    exact hX he hd hm hlk hrec hcode hnp ⟨hrmT.1, hrmT.2.1⟩ (by rw [hrmT.2.2.1, hrmT.2.2.2]; exact hR) hst hstk ((hC o h1).2 he) rfl
theorem s_thr {cc : ByteArray} {own : String} {R : Room} {G : GT} {pc : Nat} {S : HS} {lv : List (Nat × AV)} {st : List AV} {out : XO} (hT : ThX own R G cc out) {e : Nat} (he : e ≠ 0) (hw : ThW own cc pc e) (hR : 5 < R.frames ∧ 90 ≤ R.locals) (hst : cats st ≤ 8) : some (S, (e, (0 : Int32))) = some out → G 0 0 S lv pc st := fun h => hT _ _ _ _ _ he hw hR.1 hR.2 hst (Option.some.inj h).symm
theorem s_xrv {cc : ByteArray} {G : GT} {pc : Nat} {S : HS} {lv : List (Nat × AV)} {out : XO} (hR : RtX G cc none out) (hd : decode cc pc = .ok (.return_, 1)) : some (S, ((0 : Nat), (0 : Int32))) = some out → G 0 0 S lv pc [] := fun h => hR.1 _ _ _ rfl (Option.some.inj h).symm hd
theorem s_xri {cc : ByteArray} {G : GT} {pc : Nat} {S : HS} {lv : List (Nat × AV)} {x : Int32} {out : XO} (hR : RtX G cc (some .int) out) (hd : decode cc pc = .ok (.ireturn, 1)) : some (S, ((0 : Nat), x)) = some out → G 0 0 S lv pc [vI x] := fun h => hR.2 _ _ _ _ _ rfl rfl (Option.some.inj h).symm hd
theorem s_xrz {cc : ByteArray} {G : GT} {pc : Nat} {S : HS} {lv : List (Nat × AV)} {x : Int32} {out : XO} (hR : RtX G cc (some .boolean) out) (hd : decode cc pc = .ok (.ireturn, 1)) : (if nz x = true then some (S, ((0 : Nat), x)) else none) = some out → G 0 0 S lv pc [vI x] := fun h => by
  by_cases hn : nz x = true
  · rw [if_pos hn] at h; exact hR.2 _ _ _ _ _ rfl (nz_ok hn).1 (Option.some.inj h).symm hd
  · rw [if_neg hn] at h; cases h
theorem s_xrc {cc : ByteArray} {G : GT} {pc : Nat} {S : HS} {lv : List (Nat × AV)} {x : Int32} {out : XO} (hR : RtX G cc (some .char) out) (hd : decode cc pc = .ok (.ireturn, 1)) : (if ch x = true then some (S, ((0 : Nat), x)) else none) = some out → G 0 0 S lv pc [vI x] := fun h => by
  by_cases hn : ch x = true
  · rw [if_pos hn] at h; exact hR.2 _ _ _ _ _ rfl (ch_ok hn) (Option.some.inj h).symm hd
  · rw [if_neg hn] at h; cases h
end
section
/-! methods with a table of their own (the law's, round a call that may throw): they return, one new cell at most -/
def OKT (l : Launch) (cc : ByteArray) (own : String) (nL : Nat) (R : Room) (G : GT) (tab : List ExceptionTableEntry) (Gx : Nat → HS → List (Nat × AV) → Nat → List AV → Prop) : Prop :=
  ∃ (p : Program) (e : Env) (s : State) (m : MethodId) (args : Array Value) (below : List Frame) (meth : Method) (c : Code) (dC : Nat → ClassId) (dI : Nat → Nat → Nat) (cA : Nat → ClassId) (ad : Nat → Nat) (Q : State → Prop),
    p.tables.exec = Jvm.exec ∧ c.code = cc ∧ c.maxLocals = nL ∧ s.vm.findClass own = some m.cls ∧ (∀ w ∈ TB, w.before args s = true) ∧ NwA s ∧ va_K (dC, dI) vwCl (tyl cA) s ∧ Inj ad ∧ ZW ad s.heap.size s ∧ c.exceptionTable.toList = tab ∧ G = Go p l e R s m args below meth c dC dI cA ad nL Q ∧
    Gx = fun ex S lv pc st => ∀ (H : Heap) (locs : List Loc) (ls : Array Slot) (q : Addr) (ce : Cell), va_P (dC, dI) vwCl (wld cA ad S) H → va_S (fA ad s.heap.size) s.heap H locs → lv_has ls nL (gL ad lv) → H[q]? = some ce → ce.vm = .none → s.vm.findClass (exC ex) = some ce.cls → vx_W p l e R s m args below meth c H locs 1 6 Q (F0 m pc ls (st.map (gV ad))) q
theorem OKT.ok {l : Launch} {cc : ByteArray} {own : String} {nL : Nat} {R : Room} {G : GT} {tab : List ExceptionTableEntry} {Gx : Nat → HS → List (Nat × AV) → Nat → List AV → Prop} (h : OKT l cc own nL R G tab Gx) : OK l cc own nL R G := by
  obtain ⟨p, e, s, m, args, below, meth, c, dC, dI, cA, ad, Q, hx, hb, hml, hown, hts, hnw, hK, hj, hzw, ht, hG, -⟩ := h
  exact ⟨p, e, s, m, args, below, meth, c, dC, dI, cA, ad, Q, hx, hb, hml, hown, hts, hnw, hK, hj, hzw, hG⟩
def CtW (l : Launch) (y : MethodName) (cc : ByteArray) (n : Nat) (ret : Option FieldType) (hh : List (Nat × Nat × Nat × Nat)) (rm : Room) (as : List AV) (S : HS) (r : Option AV) (S' : HS) : Prop :=
  ∀ dC dI cA ad sz, Inj ad → vx_Met l y (.codeWith y cc n ret hh :: TB) rm (va_Pc (as.map (gV ad)) (wPre dC dI cA ad sz S)) (wQ dC dI cA ad sz r S') (fun _ _ _ => False) 1 6 (fA ad sz)
def RtW (G : GT) (cc : ByteArray) (out : HS × Int32) : Prop := ∀ S lv pc k n x, k ≤ 1 → n ≤ 6 → out = (S, x) → decode cc pc = .ok (.ireturn, 1) → G k n S lv pc [vI x]
/-- the handler of exception e's class for pc -/
def CTb (own : String) (tab : List ExceptionTableEntry) (pc e hpc : Nat) : Prop :=
  ∃ (pre : List ExceptionTableEntry) (x : ExceptionTableEntry) (suf : List ExceptionTableEntry) (nm : String), tab = pre ++ x :: suf ∧ (∀ z ∈ pre, covers z pc = false ∨ (z.catchType ≠ 0 ∧ ∃ nm2, Cond.classLink own z.catchType nm2 ∈ TB ∧ (exC e, nm2) ∈ NCS)) ∧ covers x pc = true ∧ x.catchType ≠ 0 ∧ Cond.classLink own x.catchType nm ∈ TB ∧ Cond.castable (exC e) nm ∈ NF ∧ x.handlerPc = hpc
theorem CtW.intro {l : Launch} {y : MethodName} {cc : ByteArray} {nL : Nat} {hh : List (Nat × Nat × Nat × Nat)} {rm : Room} {as : List AV} {S : HS} {out : HS × Int32} {own : String} {lv : List (Nat × AV)} (hy : plainName y.cls = true) (ho : y.cls = own) (hrm : rm.cells = 1 ∧ rm.slots = 6) (hlv : lvA 0 as = lv) (hn : cats as ≤ nL)
    (body : ∀ G Gx, OKT l cc own nL rm G (tableOf hh) Gx → RtW G cc out → G 0 0 S lv 0 []) : CtW l y cc nL (some .int) hh rm as S (some (vI out.2)) out.1 := by
  intro dC dI cA ad sz hj
  refine vx_ofWH (cc := cc) (maxL := nL) (ret := some .int) (hh := hh) hy rfl ?_
  intro p e s m args below meth c s₁ B hml hv
  obtain ⟨rfl, hsz, ⟨hP, hK⟩, hnw, hzw⟩ := hv
  have hx := B.exec
  have hb := B.bytes
  have hr := B.returns
  have hts0 := atoms_spec (ws := .codeWith y cc nL (some .int) hh :: TB) B.pre
  have htab := vx_table (x := y) B (hts0 _ List.mem_cons_self)
  have hown : s.vm.findClass own = some m.cls := by rw [← ho]; exact findClass_of_methodNamed B.named
  have hlocks := B.notSynchronized
  subst hsz
  have hl := lv_entry (as.map (gV ad)) (n := nL) (by rw [lvA_len]; exact hn)
  rw [lg_entry_eq]
  generalize (lg_sl (as.map (gV ad)) ++ List.replicate (nL - (lg_sl (as.map (gV ad))).length) Slot.unset).toArray = ls at hl ⊢
  rw [lvA_eq, hlv] at hl
  have hG : OKT l cc own nL rm (Go p l e rm s m (as.map (gV ad)).toArray below meth c dC dI cA ad nL (vx_MQ below (wQ dC dI cA ad s.heap.size (some (vI out.2)) out.1) (fun _ _ _ => False) (as.map (gV ad)).toArray s 1 6 (fA ad s.heap.size))) (tableOf hh) _ :=
    ⟨p, e, s, m, _, below, meth, c, dC, dI, cA, ad, _, hx, hb, hml, hown, fun w hw => hts0 w (List.mem_cons_of_mem _ hw), hnw, hK, hj, hzw, htab, rfl, rfl⟩
  refine body _ _ hG ?_ s.heap [] ls hP va_S.rf hl
  intro S2 lv pc k n x h1 h2 h3 hd H locs ls hP hS hl
  subst h3
  exact W.widen h1 h2 (vx_ret (W.iret (v := x) hx hb hr (fun t ht hW => ⟨⟨rfl, by rw [ht]; exact hP, va_K.moved hW.alike hK⟩, hS.F ht⟩) hS.2.2 hd))
section
variable {l : Launch} {cc : ByteArray} {own : String} {nL : Nat} {R : Room} {G : GT} {E : Prop} {k n pc : Nat} {S : HS} {lv : List (Nat × AV)} {st : List AV} {tab : List ExceptionTableEntry} {Gx : Nat → HS → List (Nat × AV) → Nat → List AV → Prop}
theorem s_wri {out : HS × Int32} {x : Int32} (hR : RtW G cc out) (h1 : k ≤ 1) (h2 : n ≤ 6) (hd : decode cc pc = .ok (.ireturn, 1)) : some (S, x) = some out → G k n S lv pc [vI x] := fun h => hR _ _ _ _ _ _ h1 h2 (Option.some.inj h).symm hd
/-- the law's call of a method that may throw, in a method with a table -/
theorem s_wx (hG : OKT l cc own nL R G tab Gx) {α : Type} {out : α} {F : Option XO} {K HX : XO → Option α} {y : MethodName} {bytes : ByteArray} {nLy idx np ci b : Nat} {ret : Option FieldType} {rm rmT : Room} {as stk : List AV} (hret : ret ≠ none) (hd : decode cc pc = .ok (.invokevirtual idx, 3)) (hm : MV own idx ci y np) (hlk : Cond.methodLink own idx y ∈ TB) (hrec : oc b = some ci) (hcode : Cond.code y bytes nLy ret ∈ TB) (hnp : as.length = np) (hrm : rm.cells = 0 ∧ rm.slots = 0) (hrmT : rmT.cells = 1 ∧ rmT.slots = 6 ∧ rmT.frames = rm.frames ∧ rmT.locals = rm.locals) (hR : rm.frames + 1 ≤ R.frames ∧ 8 + (nLy + 11) + rm.locals ≤ R.locals) (hRc : R.cells = 1 ∧ R.slots = 6) (hst : cats st ≤ 8) (hstk : stk = as.reverse ++ vR b :: st) (hC : ∀ o, F = some o → CtX l y bytes nLy ret rm rmT (vR b :: as) S o) (kk : ∀ o, K o = some out → G 0 0 o.1 lv (pc + 3) (vI o.2.2 :: st)) (kx : ∀ o : XO, HX o = some out → Gx o.2.1 o.1 lv pc st) : F.bind (fun o => if o.2.1 = 0 then K o else HX o) = some out → G 0 0 S lv pc stk := by
  intro hE
  obtain ⟨o, h1, h2⟩ := bind_some hE
  by_cases he : o.2.1 = 0
  · rw [if_pos he] at h2
    have hc := (hC o h1).1 he
    rw [if_neg hret] at hc
    exact s_cv hG.ok hd hm hrec hcode hnp hrm hR hst ⟨Nat.zero_le _, Nat.zero_le _⟩ hstk hc (kk o h2)
  · rw [if_neg he] at h2
    have hC2 := (hC o h1).2 he
    have hX := kx o h2
    obtain ⟨p, e, s, m, args, below, meth, c, dC, dI, cA, ad, Q, hx, hb, hml, hown, hts, hnw, hK, hj, hzw, ht, rfl, rfl⟩ := hG
    intro H locs ls hP hS hl
    obtain ⟨⟨hy1, hy2, hy3⟩, hinst, hini, -, C, T, N, hc, hcls, hsel⟩ := hm
    obtain ⟨ks, hsh⟩ := oc_at hrec
    have hM := hC2 dC dI cA ad H.size hj
    have hcat : ((st.map (gV ad)).map fun v => v.category).sum ≤ 8 := by rw [cats_V]; exact hst
    have hpre : PreV s H C (ad b) (va_Pc ((vR b :: as).map (gV ad)) (wPre dC dI cA ad H.size S)) (as.map (gV ad)) := ⟨wPre.blind, va_recv (q0 := b) hK hP hc (wld_at hsh), fun U hU hW => ⟨rfl, by rw [hU], ⟨by rw [hU]; exact hP, va_K.moved hW.alike hK⟩, hnw.warm hW, hzw.to hW.alike hU hS.nil⟩⟩
    have hstk2 : stk.map (gV ad) = (as.map (gV ad)).reverse ++ Value.ref (ad b) :: st.map (gV ad) := by rw [hstk, List.map_append, List.map_reverse]; rfl
    have hlen : (as.map (gV ad)).length = np := by rw [List.length_map]; exact hnp
    have hr := vx_runV (l := l) (below := below) (meth := meth) (locs := locs) (cells := 0) (slots := 0) (R := R) (e := e) (Ts := TB) (nL := nL) (C := C) (rest := st.map (gV ad)) (g := F0 m pc ls (stk.map (gV ad))) ⟨hx, hb, hml, hown, hts⟩ hM ⟨callB_of np hts (TB_ws hcode) rfl hrmT.1 hrmT.2.1 (hts _ hini) (hts _ hlk) ⟨hy1, hy2, hy3⟩ (by rw [hrmT.2.2.1, hrmT.2.2.2]; exact hR), hts _ hinst, hts _ hsel⟩ hpre rfl hlen hl.1 hstk2 (lv_room hcat) hd ⟨by omega, by omega⟩
    intro Tt hT X
    rcases hr Tt hT X with ⟨v, st₀, t, T', L, h0, X', hL, e1, e3, hq, st9⟩ | ⟨q, st₀, t, T', L, E9, ce, h0, X', hL, e1, e3, hxc, hce, hcv, hcl, st9⟩
    · exact hq.elim
    · obtain ⟨rfl, hwA, hF⟩ := hxc
      obtain ⟨k1, k2, k3⟩ := vx_keep (A0 := fA ad s.heap.size) (A1 := fA ad H.size) h0 e1 hS (fun q _ => fA_le hS.1 q) (fun q => fA_le hS.1 q) hL hF
      obtain ⟨t2, a1, b1⟩ := hX T'.heap (locs ++ L) ls q ce (by rw [e1]; exact hwA.1) k3 hl (by rw [e1]; exact hce) hcv hcl T' rfl X'
      exact ⟨t2, st9.trans a1, b1⟩
theorem s_cx1 {α : Type} {A B : Option α} {out : α} {e e0 : Nat} (h1 : A = some out → Gx e0 S lv pc st) (h2 : B = some out → Gx e S lv pc st) : (if e = e0 then A else B) = some out → Gx e S lv pc st := by
  intro hE
  by_cases h : e = e0
  · rw [if_pos h] at hE; rw [h]; exact h1 hE
  · rw [if_neg h] at hE; exact h2 hE
theorem s_cx0 {α : Type} {out : α} {e : Nat} : (none : Option α) = some out → Gx e S lv pc st := fun h => by cases h
/-- caught: the handler begins by storing the exception in local i, which is not read any more -/
theorem s_catch (hG : OKT l cc own nL R G tab Gx) {e hpc i : Nat} {lv' : List (Nat × AV)} (hc : CTb own tab pc e hpc) (hd : (∃ q : Fin 4, q.val = i ∧ decode cc hpc = .ok (.astore_n q, 1)) ∨ decode cc hpc = .ok (.astore i, 2)) (hn : i < nL) (hlv : lv.filter (fun q => !(q.1 == i) && !(q.1 + 1 == i && cat2 q.2)) = lv') (kk1 : decode cc hpc = .ok (.astore i, 2) → E → G 1 6 S lv' (hpc + 2) []) (kk2 : (∃ q : Fin 4, q.val = i ∧ decode cc hpc = .ok (.astore_n q, 1)) → E → G 1 6 S lv' (hpc + 1) []) : E → Gx e S lv pc st := by
  intro hE
  obtain ⟨p, e9, s, m, args, below, meth, c, dC, dI, cA, ad, Q, hx, hb, hml, hown, hts, hnw, hK, hj, hzw, ht, rfl, rfl⟩ := hG
  obtain ⟨pre, x, suf, nm, hsp, hpass, hcov, h0, hlk, hcast, rfl⟩ := hc
  intro H locs ls q ce hP hS hl hce hcv hcl
  have hsub : ∀ ls' : Array Slot, lv_has ls' nL ((i, Value.ref q) :: (gL ad lv).filter (fun q => !(q.1 == i) && !(q.1 + 1 == i && q.2.category == 2))) → lv_has ls' nL (gL ad lv') := by
    intro ls' hl'
    refine ⟨hl'.1, hl'.2.1, fun z hz => hl'.2.2 z (List.mem_cons_of_mem _ ?_)⟩
    subst hlv
    unfold gL at hz ⊢
    rw [List.filter_map]
    have h9 : ((fun q : Nat × Value => !(q.1 == i) && !(q.1 + 1 == i && q.2.category == 2)) ∘ fun q : Nat × AV => (q.1, gV ad q.2)) = fun q => !(q.1 == i) && !(q.1 + 1 == i && cat2 q.2) := by
      funext z9
      simp only [Function.comp, gV_cat]
    rw [h9]
    exact hz
  refine vx_catch (name := nm) hown pre x suf (ht.trans hsp) (fun z hz => ?_) hcov h0 (hts _ hlk) (va_Nw.use rfl (hnw.1 _ hcast)) hce hcv hcl ?_
  · rcases hpass z hz with h | ⟨h1, nm2, h2, h3⟩
    · exact Or.inl h
    · exact Or.inr ⟨h1, nm2, hts _ h2, hnw.2.2 _ h3⟩
  · rcases hd with ⟨q4, h4, hd⟩ | hd
    · exact lv_astore_n hx hb hd h4 hl hn rfl (fun ls' hl' => kk2 ⟨q4, h4, hd⟩ hE H locs ls' hP hS (hsub ls' hl'))
    · exact lv_astore hx hb hd hl hn rfl (fun ls' hl' => kk1 hd hE H locs ls' hP hS (hsub ls' hl'))
theorem s_catchN (hG : OKT l cc own nL R G tab Gx) {e hpc : Nat} {q : Fin 4} {lv' : List (Nat × AV)} (hc : CTb own tab pc e hpc) (hd : decode cc hpc = .ok (.astore_n q, 1)) (hn : q.val < nL) (hlv : lv.filter (fun z => !(z.1 == q.val) && !(z.1 + 1 == q.val && cat2 z.2)) = lv') (kk : E → G 1 6 S lv' (hpc + 1) []) : E → Gx e S lv pc st :=
  s_catch hG hc (Or.inl ⟨q, rfl, hd⟩) hn hlv (fun h => by rw [hd] at h; cases h) (fun _ => kk)
theorem s_catchA (hG : OKT l cc own nL R G tab Gx) {e hpc i : Nat} {lv' : List (Nat × AV)} (hc : CTb own tab pc e hpc) (hd : decode cc hpc = .ok (.astore i, 2)) (hn : i < nL) (hlv : lv.filter (fun z => !(z.1 == i) && !(z.1 + 1 == i && cat2 z.2)) = lv') (kk : E → G 1 6 S lv' (hpc + 2) []) : E → Gx e S lv pc st :=
  s_catch hG hc (Or.inr hd) hn hlv (fun _ => kk) (fun ⟨q, _, h⟩ => by rw [hd] at h; cases h)
end
end
section
/-! the law's own rows: its script, its calls of methods with a table, its room -/
def OKL (l : Launch) (cc : ByteArray) (own : String) (nL : Nat) (R : Room) (G : GT) (xs : Nat → Int32) (L : Nat) : Prop :=
  ∃ (p : Program) (e : Env) (s : State) (m : MethodId) (args : Array Value) (below : List Frame) (meth : Method) (c : Code) (dC : Nat → ClassId) (dI : Nat → Nat → Nat) (cA : Nat → ClassId) (ad : Nat → Nat) (Q : State → Prop),
    p.tables.exec = Jvm.exec ∧ c.code = cc ∧ c.maxLocals = nL ∧ s.vm.findClass own = some m.cls ∧ (∀ w ∈ TB, w.before args s = true) ∧ NwA s ∧ va_K (dC, dI) vwCl (tyl cA) s ∧ Inj ad ∧ ZW ad s.heap.size s ∧ va_X (ad 41) L xs s s.heap ∧ ad 41 < s.heap.size ∧ ¬ fA ad s.heap.size (ad 41) ∧ G = Go p l e R s m args below meth c dC dI cA ad nL Q
section
variable {l : Launch} {cc : ByteArray} {own : String} {nL : Nat} {R : Room} {G : GT} {E : Prop} {k n pc : Nat} {S : HS} {lv : List (Nat × AV)} {st : List AV} {xs : Nat → Int32} {L : Nat}
theorem OKL.ok (h : OKL l cc own nL R G xs L) : OK l cc own nL R G := by
  obtain ⟨p, e, s, m, args, below, meth, c, dC, dI, cA, ad, Q, hx, hb, hml, hown, hts, hnw, hK, hj, hzw, -, -, -, hG⟩ := h
  exact ⟨p, e, s, m, args, below, meth, c, dC, dI, cA, ad, Q, hx, hb, hml, hown, hts, hnw, hK, hj, hzw, hG⟩
theorem s_sld (hG : OKL l cc own nL R G xs L) {α : Type} {A : Option α} {out : α} {i : Int32} (hd : decode cc pc = .ok (.iaload, 1)) (kk : A = some out → G k n S lv (pc + 1) (vI (xs i.toNatClampNeg) :: st)) : (if ib i L = true then A else none) = some out → G k n S lv pc (vI i :: vR 41 :: st) := by
  intro hE
  by_cases hy : ib i L = true
  · rw [if_pos hy] at hE
    obtain ⟨p, e, s, m, args, below, meth, c, dC, dI, cA, ad, Q, hx, hb, hml, hown, hts, hnw, hK, hj, hzw, hX, hbl, hbA, rfl⟩ := hG
    intro H locs ls hP hS hl
    exact va_sld hx hb hX hbl hbA hS (ib_in hy) hd (kk hE H locs ls hP hS hl)
  · rw [if_neg hy] at hE; cases hE
theorem s_slen (hG : OKL l cc own nL R G xs L) (hd : decode cc pc = .ok (.arraylength, 1)) (kk : E → G k n S lv (pc + 1) (vI (Int32.ofNat L) :: st)) : E → G k n S lv pc (vR 41 :: st) := by
  intro hE
  obtain ⟨p, e, s, m, args, below, meth, c, dC, dI, cA, ad, Q, hx, hb, hml, hown, hts, hnw, hK, hj, hzw, hX, hbl, hbA, rfl⟩ := hG
  intro H locs ls hP hS hl
  exact va_slen hx hb hX hbl hbA hS hd (kk hE H locs ls hP hS hl)
theorem s_wid (hG : OK l cc own nL R G) (k' n' : Nat) (h1 : k ≤ k') (h2 : n ≤ n') (kk : E → G k' n' S lv pc st) : E → G k n S lv pc st := by
  intro hE
  obtain ⟨p, e, s, m, args, below, meth, c, dC, dI, cA, ad, Q, hx, hb, hml, hown, hts, hnw, hK, hj, hzw, rfl⟩ := hG
  intro H locs ls hP hS hl
  exact W.widen h1 h2 (kk hE H locs ls hP hS hl)
theorem s_lw (hG : OK l cc own nL R G) {α : Type} {out : α} {F : Option (HS × Int32)} {K : HS × Int32 → Option α} {y : MethodName} {bytes : ByteArray} {nLy idx np : Nat} {ret : Option FieldType} {hh : List (Nat × Nat × Nat × Nat)} {rm : Room} {as stk : List AV} (hd : decode cc pc = .ok (.invokestatic idx, 3)) (hm : MS own idx y np) (hlk : Cond.methodLink own idx y ∈ TB) (hcode : Cond.codeWith y bytes nLy ret hh ∈ TB) (hnp : as.length = np) (hrm : rm.cells = 1 ∧ rm.slots = 6) (hR : rm.frames + 1 ≤ R.frames ∧ 8 + (nLy + 11) + rm.locals ≤ R.locals) (hst : cats st ≤ 8) (hkn : k + 1 ≤ R.cells ∧ n + 6 ≤ R.slots) (hstk : stk = as.reverse ++ st) (hC : ∀ o, F = some o → CtW l y bytes nLy ret hh rm as S (some (vI o.2)) o.1) (kk : ∀ o, K o = some out → G (k + 1) (n + 6) o.1 lv (pc + 3) (vI o.2 :: st)) : F.bind K = some out → G k n S lv pc stk := by
  intro hE
  obtain ⟨o, h1, h2⟩ := bind_some hE
  have hC2 := hC o h1
  have hkk := kk o h2
  obtain ⟨p, e, s, m, args, below, meth, c, dC, dI, cA, ad, Q, hx, hb, hml, hown, hts, hnw, hK, hj, hzw, rfl⟩ := hG
  intro H locs ls hP hS hl
  obtain ⟨⟨hy1, hy2, hy3⟩, hstat, hini, -⟩ := hm
  have hM := hC2 dC dI cA ad H.size hj
  have hcat : ((st.map (gV ad)).map fun v => v.category).sum ≤ 8 := by rw [cats_V]; exact hst
  have hpre : PreS s H (va_Pc (as.map (gV ad)) (wPre dC dI cA ad H.size S)) (as.map (gV ad)) := ⟨wPre.blind, fun U hU hW => ⟨rfl, by rw [hU], ⟨by rw [hU]; exact hP, va_K.moved hW.alike hK⟩, hnw.warm hW, hzw.to hW.alike hU hS.nil⟩⟩
  have hstk2 : stk.map (gV ad) = (as.map (gV ad)).reverse ++ st.map (gV ad) := by rw [hstk, List.map_append, List.map_reverse]
  have hlen : (as.map (gV ad)).length = np := by rw [List.length_map]; exact hnp
  have hgd : GoodIn TB (va_wsS own idx y (Cond.codeWith y bytes nLy ret hh :: TB)) := by
    intro w hw
    rcases List.mem_append.mp hw with hw | hw
    · rcases List.mem_cons.mp hw with rfl | hw
      · exact TB_in hlk
      · rcases List.mem_cons.mp hw with rfl | hw
        · exact TB_in hstat
        · rcases List.mem_cons.mp hw with rfl | hw
          · exact TB_in hini
          · cases hw
    · exact TB_ws hcode w hw
  have hr := vx_runSX (l := l) (below := below) (meth := meth) (locs := locs) (cells := k) (slots := n) (R := R) (e := e) (Ts := TB) (nL := nL) (rest := st.map (gV ad)) (g := F0 m pc ls (stk.map (gV ad))) ⟨hx, hb, hml, hown, hts⟩ hM (vx_cwSW np hts hgd rfl hrm.1 hrm.2 ⟨hy1, hy2, hy3⟩ hR) hpre rfl hlen hl.1 hstk2 (lv_room hcat) hd hkn
  intro Tt hT X
  rcases hr Tt hT X with ⟨v, st₀, t, T', L9, h0, X', hL, e1, e3, ⟨⟨hv, hwA⟩, hF⟩, st9⟩ | ⟨q, st₀, t, T', L9, E9, ce, h0, X', hL, e1, e3, hxc, -⟩
  · cases hv
    obtain ⟨k1, k2, k3⟩ := vx_keep (A0 := fA ad s.heap.size) (A1 := fA ad H.size) h0 e1 hS (fun q _ => fA_le hS.1 q) (fun q => fA_le hS.1 q) hL hF
    obtain ⟨t2, a1, b1⟩ := hkk T'.heap (locs ++ L9) ls (by rw [e1]; exact hwA.1) k3 hl T' rfl X'
    exact ⟨t2, st9 t2 a1, b1⟩
  · exact hxc.elim
end
end
section
/-! the law's own methods: calls that may cost cells, the one with a table (asks), the script read by a method -/
def CtK (l : Launch) (y : MethodName) (cc : ByteArray) (n : Nat) (ret : Option FieldType) (rm : Room) (as : List AV) (S : HS) (r : Option AV) (S' : HS) : Prop :=
  ∀ dC dI cA ad sz, Inj ad → Met l y (.code y cc n ret :: TB) rm (va_Pc (as.map (gV ad)) (wPre dC dI cA ad sz S)) (wQ dC dI cA ad sz r S') rm.cells rm.slots (fA ad sz)
def RtK (G : GT) (cc : ByteArray) (ret : Option FieldType) (r : Option AV) (S' : HS) (K N : Nat) : Prop :=
  (∀ k n lv pc, k ≤ K → n ≤ N → ret = none → r = none → decode cc pc = .ok (.return_, 1) → G k n S' lv pc []) ∧
  (∀ k n lv pc ty x, k ≤ K → n ≤ N → ret = some ty → narrow ty (.int x) = .int x → r = some (vI x) → decode cc pc = .ok (.ireturn, 1) → G k n S' lv pc [vI x])
theorem CtK.intro {l : Launch} {y : MethodName} {cc : ByteArray} {nL : Nat} {ret : Option FieldType} {rm : Room} {as : List AV} {S : HS} {r : Option AV} {S' : HS} {own : String} {lv : List (Nat × AV)} (hy : plainName y.cls = true) (ho : y.cls = own) (hlv : lvA 0 as = lv) (hn : cats as ≤ nL)
    (body : ∀ G, OK l cc own nL rm G → RtK G cc ret r S' rm.cells rm.slots → G 0 0 S lv 0 []) : CtK l y cc nL ret rm as S r S' := by
  intro dC dI cA ad sz hj
  refine Met.ofW (cc := cc) (maxL := nL) (ret := ret) hy rfl ?_
  intro p e s m args below meth c s₁ B hml hv
  obtain ⟨rfl, hsz, ⟨hP, hK⟩, hnw, hzw⟩ := hv
  have hx := B.exec
  have hb := B.bytes
  have hr := B.returns
  have hts0 := atoms_spec (ws := .code y cc nL ret :: TB) B.pre
  have hown : s.vm.findClass own = some m.cls := by rw [← ho]; exact findClass_of_methodNamed B.named
  have hlocks := B.notSynchronized
  subst hsz
  have hl := lv_entry (as.map (gV ad)) (n := nL) (by rw [lvA_len]; exact hn)
  rw [lg_entry_eq]
  generalize (lg_sl (as.map (gV ad)) ++ List.replicate (nL - (lg_sl (as.map (gV ad))).length) Slot.unset).toArray = ls at hl ⊢
  rw [lvA_eq, hlv] at hl
  have hG : OK l cc own nL rm (Go p l e rm s m (as.map (gV ad)).toArray below meth c dC dI cA ad nL (MQ below (wQ dC dI cA ad s.heap.size r S') (as.map (gV ad)).toArray s rm.cells rm.slots (fA ad s.heap.size))) :=
    ⟨p, e, s, m, _, below, meth, c, dC, dI, cA, ad, _, hx, hb, hml, hown, fun w hw => hts0 w (List.mem_cons_of_mem _ hw), hnw, hK, hj, hzw, rfl⟩
  refine body _ hG ⟨?_, ?_⟩ s.heap [] ls hP va_S.rf hl
  · intro k n lv pc hk9 hn9 h1 h2 hd H locs ls hP hS hl
    rw [h1] at hr
    exact W.widen hk9 hn9 (W.vret hx hb hr (fun t ht hW => ⟨⟨by rw [h2]; rfl, by rw [ht]; exact hP, va_K.moved hW.alike hK⟩, hS.F ht⟩) hS.2.2 hd)
  · intro k n lv pc ty x hk9 hn9 h1 hnr h2 hd H locs ls hP hS hl
    rw [h1] at hr
    exact W.widen hk9 hn9 (W.zret (v := x) hx hb hr hnr (fun t ht hW => ⟨⟨by rw [h2]; rfl, by rw [ht]; exact hP, va_K.moved hW.alike hK⟩, hS.F ht⟩) hS.2.2 hd)
section
variable {p : Program} {l : Launch} {e : Env} {R : Room} {s : State} {m : MethodId} {args : Array Value} {below : List Frame} {meth : Method} {c : Code} {H : Heap} {locs : List Loc} {cells slots : Nat} {Q : State → Prop} {dC : Nat → ClassId} {dI : Nat → Nat → Nat} {cA : Nat → ClassId} {ad : Nat → Nat}
theorem callwK {pc mc ms : Nat} {ls : Array Slot} {st0 rest : List Value} {a : Array Value} {r : Option AV} {S' : HS} (hr : va_Run p l e R s m args below meth c H locs cells slots mc ms (F0 m pc ls st0) rest (wQ dC dI cA ad H.size r S' a) (fA ad H.size)) (hS : va_S (fA ad s.heap.size) s.heap H locs)
    (kk : ∀ (H1 : Heap) (locs1 : List Loc), va_P (dC, dI) vwCl (wld cA ad S') H1 → va_S (fA ad s.heap.size) s.heap H1 locs1 → W p l e R s m args below meth c H1 locs1 (cells + mc) (slots + ms) Q (F0 m (pc + 3) ls ((r.map (gV ad)).toList ++ rest))) : W p l e R s m args below meth c H locs cells slots Q (F0 m pc ls st0) := by
  intro T hT X
  obtain ⟨v, st₀, t, T', L, h0, X', hL, e1, e2, ⟨⟨hv, hwA⟩, hz, hk⟩, st⟩ := hr T hT X
  cases hv
  rw [h0] at hz hk
  have hA : ∀ q, fA ad H.size q → fA ad s.heap.size q := fA_le hS.1
  obtain ⟨t2, a1, b1⟩ := kk T'.heap (locs ++ L) (by rw [e1]; exact hwA.1)
    ⟨Nat.le_trans hS.1 (by rw [e1]; exact hz), fun q h1 h2 => by rw [e1, hk q (Nat.lt_of_lt_of_le h1 hS.1) (fun z => h2 (hA q z))]; exact hS.2.1 q h1 h2, fun q hq => by
      rcases List.mem_append.mp hq with h | h
      · exact hS.2.2 q h
      · exact hA _ (hL q h)⟩ T' rfl X'
  exact ⟨t2, st t2 a1, b1⟩
end
section
variable {l : Launch} {cc : ByteArray} {own : String} {nL : Nat} {R : Room} {G : GT} {E : Prop} {k n pc : Nat} {S : HS} {lv : List (Nat × AV)} {st : List AV}
theorem s_csK (hG : OK l cc own nL R G) {y : MethodName} {bytes : ByteArray} {nLy idx np K N : Nat} {ret : Option FieldType} {rm : Room} {as stk : List AV} {r : Option AV} {S' : HS} (hd : decode cc pc = .ok (.invokestatic idx, 3)) (hm : MS own idx y np) (hcode : Cond.code y bytes nLy ret ∈ TB) (hnp : as.length = np) (hrm : rm.cells = K ∧ rm.slots = N) (hR : rm.frames + 1 ≤ R.frames ∧ 8 + (nLy + 11) + rm.locals ≤ R.locals) (hst : cats st ≤ 8) (hkn : k + K ≤ R.cells ∧ n + N ≤ R.slots) (hstk : stk = as.reverse ++ st) (hC : CtK l y bytes nLy ret rm as S r S') (kk : G (k + K) (n + N) S' lv (pc + 3) (r.toList ++ st)) : G k n S lv pc stk := by
  obtain ⟨p, e, s, m, args, below, meth, c, dC, dI, cA, ad, Q, hx, hb, hml, hown, hts, hnw, hK, hj, hzw, rfl⟩ := hG
  intro H locs ls hP hS hl
  obtain ⟨⟨hy1, hy2, hy3⟩, hstat, hini, hlk⟩ := hm
  obtain ⟨rfl, rfl⟩ := hrm
  have hM := hC dC dI cA ad H.size hj
  have hcat : ((st.map (gV ad)).map fun v => v.category).sum ≤ 8 := by rw [cats_V]; exact hst
  have hpre : PreS s H (va_Pc (as.map (gV ad)) (wPre dC dI cA ad H.size S)) (as.map (gV ad)) := ⟨wPre.blind, fun U hU hW => ⟨rfl, by rw [hU], ⟨by rw [hU]; exact hP, va_K.moved hW.alike hK⟩, hnw.warm hW, hzw.to hW.alike hU (hS.nil)⟩⟩
  have hstk2 : stk.map (gV ad) = (as.map (gV ad)).reverse ++ st.map (gV ad) := by rw [hstk, List.map_append, List.map_reverse]
  have hlen : (as.map (gV ad)).length = np := by rw [List.length_map]; exact hnp
  refine callwK (dC := dC) (dI := dI) (cA := cA) (r := r) (S' := S') (mc := rm.cells) (ms := rm.slots) (rest := st.map (gV ad)) (a := (as.map (gV ad)).toArray) ?_ hS (fun H1 locs1 hP1 hS1 => ?_)
  · rcases hlk with hlk | ⟨host, hlk⟩
    · exact va_runS (Ts := TB) (nL := nL) ⟨hx, hb, hml, hown, hts⟩ hM ⟨callB_of np hts (TB_ws hcode) rfl rfl rfl (hts _ hini) (hts _ hlk) ⟨hy1, hy2, hy3⟩ hR, hts _ hstat⟩ hpre rfl hlen hl.1 hstk2 (lv_room hcat) hd ⟨hkn.1, hkn.2⟩
    · exact va_runSN (Ts := TB) (nL := nL) (host := host) ⟨hx, hb, hml, hown, hts⟩ hM ⟨va_cnB np hts (TB_ws hcode) rfl rfl rfl (hnw.1 _ hlk) (hts _ hini) ⟨hy1, hy2, hy3⟩ hR, hts _ hstat, trivial⟩ hpre rfl hlen hl.1 hstk2 (lv_room hcat) hd ⟨hkn.1, hkn.2⟩
  · have h := kk H1 locs1 ls hP1 hS1 hl
    rw [List.map_append] at h
    cases r <;> exact h
theorem s_csKI (hG : OK l cc own nL R G) {α : Type} {out : α} {F : Option (HS × Int32)} {K : (HS × Int32) → Option α} {y : MethodName} {bytes : ByteArray} {nLy idx np KK NN : Nat} {ret : Option FieldType} {rm : Room} {as stk : List AV} (hd : decode cc pc = .ok (.invokestatic idx, 3)) (hm : MS own idx y np) (hcode : Cond.code y bytes nLy ret ∈ TB) (hnp : as.length = np) (hrm : rm.cells = KK ∧ rm.slots = NN) (hR : rm.frames + 1 ≤ R.frames ∧ 8 + (nLy + 11) + rm.locals ≤ R.locals) (hst : cats st ≤ 8) (hkn : k + KK ≤ R.cells ∧ n + NN ≤ R.slots) (hstk : stk = as.reverse ++ st) (hC : ∀ o, F = some o → CtK l y bytes nLy ret rm as S (some (vI o.2)) o.1) (kk : ∀ o, K o = some out → G (k + KK) (n + NN) o.1 lv (pc + 3) (vI o.2 :: st)) : F.bind K = some out → G k n S lv pc stk := by
  intro hE
  obtain ⟨o, h1, h2⟩ := bind_some hE
  exact s_csK hG hd hm hcode hnp hrm hR hst hkn hstk (hC o h1) (kk o h2)
theorem s_csKV (hG : OK l cc own nL R G) {α : Type} {out : α} {F : Option HS} {K : HS → Option α} {y : MethodName} {bytes : ByteArray} {nLy idx np KK NN : Nat} {ret : Option FieldType} {rm : Room} {as stk : List AV} (hd : decode cc pc = .ok (.invokestatic idx, 3)) (hm : MS own idx y np) (hcode : Cond.code y bytes nLy ret ∈ TB) (hnp : as.length = np) (hrm : rm.cells = KK ∧ rm.slots = NN) (hR : rm.frames + 1 ≤ R.frames ∧ 8 + (nLy + 11) + rm.locals ≤ R.locals) (hst : cats st ≤ 8) (hkn : k + KK ≤ R.cells ∧ n + NN ≤ R.slots) (hstk : stk = as.reverse ++ st) (hC : ∀ o, F = some o → CtK l y bytes nLy ret rm as S none o) (kk : ∀ o, K o = some out → G (k + KK) (n + NN) o lv (pc + 3) st) : F.bind K = some out → G k n S lv pc stk := by
  intro hE
  obtain ⟨o, h1, h2⟩ := bind_some hE
  exact s_csK hG hd hm hcode hnp hrm hR hst hkn hstk (hC o h1) (kk o h2)
/-- a call of a method that may throw, where it doesn't -/
theorem s_dI (hG : OK l cc own nL R G) {α : Type} {out : α} {F : Option XO} {K : XO → Option α} {y : MethodName} {bytes : ByteArray} {nLy idx np ci b : Nat} {ret : Option FieldType} {rm rmT : Room} {as stk : List AV} (hret : ret ≠ none) (hd : decode cc pc = .ok (.invokevirtual idx, 3)) (hm : MV own idx ci y np) (hrec : oc b = some ci) (hcode : Cond.code y bytes nLy ret ∈ TB) (hnp : as.length = np) (hrm : rm.cells = 0 ∧ rm.slots = 0) (hR : rm.frames + 1 ≤ R.frames ∧ 8 + (nLy + 11) + rm.locals ≤ R.locals) (hst : cats st ≤ 8) (hkn : k ≤ R.cells ∧ n ≤ R.slots) (hstk : stk = as.reverse ++ vR b :: st) (hC : ∀ o, F = some o → CtX l y bytes nLy ret rm rmT (vR b :: as) S o) (kk : ∀ o, K o = some out → G k n o.1 lv (pc + 3) (vI o.2.2 :: st)) : F.bind (fun o => if o.2.1 = 0 then K o else none) = some out → G k n S lv pc stk := by
  intro hE
  obtain ⟨o, h1, h2⟩ := bind_some hE
  by_cases he : o.2.1 = 0
  · rw [if_pos he] at h2
    have hc := (hC o h1).1 he
    rw [if_neg hret] at hc
    exact s_cv hG hd hm hrec hcode hnp hrm hR hst hkn hstk hc (kk o h2)
  · rw [if_neg he] at h2
    cases h2
theorem s_rKV {out : HS} {K N : Nat} (hR : RtK G cc none none out K N) (hk : k ≤ K) (hn : n ≤ N) (hd : decode cc pc = .ok (.return_, 1)) : some S = some out → G k n S lv pc [] := fun h => by cases h; exact hR.1 _ _ _ _ hk hn rfl rfl hd
theorem s_rKI {out : HS × Int32} {x : Int32} {K N : Nat} (hR : RtK G cc (some .int) (some (vI out.2)) out.1 K N) (hk : k ≤ K) (hn : n ≤ N) (hd : decode cc pc = .ok (.ireturn, 1)) : some (S, x) = some out → G k n S lv pc [vI x] := fun h => by cases h; exact hR.2 _ _ _ _ _ _ hk hn rfl rfl rfl hd
theorem s_rKZ {out : HS × Int32} {x : Int32} {K N : Nat} (hR : RtK G cc (some .boolean) (some (vI out.2)) out.1 K N) (hk : k ≤ K) (hn : n ≤ N) (hd : decode cc pc = .ok (.ireturn, 1)) : (if nz x = true then some (S, x) else none) = some out → G k n S lv pc [vI x] := fun h => by
  by_cases hz : nz x = true
  · rw [if_pos hz] at h; cases h; exact hR.2 _ _ _ _ _ _ hk hn rfl (nz_ok hz).1 rfl hd
  · rw [if_neg hz] at h; cases h
end
/-! the method with a table -/
def CtA (l : Launch) (y : MethodName) (cc : ByteArray) (n : Nat) (hh : List (Nat × Nat × Nat × Nat)) (rm : Room) (as : List AV) (S : HS) (r : Option AV) (S' : HS) : Prop :=
  ∀ dC dI cA ad sz, Inj ad → vx_Met l y (.codeWith y cc n (some .int) hh :: TB) rm (va_Pc (as.map (gV ad)) (wPre dC dI cA ad sz S)) (wQ dC dI cA ad sz r S') (fun _ _ _ => False) rm.cells rm.slots (fA ad sz)
def RtA (G : GT) (cc : ByteArray) (out : XO) (mc : Nat) : Prop := ∀ S lv pc k n e x, k ≤ mc → n ≤ 6 * mc → out = (S, (e, x)) → decode cc pc = .ok (.ireturn, 1) → G k n S lv pc [vI x]
theorem CtA.intro {l : Launch} {y : MethodName} {cc : ByteArray} {nL : Nat} {hh : List (Nat × Nat × Nat × Nat)} {rm : Room} {as : List AV} {S : HS} {out : XO} {own : String} {lv : List (Nat × AV)} {mc : Nat} (hy : plainName y.cls = true) (ho : y.cls = own) (hrm : rm.cells = mc ∧ rm.slots = 6 * mc) (hlv : lvA 0 as = lv) (hn : cats as ≤ nL)
    (body : ∀ G Gx, OKT l cc own nL rm G (tableOf hh) Gx → RtA G cc out mc → G 0 0 S lv 0 []) : CtA l y cc nL hh rm as S (some (vI out.2.2)) out.1 := by
  intro dC dI cA ad sz hj
  refine vx_ofWH (cc := cc) (maxL := nL) (ret := some .int) (hh := hh) hy rfl ?_
  intro p e s m args below meth c s₁ B hml hv
  obtain ⟨rfl, hsz, ⟨hP, hK⟩, hnw, hzw⟩ := hv
  have hx := B.exec
  have hb := B.bytes
  have hr := B.returns
  have hts0 := atoms_spec (ws := .codeWith y cc nL (some .int) hh :: TB) B.pre
  have htab := vx_table (x := y) B (hts0 _ List.mem_cons_self)
  have hown : s.vm.findClass own = some m.cls := by rw [← ho]; exact findClass_of_methodNamed B.named
  have hlocks := B.notSynchronized
  subst hsz
  have hl := lv_entry (as.map (gV ad)) (n := nL) (by rw [lvA_len]; exact hn)
  rw [lg_entry_eq]
  generalize (lg_sl (as.map (gV ad)) ++ List.replicate (nL - (lg_sl (as.map (gV ad))).length) Slot.unset).toArray = ls at hl ⊢
  rw [lvA_eq, hlv] at hl
  have hG : OKT l cc own nL rm (Go p l e rm s m (as.map (gV ad)).toArray below meth c dC dI cA ad nL (vx_MQ below (wQ dC dI cA ad s.heap.size (some (vI out.2.2)) out.1) (fun _ _ _ => False) (as.map (gV ad)).toArray s rm.cells rm.slots (fA ad s.heap.size))) (tableOf hh) _ :=
    ⟨p, e, s, m, _, below, meth, c, dC, dI, cA, ad, _, hx, hb, hml, hown, fun w hw => hts0 w (List.mem_cons_of_mem _ hw), hnw, hK, hj, hzw, htab, rfl, rfl⟩
  refine body _ _ hG ?_ s.heap [] ls hP va_S.rf hl
  intro S2 lv pc k n e9 x h1 h2 h3 hd H locs ls hP hS hl
  subst h3
  exact W.widen (by rw [hrm.1]; exact h1) (by rw [hrm.2]; exact h2) (vx_ret (W.iret (v := x) hx hb hr (fun t ht hW => ⟨⟨rfl, by rw [ht]; exact hP, va_K.moved hW.alike hK⟩, hS.F ht⟩) hS.2.2 hd))
section
variable {l : Launch} {cc : ByteArray} {own : String} {nL : Nat} {R : Room} {G : GT} {E : Prop} {k n pc : Nat} {S : HS} {lv : List (Nat × AV)} {st : List AV} {tab : List ExceptionTableEntry} {Gx : Nat → HS → List (Nat × AV) → Nat → List AV → Prop}
theorem s_wri0 {out : XO} {x : Int32} {mc : Nat} (hR : RtA G cc out mc) (hd : decode cc pc = .ok (.ireturn, 1)) : some (S, ((0 : Nat), x)) = some out → G 0 0 S lv pc [vI x] := fun h => hR _ _ _ _ _ _ _ (Nat.zero_le _) (Nat.zero_le _) (Option.some.inj h).symm hd
theorem s_wriE {out : XO} {x : Int32} {mc e : Nat} (hR : RtA G cc out mc) (h01 : mc = 1 ∨ (mc = 0 ∧ out.2.1 = 0)) (he : e ≠ 0) (hd : decode cc pc = .ok (.ireturn, 1)) : some (S, (e, x)) = some out → G 1 6 S lv pc [vI x] := fun h => by
  rcases h01 with h9 | ⟨-, h9⟩
  · exact hR _ _ _ _ _ _ _ (by omega) (by omega) (Option.some.inj h).symm hd
  · cases h; exact absurd h9 he
theorem s_wx2 (hG : OKT l cc own nL R G tab Gx) {out : XO} {mc : Nat} (h01 : mc = 1 ∨ (mc = 0 ∧ out.2.1 = 0)) {F : Option XO} {K HX : XO → Option XO} {y : MethodName} {bytes : ByteArray} {nLy idx np ci b : Nat} {ret : Option FieldType} {rm rmT : Room} {as stk : List AV} (hret : ret ≠ none) (hd : decode cc pc = .ok (.invokevirtual idx, 3)) (hm : MV own idx ci y np) (hlk : Cond.methodLink own idx y ∈ TB) (hrec : oc b = some ci) (hcode : Cond.code y bytes nLy ret ∈ TB) (hnp : as.length = np) (hrm : rm.cells = 0 ∧ rm.slots = 0) (hrmT : rmT.cells = 1 ∧ rmT.slots = 6 ∧ rmT.frames = rm.frames ∧ rmT.locals = rm.locals) (hR : rm.frames + 1 ≤ R.frames ∧ 8 + (nLy + 11) + rm.locals ≤ R.locals) (hRc : R.cells = mc ∧ R.slots = 6 * mc) (hst : cats st ≤ 8) (hstk : stk = as.reverse ++ vR b :: st) (hC : ∀ o, F = some o → CtX l y bytes nLy ret rm rmT (vR b :: as) S o) (hHX : ∀ o r, HX o = some r → r.2.1 ≠ 0) (kk : ∀ o, K o = some out → G 0 0 o.1 lv (pc + 3) (vI o.2.2 :: st)) (kx : ∀ o : XO, HX o = some out → Gx o.2.1 o.1 lv pc st) : F.bind (fun o => if o.2.1 = 0 then K o else HX o) = some out → G 0 0 S lv pc stk := by
  rcases h01 with h1 | ⟨-, h0⟩
  · subst h1
    exact s_wx hG hret hd hm hlk hrec hcode hnp hrm hrmT hR hRc hst hstk hC kk kx
  · intro hE
    obtain ⟨o, h1, h2⟩ := bind_some hE
    by_cases he : o.2.1 = 0
    · rw [if_pos he] at h2
      have hc := (hC o h1).1 he
      rw [if_neg hret] at hc
      exact s_cv hG.ok hd hm hrec hcode hnp hrm hR hst ⟨Nat.zero_le _, Nat.zero_le _⟩ hstk hc (kk o h2)
    · rw [if_neg he] at h2
      exact absurd h0 (hHX o out h2)
theorem hx1 {α : Type} {e e0 : Nat} {A B : Option α} {r : α} {P : α → Prop} (h1 : A = some r → P r) (h2 : B = some r → P r) : (if e = e0 then A else B) = some r → P r := by
  intro h
  by_cases q : e = e0
  · rw [if_pos q] at h; exact h1 h
  · rw [if_neg q] at h; exact h2 h
theorem hx2 {S : HS} {e : Nat} {x : Int32} {r : XO} (he : e ≠ 0) : some (S, (e, x)) = some r → r.2.1 ≠ 0 := fun h => by cases h; exact he
theorem hx0 {r : XO} {P : XO → Prop} : (none : Option XO) = some r → P r := fun h => by cases h
/-- a call of it -/
theorem s_lwA (hG : OK l cc own nL R G) {y : MethodName} {bytes : ByteArray} {nLy idx np mc : Nat} {hh : List (Nat × Nat × Nat × Nat)} {rm : Room} {as stk : List AV} {o : XO} (hd : decode cc pc = .ok (.invokestatic idx, 3)) (hm : MS own idx y np) (hlk : Cond.methodLink own idx y ∈ TB) (hcode : Cond.codeWith y bytes nLy (some .int) hh ∈ TB) (hnp : as.length = np) (hrm : rm.cells = mc ∧ rm.slots = 6 * mc) (hR : rm.frames + 1 ≤ R.frames ∧ 8 + (nLy + 11) + rm.locals ≤ R.locals) (hst : cats st ≤ 8) (hkn : k + mc ≤ R.cells ∧ n + 6 * mc ≤ R.slots) (hstk : stk = as.reverse ++ st) (hC2 : CtA l y bytes nLy hh rm as S (some (vI o.2.2)) o.1) (hkk : G (k + mc) (n + 6 * mc) o.1 lv (pc + 3) (vI o.2.2 :: st)) : G k n S lv pc stk := by
  obtain ⟨p, e, s, m, args, below, meth, c, dC, dI, cA, ad, Q, hx, hb, hml, hown, hts, hnw, hK, hj, hzw, rfl⟩ := hG
  intro H locs ls hP hS hl
  obtain ⟨⟨hy1, hy2, hy3⟩, hstat, hini, -⟩ := hm
  have hM := hC2 dC dI cA ad H.size hj
  rw [hrm.1, hrm.2] at hM
  have hcat : ((st.map (gV ad)).map fun v => v.category).sum ≤ 8 := by rw [cats_V]; exact hst
  have hpre : PreS s H (va_Pc (as.map (gV ad)) (wPre dC dI cA ad H.size S)) (as.map (gV ad)) := ⟨wPre.blind, fun U hU hW => ⟨rfl, by rw [hU], ⟨by rw [hU]; exact hP, va_K.moved hW.alike hK⟩, hnw.warm hW, hzw.to hW.alike hU hS.nil⟩⟩
  have hstk2 : stk.map (gV ad) = (as.map (gV ad)).reverse ++ st.map (gV ad) := by rw [hstk, List.map_append, List.map_reverse]
  have hlen : (as.map (gV ad)).length = np := by rw [List.length_map]; exact hnp
  have hgd : GoodIn TB (va_wsS own idx y (Cond.codeWith y bytes nLy (some .int) hh :: TB)) := by
    intro w hw
    rcases List.mem_append.mp hw with hw | hw
    · rcases List.mem_cons.mp hw with rfl | hw
      · exact TB_in hlk
      · rcases List.mem_cons.mp hw with rfl | hw
        · exact TB_in hstat
        · rcases List.mem_cons.mp hw with rfl | hw
          · exact TB_in hini
          · cases hw
    · exact TB_ws hcode w hw
  have hr := vx_runSX (l := l) (below := below) (meth := meth) (locs := locs) (cells := k) (slots := n) (R := R) (e := e) (Ts := TB) (nL := nL) (rest := st.map (gV ad)) (g := F0 m pc ls (stk.map (gV ad))) ⟨hx, hb, hml, hown, hts⟩ hM (vx_cwSW np hts hgd rfl hrm.1 hrm.2 ⟨hy1, hy2, hy3⟩ hR) hpre rfl hlen hl.1 hstk2 (lv_room hcat) hd hkn
  intro Tt hT X
  rcases hr Tt hT X with ⟨v, st₀, t, T', L9, h0, X', hL, e1, e3, ⟨⟨hv, hwA⟩, hF⟩, st9⟩ | ⟨q, st₀, t, T', L9, E9, ce, h0, X', hL, e1, e3, hxc, -⟩
  · cases hv
    obtain ⟨k1, k2, k3⟩ := vx_keep (A0 := fA ad s.heap.size) (A1 := fA ad H.size) h0 e1 hS (fun q _ => fA_le hS.1 q) (fun q => fA_le hS.1 q) hL hF
    obtain ⟨t2, a1, b1⟩ := hkk T'.heap (locs ++ L9) ls (by rw [e1]; exact hwA.1) k3 hl T' rfl X'
    exact ⟨t2, st9 t2 a1, b1⟩
  · exact hxc.elim
theorem s_aY (hG : OK l cc own nL R G) {α : Type} {out : α} {F : Option XO} {K : XO → Option α} {y : MethodName} {bytes : ByteArray} {nLy idx np : Nat} {hh : List (Nat × Nat × Nat × Nat)} {rm : Nat → Room} {as stk : List AV} (hd : decode cc pc = .ok (.invokestatic idx, 3)) (hm : MS own idx y np) (hlk : Cond.methodLink own idx y ∈ TB) (hcode : Cond.codeWith y bytes nLy (some .int) hh ∈ TB) (hnp : as.length = np) (hrm : (rm 1).cells = 1 ∧ (rm 1).slots = 6) (hR : (rm 1).frames + 1 ≤ R.frames ∧ 8 + (nLy + 11) + (rm 1).locals ≤ R.locals) (hst : cats st ≤ 8) (hkn : k + 1 ≤ R.cells ∧ n + 6 ≤ R.slots) (hstk : stk = as.reverse ++ st) (hC : ∀ o mc, (mc = 1 ∨ (mc = 0 ∧ o.2.1 = 0)) → F = some o → CtA l y bytes nLy hh (rm mc) as S (some (vI o.2.2)) o.1) (kk : ∀ o, K o = some out → G (k + 1) (n + 6) o.1 lv (pc + 3) (vI o.2.2 :: st)) : F.bind K = some out → G k n S lv pc stk := by
  intro hE
  obtain ⟨o, h1, h2⟩ := bind_some hE
  exact s_lwA hG (mc := 1) hd hm hlk hcode hnp hrm hR hst hkn hstk (hC o 1 (Or.inl rfl) h1) (kk o h2)
theorem s_aN (hG : OK l cc own nL R G) {α : Type} {out : α} {F : Option XO} {K : XO → Option α} {y : MethodName} {bytes : ByteArray} {nLy idx np : Nat} {hh : List (Nat × Nat × Nat × Nat)} {rm : Nat → Room} {as stk : List AV} (hd : decode cc pc = .ok (.invokestatic idx, 3)) (hm : MS own idx y np) (hlk : Cond.methodLink own idx y ∈ TB) (hcode : Cond.codeWith y bytes nLy (some .int) hh ∈ TB) (hnp : as.length = np) (hrm : (rm 0).cells = 0 ∧ (rm 0).slots = 0) (hR : (rm 0).frames + 1 ≤ R.frames ∧ 8 + (nLy + 11) + (rm 0).locals ≤ R.locals) (hst : cats st ≤ 8) (hkn : k ≤ R.cells ∧ n ≤ R.slots) (hstk : stk = as.reverse ++ st) (hC : ∀ o mc, (mc = 1 ∨ (mc = 0 ∧ o.2.1 = 0)) → F = some o → CtA l y bytes nLy hh (rm mc) as S (some (vI o.2.2)) o.1) (kk : ∀ o, K o = some out → G k n o.1 lv (pc + 3) (vI o.2.2 :: st)) : F.bind (fun o => if o.2.1 = 0 then K o else none) = some out → G k n S lv pc stk := by
  intro hE
  obtain ⟨o, h1, h2⟩ := bind_some hE
  by_cases he : o.2.1 = 0
  · rw [if_pos he] at h2
    exact s_lwA hG (mc := 0) hd hm hlk hcode hnp hrm hR hst hkn hstk (hC o 0 (Or.inr ⟨rfl, he⟩) h1) (kk o h2)
  · rw [if_neg he] at h2
    cases h2
end
/-! a method that reads the script -/
def sPre (dC : Nat → ClassId) (dI : Nat → Nat → Nat) (cA : Nat → ClassId) (ad : Nat → Nat) (xs : Nat → Int32) (L sz : Nat) (S : HS) (U : State) : Prop := wPre dC dI cA ad sz S U ∧ va_X (ad 41) L xs U U.heap ∧ ad 41 < sz ∧ ¬ fA ad sz (ad 41)
def CtD (l : Launch) (y : MethodName) (cc : ByteArray) (n : Nat) (ret : Option FieldType) (rm : Room) (xs : Nat → Int32) (L : Nat) (as : List AV) (S : HS) (r : Option AV) (S' : HS) : Prop :=
  ∀ dC dI cA ad sz, Inj ad → Met l y (.code y cc n ret :: TB) rm (va_Pc (as.map (gV ad)) (sPre dC dI cA ad xs L sz S)) (wQ dC dI cA ad sz r S') 0 0 (fA ad sz)
theorem CtD.intro {l : Launch} {y : MethodName} {cc : ByteArray} {nL : Nat} {ret : Option FieldType} {rm : Room} {xs : Nat → Int32} {L : Nat} {as : List AV} {S : HS} {r : Option AV} {S' : HS} {own : String} {lv : List (Nat × AV)} (hy : plainName y.cls = true) (ho : y.cls = own) (hlv : lvA 0 as = lv) (hn : cats as ≤ nL)
    (body : ∀ G, OKL l cc own nL rm G xs L → Rt G cc ret r S' → G 0 0 S lv 0 []) : CtD l y cc nL ret rm xs L as S r S' := by
  intro dC dI cA ad sz hj
  refine Met.ofW (cc := cc) (maxL := nL) (ret := ret) hy rfl ?_
  intro p e s m args below meth c s₁ B hml hv
  obtain ⟨rfl, ⟨hsz, ⟨hP, hK⟩, hnw, hzw⟩, hX, hbl, hnA⟩ := hv
  have hx := B.exec
  have hb := B.bytes
  have hr := B.returns
  have hts0 := atoms_spec (ws := .code y cc nL ret :: TB) B.pre
  have hown : s.vm.findClass own = some m.cls := by rw [← ho]; exact findClass_of_methodNamed B.named
  have hlocks := B.notSynchronized
  subst hsz
  have hl := lv_entry (as.map (gV ad)) (n := nL) (by rw [lvA_len]; exact hn)
  rw [lg_entry_eq]
  generalize (lg_sl (as.map (gV ad)) ++ List.replicate (nL - (lg_sl (as.map (gV ad))).length) Slot.unset).toArray = ls at hl ⊢
  rw [lvA_eq, hlv] at hl
  have hG : OKL l cc own nL rm (Go p l e rm s m (as.map (gV ad)).toArray below meth c dC dI cA ad nL (MQ below (wQ dC dI cA ad s.heap.size r S') (as.map (gV ad)).toArray s 0 0 (fA ad s.heap.size))) xs L :=
    ⟨p, e, s, m, _, below, meth, c, dC, dI, cA, ad, _, hx, hb, hml, hown, fun w hw => hts0 w (List.mem_cons_of_mem _ hw), hnw, hK, hj, hzw, hX, hbl, hnA, rfl⟩
  refine body _ hG ⟨?_, ?_, ?_⟩ s.heap [] ls hP va_S.rf hl
  · intro lv pc h1 h2 hd H locs ls hP hS hl
    rw [h1] at hr
    exact W.vret hx hb hr (fun t ht hW => ⟨⟨by rw [h2]; rfl, by rw [ht]; exact hP, va_K.moved hW.alike hK⟩, hS.F ht⟩) hS.2.2 hd
  · intro lv pc ty x h1 hnr h2 hd H locs ls hP hS hl
    rw [h1] at hr
    exact W.zret (v := x) hx hb hr hnr (fun t ht hW => ⟨⟨by rw [h2]; rfl, by rw [ht]; exact hP, va_K.moved hW.alike hK⟩, hS.F ht⟩) hS.2.2 hd
  · intro lv pc x h1 h2 hd H locs ls hP hS hl
    rw [h1] at hr
    exact W.lret (v := x) hx hb hr (fun t ht hW => ⟨⟨by rw [h2]; rfl, by rw [ht]; exact hP, va_K.moved hW.alike hK⟩, hS.F ht⟩) hS.2.2 hd
theorem sPre.blind {dC : Nat → ClassId} {dI : Nat → Nat → Nat} {cA : Nat → ClassId} {ad : Nat → Nat} {sz L : Nat} {xs : Nat → Int32} {S : HS} {as : List Value} : FrameBlind (va_Pc as (sPre dC dI cA ad xs L sz S)) := by
  intro a U g mk h
  obtain ⟨h1, h2, h3, h4, h5⟩ := h
  obtain ⟨q1, q2⟩ := wPre.blind (as := as) a U g mk ⟨h1, h2⟩
  exact ⟨q1, q2, va_X.moved (u := U) (U := U.calling g mk a) (Vm.Alike.refl U.vm) h3, h4, h5⟩
theorem s_csD {l : Launch} {cc : ByteArray} {own : String} {nL : Nat} {R : Room} {G : GT} {k n pc : Nat} {S : HS} {lv : List (Nat × AV)} {st : List AV} {xs : Nat → Int32} {L : Nat} (hG : OKL l cc own nL R G xs L) {α : Type} {out : α} {F : Option Int32} {K : Int32 → Option α} {y : MethodName} {bytes : ByteArray} {nLy idx np : Nat} {ret : Option FieldType} {rm : Room} {as stk : List AV} (hd : decode cc pc = .ok (.invokestatic idx, 3)) (hm : MS own idx y np) (hcode : Cond.code y bytes nLy ret ∈ TB) (hnp : as.length = np) (hrm : rm.cells = 0 ∧ rm.slots = 0) (hR : rm.frames + 1 ≤ R.frames ∧ 8 + (nLy + 11) + rm.locals ≤ R.locals) (hst : cats st ≤ 8) (hkn : k ≤ R.cells ∧ n ≤ R.slots) (hstk : stk = as.reverse ++ st) (hC : ∀ o, F = some o → CtD l y bytes nLy ret rm xs L as S (some (vI o)) S) (kk : ∀ o, K o = some out → G k n S lv (pc + 3) (vI o :: st)) : F.bind K = some out → G k n S lv pc stk := by
  intro hE
  obtain ⟨o, h1, h2⟩ := bind_some hE
  have hC := hC o h1
  have kk := kk o h2
  obtain ⟨p, e, s, m, args, below, meth, c, dC, dI, cA, ad, Q, hx, hb, hml, hown, hts, hnw, hK, hj, hzw, hX, hbl, hnA, rfl⟩ := hG
  intro H locs ls hP hS hl
  obtain ⟨⟨hy1, hy2, hy3⟩, hstat, hini, hlk⟩ := hm
  have hM := hC dC dI cA ad H.size hj
  have hcat : ((st.map (gV ad)).map fun v => v.category).sum ≤ 8 := by rw [cats_V]; exact hst
  have hX2 : va_X (ad 41) L xs s H := hX.kept (hS.2.1 _ hbl hnA)
  have hpre : PreS s H (va_Pc (as.map (gV ad)) (sPre dC dI cA ad xs L H.size S)) (as.map (gV ad)) := ⟨sPre.blind, fun U hU hW => ⟨rfl, ⟨by rw [hU], ⟨by rw [hU]; exact hP, va_K.moved hW.alike hK⟩, hnw.warm hW, hzw.to hW.alike hU (hS.nil)⟩, by rw [hU]; exact va_X.moved hW.alike hX2, Nat.lt_of_lt_of_le hbl hS.1, fun q => hnA (fA_le hS.1 _ q)⟩⟩
  have hstk2 : stk.map (gV ad) = (as.map (gV ad)).reverse ++ st.map (gV ad) := by rw [hstk, List.map_append, List.map_reverse]
  have hlen : (as.map (gV ad)).length = np := by rw [List.length_map]; exact hnp
  refine callw (dC := dC) (dI := dI) (cA := cA) (r := some (vI o)) (S' := S) (rest := st.map (gV ad)) (a := (as.map (gV ad)).toArray) ?_ hS (fun H1 locs1 hP1 hS1 => ?_)
  · rcases hlk with hlk | ⟨host, hlk⟩
    · exact va_runS (Ts := TB) (nL := nL) ⟨hx, hb, hml, hown, hts⟩ hM ⟨callB_of np hts (TB_ws hcode) rfl hrm.1 hrm.2 (hts _ hini) (hts _ hlk) ⟨hy1, hy2, hy3⟩ hR, hts _ hstat⟩ hpre rfl hlen hl.1 hstk2 (lv_room hcat) hd ⟨hkn.1, hkn.2⟩
    · exact va_runSN (Ts := TB) (nL := nL) (host := host) ⟨hx, hb, hml, hown, hts⟩ hM ⟨va_cnB np hts (TB_ws hcode) rfl hrm.1 hrm.2 (hnw.1 _ hlk) (hts _ hini) ⟨hy1, hy2, hy3⟩ hR, hts _ hstat, trivial⟩ hpre rfl hlen hl.1 hstk2 (lv_room hcat) hd ⟨hkn.1, hkn.2⟩
  · exact kk H1 locs1 ls hP1 hS1 hl
end
