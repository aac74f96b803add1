-- ===== PART A: goes FIRST, ahead of the names: the tables' words, and 'selects' of the private methods out of them =====
/-- a private method of a class that the tables say can be made, by its rows of tables_1 -/
def lw_okq (q : MethodName × Nat) : Prop := (q.1.cls ≠ "java/lang/invoke/MethodHandle" ∧ q.1.cls ≠ "java/lang/invoke/VarHandle") ∧ Cond.instantiable q.1.cls q.2 ∈ tables_1 ∧ Cond.privateMethod q.1 ∈ tables_1 ∧ Cond.instanceMethod q.1 ∈ tables_1
theorem lw_p0 : lw_okq (⟨"PathStream", "readTask", "(Z)I"⟩, 17) := ⟨⟨by decide +kernel, by decide +kernel⟩, List.mem_of_getElem? (i := 12) (by decide +kernel), List.mem_of_getElem? (i := 241) (by decide +kernel), List.mem_of_getElem? (i := 242) (by decide +kernel)⟩
theorem lw_p1 : lw_okq (⟨"PathStream$TaskReader", "goesOn", "(ZI)Z"⟩, 3) := ⟨⟨by decide +kernel, by decide +kernel⟩, List.mem_of_getElem? (i := 160) (by decide +kernel), List.mem_of_getElem? (i := 261) (by decide +kernel), List.mem_of_getElem? (i := 262) (by decide +kernel)⟩
theorem lw_p2 : lw_okq (⟨"PathStream$TaskReader", "beginsPath", "(LPathStream$State;)Z"⟩, 3) := ⟨⟨by decide +kernel, by decide +kernel⟩, List.mem_of_getElem? (i := 160) (by decide +kernel), List.mem_of_getElem? (i := 265) (by decide +kernel), List.mem_of_getElem? (i := 266) (by decide +kernel)⟩
theorem lw_p3 : lw_okq (⟨"PathStream$TaskReader", "takesEvent", "(CLPathStream$Elements;)Z"⟩, 3) := ⟨⟨by decide +kernel, by decide +kernel⟩, List.mem_of_getElem? (i := 160) (by decide +kernel), List.mem_of_getElem? (i := 269) (by decide +kernel), List.mem_of_getElem? (i := 270) (by decide +kernel)⟩
theorem lw_p4 : lw_okq (⟨"PathStream$TaskReader", "takesAxis", "(C)Z"⟩, 3) := ⟨⟨by decide +kernel, by decide +kernel⟩, List.mem_of_getElem? (i := 160) (by decide +kernel), List.mem_of_getElem? (i := 292) (by decide +kernel), List.mem_of_getElem? (i := 293) (by decide +kernel)⟩
theorem lw_p5 : lw_okq (⟨"PathStream$TaskReader", "takesTest", "(C)Z"⟩, 3) := ⟨⟨by decide +kernel, by decide +kernel⟩, List.mem_of_getElem? (i := 160) (by decide +kernel), List.mem_of_getElem? (i := 296) (by decide +kernel), List.mem_of_getElem? (i := 297) (by decide +kernel)⟩
theorem lw_p6 : lw_okq (⟨"PathStream$TaskReader", "addsToStep", "(ZII)Z"⟩, 3) := ⟨⟨by decide +kernel, by decide +kernel⟩, List.mem_of_getElem? (i := 160) (by decide +kernel), List.mem_of_getElem? (i := 303) (by decide +kernel), List.mem_of_getElem? (i := 304) (by decide +kernel)⟩
theorem lw_p7 : lw_okq (⟨"PathStream$TaskReader", "takesNextStep", "(CLPathStream$State;)Z"⟩, 3) := ⟨⟨by decide +kernel, by decide +kernel⟩, List.mem_of_getElem? (i := 160) (by decide +kernel), List.mem_of_getElem? (i := 307) (by decide +kernel), List.mem_of_getElem? (i := 308) (by decide +kernel)⟩
theorem lw_p8 : lw_okq (⟨"PathStream$TaskReader", "takesChildName", "(C)Z"⟩, 3) := ⟨⟨by decide +kernel, by decide +kernel⟩, List.mem_of_getElem? (i := 160) (by decide +kernel), List.mem_of_getElem? (i := 328) (by decide +kernel), List.mem_of_getElem? (i := 329) (by decide +kernel)⟩
theorem lw_p9 : lw_okq (⟨"PathStream$TaskReader", "takesFigure", "(C)Z"⟩, 3) := ⟨⟨by decide +kernel, by decide +kernel⟩, List.mem_of_getElem? (i := 160) (by decide +kernel), List.mem_of_getElem? (i := 332) (by decide +kernel), List.mem_of_getElem? (i := 333) (by decide +kernel)⟩
theorem lw_p10 : lw_okq (⟨"PathStream$Matcher", "lookAround", "(II)V"⟩, 6) := ⟨⟨by decide +kernel, by decide +kernel⟩, List.mem_of_getElem? (i := 129) (by decide +kernel), List.mem_of_getElem? (i := 353) (by decide +kernel), List.mem_of_getElem? (i := 354) (by decide +kernel)⟩
theorem lw_p11 : lw_okq (⟨"PathStream$Matcher", "matchElement", "(LPathStream$Elements;ILPathStream$Path;)V"⟩, 6) := ⟨⟨by decide +kernel, by decide +kernel⟩, List.mem_of_getElem? (i := 129) (by decide +kernel), List.mem_of_getElem? (i := 357) (by decide +kernel), List.mem_of_getElem? (i := 358) (by decide +kernel)⟩
theorem lw_p12 : lw_okq (⟨"PathStream$Matcher", "note", "(II)V"⟩, 6) := ⟨⟨by decide +kernel, by decide +kernel⟩, List.mem_of_getElem? (i := 129) (by decide +kernel), List.mem_of_getElem? (i := 368) (by decide +kernel), List.mem_of_getElem? (i := 369) (by decide +kernel)⟩
theorem lw_p13 : lw_okq (⟨"PathStream", "forgetActions", "()V"⟩, 17) := ⟨⟨by decide +kernel, by decide +kernel⟩, List.mem_of_getElem? (i := 12) (by decide +kernel), List.mem_of_getElem? (i := 407) (by decide +kernel), List.mem_of_getElem? (i := 408) (by decide +kernel)⟩
theorem lw_p14 : lw_okq (⟨"PathStream$State", "earlierBeginsLike", "(II)Z"⟩, 3) := ⟨⟨by decide +kernel, by decide +kernel⟩, List.mem_of_getElem? (i := 20) (by decide +kernel), List.mem_of_getElem? (i := 420) (by decide +kernel), List.mem_of_getElem? (i := 421) (by decide +kernel)⟩
theorem lw_p15 : lw_okq (⟨"PathStream", "isElement", "(I)Z"⟩, 17) := ⟨⟨by decide +kernel, by decide +kernel⟩, List.mem_of_getElem? (i := 12) (by decide +kernel), List.mem_of_getElem? (i := 432) (by decide +kernel), List.mem_of_getElem? (i := 433) (by decide +kernel)⟩
def lw_privs_1 : List (MethodName × Nat) := [(⟨"PathStream", "readTask", "(Z)I"⟩, 17), (⟨"PathStream$TaskReader", "goesOn", "(ZI)Z"⟩, 3), (⟨"PathStream$TaskReader", "beginsPath", "(LPathStream$State;)Z"⟩, 3), (⟨"PathStream$TaskReader", "takesEvent", "(CLPathStream$Elements;)Z"⟩, 3), (⟨"PathStream$TaskReader", "takesAxis", "(C)Z"⟩, 3), (⟨"PathStream$TaskReader", "takesTest", "(C)Z"⟩, 3), (⟨"PathStream$TaskReader", "addsToStep", "(ZII)Z"⟩, 3), (⟨"PathStream$TaskReader", "takesNextStep", "(CLPathStream$State;)Z"⟩, 3), (⟨"PathStream$TaskReader", "takesChildName", "(C)Z"⟩, 3), (⟨"PathStream$TaskReader", "takesFigure", "(C)Z"⟩, 3), (⟨"PathStream$Matcher", "lookAround", "(II)V"⟩, 6), (⟨"PathStream$Matcher", "matchElement", "(LPathStream$Elements;ILPathStream$Path;)V"⟩, 6), (⟨"PathStream$Matcher", "note", "(II)V"⟩, 6), (⟨"PathStream", "forgetActions", "()V"⟩, 17), (⟨"PathStream$State", "earlierBeginsLike", "(II)Z"⟩, 3), (⟨"PathStream", "isElement", "(I)Z"⟩, 17)]
theorem lw_r1 : ∀ q ∈ lw_privs_1, lw_okq q := List.forall_mem_cons.mpr ⟨lw_p0, List.forall_mem_cons.mpr ⟨lw_p1, List.forall_mem_cons.mpr ⟨lw_p2, List.forall_mem_cons.mpr ⟨lw_p3, List.forall_mem_cons.mpr ⟨lw_p4, List.forall_mem_cons.mpr ⟨lw_p5, List.forall_mem_cons.mpr ⟨lw_p6, List.forall_mem_cons.mpr ⟨lw_p7, List.forall_mem_cons.mpr ⟨lw_p8, List.forall_mem_cons.mpr ⟨lw_p9, List.forall_mem_cons.mpr ⟨lw_p10, List.forall_mem_cons.mpr ⟨lw_p11, List.forall_mem_cons.mpr ⟨lw_p12, List.forall_mem_cons.mpr ⟨lw_p13, List.forall_mem_cons.mpr ⟨lw_p14, List.forall_mem_cons.mpr ⟨lw_p15, fun _ h => absurd h List.not_mem_nil⟩⟩⟩⟩⟩⟩⟩⟩⟩⟩⟩⟩⟩⟩⟩⟩
theorem lw_p16 : lw_okq (⟨"PathStream", "isPath", "(I)Z"⟩, 17) := ⟨⟨by decide +kernel, by decide +kernel⟩, List.mem_of_getElem? (i := 12) (by decide +kernel), List.mem_of_getElem? (i := 440) (by decide +kernel), List.mem_of_getElem? (i := 441) (by decide +kernel)⟩
theorem lw_p17 : lw_okq (⟨"PathStream", "pathNumber", "(LPathStream$State;II)I"⟩, 17) := ⟨⟨by decide +kernel, by decide +kernel⟩, List.mem_of_getElem? (i := 12) (by decide +kernel), List.mem_of_getElem? (i := 444) (by decide +kernel), List.mem_of_getElem? (i := 445) (by decide +kernel)⟩
theorem lw_p18 : lw_okq (⟨"PathStream", "recordAction", "()V"⟩, 17) := ⟨⟨by decide +kernel, by decide +kernel⟩, List.mem_of_getElem? (i := 12) (by decide +kernel), List.mem_of_getElem? (i := 472) (by decide +kernel), List.mem_of_getElem? (i := 473) (by decide +kernel)⟩
theorem lw_p19 : lw_okq (⟨"PathStream", "splits", "(JII)Z"⟩, 17) := ⟨⟨by decide +kernel, by decide +kernel⟩, List.mem_of_getElem? (i := 12) (by decide +kernel), List.mem_of_getElem? (i := 491) (by decide +kernel), List.mem_of_getElem? (i := 492) (by decide +kernel)⟩
theorem lw_p20 : lw_okq (⟨"PathStream", "partsAreSteps", "(I)Z"⟩, 17) := ⟨⟨by decide +kernel, by decide +kernel⟩, List.mem_of_getElem? (i := 12) (by decide +kernel), List.mem_of_getElem? (i := 495) (by decide +kernel), List.mem_of_getElem? (i := 496) (by decide +kernel)⟩
theorem lw_p21 : lw_okq (⟨"PathStream", "answersOf", "(LPathStream$State;I)I"⟩, 17) := ⟨⟨by decide +kernel, by decide +kernel⟩, List.mem_of_getElem? (i := 12) (by decide +kernel), List.mem_of_getElem? (i := 513) (by decide +kernel), List.mem_of_getElem? (i := 514) (by decide +kernel)⟩
theorem lw_p22 : lw_okq (⟨"PathStream", "comesTrue", "(III)Z"⟩, 17) := ⟨⟨by decide +kernel, by decide +kernel⟩, List.mem_of_getElem? (i := 12) (by decide +kernel), List.mem_of_getElem? (i := 521) (by decide +kernel), List.mem_of_getElem? (i := 522) (by decide +kernel)⟩
theorem lw_p23 : lw_okq (⟨"PathStream", "emitsAfter", "(Z)Z"⟩, 17) := ⟨⟨by decide +kernel, by decide +kernel⟩, List.mem_of_getElem? (i := 12) (by decide +kernel), List.mem_of_getElem? (i := 525) (by decide +kernel), List.mem_of_getElem? (i := 526) (by decide +kernel)⟩
theorem lw_p24 : lw_okq (⟨"PathStream", "agreesWithAll", "(I)Z"⟩, 17) := ⟨⟨by decide +kernel, by decide +kernel⟩, List.mem_of_getElem? (i := 12) (by decide +kernel), List.mem_of_getElem? (i := 541) (by decide +kernel), List.mem_of_getElem? (i := 542) (by decide +kernel)⟩
theorem lw_p25 : lw_okq (⟨"PathStream", "answersWithLastTest", "(II)I"⟩, 17) := ⟨⟨by decide +kernel, by decide +kernel⟩, List.mem_of_getElem? (i := 12) (by decide +kernel), List.mem_of_getElem? (i := 545) (by decide +kernel), List.mem_of_getElem? (i := 546) (by decide +kernel)⟩
theorem lw_p26 : lw_okq (⟨"PathStream", "findAnswerSets", "()V"⟩, 17) := ⟨⟨by decide +kernel, by decide +kernel⟩, List.mem_of_getElem? (i := 12) (by decide +kernel), List.mem_of_getElem? (i := 558) (by decide +kernel), List.mem_of_getElem? (i := 559) (by decide +kernel)⟩
theorem lw_p27 : lw_okq (⟨"PathStream", "pathsAnswering", "(I)I"⟩, 17) := ⟨⟨by decide +kernel, by decide +kernel⟩, List.mem_of_getElem? (i := 12) (by decide +kernel), List.mem_of_getElem? (i := 562) (by decide +kernel), List.mem_of_getElem? (i := 563) (by decide +kernel)⟩
theorem lw_p28 : lw_okq (⟨"PathStream", "weightOf", "(II)I"⟩, 17) := ⟨⟨by decide +kernel, by decide +kernel⟩, List.mem_of_getElem? (i := 12) (by decide +kernel), List.mem_of_getElem? (i := 576) (by decide +kernel), List.mem_of_getElem? (i := 577) (by decide +kernel)⟩
theorem lw_p29 : lw_okq (⟨"PathStream", "answersOfAny", "(I)I"⟩, 17) := ⟨⟨by decide +kernel, by decide +kernel⟩, List.mem_of_getElem? (i := 12) (by decide +kernel), List.mem_of_getElem? (i := 580) (by decide +kernel), List.mem_of_getElem? (i := 581) (by decide +kernel)⟩
theorem lw_p30 : lw_okq (⟨"PathStream", "drawEvent", "(LPathStream$Elements;)V"⟩, 17) := ⟨⟨by decide +kernel, by decide +kernel⟩, List.mem_of_getElem? (i := 12) (by decide +kernel), List.mem_of_getElem? (i := 592) (by decide +kernel), List.mem_of_getElem? (i := 593) (by decide +kernel)⟩
theorem lw_p31 : lw_okq (⟨"PathStreamModel", "readText", "()I"⟩, 26) := ⟨⟨by decide +kernel, by decide +kernel⟩, List.mem_of_getElem? (i := 606) (by decide +kernel), List.mem_of_getElem? (i := 710) (by decide +kernel), List.mem_of_getElem? (i := 711) (by decide +kernel)⟩
def lw_privs_2 : List (MethodName × Nat) := [(⟨"PathStream", "isPath", "(I)Z"⟩, 17), (⟨"PathStream", "pathNumber", "(LPathStream$State;II)I"⟩, 17), (⟨"PathStream", "recordAction", "()V"⟩, 17), (⟨"PathStream", "splits", "(JII)Z"⟩, 17), (⟨"PathStream", "partsAreSteps", "(I)Z"⟩, 17), (⟨"PathStream", "answersOf", "(LPathStream$State;I)I"⟩, 17), (⟨"PathStream", "comesTrue", "(III)Z"⟩, 17), (⟨"PathStream", "emitsAfter", "(Z)Z"⟩, 17), (⟨"PathStream", "agreesWithAll", "(I)Z"⟩, 17), (⟨"PathStream", "answersWithLastTest", "(II)I"⟩, 17), (⟨"PathStream", "findAnswerSets", "()V"⟩, 17), (⟨"PathStream", "pathsAnswering", "(I)I"⟩, 17), (⟨"PathStream", "weightOf", "(II)I"⟩, 17), (⟨"PathStream", "answersOfAny", "(I)I"⟩, 17), (⟨"PathStream", "drawEvent", "(LPathStream$Elements;)V"⟩, 17), (⟨"PathStreamModel", "readText", "()I"⟩, 26)]
theorem lw_r2 : ∀ q ∈ lw_privs_2, lw_okq q := List.forall_mem_cons.mpr ⟨lw_p16, List.forall_mem_cons.mpr ⟨lw_p17, List.forall_mem_cons.mpr ⟨lw_p18, List.forall_mem_cons.mpr ⟨lw_p19, List.forall_mem_cons.mpr ⟨lw_p20, List.forall_mem_cons.mpr ⟨lw_p21, List.forall_mem_cons.mpr ⟨lw_p22, List.forall_mem_cons.mpr ⟨lw_p23, List.forall_mem_cons.mpr ⟨lw_p24, List.forall_mem_cons.mpr ⟨lw_p25, List.forall_mem_cons.mpr ⟨lw_p26, List.forall_mem_cons.mpr ⟨lw_p27, List.forall_mem_cons.mpr ⟨lw_p28, List.forall_mem_cons.mpr ⟨lw_p29, List.forall_mem_cons.mpr ⟨lw_p30, List.forall_mem_cons.mpr ⟨lw_p31, fun _ h => absurd h List.not_mem_nil⟩⟩⟩⟩⟩⟩⟩⟩⟩⟩⟩⟩⟩⟩⟩⟩
theorem lw_p32 : lw_okq (⟨"PathStreamModel", "take", "(I)Z"⟩, 26) := ⟨⟨by decide +kernel, by decide +kernel⟩, List.mem_of_getElem? (i := 606) (by decide +kernel), List.mem_of_getElem? (i := 714) (by decide +kernel), List.mem_of_getElem? (i := 715) (by decide +kernel)⟩
theorem lw_p33 : lw_okq (⟨"PathStreamModel", "takeTop", "(I)Z"⟩, 26) := ⟨⟨by decide +kernel, by decide +kernel⟩, List.mem_of_getElem? (i := 606) (by decide +kernel), List.mem_of_getElem? (i := 718) (by decide +kernel), List.mem_of_getElem? (i := 719) (by decide +kernel)⟩
theorem lw_p34 : lw_okq (⟨"PathStreamModel", "takeEvent", "(I)Z"⟩, 26) := ⟨⟨by decide +kernel, by decide +kernel⟩, List.mem_of_getElem? (i := 606) (by decide +kernel), List.mem_of_getElem? (i := 722) (by decide +kernel), List.mem_of_getElem? (i := 723) (by decide +kernel)⟩
theorem lw_p35 : lw_okq (⟨"PathStreamModel", "takeAxis", "(I)Z"⟩, 26) := ⟨⟨by decide +kernel, by decide +kernel⟩, List.mem_of_getElem? (i := 606) (by decide +kernel), List.mem_of_getElem? (i := 728) (by decide +kernel), List.mem_of_getElem? (i := 729) (by decide +kernel)⟩
theorem lw_p36 : lw_okq (⟨"PathStreamModel", "addToStep", "(I)V"⟩, 26) := ⟨⟨by decide +kernel, by decide +kernel⟩, List.mem_of_getElem? (i := 606) (by decide +kernel), List.mem_of_getElem? (i := 732) (by decide +kernel), List.mem_of_getElem? (i := 733) (by decide +kernel)⟩
theorem lw_p37 : lw_okq (⟨"PathStreamModel", "takeBehind", "(I)Z"⟩, 26) := ⟨⟨by decide +kernel, by decide +kernel⟩, List.mem_of_getElem? (i := 606) (by decide +kernel), List.mem_of_getElem? (i := 737) (by decide +kernel), List.mem_of_getElem? (i := 738) (by decide +kernel)⟩
theorem lw_p38 : lw_okq (⟨"PathStreamModel", "askOn", "([IIIIII)V"⟩, 26) := ⟨⟨by decide +kernel, by decide +kernel⟩, List.mem_of_getElem? (i := 606) (by decide +kernel), List.mem_of_getElem? (i := 745) (by decide +kernel), List.mem_of_getElem? (i := 746) (by decide +kernel)⟩
theorem lw_p39 : lw_okq (⟨"PathStreamModel", "noteOut", "([II)I"⟩, 26) := ⟨⟨by decide +kernel, by decide +kernel⟩, List.mem_of_getElem? (i := 606) (by decide +kernel), List.mem_of_getElem? (i := 749) (by decide +kernel), List.mem_of_getElem? (i := 750) (by decide +kernel)⟩
theorem lw_p40 : lw_okq (⟨"PathStreamModel", "outOf", "([II)I"⟩, 26) := ⟨⟨by decide +kernel, by decide +kernel⟩, List.mem_of_getElem? (i := 606) (by decide +kernel), List.mem_of_getElem? (i := 753) (by decide +kernel), List.mem_of_getElem? (i := 754) (by decide +kernel)⟩
theorem lw_p41 : lw_okq (⟨"PathStreamModel", "answersOf", "([II)I"⟩, 26) := ⟨⟨by decide +kernel, by decide +kernel⟩, List.mem_of_getElem? (i := 606) (by decide +kernel), List.mem_of_getElem? (i := 757) (by decide +kernel), List.mem_of_getElem? (i := 758) (by decide +kernel)⟩
theorem lw_p42 : lw_okq (⟨"PathStreamModel", "endsAll", "([IIIZ)Z"⟩, 26) := ⟨⟨by decide +kernel, by decide +kernel⟩, List.mem_of_getElem? (i := 606) (by decide +kernel), List.mem_of_getElem? (i := 761) (by decide +kernel), List.mem_of_getElem? (i := 762) (by decide +kernel)⟩
theorem lw_p43 : lw_okq (⟨"PathStreamModel", "endsOf", "([IIIZ)I"⟩, 26) := ⟨⟨by decide +kernel, by decide +kernel⟩, List.mem_of_getElem? (i := 606) (by decide +kernel), List.mem_of_getElem? (i := 765) (by decide +kernel), List.mem_of_getElem? (i := 766) (by decide +kernel)⟩
theorem lw_p44 : lw_okq (⟨"PathStreamModel", "layWay", "([II)I"⟩, 26) := ⟨⟨by decide +kernel, by decide +kernel⟩, List.mem_of_getElem? (i := 606) (by decide +kernel), List.mem_of_getElem? (i := 769) (by decide +kernel), List.mem_of_getElem? (i := 770) (by decide +kernel)⟩
theorem lw_p45 : lw_okq (⟨"PathStreamModel", "endsAt", "([IIIIIZ)I"⟩, 26) := ⟨⟨by decide +kernel, by decide +kernel⟩, List.mem_of_getElem? (i := 606) (by decide +kernel), List.mem_of_getElem? (i := 773) (by decide +kernel), List.mem_of_getElem? (i := 774) (by decide +kernel)⟩
theorem lw_p46 : lw_okq (⟨"PathStreamModel", "isMet", "([IIIZ)Z"⟩, 26) := ⟨⟨by decide +kernel, by decide +kernel⟩, List.mem_of_getElem? (i := 606) (by decide +kernel), List.mem_of_getElem? (i := 777) (by decide +kernel), List.mem_of_getElem? (i := 778) (by decide +kernel)⟩
theorem lw_p47 : lw_okq (⟨"PathStreamModel", "doubtsOf", "([II)I"⟩, 26) := ⟨⟨by decide +kernel, by decide +kernel⟩, List.mem_of_getElem? (i := 606) (by decide +kernel), List.mem_of_getElem? (i := 787) (by decide +kernel), List.mem_of_getElem? (i := 788) (by decide +kernel)⟩
def lw_privs_3 : List (MethodName × Nat) := [(⟨"PathStreamModel", "take", "(I)Z"⟩, 26), (⟨"PathStreamModel", "takeTop", "(I)Z"⟩, 26), (⟨"PathStreamModel", "takeEvent", "(I)Z"⟩, 26), (⟨"PathStreamModel", "takeAxis", "(I)Z"⟩, 26), (⟨"PathStreamModel", "addToStep", "(I)V"⟩, 26), (⟨"PathStreamModel", "takeBehind", "(I)Z"⟩, 26), (⟨"PathStreamModel", "askOn", "([IIIIII)V"⟩, 26), (⟨"PathStreamModel", "noteOut", "([II)I"⟩, 26), (⟨"PathStreamModel", "outOf", "([II)I"⟩, 26), (⟨"PathStreamModel", "answersOf", "([II)I"⟩, 26), (⟨"PathStreamModel", "endsAll", "([IIIZ)Z"⟩, 26), (⟨"PathStreamModel", "endsOf", "([IIIZ)I"⟩, 26), (⟨"PathStreamModel", "layWay", "([II)I"⟩, 26), (⟨"PathStreamModel", "endsAt", "([IIIIIZ)I"⟩, 26), (⟨"PathStreamModel", "isMet", "([IIIZ)Z"⟩, 26), (⟨"PathStreamModel", "doubtsOf", "([II)I"⟩, 26)]
theorem lw_r3 : ∀ q ∈ lw_privs_3, lw_okq q := List.forall_mem_cons.mpr ⟨lw_p32, List.forall_mem_cons.mpr ⟨lw_p33, List.forall_mem_cons.mpr ⟨lw_p34, List.forall_mem_cons.mpr ⟨lw_p35, List.forall_mem_cons.mpr ⟨lw_p36, List.forall_mem_cons.mpr ⟨lw_p37, List.forall_mem_cons.mpr ⟨lw_p38, List.forall_mem_cons.mpr ⟨lw_p39, List.forall_mem_cons.mpr ⟨lw_p40, List.forall_mem_cons.mpr ⟨lw_p41, List.forall_mem_cons.mpr ⟨lw_p42, List.forall_mem_cons.mpr ⟨lw_p43, List.forall_mem_cons.mpr ⟨lw_p44, List.forall_mem_cons.mpr ⟨lw_p45, List.forall_mem_cons.mpr ⟨lw_p46, List.forall_mem_cons.mpr ⟨lw_p47, fun _ h => absurd h List.not_mem_nil⟩⟩⟩⟩⟩⟩⟩⟩⟩⟩⟩⟩⟩⟩⟩⟩
theorem lw_p48 : lw_okq (⟨"PathStreamModel", "heldOf", "([II)I"⟩, 26) := ⟨⟨by decide +kernel, by decide +kernel⟩, List.mem_of_getElem? (i := 606) (by decide +kernel), List.mem_of_getElem? (i := 791) (by decide +kernel), List.mem_of_getElem? (i := 792) (by decide +kernel)⟩
theorem lw_p49 : lw_okq (⟨"PathStreamModel", "eventOn", "([II)Z"⟩, 26) := ⟨⟨by decide +kernel, by decide +kernel⟩, List.mem_of_getElem? (i := 606) (by decide +kernel), List.mem_of_getElem? (i := 798) (by decide +kernel), List.mem_of_getElem? (i := 799) (by decide +kernel)⟩
theorem lw_p50 : lw_okq (⟨"PathStreamModel", "openOn", "([II)V"⟩, 26) := ⟨⟨by decide +kernel, by decide +kernel⟩, List.mem_of_getElem? (i := 606) (by decide +kernel), List.mem_of_getElem? (i := 808) (by decide +kernel), List.mem_of_getElem? (i := 809) (by decide +kernel)⟩
theorem lw_p51 : lw_okq (⟨"PathStreamModel", "noteAll", "([I)I"⟩, 26) := ⟨⟨by decide +kernel, by decide +kernel⟩, List.mem_of_getElem? (i := 606) (by decide +kernel), List.mem_of_getElem? (i := 812) (by decide +kernel), List.mem_of_getElem? (i := 813) (by decide +kernel)⟩
theorem lw_p52 : lw_okq (⟨"PathStreamModel", "closeOn", "([I)I"⟩, 26) := ⟨⟨by decide +kernel, by decide +kernel⟩, List.mem_of_getElem? (i := 606) (by decide +kernel), List.mem_of_getElem? (i := 816) (by decide +kernel), List.mem_of_getElem? (i := 817) (by decide +kernel)⟩
theorem lw_p53 : lw_okq (⟨"PathStreamModel", "tellOn", "([II)I"⟩, 26) := ⟨⟨by decide +kernel, by decide +kernel⟩, List.mem_of_getElem? (i := 606) (by decide +kernel), List.mem_of_getElem? (i := 820) (by decide +kernel), List.mem_of_getElem? (i := 821) (by decide +kernel)⟩
theorem lw_p54 : lw_okq (⟨"PathStreamModel", "shared", "()I"⟩, 26) := ⟨⟨by decide +kernel, by decide +kernel⟩, List.mem_of_getElem? (i := 606) (by decide +kernel), List.mem_of_getElem? (i := 828) (by decide +kernel), List.mem_of_getElem? (i := 829) (by decide +kernel)⟩
theorem lw_p55 : lw_okq (⟨"PathStreamModel", "isBeginning", "(III)Z"⟩, 26) := ⟨⟨by decide +kernel, by decide +kernel⟩, List.mem_of_getElem? (i := 606) (by decide +kernel), List.mem_of_getElem? (i := 832) (by decide +kernel), List.mem_of_getElem? (i := 833) (by decide +kernel)⟩
theorem lw_p56 : lw_okq (⟨"PathStreamModel", "isElement", "(I)Z"⟩, 26) := ⟨⟨by decide +kernel, by decide +kernel⟩, List.mem_of_getElem? (i := 606) (by decide +kernel), List.mem_of_getElem? (i := 840) (by decide +kernel), List.mem_of_getElem? (i := 841) (by decide +kernel)⟩
theorem lw_p57 : lw_okq (⟨"PathStreamModel", "isPath", "(I)Z"⟩, 26) := ⟨⟨by decide +kernel, by decide +kernel⟩, List.mem_of_getElem? (i := 606) (by decide +kernel), List.mem_of_getElem? (i := 848) (by decide +kernel), List.mem_of_getElem? (i := 849) (by decide +kernel)⟩
theorem lw_p58 : lw_okq (⟨"PathStreamModel", "note", "()V"⟩, 26) := ⟨⟨by decide +kernel, by decide +kernel⟩, List.mem_of_getElem? (i := 606) (by decide +kernel), List.mem_of_getElem? (i := 875) (by decide +kernel), List.mem_of_getElem? (i := 876) (by decide +kernel)⟩
theorem lw_p59 : lw_okq (⟨"PathStreamModel", "judged", "(III)Z"⟩, 26) := ⟨⟨by decide +kernel, by decide +kernel⟩, List.mem_of_getElem? (i := 606) (by decide +kernel), List.mem_of_getElem? (i := 922) (by decide +kernel), List.mem_of_getElem? (i := 923) (by decide +kernel)⟩
theorem lw_p60 : lw_okq (⟨"PathStreamModel", "layWorth", "()V"⟩, 26) := ⟨⟨by decide +kernel, by decide +kernel⟩, List.mem_of_getElem? (i := 606) (by decide +kernel), List.mem_of_getElem? (i := 943) (by decide +kernel), List.mem_of_getElem? (i := 944) (by decide +kernel)⟩
def lw_privs_4 : List (MethodName × Nat) := [(⟨"PathStreamModel", "heldOf", "([II)I"⟩, 26), (⟨"PathStreamModel", "eventOn", "([II)Z"⟩, 26), (⟨"PathStreamModel", "openOn", "([II)V"⟩, 26), (⟨"PathStreamModel", "noteAll", "([I)I"⟩, 26), (⟨"PathStreamModel", "closeOn", "([I)I"⟩, 26), (⟨"PathStreamModel", "tellOn", "([II)I"⟩, 26), (⟨"PathStreamModel", "shared", "()I"⟩, 26), (⟨"PathStreamModel", "isBeginning", "(III)Z"⟩, 26), (⟨"PathStreamModel", "isElement", "(I)Z"⟩, 26), (⟨"PathStreamModel", "isPath", "(I)Z"⟩, 26), (⟨"PathStreamModel", "note", "()V"⟩, 26), (⟨"PathStreamModel", "judged", "(III)Z"⟩, 26), (⟨"PathStreamModel", "layWorth", "()V"⟩, 26)]
theorem lw_r4 : ∀ q ∈ lw_privs_4, lw_okq q := List.forall_mem_cons.mpr ⟨lw_p48, List.forall_mem_cons.mpr ⟨lw_p49, List.forall_mem_cons.mpr ⟨lw_p50, List.forall_mem_cons.mpr ⟨lw_p51, List.forall_mem_cons.mpr ⟨lw_p52, List.forall_mem_cons.mpr ⟨lw_p53, List.forall_mem_cons.mpr ⟨lw_p54, List.forall_mem_cons.mpr ⟨lw_p55, List.forall_mem_cons.mpr ⟨lw_p56, List.forall_mem_cons.mpr ⟨lw_p57, List.forall_mem_cons.mpr ⟨lw_p58, List.forall_mem_cons.mpr ⟨lw_p59, List.forall_mem_cons.mpr ⟨lw_p60, fun _ h => absurd h List.not_mem_nil⟩⟩⟩⟩⟩⟩⟩⟩⟩⟩⟩⟩⟩
def lw_privs : List (MethodName × Nat) := lw_privs_1 ++ (lw_privs_2 ++ (lw_privs_3 ++ (lw_privs_4)))
def lw_tbl : List Cond := k2_sels lw_privs ++ tables_1
theorem lw_privs_ok : ∀ q ∈ lw_privs, lw_okq q := by
  show ∀ q ∈ lw_privs_1 ++ (lw_privs_2 ++ (lw_privs_3 ++ (lw_privs_4))), lw_okq q
  exact List.forall_mem_append.mpr ⟨lw_r1, List.forall_mem_append.mpr ⟨lw_r2, List.forall_mem_append.mpr ⟨lw_r3, lw_r4⟩⟩⟩
-- ===== end of PART A; then your names; then what follows =====
/-! ===== BEGIN printed: names, fields, word lists, decode rows ===== -/
def RX0 : String := "PathStream$Elements"
def TX0 : u_T := fun k => match k with
  | 0 => ("PathStream$Elements", "names", "[I", true)
  | 1 => ("PathStream$Elements", "parents", "[I", true)
  | 2 => ("PathStream$Elements", "depths", "[I", true)
  | 3 => ("PathStream$Elements", "digitSets", "[I", true)
  | 4 => ("PathStream$Elements", "childNames", "[I", true)
  | 5 => ("PathStream$Elements", "openSet", "I", false)
  | 6 => ("PathStream$Elements", "count", "I", false)
  | 7 => ("PathStream$Elements", "current", "I", false)
  | _ => ("PathStream$Elements", "clock", "I", false)
def tyX0 : Nat → FieldType := fun k => match k with
  | 0 => .array .int
  | 1 => .array .int
  | 2 => .array .int
  | 3 => .array .int
  | 4 => .array .int
  | 5 => .int
  | 6 => .int
  | 7 => .int
  | _ => .int
abbrev wsX00 : List Cond := u_ws RX0 TX0 9
theorem nmX0 : ∀ a, a < 9 → ∀ b, b < 9 → a ≠ b → (TX0 a).2.1 ≠ (TX0 b).2.1 := by decide +kernel
theorem tyX0_ok : ∀ k, k < 9 → parseFieldDescriptor (TX0 k).2.2.1 = some (tyX0 k) := by decide +kernel
abbrev cX0_init : ByteArray := prog_2_method_1_code
def yX0_init : MethodName := ⟨RX0, "<init>", "()V"⟩
abbrev cX0_clear : ByteArray := prog_2_method_2_code
def yX0_clear : MethodName := ⟨RX0, "clear", "()V"⟩
abbrev cX0_copyFrom : ByteArray := prog_2_method_3_code
def yX0_copyFrom : MethodName := ⟨RX0, "copyFrom", "(LPathStream$Elements;)V"⟩
abbrev cX0_currentDepth : ByteArray := prog_2_method_4_code
def yX0_currentDepth : MethodName := ⟨RX0, "currentDepth", "()I"⟩
abbrev cX0_openRefusal : ByteArray := prog_2_method_5_code
def yX0_openRefusal : MethodName := ⟨RX0, "openRefusal", "()I"⟩
abbrev cX0_enter : ByteArray := prog_2_method_6_code
def yX0_enter : MethodName := ⟨RX0, "enter", "(I)Z"⟩
abbrev cX0_leave : ByteArray := prog_2_method_7_code
def yX0_leave : MethodName := ⟨RX0, "leave", "()Z"⟩
abbrev cX0_hold : ByteArray := prog_2_method_8_code
def yX0_hold : MethodName := ⟨RX0, "hold", "(I)Z"⟩
abbrev cX0_fulfilled : ByteArray := prog_2_method_9_code
def yX0_fulfilled : MethodName := ⟨RX0, "fulfilled", "(I)I"⟩
def RX1 : String := "PathStream$Matcher"
def TX1 : u_T := fun k => match k with
  | 0 => ("PathStream$Matcher", "sure", "[I", true)
  | 1 => ("PathStream$Matcher", "possible", "[I", true)
  | 2 => ("PathStream$Matcher", "sureAround", "[I", true)
  | 3 => ("PathStream$Matcher", "possibleAround", "[I", true)
  | 4 => ("PathStream$Matcher", "answers", "I", false)
  | _ => ("PathStream$Matcher", "doubts", "I", false)
def tyX1 : Nat → FieldType := fun k => match k with
  | 0 => .array .int
  | 1 => .array .int
  | 2 => .array .int
  | 3 => .array .int
  | 4 => .int
  | _ => .int
abbrev wsX10 : List Cond := u_ws RX1 TX1 6
theorem nmX1 : ∀ a, a < 6 → ∀ b, b < 6 → a ≠ b → (TX1 a).2.1 ≠ (TX1 b).2.1 := by decide +kernel
theorem tyX1_ok : ∀ k, k < 6 → parseFieldDescriptor (TX1 k).2.2.1 = some (tyX1 k) := by decide +kernel
abbrev cX1_init : ByteArray := prog_3_method_1_code
def yX1_init : MethodName := ⟨RX1, "<init>", "()V"⟩
abbrev cX1_match : ByteArray := prog_3_method_2_code
def yX1_match : MethodName := ⟨RX1, "match", "(LPathStream$Elements;LPathStream$Path;)V"⟩
abbrev cX1_lookAround : ByteArray := prog_3_method_3_code
def yX1_lookAround : MethodName := ⟨RX1, "lookAround", "(II)V"⟩
abbrev cX1_matchElement : ByteArray := prog_3_method_4_code
def yX1_matchElement : MethodName := ⟨RX1, "matchElement", "(LPathStream$Elements;ILPathStream$Path;)V"⟩
abbrev cX1_hasPrefix : ByteArray := prog_3_method_5_code
def yX1_hasPrefix : MethodName := ⟨RX1, "hasPrefix", "(II)Z"⟩
abbrev cX1_note : ByteArray := prog_3_method_6_code
def yX1_note : MethodName := ⟨RX1, "note", "(II)V"⟩
def RX2 : String := "PathStream$Path"
def TX2 : u_T := fun k => match k with
  | 0 => ("PathStream$Path", "steps", "[I", true)
  | 1 => ("PathStream$Path", "outElements", "[I", true)
  | 2 => ("PathStream$Path", "outTimes", "[I", true)
  | 3 => ("PathStream$Path", "stepCount", "I", false)
  | 4 => ("PathStream$Path", "outCount", "I", false)
  | 5 => ("PathStream$Path", "outSet", "I", false)
  | _ => ("PathStream$Path", "peak", "I", false)
def tyX2 : Nat → FieldType := fun k => match k with
  | 0 => .array .int
  | 1 => .array .int
  | 2 => .array .int
  | 3 => .int
  | 4 => .int
  | 5 => .int
  | _ => .int
abbrev wsX20 : List Cond := u_ws RX2 TX2 7
theorem nmX2 : ∀ a, a < 7 → ∀ b, b < 7 → a ≠ b → (TX2 a).2.1 ≠ (TX2 b).2.1 := by decide +kernel
theorem tyX2_ok : ∀ k, k < 7 → parseFieldDescriptor (TX2 k).2.2.1 = some (tyX2 k) := by decide +kernel
abbrev cX2_init : ByteArray := prog_4_method_1_code
def yX2_init : MethodName := ⟨RX2, "<init>", "()V"⟩
abbrev cX2_begin : ByteArray := prog_4_method_2_code
def yX2_begin : MethodName := ⟨RX2, "begin", "([II)V"⟩
abbrev cX2_copyFrom : ByteArray := prog_4_method_3_code
def yX2_copyFrom : MethodName := ⟨RX2, "copyFrom", "(LPathStream$Path;)V"⟩
abbrev cX2_setLastTest : ByteArray := prog_4_method_4_code
def yX2_setLastTest : MethodName := ⟨RX2, "setLastTest", "(I)V"⟩
abbrev cX2_beginsLike : ByteArray := prog_4_method_5_code
def yX2_beginsLike : MethodName := ⟨RX2, "beginsLike", "(LPathStream$Path;I)Z"⟩
abbrev cX2_bufferSize : ByteArray := prog_4_method_6_code
def yX2_bufferSize : MethodName := ⟨RX2, "bufferSize", "(LPathStream$Matcher;)I"⟩
abbrev cX2_emit : ByteArray := prog_4_method_7_code
def yX2_emit : MethodName := ⟨RX2, "emit", "(LPathStream$Matcher;I)I"⟩
def RX3 : String := "PathStream$State"
def TX3 : u_T := fun k => match k with
  | 0 => ("PathStream$State", "elements", "LPathStream$Elements;", true)
  | 1 => ("PathStream$State", "paths", "[LPathStream$Path;", true)
  | _ => ("PathStream$State", "pathCount", "I", false)
def tyX3 : Nat → FieldType := fun k => match k with
  | 0 => .object "PathStream$Elements"
  | 1 => .array (.object "PathStream$Path")
  | _ => .int
abbrev wsX30 : List Cond := u_ws RX3 TX3 3
theorem nmX3 : ∀ a, a < 3 → ∀ b, b < 3 → a ≠ b → (TX3 a).2.1 ≠ (TX3 b).2.1 := by decide +kernel
theorem tyX3_ok : ∀ k, k < 3 → parseFieldDescriptor (TX3 k).2.2.1 = some (tyX3 k) := by decide +kernel
abbrev cX3_init : ByteArray := prog_5_method_1_code
def yX3_init : MethodName := ⟨RX3, "<init>", "()V"⟩
abbrev cX3_clear : ByteArray := prog_5_method_2_code
def yX3_clear : MethodName := ⟨RX3, "clear", "()V"⟩
abbrev cX3_copyFrom : ByteArray := prog_5_method_3_code
def yX3_copyFrom : MethodName := ⟨RX3, "copyFrom", "(LPathStream$State;)V"⟩
abbrev cX3_addPath : ByteArray := prog_5_method_4_code
def yX3_addPath : MethodName := ⟨RX3, "addPath", "([II)V"⟩
abbrev cX3_emitAll : ByteArray := prog_5_method_5_code
def yX3_emitAll : MethodName := ⟨RX3, "emitAll", "(LPathStream$Matcher;)I"⟩
abbrev cX3_emitOne : ByteArray := prog_5_method_6_code
def yX3_emitOne : MethodName := ⟨RX3, "emitOne", "(ILPathStream$Matcher;)I"⟩
abbrev cX3_differentPrefixes : ByteArray := prog_5_method_7_code
def yX3_differentPrefixes : MethodName := ⟨RX3, "differentPrefixes", "()I"⟩
abbrev cX3_earlierBeginsLike : ByteArray := prog_5_method_8_code
def yX3_earlierBeginsLike : MethodName := ⟨RX3, "earlierBeginsLike", "(II)Z"⟩
def RX4 : String := "PathStream$TaskReader"
def TX4 : u_T := fun k => match k with
  | 0 => ("PathStream$TaskReader", "steps", "[I", true)
  | 1 => ("PathStream$TaskReader", "stepCount", "I", false)
  | _ => ("PathStream$TaskReader", "phase", "I", false)
def tyX4 : Nat → FieldType := fun k => match k with
  | 0 => .array .int
  | 1 => .int
  | _ => .int
abbrev wsX40 : List Cond := u_ws RX4 TX4 3
theorem nmX4 : ∀ a, a < 3 → ∀ b, b < 3 → a ≠ b → (TX4 a).2.1 ≠ (TX4 b).2.1 := by decide +kernel
theorem tyX4_ok : ∀ k, k < 3 → parseFieldDescriptor (TX4 k).2.2.1 = some (tyX4 k) := by decide +kernel
abbrev cX4_init : ByteArray := prog_6_method_1_code
def yX4_init : MethodName := ⟨RX4, "<init>", "()V"⟩
abbrev cX4_begin : ByteArray := prog_6_method_2_code
def yX4_begin : MethodName := ⟨RX4, "begin", "()V"⟩
abbrev cX4_mayEnd : ByteArray := prog_6_method_3_code
def yX4_mayEnd : MethodName := ⟨RX4, "mayEnd", "()Z"⟩
abbrev cX4_takes : ByteArray := prog_6_method_4_code
def yX4_takes : MethodName := ⟨RX4, "takes", "(CLPathStream$State;)Z"⟩
abbrev cX4_goesOn : ByteArray := prog_6_method_5_code
def yX4_goesOn : MethodName := ⟨RX4, "goesOn", "(ZI)Z"⟩
abbrev cX4_beginsPath : ByteArray := prog_6_method_6_code
def yX4_beginsPath : MethodName := ⟨RX4, "beginsPath", "(LPathStream$State;)Z"⟩
abbrev cX4_takesEvent : ByteArray := prog_6_method_7_code
def yX4_takesEvent : MethodName := ⟨RX4, "takesEvent", "(CLPathStream$Elements;)Z"⟩
abbrev cX4_takesAxis : ByteArray := prog_6_method_8_code
def yX4_takesAxis : MethodName := ⟨RX4, "takesAxis", "(C)Z"⟩
abbrev cX4_takesTest : ByteArray := prog_6_method_9_code
def yX4_takesTest : MethodName := ⟨RX4, "takesTest", "(C)Z"⟩
abbrev cX4_takesChildName : ByteArray := prog_6_method_10_code
def yX4_takesChildName : MethodName := ⟨RX4, "takesChildName", "(C)Z"⟩
abbrev cX4_takesFigure : ByteArray := prog_6_method_11_code
def yX4_takesFigure : MethodName := ⟨RX4, "takesFigure", "(C)Z"⟩
abbrev cX4_addsToStep : ByteArray := prog_6_method_12_code
def yX4_addsToStep : MethodName := ⟨RX4, "addsToStep", "(ZII)Z"⟩
abbrev cX4_takesNextStep : ByteArray := prog_6_method_13_code
def yX4_takesNextStep : MethodName := ⟨RX4, "takesNextStep", "(CLPathStream$State;)Z"⟩
abbrev cX4_nameOf : ByteArray := prog_6_method_14_code
def yX4_nameOf : MethodName := ⟨RX4, "nameOf", "(C)I"⟩
abbrev cX4_figureOf : ByteArray := prog_6_method_15_code
def yX4_figureOf : MethodName := ⟨RX4, "figureOf", "(C)I"⟩
def RX5 : String := "PathStream"
def TX5 : u_T := fun k => match k with
  | 0 => ("PathStream", "now", "LPathStream$State;", true)
  | 1 => ("PathStream", "trial", "LPathStream$State;", true)
  | 2 => ("PathStream", "before", "[LPathStream$State;", true)
  | 3 => ("PathStream", "slots", "[LPathStream$State;", true)
  | 4 => ("PathStream", "slotHolds", "[Z", true)
  | 5 => ("PathStream", "matcher", "LPathStream$Matcher;", true)
  | 6 => ("PathStream", "reader", "LPathStream$TaskReader;", true)
  | 7 => ("PathStream", "text", "[C", true)
  | 8 => ("PathStream", "seenPaths", "[I", true)
  | 9 => ("PathStream", "seenCounts", "[I", true)
  | 10 => ("PathStream", "parts", "[I", true)
  | 11 => ("PathStream", "answerSets", "[I", true)
  | 12 => ("PathStream", "textLength", "I", false)
  | 13 => ("PathStream", "actions", "I", false)
  | 14 => ("PathStream", "nextAction", "I", false)
  | 15 => ("PathStream", "observations", "I", false)
  | _ => ("PathStream", "random", "J", false)
def tyX5 : Nat → FieldType := fun k => match k with
  | 0 => .object "PathStream$State"
  | 1 => .object "PathStream$State"
  | 2 => .array (.object "PathStream$State")
  | 3 => .array (.object "PathStream$State")
  | 4 => .array .boolean
  | 5 => .object "PathStream$Matcher"
  | 6 => .object "PathStream$TaskReader"
  | 7 => .array .char
  | 8 => .array .int
  | 9 => .array .int
  | 10 => .array .int
  | 11 => .array .int
  | 12 => .int
  | 13 => .int
  | 14 => .int
  | 15 => .int
  | _ => .long
abbrev wsX50 : List Cond := u_ws RX5 TX5 17
theorem nmX5 : ∀ a, a < 17 → ∀ b, b < 17 → a ≠ b → (TX5 a).2.1 ≠ (TX5 b).2.1 := by decide +kernel
theorem tyX5_ok : ∀ k, k < 17 → parseFieldDescriptor (TX5 k).2.2.1 = some (tyX5 k) := by decide +kernel
abbrev cX5_init : ByteArray := prog_1_method_1_code
def yX5_init : MethodName := ⟨RX5, "<init>", "()V"⟩
abbrev cX5_write : ByteArray := prog_1_method_2_code
def yX5_write : MethodName := ⟨RX5, "write", "(I)I"⟩
abbrev cX5_wipe : ByteArray := prog_1_method_3_code
def yX5_wipe : MethodName := ⟨RX5, "wipe", "()I"⟩
abbrev cX5_fault : ByteArray := prog_1_method_4_code
def yX5_fault : MethodName := ⟨RX5, "fault", "()I"⟩
abbrev cX5_task : ByteArray := prog_1_method_5_code
def yX5_task : MethodName := ⟨RX5, "task", "()I"⟩
abbrev cX5_about : ByteArray := prog_1_method_6_code
def yX5_about : MethodName := ⟨RX5, "about", "(I)I"⟩
abbrev cX5_element : ByteArray := prog_1_method_7_code
def yX5_element : MethodName := ⟨RX5, "element", "(II)I"⟩
abbrev cX5_path : ByteArray := prog_1_method_8_code
def yX5_path : MethodName := ⟨RX5, "path", "(II)I"⟩
abbrev cX5_step : ByteArray := prog_1_method_9_code
def yX5_step : MethodName := ⟨RX5, "step", "(II)I"⟩
abbrev cX5_is : ByteArray := prog_1_method_10_code
def yX5_is : MethodName := ⟨RX5, "is", "(II)I"⟩
abbrev cX5_ends : ByteArray := prog_1_method_11_code
def yX5_ends : MethodName := ⟨RX5, "ends", "(II)I"⟩
abbrev cX5_out : ByteArray := prog_1_method_12_code
def yX5_out : MethodName := ⟨RX5, "out", "(IIZ)I"⟩
abbrev cX5_open : ByteArray := prog_1_method_13_code
def yX5_open : MethodName := ⟨RX5, "open", "(I)I"⟩
abbrev cX5_close : ByteArray := prog_1_method_14_code
def yX5_close : MethodName := ⟨RX5, "close", "()I"⟩
abbrev cX5_tell : ByteArray := prog_1_method_15_code
def yX5_tell : MethodName := ⟨RX5, "tell", "(I)I"⟩
abbrev cX5_ask : ByteArray := prog_1_method_16_code
def yX5_ask : MethodName := ⟨RX5, "ask", "(IJ)I"⟩
abbrev cX5_drop : ByteArray := prog_1_method_17_code
def yX5_drop : MethodName := ⟨RX5, "drop", "()I"⟩
abbrev cX5_undo : ByteArray := prog_1_method_18_code
def yX5_undo : MethodName := ⟨RX5, "undo", "()I"⟩
abbrev cX5_within : ByteArray := prog_1_method_19_code
def yX5_within : MethodName := ⟨RX5, "within", "(II)I"⟩
abbrev cX5_judge : ByteArray := prog_1_method_20_code
def yX5_judge : MethodName := ⟨RX5, "judge", "(IJ)I"⟩
abbrev cX5_see : ByteArray := prog_1_method_21_code
def yX5_see : MethodName := ⟨RX5, "see", "(II)I"⟩
abbrev cX5_unsee : ByteArray := prog_1_method_22_code
def yX5_unsee : MethodName := ⟨RX5, "unsee", "()I"⟩
abbrev cX5_which : ByteArray := prog_1_method_23_code
def yX5_which : MethodName := ⟨RX5, "which", "()I"⟩
abbrev cX5_share : ByteArray := prog_1_method_24_code
def yX5_share : MethodName := ⟨RX5, "share", "(IZ)I"⟩
abbrev cX5_chance : ByteArray := prog_1_method_25_code
def yX5_chance : MethodName := ⟨RX5, "chance", "(IIZ)I"⟩
abbrev cX5_seed : ByteArray := prog_1_method_26_code
def yX5_seed : MethodName := ⟨RX5, "seed", "(J)J"⟩
abbrev cX5_drawn : ByteArray := prog_1_method_27_code
def yX5_drawn : MethodName := ⟨RX5, "drawn", "(I)I"⟩
abbrev cX5_keep : ByteArray := prog_1_method_28_code
def yX5_keep : MethodName := ⟨RX5, "keep", "(I)I"⟩
abbrev cX5_again : ByteArray := prog_1_method_29_code
def yX5_again : MethodName := ⟨RX5, "again", "(I)I"⟩
abbrev cX5_isElement : ByteArray := prog_1_method_30_code
def yX5_isElement : MethodName := ⟨RX5, "isElement", "(I)Z"⟩
abbrev cX5_isPath : ByteArray := prog_1_method_31_code
def yX5_isPath : MethodName := ⟨RX5, "isPath", "(I)Z"⟩
abbrev cX5_readTask : ByteArray := prog_1_method_32_code
def yX5_readTask : MethodName := ⟨RX5, "readTask", "(Z)I"⟩
abbrev cX5_recordAction : ByteArray := prog_1_method_33_code
def yX5_recordAction : MethodName := ⟨RX5, "recordAction", "()V"⟩
abbrev cX5_forgetActions : ByteArray := prog_1_method_34_code
def yX5_forgetActions : MethodName := ⟨RX5, "forgetActions", "()V"⟩
abbrev cX5_answersOf : ByteArray := prog_1_method_35_code
def yX5_answersOf : MethodName := ⟨RX5, "answersOf", "(LPathStream$State;I)I"⟩
abbrev cX5_pathNumber : ByteArray := prog_1_method_36_code
def yX5_pathNumber : MethodName := ⟨RX5, "pathNumber", "(LPathStream$State;II)I"⟩
abbrev cX5_splits : ByteArray := prog_1_method_37_code
def yX5_splits : MethodName := ⟨RX5, "splits", "(JII)Z"⟩
abbrev cX5_partsAreSteps : ByteArray := prog_1_method_38_code
def yX5_partsAreSteps : MethodName := ⟨RX5, "partsAreSteps", "(I)Z"⟩
abbrev cX5_comesTrue : ByteArray := prog_1_method_39_code
def yX5_comesTrue : MethodName := ⟨RX5, "comesTrue", "(III)Z"⟩
abbrev cX5_emitsAfter : ByteArray := prog_1_method_40_code
def yX5_emitsAfter : MethodName := ⟨RX5, "emitsAfter", "(Z)Z"⟩
abbrev cX5_agreesWithAll : ByteArray := prog_1_method_41_code
def yX5_agreesWithAll : MethodName := ⟨RX5, "agreesWithAll", "(I)Z"⟩
abbrev cX5_answersWithLastTest : ByteArray := prog_1_method_42_code
def yX5_answersWithLastTest : MethodName := ⟨RX5, "answersWithLastTest", "(II)I"⟩
abbrev cX5_findAnswerSets : ByteArray := prog_1_method_43_code
def yX5_findAnswerSets : MethodName := ⟨RX5, "findAnswerSets", "()V"⟩
abbrev cX5_pathsAnswering : ByteArray := prog_1_method_44_code
def yX5_pathsAnswering : MethodName := ⟨RX5, "pathsAnswering", "(I)I"⟩
abbrev cX5_answersOfAny : ByteArray := prog_1_method_45_code
def yX5_answersOfAny : MethodName := ⟨RX5, "answersOfAny", "(I)I"⟩
abbrev cX5_weightOf : ByteArray := prog_1_method_46_code
def yX5_weightOf : MethodName := ⟨RX5, "weightOf", "(II)I"⟩
abbrev cX5_inLowestTerms : ByteArray := prog_1_method_47_code
def yX5_inLowestTerms : MethodName := ⟨RX5, "inLowestTerms", "(IIZ)I"⟩
abbrev cX5_greatestDivisor : ByteArray := prog_1_method_48_code
def yX5_greatestDivisor : MethodName := ⟨RX5, "greatestDivisor", "(II)I"⟩
abbrev cX5_drawEvent : ByteArray := prog_1_method_49_code
def yX5_drawEvent : MethodName := ⟨RX5, "drawEvent", "(LPathStream$Elements;)V"⟩
def RX6 : String := "PathStreamModel"
def TX6 : u_T := fun k => match k with
  | 0 => ("PathStreamModel", "text", "[I", true)
  | 1 => ("PathStreamModel", "length", "I", false)
  | 2 => ("PathStreamModel", "now", "[I", true)
  | 3 => ("PathStreamModel", "trial", "[I", true)
  | 4 => ("PathStreamModel", "diary", "[I", true)
  | 5 => ("PathStreamModel", "acts", "I", false)
  | 6 => ("PathStreamModel", "next", "I", false)
  | 7 => ("PathStreamModel", "kept", "[I", true)
  | 8 => ("PathStreamModel", "isKept", "[Z", true)
  | 9 => ("PathStreamModel", "seenPath", "[I", true)
  | 10 => ("PathStreamModel", "seenIs", "[I", true)
  | 11 => ("PathStreamModel", "seen", "I", false)
  | 12 => ("PathStreamModel", "seed", "J", false)
  | 13 => ("PathStreamModel", "otherTest", "I", false)
  | 14 => ("PathStreamModel", "way", "[I", true)
  | 15 => ("PathStreamModel", "ended", "[I", true)
  | 16 => ("PathStreamModel", "worth", "[I", true)
  | 17 => ("PathStreamModel", "answers", "[I", true)
  | 18 => ("PathStreamModel", "part", "I", false)
  | 19 => ("PathStreamModel", "readPaths", "I", false)
  | 20 => ("PathStreamModel", "readLong", "[I", true)
  | 21 => ("PathStreamModel", "readStep", "[I", true)
  | 22 => ("PathStreamModel", "readEvents", "I", false)
  | 23 => ("PathStreamModel", "readEvent", "[I", true)
  | 24 => ("PathStreamModel", "readDepth", "I", false)
  | _ => ("PathStreamModel", "readElements", "I", false)
def tyX6 : Nat → FieldType := fun k => match k with
  | 0 => .array .int
  | 1 => .int
  | 2 => .array .int
  | 3 => .array .int
  | 4 => .array .int
  | 5 => .int
  | 6 => .int
  | 7 => .array .int
  | 8 => .array .boolean
  | 9 => .array .int
  | 10 => .array .int
  | 11 => .int
  | 12 => .long
  | 13 => .int
  | 14 => .array .int
  | 15 => .array .int
  | 16 => .array .int
  | 17 => .array .int
  | 18 => .int
  | 19 => .int
  | 20 => .array .int
  | 21 => .array .int
  | 22 => .int
  | 23 => .array .int
  | 24 => .int
  | _ => .int
abbrev wsX60 : List Cond := u_ws RX6 TX6 26
theorem nmX6 : ∀ a, a < 26 → ∀ b, b < 26 → a ≠ b → (TX6 a).2.1 ≠ (TX6 b).2.1 := by decide +kernel
theorem tyX6_ok : ∀ k, k < 26 → parseFieldDescriptor (TX6 k).2.2.1 = some (tyX6 k) := by decide +kernel
abbrev cX6_init : ByteArray := prog_8_method_1_code
def yX6_init : MethodName := ⟨RX6, "<init>", "()V"⟩
abbrev cX6_clear : ByteArray := prog_8_method_3_code
def yX6_clear : MethodName := ⟨RX6, "clear", "([I)V"⟩
abbrev cX6_copy : ByteArray := prog_8_method_4_code
def yX6_copy : MethodName := ⟨RX6, "copy", "([I[I)V"⟩
abbrev cX6_in : ByteArray := prog_8_method_5_code
def yX6_in : MethodName := ⟨RX6, "in", "(JJJ)Z"⟩
abbrev cX6_has : ByteArray := prog_8_method_6_code
def yX6_has : MethodName := ⟨RX6, "has", "(II)Z"⟩
abbrev cX6_ones : ByteArray := prog_8_method_7_code
def yX6_ones : MethodName := ⟨RX6, "ones", "(I)I"⟩
abbrev cX6_power : ByteArray := prog_8_method_8_code
def yX6_power : MethodName := ⟨RX6, "power", "(II)I"⟩
abbrev cX6_factorial : ByteArray := prog_8_method_9_code
def yX6_factorial : MethodName := ⟨RX6, "factorial", "(I)I"⟩
abbrev cX6_fraction : ByteArray := prog_8_method_10_code
def yX6_fraction : MethodName := ⟨RX6, "fraction", "(IIZ)I"⟩
abbrev cX6_isPath : ByteArray := prog_8_method_11_code
def yX6_isPath : MethodName := ⟨RX6, "isPath", "(I)Z"⟩
abbrev cX6_isElement : ByteArray := prog_8_method_12_code
def yX6_isElement : MethodName := ⟨RX6, "isElement", "(I)Z"⟩
abbrev cX6_write : ByteArray := prog_8_method_13_code
def yX6_write : MethodName := ⟨RX6, "write", "(I)I"⟩
abbrev cX6_wipe : ByteArray := prog_8_method_14_code
def yX6_wipe : MethodName := ⟨RX6, "wipe", "()I"⟩
abbrev cX6_takeEvent : ByteArray := prog_8_method_15_code
def yX6_takeEvent : MethodName := ⟨RX6, "takeEvent", "(I)Z"⟩
abbrev cX6_takeTop : ByteArray := prog_8_method_16_code
def yX6_takeTop : MethodName := ⟨RX6, "takeTop", "(I)Z"⟩
abbrev cX6_takeAxis : ByteArray := prog_8_method_17_code
def yX6_takeAxis : MethodName := ⟨RX6, "takeAxis", "(I)Z"⟩
abbrev cX6_takeBehind : ByteArray := prog_8_method_18_code
def yX6_takeBehind : MethodName := ⟨RX6, "takeBehind", "(I)Z"⟩
abbrev cX6_addToStep : ByteArray := prog_8_method_19_code
def yX6_addToStep : MethodName := ⟨RX6, "addToStep", "(I)V"⟩
abbrev cX6_take : ByteArray := prog_8_method_20_code
def yX6_take : MethodName := ⟨RX6, "take", "(I)Z"⟩
abbrev cX6_readText : ByteArray := prog_8_method_21_code
def yX6_readText : MethodName := ⟨RX6, "readText", "()I"⟩
abbrev cX6_fault : ByteArray := prog_8_method_22_code
def yX6_fault : MethodName := ⟨RX6, "fault", "()I"⟩
abbrev cX6_childNames : ByteArray := prog_8_method_23_code
def yX6_childNames : MethodName := ⟨RX6, "childNames", "([II)I"⟩
abbrev cX6_isMet : ByteArray := prog_8_method_24_code
def yX6_isMet : MethodName := ⟨RX6, "isMet", "([IIIZ)Z"⟩
abbrev cX6_layWay : ByteArray := prog_8_method_25_code
def yX6_layWay : MethodName := ⟨RX6, "layWay", "([II)I"⟩
abbrev cX6_endsAt : ByteArray := prog_8_method_26_code
def yX6_endsAt : MethodName := ⟨RX6, "endsAt", "([IIIIIZ)I"⟩
abbrev cX6_endsOf : ByteArray := prog_8_method_27_code
def yX6_endsOf : MethodName := ⟨RX6, "endsOf", "([IIIZ)I"⟩
abbrev cX6_endsAll : ByteArray := prog_8_method_28_code
def yX6_endsAll : MethodName := ⟨RX6, "endsAll", "([IIIZ)Z"⟩
abbrev cX6_answersOf : ByteArray := prog_8_method_29_code
def yX6_answersOf : MethodName := ⟨RX6, "answersOf", "([II)I"⟩
abbrev cX6_doubtsOf : ByteArray := prog_8_method_30_code
def yX6_doubtsOf : MethodName := ⟨RX6, "doubtsOf", "([II)I"⟩
abbrev cX6_outOf : ByteArray := prog_8_method_31_code
def yX6_outOf : MethodName := ⟨RX6, "outOf", "([II)I"⟩
abbrev cX6_heldOf : ByteArray := prog_8_method_32_code
def yX6_heldOf : MethodName := ⟨RX6, "heldOf", "([II)I"⟩
abbrev cX6_noteOut : ByteArray := prog_8_method_33_code
def yX6_noteOut : MethodName := ⟨RX6, "noteOut", "([II)I"⟩
abbrev cX6_noteAll : ByteArray := prog_8_method_34_code
def yX6_noteAll : MethodName := ⟨RX6, "noteAll", "([I)I"⟩
abbrev cX6_depthOf : ByteArray := prog_8_method_35_code
def yX6_depthOf : MethodName := ⟨RX6, "depthOf", "([II)I"⟩
abbrev cX6_mayOpen : ByteArray := prog_8_method_36_code
def yX6_mayOpen : MethodName := ⟨RX6, "mayOpen", "([I)Z"⟩
abbrev cX6_openOn : ByteArray := prog_8_method_37_code
def yX6_openOn : MethodName := ⟨RX6, "openOn", "([II)V"⟩
abbrev cX6_closeOn : ByteArray := prog_8_method_38_code
def yX6_closeOn : MethodName := ⟨RX6, "closeOn", "([I)I"⟩
abbrev cX6_tellOn : ByteArray := prog_8_method_39_code
def yX6_tellOn : MethodName := ⟨RX6, "tellOn", "([II)I"⟩
abbrev cX6_eventOn : ByteArray := prog_8_method_40_code
def yX6_eventOn : MethodName := ⟨RX6, "eventOn", "([II)Z"⟩
abbrev cX6_askOn : ByteArray := prog_8_method_41_code
def yX6_askOn : MethodName := ⟨RX6, "askOn", "([IIIIII)V"⟩
abbrev cX6_task : ByteArray := prog_8_method_42_code
def yX6_task : MethodName := ⟨RX6, "task", "()I"⟩
abbrev cX6_isBeginning : ByteArray := prog_8_method_43_code
def yX6_isBeginning : MethodName := ⟨RX6, "isBeginning", "(III)Z"⟩
abbrev cX6_shared : ByteArray := prog_8_method_44_code
def yX6_shared : MethodName := ⟨RX6, "shared", "()I"⟩
abbrev cX6_about : ByteArray := prog_8_method_45_code
def yX6_about : MethodName := ⟨RX6, "about", "(I)I"⟩
abbrev cX6_element : ByteArray := prog_8_method_46_code
def yX6_element : MethodName := ⟨RX6, "element", "(II)I"⟩
abbrev cX6_path : ByteArray := prog_8_method_47_code
def yX6_path : MethodName := ⟨RX6, "path", "(II)I"⟩
abbrev cX6_step : ByteArray := prog_8_method_48_code
def yX6_step : MethodName := ⟨RX6, "step", "(II)I"⟩
abbrev cX6_is : ByteArray := prog_8_method_49_code
def yX6_is : MethodName := ⟨RX6, "is", "(II)I"⟩
abbrev cX6_ends : ByteArray := prog_8_method_50_code
def yX6_ends : MethodName := ⟨RX6, "ends", "(II)I"⟩
abbrev cX6_out : ByteArray := prog_8_method_51_code
def yX6_out : MethodName := ⟨RX6, "out", "(IIZ)I"⟩
abbrev cX6_note : ByteArray := prog_8_method_52_code
def yX6_note : MethodName := ⟨RX6, "note", "()V"⟩
abbrev cX6_open : ByteArray := prog_8_method_53_code
def yX6_open : MethodName := ⟨RX6, "open", "(I)I"⟩
abbrev cX6_close : ByteArray := prog_8_method_54_code
def yX6_close : MethodName := ⟨RX6, "close", "()I"⟩
abbrev cX6_tell : ByteArray := prog_8_method_55_code
def yX6_tell : MethodName := ⟨RX6, "tell", "(I)I"⟩
abbrev cX6_tenThousands : ByteArray := prog_8_method_56_code
def yX6_tenThousands : MethodName := ⟨RX6, "tenThousands", "(I)J"⟩
abbrev cX6_isStep : ByteArray := prog_8_method_57_code
def yX6_isStep : MethodName := ⟨RX6, "isStep", "(I)Z"⟩
abbrev cX6_stepOf : ByteArray := prog_8_method_58_code
def yX6_stepOf : MethodName := ⟨RX6, "stepOf", "(JII)I"⟩
abbrev cX6_ask : ByteArray := prog_8_method_59_code
def yX6_ask : MethodName := ⟨RX6, "ask", "(IJ)I"⟩
abbrev cX6_drop : ByteArray := prog_8_method_60_code
def yX6_drop : MethodName := ⟨RX6, "drop", "()I"⟩
abbrev cX6_undo : ByteArray := prog_8_method_61_code
def yX6_undo : MethodName := ⟨RX6, "undo", "()I"⟩
abbrev cX6_within : ByteArray := prog_8_method_62_code
def yX6_within : MethodName := ⟨RX6, "within", "(II)I"⟩
abbrev cX6_judged : ByteArray := prog_8_method_63_code
def yX6_judged : MethodName := ⟨RX6, "judged", "(III)Z"⟩
abbrev cX6_thousands : ByteArray := prog_8_method_64_code
def yX6_thousands : MethodName := ⟨RX6, "thousands", "(I)J"⟩
abbrev cX6_judge : ByteArray := prog_8_method_65_code
def yX6_judge : MethodName := ⟨RX6, "judge", "(IJ)I"⟩
abbrev cX6_see : ByteArray := prog_8_method_66_code
def yX6_see : MethodName := ⟨RX6, "see", "(II)I"⟩
abbrev cX6_unsee : ByteArray := prog_8_method_67_code
def yX6_unsee : MethodName := ⟨RX6, "unsee", "()I"⟩
abbrev cX6_which : ByteArray := prog_8_method_68_code
def yX6_which : MethodName := ⟨RX6, "which", "()I"⟩
abbrev cX6_layWorth : ByteArray := prog_8_method_69_code
def yX6_layWorth : MethodName := ⟨RX6, "layWorth", "()V"⟩
abbrev cX6_share : ByteArray := prog_8_method_70_code
def yX6_share : MethodName := ⟨RX6, "share", "(IZ)I"⟩
abbrev cX6_chance : ByteArray := prog_8_method_71_code
def yX6_chance : MethodName := ⟨RX6, "chance", "(IIZ)I"⟩
abbrev cX6_seed : ByteArray := prog_8_method_72_code
def yX6_seed : MethodName := ⟨RX6, "seed", "(J)J"⟩
abbrev cX6_drawn : ByteArray := prog_8_method_73_code
def yX6_drawn : MethodName := ⟨RX6, "drawn", "(I)I"⟩
abbrev cX6_keep : ByteArray := prog_8_method_74_code
def yX6_keep : MethodName := ⟨RX6, "keep", "(I)I"⟩
abbrev cX6_again : ByteArray := prog_8_method_75_code
def yX6_again : MethodName := ⟨RX6, "again", "(I)I"⟩
def RJ6 : String := "java/lang/Integer"
def TJ6 : u_T := fun k => match k with
  | _ => ("", "", "", false)
def tyJ6 : Nat → FieldType := fun k => match k with
  | _ => .int
abbrev wsJ60 : List Cond := u_ws RJ6 TJ6 0
theorem nmJ6 : ∀ a, a < 0 → ∀ b, b < 0 → a ≠ b → (TJ6 a).2.1 ≠ (TJ6 b).2.1 := by decide +kernel
theorem tyJ6_ok : ∀ k, k < 0 → parseFieldDescriptor (TJ6 k).2.2.1 = some (tyJ6 k) := by decide +kernel
abbrev cJ6_bitCount_0f7a4 : ByteArray := prog_9_method_49_code
def yJ6_bitCount_0f7a4 : MethodName := ⟨RJ6, "bitCount", "(I)I"⟩
def RJ9 : String := "java/lang/Math"
def TJ9 : u_T := fun k => match k with
  | _ => ("", "", "", false)
def tyJ9 : Nat → FieldType := fun k => match k with
  | _ => .int
abbrev wsJ90 : List Cond := u_ws RJ9 TJ9 0
theorem nmJ9 : ∀ a, a < 0 → ∀ b, b < 0 → a ≠ b → (TJ9 a).2.1 ≠ (TJ9 b).2.1 := by decide +kernel
theorem tyJ9_ok : ∀ k, k < 0 → parseFieldDescriptor (TJ9 k).2.2.1 = some (tyJ9 k) := by decide +kernel
abbrev cJ9_max_7cf53 : ByteArray := prog_10_method_65_code
def yJ9_max_7cf53 : MethodName := ⟨RJ9, "max", "(II)I"⟩
abbrev cJ9_min_7cf53 : ByteArray := prog_10_method_69_code
def yJ9_min_7cf53 : MethodName := ⟨RJ9, "min", "(II)I"⟩
def RJ10 : String := "java/lang/System"
def TJ10 : u_T := fun k => match k with
  | _ => ("", "", "", false)
def tyJ10 : Nat → FieldType := fun k => match k with
  | _ => .int
abbrev wsJ100 : List Cond := u_ws RJ10 TJ10 0
theorem nmJ10 : ∀ a, a < 0 → ∀ b, b < 0 → a ≠ b → (TJ10 a).2.1 ≠ (TJ10 b).2.1 := by decide +kernel
theorem tyJ10_ok : ∀ k, k < 0 → parseFieldDescriptor (TJ10 k).2.2.1 = some (tyJ10 k) := by decide +kernel
def RL : String := "PathStreamLaw"
abbrev cL_law : ByteArray := code
def yL_law : MethodName := ⟨RL, "law", "([I)Z"⟩
abbrev vwCl : List vw_C := [(RX0, TX0, 9), (RX1, TX1, 6), (RX2, TX2, 7), (RX3, TX3, 3), (RX4, TX4, 3), (RX5, TX5, 17), (RX6, TX6, 26)]
def wsG : List Cond := lw_tbl.filter goodWord
theorem wsG_of {w : Cond} (h : w ∈ lw_tbl) (g : goodWord w = true) : w ∈ wsG := List.mem_filter.mpr ⟨h, g⟩
theorem wsG_in : ∀ w ∈ wsG, w ∈ lw_tbl := fun _ h => (List.mem_filter.mp h).1
theorem wt_1 {w : Cond} {i : Nat} (h : tables_1_1[i]? = some w) (g : goodWord w = true) : w ∈ wsG := wsG_of (List.mem_append_right _ (List.mem_append_left _ (List.mem_of_getElem? h))) g
theorem wt_2 {w : Cond} {i : Nat} (h : tables_1_2[i]? = some w) (g : goodWord w = true) : w ∈ wsG := wsG_of (List.mem_append_right _ (List.mem_append_right _ (List.mem_append_left _ (List.mem_of_getElem? h)))) g
theorem wt_3 {w : Cond} {i : Nat} (h : tables_1_3[i]? = some w) (g : goodWord w = true) : w ∈ wsG := wsG_of (List.mem_append_right _ (List.mem_append_right _ (List.mem_append_right _ (List.mem_append_left _ (List.mem_of_getElem? h))))) g
theorem wt_4 {w : Cond} {i : Nat} (h : tables_1_4[i]? = some w) (g : goodWord w = true) : w ∈ wsG := wsG_of (List.mem_append_right _ (List.mem_append_right _ (List.mem_append_right _ (List.mem_append_right _ (List.mem_append_left _ (List.mem_of_getElem? h)))))) g
theorem wt_5 {w : Cond} {i : Nat} (h : tables_1_5[i]? = some w) (g : goodWord w = true) : w ∈ wsG := wsG_of (List.mem_append_right _ (List.mem_append_right _ (List.mem_append_right _ (List.mem_append_right _ (List.mem_append_right _ (List.mem_of_getElem? h)))))) g
theorem ws_s {w : Cond} {i : Nat} (h : (k2_sels lw_privs)[i]? = some w) (g : goodWord w = true) : w ∈ wsG := wsG_of (List.mem_append_left _ (List.mem_of_getElem? h)) g
theorem wsG_good : ∀ w ∈ wsG, (w.onTables && w.keeps) = true ∨ ∃ ty, w = .arrayClass ty := fun w h => good_of_word (List.mem_filter.mp h).2
theorem gd_ws {y : MethodName} {b : ByteArray} {n : Nat} {r : Option FieldType} (h5 : Cond.code y b n r ∈ wsG) : GoodIn wsG (.code y b n r :: wsG) := by
  intro w hw
  rcases List.mem_cons.mp hw with h | h
  · rw [h]; exact ⟨h5, wsG_good _ h5⟩
  · exact ⟨h, wsG_good _ h⟩
theorem gd_V {own C : String} {i : Nat} {y : MethodName} {b : ByteArray} {n : Nat} {r : Option FieldType} (h1 : Cond.methodLink own i y ∈ wsG) (h2 : Cond.instanceMethod y ∈ wsG) (h3 : Cond.selects C y y ∈ wsG) (h4 : Cond.initialized C ∈ wsG) (h5 : Cond.code y b n r ∈ wsG) : GoodIn wsG (wsV own i C y (.code y b n r :: wsG)) := by
  intro w hw
  rcases List.mem_append.mp hw with h | h
  · have hm : w ∈ wsG := by
      rcases List.mem_cons.mp h with h | h
      · rw [h]; exact h1
      rcases List.mem_cons.mp h with h | h
      · rw [h]; exact h2
      rcases List.mem_cons.mp h with h | h
      · rw [h]; exact h3
      rcases List.mem_cons.mp h with h | h
      · rw [h]; exact h4
      cases h
    exact ⟨hm, wsG_good _ hm⟩
  · exact gd_ws h5 w h
theorem gd_S {own : String} {i : Nat} {y : MethodName} {b : ByteArray} {n : Nat} {r : Option FieldType} (h1 : Cond.methodLink own i y ∈ wsG) (h2 : Cond.static y ∈ wsG) (h4 : Cond.initialized own ∈ wsG) (h5 : Cond.code y b n r ∈ wsG) : GoodIn wsG (wsS own i y (.code y b n r :: wsG)) := by
  intro w hw
  rcases List.mem_append.mp hw with h | h
  · have hm : w ∈ wsG := by
      rcases List.mem_cons.mp h with h | h
      · rw [h]; exact h1
      rcases List.mem_cons.mp h with h | h
      · rw [h]; exact h2
      rcases List.mem_cons.mp h with h | h
      · rw [h]; exact h4
      cases h
    exact ⟨hm, wsG_good _ hm⟩
  · exact gd_ws h5 w h
theorem wl_1_0 : Cond.initialized RL ∈ wsG := wt_1 (i := 0) rfl rfl
theorem wl_1_1 : Cond.initialized RX5 ∈ wsG := wt_1 (i := 1) rfl rfl
theorem wl_1_2 : Cond.initialized RX3 ∈ wsG := wt_1 (i := 2) rfl rfl
theorem wl_1_3 : Cond.initialized RX0 ∈ wsG := wt_1 (i := 3) rfl rfl
theorem wl_1_4 : Cond.initialized RX2 ∈ wsG := wt_1 (i := 4) rfl rfl
theorem wl_1_5 : Cond.initialized RX1 ∈ wsG := wt_1 (i := 5) rfl rfl
theorem wl_1_6 : Cond.initialized RX4 ∈ wsG := wt_1 (i := 6) rfl rfl
theorem wl_1_7 : Cond.initialized RX6 ∈ wsG := wt_1 (i := 7) rfl rfl
theorem wl_1_8 : Cond.initialized RJ9 ∈ wsG := wt_1 (i := 8) rfl rfl
theorem wl_1_9 : Cond.initialized RJ10 ∈ wsG := wt_1 (i := 9) rfl rfl
theorem wl_1_10 : Cond.initialized RJ6 ∈ wsG := wt_1 (i := 10) rfl rfl
theorem wl_1_11 : Cond.classLink RL 7 RX5 ∈ wsG := wt_1 (i := 11) rfl rfl
theorem wl_1_12 : Cond.instantiable RX5 17 ∈ wsG := wt_1 (i := 12) rfl rfl
theorem wl_1_13 : Cond.methodLink RL 9 yX5_init ∈ wsG := wt_1 (i := 13) rfl rfl
theorem wl_1_14 : Cond.instanceMethod yX5_init ∈ wsG := wt_1 (i := 14) rfl rfl
theorem wl_1_15 : Cond.code yX5_init cX5_init 2 none ∈ wsG := wt_1 (i := 15) rfl rfl
theorem wl_1_16 : Cond.methodLink RX5 1 objectInit ∈ wsG := wt_1 (i := 16) rfl rfl
theorem wl_1_17 : Cond.instanceMethod objectInit ∈ wsG := wt_1 (i := 17) rfl rfl
theorem wl_1_18 : Cond.code objectInit ⟨#[0xb1]⟩ 1 none ∈ wsG := wt_1 (i := 18) rfl rfl
theorem wl_1_19 : Cond.classLink RX5 7 RX3 ∈ wsG := wt_1 (i := 19) rfl rfl
theorem wl_1_20 : Cond.instantiable RX3 3 ∈ wsG := wt_1 (i := 20) rfl rfl
theorem wl_1_21 : Cond.methodLink RX5 9 yX3_init ∈ wsG := wt_1 (i := 21) rfl rfl
theorem wl_1_22 : Cond.instanceMethod yX3_init ∈ wsG := wt_1 (i := 22) rfl rfl
theorem wl_1_23 : Cond.code yX3_init cX3_init 2 none ∈ wsG := wt_1 (i := 23) rfl rfl
theorem wl_1_24 : Cond.methodLink RX3 3 objectInit ∈ wsG := wt_1 (i := 24) rfl rfl
theorem wl_1_25 : Cond.classLink RX3 9 RX0 ∈ wsG := wt_1 (i := 25) rfl rfl
theorem wl_1_26 : Cond.instantiable RX0 9 ∈ wsG := wt_1 (i := 26) rfl rfl
theorem wl_1_28 : Cond.instanceMethod yX0_init ∈ wsG := wt_1 (i := 28) rfl rfl
theorem wl_1_29 : Cond.code yX0_init cX0_init 1 none ∈ wsG := wt_1 (i := 29) rfl rfl
theorem wl_1_30 : Cond.methodLink RX0 3 objectInit ∈ wsG := wt_1 (i := 30) rfl rfl
theorem wl_1_31 : Cond.fieldLink RX0 9 "PathStream$Elements" "names" "[I" ∈ wsG := wt_1 (i := 31) rfl rfl
theorem wl_1_32 : Cond.fieldLink RX1 65 "PathStream$Elements" "names" "[I" ∈ wsG := wt_1 (i := 32) rfl rfl
theorem wl_1_33 : Cond.fieldLink RX5 111 "PathStream$Elements" "names" "[I" ∈ wsG := wt_1 (i := 33) rfl rfl
theorem wl_1_34 : Cond.fieldLink RX0 15 "PathStream$Elements" "parents" "[I" ∈ wsG := wt_1 (i := 34) rfl rfl
theorem wl_1_35 : Cond.fieldLink RX1 36 "PathStream$Elements" "parents" "[I" ∈ wsG := wt_1 (i := 35) rfl rfl
theorem wl_1_36 : Cond.fieldLink RX5 114 "PathStream$Elements" "parents" "[I" ∈ wsG := wt_1 (i := 36) rfl rfl
theorem wl_1_37 : Cond.fieldLink RX0 18 "PathStream$Elements" "depths" "[I" ∈ wsG := wt_1 (i := 37) rfl rfl
theorem wl_1_38 : Cond.fieldLink RX5 117 "PathStream$Elements" "depths" "[I" ∈ wsG := wt_1 (i := 38) rfl rfl
theorem wl_1_39 : Cond.fieldLink RX0 21 "PathStream$Elements" "digitSets" "[I" ∈ wsG := wt_1 (i := 39) rfl rfl
theorem wl_1_40 : Cond.fieldLink RX5 123 "PathStream$Elements" "digitSets" "[I" ∈ wsG := wt_1 (i := 40) rfl rfl
theorem wl_1_41 : Cond.fieldLink RX0 24 "PathStream$Elements" "childNames" "[I" ∈ wsG := wt_1 (i := 41) rfl rfl
theorem wl_1_42 : Cond.fieldLink RX5 126 "PathStream$Elements" "childNames" "[I" ∈ wsG := wt_1 (i := 42) rfl rfl
theorem wl_1_43 : Cond.fieldLink RX0 31 "PathStream$Elements" "openSet" "I" ∈ wsG := wt_1 (i := 43) rfl rfl
theorem wl_1_44 : Cond.fieldLink RX1 55 "PathStream$Elements" "openSet" "I" ∈ wsG := wt_1 (i := 44) rfl rfl
theorem wl_1_45 : Cond.fieldLink RX5 120 "PathStream$Elements" "openSet" "I" ∈ wsG := wt_1 (i := 45) rfl rfl
theorem wl_1_46 : Cond.fieldLink RX0 34 "PathStream$Elements" "count" "I" ∈ wsG := wt_1 (i := 46) rfl rfl
theorem wl_1_47 : Cond.fieldLink RX1 31 "PathStream$Elements" "count" "I" ∈ wsG := wt_1 (i := 47) rfl rfl
theorem wl_1_48 : Cond.fieldLink RX5 83 "PathStream$Elements" "count" "I" ∈ wsG := wt_1 (i := 48) rfl rfl
theorem wl_1_49 : Cond.fieldLink RX0 27 "PathStream$Elements" "current" "I" ∈ wsG := wt_1 (i := 49) rfl rfl
theorem wl_1_50 : Cond.fieldLink RX5 88 "PathStream$Elements" "current" "I" ∈ wsG := wt_1 (i := 50) rfl rfl
theorem wl_1_51 : Cond.fieldLink RX0 37 "PathStream$Elements" "clock" "I" ∈ wsG := wt_1 (i := 51) rfl rfl
theorem wl_1_52 : Cond.fieldLink RX3 53 "PathStream$Elements" "clock" "I" ∈ wsG := wt_1 (i := 52) rfl rfl
theorem wl_1_53 : Cond.fieldLink RX5 95 "PathStream$Elements" "clock" "I" ∈ wsG := wt_1 (i := 53) rfl rfl
theorem wl_1_54 : u_lay RX0 TX0 0 ∈ wsG := wt_1 (i := 54) rfl rfl
theorem wl_1_56 : u_lay RX0 TX0 1 ∈ wsG := wt_1 (i := 56) rfl rfl
theorem wl_1_58 : u_lay RX0 TX0 2 ∈ wsG := wt_1 (i := 58) rfl rfl
theorem wl_1_60 : u_lay RX0 TX0 3 ∈ wsG := wt_1 (i := 60) rfl rfl
theorem wl_1_62 : u_lay RX0 TX0 4 ∈ wsG := wt_1 (i := 62) rfl rfl
theorem wl_1_64 : u_lay RX0 TX0 5 ∈ wsG := wt_1 (i := 64) rfl rfl
theorem wl_1_66 : u_lay RX0 TX0 6 ∈ wsG := wt_1 (i := 66) rfl rfl
theorem wl_1_68 : u_lay RX0 TX0 7 ∈ wsG := wt_1 (i := 68) rfl rfl
theorem wl_1_70 : u_lay RX0 TX0 8 ∈ wsG := wt_1 (i := 70) rfl rfl
theorem wl_1_73 : Cond.arrayClass .int ∈ wsG := wt_1 (i := 73) rfl rfl
theorem wl_1_74 : Cond.classLink RX3 18 RX2 ∈ wsG := wt_1 (i := 74) rfl rfl
theorem wl_1_76 : Cond.instantiable RX2 7 ∈ wsG := wt_1 (i := 76) rfl rfl
theorem wl_1_78 : Cond.instanceMethod yX2_init ∈ wsG := wt_1 (i := 78) rfl rfl
theorem wl_1_79 : Cond.code yX2_init cX2_init 1 none ∈ wsG := wt_1 (i := 79) rfl rfl
theorem wl_1_80 : Cond.methodLink RX2 3 objectInit ∈ wsG := wt_1 (i := 80) rfl rfl
theorem wl_1_81 : Cond.fieldLink RX2 9 "PathStream$Path" "steps" "[I" ∈ wsG := wt_1 (i := 81) rfl rfl
theorem wl_1_82 : Cond.fieldLink RX1 62 "PathStream$Path" "steps" "[I" ∈ wsG := wt_1 (i := 82) rfl rfl
theorem wl_1_83 : Cond.fieldLink RX5 145 "PathStream$Path" "steps" "[I" ∈ wsG := wt_1 (i := 83) rfl rfl
theorem wl_1_84 : Cond.fieldLink RX2 15 "PathStream$Path" "outElements" "[I" ∈ wsG := wt_1 (i := 84) rfl rfl
theorem wl_1_85 : Cond.fieldLink RX5 167 "PathStream$Path" "outElements" "[I" ∈ wsG := wt_1 (i := 85) rfl rfl
theorem wl_1_86 : Cond.fieldLink RX2 18 "PathStream$Path" "outTimes" "[I" ∈ wsG := wt_1 (i := 86) rfl rfl
theorem wl_1_87 : Cond.fieldLink RX5 164 "PathStream$Path" "outTimes" "[I" ∈ wsG := wt_1 (i := 87) rfl rfl
theorem wl_1_88 : Cond.fieldLink RX2 30 "PathStream$Path" "stepCount" "I" ∈ wsG := wt_1 (i := 88) rfl rfl
theorem wl_1_89 : Cond.fieldLink RX1 47 "PathStream$Path" "stepCount" "I" ∈ wsG := wt_1 (i := 89) rfl rfl
theorem wl_1_90 : Cond.fieldLink RX3 60 "PathStream$Path" "stepCount" "I" ∈ wsG := wt_1 (i := 90) rfl rfl
theorem wl_1_91 : Cond.fieldLink RX5 140 "PathStream$Path" "stepCount" "I" ∈ wsG := wt_1 (i := 91) rfl rfl
theorem wl_1_92 : Cond.fieldLink RX2 40 "PathStream$Path" "outCount" "I" ∈ wsG := wt_1 (i := 92) rfl rfl
theorem wl_1_93 : Cond.fieldLink RX5 161 "PathStream$Path" "outCount" "I" ∈ wsG := wt_1 (i := 93) rfl rfl
theorem wl_1_94 : Cond.fieldLink RX2 43 "PathStream$Path" "outSet" "I" ∈ wsG := wt_1 (i := 94) rfl rfl
theorem wl_1_95 : Cond.fieldLink RX2 46 "PathStream$Path" "peak" "I" ∈ wsG := wt_1 (i := 95) rfl rfl
theorem wl_1_96 : Cond.fieldLink RX5 266 "PathStream$Path" "peak" "I" ∈ wsG := wt_1 (i := 96) rfl rfl
theorem wl_1_97 : u_lay RX2 TX2 0 ∈ wsG := wt_1 (i := 97) rfl rfl
theorem wl_1_99 : u_lay RX2 TX2 1 ∈ wsG := wt_1 (i := 99) rfl rfl
theorem wl_1_101 : u_lay RX2 TX2 2 ∈ wsG := wt_1 (i := 101) rfl rfl
theorem wl_1_103 : u_lay RX2 TX2 3 ∈ wsG := wt_1 (i := 103) rfl rfl
theorem wl_1_105 : u_lay RX2 TX2 4 ∈ wsG := wt_1 (i := 105) rfl rfl
theorem wl_1_107 : u_lay RX2 TX2 5 ∈ wsG := wt_1 (i := 107) rfl rfl
theorem wl_1_109 : u_lay RX2 TX2 6 ∈ wsG := wt_1 (i := 109) rfl rfl
theorem wl_1_112 : Cond.fieldLink RX3 12 "PathStream$State" "elements" "LPathStream$Elements;" ∈ wsG := wt_1 (i := 112) rfl rfl
theorem wl_1_113 : Cond.fieldLink RX4 30 "PathStream$State" "elements" "LPathStream$Elements;" ∈ wsG := wt_1 (i := 113) rfl rfl
theorem wl_1_114 : Cond.fieldLink RX5 79 "PathStream$State" "elements" "LPathStream$Elements;" ∈ wsG := wt_1 (i := 114) rfl rfl
theorem wl_1_115 : Cond.fieldLink RX3 20 "PathStream$State" "paths" "[LPathStream$Path;" ∈ wsG := wt_1 (i := 115) rfl rfl
theorem wl_1_116 : Cond.fieldLink RX5 136 "PathStream$State" "paths" "[LPathStream$Path;" ∈ wsG := wt_1 (i := 116) rfl rfl
theorem wl_1_117 : Cond.fieldLink RX3 28 "PathStream$State" "pathCount" "I" ∈ wsG := wt_1 (i := 117) rfl rfl
theorem wl_1_118 : Cond.fieldLink RX5 76 "PathStream$State" "pathCount" "I" ∈ wsG := wt_1 (i := 118) rfl rfl
theorem wl_1_119 : Cond.fieldLink RX4 67 "PathStream$State" "pathCount" "I" ∈ wsG := wt_1 (i := 119) rfl rfl
theorem wl_1_120 : u_lay RX3 TX3 0 ∈ wsG := wt_1 (i := 120) rfl rfl
theorem wl_1_122 : u_lay RX3 TX3 1 ∈ wsG := wt_1 (i := 122) rfl rfl
theorem wl_1_124 : u_lay RX3 TX3 2 ∈ wsG := wt_1 (i := 124) rfl rfl
theorem wl_1_128 : Cond.classLink RX5 30 RX1 ∈ wsG := wt_1 (i := 128) rfl rfl
theorem wl_1_129 : Cond.instantiable RX1 6 ∈ wsG := wt_1 (i := 129) rfl rfl
theorem wl_1_131 : Cond.instanceMethod yX1_init ∈ wsG := wt_1 (i := 131) rfl rfl
theorem wl_1_132 : Cond.code yX1_init cX1_init 1 none ∈ wsG := wt_1 (i := 132) rfl rfl
theorem wl_1_133 : Cond.methodLink RX1 3 objectInit ∈ wsG := wt_1 (i := 133) rfl rfl
theorem wl_1_134 : Cond.fieldLink RX1 9 "PathStream$Matcher" "sure" "[I" ∈ wsG := wt_1 (i := 134) rfl rfl
theorem wl_1_135 : Cond.fieldLink RX5 158 "PathStream$Matcher" "sure" "[I" ∈ wsG := wt_1 (i := 135) rfl rfl
theorem wl_1_136 : Cond.fieldLink RX1 15 "PathStream$Matcher" "possible" "[I" ∈ wsG := wt_1 (i := 136) rfl rfl
theorem wl_1_137 : Cond.fieldLink RX1 18 "PathStream$Matcher" "sureAround" "[I" ∈ wsG := wt_1 (i := 137) rfl rfl
theorem wl_1_138 : Cond.fieldLink RX1 21 "PathStream$Matcher" "possibleAround" "[I" ∈ wsG := wt_1 (i := 138) rfl rfl
theorem wl_1_139 : Cond.fieldLink RX1 24 "PathStream$Matcher" "answers" "I" ∈ wsG := wt_1 (i := 139) rfl rfl
theorem wl_1_140 : Cond.fieldLink RX2 54 "PathStream$Matcher" "answers" "I" ∈ wsG := wt_1 (i := 140) rfl rfl
theorem wl_1_141 : Cond.fieldLink RX5 152 "PathStream$Matcher" "answers" "I" ∈ wsG := wt_1 (i := 141) rfl rfl
theorem wl_1_142 : Cond.fieldLink RX1 28 "PathStream$Matcher" "doubts" "I" ∈ wsG := wt_1 (i := 142) rfl rfl
theorem wl_1_143 : Cond.fieldLink RX2 49 "PathStream$Matcher" "doubts" "I" ∈ wsG := wt_1 (i := 143) rfl rfl
theorem wl_1_144 : Cond.fieldLink RX5 155 "PathStream$Matcher" "doubts" "I" ∈ wsG := wt_1 (i := 144) rfl rfl
theorem wl_1_145 : u_lay RX1 TX1 0 ∈ wsG := wt_1 (i := 145) rfl rfl
theorem wl_1_147 : u_lay RX1 TX1 1 ∈ wsG := wt_1 (i := 147) rfl rfl
theorem wl_1_149 : u_lay RX1 TX1 2 ∈ wsG := wt_1 (i := 149) rfl rfl
theorem wl_1_151 : u_lay RX1 TX1 3 ∈ wsG := wt_1 (i := 151) rfl rfl
theorem wl_1_153 : u_lay RX1 TX1 4 ∈ wsG := wt_1 (i := 153) rfl rfl
theorem wl_1_155 : u_lay RX1 TX1 5 ∈ wsG := wt_1 (i := 155) rfl rfl
theorem wl_1_158 : Cond.arrayClass .boolean ∈ wsG := wt_1 (i := 158) rfl rfl
theorem wl_1_159 : Cond.classLink RX5 37 RX4 ∈ wsG := wt_1 (i := 159) rfl rfl
theorem wl_1_160 : Cond.instantiable RX4 3 ∈ wsG := wt_1 (i := 160) rfl rfl
theorem wl_1_162 : Cond.instanceMethod yX4_init ∈ wsG := wt_1 (i := 162) rfl rfl
theorem wl_1_163 : Cond.code yX4_init cX4_init 1 none ∈ wsG := wt_1 (i := 163) rfl rfl
theorem wl_1_164 : Cond.methodLink RX4 3 objectInit ∈ wsG := wt_1 (i := 164) rfl rfl
theorem wl_1_165 : Cond.fieldLink RX4 9 "PathStream$TaskReader" "steps" "[I" ∈ wsG := wt_1 (i := 165) rfl rfl
theorem wl_1_166 : Cond.fieldLink RX4 19 "PathStream$TaskReader" "stepCount" "I" ∈ wsG := wt_1 (i := 166) rfl rfl
theorem wl_1_167 : Cond.fieldLink RX4 15 "PathStream$TaskReader" "phase" "I" ∈ wsG := wt_1 (i := 167) rfl rfl
theorem wl_1_168 : u_lay RX4 TX4 0 ∈ wsG := wt_1 (i := 168) rfl rfl
theorem wl_1_170 : u_lay RX4 TX4 1 ∈ wsG := wt_1 (i := 170) rfl rfl
theorem wl_1_172 : u_lay RX4 TX4 2 ∈ wsG := wt_1 (i := 172) rfl rfl
theorem wl_1_175 : Cond.fieldLink RX5 10 "PathStream" "now" "LPathStream$State;" ∈ wsG := wt_1 (i := 175) rfl rfl
theorem wl_1_176 : Cond.fieldLink RX5 16 "PathStream" "trial" "LPathStream$State;" ∈ wsG := wt_1 (i := 176) rfl rfl
theorem wl_1_177 : Cond.fieldLink RX5 19 "PathStream" "before" "[LPathStream$State;" ∈ wsG := wt_1 (i := 177) rfl rfl
theorem wl_1_178 : Cond.fieldLink RX5 23 "PathStream" "slots" "[LPathStream$State;" ∈ wsG := wt_1 (i := 178) rfl rfl
theorem wl_1_179 : Cond.fieldLink RX5 26 "PathStream" "slotHolds" "[Z" ∈ wsG := wt_1 (i := 179) rfl rfl
theorem wl_1_180 : Cond.fieldLink RX5 33 "PathStream" "matcher" "LPathStream$Matcher;" ∈ wsG := wt_1 (i := 180) rfl rfl
theorem wl_1_181 : Cond.fieldLink RX5 40 "PathStream" "reader" "LPathStream$TaskReader;" ∈ wsG := wt_1 (i := 181) rfl rfl
theorem wl_1_182 : Cond.fieldLink RX5 44 "PathStream" "text" "[C" ∈ wsG := wt_1 (i := 182) rfl rfl
theorem wl_1_183 : Cond.fieldLink RX5 48 "PathStream" "seenPaths" "[I" ∈ wsG := wt_1 (i := 183) rfl rfl
theorem wl_1_184 : Cond.fieldLink RX5 52 "PathStream" "seenCounts" "[I" ∈ wsG := wt_1 (i := 184) rfl rfl
theorem wl_1_185 : Cond.fieldLink RX5 55 "PathStream" "parts" "[I" ∈ wsG := wt_1 (i := 185) rfl rfl
theorem wl_1_186 : Cond.fieldLink RX5 58 "PathStream" "answerSets" "[I" ∈ wsG := wt_1 (i := 186) rfl rfl
theorem wl_1_187 : Cond.fieldLink RX5 61 "PathStream" "textLength" "I" ∈ wsG := wt_1 (i := 187) rfl rfl
theorem wl_1_188 : Cond.fieldLink RX5 101 "PathStream" "actions" "I" ∈ wsG := wt_1 (i := 188) rfl rfl
theorem wl_1_189 : Cond.fieldLink RX5 205 "PathStream" "nextAction" "I" ∈ wsG := wt_1 (i := 189) rfl rfl
theorem wl_1_190 : Cond.fieldLink RX5 104 "PathStream" "observations" "I" ∈ wsG := wt_1 (i := 190) rfl rfl
theorem wl_1_191 : Cond.fieldLink RX5 242 "PathStream" "random" "J" ∈ wsG := wt_1 (i := 191) rfl rfl
theorem wl_1_192 : u_lay RX5 TX5 0 ∈ wsG := wt_1 (i := 192) rfl rfl
theorem wl_1_194 : u_lay RX5 TX5 1 ∈ wsG := wt_1 (i := 194) rfl rfl
theorem wl_1_196 : u_lay RX5 TX5 2 ∈ wsG := wt_1 (i := 196) rfl rfl
theorem wl_1_198 : u_lay RX5 TX5 3 ∈ wsG := wt_1 (i := 198) rfl rfl
theorem wl_1_200 : u_lay RX5 TX5 4 ∈ wsG := wt_1 (i := 200) rfl rfl
theorem wl_1_202 : u_lay RX5 TX5 5 ∈ wsG := wt_1 (i := 202) rfl rfl
theorem wl_1_204 : u_lay RX5 TX5 6 ∈ wsG := wt_1 (i := 204) rfl rfl
theorem wl_1_206 : u_lay RX5 TX5 7 ∈ wsG := wt_1 (i := 206) rfl rfl
theorem wl_1_208 : u_lay RX5 TX5 8 ∈ wsG := wt_1 (i := 208) rfl rfl
theorem wl_1_210 : u_lay RX5 TX5 9 ∈ wsG := wt_1 (i := 210) rfl rfl
theorem wl_1_212 : u_lay RX5 TX5 10 ∈ wsG := wt_1 (i := 212) rfl rfl
theorem wl_1_214 : u_lay RX5 TX5 11 ∈ wsG := wt_1 (i := 214) rfl rfl
theorem wl_1_216 : u_lay RX5 TX5 12 ∈ wsG := wt_1 (i := 216) rfl rfl
theorem wl_1_218 : u_lay RX5 TX5 13 ∈ wsG := wt_1 (i := 218) rfl rfl
theorem wl_1_220 : u_lay RX5 TX5 14 ∈ wsG := wt_1 (i := 220) rfl rfl
theorem wl_1_222 : u_lay RX5 TX5 15 ∈ wsG := wt_1 (i := 222) rfl rfl
theorem wl_1_224 : u_lay RX5 TX5 16 ∈ wsG := wt_1 (i := 224) rfl rfl
theorem wl_1_227 : Cond.arrayClass .char ∈ wsG := wt_1 (i := 227) rfl rfl
theorem wl_1_228 : Cond.methodLink RL 13 yX5_write ∈ wsG := wt_1 (i := 228) rfl rfl
theorem wl_1_229 : Cond.instanceMethod yX5_write ∈ wsG := wt_1 (i := 229) rfl rfl
theorem wl_1_230 : Cond.selects RX5 yX5_write yX5_write ∈ wsG := wt_1 (i := 230) rfl rfl
theorem wl_1_231 : Cond.code yX5_write cX5_write 2 (some .int) ∈ wsG := wt_1 (i := 231) rfl rfl
theorem wl_1_232 : Cond.methodLink RL 18 yX5_wipe ∈ wsG := wt_1 (i := 232) rfl rfl
theorem wl_1_233 : Cond.instanceMethod yX5_wipe ∈ wsG := wt_1 (i := 233) rfl rfl
theorem wl_1_234 : Cond.selects RX5 yX5_wipe yX5_wipe ∈ wsG := wt_1 (i := 234) rfl rfl
theorem wl_1_235 : Cond.code yX5_wipe cX5_wipe 2 (some .int) ∈ wsG := wt_1 (i := 235) rfl rfl
theorem wl_1_236 : Cond.methodLink RL 23 yX5_fault ∈ wsG := wt_1 (i := 236) rfl rfl
theorem wl_1_237 : Cond.instanceMethod yX5_fault ∈ wsG := wt_1 (i := 237) rfl rfl
theorem wl_1_238 : Cond.selects RX5 yX5_fault yX5_fault ∈ wsG := wt_1 (i := 238) rfl rfl
theorem wl_1_239 : Cond.code yX5_fault cX5_fault 1 (some .int) ∈ wsG := wt_1 (i := 239) rfl rfl
theorem wl_2_0 : Cond.methodLink RX5 65 yX5_readTask ∈ wsG := wt_2 (i := 0) rfl rfl
theorem wl_2_2 : Cond.instanceMethod yX5_readTask ∈ wsG := wt_2 (i := 2) rfl rfl
theorem wl_2_3 : Cond.code yX5_readTask cX5_readTask 4 (some .int) ∈ wsG := wt_2 (i := 3) rfl rfl
theorem wl_2_4 : Cond.methodLink RX5 250 yX3_clear ∈ wsG := wt_2 (i := 4) rfl rfl
theorem wl_2_5 : Cond.instanceMethod yX3_clear ∈ wsG := wt_2 (i := 5) rfl rfl
theorem wl_2_6 : Cond.selects RX3 yX3_clear yX3_clear ∈ wsG := wt_2 (i := 6) rfl rfl
theorem wl_2_7 : Cond.code yX3_clear cX3_clear 1 none ∈ wsG := wt_2 (i := 7) rfl rfl
theorem wl_2_8 : Cond.methodLink RX3 25 yX0_clear ∈ wsG := wt_2 (i := 8) rfl rfl
theorem wl_2_9 : Cond.instanceMethod yX0_clear ∈ wsG := wt_2 (i := 9) rfl rfl
theorem wl_2_10 : Cond.selects RX0 yX0_clear yX0_clear ∈ wsG := wt_2 (i := 10) rfl rfl
theorem wl_2_11 : Cond.code yX0_clear cX0_clear 1 none ∈ wsG := wt_2 (i := 11) rfl rfl
theorem wl_2_12 : Cond.methodLink RX5 253 yX4_begin ∈ wsG := wt_2 (i := 12) rfl rfl
theorem wl_2_13 : Cond.instanceMethod yX4_begin ∈ wsG := wt_2 (i := 13) rfl rfl
theorem wl_2_14 : Cond.selects RX4 yX4_begin yX4_begin ∈ wsG := wt_2 (i := 14) rfl rfl
theorem wl_2_15 : Cond.code yX4_begin cX4_begin 1 none ∈ wsG := wt_2 (i := 15) rfl rfl
theorem wl_2_16 : Cond.methodLink RX5 256 yX4_takes ∈ wsG := wt_2 (i := 16) rfl rfl
theorem wl_2_17 : Cond.instanceMethod yX4_takes ∈ wsG := wt_2 (i := 17) rfl rfl
theorem wl_2_18 : Cond.selects RX4 yX4_takes yX4_takes ∈ wsG := wt_2 (i := 18) rfl rfl
theorem wl_2_19 : Cond.code yX4_takes cX4_takes 3 (some .boolean) ∈ wsG := wt_2 (i := 19) rfl rfl
theorem wl_2_20 : Cond.methodLink RX4 22 yX4_goesOn ∈ wsG := wt_2 (i := 20) rfl rfl
theorem wl_2_22 : Cond.instanceMethod yX4_goesOn ∈ wsG := wt_2 (i := 22) rfl rfl
theorem wl_2_23 : Cond.code yX4_goesOn cX4_goesOn 3 (some .boolean) ∈ wsG := wt_2 (i := 23) rfl rfl
theorem wl_2_24 : Cond.methodLink RX4 26 yX4_beginsPath ∈ wsG := wt_2 (i := 24) rfl rfl
theorem wl_2_26 : Cond.instanceMethod yX4_beginsPath ∈ wsG := wt_2 (i := 26) rfl rfl
theorem wl_2_27 : Cond.code yX4_beginsPath cX4_beginsPath 2 (some .boolean) ∈ wsG := wt_2 (i := 27) rfl rfl
theorem wl_2_28 : Cond.methodLink RX4 36 yX4_takesEvent ∈ wsG := wt_2 (i := 28) rfl rfl
theorem wl_2_30 : Cond.instanceMethod yX4_takesEvent ∈ wsG := wt_2 (i := 30) rfl rfl
theorem wl_2_31 : Cond.code yX4_takesEvent cX4_takesEvent 3 (some .boolean) ∈ wsG := wt_2 (i := 31) rfl rfl
theorem wl_2_32 : Cond.methodLink RX4 70 yX0_openRefusal ∈ wsG := wt_2 (i := 32) rfl rfl
theorem wl_2_33 : Cond.instanceMethod yX0_openRefusal ∈ wsG := wt_2 (i := 33) rfl rfl
theorem wl_2_34 : Cond.selects RX0 yX0_openRefusal yX0_openRefusal ∈ wsG := wt_2 (i := 34) rfl rfl
theorem wl_2_35 : Cond.code yX0_openRefusal cX0_openRefusal 2 (some .int) ∈ wsG := wt_2 (i := 35) rfl rfl
theorem wl_2_36 : Cond.methodLink RX0 46 yX0_currentDepth ∈ wsG := wt_2 (i := 36) rfl rfl
theorem wl_2_37 : Cond.instanceMethod yX0_currentDepth ∈ wsG := wt_2 (i := 37) rfl rfl
theorem wl_2_38 : Cond.selects RX0 yX0_currentDepth yX0_currentDepth ∈ wsG := wt_2 (i := 38) rfl rfl
theorem wl_2_39 : Cond.code yX0_currentDepth cX0_currentDepth 1 (some .int) ∈ wsG := wt_2 (i := 39) rfl rfl
theorem wl_2_40 : Cond.methodLink RX4 74 yX0_leave ∈ wsG := wt_2 (i := 40) rfl rfl
theorem wl_2_41 : Cond.instanceMethod yX0_leave ∈ wsG := wt_2 (i := 41) rfl rfl
theorem wl_2_42 : Cond.selects RX0 yX0_leave yX0_leave ∈ wsG := wt_2 (i := 42) rfl rfl
theorem wl_2_43 : Cond.code yX0_leave cX0_leave 1 (some .boolean) ∈ wsG := wt_2 (i := 43) rfl rfl
theorem wl_2_44 : Cond.methodLink RX4 78 yX4_figureOf ∈ wsG := wt_2 (i := 44) rfl rfl
theorem wl_2_45 : Cond.static yX4_figureOf ∈ wsG := wt_2 (i := 45) rfl rfl
theorem wl_2_46 : Cond.code yX4_figureOf cX4_figureOf 1 (some .int) ∈ wsG := wt_2 (i := 46) rfl rfl
theorem wl_2_47 : Cond.methodLink RX4 81 yX0_hold ∈ wsG := wt_2 (i := 47) rfl rfl
theorem wl_2_48 : Cond.instanceMethod yX0_hold ∈ wsG := wt_2 (i := 48) rfl rfl
theorem wl_2_49 : Cond.selects RX0 yX0_hold yX0_hold ∈ wsG := wt_2 (i := 49) rfl rfl
theorem wl_2_50 : Cond.code yX0_hold cX0_hold 2 (some .boolean) ∈ wsG := wt_2 (i := 50) rfl rfl
theorem wl_2_51 : Cond.methodLink RX4 40 yX4_takesAxis ∈ wsG := wt_2 (i := 51) rfl rfl
theorem wl_2_53 : Cond.instanceMethod yX4_takesAxis ∈ wsG := wt_2 (i := 53) rfl rfl
theorem wl_2_54 : Cond.code yX4_takesAxis cX4_takesAxis 3 (some .boolean) ∈ wsG := wt_2 (i := 54) rfl rfl
theorem wl_2_55 : Cond.methodLink RX4 44 yX4_takesTest ∈ wsG := wt_2 (i := 55) rfl rfl
theorem wl_2_57 : Cond.instanceMethod yX4_takesTest ∈ wsG := wt_2 (i := 57) rfl rfl
theorem wl_2_58 : Cond.code yX4_takesTest cX4_takesTest 3 (some .boolean) ∈ wsG := wt_2 (i := 58) rfl rfl
theorem wl_2_59 : Cond.methodLink RX4 57 yX4_nameOf ∈ wsG := wt_2 (i := 59) rfl rfl
theorem wl_2_60 : Cond.static yX4_nameOf ∈ wsG := wt_2 (i := 60) rfl rfl
theorem wl_2_61 : Cond.code yX4_nameOf cX4_nameOf 1 (some .int) ∈ wsG := wt_2 (i := 61) rfl rfl
theorem wl_2_62 : Cond.methodLink RX4 84 yX4_addsToStep ∈ wsG := wt_2 (i := 62) rfl rfl
theorem wl_2_64 : Cond.instanceMethod yX4_addsToStep ∈ wsG := wt_2 (i := 64) rfl rfl
theorem wl_2_65 : Cond.code yX4_addsToStep cX4_addsToStep 4 (some .boolean) ∈ wsG := wt_2 (i := 65) rfl rfl
theorem wl_2_66 : Cond.methodLink RX4 47 yX4_takesNextStep ∈ wsG := wt_2 (i := 66) rfl rfl
theorem wl_2_68 : Cond.instanceMethod yX4_takesNextStep ∈ wsG := wt_2 (i := 68) rfl rfl
theorem wl_2_69 : Cond.code yX4_takesNextStep cX4_takesNextStep 3 (some .boolean) ∈ wsG := wt_2 (i := 69) rfl rfl
theorem wl_2_70 : Cond.methodLink RX4 88 yX3_addPath ∈ wsG := wt_2 (i := 70) rfl rfl
theorem wl_2_71 : Cond.instanceMethod yX3_addPath ∈ wsG := wt_2 (i := 71) rfl rfl
theorem wl_2_72 : Cond.selects RX3 yX3_addPath yX3_addPath ∈ wsG := wt_2 (i := 72) rfl rfl
theorem wl_2_73 : Cond.code yX3_addPath cX3_addPath 3 none ∈ wsG := wt_2 (i := 73) rfl rfl
theorem wl_2_74 : Cond.methodLink RX3 39 yX2_begin ∈ wsG := wt_2 (i := 74) rfl rfl
theorem wl_2_75 : Cond.instanceMethod yX2_begin ∈ wsG := wt_2 (i := 75) rfl rfl
theorem wl_2_76 : Cond.selects RX2 yX2_begin yX2_begin ∈ wsG := wt_2 (i := 76) rfl rfl
theorem wl_2_77 : Cond.code yX2_begin cX2_begin 3 none ∈ wsG := wt_2 (i := 77) rfl rfl
theorem wl_2_78 : Cond.methodLink RX2 21 yJ9_min_7cf53 ∈ wsG := wt_2 (i := 78) rfl rfl
theorem wl_2_79 : Cond.static yJ9_min_7cf53 ∈ wsG := wt_2 (i := 79) rfl rfl
theorem wl_2_80 : Cond.code yJ9_min_7cf53 cJ9_min_7cf53 2 (some .int) ∈ wsG := wt_2 (i := 80) rfl rfl
theorem wl_2_81 : Cond.methodLink RX2 27 yJ9_max_7cf53 ∈ wsG := wt_2 (i := 81) rfl rfl
theorem wl_2_82 : Cond.static yJ9_max_7cf53 ∈ wsG := wt_2 (i := 82) rfl rfl
theorem wl_2_83 : Cond.code yJ9_max_7cf53 cJ9_max_7cf53 2 (some .int) ∈ wsG := wt_2 (i := 83) rfl rfl
theorem wl_2_84 : Cond.methodLink RX2 34 arraycopyName ∈ wsG := wt_2 (i := 84) rfl rfl
theorem wl_2_85 : Cond.static arraycopyName ∈ wsG := wt_2 (i := 85) rfl rfl
theorem wl_2_86 : Cond.native arraycopyName ∈ wsG := wt_2 (i := 86) rfl rfl
theorem wl_2_87 : Cond.methodLink RX4 51 yX4_takesChildName ∈ wsG := wt_2 (i := 87) rfl rfl
theorem wl_2_89 : Cond.instanceMethod yX4_takesChildName ∈ wsG := wt_2 (i := 89) rfl rfl
theorem wl_2_90 : Cond.code yX4_takesChildName cX4_takesChildName 3 (some .boolean) ∈ wsG := wt_2 (i := 90) rfl rfl
theorem wl_2_91 : Cond.methodLink RX4 54 yX4_takesFigure ∈ wsG := wt_2 (i := 91) rfl rfl
theorem wl_2_93 : Cond.instanceMethod yX4_takesFigure ∈ wsG := wt_2 (i := 93) rfl rfl
theorem wl_2_94 : Cond.code yX4_takesFigure cX4_takesFigure 3 (some .boolean) ∈ wsG := wt_2 (i := 94) rfl rfl
theorem wl_2_95 : Cond.methodLink RX4 61 yX0_enter ∈ wsG := wt_2 (i := 95) rfl rfl
theorem wl_2_96 : Cond.instanceMethod yX0_enter ∈ wsG := wt_2 (i := 96) rfl rfl
theorem wl_2_97 : Cond.selects RX0 yX0_enter yX0_enter ∈ wsG := wt_2 (i := 97) rfl rfl
theorem wl_2_98 : Cond.code yX0_enter cX0_enter 2 (some .boolean) ∈ wsG := wt_2 (i := 98) rfl rfl
theorem wl_2_99 : Cond.methodLink RX0 50 yX0_openRefusal ∈ wsG := wt_2 (i := 99) rfl rfl
theorem wl_2_100 : Cond.methodLink RX5 179 yX3_emitAll ∈ wsG := wt_2 (i := 100) rfl rfl
theorem wl_2_101 : Cond.instanceMethod yX3_emitAll ∈ wsG := wt_2 (i := 101) rfl rfl
theorem wl_2_102 : Cond.selects RX3 yX3_emitAll yX3_emitAll ∈ wsG := wt_2 (i := 102) rfl rfl
theorem wl_2_103 : Cond.code yX3_emitAll cX3_emitAll 4 (some .int) ∈ wsG := wt_2 (i := 103) rfl rfl
theorem wl_2_104 : Cond.methodLink RX3 43 yX3_emitOne ∈ wsG := wt_2 (i := 104) rfl rfl
theorem wl_2_105 : Cond.instanceMethod yX3_emitOne ∈ wsG := wt_2 (i := 105) rfl rfl
theorem wl_2_106 : Cond.selects RX3 yX3_emitOne yX3_emitOne ∈ wsG := wt_2 (i := 106) rfl rfl
theorem wl_2_107 : Cond.code yX3_emitOne cX3_emitOne 3 (some .int) ∈ wsG := wt_2 (i := 107) rfl rfl
theorem wl_2_108 : Cond.methodLink RX3 47 yX1_match ∈ wsG := wt_2 (i := 108) rfl rfl
theorem wl_2_109 : Cond.instanceMethod yX1_match ∈ wsG := wt_2 (i := 109) rfl rfl
theorem wl_2_110 : Cond.selects RX1 yX1_match yX1_match ∈ wsG := wt_2 (i := 110) rfl rfl
theorem wl_2_111 : Cond.code yX1_match cX1_match 4 none ∈ wsG := wt_2 (i := 111) rfl rfl
theorem wl_2_112 : Cond.methodLink RX1 39 yX1_lookAround ∈ wsG := wt_2 (i := 112) rfl rfl
theorem wl_2_114 : Cond.instanceMethod yX1_lookAround ∈ wsG := wt_2 (i := 114) rfl rfl
theorem wl_2_115 : Cond.code yX1_lookAround cX1_lookAround 4 none ∈ wsG := wt_2 (i := 115) rfl rfl
theorem wl_2_116 : Cond.methodLink RX1 43 yX1_matchElement ∈ wsG := wt_2 (i := 116) rfl rfl
theorem wl_2_118 : Cond.instanceMethod yX1_matchElement ∈ wsG := wt_2 (i := 118) rfl rfl
theorem wl_2_119 : Cond.code yX1_matchElement cX1_matchElement 20 none ∈ wsG := wt_2 (i := 119) rfl rfl
theorem wl_2_120 : Cond.methodLink RX1 58 yX0_fulfilled ∈ wsG := wt_2 (i := 120) rfl rfl
theorem wl_2_121 : Cond.instanceMethod yX0_fulfilled ∈ wsG := wt_2 (i := 121) rfl rfl
theorem wl_2_122 : Cond.selects RX0 yX0_fulfilled yX0_fulfilled ∈ wsG := wt_2 (i := 122) rfl rfl
theorem wl_2_123 : Cond.code yX0_fulfilled cX0_fulfilled 2 (some .int) ∈ wsG := wt_2 (i := 123) rfl rfl
theorem wl_2_124 : Cond.methodLink RX1 68 yX1_hasPrefix ∈ wsG := wt_2 (i := 124) rfl rfl
theorem wl_2_125 : Cond.static yX1_hasPrefix ∈ wsG := wt_2 (i := 125) rfl rfl
theorem wl_2_126 : Cond.code yX1_hasPrefix cX1_hasPrefix 2 (some .boolean) ∈ wsG := wt_2 (i := 126) rfl rfl
theorem wl_2_127 : Cond.methodLink RX1 52 yX1_note ∈ wsG := wt_2 (i := 127) rfl rfl
theorem wl_2_129 : Cond.instanceMethod yX1_note ∈ wsG := wt_2 (i := 129) rfl rfl
theorem wl_2_130 : Cond.code yX1_note cX1_note 3 none ∈ wsG := wt_2 (i := 130) rfl rfl
theorem wl_2_131 : Cond.methodLink RX3 56 yX2_emit ∈ wsG := wt_2 (i := 131) rfl rfl
theorem wl_2_132 : Cond.instanceMethod yX2_emit ∈ wsG := wt_2 (i := 132) rfl rfl
theorem wl_2_133 : Cond.selects RX2 yX2_emit yX2_emit ∈ wsG := wt_2 (i := 133) rfl rfl
theorem wl_2_134 : Cond.code yX2_emit cX2_emit 7 (some .int) ∈ wsG := wt_2 (i := 134) rfl rfl
theorem wl_2_135 : Cond.methodLink RX2 63 yX2_bufferSize ∈ wsG := wt_2 (i := 135) rfl rfl
theorem wl_2_136 : Cond.instanceMethod yX2_bufferSize ∈ wsG := wt_2 (i := 136) rfl rfl
theorem wl_2_137 : Cond.selects RX2 yX2_bufferSize yX2_bufferSize ∈ wsG := wt_2 (i := 137) rfl rfl
theorem wl_2_138 : Cond.code yX2_bufferSize cX2_bufferSize 2 (some .int) ∈ wsG := wt_2 (i := 138) rfl rfl
theorem wl_2_139 : Cond.methodLink RX2 57 yJ6_bitCount_0f7a4 ∈ wsG := wt_2 (i := 139) rfl rfl
theorem wl_2_140 : Cond.static yJ6_bitCount_0f7a4 ∈ wsG := wt_2 (i := 140) rfl rfl
theorem wl_2_141 : Cond.code yJ6_bitCount_0f7a4 cJ6_bitCount_0f7a4 1 (some .int) ∈ wsG := wt_2 (i := 141) rfl rfl
theorem wl_2_142 : Cond.constant RJ6 265 (1431655765) ∈ wsG := wt_2 (i := 142) rfl rfl
theorem wl_2_143 : Cond.constant RJ6 266 (858993459) ∈ wsG := wt_2 (i := 143) rfl rfl
theorem wl_2_144 : Cond.constant RJ6 267 (252645135) ∈ wsG := wt_2 (i := 144) rfl rfl
theorem wl_2_145 : Cond.methodLink RX5 260 yX4_mayEnd ∈ wsG := wt_2 (i := 145) rfl rfl
theorem wl_2_146 : Cond.instanceMethod yX4_mayEnd ∈ wsG := wt_2 (i := 146) rfl rfl
theorem wl_2_147 : Cond.selects RX4 yX4_mayEnd yX4_mayEnd ∈ wsG := wt_2 (i := 147) rfl rfl
theorem wl_2_148 : Cond.code yX4_mayEnd cX4_mayEnd 1 (some .boolean) ∈ wsG := wt_2 (i := 148) rfl rfl
theorem wl_2_149 : Cond.methodLink RL 27 yX5_task ∈ wsG := wt_2 (i := 149) rfl rfl
theorem wl_2_150 : Cond.instanceMethod yX5_task ∈ wsG := wt_2 (i := 150) rfl rfl
theorem wl_2_151 : Cond.selects RX5 yX5_task yX5_task ∈ wsG := wt_2 (i := 151) rfl rfl
theorem wl_2_152 : Cond.code yX5_task cX5_task 2 (some .int) ∈ wsG := wt_2 (i := 152) rfl rfl
theorem wl_2_153 : Cond.methodLink RX5 69 yX3_copyFrom ∈ wsG := wt_2 (i := 153) rfl rfl
theorem wl_2_154 : Cond.instanceMethod yX3_copyFrom ∈ wsG := wt_2 (i := 154) rfl rfl
theorem wl_2_155 : Cond.selects RX3 yX3_copyFrom yX3_copyFrom ∈ wsG := wt_2 (i := 155) rfl rfl
theorem wl_2_156 : Cond.code yX3_copyFrom cX3_copyFrom 3 none ∈ wsG := wt_2 (i := 156) rfl rfl
theorem wl_2_157 : Cond.methodLink RX3 32 yX0_copyFrom ∈ wsG := wt_2 (i := 157) rfl rfl
theorem wl_2_158 : Cond.instanceMethod yX0_copyFrom ∈ wsG := wt_2 (i := 158) rfl rfl
theorem wl_2_159 : Cond.selects RX0 yX0_copyFrom yX0_copyFrom ∈ wsG := wt_2 (i := 159) rfl rfl
theorem wl_2_160 : Cond.code yX0_copyFrom cX0_copyFrom 2 none ∈ wsG := wt_2 (i := 160) rfl rfl
theorem wl_2_161 : Cond.methodLink RX0 40 arraycopyName ∈ wsG := wt_2 (i := 161) rfl rfl
theorem wl_2_162 : Cond.methodLink RX3 36 yX2_copyFrom ∈ wsG := wt_2 (i := 162) rfl rfl
theorem wl_2_163 : Cond.instanceMethod yX2_copyFrom ∈ wsG := wt_2 (i := 163) rfl rfl
theorem wl_2_164 : Cond.selects RX2 yX2_copyFrom yX2_copyFrom ∈ wsG := wt_2 (i := 164) rfl rfl
theorem wl_2_165 : Cond.code yX2_copyFrom cX2_copyFrom 2 none ∈ wsG := wt_2 (i := 165) rfl rfl
theorem wl_2_166 : Cond.methodLink RX5 73 yX5_forgetActions ∈ wsG := wt_2 (i := 166) rfl rfl
theorem wl_2_168 : Cond.instanceMethod yX5_forgetActions ∈ wsG := wt_2 (i := 168) rfl rfl
theorem wl_2_169 : Cond.code yX5_forgetActions cX5_forgetActions 1 none ∈ wsG := wt_2 (i := 169) rfl rfl
theorem wl_2_170 : Cond.methodLink RL 31 yX5_about ∈ wsG := wt_2 (i := 170) rfl rfl
theorem wl_2_171 : Cond.instanceMethod yX5_about ∈ wsG := wt_2 (i := 171) rfl rfl
theorem wl_2_172 : Cond.selects RX5 yX5_about yX5_about ∈ wsG := wt_2 (i := 172) rfl rfl
theorem wl_2_173 : Cond.code yX5_about cX5_about 2 (some .int) ∈ wsG := wt_2 (i := 173) rfl rfl
theorem wl_2_174 : Cond.methodLink RX5 91 yX0_currentDepth ∈ wsG := wt_2 (i := 174) rfl rfl
theorem wl_2_175 : Cond.methodLink RX5 98 yX3_differentPrefixes ∈ wsG := wt_2 (i := 175) rfl rfl
theorem wl_2_176 : Cond.instanceMethod yX3_differentPrefixes ∈ wsG := wt_2 (i := 176) rfl rfl
theorem wl_2_177 : Cond.selects RX3 yX3_differentPrefixes yX3_differentPrefixes ∈ wsG := wt_2 (i := 177) rfl rfl
theorem wl_2_178 : Cond.code yX3_differentPrefixes cX3_differentPrefixes 4 (some .int) ∈ wsG := wt_2 (i := 178) rfl rfl
theorem wl_2_179 : Cond.methodLink RX3 63 yX3_earlierBeginsLike ∈ wsG := wt_2 (i := 179) rfl rfl
theorem wl_2_181 : Cond.instanceMethod yX3_earlierBeginsLike ∈ wsG := wt_2 (i := 181) rfl rfl
theorem wl_2_182 : Cond.code yX3_earlierBeginsLike cX3_earlierBeginsLike 4 (some .boolean) ∈ wsG := wt_2 (i := 182) rfl rfl
theorem wl_2_183 : Cond.methodLink RX3 67 yX2_beginsLike ∈ wsG := wt_2 (i := 183) rfl rfl
theorem wl_2_184 : Cond.instanceMethod yX2_beginsLike ∈ wsG := wt_2 (i := 184) rfl rfl
theorem wl_2_185 : Cond.selects RX2 yX2_beginsLike yX2_beginsLike ∈ wsG := wt_2 (i := 185) rfl rfl
theorem wl_2_186 : Cond.code yX2_beginsLike cX2_beginsLike 4 (some .boolean) ∈ wsG := wt_2 (i := 186) rfl rfl
theorem wl_2_187 : Cond.methodLink RL 35 yX5_element ∈ wsG := wt_2 (i := 187) rfl rfl
theorem wl_2_188 : Cond.instanceMethod yX5_element ∈ wsG := wt_2 (i := 188) rfl rfl
theorem wl_2_189 : Cond.selects RX5 yX5_element yX5_element ∈ wsG := wt_2 (i := 189) rfl rfl
theorem wl_2_190 : Cond.code yX5_element cX5_element 4 (some .int) ∈ wsG := wt_2 (i := 190) rfl rfl
theorem wl_2_191 : Cond.methodLink RX5 107 yX5_isElement ∈ wsG := wt_2 (i := 191) rfl rfl
theorem wl_2_193 : Cond.instanceMethod yX5_isElement ∈ wsG := wt_2 (i := 193) rfl rfl
theorem wl_2_194 : Cond.code yX5_isElement cX5_isElement 2 (some .boolean) ∈ wsG := wt_2 (i := 194) rfl rfl
theorem wl_2_195 : Cond.methodLink RL 40 yX5_path ∈ wsG := wt_2 (i := 195) rfl rfl
theorem wl_2_196 : Cond.instanceMethod yX5_path ∈ wsG := wt_2 (i := 196) rfl rfl
theorem wl_2_197 : Cond.selects RX5 yX5_path yX5_path ∈ wsG := wt_2 (i := 197) rfl rfl
theorem wl_2_198 : Cond.code yX5_path cX5_path 3 (some .int) ∈ wsG := wt_2 (i := 198) rfl rfl
theorem wl_2_199 : Cond.methodLink RX5 129 yX5_isPath ∈ wsG := wt_2 (i := 199) rfl rfl
theorem wl_2_201 : Cond.instanceMethod yX5_isPath ∈ wsG := wt_2 (i := 201) rfl rfl
theorem wl_2_202 : Cond.code yX5_isPath cX5_isPath 2 (some .boolean) ∈ wsG := wt_2 (i := 202) rfl rfl
theorem wl_2_203 : Cond.methodLink RX5 132 yX5_pathNumber ∈ wsG := wt_2 (i := 203) rfl rfl
theorem wl_2_205 : Cond.instanceMethod yX5_pathNumber ∈ wsG := wt_2 (i := 205) rfl rfl
theorem wl_2_206 : Cond.code yX5_pathNumber cX5_pathNumber 5 (some .int) ∈ wsG := wt_2 (i := 206) rfl rfl
theorem wl_2_207 : Cond.methodLink RX5 148 yX1_match ∈ wsG := wt_2 (i := 207) rfl rfl
theorem wl_2_208 : Cond.methodLink RX5 263 yX2_bufferSize ∈ wsG := wt_2 (i := 208) rfl rfl
theorem wl_2_209 : Cond.methodLink RX5 237 yJ6_bitCount_0f7a4 ∈ wsG := wt_2 (i := 209) rfl rfl
theorem wl_2_210 : Cond.methodLink RL 44 yX5_step ∈ wsG := wt_2 (i := 210) rfl rfl
theorem wl_2_211 : Cond.instanceMethod yX5_step ∈ wsG := wt_2 (i := 211) rfl rfl
theorem wl_2_212 : Cond.selects RX5 yX5_step yX5_step ∈ wsG := wt_2 (i := 212) rfl rfl
theorem wl_2_213 : Cond.code yX5_step cX5_step 3 (some .int) ∈ wsG := wt_2 (i := 213) rfl rfl
theorem wl_2_214 : Cond.methodLink RL 48 yX5_is ∈ wsG := wt_2 (i := 214) rfl rfl
theorem wl_2_215 : Cond.instanceMethod yX5_is ∈ wsG := wt_2 (i := 215) rfl rfl
theorem wl_2_216 : Cond.selects RX5 yX5_is yX5_is ∈ wsG := wt_2 (i := 216) rfl rfl
theorem wl_2_217 : Cond.code yX5_is cX5_is 3 (some .int) ∈ wsG := wt_2 (i := 217) rfl rfl
theorem wl_2_218 : Cond.methodLink RL 52 yX5_ends ∈ wsG := wt_2 (i := 218) rfl rfl
theorem wl_2_219 : Cond.instanceMethod yX5_ends ∈ wsG := wt_2 (i := 219) rfl rfl
theorem wl_2_220 : Cond.selects RX5 yX5_ends yX5_ends ∈ wsG := wt_2 (i := 220) rfl rfl
theorem wl_2_221 : Cond.code yX5_ends cX5_ends 3 (some .int) ∈ wsG := wt_2 (i := 221) rfl rfl
theorem wl_2_222 : Cond.methodLink RL 56 yX5_out ∈ wsG := wt_2 (i := 222) rfl rfl
theorem wl_2_223 : Cond.instanceMethod yX5_out ∈ wsG := wt_2 (i := 223) rfl rfl
theorem wl_2_224 : Cond.selects RX5 yX5_out yX5_out ∈ wsG := wt_2 (i := 224) rfl rfl
theorem wl_2_225 : Cond.code yX5_out cX5_out 5 (some .int) ∈ wsG := wt_2 (i := 225) rfl rfl
theorem wl_2_226 : Cond.methodLink RL 61 yX5_open ∈ wsG := wt_2 (i := 226) rfl rfl
theorem wl_2_227 : Cond.instanceMethod yX5_open ∈ wsG := wt_2 (i := 227) rfl rfl
theorem wl_2_228 : Cond.selects RX5 yX5_open yX5_open ∈ wsG := wt_2 (i := 228) rfl rfl
theorem wl_2_229 : Cond.code yX5_open cX5_open 3 (some .int) ∈ wsG := wt_2 (i := 229) rfl rfl
theorem wl_2_230 : Cond.methodLink RX5 170 yX0_openRefusal ∈ wsG := wt_2 (i := 230) rfl rfl
theorem wl_2_231 : Cond.methodLink RX5 173 yX5_recordAction ∈ wsG := wt_2 (i := 231) rfl rfl
theorem wl_2_233 : Cond.instanceMethod yX5_recordAction ∈ wsG := wt_2 (i := 233) rfl rfl
theorem wl_2_234 : Cond.code yX5_recordAction cX5_recordAction 1 none ∈ wsG := wt_2 (i := 234) rfl rfl
theorem wl_2_235 : Cond.methodLink RX5 176 yX0_enter ∈ wsG := wt_2 (i := 235) rfl rfl
theorem wl_2_236 : Cond.methodLink RL 65 yX5_close ∈ wsG := wt_2 (i := 236) rfl rfl
theorem wl_2_237 : Cond.instanceMethod yX5_close ∈ wsG := wt_2 (i := 237) rfl rfl
theorem wl_2_238 : Cond.selects RX5 yX5_close yX5_close ∈ wsG := wt_2 (i := 238) rfl rfl
theorem wl_2_239 : Cond.code yX5_close cX5_close 1 (some .int) ∈ wsG := wt_2 (i := 239) rfl rfl
theorem wl_3_0 : Cond.methodLink RX5 183 yX0_leave ∈ wsG := wt_3 (i := 0) rfl rfl
theorem wl_3_1 : Cond.methodLink RL 69 yX5_tell ∈ wsG := wt_3 (i := 1) rfl rfl
theorem wl_3_2 : Cond.instanceMethod yX5_tell ∈ wsG := wt_3 (i := 2) rfl rfl
theorem wl_3_3 : Cond.selects RX5 yX5_tell yX5_tell ∈ wsG := wt_3 (i := 3) rfl rfl
theorem wl_3_4 : Cond.code yX5_tell cX5_tell 2 (some .int) ∈ wsG := wt_3 (i := 4) rfl rfl
theorem wl_3_5 : Cond.methodLink RX5 187 yX0_hold ∈ wsG := wt_3 (i := 5) rfl rfl
theorem wl_3_6 : Cond.methodLink RL 75 yX5_ask ∈ wsG := wt_3 (i := 6) rfl rfl
theorem wl_3_7 : Cond.instanceMethod yX5_ask ∈ wsG := wt_3 (i := 7) rfl rfl
theorem wl_3_8 : Cond.selects RX5 yX5_ask yX5_ask ∈ wsG := wt_3 (i := 8) rfl rfl
theorem wl_3_9 : Cond.code yX5_ask cX5_ask 5 (some .int) ∈ wsG := wt_3 (i := 9) rfl rfl
theorem wl_3_10 : Cond.methodLink RX5 190 yX5_splits ∈ wsG := wt_3 (i := 10) rfl rfl
theorem wl_3_12 : Cond.instanceMethod yX5_splits ∈ wsG := wt_3 (i := 12) rfl rfl
theorem wl_3_13 : Cond.code yX5_splits cX5_splits 8 (some .boolean) ∈ wsG := wt_3 (i := 13) rfl rfl
theorem wl_3_14 : Cond.methodLink RX5 194 yX5_partsAreSteps ∈ wsG := wt_3 (i := 14) rfl rfl
theorem wl_3_16 : Cond.instanceMethod yX5_partsAreSteps ∈ wsG := wt_3 (i := 16) rfl rfl
theorem wl_3_17 : Cond.code yX5_partsAreSteps cX5_partsAreSteps 6 (some .boolean) ∈ wsG := wt_3 (i := 17) rfl rfl
theorem wl_3_18 : Cond.methodLink RX5 197 yX3_addPath ∈ wsG := wt_3 (i := 18) rfl rfl
theorem wl_3_19 : Cond.methodLink RX5 201 yX3_emitOne ∈ wsG := wt_3 (i := 19) rfl rfl
theorem wl_3_20 : Cond.methodLink RL 80 yX5_drop ∈ wsG := wt_3 (i := 20) rfl rfl
theorem wl_3_21 : Cond.instanceMethod yX5_drop ∈ wsG := wt_3 (i := 21) rfl rfl
theorem wl_3_22 : Cond.selects RX5 yX5_drop yX5_drop ∈ wsG := wt_3 (i := 22) rfl rfl
theorem wl_3_23 : Cond.code yX5_drop cX5_drop 1 (some .int) ∈ wsG := wt_3 (i := 23) rfl rfl
theorem wl_3_24 : Cond.methodLink RL 84 yX5_undo ∈ wsG := wt_3 (i := 24) rfl rfl
theorem wl_3_25 : Cond.instanceMethod yX5_undo ∈ wsG := wt_3 (i := 25) rfl rfl
theorem wl_3_26 : Cond.selects RX5 yX5_undo yX5_undo ∈ wsG := wt_3 (i := 26) rfl rfl
theorem wl_3_27 : Cond.code yX5_undo cX5_undo 1 (some .int) ∈ wsG := wt_3 (i := 27) rfl rfl
theorem wl_3_28 : Cond.methodLink RL 88 yX5_within ∈ wsG := wt_3 (i := 28) rfl rfl
theorem wl_3_29 : Cond.instanceMethod yX5_within ∈ wsG := wt_3 (i := 29) rfl rfl
theorem wl_3_30 : Cond.selects RX5 yX5_within yX5_within ∈ wsG := wt_3 (i := 30) rfl rfl
theorem wl_3_31 : Cond.code yX5_within cX5_within 5 (some .int) ∈ wsG := wt_3 (i := 31) rfl rfl
theorem wl_3_32 : Cond.methodLink RX5 208 yX5_answersOf ∈ wsG := wt_3 (i := 32) rfl rfl
theorem wl_3_34 : Cond.instanceMethod yX5_answersOf ∈ wsG := wt_3 (i := 34) rfl rfl
theorem wl_3_35 : Cond.code yX5_answersOf cX5_answersOf 3 (some .int) ∈ wsG := wt_3 (i := 35) rfl rfl
theorem wl_3_36 : Cond.methodLink RL 92 yX5_judge ∈ wsG := wt_3 (i := 36) rfl rfl
theorem wl_3_37 : Cond.instanceMethod yX5_judge ∈ wsG := wt_3 (i := 37) rfl rfl
theorem wl_3_38 : Cond.selects RX5 yX5_judge yX5_judge ∈ wsG := wt_3 (i := 38) rfl rfl
theorem wl_3_39 : Cond.code yX5_judge cX5_judge 5 (some .int) ∈ wsG := wt_3 (i := 39) rfl rfl
theorem wl_3_40 : Cond.methodLink RX5 212 yX5_comesTrue ∈ wsG := wt_3 (i := 40) rfl rfl
theorem wl_3_42 : Cond.instanceMethod yX5_comesTrue ∈ wsG := wt_3 (i := 42) rfl rfl
theorem wl_3_43 : Cond.code yX5_comesTrue cX5_comesTrue 4 (some .boolean) ∈ wsG := wt_3 (i := 43) rfl rfl
theorem wl_3_44 : Cond.methodLink RX5 269 yX5_emitsAfter ∈ wsG := wt_3 (i := 44) rfl rfl
theorem wl_3_46 : Cond.instanceMethod yX5_emitsAfter ∈ wsG := wt_3 (i := 46) rfl rfl
theorem wl_3_47 : Cond.code yX5_emitsAfter cX5_emitsAfter 2 (some .boolean) ∈ wsG := wt_3 (i := 47) rfl rfl
theorem wl_3_48 : Cond.methodLink RL 96 yX5_see ∈ wsG := wt_3 (i := 48) rfl rfl
theorem wl_3_49 : Cond.instanceMethod yX5_see ∈ wsG := wt_3 (i := 49) rfl rfl
theorem wl_3_50 : Cond.selects RX5 yX5_see yX5_see ∈ wsG := wt_3 (i := 50) rfl rfl
theorem wl_3_51 : Cond.code yX5_see cX5_see 3 (some .int) ∈ wsG := wt_3 (i := 51) rfl rfl
theorem wl_3_52 : Cond.methodLink RL 100 yX5_unsee ∈ wsG := wt_3 (i := 52) rfl rfl
theorem wl_3_53 : Cond.instanceMethod yX5_unsee ∈ wsG := wt_3 (i := 53) rfl rfl
theorem wl_3_54 : Cond.selects RX5 yX5_unsee yX5_unsee ∈ wsG := wt_3 (i := 54) rfl rfl
theorem wl_3_55 : Cond.code yX5_unsee cX5_unsee 2 (some .int) ∈ wsG := wt_3 (i := 55) rfl rfl
theorem wl_3_56 : Cond.methodLink RL 104 yX5_which ∈ wsG := wt_3 (i := 56) rfl rfl
theorem wl_3_57 : Cond.instanceMethod yX5_which ∈ wsG := wt_3 (i := 57) rfl rfl
theorem wl_3_58 : Cond.selects RX5 yX5_which yX5_which ∈ wsG := wt_3 (i := 58) rfl rfl
theorem wl_3_59 : Cond.code yX5_which cX5_which 3 (some .int) ∈ wsG := wt_3 (i := 59) rfl rfl
theorem wl_3_60 : Cond.methodLink RX5 216 yX5_agreesWithAll ∈ wsG := wt_3 (i := 60) rfl rfl
theorem wl_3_62 : Cond.instanceMethod yX5_agreesWithAll ∈ wsG := wt_3 (i := 62) rfl rfl
theorem wl_3_63 : Cond.code yX5_agreesWithAll cX5_agreesWithAll 4 (some .boolean) ∈ wsG := wt_3 (i := 63) rfl rfl
theorem wl_3_64 : Cond.methodLink RX5 273 yX5_answersWithLastTest ∈ wsG := wt_3 (i := 64) rfl rfl
theorem wl_3_66 : Cond.instanceMethod yX5_answersWithLastTest ∈ wsG := wt_3 (i := 66) rfl rfl
theorem wl_3_67 : Cond.code yX5_answersWithLastTest cX5_answersWithLastTest 4 (some .int) ∈ wsG := wt_3 (i := 67) rfl rfl
theorem wl_3_68 : Cond.methodLink RX5 276 yX2_copyFrom ∈ wsG := wt_3 (i := 68) rfl rfl
theorem wl_3_69 : Cond.methodLink RX5 279 yX2_setLastTest ∈ wsG := wt_3 (i := 69) rfl rfl
theorem wl_3_70 : Cond.instanceMethod yX2_setLastTest ∈ wsG := wt_3 (i := 70) rfl rfl
theorem wl_3_71 : Cond.selects RX2 yX2_setLastTest yX2_setLastTest ∈ wsG := wt_3 (i := 71) rfl rfl
theorem wl_3_72 : Cond.code yX2_setLastTest cX2_setLastTest 3 none ∈ wsG := wt_3 (i := 72) rfl rfl
theorem wl_3_73 : Cond.methodLink RL 108 yX5_share ∈ wsG := wt_3 (i := 73) rfl rfl
theorem wl_3_74 : Cond.instanceMethod yX5_share ∈ wsG := wt_3 (i := 74) rfl rfl
theorem wl_3_75 : Cond.selects RX5 yX5_share yX5_share ∈ wsG := wt_3 (i := 75) rfl rfl
theorem wl_3_76 : Cond.code yX5_share cX5_share 6 (some .int) ∈ wsG := wt_3 (i := 76) rfl rfl
theorem wl_3_77 : Cond.methodLink RX5 219 yX5_findAnswerSets ∈ wsG := wt_3 (i := 77) rfl rfl
theorem wl_3_79 : Cond.instanceMethod yX5_findAnswerSets ∈ wsG := wt_3 (i := 79) rfl rfl
theorem wl_3_80 : Cond.code yX5_findAnswerSets cX5_findAnswerSets 2 none ∈ wsG := wt_3 (i := 80) rfl rfl
theorem wl_3_81 : Cond.methodLink RX5 222 yX5_pathsAnswering ∈ wsG := wt_3 (i := 81) rfl rfl
theorem wl_3_83 : Cond.instanceMethod yX5_pathsAnswering ∈ wsG := wt_3 (i := 83) rfl rfl
theorem wl_3_84 : Cond.code yX5_pathsAnswering cX5_pathsAnswering 4 (some .int) ∈ wsG := wt_3 (i := 84) rfl rfl
theorem wl_3_85 : Cond.methodLink RX5 226 yX5_inLowestTerms ∈ wsG := wt_3 (i := 85) rfl rfl
theorem wl_3_86 : Cond.static yX5_inLowestTerms ∈ wsG := wt_3 (i := 86) rfl rfl
theorem wl_3_87 : Cond.code yX5_inLowestTerms cX5_inLowestTerms 5 (some .int) ∈ wsG := wt_3 (i := 87) rfl rfl
theorem wl_3_88 : Cond.methodLink RX5 283 yX5_greatestDivisor ∈ wsG := wt_3 (i := 88) rfl rfl
theorem wl_3_89 : Cond.static yX5_greatestDivisor ∈ wsG := wt_3 (i := 89) rfl rfl
theorem wl_3_90 : Cond.code yX5_greatestDivisor cX5_greatestDivisor 6 (some .int) ∈ wsG := wt_3 (i := 90) rfl rfl
theorem wl_3_91 : Cond.methodLink RL 113 yX5_chance ∈ wsG := wt_3 (i := 91) rfl rfl
theorem wl_3_92 : Cond.instanceMethod yX5_chance ∈ wsG := wt_3 (i := 92) rfl rfl
theorem wl_3_93 : Cond.selects RX5 yX5_chance yX5_chance ∈ wsG := wt_3 (i := 93) rfl rfl
theorem wl_3_94 : Cond.code yX5_chance cX5_chance 8 (some .int) ∈ wsG := wt_3 (i := 94) rfl rfl
theorem wl_3_95 : Cond.methodLink RX5 230 yX5_weightOf ∈ wsG := wt_3 (i := 95) rfl rfl
theorem wl_3_97 : Cond.instanceMethod yX5_weightOf ∈ wsG := wt_3 (i := 97) rfl rfl
theorem wl_3_98 : Cond.code yX5_weightOf cX5_weightOf 5 (some .int) ∈ wsG := wt_3 (i := 98) rfl rfl
theorem wl_3_99 : Cond.methodLink RX5 234 yX5_answersOfAny ∈ wsG := wt_3 (i := 99) rfl rfl
theorem wl_3_101 : Cond.instanceMethod yX5_answersOfAny ∈ wsG := wt_3 (i := 101) rfl rfl
theorem wl_3_102 : Cond.code yX5_answersOfAny cX5_answersOfAny 4 (some .int) ∈ wsG := wt_3 (i := 102) rfl rfl
theorem wl_3_103 : Cond.methodLink RL 117 yX5_seed ∈ wsG := wt_3 (i := 103) rfl rfl
theorem wl_3_104 : Cond.instanceMethod yX5_seed ∈ wsG := wt_3 (i := 104) rfl rfl
theorem wl_3_105 : Cond.selects RX5 yX5_seed yX5_seed ∈ wsG := wt_3 (i := 105) rfl rfl
theorem wl_3_106 : Cond.code yX5_seed cX5_seed 5 (some .long) ∈ wsG := wt_3 (i := 106) rfl rfl
theorem wl_3_107 : Cond.methodLink RL 122 yX5_drawn ∈ wsG := wt_3 (i := 107) rfl rfl
theorem wl_3_108 : Cond.instanceMethod yX5_drawn ∈ wsG := wt_3 (i := 108) rfl rfl
theorem wl_3_109 : Cond.selects RX5 yX5_drawn yX5_drawn ∈ wsG := wt_3 (i := 109) rfl rfl
theorem wl_3_110 : Cond.code yX5_drawn cX5_drawn 4 (some .int) ∈ wsG := wt_3 (i := 110) rfl rfl
theorem wl_3_111 : Cond.methodLink RX5 246 yX5_drawEvent ∈ wsG := wt_3 (i := 111) rfl rfl
theorem wl_3_113 : Cond.instanceMethod yX5_drawEvent ∈ wsG := wt_3 (i := 113) rfl rfl
theorem wl_3_114 : Cond.code yX5_drawEvent cX5_drawEvent 4 none ∈ wsG := wt_3 (i := 114) rfl rfl
theorem wl_3_115 : Cond.constantLong RX5 286 (6364136223846793005) ∈ wsG := wt_3 (i := 115) rfl rfl
theorem wl_3_116 : Cond.constantLong RX5 288 (1442695040888963407) ∈ wsG := wt_3 (i := 116) rfl rfl
theorem wl_3_117 : Cond.methodLink RL 126 yX5_keep ∈ wsG := wt_3 (i := 117) rfl rfl
theorem wl_3_118 : Cond.instanceMethod yX5_keep ∈ wsG := wt_3 (i := 118) rfl rfl
theorem wl_3_119 : Cond.selects RX5 yX5_keep yX5_keep ∈ wsG := wt_3 (i := 119) rfl rfl
theorem wl_3_120 : Cond.code yX5_keep cX5_keep 2 (some .int) ∈ wsG := wt_3 (i := 120) rfl rfl
theorem wl_3_121 : Cond.methodLink RL 130 yX5_again ∈ wsG := wt_3 (i := 121) rfl rfl
theorem wl_3_122 : Cond.instanceMethod yX5_again ∈ wsG := wt_3 (i := 122) rfl rfl
theorem wl_3_123 : Cond.selects RX5 yX5_again yX5_again ∈ wsG := wt_3 (i := 123) rfl rfl
theorem wl_3_124 : Cond.code yX5_again cX5_again 2 (some .int) ∈ wsG := wt_3 (i := 124) rfl rfl
theorem wl_3_125 : Cond.classLink RL 10 RX6 ∈ wsG := wt_3 (i := 125) rfl rfl
theorem wl_3_126 : Cond.instantiable RX6 26 ∈ wsG := wt_3 (i := 126) rfl rfl
theorem wl_3_127 : Cond.methodLink RL 12 yX6_init ∈ wsG := wt_3 (i := 127) rfl rfl
theorem wl_3_128 : Cond.instanceMethod yX6_init ∈ wsG := wt_3 (i := 128) rfl rfl
theorem wl_3_129 : Cond.code yX6_init cX6_init 1 none ∈ wsG := wt_3 (i := 129) rfl rfl
theorem wl_3_130 : Cond.methodLink RX6 1 objectInit ∈ wsG := wt_3 (i := 130) rfl rfl
theorem wl_3_131 : Cond.methodLink RX6 60 yX6_clear ∈ wsG := wt_3 (i := 131) rfl rfl
theorem wl_3_132 : Cond.static yX6_clear ∈ wsG := wt_3 (i := 132) rfl rfl
theorem wl_3_133 : Cond.code yX6_clear cX6_clear 2 none ∈ wsG := wt_3 (i := 133) rfl rfl
theorem wl_3_134 : Cond.fieldLink RX6 7 "PathStreamModel" "text" "[I" ∈ wsG := wt_3 (i := 134) rfl rfl
theorem wl_3_135 : Cond.fieldLink RX6 70 "PathStreamModel" "length" "I" ∈ wsG := wt_3 (i := 135) rfl rfl
theorem wl_3_136 : Cond.fieldLink RX6 13 "PathStreamModel" "now" "[I" ∈ wsG := wt_3 (i := 136) rfl rfl
theorem wl_3_137 : Cond.fieldLink RX6 16 "PathStreamModel" "trial" "[I" ∈ wsG := wt_3 (i := 137) rfl rfl
theorem wl_3_138 : Cond.fieldLink RX6 19 "PathStreamModel" "diary" "[I" ∈ wsG := wt_3 (i := 138) rfl rfl
theorem wl_3_139 : Cond.fieldLink RX6 192 "PathStreamModel" "acts" "I" ∈ wsG := wt_3 (i := 139) rfl rfl
theorem wl_3_140 : Cond.fieldLink RX6 215 "PathStreamModel" "next" "I" ∈ wsG := wt_3 (i := 140) rfl rfl
theorem wl_3_141 : Cond.fieldLink RX6 22 "PathStreamModel" "kept" "[I" ∈ wsG := wt_3 (i := 141) rfl rfl
theorem wl_3_142 : Cond.fieldLink RX6 25 "PathStreamModel" "isKept" "[Z" ∈ wsG := wt_3 (i := 142) rfl rfl
theorem wl_3_143 : Cond.fieldLink RX6 29 "PathStreamModel" "seenPath" "[I" ∈ wsG := wt_3 (i := 143) rfl rfl
theorem wl_3_144 : Cond.fieldLink RX6 32 "PathStreamModel" "seenIs" "[I" ∈ wsG := wt_3 (i := 144) rfl rfl
theorem wl_3_145 : Cond.fieldLink RX6 202 "PathStreamModel" "seen" "I" ∈ wsG := wt_3 (i := 145) rfl rfl
theorem wl_3_146 : Cond.fieldLink RX6 262 "PathStreamModel" "seed" "J" ∈ wsG := wt_3 (i := 146) rfl rfl
theorem wl_3_147 : Cond.fieldLink RX6 56 "PathStreamModel" "otherTest" "I" ∈ wsG := wt_3 (i := 147) rfl rfl
theorem wl_3_148 : Cond.fieldLink RX6 35 "PathStreamModel" "way" "[I" ∈ wsG := wt_3 (i := 148) rfl rfl
theorem wl_3_149 : Cond.fieldLink RX6 38 "PathStreamModel" "ended" "[I" ∈ wsG := wt_3 (i := 149) rfl rfl
theorem wl_3_150 : Cond.fieldLink RX6 41 "PathStreamModel" "worth" "[I" ∈ wsG := wt_3 (i := 150) rfl rfl
theorem wl_3_151 : Cond.fieldLink RX6 44 "PathStreamModel" "answers" "[I" ∈ wsG := wt_3 (i := 151) rfl rfl
theorem wl_3_152 : Cond.fieldLink RX6 83 "PathStreamModel" "part" "I" ∈ wsG := wt_3 (i := 152) rfl rfl
theorem wl_3_153 : Cond.fieldLink RX6 89 "PathStreamModel" "readPaths" "I" ∈ wsG := wt_3 (i := 153) rfl rfl
theorem wl_3_154 : Cond.fieldLink RX6 47 "PathStreamModel" "readLong" "[I" ∈ wsG := wt_3 (i := 154) rfl rfl
theorem wl_3_155 : Cond.fieldLink RX6 50 "PathStreamModel" "readStep" "[I" ∈ wsG := wt_3 (i := 155) rfl rfl
theorem wl_3_156 : Cond.fieldLink RX6 77 "PathStreamModel" "readEvents" "I" ∈ wsG := wt_3 (i := 156) rfl rfl
theorem wl_3_157 : Cond.fieldLink RX6 53 "PathStreamModel" "readEvent" "[I" ∈ wsG := wt_3 (i := 157) rfl rfl
theorem wl_3_158 : Cond.fieldLink RX6 80 "PathStreamModel" "readDepth" "I" ∈ wsG := wt_3 (i := 158) rfl rfl
theorem wl_3_159 : Cond.fieldLink RX6 86 "PathStreamModel" "readElements" "I" ∈ wsG := wt_3 (i := 159) rfl rfl
theorem wl_3_160 : u_lay RX6 TX6 0 ∈ wsG := wt_3 (i := 160) rfl rfl
theorem wl_3_162 : u_lay RX6 TX6 1 ∈ wsG := wt_3 (i := 162) rfl rfl
theorem wl_3_164 : u_lay RX6 TX6 2 ∈ wsG := wt_3 (i := 164) rfl rfl
theorem wl_3_166 : u_lay RX6 TX6 3 ∈ wsG := wt_3 (i := 166) rfl rfl
theorem wl_3_168 : u_lay RX6 TX6 4 ∈ wsG := wt_3 (i := 168) rfl rfl
theorem wl_3_170 : u_lay RX6 TX6 5 ∈ wsG := wt_3 (i := 170) rfl rfl
theorem wl_3_172 : u_lay RX6 TX6 6 ∈ wsG := wt_3 (i := 172) rfl rfl
theorem wl_3_174 : u_lay RX6 TX6 7 ∈ wsG := wt_3 (i := 174) rfl rfl
theorem wl_3_176 : u_lay RX6 TX6 8 ∈ wsG := wt_3 (i := 176) rfl rfl
theorem wl_3_178 : u_lay RX6 TX6 9 ∈ wsG := wt_3 (i := 178) rfl rfl
theorem wl_3_180 : u_lay RX6 TX6 10 ∈ wsG := wt_3 (i := 180) rfl rfl
theorem wl_3_182 : u_lay RX6 TX6 11 ∈ wsG := wt_3 (i := 182) rfl rfl
theorem wl_3_184 : u_lay RX6 TX6 12 ∈ wsG := wt_3 (i := 184) rfl rfl
theorem wl_3_186 : u_lay RX6 TX6 13 ∈ wsG := wt_3 (i := 186) rfl rfl
theorem wl_3_188 : u_lay RX6 TX6 14 ∈ wsG := wt_3 (i := 188) rfl rfl
theorem wl_3_190 : u_lay RX6 TX6 15 ∈ wsG := wt_3 (i := 190) rfl rfl
theorem wl_3_192 : u_lay RX6 TX6 16 ∈ wsG := wt_3 (i := 192) rfl rfl
theorem wl_3_194 : u_lay RX6 TX6 17 ∈ wsG := wt_3 (i := 194) rfl rfl
theorem wl_3_196 : u_lay RX6 TX6 18 ∈ wsG := wt_3 (i := 196) rfl rfl
theorem wl_3_198 : u_lay RX6 TX6 19 ∈ wsG := wt_3 (i := 198) rfl rfl
theorem wl_3_200 : u_lay RX6 TX6 20 ∈ wsG := wt_3 (i := 200) rfl rfl
theorem wl_3_202 : u_lay RX6 TX6 21 ∈ wsG := wt_3 (i := 202) rfl rfl
theorem wl_3_204 : u_lay RX6 TX6 22 ∈ wsG := wt_3 (i := 204) rfl rfl
theorem wl_3_206 : u_lay RX6 TX6 23 ∈ wsG := wt_3 (i := 206) rfl rfl
theorem wl_3_208 : u_lay RX6 TX6 24 ∈ wsG := wt_3 (i := 208) rfl rfl
theorem wl_3_210 : u_lay RX6 TX6 25 ∈ wsG := wt_3 (i := 210) rfl rfl
theorem wl_3_213 : Cond.methodLink RL 17 yX6_write ∈ wsG := wt_3 (i := 213) rfl rfl
theorem wl_3_214 : Cond.instanceMethod yX6_write ∈ wsG := wt_3 (i := 214) rfl rfl
theorem wl_3_215 : Cond.selects RX6 yX6_write yX6_write ∈ wsG := wt_3 (i := 215) rfl rfl
theorem wl_3_216 : Cond.code yX6_write cX6_write 2 (some .int) ∈ wsG := wt_3 (i := 216) rfl rfl
theorem wl_3_217 : Cond.constantLong RX6 68 (255) ∈ wsG := wt_3 (i := 217) rfl rfl
theorem wl_3_218 : Cond.methodLink RX6 64 yX6_in ∈ wsG := wt_3 (i := 218) rfl rfl
theorem wl_3_219 : Cond.static yX6_in ∈ wsG := wt_3 (i := 219) rfl rfl
theorem wl_3_220 : Cond.code yX6_in cX6_in 6 (some .boolean) ∈ wsG := wt_3 (i := 220) rfl rfl
theorem wl_3_221 : Cond.methodLink RL 22 yX6_wipe ∈ wsG := wt_3 (i := 221) rfl rfl
theorem wl_3_222 : Cond.instanceMethod yX6_wipe ∈ wsG := wt_3 (i := 222) rfl rfl
theorem wl_3_223 : Cond.selects RX6 yX6_wipe yX6_wipe ∈ wsG := wt_3 (i := 223) rfl rfl
theorem wl_3_224 : Cond.code yX6_wipe cX6_wipe 2 (some .int) ∈ wsG := wt_3 (i := 224) rfl rfl
theorem wl_3_225 : Cond.methodLink RL 26 yX6_fault ∈ wsG := wt_3 (i := 225) rfl rfl
theorem wl_3_226 : Cond.instanceMethod yX6_fault ∈ wsG := wt_3 (i := 226) rfl rfl
theorem wl_3_227 : Cond.selects RX6 yX6_fault yX6_fault ∈ wsG := wt_3 (i := 227) rfl rfl
theorem wl_3_228 : Cond.code yX6_fault cX6_fault 1 (some .int) ∈ wsG := wt_3 (i := 228) rfl rfl
theorem wl_3_229 : Cond.methodLink RX6 114 yX6_readText ∈ wsG := wt_3 (i := 229) rfl rfl
theorem wl_3_231 : Cond.instanceMethod yX6_readText ∈ wsG := wt_3 (i := 231) rfl rfl
theorem wl_3_232 : Cond.code yX6_readText cX6_readText 2 (some .int) ∈ wsG := wt_3 (i := 232) rfl rfl
theorem wl_3_233 : Cond.methodLink RX6 111 yX6_take ∈ wsG := wt_3 (i := 233) rfl rfl
theorem wl_3_235 : Cond.instanceMethod yX6_take ∈ wsG := wt_3 (i := 235) rfl rfl
theorem wl_3_236 : Cond.code yX6_take cX6_take 3 (some .boolean) ∈ wsG := wt_3 (i := 236) rfl rfl
theorem wl_3_237 : Cond.methodLink RX6 99 yX6_takeTop ∈ wsG := wt_3 (i := 237) rfl rfl
theorem wl_3_239 : Cond.instanceMethod yX6_takeTop ∈ wsG := wt_3 (i := 239) rfl rfl
theorem wl_4_0 : Cond.code yX6_takeTop cX6_takeTop 2 (some .boolean) ∈ wsG := wt_4 (i := 0) rfl rfl
theorem wl_4_1 : Cond.methodLink RX6 92 yX6_takeEvent ∈ wsG := wt_4 (i := 1) rfl rfl
theorem wl_4_3 : Cond.instanceMethod yX6_takeEvent ∈ wsG := wt_4 (i := 3) rfl rfl
theorem wl_4_4 : Cond.code yX6_takeEvent cX6_takeEvent 3 (some .boolean) ∈ wsG := wt_4 (i := 4) rfl rfl
theorem wl_4_5 : Cond.constantLong RX6 73 (48) ∈ wsG := wt_4 (i := 5) rfl rfl
theorem wl_4_6 : Cond.constantLong RX6 75 (57) ∈ wsG := wt_4 (i := 6) rfl rfl
theorem wl_4_7 : Cond.methodLink RX6 96 yX6_takeAxis ∈ wsG := wt_4 (i := 7) rfl rfl
theorem wl_4_9 : Cond.instanceMethod yX6_takeAxis ∈ wsG := wt_4 (i := 9) rfl rfl
theorem wl_4_10 : Cond.code yX6_takeAxis cX6_takeAxis 3 (some .boolean) ∈ wsG := wt_4 (i := 10) rfl rfl
theorem wl_4_11 : Cond.methodLink RX6 102 yX6_addToStep ∈ wsG := wt_4 (i := 11) rfl rfl
theorem wl_4_13 : Cond.instanceMethod yX6_addToStep ∈ wsG := wt_4 (i := 13) rfl rfl
theorem wl_4_14 : Cond.code yX6_addToStep cX6_addToStep 2 none ∈ wsG := wt_4 (i := 14) rfl rfl
theorem wl_4_15 : Cond.constantLong RX6 106 (4) ∈ wsG := wt_4 (i := 15) rfl rfl
theorem wl_4_16 : Cond.methodLink RX6 108 yX6_takeBehind ∈ wsG := wt_4 (i := 16) rfl rfl
theorem wl_4_18 : Cond.instanceMethod yX6_takeBehind ∈ wsG := wt_4 (i := 18) rfl rfl
theorem wl_4_19 : Cond.code yX6_takeBehind cX6_takeBehind 2 (some .boolean) ∈ wsG := wt_4 (i := 19) rfl rfl
theorem wl_4_20 : Cond.methodLink RL 30 yX6_task ∈ wsG := wt_4 (i := 20) rfl rfl
theorem wl_4_21 : Cond.instanceMethod yX6_task ∈ wsG := wt_4 (i := 21) rfl rfl
theorem wl_4_22 : Cond.selects RX6 yX6_task yX6_task ∈ wsG := wt_4 (i := 22) rfl rfl
theorem wl_4_23 : Cond.code yX6_task cX6_task 3 (some .int) ∈ wsG := wt_4 (i := 23) rfl rfl
theorem wl_4_24 : Cond.methodLink RX6 184 yX6_askOn ∈ wsG := wt_4 (i := 24) rfl rfl
theorem wl_4_26 : Cond.instanceMethod yX6_askOn ∈ wsG := wt_4 (i := 26) rfl rfl
theorem wl_4_27 : Cond.code yX6_askOn cX6_askOn 9 none ∈ wsG := wt_4 (i := 27) rfl rfl
theorem wl_4_28 : Cond.methodLink RX6 160 yX6_noteOut ∈ wsG := wt_4 (i := 28) rfl rfl
theorem wl_4_30 : Cond.instanceMethod yX6_noteOut ∈ wsG := wt_4 (i := 30) rfl rfl
theorem wl_4_31 : Cond.code yX6_noteOut cX6_noteOut 6 (some .int) ∈ wsG := wt_4 (i := 31) rfl rfl
theorem wl_4_32 : Cond.methodLink RX6 150 yX6_outOf ∈ wsG := wt_4 (i := 32) rfl rfl
theorem wl_4_34 : Cond.instanceMethod yX6_outOf ∈ wsG := wt_4 (i := 34) rfl rfl
theorem wl_4_35 : Cond.code yX6_outOf cX6_outOf 8 (some .int) ∈ wsG := wt_4 (i := 35) rfl rfl
theorem wl_4_36 : Cond.methodLink RX6 144 yX6_answersOf ∈ wsG := wt_4 (i := 36) rfl rfl
theorem wl_4_38 : Cond.instanceMethod yX6_answersOf ∈ wsG := wt_4 (i := 38) rfl rfl
theorem wl_4_39 : Cond.code yX6_answersOf cX6_answersOf 5 (some .int) ∈ wsG := wt_4 (i := 39) rfl rfl
theorem wl_4_40 : Cond.methodLink RX6 141 yX6_endsAll ∈ wsG := wt_4 (i := 40) rfl rfl
theorem wl_4_42 : Cond.instanceMethod yX6_endsAll ∈ wsG := wt_4 (i := 42) rfl rfl
theorem wl_4_43 : Cond.code yX6_endsAll cX6_endsAll 5 (some .boolean) ∈ wsG := wt_4 (i := 43) rfl rfl
theorem wl_4_44 : Cond.methodLink RX6 137 yX6_endsOf ∈ wsG := wt_4 (i := 44) rfl rfl
theorem wl_4_46 : Cond.instanceMethod yX6_endsOf ∈ wsG := wt_4 (i := 46) rfl rfl
theorem wl_4_47 : Cond.code yX6_endsOf cX6_endsOf 8 (some .int) ∈ wsG := wt_4 (i := 47) rfl rfl
theorem wl_4_48 : Cond.methodLink RX6 130 yX6_layWay ∈ wsG := wt_4 (i := 48) rfl rfl
theorem wl_4_50 : Cond.instanceMethod yX6_layWay ∈ wsG := wt_4 (i := 50) rfl rfl
theorem wl_4_51 : Cond.code yX6_layWay cX6_layWay 6 (some .int) ∈ wsG := wt_4 (i := 51) rfl rfl
theorem wl_4_52 : Cond.methodLink RX6 133 yX6_endsAt ∈ wsG := wt_4 (i := 52) rfl rfl
theorem wl_4_54 : Cond.instanceMethod yX6_endsAt ∈ wsG := wt_4 (i := 54) rfl rfl
theorem wl_4_55 : Cond.code yX6_endsAt cX6_endsAt 14 (some .int) ∈ wsG := wt_4 (i := 55) rfl rfl
theorem wl_4_56 : Cond.methodLink RX6 126 yX6_isMet ∈ wsG := wt_4 (i := 56) rfl rfl
theorem wl_4_58 : Cond.instanceMethod yX6_isMet ∈ wsG := wt_4 (i := 58) rfl rfl
theorem wl_4_59 : Cond.code yX6_isMet cX6_isMet 5 (some .boolean) ∈ wsG := wt_4 (i := 59) rfl rfl
theorem wl_4_60 : Cond.methodLink RX6 118 yX6_childNames ∈ wsG := wt_4 (i := 60) rfl rfl
theorem wl_4_61 : Cond.static yX6_childNames ∈ wsG := wt_4 (i := 61) rfl rfl
theorem wl_4_62 : Cond.code yX6_childNames cX6_childNames 4 (some .int) ∈ wsG := wt_4 (i := 62) rfl rfl
theorem wl_4_63 : Cond.methodLink RX6 122 yX6_has ∈ wsG := wt_4 (i := 63) rfl rfl
theorem wl_4_64 : Cond.static yX6_has ∈ wsG := wt_4 (i := 64) rfl rfl
theorem wl_4_65 : Cond.code yX6_has cX6_has 2 (some .boolean) ∈ wsG := wt_4 (i := 65) rfl rfl
theorem wl_4_66 : Cond.methodLink RX6 147 yX6_doubtsOf ∈ wsG := wt_4 (i := 66) rfl rfl
theorem wl_4_68 : Cond.instanceMethod yX6_doubtsOf ∈ wsG := wt_4 (i := 68) rfl rfl
theorem wl_4_69 : Cond.code yX6_doubtsOf cX6_doubtsOf 5 (some .int) ∈ wsG := wt_4 (i := 69) rfl rfl
theorem wl_4_70 : Cond.methodLink RX6 157 yX6_heldOf ∈ wsG := wt_4 (i := 70) rfl rfl
theorem wl_4_72 : Cond.instanceMethod yX6_heldOf ∈ wsG := wt_4 (i := 72) rfl rfl
theorem wl_4_73 : Cond.code yX6_heldOf cX6_heldOf 3 (some .int) ∈ wsG := wt_4 (i := 73) rfl rfl
theorem wl_4_74 : Cond.methodLink RX6 153 yX6_ones ∈ wsG := wt_4 (i := 74) rfl rfl
theorem wl_4_75 : Cond.static yX6_ones ∈ wsG := wt_4 (i := 75) rfl rfl
theorem wl_4_76 : Cond.code yX6_ones cX6_ones 3 (some .int) ∈ wsG := wt_4 (i := 76) rfl rfl
theorem wl_4_77 : Cond.methodLink RX6 188 yX6_eventOn ∈ wsG := wt_4 (i := 77) rfl rfl
theorem wl_4_79 : Cond.instanceMethod yX6_eventOn ∈ wsG := wt_4 (i := 79) rfl rfl
theorem wl_4_80 : Cond.code yX6_eventOn cX6_eventOn 4 (some .boolean) ∈ wsG := wt_4 (i := 80) rfl rfl
theorem wl_4_81 : Cond.methodLink RX6 170 yX6_mayOpen ∈ wsG := wt_4 (i := 81) rfl rfl
theorem wl_4_82 : Cond.static yX6_mayOpen ∈ wsG := wt_4 (i := 82) rfl rfl
theorem wl_4_83 : Cond.code yX6_mayOpen cX6_mayOpen 1 (some .boolean) ∈ wsG := wt_4 (i := 83) rfl rfl
theorem wl_4_84 : Cond.methodLink RX6 163 yX6_depthOf ∈ wsG := wt_4 (i := 84) rfl rfl
theorem wl_4_85 : Cond.static yX6_depthOf ∈ wsG := wt_4 (i := 85) rfl rfl
theorem wl_4_86 : Cond.code yX6_depthOf cX6_depthOf 4 (some .int) ∈ wsG := wt_4 (i := 86) rfl rfl
theorem wl_4_87 : Cond.methodLink RX6 174 yX6_openOn ∈ wsG := wt_4 (i := 87) rfl rfl
theorem wl_4_89 : Cond.instanceMethod yX6_openOn ∈ wsG := wt_4 (i := 89) rfl rfl
theorem wl_4_90 : Cond.code yX6_openOn cX6_openOn 5 none ∈ wsG := wt_4 (i := 90) rfl rfl
theorem wl_4_91 : Cond.methodLink RX6 166 yX6_noteAll ∈ wsG := wt_4 (i := 91) rfl rfl
theorem wl_4_93 : Cond.instanceMethod yX6_noteAll ∈ wsG := wt_4 (i := 93) rfl rfl
theorem wl_4_94 : Cond.code yX6_noteAll cX6_noteAll 4 (some .int) ∈ wsG := wt_4 (i := 94) rfl rfl
theorem wl_4_95 : Cond.methodLink RX6 178 yX6_closeOn ∈ wsG := wt_4 (i := 95) rfl rfl
theorem wl_4_97 : Cond.instanceMethod yX6_closeOn ∈ wsG := wt_4 (i := 97) rfl rfl
theorem wl_4_98 : Cond.code yX6_closeOn cX6_closeOn 3 (some .int) ∈ wsG := wt_4 (i := 98) rfl rfl
theorem wl_4_99 : Cond.methodLink RX6 181 yX6_tellOn ∈ wsG := wt_4 (i := 99) rfl rfl
theorem wl_4_101 : Cond.instanceMethod yX6_tellOn ∈ wsG := wt_4 (i := 101) rfl rfl
theorem wl_4_102 : Cond.code yX6_tellOn cX6_tellOn 3 (some .int) ∈ wsG := wt_4 (i := 102) rfl rfl
theorem wl_4_103 : Cond.methodLink RL 34 yX6_about ∈ wsG := wt_4 (i := 103) rfl rfl
theorem wl_4_104 : Cond.instanceMethod yX6_about ∈ wsG := wt_4 (i := 104) rfl rfl
theorem wl_4_105 : Cond.selects RX6 yX6_about yX6_about ∈ wsG := wt_4 (i := 105) rfl rfl
theorem wl_4_106 : Cond.code yX6_about cX6_about 2 (some .int) ∈ wsG := wt_4 (i := 106) rfl rfl
theorem wl_4_107 : Cond.methodLink RX6 199 yX6_shared ∈ wsG := wt_4 (i := 107) rfl rfl
theorem wl_4_109 : Cond.instanceMethod yX6_shared ∈ wsG := wt_4 (i := 109) rfl rfl
theorem wl_4_110 : Cond.code yX6_shared cX6_shared 6 (some .int) ∈ wsG := wt_4 (i := 110) rfl rfl
theorem wl_4_111 : Cond.methodLink RX6 195 yX6_isBeginning ∈ wsG := wt_4 (i := 111) rfl rfl
theorem wl_4_113 : Cond.instanceMethod yX6_isBeginning ∈ wsG := wt_4 (i := 113) rfl rfl
theorem wl_4_114 : Cond.code yX6_isBeginning cX6_isBeginning 6 (some .boolean) ∈ wsG := wt_4 (i := 114) rfl rfl
theorem wl_4_115 : Cond.methodLink RL 39 yX6_element ∈ wsG := wt_4 (i := 115) rfl rfl
theorem wl_4_116 : Cond.instanceMethod yX6_element ∈ wsG := wt_4 (i := 116) rfl rfl
theorem wl_4_117 : Cond.selects RX6 yX6_element yX6_element ∈ wsG := wt_4 (i := 117) rfl rfl
theorem wl_4_118 : Cond.code yX6_element cX6_element 3 (some .int) ∈ wsG := wt_4 (i := 118) rfl rfl
theorem wl_4_119 : Cond.methodLink RX6 205 yX6_isElement ∈ wsG := wt_4 (i := 119) rfl rfl
theorem wl_4_121 : Cond.instanceMethod yX6_isElement ∈ wsG := wt_4 (i := 121) rfl rfl
theorem wl_4_122 : Cond.code yX6_isElement cX6_isElement 2 (some .boolean) ∈ wsG := wt_4 (i := 122) rfl rfl
theorem wl_4_123 : Cond.methodLink RL 43 yX6_path ∈ wsG := wt_4 (i := 123) rfl rfl
theorem wl_4_124 : Cond.instanceMethod yX6_path ∈ wsG := wt_4 (i := 124) rfl rfl
theorem wl_4_125 : Cond.selects RX6 yX6_path yX6_path ∈ wsG := wt_4 (i := 125) rfl rfl
theorem wl_4_126 : Cond.code yX6_path cX6_path 4 (some .int) ∈ wsG := wt_4 (i := 126) rfl rfl
theorem wl_4_127 : Cond.methodLink RX6 208 yX6_isPath ∈ wsG := wt_4 (i := 127) rfl rfl
theorem wl_4_129 : Cond.instanceMethod yX6_isPath ∈ wsG := wt_4 (i := 129) rfl rfl
theorem wl_4_130 : Cond.code yX6_isPath cX6_isPath 2 (some .boolean) ∈ wsG := wt_4 (i := 130) rfl rfl
theorem wl_4_131 : Cond.methodLink RX6 211 yX6_copy ∈ wsG := wt_4 (i := 131) rfl rfl
theorem wl_4_132 : Cond.static yX6_copy ∈ wsG := wt_4 (i := 132) rfl rfl
theorem wl_4_133 : Cond.code yX6_copy cX6_copy 3 none ∈ wsG := wt_4 (i := 133) rfl rfl
theorem wl_4_134 : Cond.methodLink RL 47 yX6_step ∈ wsG := wt_4 (i := 134) rfl rfl
theorem wl_4_135 : Cond.instanceMethod yX6_step ∈ wsG := wt_4 (i := 135) rfl rfl
theorem wl_4_136 : Cond.selects RX6 yX6_step yX6_step ∈ wsG := wt_4 (i := 136) rfl rfl
theorem wl_4_137 : Cond.code yX6_step cX6_step 3 (some .int) ∈ wsG := wt_4 (i := 137) rfl rfl
theorem wl_4_138 : Cond.methodLink RL 51 yX6_is ∈ wsG := wt_4 (i := 138) rfl rfl
theorem wl_4_139 : Cond.instanceMethod yX6_is ∈ wsG := wt_4 (i := 139) rfl rfl
theorem wl_4_140 : Cond.selects RX6 yX6_is yX6_is ∈ wsG := wt_4 (i := 140) rfl rfl
theorem wl_4_141 : Cond.code yX6_is cX6_is 3 (some .int) ∈ wsG := wt_4 (i := 141) rfl rfl
theorem wl_4_142 : Cond.methodLink RL 55 yX6_ends ∈ wsG := wt_4 (i := 142) rfl rfl
theorem wl_4_143 : Cond.instanceMethod yX6_ends ∈ wsG := wt_4 (i := 143) rfl rfl
theorem wl_4_144 : Cond.selects RX6 yX6_ends yX6_ends ∈ wsG := wt_4 (i := 144) rfl rfl
theorem wl_4_145 : Cond.code yX6_ends cX6_ends 3 (some .int) ∈ wsG := wt_4 (i := 145) rfl rfl
theorem wl_4_146 : Cond.methodLink RL 60 yX6_out ∈ wsG := wt_4 (i := 146) rfl rfl
theorem wl_4_147 : Cond.instanceMethod yX6_out ∈ wsG := wt_4 (i := 147) rfl rfl
theorem wl_4_148 : Cond.selects RX6 yX6_out yX6_out ∈ wsG := wt_4 (i := 148) rfl rfl
theorem wl_4_149 : Cond.code yX6_out cX6_out 7 (some .int) ∈ wsG := wt_4 (i := 149) rfl rfl
theorem wl_4_150 : Cond.methodLink RL 64 yX6_open ∈ wsG := wt_4 (i := 150) rfl rfl
theorem wl_4_151 : Cond.instanceMethod yX6_open ∈ wsG := wt_4 (i := 151) rfl rfl
theorem wl_4_152 : Cond.selects RX6 yX6_open yX6_open ∈ wsG := wt_4 (i := 152) rfl rfl
theorem wl_4_153 : Cond.code yX6_open cX6_open 2 (some .int) ∈ wsG := wt_4 (i := 153) rfl rfl
theorem wl_4_154 : Cond.methodLink RX6 218 yX6_note ∈ wsG := wt_4 (i := 154) rfl rfl
theorem wl_4_156 : Cond.instanceMethod yX6_note ∈ wsG := wt_4 (i := 156) rfl rfl
theorem wl_4_157 : Cond.code yX6_note cX6_note 2 none ∈ wsG := wt_4 (i := 157) rfl rfl
theorem wl_4_158 : Cond.methodLink RL 68 yX6_close ∈ wsG := wt_4 (i := 158) rfl rfl
theorem wl_4_159 : Cond.instanceMethod yX6_close ∈ wsG := wt_4 (i := 159) rfl rfl
theorem wl_4_160 : Cond.selects RX6 yX6_close yX6_close ∈ wsG := wt_4 (i := 160) rfl rfl
theorem wl_4_161 : Cond.code yX6_close cX6_close 1 (some .int) ∈ wsG := wt_4 (i := 161) rfl rfl
theorem wl_4_162 : Cond.methodLink RL 72 yX6_tell ∈ wsG := wt_4 (i := 162) rfl rfl
theorem wl_4_163 : Cond.instanceMethod yX6_tell ∈ wsG := wt_4 (i := 163) rfl rfl
theorem wl_4_164 : Cond.selects RX6 yX6_tell yX6_tell ∈ wsG := wt_4 (i := 164) rfl rfl
theorem wl_4_165 : Cond.code yX6_tell cX6_tell 2 (some .int) ∈ wsG := wt_4 (i := 165) rfl rfl
theorem wl_4_166 : Cond.constantLong RX6 221 (9) ∈ wsG := wt_4 (i := 166) rfl rfl
theorem wl_4_167 : Cond.methodLink RL 79 yX6_ask ∈ wsG := wt_4 (i := 167) rfl rfl
theorem wl_4_168 : Cond.instanceMethod yX6_ask ∈ wsG := wt_4 (i := 168) rfl rfl
theorem wl_4_169 : Cond.selects RX6 yX6_ask yX6_ask ∈ wsG := wt_4 (i := 169) rfl rfl
theorem wl_4_170 : Cond.code yX6_ask cX6_ask 5 (some .int) ∈ wsG := wt_4 (i := 170) rfl rfl
theorem wl_4_171 : Cond.methodLink RX6 225 yX6_tenThousands ∈ wsG := wt_4 (i := 171) rfl rfl
theorem wl_4_172 : Cond.static yX6_tenThousands ∈ wsG := wt_4 (i := 172) rfl rfl
theorem wl_4_173 : Cond.code yX6_tenThousands cX6_tenThousands 4 (some .long) ∈ wsG := wt_4 (i := 173) rfl rfl
theorem wl_4_174 : Cond.constantLong RX6 223 (10000) ∈ wsG := wt_4 (i := 174) rfl rfl
theorem wl_4_175 : Cond.methodLink RX6 229 yX6_stepOf ∈ wsG := wt_4 (i := 175) rfl rfl
theorem wl_4_176 : Cond.static yX6_stepOf ∈ wsG := wt_4 (i := 176) rfl rfl
theorem wl_4_177 : Cond.code yX6_stepOf cX6_stepOf 4 (some .int) ∈ wsG := wt_4 (i := 177) rfl rfl
theorem wl_4_178 : Cond.methodLink RX6 233 yX6_isStep ∈ wsG := wt_4 (i := 178) rfl rfl
theorem wl_4_179 : Cond.static yX6_isStep ∈ wsG := wt_4 (i := 179) rfl rfl
theorem wl_4_180 : Cond.code yX6_isStep cX6_isStep 1 (some .boolean) ∈ wsG := wt_4 (i := 180) rfl rfl
theorem wl_4_181 : Cond.methodLink RL 83 yX6_drop ∈ wsG := wt_4 (i := 181) rfl rfl
theorem wl_4_182 : Cond.instanceMethod yX6_drop ∈ wsG := wt_4 (i := 182) rfl rfl
theorem wl_4_183 : Cond.selects RX6 yX6_drop yX6_drop ∈ wsG := wt_4 (i := 183) rfl rfl
theorem wl_4_184 : Cond.code yX6_drop cX6_drop 1 (some .int) ∈ wsG := wt_4 (i := 184) rfl rfl
theorem wl_4_185 : Cond.methodLink RL 87 yX6_undo ∈ wsG := wt_4 (i := 185) rfl rfl
theorem wl_4_186 : Cond.instanceMethod yX6_undo ∈ wsG := wt_4 (i := 186) rfl rfl
theorem wl_4_187 : Cond.selects RX6 yX6_undo yX6_undo ∈ wsG := wt_4 (i := 187) rfl rfl
theorem wl_4_188 : Cond.code yX6_undo cX6_undo 2 (some .int) ∈ wsG := wt_4 (i := 188) rfl rfl
theorem wl_4_189 : Cond.methodLink RL 91 yX6_within ∈ wsG := wt_4 (i := 189) rfl rfl
theorem wl_4_190 : Cond.instanceMethod yX6_within ∈ wsG := wt_4 (i := 190) rfl rfl
theorem wl_4_191 : Cond.selects RX6 yX6_within yX6_within ∈ wsG := wt_4 (i := 191) rfl rfl
theorem wl_4_192 : Cond.code yX6_within cX6_within 3 (some .int) ∈ wsG := wt_4 (i := 192) rfl rfl
theorem wl_4_193 : Cond.methodLink RL 95 yX6_judge ∈ wsG := wt_4 (i := 193) rfl rfl
theorem wl_4_194 : Cond.instanceMethod yX6_judge ∈ wsG := wt_4 (i := 194) rfl rfl
theorem wl_4_195 : Cond.selects RX6 yX6_judge yX6_judge ∈ wsG := wt_4 (i := 195) rfl rfl
theorem wl_4_196 : Cond.code yX6_judge cX6_judge 6 (some .int) ∈ wsG := wt_4 (i := 196) rfl rfl
theorem wl_4_197 : Cond.methodLink RX6 238 yX6_thousands ∈ wsG := wt_4 (i := 197) rfl rfl
theorem wl_4_198 : Cond.static yX6_thousands ∈ wsG := wt_4 (i := 198) rfl rfl
theorem wl_4_199 : Cond.code yX6_thousands cX6_thousands 4 (some .long) ∈ wsG := wt_4 (i := 199) rfl rfl
theorem wl_4_200 : Cond.constantLong RX6 236 (1000) ∈ wsG := wt_4 (i := 200) rfl rfl
theorem wl_4_201 : Cond.methodLink RX6 241 yX6_judged ∈ wsG := wt_4 (i := 201) rfl rfl
theorem wl_4_203 : Cond.instanceMethod yX6_judged ∈ wsG := wt_4 (i := 203) rfl rfl
theorem wl_4_204 : Cond.code yX6_judged cX6_judged 4 (some .boolean) ∈ wsG := wt_4 (i := 204) rfl rfl
theorem wl_4_205 : Cond.methodLink RL 99 yX6_see ∈ wsG := wt_4 (i := 205) rfl rfl
theorem wl_4_206 : Cond.instanceMethod yX6_see ∈ wsG := wt_4 (i := 206) rfl rfl
theorem wl_4_207 : Cond.selects RX6 yX6_see yX6_see ∈ wsG := wt_4 (i := 207) rfl rfl
theorem wl_4_208 : Cond.code yX6_see cX6_see 3 (some .int) ∈ wsG := wt_4 (i := 208) rfl rfl
theorem wl_4_209 : Cond.constantLong RX6 244 (20) ∈ wsG := wt_4 (i := 209) rfl rfl
theorem wl_4_210 : Cond.methodLink RL 103 yX6_unsee ∈ wsG := wt_4 (i := 210) rfl rfl
theorem wl_4_211 : Cond.instanceMethod yX6_unsee ∈ wsG := wt_4 (i := 211) rfl rfl
theorem wl_4_212 : Cond.selects RX6 yX6_unsee yX6_unsee ∈ wsG := wt_4 (i := 212) rfl rfl
theorem wl_4_213 : Cond.code yX6_unsee cX6_unsee 2 (some .int) ∈ wsG := wt_4 (i := 213) rfl rfl
theorem wl_4_214 : Cond.methodLink RL 107 yX6_which ∈ wsG := wt_4 (i := 214) rfl rfl
theorem wl_4_215 : Cond.instanceMethod yX6_which ∈ wsG := wt_4 (i := 215) rfl rfl
theorem wl_4_216 : Cond.selects RX6 yX6_which yX6_which ∈ wsG := wt_4 (i := 216) rfl rfl
theorem wl_4_217 : Cond.code yX6_which cX6_which 5 (some .int) ∈ wsG := wt_4 (i := 217) rfl rfl
theorem wl_4_218 : Cond.methodLink RL 112 yX6_share ∈ wsG := wt_4 (i := 218) rfl rfl
theorem wl_4_219 : Cond.instanceMethod yX6_share ∈ wsG := wt_4 (i := 219) rfl rfl
theorem wl_4_220 : Cond.selects RX6 yX6_share yX6_share ∈ wsG := wt_4 (i := 220) rfl rfl
theorem wl_4_221 : Cond.code yX6_share cX6_share 7 (some .int) ∈ wsG := wt_4 (i := 221) rfl rfl
theorem wl_4_222 : Cond.methodLink RX6 246 yX6_layWorth ∈ wsG := wt_4 (i := 222) rfl rfl
theorem wl_4_224 : Cond.instanceMethod yX6_layWorth ∈ wsG := wt_4 (i := 224) rfl rfl
theorem wl_4_225 : Cond.code yX6_layWorth cX6_layWorth 5 none ∈ wsG := wt_4 (i := 225) rfl rfl
theorem wl_4_226 : Cond.methodLink RX6 249 yX6_factorial ∈ wsG := wt_4 (i := 226) rfl rfl
theorem wl_4_227 : Cond.static yX6_factorial ∈ wsG := wt_4 (i := 227) rfl rfl
theorem wl_4_228 : Cond.code yX6_factorial cX6_factorial 3 (some .int) ∈ wsG := wt_4 (i := 228) rfl rfl
theorem wl_4_229 : Cond.methodLink RX6 252 yX6_fraction ∈ wsG := wt_4 (i := 229) rfl rfl
theorem wl_4_230 : Cond.static yX6_fraction ∈ wsG := wt_4 (i := 230) rfl rfl
theorem wl_4_231 : Cond.code yX6_fraction cX6_fraction 6 (some .int) ∈ wsG := wt_4 (i := 231) rfl rfl
theorem wl_4_232 : Cond.methodLink RL 116 yX6_chance ∈ wsG := wt_4 (i := 232) rfl rfl
theorem wl_4_233 : Cond.instanceMethod yX6_chance ∈ wsG := wt_4 (i := 233) rfl rfl
theorem wl_4_234 : Cond.selects RX6 yX6_chance yX6_chance ∈ wsG := wt_4 (i := 234) rfl rfl
theorem wl_4_235 : Cond.code yX6_chance cX6_chance 7 (some .int) ∈ wsG := wt_4 (i := 235) rfl rfl
theorem wl_4_236 : Cond.constantLong RX6 256 (10) ∈ wsG := wt_4 (i := 236) rfl rfl
theorem wl_4_237 : Cond.methodLink RX6 258 yX6_power ∈ wsG := wt_4 (i := 237) rfl rfl
theorem wl_4_238 : Cond.static yX6_power ∈ wsG := wt_4 (i := 238) rfl rfl
theorem wl_4_239 : Cond.code yX6_power cX6_power 4 (some .int) ∈ wsG := wt_4 (i := 239) rfl rfl
theorem wl_5_0 : Cond.methodLink RL 121 yX6_seed ∈ wsG := wt_5 (i := 0) rfl rfl
theorem wl_5_1 : Cond.instanceMethod yX6_seed ∈ wsG := wt_5 (i := 1) rfl rfl
theorem wl_5_2 : Cond.selects RX6 yX6_seed yX6_seed ∈ wsG := wt_5 (i := 2) rfl rfl
theorem wl_5_3 : Cond.code yX6_seed cX6_seed 5 (some .long) ∈ wsG := wt_5 (i := 3) rfl rfl
theorem wl_5_4 : Cond.methodLink RL 125 yX6_drawn ∈ wsG := wt_5 (i := 4) rfl rfl
theorem wl_5_5 : Cond.instanceMethod yX6_drawn ∈ wsG := wt_5 (i := 5) rfl rfl
theorem wl_5_6 : Cond.selects RX6 yX6_drawn yX6_drawn ∈ wsG := wt_5 (i := 6) rfl rfl
theorem wl_5_7 : Cond.code yX6_drawn cX6_drawn 7 (some .int) ∈ wsG := wt_5 (i := 7) rfl rfl
theorem wl_5_8 : Cond.constantLong RX6 266 (30) ∈ wsG := wt_5 (i := 8) rfl rfl
theorem wl_5_9 : Cond.constantLong RX6 268 (6364136223846793005) ∈ wsG := wt_5 (i := 9) rfl rfl
theorem wl_5_10 : Cond.constantLong RX6 270 (1442695040888963407) ∈ wsG := wt_5 (i := 10) rfl rfl
theorem wl_5_11 : Cond.methodLink RL 129 yX6_keep ∈ wsG := wt_5 (i := 11) rfl rfl
theorem wl_5_12 : Cond.instanceMethod yX6_keep ∈ wsG := wt_5 (i := 12) rfl rfl
theorem wl_5_13 : Cond.selects RX6 yX6_keep yX6_keep ∈ wsG := wt_5 (i := 13) rfl rfl
theorem wl_5_14 : Cond.code yX6_keep cX6_keep 3 (some .int) ∈ wsG := wt_5 (i := 14) rfl rfl
theorem wl_5_15 : Cond.methodLink RL 133 yX6_again ∈ wsG := wt_5 (i := 15) rfl rfl
theorem wl_5_16 : Cond.instanceMethod yX6_again ∈ wsG := wt_5 (i := 16) rfl rfl
theorem wl_5_17 : Cond.selects RX6 yX6_again yX6_again ∈ wsG := wt_5 (i := 17) rfl rfl
theorem wl_5_18 : Cond.code yX6_again cX6_again 3 (some .int) ∈ wsG := wt_5 (i := 18) rfl rfl
theorem wl_5_19 : Cond.constantLong RL 73 (4294967295) ∈ wsG := wt_5 (i := 19) rfl rfl
theorem wp_0 : Cond.selects RX5 yX5_readTask yX5_readTask ∈ wsG := ws_s (i := 0) rfl rfl
theorem wp_1 : Cond.selects RX4 yX4_goesOn yX4_goesOn ∈ wsG := ws_s (i := 1) rfl rfl
theorem wp_2 : Cond.selects RX4 yX4_beginsPath yX4_beginsPath ∈ wsG := ws_s (i := 2) rfl rfl
theorem wp_3 : Cond.selects RX4 yX4_takesEvent yX4_takesEvent ∈ wsG := ws_s (i := 3) rfl rfl
theorem wp_4 : Cond.selects RX4 yX4_takesAxis yX4_takesAxis ∈ wsG := ws_s (i := 4) rfl rfl
theorem wp_5 : Cond.selects RX4 yX4_takesTest yX4_takesTest ∈ wsG := ws_s (i := 5) rfl rfl
theorem wp_6 : Cond.selects RX4 yX4_addsToStep yX4_addsToStep ∈ wsG := ws_s (i := 6) rfl rfl
theorem wp_7 : Cond.selects RX4 yX4_takesNextStep yX4_takesNextStep ∈ wsG := ws_s (i := 7) rfl rfl
theorem wp_8 : Cond.selects RX4 yX4_takesChildName yX4_takesChildName ∈ wsG := ws_s (i := 8) rfl rfl
theorem wp_9 : Cond.selects RX4 yX4_takesFigure yX4_takesFigure ∈ wsG := ws_s (i := 9) rfl rfl
theorem wp_10 : Cond.selects RX1 yX1_lookAround yX1_lookAround ∈ wsG := ws_s (i := 10) rfl rfl
theorem wp_11 : Cond.selects RX1 yX1_matchElement yX1_matchElement ∈ wsG := ws_s (i := 11) rfl rfl
theorem wp_12 : Cond.selects RX1 yX1_note yX1_note ∈ wsG := ws_s (i := 12) rfl rfl
theorem wp_13 : Cond.selects RX5 yX5_forgetActions yX5_forgetActions ∈ wsG := ws_s (i := 13) rfl rfl
theorem wp_14 : Cond.selects RX3 yX3_earlierBeginsLike yX3_earlierBeginsLike ∈ wsG := ws_s (i := 14) rfl rfl
theorem wp_15 : Cond.selects RX5 yX5_isElement yX5_isElement ∈ wsG := ws_s (i := 15) rfl rfl
theorem wp_16 : Cond.selects RX5 yX5_isPath yX5_isPath ∈ wsG := ws_s (i := 16) rfl rfl
theorem wp_17 : Cond.selects RX5 yX5_pathNumber yX5_pathNumber ∈ wsG := ws_s (i := 17) rfl rfl
theorem wp_18 : Cond.selects RX5 yX5_recordAction yX5_recordAction ∈ wsG := ws_s (i := 18) rfl rfl
theorem wp_19 : Cond.selects RX5 yX5_splits yX5_splits ∈ wsG := ws_s (i := 19) rfl rfl
theorem wp_20 : Cond.selects RX5 yX5_partsAreSteps yX5_partsAreSteps ∈ wsG := ws_s (i := 20) rfl rfl
theorem wp_21 : Cond.selects RX5 yX5_answersOf yX5_answersOf ∈ wsG := ws_s (i := 21) rfl rfl
theorem wp_22 : Cond.selects RX5 yX5_comesTrue yX5_comesTrue ∈ wsG := ws_s (i := 22) rfl rfl
theorem wp_23 : Cond.selects RX5 yX5_emitsAfter yX5_emitsAfter ∈ wsG := ws_s (i := 23) rfl rfl
theorem wp_24 : Cond.selects RX5 yX5_agreesWithAll yX5_agreesWithAll ∈ wsG := ws_s (i := 24) rfl rfl
theorem wp_25 : Cond.selects RX5 yX5_answersWithLastTest yX5_answersWithLastTest ∈ wsG := ws_s (i := 25) rfl rfl
theorem wp_26 : Cond.selects RX5 yX5_findAnswerSets yX5_findAnswerSets ∈ wsG := ws_s (i := 26) rfl rfl
theorem wp_27 : Cond.selects RX5 yX5_pathsAnswering yX5_pathsAnswering ∈ wsG := ws_s (i := 27) rfl rfl
theorem wp_28 : Cond.selects RX5 yX5_weightOf yX5_weightOf ∈ wsG := ws_s (i := 28) rfl rfl
theorem wp_29 : Cond.selects RX5 yX5_answersOfAny yX5_answersOfAny ∈ wsG := ws_s (i := 29) rfl rfl
theorem wp_30 : Cond.selects RX5 yX5_drawEvent yX5_drawEvent ∈ wsG := ws_s (i := 30) rfl rfl
theorem wp_31 : Cond.selects RX6 yX6_readText yX6_readText ∈ wsG := ws_s (i := 31) rfl rfl
theorem wp_32 : Cond.selects RX6 yX6_take yX6_take ∈ wsG := ws_s (i := 32) rfl rfl
theorem wp_33 : Cond.selects RX6 yX6_takeTop yX6_takeTop ∈ wsG := ws_s (i := 33) rfl rfl
theorem wp_34 : Cond.selects RX6 yX6_takeEvent yX6_takeEvent ∈ wsG := ws_s (i := 34) rfl rfl
theorem wp_35 : Cond.selects RX6 yX6_takeAxis yX6_takeAxis ∈ wsG := ws_s (i := 35) rfl rfl
theorem wp_36 : Cond.selects RX6 yX6_addToStep yX6_addToStep ∈ wsG := ws_s (i := 36) rfl rfl
theorem wp_37 : Cond.selects RX6 yX6_takeBehind yX6_takeBehind ∈ wsG := ws_s (i := 37) rfl rfl
theorem wp_38 : Cond.selects RX6 yX6_askOn yX6_askOn ∈ wsG := ws_s (i := 38) rfl rfl
theorem wp_39 : Cond.selects RX6 yX6_noteOut yX6_noteOut ∈ wsG := ws_s (i := 39) rfl rfl
theorem wp_40 : Cond.selects RX6 yX6_outOf yX6_outOf ∈ wsG := ws_s (i := 40) rfl rfl
theorem wp_41 : Cond.selects RX6 yX6_answersOf yX6_answersOf ∈ wsG := ws_s (i := 41) rfl rfl
theorem wp_42 : Cond.selects RX6 yX6_endsAll yX6_endsAll ∈ wsG := ws_s (i := 42) rfl rfl
theorem wp_43 : Cond.selects RX6 yX6_endsOf yX6_endsOf ∈ wsG := ws_s (i := 43) rfl rfl
theorem wp_44 : Cond.selects RX6 yX6_layWay yX6_layWay ∈ wsG := ws_s (i := 44) rfl rfl
theorem wp_45 : Cond.selects RX6 yX6_endsAt yX6_endsAt ∈ wsG := ws_s (i := 45) rfl rfl
theorem wp_46 : Cond.selects RX6 yX6_isMet yX6_isMet ∈ wsG := ws_s (i := 46) rfl rfl
theorem wp_47 : Cond.selects RX6 yX6_doubtsOf yX6_doubtsOf ∈ wsG := ws_s (i := 47) rfl rfl
theorem wp_48 : Cond.selects RX6 yX6_heldOf yX6_heldOf ∈ wsG := ws_s (i := 48) rfl rfl
theorem wp_49 : Cond.selects RX6 yX6_eventOn yX6_eventOn ∈ wsG := ws_s (i := 49) rfl rfl
theorem wp_50 : Cond.selects RX6 yX6_openOn yX6_openOn ∈ wsG := ws_s (i := 50) rfl rfl
theorem wp_51 : Cond.selects RX6 yX6_noteAll yX6_noteAll ∈ wsG := ws_s (i := 51) rfl rfl
theorem wp_52 : Cond.selects RX6 yX6_closeOn yX6_closeOn ∈ wsG := ws_s (i := 52) rfl rfl
theorem wp_53 : Cond.selects RX6 yX6_tellOn yX6_tellOn ∈ wsG := ws_s (i := 53) rfl rfl
theorem wp_54 : Cond.selects RX6 yX6_shared yX6_shared ∈ wsG := ws_s (i := 54) rfl rfl
theorem wp_55 : Cond.selects RX6 yX6_isBeginning yX6_isBeginning ∈ wsG := ws_s (i := 55) rfl rfl
theorem wp_56 : Cond.selects RX6 yX6_isElement yX6_isElement ∈ wsG := ws_s (i := 56) rfl rfl
theorem wp_57 : Cond.selects RX6 yX6_isPath yX6_isPath ∈ wsG := ws_s (i := 57) rfl rfl
theorem wp_58 : Cond.selects RX6 yX6_note yX6_note ∈ wsG := ws_s (i := 58) rfl rfl
theorem wp_59 : Cond.selects RX6 yX6_judged yX6_judged ∈ wsG := ws_s (i := 59) rfl rfl
theorem wp_60 : Cond.selects RX6 yX6_layWorth yX6_layWorth ∈ wsG := ws_s (i := 60) rfl rfl
theorem inX0 : ∀ w ∈ u_ws RX0 TX0 9, w ∈ wsG := List.forall_mem_cons.mpr ⟨wl_1_54, List.forall_mem_cons.mpr ⟨wl_1_56, List.forall_mem_cons.mpr ⟨wl_1_58, List.forall_mem_cons.mpr ⟨wl_1_60, List.forall_mem_cons.mpr ⟨wl_1_62, List.forall_mem_cons.mpr ⟨wl_1_64, List.forall_mem_cons.mpr ⟨wl_1_66, List.forall_mem_cons.mpr ⟨wl_1_68, List.forall_mem_cons.mpr ⟨wl_1_70, fun _ h => absurd h List.not_mem_nil⟩⟩⟩⟩⟩⟩⟩⟩⟩
theorem inX1 : ∀ w ∈ u_ws RX1 TX1 6, w ∈ wsG := List.forall_mem_cons.mpr ⟨wl_1_145, List.forall_mem_cons.mpr ⟨wl_1_147, List.forall_mem_cons.mpr ⟨wl_1_149, List.forall_mem_cons.mpr ⟨wl_1_151, List.forall_mem_cons.mpr ⟨wl_1_153, List.forall_mem_cons.mpr ⟨wl_1_155, fun _ h => absurd h List.not_mem_nil⟩⟩⟩⟩⟩⟩
theorem inX2 : ∀ w ∈ u_ws RX2 TX2 7, w ∈ wsG := List.forall_mem_cons.mpr ⟨wl_1_97, List.forall_mem_cons.mpr ⟨wl_1_99, List.forall_mem_cons.mpr ⟨wl_1_101, List.forall_mem_cons.mpr ⟨wl_1_103, List.forall_mem_cons.mpr ⟨wl_1_105, List.forall_mem_cons.mpr ⟨wl_1_107, List.forall_mem_cons.mpr ⟨wl_1_109, fun _ h => absurd h List.not_mem_nil⟩⟩⟩⟩⟩⟩⟩
theorem inX3 : ∀ w ∈ u_ws RX3 TX3 3, w ∈ wsG := List.forall_mem_cons.mpr ⟨wl_1_120, List.forall_mem_cons.mpr ⟨wl_1_122, List.forall_mem_cons.mpr ⟨wl_1_124, fun _ h => absurd h List.not_mem_nil⟩⟩⟩
theorem inX4 : ∀ w ∈ u_ws RX4 TX4 3, w ∈ wsG := List.forall_mem_cons.mpr ⟨wl_1_168, List.forall_mem_cons.mpr ⟨wl_1_170, List.forall_mem_cons.mpr ⟨wl_1_172, fun _ h => absurd h List.not_mem_nil⟩⟩⟩
theorem inX5 : ∀ w ∈ u_ws RX5 TX5 17, w ∈ wsG := List.forall_mem_cons.mpr ⟨wl_1_192, List.forall_mem_cons.mpr ⟨wl_1_194, List.forall_mem_cons.mpr ⟨wl_1_196, List.forall_mem_cons.mpr ⟨wl_1_198, List.forall_mem_cons.mpr ⟨wl_1_200, List.forall_mem_cons.mpr ⟨wl_1_202, List.forall_mem_cons.mpr ⟨wl_1_204, List.forall_mem_cons.mpr ⟨wl_1_206, List.forall_mem_cons.mpr ⟨wl_1_208, List.forall_mem_cons.mpr ⟨wl_1_210, List.forall_mem_cons.mpr ⟨wl_1_212, List.forall_mem_cons.mpr ⟨wl_1_214, List.forall_mem_cons.mpr ⟨wl_1_216, List.forall_mem_cons.mpr ⟨wl_1_218, List.forall_mem_cons.mpr ⟨wl_1_220, List.forall_mem_cons.mpr ⟨wl_1_222, List.forall_mem_cons.mpr ⟨wl_1_224, fun _ h => absurd h List.not_mem_nil⟩⟩⟩⟩⟩⟩⟩⟩⟩⟩⟩⟩⟩⟩⟩⟩⟩
theorem inX6 : ∀ w ∈ u_ws RX6 TX6 26, w ∈ wsG := List.forall_mem_cons.mpr ⟨wl_3_160, List.forall_mem_cons.mpr ⟨wl_3_162, List.forall_mem_cons.mpr ⟨wl_3_164, List.forall_mem_cons.mpr ⟨wl_3_166, List.forall_mem_cons.mpr ⟨wl_3_168, List.forall_mem_cons.mpr ⟨wl_3_170, List.forall_mem_cons.mpr ⟨wl_3_172, List.forall_mem_cons.mpr ⟨wl_3_174, List.forall_mem_cons.mpr ⟨wl_3_176, List.forall_mem_cons.mpr ⟨wl_3_178, List.forall_mem_cons.mpr ⟨wl_3_180, List.forall_mem_cons.mpr ⟨wl_3_182, List.forall_mem_cons.mpr ⟨wl_3_184, List.forall_mem_cons.mpr ⟨wl_3_186, List.forall_mem_cons.mpr ⟨wl_3_188, List.forall_mem_cons.mpr ⟨wl_3_190, List.forall_mem_cons.mpr ⟨wl_3_192, List.forall_mem_cons.mpr ⟨wl_3_194, List.forall_mem_cons.mpr ⟨wl_3_196, List.forall_mem_cons.mpr ⟨wl_3_198, List.forall_mem_cons.mpr ⟨wl_3_200, List.forall_mem_cons.mpr ⟨wl_3_202, List.forall_mem_cons.mpr ⟨wl_3_204, List.forall_mem_cons.mpr ⟨wl_3_206, List.forall_mem_cons.mpr ⟨wl_3_208, List.forall_mem_cons.mpr ⟨wl_3_210, fun _ h => absurd h List.not_mem_nil⟩⟩⟩⟩⟩⟩⟩⟩⟩⟩⟩⟩⟩⟩⟩⟩⟩⟩⟩⟩⟩⟩⟩⟩⟩⟩
