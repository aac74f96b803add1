section
-- ===== PART A: goes FIRST, ahead of the names: the tables' words, and 'selects' of the private methods out of them =====
/-- a private method of a class that the tables say can be made, by its rows of tables_1 -/
def lw_okq (q : MethodName × Nat) : Prop := (q.1.cls ≠ "java/lang/invoke/MethodHandle" ∧ q.1.cls ≠ "java/lang/invoke/VarHandle") ∧ Cond.instantiable q.1.cls q.2 ∈ tables_1 ∧ Cond.privateMethod q.1 ∈ tables_1 ∧ Cond.instanceMethod q.1 ∈ tables_1
theorem lw_p0 : lw_okq (⟨"PathStream", "readTask", "(Z)I"⟩, 17) := ⟨⟨by decide +kernel, by decide +kernel⟩, List.mem_of_getElem? (i := 12) (by decide +kernel), List.mem_of_getElem? (i := 241) (by decide +kernel), List.mem_of_getElem? (i := 242) (by decide +kernel)⟩
theorem lw_p1 : lw_okq (⟨"PathStream$TaskReader", "goesOn", "(ZI)Z"⟩, 3) := ⟨⟨by decide +kernel, by decide +kernel⟩, List.mem_of_getElem? (i := 160) (by decide +kernel), List.mem_of_getElem? (i := 261) (by decide +kernel), List.mem_of_getElem? (i := 262) (by decide +kernel)⟩
theorem lw_p2 : lw_okq (⟨"PathStream$TaskReader", "beginsPath", "(LPathStream$State;)Z"⟩, 3) := ⟨⟨by decide +kernel, by decide +kernel⟩, List.mem_of_getElem? (i := 160) (by decide +kernel), List.mem_of_getElem? (i := 265) (by decide +kernel), List.mem_of_getElem? (i := 266) (by decide +kernel)⟩
theorem lw_p3 : lw_okq (⟨"PathStream$TaskReader", "takesEvent", "(CLPathStream$Elements;)Z"⟩, 3) := ⟨⟨by decide +kernel, by decide +kernel⟩, List.mem_of_getElem? (i := 160) (by decide +kernel), List.mem_of_getElem? (i := 269) (by decide +kernel), List.mem_of_getElem? (i := 270) (by decide +kernel)⟩
theorem lw_p4 : lw_okq (⟨"PathStream$TaskReader", "takesAxis", "(C)Z"⟩, 3) := ⟨⟨by decide +kernel, by decide +kernel⟩, List.mem_of_getElem? (i := 160) (by decide +kernel), List.mem_of_getElem? (i := 292) (by decide +kernel), List.mem_of_getElem? (i := 293) (by decide +kernel)⟩
theorem lw_p5 : lw_okq (⟨"PathStream$TaskReader", "takesTest", "(C)Z"⟩, 3) := ⟨⟨by decide +kernel, by decide +kernel⟩, List.mem_of_getElem? (i := 160) (by decide +kernel), List.mem_of_getElem? (i := 296) (by decide +kernel), List.mem_of_getElem? (i := 297) (by decide +kernel)⟩
theorem lw_p6 : lw_okq (⟨"PathStream$TaskReader", "addsToStep", "(ZII)Z"⟩, 3) := ⟨⟨by decide +kernel, by decide +kernel⟩, List.mem_of_getElem? (i := 160) (by decide +kernel), List.mem_of_getElem? (i := 303) (by decide +kernel), List.mem_of_getElem? (i := 304) (by decide +kernel)⟩
theorem lw_p7 : lw_okq (⟨"PathStream$TaskReader", "takesNextStep", "(CLPathStream$State;)Z"⟩, 3) := ⟨⟨by decide +kernel, by decide +kernel⟩, List.mem_of_getElem? (i := 160) (by decide +kernel), List.mem_of_getElem? (i := 307) (by decide +kernel), List.mem_of_getElem? (i := 308) (by decide +kernel)⟩
theorem lw_p8 : lw_okq (⟨"PathStream$TaskReader", "takesChildName", "(C)Z"⟩, 3) := ⟨⟨by decide +kernel, by decide +kernel⟩, List.mem_of_getElem? (i := 160) (by decide +kernel), List.mem_of_getElem? (i := 328) (by decide +kernel), List.mem_of_getElem? (i := 329) (by decide +kernel)⟩
theorem lw_p9 : lw_okq (⟨"PathStream$TaskReader", "takesFigure", "(C)Z"⟩, 3) := ⟨⟨by decide +kernel, by decide +kernel⟩, List.mem_of_getElem? (i := 160) (by decide +kernel), List.mem_of_getElem? (i := 332) (by decide +kernel), List.mem_of_getElem? (i := 333) (by decide +kernel)⟩
theorem lw_p10 : lw_okq (⟨"PathStream$Matcher", "lookAround", "(II)V"⟩, 6) := ⟨⟨by decide +kernel, by decide +kernel⟩, List.mem_of_getElem? (i := 129) (by decide +kernel), List.mem_of_getElem? (i := 353) (by decide +kernel), List.mem_of_getElem? (i := 354) (by decide +kernel)⟩
theorem lw_p11 : lw_okq (⟨"PathStream$Matcher", "matchElement", "(LPathStream$Elements;ILPathStream$Path;)V"⟩, 6) := ⟨⟨by decide +kernel, by decide +kernel⟩, List.mem_of_getElem? (i := 129) (by decide +kernel), List.mem_of_getElem? (i := 357) (by decide +kernel), List.mem_of_getElem? (i := 358) (by decide +kernel)⟩
theorem lw_p12 : lw_okq (⟨"PathStream$Matcher", "note", "(II)V"⟩, 6) := ⟨⟨by decide +kernel, by decide +kernel⟩, List.mem_of_getElem? (i := 129) (by decide +kernel), List.mem_of_getElem? (i := 368) (by decide +kernel), List.mem_of_getElem? (i := 369) (by decide +kernel)⟩
theorem lw_p13 : lw_okq (⟨"PathStream", "forgetActions", "()V"⟩, 17) := ⟨⟨by decide +kernel, by decide +kernel⟩, List.mem_of_getElem? (i := 12) (by decide +kernel), List.mem_of_getElem? (i := 407) (by decide +kernel), List.mem_of_getElem? (i := 408) (by decide +kernel)⟩
theorem lw_p14 : lw_okq (⟨"PathStream$State", "earlierBeginsLike", "(II)Z"⟩, 3) := ⟨⟨by decide +kernel, by decide +kernel⟩, List.mem_of_getElem? (i := 20) (by decide +kernel), List.mem_of_getElem? (i := 420) (by decide +kernel), List.mem_of_getElem? (i := 421) (by decide +kernel)⟩
theorem lw_p15 : lw_okq (⟨"PathStream", "isElement", "(I)Z"⟩, 17) := ⟨⟨by decide +kernel, by decide +kernel⟩, List.mem_of_getElem? (i := 12) (by decide +kernel), List.mem_of_getElem? (i := 432) (by decide +kernel), List.mem_of_getElem? (i := 433) (by decide +kernel)⟩
def lw_privs_1 : List (MethodName × Nat) := [(⟨"PathStream", "readTask", "(Z)I"⟩, 17), (⟨"PathStream$TaskReader", "goesOn", "(ZI)Z"⟩, 3), (⟨"PathStream$TaskReader", "beginsPath", "(LPathStream$State;)Z"⟩, 3), (⟨"PathStream$TaskReader", "takesEvent", "(CLPathStream$Elements;)Z"⟩, 3), (⟨"PathStream$TaskReader", "takesAxis", "(C)Z"⟩, 3), (⟨"PathStream$TaskReader", "takesTest", "(C)Z"⟩, 3), (⟨"PathStream$TaskReader", "addsToStep", "(ZII)Z"⟩, 3), (⟨"PathStream$TaskReader", "takesNextStep", "(CLPathStream$State;)Z"⟩, 3), (⟨"PathStream$TaskReader", "takesChildName", "(C)Z"⟩, 3), (⟨"PathStream$TaskReader", "takesFigure", "(C)Z"⟩, 3), (⟨"PathStream$Matcher", "lookAround", "(II)V"⟩, 6), (⟨"PathStream$Matcher", "matchElement", "(LPathStream$Elements;ILPathStream$Path;)V"⟩, 6), (⟨"PathStream$Matcher", "note", "(II)V"⟩, 6), (⟨"PathStream", "forgetActions", "()V"⟩, 17), (⟨"PathStream$State", "earlierBeginsLike", "(II)Z"⟩, 3), (⟨"PathStream", "isElement", "(I)Z"⟩, 17)]
theorem lw_r1 : ∀ q ∈ lw_privs_1, lw_okq q := List.forall_mem_cons.mpr ⟨lw_p0, List.forall_mem_cons.mpr ⟨lw_p1, List.forall_mem_cons.mpr ⟨lw_p2, List.forall_mem_cons.mpr ⟨lw_p3, List.forall_mem_cons.mpr ⟨lw_p4, List.forall_mem_cons.mpr ⟨lw_p5, List.forall_mem_cons.mpr ⟨lw_p6, List.forall_mem_cons.mpr ⟨lw_p7, List.forall_mem_cons.mpr ⟨lw_p8, List.forall_mem_cons.mpr ⟨lw_p9, List.forall_mem_cons.mpr ⟨lw_p10, List.forall_mem_cons.mpr ⟨lw_p11, List.forall_mem_cons.mpr ⟨lw_p12, List.forall_mem_cons.mpr ⟨lw_p13, List.forall_mem_cons.mpr ⟨lw_p14, List.forall_mem_cons.mpr ⟨lw_p15, fun _ h => absurd h List.not_mem_nil⟩⟩⟩⟩⟩⟩⟩⟩⟩⟩⟩⟩⟩⟩⟩⟩
theorem lw_p16 : lw_okq (⟨"PathStream", "isPath", "(I)Z"⟩, 17) := ⟨⟨by decide +kernel, by decide +kernel⟩, List.mem_of_getElem? (i := 12) (by decide +kernel), List.mem_of_getElem? (i := 440) (by decide +kernel), List.mem_of_getElem? (i := 441) (by decide +kernel)⟩
theorem lw_p17 : lw_okq (⟨"PathStream", "pathNumber", "(LPathStream$State;II)I"⟩, 17) := ⟨⟨by decide +kernel, by decide +kernel⟩, List.mem_of_getElem? (i := 12) (by decide +kernel), List.mem_of_getElem? (i := 444) (by decide +kernel), List.mem_of_getElem? (i := 445) (by decide +kernel)⟩
theorem lw_p18 : lw_okq (⟨"PathStream", "recordAction", "()V"⟩, 17) := ⟨⟨by decide +kernel, by decide +kernel⟩, List.mem_of_getElem? (i := 12) (by decide +kernel), List.mem_of_getElem? (i := 472) (by decide +kernel), List.mem_of_getElem? (i := 473) (by decide +kernel)⟩
theorem lw_p19 : lw_okq (⟨"PathStream", "splits", "(JII)Z"⟩, 17) := ⟨⟨by decide +kernel, by decide +kernel⟩, List.mem_of_getElem? (i := 12) (by decide +kernel), List.mem_of_getElem? (i := 491) (by decide +kernel), List.mem_of_getElem? (i := 492) (by decide +kernel)⟩
theorem lw_p20 : lw_okq (⟨"PathStream", "partsAreSteps", "(I)Z"⟩, 17) := ⟨⟨by decide +kernel, by decide +kernel⟩, List.mem_of_getElem? (i := 12) (by decide +kernel), List.mem_of_getElem? (i := 495) (by decide +kernel), List.mem_of_getElem? (i := 496) (by decide +kernel)⟩
theorem lw_p21 : lw_okq (⟨"PathStream", "answersOf", "(LPathStream$State;I)I"⟩, 17) := ⟨⟨by decide +kernel, by decide +kernel⟩, List.mem_of_getElem? (i := 12) (by decide +kernel), List.mem_of_getElem? (i := 513) (by decide +kernel), List.mem_of_getElem? (i := 514) (by decide +kernel)⟩
theorem lw_p22 : lw_okq (⟨"PathStream", "comesTrue", "(III)Z"⟩, 17) := ⟨⟨by decide +kernel, by decide +kernel⟩, List.mem_of_getElem? (i := 12) (by decide +kernel), List.mem_of_getElem? (i := 521) (by decide +kernel), List.mem_of_getElem? (i := 522) (by decide +kernel)⟩
theorem lw_p23 : lw_okq (⟨"PathStream", "emitsAfter", "(Z)Z"⟩, 17) := ⟨⟨by decide +kernel, by decide +kernel⟩, List.mem_of_getElem? (i := 12) (by decide +kernel), List.mem_of_getElem? (i := 525) (by decide +kernel), List.mem_of_getElem? (i := 526) (by decide +kernel)⟩
theorem lw_p24 : lw_okq (⟨"PathStream", "agreesWithAll", "(I)Z"⟩, 17) := ⟨⟨by decide +kernel, by decide +kernel⟩, List.mem_of_getElem? (i := 12) (by decide +kernel), List.mem_of_getElem? (i := 541) (by decide +kernel), List.mem_of_getElem? (i := 542) (by decide +kernel)⟩
theorem lw_p25 : lw_okq (⟨"PathStream", "answersWithLastTest", "(II)I"⟩, 17) := ⟨⟨by decide +kernel, by decide +kernel⟩, List.mem_of_getElem? (i := 12) (by decide +kernel), List.mem_of_getElem? (i := 545) (by decide +kernel), List.mem_of_getElem? (i := 546) (by decide +kernel)⟩
theorem lw_p26 : lw_okq (⟨"PathStream", "findAnswerSets", "()V"⟩, 17) := ⟨⟨by decide +kernel, by decide +kernel⟩, List.mem_of_getElem? (i := 12) (by decide +kernel), List.mem_of_getElem? (i := 558) (by decide +kernel), List.mem_of_getElem? (i := 559) (by decide +kernel)⟩
theorem lw_p27 : lw_okq (⟨"PathStream", "pathsAnswering", "(I)I"⟩, 17) := ⟨⟨by decide +kernel, by decide +kernel⟩, List.mem_of_getElem? (i := 12) (by decide +kernel), List.mem_of_getElem? (i := 562) (by decide +kernel), List.mem_of_getElem? (i := 563) (by decide +kernel)⟩
theorem lw_p28 : lw_okq (⟨"PathStream", "weightOf", "(II)I"⟩, 17) := ⟨⟨by decide +kernel, by decide +kernel⟩, List.mem_of_getElem? (i := 12) (by decide +kernel), List.mem_of_getElem? (i := 576) (by decide +kernel), List.mem_of_getElem? (i := 577) (by decide +kernel)⟩
theorem lw_p29 : lw_okq (⟨"PathStream", "answersOfAny", "(I)I"⟩, 17) := ⟨⟨by decide +kernel, by decide +kernel⟩, List.mem_of_getElem? (i := 12) (by decide +kernel), List.mem_of_getElem? (i := 580) (by decide +kernel), List.mem_of_getElem? (i := 581) (by decide +kernel)⟩
theorem lw_p30 : lw_okq (⟨"PathStream", "drawEvent", "(LPathStream$Elements;)V"⟩, 17) := ⟨⟨by decide +kernel, by decide +kernel⟩, List.mem_of_getElem? (i := 12) (by decide +kernel), List.mem_of_getElem? (i := 592) (by decide +kernel), List.mem_of_getElem? (i := 593) (by decide +kernel)⟩
theorem lw_p31 : lw_okq (⟨"PathStreamModel", "readText", "()I"⟩, 26) := ⟨⟨by decide +kernel, by decide +kernel⟩, List.mem_of_getElem? (i := 606) (by decide +kernel), List.mem_of_getElem? (i := 710) (by decide +kernel), List.mem_of_getElem? (i := 711) (by decide +kernel)⟩
def lw_privs_2 : List (MethodName × Nat) := [(⟨"PathStream", "isPath", "(I)Z"⟩, 17), (⟨"PathStream", "pathNumber", "(LPathStream$State;II)I"⟩, 17), (⟨"PathStream", "recordAction", "()V"⟩, 17), (⟨"PathStream", "splits", "(JII)Z"⟩, 17), (⟨"PathStream", "partsAreSteps", "(I)Z"⟩, 17), (⟨"PathStream", "answersOf", "(LPathStream$State;I)I"⟩, 17), (⟨"PathStream", "comesTrue", "(III)Z"⟩, 17), (⟨"PathStream", "emitsAfter", "(Z)Z"⟩, 17), (⟨"PathStream", "agreesWithAll", "(I)Z"⟩, 17), (⟨"PathStream", "answersWithLastTest", "(II)I"⟩, 17), (⟨"PathStream", "findAnswerSets", "()V"⟩, 17), (⟨"PathStream", "pathsAnswering", "(I)I"⟩, 17), (⟨"PathStream", "weightOf", "(II)I"⟩, 17), (⟨"PathStream", "answersOfAny", "(I)I"⟩, 17), (⟨"PathStream", "drawEvent", "(LPathStream$Elements;)V"⟩, 17), (⟨"PathStreamModel", "readText", "()I"⟩, 26)]
theorem lw_r2 : ∀ q ∈ lw_privs_2, lw_okq q := List.forall_mem_cons.mpr ⟨lw_p16, List.forall_mem_cons.mpr ⟨lw_p17, List.forall_mem_cons.mpr ⟨lw_p18, List.forall_mem_cons.mpr ⟨lw_p19, List.forall_mem_cons.mpr ⟨lw_p20, List.forall_mem_cons.mpr ⟨lw_p21, List.forall_mem_cons.mpr ⟨lw_p22, List.forall_mem_cons.mpr ⟨lw_p23, List.forall_mem_cons.mpr ⟨lw_p24, List.forall_mem_cons.mpr ⟨lw_p25, List.forall_mem_cons.mpr ⟨lw_p26, List.forall_mem_cons.mpr ⟨lw_p27, List.forall_mem_cons.mpr ⟨lw_p28, List.forall_mem_cons.mpr ⟨lw_p29, List.forall_mem_cons.mpr ⟨lw_p30, List.forall_mem_cons.mpr ⟨lw_p31, fun _ h => absurd h List.not_mem_nil⟩⟩⟩⟩⟩⟩⟩⟩⟩⟩⟩⟩⟩⟩⟩⟩
theorem lw_p32 : lw_okq (⟨"PathStreamModel", "take", "(I)Z"⟩, 26) := ⟨⟨by decide +kernel, by decide +kernel⟩, List.mem_of_getElem? (i := 606) (by decide +kernel), List.mem_of_getElem? (i := 714) (by decide +kernel), List.mem_of_getElem? (i := 715) (by decide +kernel)⟩
theorem lw_p33 : lw_okq (⟨"PathStreamModel", "takeTop", "(I)Z"⟩, 26) := ⟨⟨by decide +kernel, by decide +kernel⟩, List.mem_of_getElem? (i := 606) (by decide +kernel), List.mem_of_getElem? (i := 718) (by decide +kernel), List.mem_of_getElem? (i := 719) (by decide +kernel)⟩
theorem lw_p34 : lw_okq (⟨"PathStreamModel", "takeEvent", "(I)Z"⟩, 26) := ⟨⟨by decide +kernel, by decide +kernel⟩, List.mem_of_getElem? (i := 606) (by decide +kernel), List.mem_of_getElem? (i := 722) (by decide +kernel), List.mem_of_getElem? (i := 723) (by decide +kernel)⟩
theorem lw_p35 : lw_okq (⟨"PathStreamModel", "takeAxis", "(I)Z"⟩, 26) := ⟨⟨by decide +kernel, by decide +kernel⟩, List.mem_of_getElem? (i := 606) (by decide +kernel), List.mem_of_getElem? (i := 728) (by decide +kernel), List.mem_of_getElem? (i := 729) (by decide +kernel)⟩
theorem lw_p36 : lw_okq (⟨"PathStreamModel", "addToStep", "(I)V"⟩, 26) := ⟨⟨by decide +kernel, by decide +kernel⟩, List.mem_of_getElem? (i := 606) (by decide +kernel), List.mem_of_getElem? (i := 732) (by decide +kernel), List.mem_of_getElem? (i := 733) (by decide +kernel)⟩
theorem lw_p37 : lw_okq (⟨"PathStreamModel", "takeBehind", "(I)Z"⟩, 26) := ⟨⟨by decide +kernel, by decide +kernel⟩, List.mem_of_getElem? (i := 606) (by decide +kernel), List.mem_of_getElem? (i := 737) (by decide +kernel), List.mem_of_getElem? (i := 738) (by decide +kernel)⟩
theorem lw_p38 : lw_okq (⟨"PathStreamModel", "askOn", "([IIIIII)V"⟩, 26) := ⟨⟨by decide +kernel, by decide +kernel⟩, List.mem_of_getElem? (i := 606) (by decide +kernel), List.mem_of_getElem? (i := 745) (by decide +kernel), List.mem_of_getElem? (i := 746) (by decide +kernel)⟩
theorem lw_p39 : lw_okq (⟨"PathStreamModel", "noteOut", "([II)I"⟩, 26) := ⟨⟨by decide +kernel, by decide +kernel⟩, List.mem_of_getElem? (i := 606) (by decide +kernel), List.mem_of_getElem? (i := 749) (by decide +kernel), List.mem_of_getElem? (i := 750) (by decide +kernel)⟩
theorem lw_p40 : lw_okq (⟨"PathStreamModel", "outOf", "([II)I"⟩, 26) := ⟨⟨by decide +kernel, by decide +kernel⟩, List.mem_of_getElem? (i := 606) (by decide +kernel), List.mem_of_getElem? (i := 753) (by decide +kernel), List.mem_of_getElem? (i := 754) (by decide +kernel)⟩
theorem lw_p41 : lw_okq (⟨"PathStreamModel", "answersOf", "([II)I"⟩, 26) := ⟨⟨by decide +kernel, by decide +kernel⟩, List.mem_of_getElem? (i := 606) (by decide +kernel), List.mem_of_getElem? (i := 757) (by decide +kernel), List.mem_of_getElem? (i := 758) (by decide +kernel)⟩
theorem lw_p42 : lw_okq (⟨"PathStreamModel", "endsAll", "([IIIZ)Z"⟩, 26) := ⟨⟨by decide +kernel, by decide +kernel⟩, List.mem_of_getElem? (i := 606) (by decide +kernel), List.mem_of_getElem? (i := 761) (by decide +kernel), List.mem_of_getElem? (i := 762) (by decide +kernel)⟩
theorem lw_p43 : lw_okq (⟨"PathStreamModel", "endsOf", "([IIIZ)I"⟩, 26) := ⟨⟨by decide +kernel, by decide +kernel⟩, List.mem_of_getElem? (i := 606) (by decide +kernel), List.mem_of_getElem? (i := 765) (by decide +kernel), List.mem_of_getElem? (i := 766) (by decide +kernel)⟩
theorem lw_p44 : lw_okq (⟨"PathStreamModel", "layWay", "([II)I"⟩, 26) := ⟨⟨by decide +kernel, by decide +kernel⟩, List.mem_of_getElem? (i := 606) (by decide +kernel), List.mem_of_getElem? (i := 769) (by decide +kernel), List.mem_of_getElem? (i := 770) (by decide +kernel)⟩
theorem lw_p45 : lw_okq (⟨"PathStreamModel", "endsAt", "([IIIIIZ)I"⟩, 26) := ⟨⟨by decide +kernel, by decide +kernel⟩, List.mem_of_getElem? (i := 606) (by decide +kernel), List.mem_of_getElem? (i := 773) (by decide +kernel), List.mem_of_getElem? (i := 774) (by decide +kernel)⟩
theorem lw_p46 : lw_okq (⟨"PathStreamModel", "isMet", "([IIIZ)Z"⟩, 26) := ⟨⟨by decide +kernel, by decide +kernel⟩, List.mem_of_getElem? (i := 606) (by decide +kernel), List.mem_of_getElem? (i := 777) (by decide +kernel), List.mem_of_getElem? (i := 778) (by decide +kernel)⟩
theorem lw_p47 : lw_okq (⟨"PathStreamModel", "doubtsOf", "([II)I"⟩, 26) := ⟨⟨by decide +kernel, by decide +kernel⟩, List.mem_of_getElem? (i := 606) (by decide +kernel), List.mem_of_getElem? (i := 787) (by decide +kernel), List.mem_of_getElem? (i := 788) (by decide +kernel)⟩
def lw_privs_3 : List (MethodName × Nat) := [(⟨"PathStreamModel", "take", "(I)Z"⟩, 26), (⟨"PathStreamModel", "takeTop", "(I)Z"⟩, 26), (⟨"PathStreamModel", "takeEvent", "(I)Z"⟩, 26), (⟨"PathStreamModel", "takeAxis", "(I)Z"⟩, 26), (⟨"PathStreamModel", "addToStep", "(I)V"⟩, 26), (⟨"PathStreamModel", "takeBehind", "(I)Z"⟩, 26), (⟨"PathStreamModel", "askOn", "([IIIIII)V"⟩, 26), (⟨"PathStreamModel", "noteOut", "([II)I"⟩, 26), (⟨"PathStreamModel", "outOf", "([II)I"⟩, 26), (⟨"PathStreamModel", "answersOf", "([II)I"⟩, 26), (⟨"PathStreamModel", "endsAll", "([IIIZ)Z"⟩, 26), (⟨"PathStreamModel", "endsOf", "([IIIZ)I"⟩, 26), (⟨"PathStreamModel", "layWay", "([II)I"⟩, 26), (⟨"PathStreamModel", "endsAt", "([IIIIIZ)I"⟩, 26), (⟨"PathStreamModel", "isMet", "([IIIZ)Z"⟩, 26), (⟨"PathStreamModel", "doubtsOf", "([II)I"⟩, 26)]
theorem lw_r3 : ∀ q ∈ lw_privs_3, lw_okq q := List.forall_mem_cons.mpr ⟨lw_p32, List.forall_mem_cons.mpr ⟨lw_p33, List.forall_mem_cons.mpr ⟨lw_p34, List.forall_mem_cons.mpr ⟨lw_p35, List.forall_mem_cons.mpr ⟨lw_p36, List.forall_mem_cons.mpr ⟨lw_p37, List.forall_mem_cons.mpr ⟨lw_p38, List.forall_mem_cons.mpr ⟨lw_p39, List.forall_mem_cons.mpr ⟨lw_p40, List.forall_mem_cons.mpr ⟨lw_p41, List.forall_mem_cons.mpr ⟨lw_p42, List.forall_mem_cons.mpr ⟨lw_p43, List.forall_mem_cons.mpr ⟨lw_p44, List.forall_mem_cons.mpr ⟨lw_p45, List.forall_mem_cons.mpr ⟨lw_p46, List.forall_mem_cons.mpr ⟨lw_p47, fun _ h => absurd h List.not_mem_nil⟩⟩⟩⟩⟩⟩⟩⟩⟩⟩⟩⟩⟩⟩⟩⟩
theorem lw_p48 : lw_okq (⟨"PathStreamModel", "heldOf", "([II)I"⟩, 26) := ⟨⟨by decide +kernel, by decide +kernel⟩, List.mem_of_getElem? (i := 606) (by decide +kernel), List.mem_of_getElem? (i := 791) (by decide +kernel), List.mem_of_getElem? (i := 792) (by decide +kernel)⟩
theorem lw_p49 : lw_okq (⟨"PathStreamModel", "eventOn", "([II)Z"⟩, 26) := ⟨⟨by decide +kernel, by decide +kernel⟩, List.mem_of_getElem? (i := 606) (by decide +kernel), List.mem_of_getElem? (i := 798) (by decide +kernel), List.mem_of_getElem? (i := 799) (by decide +kernel)⟩
theorem lw_p50 : lw_okq (⟨"PathStreamModel", "openOn", "([II)V"⟩, 26) := ⟨⟨by decide +kernel, by decide +kernel⟩, List.mem_of_getElem? (i := 606) (by decide +kernel), List.mem_of_getElem? (i := 808) (by decide +kernel), List.mem_of_getElem? (i := 809) (by decide +kernel)⟩
theorem lw_p51 : lw_okq (⟨"PathStreamModel", "noteAll", "([I)I"⟩, 26) := ⟨⟨by decide +kernel, by decide +kernel⟩, List.mem_of_getElem? (i := 606) (by decide +kernel), List.mem_of_getElem? (i := 812) (by decide +kernel), List.mem_of_getElem? (i := 813) (by decide +kernel)⟩
theorem lw_p52 : lw_okq (⟨"PathStreamModel", "closeOn", "([I)I"⟩, 26) := ⟨⟨by decide +kernel, by decide +kernel⟩, List.mem_of_getElem? (i := 606) (by decide +kernel), List.mem_of_getElem? (i := 816) (by decide +kernel), List.mem_of_getElem? (i := 817) (by decide +kernel)⟩
theorem lw_p53 : lw_okq (⟨"PathStreamModel", "tellOn", "([II)I"⟩, 26) := ⟨⟨by decide +kernel, by decide +kernel⟩, List.mem_of_getElem? (i := 606) (by decide +kernel), List.mem_of_getElem? (i := 820) (by decide +kernel), List.mem_of_getElem? (i := 821) (by decide +kernel)⟩
theorem lw_p54 : lw_okq (⟨"PathStreamModel", "shared", "()I"⟩, 26) := ⟨⟨by decide +kernel, by decide +kernel⟩, List.mem_of_getElem? (i := 606) (by decide +kernel), List.mem_of_getElem? (i := 828) (by decide +kernel), List.mem_of_getElem? (i := 829) (by decide +kernel)⟩
theorem lw_p55 : lw_okq (⟨"PathStreamModel", "isBeginning", "(III)Z"⟩, 26) := ⟨⟨by decide +kernel, by decide +kernel⟩, List.mem_of_getElem? (i := 606) (by decide +kernel), List.mem_of_getElem? (i := 832) (by decide +kernel), List.mem_of_getElem? (i := 833) (by decide +kernel)⟩
theorem lw_p56 : lw_okq (⟨"PathStreamModel", "isElement", "(I)Z"⟩, 26) := ⟨⟨by decide +kernel, by decide +kernel⟩, List.mem_of_getElem? (i := 606) (by decide +kernel), List.mem_of_getElem? (i := 840) (by decide +kernel), List.mem_of_getElem? (i := 841) (by decide +kernel)⟩
theorem lw_p57 : lw_okq (⟨"PathStreamModel", "isPath", "(I)Z"⟩, 26) := ⟨⟨by decide +kernel, by decide +kernel⟩, List.mem_of_getElem? (i := 606) (by decide +kernel), List.mem_of_getElem? (i := 848) (by decide +kernel), List.mem_of_getElem? (i := 849) (by decide +kernel)⟩
theorem lw_p58 : lw_okq (⟨"PathStreamModel", "note", "()V"⟩, 26) := ⟨⟨by decide +kernel, by decide +kernel⟩, List.mem_of_getElem? (i := 606) (by decide +kernel), List.mem_of_getElem? (i := 875) (by decide +kernel), List.mem_of_getElem? (i := 876) (by decide +kernel)⟩
theorem lw_p59 : lw_okq (⟨"PathStreamModel", "judged", "(III)Z"⟩, 26) := ⟨⟨by decide +kernel, by decide +kernel⟩, List.mem_of_getElem? (i := 606) (by decide +kernel), List.mem_of_getElem? (i := 922) (by decide +kernel), List.mem_of_getElem? (i := 923) (by decide +kernel)⟩
theorem lw_p60 : lw_okq (⟨"PathStreamModel", "layWorth", "()V"⟩, 26) := ⟨⟨by decide +kernel, by decide +kernel⟩, List.mem_of_getElem? (i := 606) (by decide +kernel), List.mem_of_getElem? (i := 943) (by decide +kernel), List.mem_of_getElem? (i := 944) (by decide +kernel)⟩
def lw_privs_4 : List (MethodName × Nat) := [(⟨"PathStreamModel", "heldOf", "([II)I"⟩, 26), (⟨"PathStreamModel", "eventOn", "([II)Z"⟩, 26), (⟨"PathStreamModel", "openOn", "([II)V"⟩, 26), (⟨"PathStreamModel", "noteAll", "([I)I"⟩, 26), (⟨"PathStreamModel", "closeOn", "([I)I"⟩, 26), (⟨"PathStreamModel", "tellOn", "([II)I"⟩, 26), (⟨"PathStreamModel", "shared", "()I"⟩, 26), (⟨"PathStreamModel", "isBeginning", "(III)Z"⟩, 26), (⟨"PathStreamModel", "isElement", "(I)Z"⟩, 26), (⟨"PathStreamModel", "isPath", "(I)Z"⟩, 26), (⟨"PathStreamModel", "note", "()V"⟩, 26), (⟨"PathStreamModel", "judged", "(III)Z"⟩, 26), (⟨"PathStreamModel", "layWorth", "()V"⟩, 26)]
theorem lw_r4 : ∀ q ∈ lw_privs_4, lw_okq q := List.forall_mem_cons.mpr ⟨lw_p48, List.forall_mem_cons.mpr ⟨lw_p49, List.forall_mem_cons.mpr ⟨lw_p50, List.forall_mem_cons.mpr ⟨lw_p51, List.forall_mem_cons.mpr ⟨lw_p52, List.forall_mem_cons.mpr ⟨lw_p53, List.forall_mem_cons.mpr ⟨lw_p54, List.forall_mem_cons.mpr ⟨lw_p55, List.forall_mem_cons.mpr ⟨lw_p56, List.forall_mem_cons.mpr ⟨lw_p57, List.forall_mem_cons.mpr ⟨lw_p58, List.forall_mem_cons.mpr ⟨lw_p59, List.forall_mem_cons.mpr ⟨lw_p60, fun _ h => absurd h List.not_mem_nil⟩⟩⟩⟩⟩⟩⟩⟩⟩⟩⟩⟩⟩
def lw_privs : List (MethodName × Nat) := lw_privs_1 ++ (lw_privs_2 ++ (lw_privs_3 ++ (lw_privs_4)))
def lw_tbl : List Cond := k2_sels lw_privs ++ tables_1
theorem lw_privs_ok : ∀ q ∈ lw_privs, lw_okq q := by
  show ∀ q ∈ lw_privs_1 ++ (lw_privs_2 ++ (lw_privs_3 ++ (lw_privs_4))), lw_okq q
  exact List.forall_mem_append.mpr ⟨lw_r1, List.forall_mem_append.mpr ⟨lw_r2, List.forall_mem_append.mpr ⟨lw_r3, lw_r4⟩⟩⟩
-- ===== end of PART A; then your names; then what follows =====
/-! ===== BEGIN printed: names, fields, word lists, decode rows ===== -/
def RX0 : String := "PathStream$Elements"
def TX0 : u_T := fun k => match k with
  | 0 => ("PathStream$Elements", "names", "[I", true)
  | 1 => ("PathStream$Elements", "parents", "[I", true)
  | 2 => ("PathStream$Elements", "depths", "[I", true)
  | 3 => ("PathStream$Elements", "digitSets", "[I", true)
  | 4 => ("PathStream$Elements", "childNames", "[I", true)
  | 5 => ("PathStream$Elements", "openSet", "I", false)
  | 6 => ("PathStream$Elements", "count", "I", false)
  | 7 => ("PathStream$Elements", "current", "I", false)
  | _ => ("PathStream$Elements", "clock", "I", false)
def tyX0 : Nat → FieldType := fun k => match k with
  | 0 => .array .int
  | 1 => .array .int
  | 2 => .array .int
  | 3 => .array .int
  | 4 => .array .int
  | 5 => .int
  | 6 => .int
  | 7 => .int
  | _ => .int
abbrev wsX00 : List Cond := u_ws RX0 TX0 9
theorem nmX0 : ∀ a, a < 9 → ∀ b, b < 9 → a ≠ b → (TX0 a).2.1 ≠ (TX0 b).2.1 := by decide +kernel
theorem tyX0_ok : ∀ k, k < 9 → parseFieldDescriptor (TX0 k).2.2.1 = some (tyX0 k) := by decide +kernel
abbrev cX0_init : ByteArray := prog_2_method_1_code
def yX0_init : MethodName := ⟨RX0, "<init>", "()V"⟩
abbrev cX0_clear : ByteArray := prog_2_method_2_code
def yX0_clear : MethodName := ⟨RX0, "clear", "()V"⟩
abbrev cX0_copyFrom : ByteArray := prog_2_method_3_code
def yX0_copyFrom : MethodName := ⟨RX0, "copyFrom", "(LPathStream$Elements;)V"⟩
abbrev cX0_currentDepth : ByteArray := prog_2_method_4_code
def yX0_currentDepth : MethodName := ⟨RX0, "currentDepth", "()I"⟩
abbrev cX0_openRefusal : ByteArray := prog_2_method_5_code
def yX0_openRefusal : MethodName := ⟨RX0, "openRefusal", "()I"⟩
abbrev cX0_enter : ByteArray := prog_2_method_6_code
def yX0_enter : MethodName := ⟨RX0, "enter", "(I)Z"⟩
abbrev cX0_leave : ByteArray := prog_2_method_7_code
def yX0_leave : MethodName := ⟨RX0, "leave", "()Z"⟩
abbrev cX0_hold : ByteArray := prog_2_method_8_code
def yX0_hold : MethodName := ⟨RX0, "hold", "(I)Z"⟩
abbrev cX0_fulfilled : ByteArray := prog_2_method_9_code
def yX0_fulfilled : MethodName := ⟨RX0, "fulfilled", "(I)I"⟩
def RX1 : String := "PathStream$Matcher"
def TX1 : u_T := fun k => match k with
  | 0 => ("PathStream$Matcher", "sure", "[I", true)
  | 1 => ("PathStream$Matcher", "possible", "[I", true)
  | 2 => ("PathStream$Matcher", "sureAround", "[I", true)
  | 3 => ("PathStream$Matcher", "possibleAround", "[I", true)
  | 4 => ("PathStream$Matcher", "answers", "I", false)
  | _ => ("PathStream$Matcher", "doubts", "I", false)
def tyX1 : Nat → FieldType := fun k => match k with
  | 0 => .array .int
  | 1 => .array .int
  | 2 => .array .int
  | 3 => .array .int
  | 4 => .int
  | _ => .int
abbrev wsX10 : List Cond := u_ws RX1 TX1 6
theorem nmX1 : ∀ a, a < 6 → ∀ b, b < 6 → a ≠ b → (TX1 a).2.1 ≠ (TX1 b).2.1 := by decide +kernel
theorem tyX1_ok : ∀ k, k < 6 → parseFieldDescriptor (TX1 k).2.2.1 = some (tyX1 k) := by decide +kernel
abbrev cX1_init : ByteArray := prog_3_method_1_code
def yX1_init : MethodName := ⟨RX1, "<init>", "()V"⟩
abbrev cX1_match : ByteArray := prog_3_method_2_code
def yX1_match : MethodName := ⟨RX1, "match", "(LPathStream$Elements;LPathStream$Path;)V"⟩
abbrev cX1_lookAround : ByteArray := prog_3_method_3_code
def yX1_lookAround : MethodName := ⟨RX1, "lookAround", "(II)V"⟩
abbrev cX1_matchElement : ByteArray := prog_3_method_4_code
def yX1_matchElement : MethodName := ⟨RX1, "matchElement", "(LPathStream$Elements;ILPathStream$Path;)V"⟩
abbrev cX1_hasPrefix : ByteArray := prog_3_method_5_code
def yX1_hasPrefix : MethodName := ⟨RX1, "hasPrefix", "(II)Z"⟩
abbrev cX1_note : ByteArray := prog_3_method_6_code
def yX1_note : MethodName := ⟨RX1, "note", "(II)V"⟩
def RX2 : String := "PathStream$Path"
def TX2 : u_T := fun k => match k with
  | 0 => ("PathStream$Path", "steps", "[I", true)
  | 1 => ("PathStream$Path", "outElements", "[I", true)
  | 2 => ("PathStream$Path", "outTimes", "[I", true)
  | 3 => ("PathStream$Path", "stepCount", "I", false)
  | 4 => ("PathStream$Path", "outCount", "I", false)
  | 5 => ("PathStream$Path", "outSet", "I", false)
  | _ => ("PathStream$Path", "peak", "I", false)
def tyX2 : Nat → FieldType := fun k => match k with
  | 0 => .array .int
  | 1 => .array .int
  | 2 => .array .int
  | 3 => .int
  | 4 => .int
  | 5 => .int
  | _ => .int
abbrev wsX20 : List Cond := u_ws RX2 TX2 7
theorem nmX2 : ∀ a, a < 7 → ∀ b, b < 7 → a ≠ b → (TX2 a).2.1 ≠ (TX2 b).2.1 := by decide +kernel
theorem tyX2_ok : ∀ k, k < 7 → parseFieldDescriptor (TX2 k).2.2.1 = some (tyX2 k) := by decide +kernel
abbrev cX2_init : ByteArray := prog_4_method_1_code
def yX2_init : MethodName := ⟨RX2, "<init>", "()V"⟩
abbrev cX2_begin : ByteArray := prog_4_method_2_code
def yX2_begin : MethodName := ⟨RX2, "begin", "([II)V"⟩
abbrev cX2_copyFrom : ByteArray := prog_4_method_3_code
def yX2_copyFrom : MethodName := ⟨RX2, "copyFrom", "(LPathStream$Path;)V"⟩
abbrev cX2_setLastTest : ByteArray := prog_4_method_4_code
def yX2_setLastTest : MethodName := ⟨RX2, "setLastTest", "(I)V"⟩
abbrev cX2_beginsLike : ByteArray := prog_4_method_5_code
def yX2_beginsLike : MethodName := ⟨RX2, "beginsLike", "(LPathStream$Path;I)Z"⟩
abbrev cX2_bufferSize : ByteArray := prog_4_method_6_code
def yX2_bufferSize : MethodName := ⟨RX2, "bufferSize", "(LPathStream$Matcher;)I"⟩
abbrev cX2_emit : ByteArray := prog_4_method_7_code
def yX2_emit : MethodName := ⟨RX2, "emit", "(LPathStream$Matcher;I)I"⟩
def RX3 : String := "PathStream$State"
def TX3 : u_T := fun k => match k with
  | 0 => ("PathStream$State", "elements", "LPathStream$Elements;", true)
  | 1 => ("PathStream$State", "paths", "[LPathStream$Path;", true)
  | _ => ("PathStream$State", "pathCount", "I", false)
def tyX3 : Nat → FieldType := fun k => match k with
  | 0 => .object "PathStream$Elements"
  | 1 => .array (.object "PathStream$Path")
  | _ => .int
abbrev wsX30 : List Cond := u_ws RX3 TX3 3
theorem nmX3 : ∀ a, a < 3 → ∀ b, b < 3 → a ≠ b → (TX3 a).2.1 ≠ (TX3 b).2.1 := by decide +kernel
theorem tyX3_ok : ∀ k, k < 3 → parseFieldDescriptor (TX3 k).2.2.1 = some (tyX3 k) := by decide +kernel
abbrev cX3_init : ByteArray := prog_5_method_1_code
def yX3_init : MethodName := ⟨RX3, "<init>", "()V"⟩
abbrev cX3_clear : ByteArray := prog_5_method_2_code
def yX3_clear : MethodName := ⟨RX3, "clear", "()V"⟩
abbrev cX3_copyFrom : ByteArray := prog_5_method_3_code
def yX3_copyFrom : MethodName := ⟨RX3, "copyFrom", "(LPathStream$State;)V"⟩
abbrev cX3_addPath : ByteArray := prog_5_method_4_code
def yX3_addPath : MethodName := ⟨RX3, "addPath", "([II)V"⟩
abbrev cX3_emitAll : ByteArray := prog_5_method_5_code
def yX3_emitAll : MethodName := ⟨RX3, "emitAll", "(LPathStream$Matcher;)I"⟩
abbrev cX3_emitOne : ByteArray := prog_5_method_6_code
def yX3_emitOne : MethodName := ⟨RX3, "emitOne", "(ILPathStream$Matcher;)I"⟩
abbrev cX3_differentPrefixes : ByteArray := prog_5_method_7_code
def yX3_differentPrefixes : MethodName := ⟨RX3, "differentPrefixes", "()I"⟩
abbrev cX3_earlierBeginsLike : ByteArray := prog_5_method_8_code
def yX3_earlierBeginsLike : MethodName := ⟨RX3, "earlierBeginsLike", "(II)Z"⟩
def RX4 : String := "PathStream$TaskReader"
def TX4 : u_T := fun k => match k with
  | 0 => ("PathStream$TaskReader", "steps", "[I", true)
  | 1 => ("PathStream$TaskReader", "stepCount", "I", false)
  | _ => ("PathStream$TaskReader", "phase", "I", false)
def tyX4 : Nat → FieldType := fun k => match k with
  | 0 => .array .int
  | 1 => .int
  | _ => .int
abbrev wsX40 : List Cond := u_ws RX4 TX4 3
theorem nmX4 : ∀ a, a < 3 → ∀ b, b < 3 → a ≠ b → (TX4 a).2.1 ≠ (TX4 b).2.1 := by decide +kernel
theorem tyX4_ok : ∀ k, k < 3 → parseFieldDescriptor (TX4 k).2.2.1 = some (tyX4 k) := by decide +kernel
abbrev cX4_init : ByteArray := prog_6_method_1_code
def yX4_init : MethodName := ⟨RX4, "<init>", "()V"⟩
abbrev cX4_begin : ByteArray := prog_6_method_2_code
def yX4_begin : MethodName := ⟨RX4, "begin", "()V"⟩
abbrev cX4_mayEnd : ByteArray := prog_6_method_3_code
def yX4_mayEnd : MethodName := ⟨RX4, "mayEnd", "()Z"⟩
abbrev cX4_takes : ByteArray := prog_6_method_4_code
def yX4_takes : MethodName := ⟨RX4, "takes", "(CLPathStream$State;)Z"⟩
abbrev cX4_goesOn : ByteArray := prog_6_method_5_code
def yX4_goesOn : MethodName := ⟨RX4, "goesOn", "(ZI)Z"⟩
abbrev cX4_beginsPath : ByteArray := prog_6_method_6_code
def yX4_beginsPath : MethodName := ⟨RX4, "beginsPath", "(LPathStream$State;)Z"⟩
abbrev cX4_takesEvent : ByteArray := prog_6_method_7_code
def yX4_takesEvent : MethodName := ⟨RX4, "takesEvent", "(CLPathStream$Elements;)Z"⟩
abbrev cX4_takesAxis : ByteArray := prog_6_method_8_code
def yX4_takesAxis : MethodName := ⟨RX4, "takesAxis", "(C)Z"⟩
abbrev cX4_takesTest : ByteArray := prog_6_method_9_code
def yX4_takesTest : MethodName := ⟨RX4, "takesTest", "(C)Z"⟩
abbrev cX4_takesChildName : ByteArray := prog_6_method_10_code
def yX4_takesChildName : MethodName := ⟨RX4, "takesChildName", "(C)Z"⟩
abbrev cX4_takesFigure : ByteArray := prog_6_method_11_code
def yX4_takesFigure : MethodName := ⟨RX4, "takesFigure", "(C)Z"⟩
abbrev cX4_addsToStep : ByteArray := prog_6_method_12_code
def yX4_addsToStep : MethodName := ⟨RX4, "addsToStep", "(ZII)Z"⟩
abbrev cX4_takesNextStep : ByteArray := prog_6_method_13_code
def yX4_takesNextStep : MethodName := ⟨RX4, "takesNextStep", "(CLPathStream$State;)Z"⟩
abbrev cX4_nameOf : ByteArray := prog_6_method_14_code
def yX4_nameOf : MethodName := ⟨RX4, "nameOf", "(C)I"⟩
abbrev cX4_figureOf : ByteArray := prog_6_method_15_code
def yX4_figureOf : MethodName := ⟨RX4, "figureOf", "(C)I"⟩
def RX5 : String := "PathStream"
def TX5 : u_T := fun k => match k with
  | 0 => ("PathStream", "now", "LPathStream$State;", true)
  | 1 => ("PathStream", "trial", "LPathStream$State;", true)
  | 2 => ("PathStream", "before", "[LPathStream$State;", true)
  | 3 => ("PathStream", "slots", "[LPathStream$State;", true)
  | 4 => ("PathStream", "slotHolds", "[Z", true)
  | 5 => ("PathStream", "matcher", "LPathStream$Matcher;", true)
  | 6 => ("PathStream", "reader", "LPathStream$TaskReader;", true)
  | 7 => ("PathStream", "text", "[C", true)
  | 8 => ("PathStream", "seenPaths", "[I", true)
  | 9 => ("PathStream", "seenCounts", "[I", true)
  | 10 => ("PathStream", "parts", "[I", true)
  | 11 => ("PathStream", "answerSets", "[I", true)
  | 12 => ("PathStream", "textLength", "I", false)
  | 13 => ("PathStream", "actions", "I", false)
  | 14 => ("PathStream", "nextAction", "I", false)
  | 15 => ("PathStream", "observations", "I", false)
  | _ => ("PathStream", "random", "J", false)
def tyX5 : Nat → FieldType := fun k => match k with
  | 0 => .object "PathStream$State"
  | 1 => .object "PathStream$State"
  | 2 => .array (.object "PathStream$State")
  | 3 => .array (.object "PathStream$State")
  | 4 => .array .boolean
  | 5 => .object "PathStream$Matcher"
  | 6 => .object "PathStream$TaskReader"
  | 7 => .array .char
  | 8 => .array .int
  | 9 => .array .int
  | 10 => .array .int
  | 11 => .array .int
  | 12 => .int
  | 13 => .int
  | 14 => .int
  | 15 => .int
  | _ => .long
abbrev wsX50 : List Cond := u_ws RX5 TX5 17
theorem nmX5 : ∀ a, a < 17 → ∀ b, b < 17 → a ≠ b → (TX5 a).2.1 ≠ (TX5 b).2.1 := by decide +kernel
theorem tyX5_ok : ∀ k, k < 17 → parseFieldDescriptor (TX5 k).2.2.1 = some (tyX5 k) := by decide +kernel
abbrev cX5_init : ByteArray := prog_1_method_1_code
def yX5_init : MethodName := ⟨RX5, "<init>", "()V"⟩
abbrev cX5_write : ByteArray := prog_1_method_2_code
def yX5_write : MethodName := ⟨RX5, "write", "(I)I"⟩
abbrev cX5_wipe : ByteArray := prog_1_method_3_code
def yX5_wipe : MethodName := ⟨RX5, "wipe", "()I"⟩
abbrev cX5_fault : ByteArray := prog_1_method_4_code
def yX5_fault : MethodName := ⟨RX5, "fault", "()I"⟩
abbrev cX5_task : ByteArray := prog_1_method_5_code
def yX5_task : MethodName := ⟨RX5, "task", "()I"⟩
abbrev cX5_about : ByteArray := prog_1_method_6_code
def yX5_about : MethodName := ⟨RX5, "about", "(I)I"⟩
abbrev cX5_element : ByteArray := prog_1_method_7_code
def yX5_element : MethodName := ⟨RX5, "element", "(II)I"⟩
abbrev cX5_path : ByteArray := prog_1_method_8_code
def yX5_path : MethodName := ⟨RX5, "path", "(II)I"⟩
abbrev cX5_step : ByteArray := prog_1_method_9_code
def yX5_step : MethodName := ⟨RX5, "step", "(II)I"⟩
abbrev cX5_is : ByteArray := prog_1_method_10_code
def yX5_is : MethodName := ⟨RX5, "is", "(II)I"⟩
abbrev cX5_ends : ByteArray := prog_1_method_11_code
def yX5_ends : MethodName := ⟨RX5, "ends", "(II)I"⟩
abbrev cX5_out : ByteArray := prog_1_method_12_code
def yX5_out : MethodName := ⟨RX5, "out", "(IIZ)I"⟩
abbrev cX5_open : ByteArray := prog_1_method_13_code
def yX5_open : MethodName := ⟨RX5, "open", "(I)I"⟩
abbrev cX5_close : ByteArray := prog_1_method_14_code
def yX5_close : MethodName := ⟨RX5, "close", "()I"⟩
abbrev cX5_tell : ByteArray := prog_1_method_15_code
def yX5_tell : MethodName := ⟨RX5, "tell", "(I)I"⟩
abbrev cX5_ask : ByteArray := prog_1_method_16_code
def yX5_ask : MethodName := ⟨RX5, "ask", "(IJ)I"⟩
abbrev cX5_drop : ByteArray := prog_1_method_17_code
def yX5_drop : MethodName := ⟨RX5, "drop", "()I"⟩
abbrev cX5_undo : ByteArray := prog_1_method_18_code
def yX5_undo : MethodName := ⟨RX5, "undo", "()I"⟩
abbrev cX5_within : ByteArray := prog_1_method_19_code
def yX5_within : MethodName := ⟨RX5, "within", "(II)I"⟩
abbrev cX5_judge : ByteArray := prog_1_method_20_code
def yX5_judge : MethodName := ⟨RX5, "judge", "(IJ)I"⟩
abbrev cX5_see : ByteArray := prog_1_method_21_code
def yX5_see : MethodName := ⟨RX5, "see", "(II)I"⟩
abbrev cX5_unsee : ByteArray := prog_1_method_22_code
def yX5_unsee : MethodName := ⟨RX5, "unsee", "()I"⟩
abbrev cX5_which : ByteArray := prog_1_method_23_code
def yX5_which : MethodName := ⟨RX5, "which", "()I"⟩
abbrev cX5_share : ByteArray := prog_1_method_24_code
def yX5_share : MethodName := ⟨RX5, "share", "(IZ)I"⟩
abbrev cX5_chance : ByteArray := prog_1_method_25_code
def yX5_chance : MethodName := ⟨RX5, "chance", "(IIZ)I"⟩
abbrev cX5_seed : ByteArray := prog_1_method_26_code
def yX5_seed : MethodName := ⟨RX5, "seed", "(J)J"⟩
abbrev cX5_drawn : ByteArray := prog_1_method_27_code
def yX5_drawn : MethodName := ⟨RX5, "drawn", "(I)I"⟩
abbrev cX5_keep : ByteArray := prog_1_method_28_code
def yX5_keep : MethodName := ⟨RX5, "keep", "(I)I"⟩
abbrev cX5_again : ByteArray := prog_1_method_29_code
def yX5_again : MethodName := ⟨RX5, "again", "(I)I"⟩
abbrev cX5_isElement : ByteArray := prog_1_method_30_code
def yX5_isElement : MethodName := ⟨RX5, "isElement", "(I)Z"⟩
abbrev cX5_isPath : ByteArray := prog_1_method_31_code
def yX5_isPath : MethodName := ⟨RX5, "isPath", "(I)Z"⟩
abbrev cX5_readTask : ByteArray := prog_1_method_32_code
def yX5_readTask : MethodName := ⟨RX5, "readTask", "(Z)I"⟩
abbrev cX5_recordAction : ByteArray := prog_1_method_33_code
def yX5_recordAction : MethodName := ⟨RX5, "recordAction", "()V"⟩
abbrev cX5_forgetActions : ByteArray := prog_1_method_34_code
def yX5_forgetActions : MethodName := ⟨RX5, "forgetActions", "()V"⟩
abbrev cX5_answersOf : ByteArray := prog_1_method_35_code
def yX5_answersOf : MethodName := ⟨RX5, "answersOf", "(LPathStream$State;I)I"⟩
abbrev cX5_pathNumber : ByteArray := prog_1_method_36_code
def yX5_pathNumber : MethodName := ⟨RX5, "pathNumber", "(LPathStream$State;II)I"⟩
abbrev cX5_splits : ByteArray := prog_1_method_37_code
def yX5_splits : MethodName := ⟨RX5, "splits", "(JII)Z"⟩
abbrev cX5_partsAreSteps : ByteArray := prog_1_method_38_code
def yX5_partsAreSteps : MethodName := ⟨RX5, "partsAreSteps", "(I)Z"⟩
abbrev cX5_comesTrue : ByteArray := prog_1_method_39_code
def yX5_comesTrue : MethodName := ⟨RX5, "comesTrue", "(III)Z"⟩
abbrev cX5_emitsAfter : ByteArray := prog_1_method_40_code
def yX5_emitsAfter : MethodName := ⟨RX5, "emitsAfter", "(Z)Z"⟩
abbrev cX5_agreesWithAll : ByteArray := prog_1_method_41_code
def yX5_agreesWithAll : MethodName := ⟨RX5, "agreesWithAll", "(I)Z"⟩
abbrev cX5_answersWithLastTest : ByteArray := prog_1_method_42_code
def yX5_answersWithLastTest : MethodName := ⟨RX5, "answersWithLastTest", "(II)I"⟩
abbrev cX5_findAnswerSets : ByteArray := prog_1_method_43_code
def yX5_findAnswerSets : MethodName := ⟨RX5, "findAnswerSets", "()V"⟩
abbrev cX5_pathsAnswering : ByteArray := prog_1_method_44_code
def yX5_pathsAnswering : MethodName := ⟨RX5, "pathsAnswering", "(I)I"⟩
abbrev cX5_answersOfAny : ByteArray := prog_1_method_45_code
def yX5_answersOfAny : MethodName := ⟨RX5, "answersOfAny", "(I)I"⟩
abbrev cX5_weightOf : ByteArray := prog_1_method_46_code
def yX5_weightOf : MethodName := ⟨RX5, "weightOf", "(II)I"⟩
abbrev cX5_inLowestTerms : ByteArray := prog_1_method_47_code
def yX5_inLowestTerms : MethodName := ⟨RX5, "inLowestTerms", "(IIZ)I"⟩
abbrev cX5_greatestDivisor : ByteArray := prog_1_method_48_code
def yX5_greatestDivisor : MethodName := ⟨RX5, "greatestDivisor", "(II)I"⟩
abbrev cX5_drawEvent : ByteArray := prog_1_method_49_code
def yX5_drawEvent : MethodName := ⟨RX5, "drawEvent", "(LPathStream$Elements;)V"⟩
def RX6 : String := "PathStreamModel"
def TX6 : u_T := fun k => match k with
  | 0 => ("PathStreamModel", "text", "[I", true)
  | 1 => ("PathStreamModel", "length", "I", false)
  | 2 => ("PathStreamModel", "now", "[I", true)
  | 3 => ("PathStreamModel", "trial", "[I", true)
  | 4 => ("PathStreamModel", "diary", "[I", true)
  | 5 => ("PathStreamModel", "acts", "I", false)
  | 6 => ("PathStreamModel", "next", "I", false)
  | 7 => ("PathStreamModel", "kept", "[I", true)
  | 8 => ("PathStreamModel", "isKept", "[Z", true)
  | 9 => ("PathStreamModel", "seenPath", "[I", true)
  | 10 => ("PathStreamModel", "seenIs", "[I", true)
  | 11 => ("PathStreamModel", "seen", "I", false)
  | 12 => ("PathStreamModel", "seed", "J", false)
  | 13 => ("PathStreamModel", "otherTest", "I", false)
  | 14 => ("PathStreamModel", "way", "[I", true)
  | 15 => ("PathStreamModel", "ended", "[I", true)
  | 16 => ("PathStreamModel", "worth", "[I", true)
  | 17 => ("PathStreamModel", "answers", "[I", true)
  | 18 => ("PathStreamModel", "part", "I", false)
  | 19 => ("PathStreamModel", "readPaths", "I", false)
  | 20 => ("PathStreamModel", "readLong", "[I", true)
  | 21 => ("PathStreamModel", "readStep", "[I", true)
  | 22 => ("PathStreamModel", "readEvents", "I", false)
  | 23 => ("PathStreamModel", "readEvent", "[I", true)
  | 24 => ("PathStreamModel", "readDepth", "I", false)
  | _ => ("PathStreamModel", "readElements", "I", false)
def tyX6 : Nat → FieldType := fun k => match k with
  | 0 => .array .int
  | 1 => .int
  | 2 => .array .int
  | 3 => .array .int
  | 4 => .array .int
  | 5 => .int
  | 6 => .int
  | 7 => .array .int
  | 8 => .array .boolean
  | 9 => .array .int
  | 10 => .array .int
  | 11 => .int
  | 12 => .long
  | 13 => .int
  | 14 => .array .int
  | 15 => .array .int
  | 16 => .array .int
  | 17 => .array .int
  | 18 => .int
  | 19 => .int
  | 20 => .array .int
  | 21 => .array .int
  | 22 => .int
  | 23 => .array .int
  | 24 => .int
  | _ => .int
abbrev wsX60 : List Cond := u_ws RX6 TX6 26
theorem nmX6 : ∀ a, a < 26 → ∀ b, b < 26 → a ≠ b → (TX6 a).2.1 ≠ (TX6 b).2.1 := by decide +kernel
theorem tyX6_ok : ∀ k, k < 26 → parseFieldDescriptor (TX6 k).2.2.1 = some (tyX6 k) := by decide +kernel
abbrev cX6_init : ByteArray := prog_8_method_1_code
def yX6_init : MethodName := ⟨RX6, "<init>", "()V"⟩
abbrev cX6_clear : ByteArray := prog_8_method_3_code
def yX6_clear : MethodName := ⟨RX6, "clear", "([I)V"⟩
abbrev cX6_copy : ByteArray := prog_8_method_4_code
def yX6_copy : MethodName := ⟨RX6, "copy", "([I[I)V"⟩
abbrev cX6_in : ByteArray := prog_8_method_5_code
def yX6_in : MethodName := ⟨RX6, "in", "(JJJ)Z"⟩
abbrev cX6_has : ByteArray := prog_8_method_6_code
def yX6_has : MethodName := ⟨RX6, "has", "(II)Z"⟩
abbrev cX6_ones : ByteArray := prog_8_method_7_code
def yX6_ones : MethodName := ⟨RX6, "ones", "(I)I"⟩
abbrev cX6_power : ByteArray := prog_8_method_8_code
def yX6_power : MethodName := ⟨RX6, "power", "(II)I"⟩
abbrev cX6_factorial : ByteArray := prog_8_method_9_code
def yX6_factorial : MethodName := ⟨RX6, "factorial", "(I)I"⟩
abbrev cX6_fraction : ByteArray := prog_8_method_10_code
def yX6_fraction : MethodName := ⟨RX6, "fraction", "(IIZ)I"⟩
abbrev cX6_isPath : ByteArray := prog_8_method_11_code
def yX6_isPath : MethodName := ⟨RX6, "isPath", "(I)Z"⟩
abbrev cX6_isElement : ByteArray := prog_8_method_12_code
def yX6_isElement : MethodName := ⟨RX6, "isElement", "(I)Z"⟩
abbrev cX6_write : ByteArray := prog_8_method_13_code
def yX6_write : MethodName := ⟨RX6, "write", "(I)I"⟩
abbrev cX6_wipe : ByteArray := prog_8_method_14_code
def yX6_wipe : MethodName := ⟨RX6, "wipe", "()I"⟩
abbrev cX6_takeEvent : ByteArray := prog_8_method_15_code
def yX6_takeEvent : MethodName := ⟨RX6, "takeEvent", "(I)Z"⟩
abbrev cX6_takeTop : ByteArray := prog_8_method_16_code
def yX6_takeTop : MethodName := ⟨RX6, "takeTop", "(I)Z"⟩
abbrev cX6_takeAxis : ByteArray := prog_8_method_17_code
def yX6_takeAxis : MethodName := ⟨RX6, "takeAxis", "(I)Z"⟩
abbrev cX6_takeBehind : ByteArray := prog_8_method_18_code
def yX6_takeBehind : MethodName := ⟨RX6, "takeBehind", "(I)Z"⟩
abbrev cX6_addToStep : ByteArray := prog_8_method_19_code
def yX6_addToStep : MethodName := ⟨RX6, "addToStep", "(I)V"⟩
abbrev cX6_take : ByteArray := prog_8_method_20_code
def yX6_take : MethodName := ⟨RX6, "take", "(I)Z"⟩
abbrev cX6_readText : ByteArray := prog_8_method_21_code
def yX6_readText : MethodName := ⟨RX6, "readText", "()I"⟩
abbrev cX6_fault : ByteArray := prog_8_method_22_code
def yX6_fault : MethodName := ⟨RX6, "fault", "()I"⟩
abbrev cX6_childNames : ByteArray := prog_8_method_23_code
def yX6_childNames : MethodName := ⟨RX6, "childNames", "([II)I"⟩
abbrev cX6_isMet : ByteArray := prog_8_method_24_code
def yX6_isMet : MethodName := ⟨RX6, "isMet", "([IIIZ)Z"⟩
abbrev cX6_layWay : ByteArray := prog_8_method_25_code
def yX6_layWay : MethodName := ⟨RX6, "layWay", "([II)I"⟩
abbrev cX6_endsAt : ByteArray := prog_8_method_26_code
def yX6_endsAt : MethodName := ⟨RX6, "endsAt", "([IIIIIZ)I"⟩
abbrev cX6_endsOf : ByteArray := prog_8_method_27_code
def yX6_endsOf : MethodName := ⟨RX6, "endsOf", "([IIIZ)I"⟩
abbrev cX6_endsAll : ByteArray := prog_8_method_28_code
def yX6_endsAll : MethodName := ⟨RX6, "endsAll", "([IIIZ)Z"⟩
abbrev cX6_answersOf : ByteArray := prog_8_method_29_code
def yX6_answersOf : MethodName := ⟨RX6, "answersOf", "([II)I"⟩
abbrev cX6_doubtsOf : ByteArray := prog_8_method_30_code
def yX6_doubtsOf : MethodName := ⟨RX6, "doubtsOf", "([II)I"⟩
abbrev cX6_outOf : ByteArray := prog_8_method_31_code
def yX6_outOf : MethodName := ⟨RX6, "outOf", "([II)I"⟩
abbrev cX6_heldOf : ByteArray := prog_8_method_32_code
def yX6_heldOf : MethodName := ⟨RX6, "heldOf", "([II)I"⟩
abbrev cX6_noteOut : ByteArray := prog_8_method_33_code
def yX6_noteOut : MethodName := ⟨RX6, "noteOut", "([II)I"⟩
abbrev cX6_noteAll : ByteArray := prog_8_method_34_code
def yX6_noteAll : MethodName := ⟨RX6, "noteAll", "([I)I"⟩
abbrev cX6_depthOf : ByteArray := prog_8_method_35_code
def yX6_depthOf : MethodName := ⟨RX6, "depthOf", "([II)I"⟩
abbrev cX6_mayOpen : ByteArray := prog_8_method_36_code
def yX6_mayOpen : MethodName := ⟨RX6, "mayOpen", "([I)Z"⟩
abbrev cX6_openOn : ByteArray := prog_8_method_37_code
def yX6_openOn : MethodName := ⟨RX6, "openOn", "([II)V"⟩
abbrev cX6_closeOn : ByteArray := prog_8_method_38_code
def yX6_closeOn : MethodName := ⟨RX6, "closeOn", "([I)I"⟩
abbrev cX6_tellOn : ByteArray := prog_8_method_39_code
def yX6_tellOn : MethodName := ⟨RX6, "tellOn", "([II)I"⟩
abbrev cX6_eventOn : ByteArray := prog_8_method_40_code
def yX6_eventOn : MethodName := ⟨RX6, "eventOn", "([II)Z"⟩
abbrev cX6_askOn : ByteArray := prog_8_method_41_code
def yX6_askOn : MethodName := ⟨RX6, "askOn", "([IIIIII)V"⟩
abbrev cX6_task : ByteArray := prog_8_method_42_code
def yX6_task : MethodName := ⟨RX6, "task", "()I"⟩
abbrev cX6_isBeginning : ByteArray := prog_8_method_43_code
def yX6_isBeginning : MethodName := ⟨RX6, "isBeginning", "(III)Z"⟩
abbrev cX6_shared : ByteArray := prog_8_method_44_code
def yX6_shared : MethodName := ⟨RX6, "shared", "()I"⟩
abbrev cX6_about : ByteArray := prog_8_method_45_code
def yX6_about : MethodName := ⟨RX6, "about", "(I)I"⟩
abbrev cX6_element : ByteArray := prog_8_method_46_code
def yX6_element : MethodName := ⟨RX6, "element", "(II)I"⟩
abbrev cX6_path : ByteArray := prog_8_method_47_code
def yX6_path : MethodName := ⟨RX6, "path", "(II)I"⟩
abbrev cX6_step : ByteArray := prog_8_method_48_code
def yX6_step : MethodName := ⟨RX6, "step", "(II)I"⟩
abbrev cX6_is : ByteArray := prog_8_method_49_code
def yX6_is : MethodName := ⟨RX6, "is", "(II)I"⟩
abbrev cX6_ends : ByteArray := prog_8_method_50_code
def yX6_ends : MethodName := ⟨RX6, "ends", "(II)I"⟩
abbrev cX6_out : ByteArray := prog_8_method_51_code
def yX6_out : MethodName := ⟨RX6, "out", "(IIZ)I"⟩
abbrev cX6_note : ByteArray := prog_8_method_52_code
def yX6_note : MethodName := ⟨RX6, "note", "()V"⟩
abbrev cX6_open : ByteArray := prog_8_method_53_code
def yX6_open : MethodName := ⟨RX6, "open", "(I)I"⟩
abbrev cX6_close : ByteArray := prog_8_method_54_code
def yX6_close : MethodName := ⟨RX6, "close", "()I"⟩
abbrev cX6_tell : ByteArray := prog_8_method_55_code
def yX6_tell : MethodName := ⟨RX6, "tell", "(I)I"⟩
abbrev cX6_tenThousands : ByteArray := prog_8_method_56_code
def yX6_tenThousands : MethodName := ⟨RX6, "tenThousands", "(I)J"⟩
abbrev cX6_isStep : ByteArray := prog_8_method_57_code
def yX6_isStep : MethodName := ⟨RX6, "isStep", "(I)Z"⟩
abbrev cX6_stepOf : ByteArray := prog_8_method_58_code
def yX6_stepOf : MethodName := ⟨RX6, "stepOf", "(JII)I"⟩
abbrev cX6_ask : ByteArray := prog_8_method_59_code
def yX6_ask : MethodName := ⟨RX6, "ask", "(IJ)I"⟩
abbrev cX6_drop : ByteArray := prog_8_method_60_code
def yX6_drop : MethodName := ⟨RX6, "drop", "()I"⟩
abbrev cX6_undo : ByteArray := prog_8_method_61_code
def yX6_undo : MethodName := ⟨RX6, "undo", "()I"⟩
abbrev cX6_within : ByteArray := prog_8_method_62_code
def yX6_within : MethodName := ⟨RX6, "within", "(II)I"⟩
abbrev cX6_judged : ByteArray := prog_8_method_63_code
def yX6_judged : MethodName := ⟨RX6, "judged", "(III)Z"⟩
abbrev cX6_thousands : ByteArray := prog_8_method_64_code
def yX6_thousands : MethodName := ⟨RX6, "thousands", "(I)J"⟩
abbrev cX6_judge : ByteArray := prog_8_method_65_code
def yX6_judge : MethodName := ⟨RX6, "judge", "(IJ)I"⟩
abbrev cX6_see : ByteArray := prog_8_method_66_code
def yX6_see : MethodName := ⟨RX6, "see", "(II)I"⟩
abbrev cX6_unsee : ByteArray := prog_8_method_67_code
def yX6_unsee : MethodName := ⟨RX6, "unsee", "()I"⟩
abbrev cX6_which : ByteArray := prog_8_method_68_code
def yX6_which : MethodName := ⟨RX6, "which", "()I"⟩
abbrev cX6_layWorth : ByteArray := prog_8_method_69_code
def yX6_layWorth : MethodName := ⟨RX6, "layWorth", "()V"⟩
abbrev cX6_share : ByteArray := prog_8_method_70_code
def yX6_share : MethodName := ⟨RX6, "share", "(IZ)I"⟩
abbrev cX6_chance : ByteArray := prog_8_method_71_code
def yX6_chance : MethodName := ⟨RX6, "chance", "(IIZ)I"⟩
abbrev cX6_seed : ByteArray := prog_8_method_72_code
def yX6_seed : MethodName := ⟨RX6, "seed", "(J)J"⟩
abbrev cX6_drawn : ByteArray := prog_8_method_73_code
def yX6_drawn : MethodName := ⟨RX6, "drawn", "(I)I"⟩
abbrev cX6_keep : ByteArray := prog_8_method_74_code
def yX6_keep : MethodName := ⟨RX6, "keep", "(I)I"⟩
abbrev cX6_again : ByteArray := prog_8_method_75_code
def yX6_again : MethodName := ⟨RX6, "again", "(I)I"⟩
def RJ6 : String := "java/lang/Integer"
def TJ6 : u_T := fun k => match k with
  | _ => ("", "", "", false)
def tyJ6 : Nat → FieldType := fun k => match k with
  | _ => .int
abbrev wsJ60 : List Cond := u_ws RJ6 TJ6 0
theorem nmJ6 : ∀ a, a < 0 → ∀ b, b < 0 → a ≠ b → (TJ6 a).2.1 ≠ (TJ6 b).2.1 := by decide +kernel
theorem tyJ6_ok : ∀ k, k < 0 → parseFieldDescriptor (TJ6 k).2.2.1 = some (tyJ6 k) := by decide +kernel
abbrev cJ6_bitCount_0f7a4 : ByteArray := prog_9_method_49_code
def yJ6_bitCount_0f7a4 : MethodName := ⟨RJ6, "bitCount", "(I)I"⟩
def RJ9 : String := "java/lang/Math"
def TJ9 : u_T := fun k => match k with
  | _ => ("", "", "", false)
def tyJ9 : Nat → FieldType := fun k => match k with
  | _ => .int
abbrev wsJ90 : List Cond := u_ws RJ9 TJ9 0
theorem nmJ9 : ∀ a, a < 0 → ∀ b, b < 0 → a ≠ b → (TJ9 a).2.1 ≠ (TJ9 b).2.1 := by decide +kernel
theorem tyJ9_ok : ∀ k, k < 0 → parseFieldDescriptor (TJ9 k).2.2.1 = some (tyJ9 k) := by decide +kernel
abbrev cJ9_max_7cf53 : ByteArray := prog_10_method_65_code
def yJ9_max_7cf53 : MethodName := ⟨RJ9, "max", "(II)I"⟩
abbrev cJ9_min_7cf53 : ByteArray := prog_10_method_69_code
def yJ9_min_7cf53 : MethodName := ⟨RJ9, "min", "(II)I"⟩
def RJ10 : String := "java/lang/System"
def TJ10 : u_T := fun k => match k with
  | _ => ("", "", "", false)
def tyJ10 : Nat → FieldType := fun k => match k with
  | _ => .int
abbrev wsJ100 : List Cond := u_ws RJ10 TJ10 0
theorem nmJ10 : ∀ a, a < 0 → ∀ b, b < 0 → a ≠ b → (TJ10 a).2.1 ≠ (TJ10 b).2.1 := by decide +kernel
theorem tyJ10_ok : ∀ k, k < 0 → parseFieldDescriptor (TJ10 k).2.2.1 = some (tyJ10 k) := by decide +kernel
def RL : String := "PathStreamLaw"
abbrev cL_law : ByteArray := code
def yL_law : MethodName := ⟨RL, "law", "([I)Z"⟩
abbrev vwCl : List vw_C := [(RX0, TX0, 9), (RX1, TX1, 6), (RX2, TX2, 7), (RX3, TX3, 3), (RX4, TX4, 3), (RX5, TX5, 17), (RX6, TX6, 26)]
def wsG : List Cond := lw_tbl.filter goodWord
theorem wsG_of {w : Cond} (h : w ∈ lw_tbl) (g : goodWord w = true) : w ∈ wsG := List.mem_filter.mpr ⟨h, g⟩
theorem wsG_in : ∀ w ∈ wsG, w ∈ lw_tbl := fun _ h => (List.mem_filter.mp h).1
theorem wt_1 {w : Cond} {i : Nat} (h : tables_1_1[i]? = some w) (g : goodWord w = true) : w ∈ wsG := wsG_of (List.mem_append_right _ (List.mem_append_left _ (List.mem_of_getElem? h))) g
theorem wt_2 {w : Cond} {i : Nat} (h : tables_1_2[i]? = some w) (g : goodWord w = true) : w ∈ wsG := wsG_of (List.mem_append_right _ (List.mem_append_right _ (List.mem_append_left _ (List.mem_of_getElem? h)))) g
theorem wt_3 {w : Cond} {i : Nat} (h : tables_1_3[i]? = some w) (g : goodWord w = true) : w ∈ wsG := wsG_of (List.mem_append_right _ (List.mem_append_right _ (List.mem_append_right _ (List.mem_append_left _ (List.mem_of_getElem? h))))) g
theorem wt_4 {w : Cond} {i : Nat} (h : tables_1_4[i]? = some w) (g : goodWord w = true) : w ∈ wsG := wsG_of (List.mem_append_right _ (List.mem_append_right _ (List.mem_append_right _ (List.mem_append_right _ (List.mem_append_left _ (List.mem_of_getElem? h)))))) g
theorem wt_5 {w : Cond} {i : Nat} (h : tables_1_5[i]? = some w) (g : goodWord w = true) : w ∈ wsG := wsG_of (List.mem_append_right _ (List.mem_append_right _ (List.mem_append_right _ (List.mem_append_right _ (List.mem_append_right _ (List.mem_of_getElem? h)))))) g
theorem ws_s {w : Cond} {i : Nat} (h : (k2_sels lw_privs)[i]? = some w) (g : goodWord w = true) : w ∈ wsG := wsG_of (List.mem_append_left _ (List.mem_of_getElem? h)) g
theorem wsG_good : ∀ w ∈ wsG, (w.onTables && w.keeps) = true ∨ ∃ ty, w = .arrayClass ty := fun w h => good_of_word (List.mem_filter.mp h).2
theorem gd_ws {y : MethodName} {b : ByteArray} {n : Nat} {r : Option FieldType} (h5 : Cond.code y b n r ∈ wsG) : GoodIn wsG (.code y b n r :: wsG) := by
  intro w hw
  rcases List.mem_cons.mp hw with h | h
  · rw [h]; exact ⟨h5, wsG_good _ h5⟩
  · exact ⟨h, wsG_good _ h⟩
theorem gd_V {own C : String} {i : Nat} {y : MethodName} {b : ByteArray} {n : Nat} {r : Option FieldType} (h1 : Cond.methodLink own i y ∈ wsG) (h2 : Cond.instanceMethod y ∈ wsG) (h3 : Cond.selects C y y ∈ wsG) (h4 : Cond.initialized C ∈ wsG) (h5 : Cond.code y b n r ∈ wsG) : GoodIn wsG (wsV own i C y (.code y b n r :: wsG)) := by
  intro w hw
  rcases List.mem_append.mp hw with h | h
  · have hm : w ∈ wsG := by
      rcases List.mem_cons.mp h with h | h
      · rw [h]; exact h1
      rcases List.mem_cons.mp h with h | h
      · rw [h]; exact h2
      rcases List.mem_cons.mp h with h | h
      · rw [h]; exact h3
      rcases List.mem_cons.mp h with h | h
      · rw [h]; exact h4
      cases h
    exact ⟨hm, wsG_good _ hm⟩
  · exact gd_ws h5 w h
theorem gd_S {own : String} {i : Nat} {y : MethodName} {b : ByteArray} {n : Nat} {r : Option FieldType} (h1 : Cond.methodLink own i y ∈ wsG) (h2 : Cond.static y ∈ wsG) (h4 : Cond.initialized own ∈ wsG) (h5 : Cond.code y b n r ∈ wsG) : GoodIn wsG (wsS own i y (.code y b n r :: wsG)) := by
  intro w hw
  rcases List.mem_append.mp hw with h | h
  · have hm : w ∈ wsG := by
      rcases List.mem_cons.mp h with h | h
      · rw [h]; exact h1
      rcases List.mem_cons.mp h with h | h
      · rw [h]; exact h2
      rcases List.mem_cons.mp h with h | h
      · rw [h]; exact h4
      cases h
    exact ⟨hm, wsG_good _ hm⟩
  · exact gd_ws h5 w h
theorem wl_1_0 : Cond.initialized RL ∈ wsG := wt_1 (i := 0) rfl rfl
theorem wl_1_1 : Cond.initialized RX5 ∈ wsG := wt_1 (i := 1) rfl rfl
theorem wl_1_2 : Cond.initialized RX3 ∈ wsG := wt_1 (i := 2) rfl rfl
theorem wl_1_3 : Cond.initialized RX0 ∈ wsG := wt_1 (i := 3) rfl rfl
theorem wl_1_4 : Cond.initialized RX2 ∈ wsG := wt_1 (i := 4) rfl rfl
theorem wl_1_5 : Cond.initialized RX1 ∈ wsG := wt_1 (i := 5) rfl rfl
theorem wl_1_6 : Cond.initialized RX4 ∈ wsG := wt_1 (i := 6) rfl rfl
theorem wl_1_7 : Cond.initialized RX6 ∈ wsG := wt_1 (i := 7) rfl rfl
theorem wl_1_8 : Cond.initialized RJ9 ∈ wsG := wt_1 (i := 8) rfl rfl
theorem wl_1_9 : Cond.initialized RJ10 ∈ wsG := wt_1 (i := 9) rfl rfl
theorem wl_1_10 : Cond.initialized RJ6 ∈ wsG := wt_1 (i := 10) rfl rfl
theorem wl_1_11 : Cond.classLink RL 7 RX5 ∈ wsG := wt_1 (i := 11) rfl rfl
theorem wl_1_12 : Cond.instantiable RX5 17 ∈ wsG := wt_1 (i := 12) rfl rfl
theorem wl_1_13 : Cond.methodLink RL 9 yX5_init ∈ wsG := wt_1 (i := 13) rfl rfl
theorem wl_1_14 : Cond.instanceMethod yX5_init ∈ wsG := wt_1 (i := 14) rfl rfl
theorem wl_1_15 : Cond.code yX5_init cX5_init 2 none ∈ wsG := wt_1 (i := 15) rfl rfl
theorem wl_1_16 : Cond.methodLink RX5 1 objectInit ∈ wsG := wt_1 (i := 16) rfl rfl
theorem wl_1_17 : Cond.instanceMethod objectInit ∈ wsG := wt_1 (i := 17) rfl rfl
theorem wl_1_18 : Cond.code objectInit ⟨#[0xb1]⟩ 1 none ∈ wsG := wt_1 (i := 18) rfl rfl
theorem wl_1_19 : Cond.classLink RX5 7 RX3 ∈ wsG := wt_1 (i := 19) rfl rfl
theorem wl_1_20 : Cond.instantiable RX3 3 ∈ wsG := wt_1 (i := 20) rfl rfl
theorem wl_1_21 : Cond.methodLink RX5 9 yX3_init ∈ wsG := wt_1 (i := 21) rfl rfl
theorem wl_1_22 : Cond.instanceMethod yX3_init ∈ wsG := wt_1 (i := 22) rfl rfl
theorem wl_1_23 : Cond.code yX3_init cX3_init 2 none ∈ wsG := wt_1 (i := 23) rfl rfl
theorem wl_1_24 : Cond.methodLink RX3 3 objectInit ∈ wsG := wt_1 (i := 24) rfl rfl
theorem wl_1_25 : Cond.classLink RX3 9 RX0 ∈ wsG := wt_1 (i := 25) rfl rfl
theorem wl_1_26 : Cond.instantiable RX0 9 ∈ wsG := wt_1 (i := 26) rfl rfl
theorem wl_1_28 : Cond.instanceMethod yX0_init ∈ wsG := wt_1 (i := 28) rfl rfl
theorem wl_1_29 : Cond.code yX0_init cX0_init 1 none ∈ wsG := wt_1 (i := 29) rfl rfl
theorem wl_1_30 : Cond.methodLink RX0 3 objectInit ∈ wsG := wt_1 (i := 30) rfl rfl
theorem wl_1_31 : Cond.fieldLink RX0 9 "PathStream$Elements" "names" "[I" ∈ wsG := wt_1 (i := 31) rfl rfl
theorem wl_1_32 : Cond.fieldLink RX1 65 "PathStream$Elements" "names" "[I" ∈ wsG := wt_1 (i := 32) rfl rfl
theorem wl_1_33 : Cond.fieldLink RX5 111 "PathStream$Elements" "names" "[I" ∈ wsG := wt_1 (i := 33) rfl rfl
theorem wl_1_34 : Cond.fieldLink RX0 15 "PathStream$Elements" "parents" "[I" ∈ wsG := wt_1 (i := 34) rfl rfl
theorem wl_1_35 : Cond.fieldLink RX1 36 "PathStream$Elements" "parents" "[I" ∈ wsG := wt_1 (i := 35) rfl rfl
theorem wl_1_36 : Cond.fieldLink RX5 114 "PathStream$Elements" "parents" "[I" ∈ wsG := wt_1 (i := 36) rfl rfl
theorem wl_1_37 : Cond.fieldLink RX0 18 "PathStream$Elements" "depths" "[I" ∈ wsG := wt_1 (i := 37) rfl rfl
theorem wl_1_38 : Cond.fieldLink RX5 117 "PathStream$Elements" "depths" "[I" ∈ wsG := wt_1 (i := 38) rfl rfl
theorem wl_1_39 : Cond.fieldLink RX0 21 "PathStream$Elements" "digitSets" "[I" ∈ wsG := wt_1 (i := 39) rfl rfl
theorem wl_1_40 : Cond.fieldLink RX5 123 "PathStream$Elements" "digitSets" "[I" ∈ wsG := wt_1 (i := 40) rfl rfl
theorem wl_1_41 : Cond.fieldLink RX0 24 "PathStream$Elements" "childNames" "[I" ∈ wsG := wt_1 (i := 41) rfl rfl
theorem wl_1_42 : Cond.fieldLink RX5 126 "PathStream$Elements" "childNames" "[I" ∈ wsG := wt_1 (i := 42) rfl rfl
theorem wl_1_43 : Cond.fieldLink RX0 31 "PathStream$Elements" "openSet" "I" ∈ wsG := wt_1 (i := 43) rfl rfl
theorem wl_1_44 : Cond.fieldLink RX1 55 "PathStream$Elements" "openSet" "I" ∈ wsG := wt_1 (i := 44) rfl rfl
theorem wl_1_45 : Cond.fieldLink RX5 120 "PathStream$Elements" "openSet" "I" ∈ wsG := wt_1 (i := 45) rfl rfl
theorem wl_1_46 : Cond.fieldLink RX0 34 "PathStream$Elements" "count" "I" ∈ wsG := wt_1 (i := 46) rfl rfl
theorem wl_1_47 : Cond.fieldLink RX1 31 "PathStream$Elements" "count" "I" ∈ wsG := wt_1 (i := 47) rfl rfl
theorem wl_1_48 : Cond.fieldLink RX5 83 "PathStream$Elements" "count" "I" ∈ wsG := wt_1 (i := 48) rfl rfl
theorem wl_1_49 : Cond.fieldLink RX0 27 "PathStream$Elements" "current" "I" ∈ wsG := wt_1 (i := 49) rfl rfl
theorem wl_1_50 : Cond.fieldLink RX5 88 "PathStream$Elements" "current" "I" ∈ wsG := wt_1 (i := 50) rfl rfl
theorem wl_1_51 : Cond.fieldLink RX0 37 "PathStream$Elements" "clock" "I" ∈ wsG := wt_1 (i := 51) rfl rfl
theorem wl_1_52 : Cond.fieldLink RX3 53 "PathStream$Elements" "clock" "I" ∈ wsG := wt_1 (i := 52) rfl rfl
theorem wl_1_53 : Cond.fieldLink RX5 95 "PathStream$Elements" "clock" "I" ∈ wsG := wt_1 (i := 53) rfl rfl
theorem wl_1_54 : u_lay RX0 TX0 0 ∈ wsG := wt_1 (i := 54) rfl rfl
theorem wl_1_56 : u_lay RX0 TX0 1 ∈ wsG := wt_1 (i := 56) rfl rfl
theorem wl_1_58 : u_lay RX0 TX0 2 ∈ wsG := wt_1 (i := 58) rfl rfl
theorem wl_1_60 : u_lay RX0 TX0 3 ∈ wsG := wt_1 (i := 60) rfl rfl
theorem wl_1_62 : u_lay RX0 TX0 4 ∈ wsG := wt_1 (i := 62) rfl rfl
theorem wl_1_64 : u_lay RX0 TX0 5 ∈ wsG := wt_1 (i := 64) rfl rfl
theorem wl_1_66 : u_lay RX0 TX0 6 ∈ wsG := wt_1 (i := 66) rfl rfl
theorem wl_1_68 : u_lay RX0 TX0 7 ∈ wsG := wt_1 (i := 68) rfl rfl
theorem wl_1_70 : u_lay RX0 TX0 8 ∈ wsG := wt_1 (i := 70) rfl rfl
theorem wl_1_73 : Cond.arrayClass .int ∈ wsG := wt_1 (i := 73) rfl rfl
theorem wl_1_74 : Cond.classLink RX3 18 RX2 ∈ wsG := wt_1 (i := 74) rfl rfl
theorem wl_1_76 : Cond.instantiable RX2 7 ∈ wsG := wt_1 (i := 76) rfl rfl
theorem wl_1_78 : Cond.instanceMethod yX2_init ∈ wsG := wt_1 (i := 78) rfl rfl
theorem wl_1_79 : Cond.code yX2_init cX2_init 1 none ∈ wsG := wt_1 (i := 79) rfl rfl
theorem wl_1_80 : Cond.methodLink RX2 3 objectInit ∈ wsG := wt_1 (i := 80) rfl rfl
theorem wl_1_81 : Cond.fieldLink RX2 9 "PathStream$Path" "steps" "[I" ∈ wsG := wt_1 (i := 81) rfl rfl
theorem wl_1_82 : Cond.fieldLink RX1 62 "PathStream$Path" "steps" "[I" ∈ wsG := wt_1 (i := 82) rfl rfl
theorem wl_1_83 : Cond.fieldLink RX5 145 "PathStream$Path" "steps" "[I" ∈ wsG := wt_1 (i := 83) rfl rfl
theorem wl_1_84 : Cond.fieldLink RX2 15 "PathStream$Path" "outElements" "[I" ∈ wsG := wt_1 (i := 84) rfl rfl
theorem wl_1_85 : Cond.fieldLink RX5 167 "PathStream$Path" "outElements" "[I" ∈ wsG := wt_1 (i := 85) rfl rfl
theorem wl_1_86 : Cond.fieldLink RX2 18 "PathStream$Path" "outTimes" "[I" ∈ wsG := wt_1 (i := 86) rfl rfl
theorem wl_1_87 : Cond.fieldLink RX5 164 "PathStream$Path" "outTimes" "[I" ∈ wsG := wt_1 (i := 87) rfl rfl
theorem wl_1_88 : Cond.fieldLink RX2 30 "PathStream$Path" "stepCount" "I" ∈ wsG := wt_1 (i := 88) rfl rfl
theorem wl_1_89 : Cond.fieldLink RX1 47 "PathStream$Path" "stepCount" "I" ∈ wsG := wt_1 (i := 89) rfl rfl
theorem wl_1_90 : Cond.fieldLink RX3 60 "PathStream$Path" "stepCount" "I" ∈ wsG := wt_1 (i := 90) rfl rfl
theorem wl_1_91 : Cond.fieldLink RX5 140 "PathStream$Path" "stepCount" "I" ∈ wsG := wt_1 (i := 91) rfl rfl
theorem wl_1_92 : Cond.fieldLink RX2 40 "PathStream$Path" "outCount" "I" ∈ wsG := wt_1 (i := 92) rfl rfl
theorem wl_1_93 : Cond.fieldLink RX5 161 "PathStream$Path" "outCount" "I" ∈ wsG := wt_1 (i := 93) rfl rfl
theorem wl_1_94 : Cond.fieldLink RX2 43 "PathStream$Path" "outSet" "I" ∈ wsG := wt_1 (i := 94) rfl rfl
theorem wl_1_95 : Cond.fieldLink RX2 46 "PathStream$Path" "peak" "I" ∈ wsG := wt_1 (i := 95) rfl rfl
theorem wl_1_96 : Cond.fieldLink RX5 266 "PathStream$Path" "peak" "I" ∈ wsG := wt_1 (i := 96) rfl rfl
theorem wl_1_97 : u_lay RX2 TX2 0 ∈ wsG := wt_1 (i := 97) rfl rfl
theorem wl_1_99 : u_lay RX2 TX2 1 ∈ wsG := wt_1 (i := 99) rfl rfl
theorem wl_1_101 : u_lay RX2 TX2 2 ∈ wsG := wt_1 (i := 101) rfl rfl
theorem wl_1_103 : u_lay RX2 TX2 3 ∈ wsG := wt_1 (i := 103) rfl rfl
theorem wl_1_105 : u_lay RX2 TX2 4 ∈ wsG := wt_1 (i := 105) rfl rfl
theorem wl_1_107 : u_lay RX2 TX2 5 ∈ wsG := wt_1 (i := 107) rfl rfl
theorem wl_1_109 : u_lay RX2 TX2 6 ∈ wsG := wt_1 (i := 109) rfl rfl
theorem wl_1_112 : Cond.fieldLink RX3 12 "PathStream$State" "elements" "LPathStream$Elements;" ∈ wsG := wt_1 (i := 112) rfl rfl
theorem wl_1_113 : Cond.fieldLink RX4 30 "PathStream$State" "elements" "LPathStream$Elements;" ∈ wsG := wt_1 (i := 113) rfl rfl
theorem wl_1_114 : Cond.fieldLink RX5 79 "PathStream$State" "elements" "LPathStream$Elements;" ∈ wsG := wt_1 (i := 114) rfl rfl
theorem wl_1_115 : Cond.fieldLink RX3 20 "PathStream$State" "paths" "[LPathStream$Path;" ∈ wsG := wt_1 (i := 115) rfl rfl
theorem wl_1_116 : Cond.fieldLink RX5 136 "PathStream$State" "paths" "[LPathStream$Path;" ∈ wsG := wt_1 (i := 116) rfl rfl
theorem wl_1_117 : Cond.fieldLink RX3 28 "PathStream$State" "pathCount" "I" ∈ wsG := wt_1 (i := 117) rfl rfl
theorem wl_1_118 : Cond.fieldLink RX5 76 "PathStream$State" "pathCount" "I" ∈ wsG := wt_1 (i := 118) rfl rfl
theorem wl_1_119 : Cond.fieldLink RX4 67 "PathStream$State" "pathCount" "I" ∈ wsG := wt_1 (i := 119) rfl rfl
theorem wl_1_120 : u_lay RX3 TX3 0 ∈ wsG := wt_1 (i := 120) rfl rfl
theorem wl_1_122 : u_lay RX3 TX3 1 ∈ wsG := wt_1 (i := 122) rfl rfl
theorem wl_1_124 : u_lay RX3 TX3 2 ∈ wsG := wt_1 (i := 124) rfl rfl
theorem wl_1_128 : Cond.classLink RX5 30 RX1 ∈ wsG := wt_1 (i := 128) rfl rfl
theorem wl_1_129 : Cond.instantiable RX1 6 ∈ wsG := wt_1 (i := 129) rfl rfl
theorem wl_1_131 : Cond.instanceMethod yX1_init ∈ wsG := wt_1 (i := 131) rfl rfl
theorem wl_1_132 : Cond.code yX1_init cX1_init 1 none ∈ wsG := wt_1 (i := 132) rfl rfl
theorem wl_1_133 : Cond.methodLink RX1 3 objectInit ∈ wsG := wt_1 (i := 133) rfl rfl
theorem wl_1_134 : Cond.fieldLink RX1 9 "PathStream$Matcher" "sure" "[I" ∈ wsG := wt_1 (i := 134) rfl rfl
theorem wl_1_135 : Cond.fieldLink RX5 158 "PathStream$Matcher" "sure" "[I" ∈ wsG := wt_1 (i := 135) rfl rfl
theorem wl_1_136 : Cond.fieldLink RX1 15 "PathStream$Matcher" "possible" "[I" ∈ wsG := wt_1 (i := 136) rfl rfl
theorem wl_1_137 : Cond.fieldLink RX1 18 "PathStream$Matcher" "sureAround" "[I" ∈ wsG := wt_1 (i := 137) rfl rfl
theorem wl_1_138 : Cond.fieldLink RX1 21 "PathStream$Matcher" "possibleAround" "[I" ∈ wsG := wt_1 (i := 138) rfl rfl
theorem wl_1_139 : Cond.fieldLink RX1 24 "PathStream$Matcher" "answers" "I" ∈ wsG := wt_1 (i := 139) rfl rfl
theorem wl_1_140 : Cond.fieldLink RX2 54 "PathStream$Matcher" "answers" "I" ∈ wsG := wt_1 (i := 140) rfl rfl
theorem wl_1_141 : Cond.fieldLink RX5 152 "PathStream$Matcher" "answers" "I" ∈ wsG := wt_1 (i := 141) rfl rfl
theorem wl_1_142 : Cond.fieldLink RX1 28 "PathStream$Matcher" "doubts" "I" ∈ wsG := wt_1 (i := 142) rfl rfl
theorem wl_1_143 : Cond.fieldLink RX2 49 "PathStream$Matcher" "doubts" "I" ∈ wsG := wt_1 (i := 143) rfl rfl
theorem wl_1_144 : Cond.fieldLink RX5 155 "PathStream$Matcher" "doubts" "I" ∈ wsG := wt_1 (i := 144) rfl rfl
theorem wl_1_145 : u_lay RX1 TX1 0 ∈ wsG := wt_1 (i := 145) rfl rfl
theorem wl_1_147 : u_lay RX1 TX1 1 ∈ wsG := wt_1 (i := 147) rfl rfl
theorem wl_1_149 : u_lay RX1 TX1 2 ∈ wsG := wt_1 (i := 149) rfl rfl
theorem wl_1_151 : u_lay RX1 TX1 3 ∈ wsG := wt_1 (i := 151) rfl rfl
theorem wl_1_153 : u_lay RX1 TX1 4 ∈ wsG := wt_1 (i := 153) rfl rfl
theorem wl_1_155 : u_lay RX1 TX1 5 ∈ wsG := wt_1 (i := 155) rfl rfl
theorem wl_1_158 : Cond.arrayClass .boolean ∈ wsG := wt_1 (i := 158) rfl rfl
theorem wl_1_159 : Cond.classLink RX5 37 RX4 ∈ wsG := wt_1 (i := 159) rfl rfl
theorem wl_1_160 : Cond.instantiable RX4 3 ∈ wsG := wt_1 (i := 160) rfl rfl
theorem wl_1_162 : Cond.instanceMethod yX4_init ∈ wsG := wt_1 (i := 162) rfl rfl
theorem wl_1_163 : Cond.code yX4_init cX4_init 1 none ∈ wsG := wt_1 (i := 163) rfl rfl
theorem wl_1_164 : Cond.methodLink RX4 3 objectInit ∈ wsG := wt_1 (i := 164) rfl rfl
theorem wl_1_165 : Cond.fieldLink RX4 9 "PathStream$TaskReader" "steps" "[I" ∈ wsG := wt_1 (i := 165) rfl rfl
theorem wl_1_166 : Cond.fieldLink RX4 19 "PathStream$TaskReader" "stepCount" "I" ∈ wsG := wt_1 (i := 166) rfl rfl
theorem wl_1_167 : Cond.fieldLink RX4 15 "PathStream$TaskReader" "phase" "I" ∈ wsG := wt_1 (i := 167) rfl rfl
theorem wl_1_168 : u_lay RX4 TX4 0 ∈ wsG := wt_1 (i := 168) rfl rfl
theorem wl_1_170 : u_lay RX4 TX4 1 ∈ wsG := wt_1 (i := 170) rfl rfl
theorem wl_1_172 : u_lay RX4 TX4 2 ∈ wsG := wt_1 (i := 172) rfl rfl
theorem wl_1_175 : Cond.fieldLink RX5 10 "PathStream" "now" "LPathStream$State;" ∈ wsG := wt_1 (i := 175) rfl rfl
theorem wl_1_176 : Cond.fieldLink RX5 16 "PathStream" "trial" "LPathStream$State;" ∈ wsG := wt_1 (i := 176) rfl rfl
theorem wl_1_177 : Cond.fieldLink RX5 19 "PathStream" "before" "[LPathStream$State;" ∈ wsG := wt_1 (i := 177) rfl rfl
theorem wl_1_178 : Cond.fieldLink RX5 23 "PathStream" "slots" "[LPathStream$State;" ∈ wsG := wt_1 (i := 178) rfl rfl
theorem wl_1_179 : Cond.fieldLink RX5 26 "PathStream" "slotHolds" "[Z" ∈ wsG := wt_1 (i := 179) rfl rfl
theorem wl_1_180 : Cond.fieldLink RX5 33 "PathStream" "matcher" "LPathStream$Matcher;" ∈ wsG := wt_1 (i := 180) rfl rfl
theorem wl_1_181 : Cond.fieldLink RX5 40 "PathStream" "reader" "LPathStream$TaskReader;" ∈ wsG := wt_1 (i := 181) rfl rfl
theorem wl_1_182 : Cond.fieldLink RX5 44 "PathStream" "text" "[C" ∈ wsG := wt_1 (i := 182) rfl rfl
theorem wl_1_183 : Cond.fieldLink RX5 48 "PathStream" "seenPaths" "[I" ∈ wsG := wt_1 (i := 183) rfl rfl
theorem wl_1_184 : Cond.fieldLink RX5 52 "PathStream" "seenCounts" "[I" ∈ wsG := wt_1 (i := 184) rfl rfl
theorem wl_1_185 : Cond.fieldLink RX5 55 "PathStream" "parts" "[I" ∈ wsG := wt_1 (i := 185) rfl rfl
theorem wl_1_186 : Cond.fieldLink RX5 58 "PathStream" "answerSets" "[I" ∈ wsG := wt_1 (i := 186) rfl rfl
theorem wl_1_187 : Cond.fieldLink RX5 61 "PathStream" "textLength" "I" ∈ wsG := wt_1 (i := 187) rfl rfl
theorem wl_1_188 : Cond.fieldLink RX5 101 "PathStream" "actions" "I" ∈ wsG := wt_1 (i := 188) rfl rfl
theorem wl_1_189 : Cond.fieldLink RX5 205 "PathStream" "nextAction" "I" ∈ wsG := wt_1 (i := 189) rfl rfl
theorem wl_1_190 : Cond.fieldLink RX5 104 "PathStream" "observations" "I" ∈ wsG := wt_1 (i := 190) rfl rfl
theorem wl_1_191 : Cond.fieldLink RX5 242 "PathStream" "random" "J" ∈ wsG := wt_1 (i := 191) rfl rfl
theorem wl_1_192 : u_lay RX5 TX5 0 ∈ wsG := wt_1 (i := 192) rfl rfl
theorem wl_1_194 : u_lay RX5 TX5 1 ∈ wsG := wt_1 (i := 194) rfl rfl
theorem wl_1_196 : u_lay RX5 TX5 2 ∈ wsG := wt_1 (i := 196) rfl rfl
theorem wl_1_198 : u_lay RX5 TX5 3 ∈ wsG := wt_1 (i := 198) rfl rfl
theorem wl_1_200 : u_lay RX5 TX5 4 ∈ wsG := wt_1 (i := 200) rfl rfl
theorem wl_1_202 : u_lay RX5 TX5 5 ∈ wsG := wt_1 (i := 202) rfl rfl
theorem wl_1_204 : u_lay RX5 TX5 6 ∈ wsG := wt_1 (i := 204) rfl rfl
theorem wl_1_206 : u_lay RX5 TX5 7 ∈ wsG := wt_1 (i := 206) rfl rfl
theorem wl_1_208 : u_lay RX5 TX5 8 ∈ wsG := wt_1 (i := 208) rfl rfl
theorem wl_1_210 : u_lay RX5 TX5 9 ∈ wsG := wt_1 (i := 210) rfl rfl
theorem wl_1_212 : u_lay RX5 TX5 10 ∈ wsG := wt_1 (i := 212) rfl rfl
theorem wl_1_214 : u_lay RX5 TX5 11 ∈ wsG := wt_1 (i := 214) rfl rfl
theorem wl_1_216 : u_lay RX5 TX5 12 ∈ wsG := wt_1 (i := 216) rfl rfl
theorem wl_1_218 : u_lay RX5 TX5 13 ∈ wsG := wt_1 (i := 218) rfl rfl
theorem wl_1_220 : u_lay RX5 TX5 14 ∈ wsG := wt_1 (i := 220) rfl rfl
theorem wl_1_222 : u_lay RX5 TX5 15 ∈ wsG := wt_1 (i := 222) rfl rfl
theorem wl_1_224 : u_lay RX5 TX5 16 ∈ wsG := wt_1 (i := 224) rfl rfl
theorem wl_1_227 : Cond.arrayClass .char ∈ wsG := wt_1 (i := 227) rfl rfl
theorem wl_1_228 : Cond.methodLink RL 13 yX5_write ∈ wsG := wt_1 (i := 228) rfl rfl
theorem wl_1_229 : Cond.instanceMethod yX5_write ∈ wsG := wt_1 (i := 229) rfl rfl
theorem wl_1_230 : Cond.selects RX5 yX5_write yX5_write ∈ wsG := wt_1 (i := 230) rfl rfl
theorem wl_1_231 : Cond.code yX5_write cX5_write 2 (some .int) ∈ wsG := wt_1 (i := 231) rfl rfl
theorem wl_1_232 : Cond.methodLink RL 18 yX5_wipe ∈ wsG := wt_1 (i := 232) rfl rfl
theorem wl_1_233 : Cond.instanceMethod yX5_wipe ∈ wsG := wt_1 (i := 233) rfl rfl
theorem wl_1_234 : Cond.selects RX5 yX5_wipe yX5_wipe ∈ wsG := wt_1 (i := 234) rfl rfl
theorem wl_1_235 : Cond.code yX5_wipe cX5_wipe 2 (some .int) ∈ wsG := wt_1 (i := 235) rfl rfl
theorem wl_1_236 : Cond.methodLink RL 23 yX5_fault ∈ wsG := wt_1 (i := 236) rfl rfl
theorem wl_1_237 : Cond.instanceMethod yX5_fault ∈ wsG := wt_1 (i := 237) rfl rfl
theorem wl_1_238 : Cond.selects RX5 yX5_fault yX5_fault ∈ wsG := wt_1 (i := 238) rfl rfl
theorem wl_1_239 : Cond.code yX5_fault cX5_fault 1 (some .int) ∈ wsG := wt_1 (i := 239) rfl rfl
theorem wl_2_0 : Cond.methodLink RX5 65 yX5_readTask ∈ wsG := wt_2 (i := 0) rfl rfl
theorem wl_2_2 : Cond.instanceMethod yX5_readTask ∈ wsG := wt_2 (i := 2) rfl rfl
theorem wl_2_3 : Cond.code yX5_readTask cX5_readTask 4 (some .int) ∈ wsG := wt_2 (i := 3) rfl rfl
theorem wl_2_4 : Cond.methodLink RX5 250 yX3_clear ∈ wsG := wt_2 (i := 4) rfl rfl
theorem wl_2_5 : Cond.instanceMethod yX3_clear ∈ wsG := wt_2 (i := 5) rfl rfl
theorem wl_2_6 : Cond.selects RX3 yX3_clear yX3_clear ∈ wsG := wt_2 (i := 6) rfl rfl
theorem wl_2_7 : Cond.code yX3_clear cX3_clear 1 none ∈ wsG := wt_2 (i := 7) rfl rfl
theorem wl_2_8 : Cond.methodLink RX3 25 yX0_clear ∈ wsG := wt_2 (i := 8) rfl rfl
theorem wl_2_9 : Cond.instanceMethod yX0_clear ∈ wsG := wt_2 (i := 9) rfl rfl
theorem wl_2_10 : Cond.selects RX0 yX0_clear yX0_clear ∈ wsG := wt_2 (i := 10) rfl rfl
theorem wl_2_11 : Cond.code yX0_clear cX0_clear 1 none ∈ wsG := wt_2 (i := 11) rfl rfl
theorem wl_2_12 : Cond.methodLink RX5 253 yX4_begin ∈ wsG := wt_2 (i := 12) rfl rfl
theorem wl_2_13 : Cond.instanceMethod yX4_begin ∈ wsG := wt_2 (i := 13) rfl rfl
theorem wl_2_14 : Cond.selects RX4 yX4_begin yX4_begin ∈ wsG := wt_2 (i := 14) rfl rfl
theorem wl_2_15 : Cond.code yX4_begin cX4_begin 1 none ∈ wsG := wt_2 (i := 15) rfl rfl
theorem wl_2_16 : Cond.methodLink RX5 256 yX4_takes ∈ wsG := wt_2 (i := 16) rfl rfl
theorem wl_2_17 : Cond.instanceMethod yX4_takes ∈ wsG := wt_2 (i := 17) rfl rfl
theorem wl_2_18 : Cond.selects RX4 yX4_takes yX4_takes ∈ wsG := wt_2 (i := 18) rfl rfl
theorem wl_2_19 : Cond.code yX4_takes cX4_takes 3 (some .boolean) ∈ wsG := wt_2 (i := 19) rfl rfl
theorem wl_2_20 : Cond.methodLink RX4 22 yX4_goesOn ∈ wsG := wt_2 (i := 20) rfl rfl
theorem wl_2_22 : Cond.instanceMethod yX4_goesOn ∈ wsG := wt_2 (i := 22) rfl rfl
theorem wl_2_23 : Cond.code yX4_goesOn cX4_goesOn 3 (some .boolean) ∈ wsG := wt_2 (i := 23) rfl rfl
theorem wl_2_24 : Cond.methodLink RX4 26 yX4_beginsPath ∈ wsG := wt_2 (i := 24) rfl rfl
theorem wl_2_26 : Cond.instanceMethod yX4_beginsPath ∈ wsG := wt_2 (i := 26) rfl rfl
theorem wl_2_27 : Cond.code yX4_beginsPath cX4_beginsPath 2 (some .boolean) ∈ wsG := wt_2 (i := 27) rfl rfl
theorem wl_2_28 : Cond.methodLink RX4 36 yX4_takesEvent ∈ wsG := wt_2 (i := 28) rfl rfl
theorem wl_2_30 : Cond.instanceMethod yX4_takesEvent ∈ wsG := wt_2 (i := 30) rfl rfl
theorem wl_2_31 : Cond.code yX4_takesEvent cX4_takesEvent 3 (some .boolean) ∈ wsG := wt_2 (i := 31) rfl rfl
theorem wl_2_32 : Cond.methodLink RX4 70 yX0_openRefusal ∈ wsG := wt_2 (i := 32) rfl rfl
theorem wl_2_33 : Cond.instanceMethod yX0_openRefusal ∈ wsG := wt_2 (i := 33) rfl rfl
theorem wl_2_34 : Cond.selects RX0 yX0_openRefusal yX0_openRefusal ∈ wsG := wt_2 (i := 34) rfl rfl
theorem wl_2_35 : Cond.code yX0_openRefusal cX0_openRefusal 2 (some .int) ∈ wsG := wt_2 (i := 35) rfl rfl
theorem wl_2_36 : Cond.methodLink RX0 46 yX0_currentDepth ∈ wsG := wt_2 (i := 36) rfl rfl
theorem wl_2_37 : Cond.instanceMethod yX0_currentDepth ∈ wsG := wt_2 (i := 37) rfl rfl
theorem wl_2_38 : Cond.selects RX0 yX0_currentDepth yX0_currentDepth ∈ wsG := wt_2 (i := 38) rfl rfl
theorem wl_2_39 : Cond.code yX0_currentDepth cX0_currentDepth 1 (some .int) ∈ wsG := wt_2 (i := 39) rfl rfl
theorem wl_2_40 : Cond.methodLink RX4 74 yX0_leave ∈ wsG := wt_2 (i := 40) rfl rfl
theorem wl_2_41 : Cond.instanceMethod yX0_leave ∈ wsG := wt_2 (i := 41) rfl rfl
theorem wl_2_42 : Cond.selects RX0 yX0_leave yX0_leave ∈ wsG := wt_2 (i := 42) rfl rfl
theorem wl_2_43 : Cond.code yX0_leave cX0_leave 1 (some .boolean) ∈ wsG := wt_2 (i := 43) rfl rfl
theorem wl_2_44 : Cond.methodLink RX4 78 yX4_figureOf ∈ wsG := wt_2 (i := 44) rfl rfl
theorem wl_2_45 : Cond.static yX4_figureOf ∈ wsG := wt_2 (i := 45) rfl rfl
theorem wl_2_46 : Cond.code yX4_figureOf cX4_figureOf 1 (some .int) ∈ wsG := wt_2 (i := 46) rfl rfl
theorem wl_2_47 : Cond.methodLink RX4 81 yX0_hold ∈ wsG := wt_2 (i := 47) rfl rfl
theorem wl_2_48 : Cond.instanceMethod yX0_hold ∈ wsG := wt_2 (i := 48) rfl rfl
theorem wl_2_49 : Cond.selects RX0 yX0_hold yX0_hold ∈ wsG := wt_2 (i := 49) rfl rfl
theorem wl_2_50 : Cond.code yX0_hold cX0_hold 2 (some .boolean) ∈ wsG := wt_2 (i := 50) rfl rfl
theorem wl_2_51 : Cond.methodLink RX4 40 yX4_takesAxis ∈ wsG := wt_2 (i := 51) rfl rfl
theorem wl_2_53 : Cond.instanceMethod yX4_takesAxis ∈ wsG := wt_2 (i := 53) rfl rfl
theorem wl_2_54 : Cond.code yX4_takesAxis cX4_takesAxis 3 (some .boolean) ∈ wsG := wt_2 (i := 54) rfl rfl
theorem wl_2_55 : Cond.methodLink RX4 44 yX4_takesTest ∈ wsG := wt_2 (i := 55) rfl rfl
theorem wl_2_57 : Cond.instanceMethod yX4_takesTest ∈ wsG := wt_2 (i := 57) rfl rfl
theorem wl_2_58 : Cond.code yX4_takesTest cX4_takesTest 3 (some .boolean) ∈ wsG := wt_2 (i := 58) rfl rfl
theorem wl_2_59 : Cond.methodLink RX4 57 yX4_nameOf ∈ wsG := wt_2 (i := 59) rfl rfl
theorem wl_2_60 : Cond.static yX4_nameOf ∈ wsG := wt_2 (i := 60) rfl rfl
theorem wl_2_61 : Cond.code yX4_nameOf cX4_nameOf 1 (some .int) ∈ wsG := wt_2 (i := 61) rfl rfl
theorem wl_2_62 : Cond.methodLink RX4 84 yX4_addsToStep ∈ wsG := wt_2 (i := 62) rfl rfl
theorem wl_2_64 : Cond.instanceMethod yX4_addsToStep ∈ wsG := wt_2 (i := 64) rfl rfl
theorem wl_2_65 : Cond.code yX4_addsToStep cX4_addsToStep 4 (some .boolean) ∈ wsG := wt_2 (i := 65) rfl rfl
theorem wl_2_66 : Cond.methodLink RX4 47 yX4_takesNextStep ∈ wsG := wt_2 (i := 66) rfl rfl
theorem wl_2_68 : Cond.instanceMethod yX4_takesNextStep ∈ wsG := wt_2 (i := 68) rfl rfl
theorem wl_2_69 : Cond.code yX4_takesNextStep cX4_takesNextStep 3 (some .boolean) ∈ wsG := wt_2 (i := 69) rfl rfl
theorem wl_2_70 : Cond.methodLink RX4 88 yX3_addPath ∈ wsG := wt_2 (i := 70) rfl rfl
theorem wl_2_71 : Cond.instanceMethod yX3_addPath ∈ wsG := wt_2 (i := 71) rfl rfl
theorem wl_2_72 : Cond.selects RX3 yX3_addPath yX3_addPath ∈ wsG := wt_2 (i := 72) rfl rfl
theorem wl_2_73 : Cond.code yX3_addPath cX3_addPath 3 none ∈ wsG := wt_2 (i := 73) rfl rfl
theorem wl_2_74 : Cond.methodLink RX3 39 yX2_begin ∈ wsG := wt_2 (i := 74) rfl rfl
theorem wl_2_75 : Cond.instanceMethod yX2_begin ∈ wsG := wt_2 (i := 75) rfl rfl
theorem wl_2_76 : Cond.selects RX2 yX2_begin yX2_begin ∈ wsG := wt_2 (i := 76) rfl rfl
theorem wl_2_77 : Cond.code yX2_begin cX2_begin 3 none ∈ wsG := wt_2 (i := 77) rfl rfl
theorem wl_2_78 : Cond.methodLink RX2 21 yJ9_min_7cf53 ∈ wsG := wt_2 (i := 78) rfl rfl
theorem wl_2_79 : Cond.static yJ9_min_7cf53 ∈ wsG := wt_2 (i := 79) rfl rfl
theorem wl_2_80 : Cond.code yJ9_min_7cf53 cJ9_min_7cf53 2 (some .int) ∈ wsG := wt_2 (i := 80) rfl rfl
theorem wl_2_81 : Cond.methodLink RX2 27 yJ9_max_7cf53 ∈ wsG := wt_2 (i := 81) rfl rfl
theorem wl_2_82 : Cond.static yJ9_max_7cf53 ∈ wsG := wt_2 (i := 82) rfl rfl
theorem wl_2_83 : Cond.code yJ9_max_7cf53 cJ9_max_7cf53 2 (some .int) ∈ wsG := wt_2 (i := 83) rfl rfl
theorem wl_2_84 : Cond.methodLink RX2 34 arraycopyName ∈ wsG := wt_2 (i := 84) rfl rfl
theorem wl_2_85 : Cond.static arraycopyName ∈ wsG := wt_2 (i := 85) rfl rfl
theorem wl_2_86 : Cond.native arraycopyName ∈ wsG := wt_2 (i := 86) rfl rfl
theorem wl_2_87 : Cond.methodLink RX4 51 yX4_takesChildName ∈ wsG := wt_2 (i := 87) rfl rfl
theorem wl_2_89 : Cond.instanceMethod yX4_takesChildName ∈ wsG := wt_2 (i := 89) rfl rfl
theorem wl_2_90 : Cond.code yX4_takesChildName cX4_takesChildName 3 (some .boolean) ∈ wsG := wt_2 (i := 90) rfl rfl
theorem wl_2_91 : Cond.methodLink RX4 54 yX4_takesFigure ∈ wsG := wt_2 (i := 91) rfl rfl
theorem wl_2_93 : Cond.instanceMethod yX4_takesFigure ∈ wsG := wt_2 (i := 93) rfl rfl
theorem wl_2_94 : Cond.code yX4_takesFigure cX4_takesFigure 3 (some .boolean) ∈ wsG := wt_2 (i := 94) rfl rfl
theorem wl_2_95 : Cond.methodLink RX4 61 yX0_enter ∈ wsG := wt_2 (i := 95) rfl rfl
theorem wl_2_96 : Cond.instanceMethod yX0_enter ∈ wsG := wt_2 (i := 96) rfl rfl
theorem wl_2_97 : Cond.selects RX0 yX0_enter yX0_enter ∈ wsG := wt_2 (i := 97) rfl rfl
theorem wl_2_98 : Cond.code yX0_enter cX0_enter 2 (some .boolean) ∈ wsG := wt_2 (i := 98) rfl rfl
theorem wl_2_99 : Cond.methodLink RX0 50 yX0_openRefusal ∈ wsG := wt_2 (i := 99) rfl rfl
theorem wl_2_100 : Cond.methodLink RX5 179 yX3_emitAll ∈ wsG := wt_2 (i := 100) rfl rfl
theorem wl_2_101 : Cond.instanceMethod yX3_emitAll ∈ wsG := wt_2 (i := 101) rfl rfl
theorem wl_2_102 : Cond.selects RX3 yX3_emitAll yX3_emitAll ∈ wsG := wt_2 (i := 102) rfl rfl
theorem wl_2_103 : Cond.code yX3_emitAll cX3_emitAll 4 (some .int) ∈ wsG := wt_2 (i := 103) rfl rfl
theorem wl_2_104 : Cond.methodLink RX3 43 yX3_emitOne ∈ wsG := wt_2 (i := 104) rfl rfl
theorem wl_2_105 : Cond.instanceMethod yX3_emitOne ∈ wsG := wt_2 (i := 105) rfl rfl
theorem wl_2_106 : Cond.selects RX3 yX3_emitOne yX3_emitOne ∈ wsG := wt_2 (i := 106) rfl rfl
theorem wl_2_107 : Cond.code yX3_emitOne cX3_emitOne 3 (some .int) ∈ wsG := wt_2 (i := 107) rfl rfl
theorem wl_2_108 : Cond.methodLink RX3 47 yX1_match ∈ wsG := wt_2 (i := 108) rfl rfl
theorem wl_2_109 : Cond.instanceMethod yX1_match ∈ wsG := wt_2 (i := 109) rfl rfl
theorem wl_2_110 : Cond.selects RX1 yX1_match yX1_match ∈ wsG := wt_2 (i := 110) rfl rfl
theorem wl_2_111 : Cond.code yX1_match cX1_match 4 none ∈ wsG := wt_2 (i := 111) rfl rfl
theorem wl_2_112 : Cond.methodLink RX1 39 yX1_lookAround ∈ wsG := wt_2 (i := 112) rfl rfl
theorem wl_2_114 : Cond.instanceMethod yX1_lookAround ∈ wsG := wt_2 (i := 114) rfl rfl
theorem wl_2_115 : Cond.code yX1_lookAround cX1_lookAround 4 none ∈ wsG := wt_2 (i := 115) rfl rfl
theorem wl_2_116 : Cond.methodLink RX1 43 yX1_matchElement ∈ wsG := wt_2 (i := 116) rfl rfl
theorem wl_2_118 : Cond.instanceMethod yX1_matchElement ∈ wsG := wt_2 (i := 118) rfl rfl
theorem wl_2_119 : Cond.code yX1_matchElement cX1_matchElement 20 none ∈ wsG := wt_2 (i := 119) rfl rfl
theorem wl_2_120 : Cond.methodLink RX1 58 yX0_fulfilled ∈ wsG := wt_2 (i := 120) rfl rfl
theorem wl_2_121 : Cond.instanceMethod yX0_fulfilled ∈ wsG := wt_2 (i := 121) rfl rfl
theorem wl_2_122 : Cond.selects RX0 yX0_fulfilled yX0_fulfilled ∈ wsG := wt_2 (i := 122) rfl rfl
theorem wl_2_123 : Cond.code yX0_fulfilled cX0_fulfilled 2 (some .int) ∈ wsG := wt_2 (i := 123) rfl rfl
theorem wl_2_124 : Cond.methodLink RX1 68 yX1_hasPrefix ∈ wsG := wt_2 (i := 124) rfl rfl
theorem wl_2_125 : Cond.static yX1_hasPrefix ∈ wsG := wt_2 (i := 125) rfl rfl
theorem wl_2_126 : Cond.code yX1_hasPrefix cX1_hasPrefix 2 (some .boolean) ∈ wsG := wt_2 (i := 126) rfl rfl
theorem wl_2_127 : Cond.methodLink RX1 52 yX1_note ∈ wsG := wt_2 (i := 127) rfl rfl
theorem wl_2_129 : Cond.instanceMethod yX1_note ∈ wsG := wt_2 (i := 129) rfl rfl
theorem wl_2_130 : Cond.code yX1_note cX1_note 3 none ∈ wsG := wt_2 (i := 130) rfl rfl
theorem wl_2_131 : Cond.methodLink RX3 56 yX2_emit ∈ wsG := wt_2 (i := 131) rfl rfl
theorem wl_2_132 : Cond.instanceMethod yX2_emit ∈ wsG := wt_2 (i := 132) rfl rfl
theorem wl_2_133 : Cond.selects RX2 yX2_emit yX2_emit ∈ wsG := wt_2 (i := 133) rfl rfl
theorem wl_2_134 : Cond.code yX2_emit cX2_emit 7 (some .int) ∈ wsG := wt_2 (i := 134) rfl rfl
theorem wl_2_135 : Cond.methodLink RX2 63 yX2_bufferSize ∈ wsG := wt_2 (i := 135) rfl rfl
theorem wl_2_136 : Cond.instanceMethod yX2_bufferSize ∈ wsG := wt_2 (i := 136) rfl rfl
theorem wl_2_137 : Cond.selects RX2 yX2_bufferSize yX2_bufferSize ∈ wsG := wt_2 (i := 137) rfl rfl
theorem wl_2_138 : Cond.code yX2_bufferSize cX2_bufferSize 2 (some .int) ∈ wsG := wt_2 (i := 138) rfl rfl
theorem wl_2_139 : Cond.methodLink RX2 57 yJ6_bitCount_0f7a4 ∈ wsG := wt_2 (i := 139) rfl rfl
theorem wl_2_140 : Cond.static yJ6_bitCount_0f7a4 ∈ wsG := wt_2 (i := 140) rfl rfl
theorem wl_2_141 : Cond.code yJ6_bitCount_0f7a4 cJ6_bitCount_0f7a4 1 (some .int) ∈ wsG := wt_2 (i := 141) rfl rfl
theorem wl_2_142 : Cond.constant RJ6 265 (1431655765) ∈ wsG := wt_2 (i := 142) rfl rfl
theorem wl_2_143 : Cond.constant RJ6 266 (858993459) ∈ wsG := wt_2 (i := 143) rfl rfl
theorem wl_2_144 : Cond.constant RJ6 267 (252645135) ∈ wsG := wt_2 (i := 144) rfl rfl
theorem wl_2_145 : Cond.methodLink RX5 260 yX4_mayEnd ∈ wsG := wt_2 (i := 145) rfl rfl
theorem wl_2_146 : Cond.instanceMethod yX4_mayEnd ∈ wsG := wt_2 (i := 146) rfl rfl
theorem wl_2_147 : Cond.selects RX4 yX4_mayEnd yX4_mayEnd ∈ wsG := wt_2 (i := 147) rfl rfl
theorem wl_2_148 : Cond.code yX4_mayEnd cX4_mayEnd 1 (some .boolean) ∈ wsG := wt_2 (i := 148) rfl rfl
theorem wl_2_149 : Cond.methodLink RL 27 yX5_task ∈ wsG := wt_2 (i := 149) rfl rfl
theorem wl_2_150 : Cond.instanceMethod yX5_task ∈ wsG := wt_2 (i := 150) rfl rfl
theorem wl_2_151 : Cond.selects RX5 yX5_task yX5_task ∈ wsG := wt_2 (i := 151) rfl rfl
theorem wl_2_152 : Cond.code yX5_task cX5_task 2 (some .int) ∈ wsG := wt_2 (i := 152) rfl rfl
theorem wl_2_153 : Cond.methodLink RX5 69 yX3_copyFrom ∈ wsG := wt_2 (i := 153) rfl rfl
theorem wl_2_154 : Cond.instanceMethod yX3_copyFrom ∈ wsG := wt_2 (i := 154) rfl rfl
theorem wl_2_155 : Cond.selects RX3 yX3_copyFrom yX3_copyFrom ∈ wsG := wt_2 (i := 155) rfl rfl
theorem wl_2_156 : Cond.code yX3_copyFrom cX3_copyFrom 3 none ∈ wsG := wt_2 (i := 156) rfl rfl
theorem wl_2_157 : Cond.methodLink RX3 32 yX0_copyFrom ∈ wsG := wt_2 (i := 157) rfl rfl
theorem wl_2_158 : Cond.instanceMethod yX0_copyFrom ∈ wsG := wt_2 (i := 158) rfl rfl
theorem wl_2_159 : Cond.selects RX0 yX0_copyFrom yX0_copyFrom ∈ wsG := wt_2 (i := 159) rfl rfl
theorem wl_2_160 : Cond.code yX0_copyFrom cX0_copyFrom 2 none ∈ wsG := wt_2 (i := 160) rfl rfl
theorem wl_2_161 : Cond.methodLink RX0 40 arraycopyName ∈ wsG := wt_2 (i := 161) rfl rfl
theorem wl_2_162 : Cond.methodLink RX3 36 yX2_copyFrom ∈ wsG := wt_2 (i := 162) rfl rfl
theorem wl_2_163 : Cond.instanceMethod yX2_copyFrom ∈ wsG := wt_2 (i := 163) rfl rfl
theorem wl_2_164 : Cond.selects RX2 yX2_copyFrom yX2_copyFrom ∈ wsG := wt_2 (i := 164) rfl rfl
theorem wl_2_165 : Cond.code yX2_copyFrom cX2_copyFrom 2 none ∈ wsG := wt_2 (i := 165) rfl rfl
theorem wl_2_166 : Cond.methodLink RX5 73 yX5_forgetActions ∈ wsG := wt_2 (i := 166) rfl rfl
theorem wl_2_168 : Cond.instanceMethod yX5_forgetActions ∈ wsG := wt_2 (i := 168) rfl rfl
theorem wl_2_169 : Cond.code yX5_forgetActions cX5_forgetActions 1 none ∈ wsG := wt_2 (i := 169) rfl rfl
theorem wl_2_170 : Cond.methodLink RL 31 yX5_about ∈ wsG := wt_2 (i := 170) rfl rfl
theorem wl_2_171 : Cond.instanceMethod yX5_about ∈ wsG := wt_2 (i := 171) rfl rfl
theorem wl_2_172 : Cond.selects RX5 yX5_about yX5_about ∈ wsG := wt_2 (i := 172) rfl rfl
theorem wl_2_173 : Cond.code yX5_about cX5_about 2 (some .int) ∈ wsG := wt_2 (i := 173) rfl rfl
theorem wl_2_174 : Cond.methodLink RX5 91 yX0_currentDepth ∈ wsG := wt_2 (i := 174) rfl rfl
theorem wl_2_175 : Cond.methodLink RX5 98 yX3_differentPrefixes ∈ wsG := wt_2 (i := 175) rfl rfl
theorem wl_2_176 : Cond.instanceMethod yX3_differentPrefixes ∈ wsG := wt_2 (i := 176) rfl rfl
theorem wl_2_177 : Cond.selects RX3 yX3_differentPrefixes yX3_differentPrefixes ∈ wsG := wt_2 (i := 177) rfl rfl
theorem wl_2_178 : Cond.code yX3_differentPrefixes cX3_differentPrefixes 4 (some .int) ∈ wsG := wt_2 (i := 178) rfl rfl
theorem wl_2_179 : Cond.methodLink RX3 63 yX3_earlierBeginsLike ∈ wsG := wt_2 (i := 179) rfl rfl
theorem wl_2_181 : Cond.instanceMethod yX3_earlierBeginsLike ∈ wsG := wt_2 (i := 181) rfl rfl
theorem wl_2_182 : Cond.code yX3_earlierBeginsLike cX3_earlierBeginsLike 4 (some .boolean) ∈ wsG := wt_2 (i := 182) rfl rfl
theorem wl_2_183 : Cond.methodLink RX3 67 yX2_beginsLike ∈ wsG := wt_2 (i := 183) rfl rfl
theorem wl_2_184 : Cond.instanceMethod yX2_beginsLike ∈ wsG := wt_2 (i := 184) rfl rfl
theorem wl_2_185 : Cond.selects RX2 yX2_beginsLike yX2_beginsLike ∈ wsG := wt_2 (i := 185) rfl rfl
theorem wl_2_186 : Cond.code yX2_beginsLike cX2_beginsLike 4 (some .boolean) ∈ wsG := wt_2 (i := 186) rfl rfl
theorem wl_2_187 : Cond.methodLink RL 35 yX5_element ∈ wsG := wt_2 (i := 187) rfl rfl
theorem wl_2_188 : Cond.instanceMethod yX5_element ∈ wsG := wt_2 (i := 188) rfl rfl
theorem wl_2_189 : Cond.selects RX5 yX5_element yX5_element ∈ wsG := wt_2 (i := 189) rfl rfl
theorem wl_2_190 : Cond.code yX5_element cX5_element 4 (some .int) ∈ wsG := wt_2 (i := 190) rfl rfl
theorem wl_2_191 : Cond.methodLink RX5 107 yX5_isElement ∈ wsG := wt_2 (i := 191) rfl rfl
theorem wl_2_193 : Cond.instanceMethod yX5_isElement ∈ wsG := wt_2 (i := 193) rfl rfl
theorem wl_2_194 : Cond.code yX5_isElement cX5_isElement 2 (some .boolean) ∈ wsG := wt_2 (i := 194) rfl rfl
theorem wl_2_195 : Cond.methodLink RL 40 yX5_path ∈ wsG := wt_2 (i := 195) rfl rfl
theorem wl_2_196 : Cond.instanceMethod yX5_path ∈ wsG := wt_2 (i := 196) rfl rfl
theorem wl_2_197 : Cond.selects RX5 yX5_path yX5_path ∈ wsG := wt_2 (i := 197) rfl rfl
theorem wl_2_198 : Cond.code yX5_path cX5_path 3 (some .int) ∈ wsG := wt_2 (i := 198) rfl rfl
theorem wl_2_199 : Cond.methodLink RX5 129 yX5_isPath ∈ wsG := wt_2 (i := 199) rfl rfl
theorem wl_2_201 : Cond.instanceMethod yX5_isPath ∈ wsG := wt_2 (i := 201) rfl rfl
theorem wl_2_202 : Cond.code yX5_isPath cX5_isPath 2 (some .boolean) ∈ wsG := wt_2 (i := 202) rfl rfl
theorem wl_2_203 : Cond.methodLink RX5 132 yX5_pathNumber ∈ wsG := wt_2 (i := 203) rfl rfl
theorem wl_2_205 : Cond.instanceMethod yX5_pathNumber ∈ wsG := wt_2 (i := 205) rfl rfl
theorem wl_2_206 : Cond.code yX5_pathNumber cX5_pathNumber 5 (some .int) ∈ wsG := wt_2 (i := 206) rfl rfl
theorem wl_2_207 : Cond.methodLink RX5 148 yX1_match ∈ wsG := wt_2 (i := 207) rfl rfl
theorem wl_2_208 : Cond.methodLink RX5 263 yX2_bufferSize ∈ wsG := wt_2 (i := 208) rfl rfl
theorem wl_2_209 : Cond.methodLink RX5 237 yJ6_bitCount_0f7a4 ∈ wsG := wt_2 (i := 209) rfl rfl
theorem wl_2_210 : Cond.methodLink RL 44 yX5_step ∈ wsG := wt_2 (i := 210) rfl rfl
theorem wl_2_211 : Cond.instanceMethod yX5_step ∈ wsG := wt_2 (i := 211) rfl rfl
theorem wl_2_212 : Cond.selects RX5 yX5_step yX5_step ∈ wsG := wt_2 (i := 212) rfl rfl
theorem wl_2_213 : Cond.code yX5_step cX5_step 3 (some .int) ∈ wsG := wt_2 (i := 213) rfl rfl
theorem wl_2_214 : Cond.methodLink RL 48 yX5_is ∈ wsG := wt_2 (i := 214) rfl rfl
theorem wl_2_215 : Cond.instanceMethod yX5_is ∈ wsG := wt_2 (i := 215) rfl rfl
theorem wl_2_216 : Cond.selects RX5 yX5_is yX5_is ∈ wsG := wt_2 (i := 216) rfl rfl
theorem wl_2_217 : Cond.code yX5_is cX5_is 3 (some .int) ∈ wsG := wt_2 (i := 217) rfl rfl
theorem wl_2_218 : Cond.methodLink RL 52 yX5_ends ∈ wsG := wt_2 (i := 218) rfl rfl
theorem wl_2_219 : Cond.instanceMethod yX5_ends ∈ wsG := wt_2 (i := 219) rfl rfl
theorem wl_2_220 : Cond.selects RX5 yX5_ends yX5_ends ∈ wsG := wt_2 (i := 220) rfl rfl
theorem wl_2_221 : Cond.code yX5_ends cX5_ends 3 (some .int) ∈ wsG := wt_2 (i := 221) rfl rfl
theorem wl_2_222 : Cond.methodLink RL 56 yX5_out ∈ wsG := wt_2 (i := 222) rfl rfl
theorem wl_2_223 : Cond.instanceMethod yX5_out ∈ wsG := wt_2 (i := 223) rfl rfl
theorem wl_2_224 : Cond.selects RX5 yX5_out yX5_out ∈ wsG := wt_2 (i := 224) rfl rfl
theorem wl_2_225 : Cond.code yX5_out cX5_out 5 (some .int) ∈ wsG := wt_2 (i := 225) rfl rfl
theorem wl_2_226 : Cond.methodLink RL 61 yX5_open ∈ wsG := wt_2 (i := 226) rfl rfl
theorem wl_2_227 : Cond.instanceMethod yX5_open ∈ wsG := wt_2 (i := 227) rfl rfl
theorem wl_2_228 : Cond.selects RX5 yX5_open yX5_open ∈ wsG := wt_2 (i := 228) rfl rfl
theorem wl_2_229 : Cond.code yX5_open cX5_open 3 (some .int) ∈ wsG := wt_2 (i := 229) rfl rfl
theorem wl_2_230 : Cond.methodLink RX5 170 yX0_openRefusal ∈ wsG := wt_2 (i := 230) rfl rfl
theorem wl_2_231 : Cond.methodLink RX5 173 yX5_recordAction ∈ wsG := wt_2 (i := 231) rfl rfl
theorem wl_2_233 : Cond.instanceMethod yX5_recordAction ∈ wsG := wt_2 (i := 233) rfl rfl
theorem wl_2_234 : Cond.code yX5_recordAction cX5_recordAction 1 none ∈ wsG := wt_2 (i := 234) rfl rfl
theorem wl_2_235 : Cond.methodLink RX5 176 yX0_enter ∈ wsG := wt_2 (i := 235) rfl rfl
theorem wl_2_236 : Cond.methodLink RL 65 yX5_close ∈ wsG := wt_2 (i := 236) rfl rfl
theorem wl_2_237 : Cond.instanceMethod yX5_close ∈ wsG := wt_2 (i := 237) rfl rfl
theorem wl_2_238 : Cond.selects RX5 yX5_close yX5_close ∈ wsG := wt_2 (i := 238) rfl rfl
theorem wl_2_239 : Cond.code yX5_close cX5_close 1 (some .int) ∈ wsG := wt_2 (i := 239) rfl rfl
theorem wl_3_0 : Cond.methodLink RX5 183 yX0_leave ∈ wsG := wt_3 (i := 0) rfl rfl
theorem wl_3_1 : Cond.methodLink RL 69 yX5_tell ∈ wsG := wt_3 (i := 1) rfl rfl
theorem wl_3_2 : Cond.instanceMethod yX5_tell ∈ wsG := wt_3 (i := 2) rfl rfl
theorem wl_3_3 : Cond.selects RX5 yX5_tell yX5_tell ∈ wsG := wt_3 (i := 3) rfl rfl
theorem wl_3_4 : Cond.code yX5_tell cX5_tell 2 (some .int) ∈ wsG := wt_3 (i := 4) rfl rfl
theorem wl_3_5 : Cond.methodLink RX5 187 yX0_hold ∈ wsG := wt_3 (i := 5) rfl rfl
theorem wl_3_6 : Cond.methodLink RL 75 yX5_ask ∈ wsG := wt_3 (i := 6) rfl rfl
theorem wl_3_7 : Cond.instanceMethod yX5_ask ∈ wsG := wt_3 (i := 7) rfl rfl
theorem wl_3_8 : Cond.selects RX5 yX5_ask yX5_ask ∈ wsG := wt_3 (i := 8) rfl rfl
theorem wl_3_9 : Cond.code yX5_ask cX5_ask 5 (some .int) ∈ wsG := wt_3 (i := 9) rfl rfl
theorem wl_3_10 : Cond.methodLink RX5 190 yX5_splits ∈ wsG := wt_3 (i := 10) rfl rfl
theorem wl_3_12 : Cond.instanceMethod yX5_splits ∈ wsG := wt_3 (i := 12) rfl rfl
theorem wl_3_13 : Cond.code yX5_splits cX5_splits 8 (some .boolean) ∈ wsG := wt_3 (i := 13) rfl rfl
theorem wl_3_14 : Cond.methodLink RX5 194 yX5_partsAreSteps ∈ wsG := wt_3 (i := 14) rfl rfl
theorem wl_3_16 : Cond.instanceMethod yX5_partsAreSteps ∈ wsG := wt_3 (i := 16) rfl rfl
theorem wl_3_17 : Cond.code yX5_partsAreSteps cX5_partsAreSteps 6 (some .boolean) ∈ wsG := wt_3 (i := 17) rfl rfl
theorem wl_3_18 : Cond.methodLink RX5 197 yX3_addPath ∈ wsG := wt_3 (i := 18) rfl rfl
theorem wl_3_19 : Cond.methodLink RX5 201 yX3_emitOne ∈ wsG := wt_3 (i := 19) rfl rfl
theorem wl_3_20 : Cond.methodLink RL 80 yX5_drop ∈ wsG := wt_3 (i := 20) rfl rfl
theorem wl_3_21 : Cond.instanceMethod yX5_drop ∈ wsG := wt_3 (i := 21) rfl rfl
theorem wl_3_22 : Cond.selects RX5 yX5_drop yX5_drop ∈ wsG := wt_3 (i := 22) rfl rfl
theorem wl_3_23 : Cond.code yX5_drop cX5_drop 1 (some .int) ∈ wsG := wt_3 (i := 23) rfl rfl
theorem wl_3_24 : Cond.methodLink RL 84 yX5_undo ∈ wsG := wt_3 (i := 24) rfl rfl
theorem wl_3_25 : Cond.instanceMethod yX5_undo ∈ wsG := wt_3 (i := 25) rfl rfl
theorem wl_3_26 : Cond.selects RX5 yX5_undo yX5_undo ∈ wsG := wt_3 (i := 26) rfl rfl
theorem wl_3_27 : Cond.code yX5_undo cX5_undo 1 (some .int) ∈ wsG := wt_3 (i := 27) rfl rfl
theorem wl_3_28 : Cond.methodLink RL 88 yX5_within ∈ wsG := wt_3 (i := 28) rfl rfl
theorem wl_3_29 : Cond.instanceMethod yX5_within ∈ wsG := wt_3 (i := 29) rfl rfl
theorem wl_3_30 : Cond.selects RX5 yX5_within yX5_within ∈ wsG := wt_3 (i := 30) rfl rfl
theorem wl_3_31 : Cond.code yX5_within cX5_within 5 (some .int) ∈ wsG := wt_3 (i := 31) rfl rfl
theorem wl_3_32 : Cond.methodLink RX5 208 yX5_answersOf ∈ wsG := wt_3 (i := 32) rfl rfl
theorem wl_3_34 : Cond.instanceMethod yX5_answersOf ∈ wsG := wt_3 (i := 34) rfl rfl
theorem wl_3_35 : Cond.code yX5_answersOf cX5_answersOf 3 (some .int) ∈ wsG := wt_3 (i := 35) rfl rfl
theorem wl_3_36 : Cond.methodLink RL 92 yX5_judge ∈ wsG := wt_3 (i := 36) rfl rfl
theorem wl_3_37 : Cond.instanceMethod yX5_judge ∈ wsG := wt_3 (i := 37) rfl rfl
theorem wl_3_38 : Cond.selects RX5 yX5_judge yX5_judge ∈ wsG := wt_3 (i := 38) rfl rfl
theorem wl_3_39 : Cond.code yX5_judge cX5_judge 5 (some .int) ∈ wsG := wt_3 (i := 39) rfl rfl
theorem wl_3_40 : Cond.methodLink RX5 212 yX5_comesTrue ∈ wsG := wt_3 (i := 40) rfl rfl
theorem wl_3_42 : Cond.instanceMethod yX5_comesTrue ∈ wsG := wt_3 (i := 42) rfl rfl
theorem wl_3_43 : Cond.code yX5_comesTrue cX5_comesTrue 4 (some .boolean) ∈ wsG := wt_3 (i := 43) rfl rfl
theorem wl_3_44 : Cond.methodLink RX5 269 yX5_emitsAfter ∈ wsG := wt_3 (i := 44) rfl rfl
theorem wl_3_46 : Cond.instanceMethod yX5_emitsAfter ∈ wsG := wt_3 (i := 46) rfl rfl
theorem wl_3_47 : Cond.code yX5_emitsAfter cX5_emitsAfter 2 (some .boolean) ∈ wsG := wt_3 (i := 47) rfl rfl
theorem wl_3_48 : Cond.methodLink RL 96 yX5_see ∈ wsG := wt_3 (i := 48) rfl rfl
theorem wl_3_49 : Cond.instanceMethod yX5_see ∈ wsG := wt_3 (i := 49) rfl rfl
theorem wl_3_50 : Cond.selects RX5 yX5_see yX5_see ∈ wsG := wt_3 (i := 50) rfl rfl
theorem wl_3_51 : Cond.code yX5_see cX5_see 3 (some .int) ∈ wsG := wt_3 (i := 51) rfl rfl
theorem wl_3_52 : Cond.methodLink RL 100 yX5_unsee ∈ wsG := wt_3 (i := 52) rfl rfl
theorem wl_3_53 : Cond.instanceMethod yX5_unsee ∈ wsG := wt_3 (i := 53) rfl rfl
theorem wl_3_54 : Cond.selects RX5 yX5_unsee yX5_unsee ∈ wsG := wt_3 (i := 54) rfl rfl
theorem wl_3_55 : Cond.code yX5_unsee cX5_unsee 2 (some .int) ∈ wsG := wt_3 (i := 55) rfl rfl
theorem wl_3_56 : Cond.methodLink RL 104 yX5_which ∈ wsG := wt_3 (i := 56) rfl rfl
theorem wl_3_57 : Cond.instanceMethod yX5_which ∈ wsG := wt_3 (i := 57) rfl rfl
theorem wl_3_58 : Cond.selects RX5 yX5_which yX5_which ∈ wsG := wt_3 (i := 58) rfl rfl
theorem wl_3_59 : Cond.code yX5_which cX5_which 3 (some .int) ∈ wsG := wt_3 (i := 59) rfl rfl
theorem wl_3_60 : Cond.methodLink RX5 216 yX5_agreesWithAll ∈ wsG := wt_3 (i := 60) rfl rfl
theorem wl_3_62 : Cond.instanceMethod yX5_agreesWithAll ∈ wsG := wt_3 (i := 62) rfl rfl
theorem wl_3_63 : Cond.code yX5_agreesWithAll cX5_agreesWithAll 4 (some .boolean) ∈ wsG := wt_3 (i := 63) rfl rfl
theorem wl_3_64 : Cond.methodLink RX5 273 yX5_answersWithLastTest ∈ wsG := wt_3 (i := 64) rfl rfl
theorem wl_3_66 : Cond.instanceMethod yX5_answersWithLastTest ∈ wsG := wt_3 (i := 66) rfl rfl
theorem wl_3_67 : Cond.code yX5_answersWithLastTest cX5_answersWithLastTest 4 (some .int) ∈ wsG := wt_3 (i := 67) rfl rfl
theorem wl_3_68 : Cond.methodLink RX5 276 yX2_copyFrom ∈ wsG := wt_3 (i := 68) rfl rfl
theorem wl_3_69 : Cond.methodLink RX5 279 yX2_setLastTest ∈ wsG := wt_3 (i := 69) rfl rfl
theorem wl_3_70 : Cond.instanceMethod yX2_setLastTest ∈ wsG := wt_3 (i := 70) rfl rfl
theorem wl_3_71 : Cond.selects RX2 yX2_setLastTest yX2_setLastTest ∈ wsG := wt_3 (i := 71) rfl rfl
theorem wl_3_72 : Cond.code yX2_setLastTest cX2_setLastTest 3 none ∈ wsG := wt_3 (i := 72) rfl rfl
theorem wl_3_73 : Cond.methodLink RL 108 yX5_share ∈ wsG := wt_3 (i := 73) rfl rfl
theorem wl_3_74 : Cond.instanceMethod yX5_share ∈ wsG := wt_3 (i := 74) rfl rfl
theorem wl_3_75 : Cond.selects RX5 yX5_share yX5_share ∈ wsG := wt_3 (i := 75) rfl rfl
theorem wl_3_76 : Cond.code yX5_share cX5_share 6 (some .int) ∈ wsG := wt_3 (i := 76) rfl rfl
theorem wl_3_77 : Cond.methodLink RX5 219 yX5_findAnswerSets ∈ wsG := wt_3 (i := 77) rfl rfl
theorem wl_3_79 : Cond.instanceMethod yX5_findAnswerSets ∈ wsG := wt_3 (i := 79) rfl rfl
theorem wl_3_80 : Cond.code yX5_findAnswerSets cX5_findAnswerSets 2 none ∈ wsG := wt_3 (i := 80) rfl rfl
theorem wl_3_81 : Cond.methodLink RX5 222 yX5_pathsAnswering ∈ wsG := wt_3 (i := 81) rfl rfl
theorem wl_3_83 : Cond.instanceMethod yX5_pathsAnswering ∈ wsG := wt_3 (i := 83) rfl rfl
theorem wl_3_84 : Cond.code yX5_pathsAnswering cX5_pathsAnswering 4 (some .int) ∈ wsG := wt_3 (i := 84) rfl rfl
theorem wl_3_85 : Cond.methodLink RX5 226 yX5_inLowestTerms ∈ wsG := wt_3 (i := 85) rfl rfl
theorem wl_3_86 : Cond.static yX5_inLowestTerms ∈ wsG := wt_3 (i := 86) rfl rfl
theorem wl_3_87 : Cond.code yX5_inLowestTerms cX5_inLowestTerms 5 (some .int) ∈ wsG := wt_3 (i := 87) rfl rfl
theorem wl_3_88 : Cond.methodLink RX5 283 yX5_greatestDivisor ∈ wsG := wt_3 (i := 88) rfl rfl
theorem wl_3_89 : Cond.static yX5_greatestDivisor ∈ wsG := wt_3 (i := 89) rfl rfl
theorem wl_3_90 : Cond.code yX5_greatestDivisor cX5_greatestDivisor 6 (some .int) ∈ wsG := wt_3 (i := 90) rfl rfl
theorem wl_3_91 : Cond.methodLink RL 113 yX5_chance ∈ wsG := wt_3 (i := 91) rfl rfl
theorem wl_3_92 : Cond.instanceMethod yX5_chance ∈ wsG := wt_3 (i := 92) rfl rfl
theorem wl_3_93 : Cond.selects RX5 yX5_chance yX5_chance ∈ wsG := wt_3 (i := 93) rfl rfl
theorem wl_3_94 : Cond.code yX5_chance cX5_chance 8 (some .int) ∈ wsG := wt_3 (i := 94) rfl rfl
theorem wl_3_95 : Cond.methodLink RX5 230 yX5_weightOf ∈ wsG := wt_3 (i := 95) rfl rfl
theorem wl_3_97 : Cond.instanceMethod yX5_weightOf ∈ wsG := wt_3 (i := 97) rfl rfl
theorem wl_3_98 : Cond.code yX5_weightOf cX5_weightOf 5 (some .int) ∈ wsG := wt_3 (i := 98) rfl rfl
theorem wl_3_99 : Cond.methodLink RX5 234 yX5_answersOfAny ∈ wsG := wt_3 (i := 99) rfl rfl
theorem wl_3_101 : Cond.instanceMethod yX5_answersOfAny ∈ wsG := wt_3 (i := 101) rfl rfl
theorem wl_3_102 : Cond.code yX5_answersOfAny cX5_answersOfAny 4 (some .int) ∈ wsG := wt_3 (i := 102) rfl rfl
theorem wl_3_103 : Cond.methodLink RL 117 yX5_seed ∈ wsG := wt_3 (i := 103) rfl rfl
theorem wl_3_104 : Cond.instanceMethod yX5_seed ∈ wsG := wt_3 (i := 104) rfl rfl
theorem wl_3_105 : Cond.selects RX5 yX5_seed yX5_seed ∈ wsG := wt_3 (i := 105) rfl rfl
theorem wl_3_106 : Cond.code yX5_seed cX5_seed 5 (some .long) ∈ wsG := wt_3 (i := 106) rfl rfl
theorem wl_3_107 : Cond.methodLink RL 122 yX5_drawn ∈ wsG := wt_3 (i := 107) rfl rfl
theorem wl_3_108 : Cond.instanceMethod yX5_drawn ∈ wsG := wt_3 (i := 108) rfl rfl
theorem wl_3_109 : Cond.selects RX5 yX5_drawn yX5_drawn ∈ wsG := wt_3 (i := 109) rfl rfl
theorem wl_3_110 : Cond.code yX5_drawn cX5_drawn 4 (some .int) ∈ wsG := wt_3 (i := 110) rfl rfl
theorem wl_3_111 : Cond.methodLink RX5 246 yX5_drawEvent ∈ wsG := wt_3 (i := 111) rfl rfl
theorem wl_3_113 : Cond.instanceMethod yX5_drawEvent ∈ wsG := wt_3 (i := 113) rfl rfl
theorem wl_3_114 : Cond.code yX5_drawEvent cX5_drawEvent 4 none ∈ wsG := wt_3 (i := 114) rfl rfl
theorem wl_3_115 : Cond.constantLong RX5 286 (6364136223846793005) ∈ wsG := wt_3 (i := 115) rfl rfl
theorem wl_3_116 : Cond.constantLong RX5 288 (1442695040888963407) ∈ wsG := wt_3 (i := 116) rfl rfl
theorem wl_3_117 : Cond.methodLink RL 126 yX5_keep ∈ wsG := wt_3 (i := 117) rfl rfl
theorem wl_3_118 : Cond.instanceMethod yX5_keep ∈ wsG := wt_3 (i := 118) rfl rfl
theorem wl_3_119 : Cond.selects RX5 yX5_keep yX5_keep ∈ wsG := wt_3 (i := 119) rfl rfl
theorem wl_3_120 : Cond.code yX5_keep cX5_keep 2 (some .int) ∈ wsG := wt_3 (i := 120) rfl rfl
theorem wl_3_121 : Cond.methodLink RL 130 yX5_again ∈ wsG := wt_3 (i := 121) rfl rfl
theorem wl_3_122 : Cond.instanceMethod yX5_again ∈ wsG := wt_3 (i := 122) rfl rfl
theorem wl_3_123 : Cond.selects RX5 yX5_again yX5_again ∈ wsG := wt_3 (i := 123) rfl rfl
theorem wl_3_124 : Cond.code yX5_again cX5_again 2 (some .int) ∈ wsG := wt_3 (i := 124) rfl rfl
theorem wl_3_125 : Cond.classLink RL 10 RX6 ∈ wsG := wt_3 (i := 125) rfl rfl
theorem wl_3_126 : Cond.instantiable RX6 26 ∈ wsG := wt_3 (i := 126) rfl rfl
theorem wl_3_127 : Cond.methodLink RL 12 yX6_init ∈ wsG := wt_3 (i := 127) rfl rfl
theorem wl_3_128 : Cond.instanceMethod yX6_init ∈ wsG := wt_3 (i := 128) rfl rfl
theorem wl_3_129 : Cond.code yX6_init cX6_init 1 none ∈ wsG := wt_3 (i := 129) rfl rfl
theorem wl_3_130 : Cond.methodLink RX6 1 objectInit ∈ wsG := wt_3 (i := 130) rfl rfl
theorem wl_3_131 : Cond.methodLink RX6 60 yX6_clear ∈ wsG := wt_3 (i := 131) rfl rfl
theorem wl_3_132 : Cond.static yX6_clear ∈ wsG := wt_3 (i := 132) rfl rfl
theorem wl_3_133 : Cond.code yX6_clear cX6_clear 2 none ∈ wsG := wt_3 (i := 133) rfl rfl
theorem wl_3_134 : Cond.fieldLink RX6 7 "PathStreamModel" "text" "[I" ∈ wsG := wt_3 (i := 134) rfl rfl
theorem wl_3_135 : Cond.fieldLink RX6 70 "PathStreamModel" "length" "I" ∈ wsG := wt_3 (i := 135) rfl rfl
theorem wl_3_136 : Cond.fieldLink RX6 13 "PathStreamModel" "now" "[I" ∈ wsG := wt_3 (i := 136) rfl rfl
theorem wl_3_137 : Cond.fieldLink RX6 16 "PathStreamModel" "trial" "[I" ∈ wsG := wt_3 (i := 137) rfl rfl
theorem wl_3_138 : Cond.fieldLink RX6 19 "PathStreamModel" "diary" "[I" ∈ wsG := wt_3 (i := 138) rfl rfl
theorem wl_3_139 : Cond.fieldLink RX6 192 "PathStreamModel" "acts" "I" ∈ wsG := wt_3 (i := 139) rfl rfl
theorem wl_3_140 : Cond.fieldLink RX6 215 "PathStreamModel" "next" "I" ∈ wsG := wt_3 (i := 140) rfl rfl
theorem wl_3_141 : Cond.fieldLink RX6 22 "PathStreamModel" "kept" "[I" ∈ wsG := wt_3 (i := 141) rfl rfl
theorem wl_3_142 : Cond.fieldLink RX6 25 "PathStreamModel" "isKept" "[Z" ∈ wsG := wt_3 (i := 142) rfl rfl
theorem wl_3_143 : Cond.fieldLink RX6 29 "PathStreamModel" "seenPath" "[I" ∈ wsG := wt_3 (i := 143) rfl rfl
theorem wl_3_144 : Cond.fieldLink RX6 32 "PathStreamModel" "seenIs" "[I" ∈ wsG := wt_3 (i := 144) rfl rfl
theorem wl_3_145 : Cond.fieldLink RX6 202 "PathStreamModel" "seen" "I" ∈ wsG := wt_3 (i := 145) rfl rfl
theorem wl_3_146 : Cond.fieldLink RX6 262 "PathStreamModel" "seed" "J" ∈ wsG := wt_3 (i := 146) rfl rfl
theorem wl_3_147 : Cond.fieldLink RX6 56 "PathStreamModel" "otherTest" "I" ∈ wsG := wt_3 (i := 147) rfl rfl
theorem wl_3_148 : Cond.fieldLink RX6 35 "PathStreamModel" "way" "[I" ∈ wsG := wt_3 (i := 148) rfl rfl
theorem wl_3_149 : Cond.fieldLink RX6 38 "PathStreamModel" "ended" "[I" ∈ wsG := wt_3 (i := 149) rfl rfl
theorem wl_3_150 : Cond.fieldLink RX6 41 "PathStreamModel" "worth" "[I" ∈ wsG := wt_3 (i := 150) rfl rfl
theorem wl_3_151 : Cond.fieldLink RX6 44 "PathStreamModel" "answers" "[I" ∈ wsG := wt_3 (i := 151) rfl rfl
theorem wl_3_152 : Cond.fieldLink RX6 83 "PathStreamModel" "part" "I" ∈ wsG := wt_3 (i := 152) rfl rfl
theorem wl_3_153 : Cond.fieldLink RX6 89 "PathStreamModel" "readPaths" "I" ∈ wsG := wt_3 (i := 153) rfl rfl
theorem wl_3_154 : Cond.fieldLink RX6 47 "PathStreamModel" "readLong" "[I" ∈ wsG := wt_3 (i := 154) rfl rfl
theorem wl_3_155 : Cond.fieldLink RX6 50 "PathStreamModel" "readStep" "[I" ∈ wsG := wt_3 (i := 155) rfl rfl
theorem wl_3_156 : Cond.fieldLink RX6 77 "PathStreamModel" "readEvents" "I" ∈ wsG := wt_3 (i := 156) rfl rfl
theorem wl_3_157 : Cond.fieldLink RX6 53 "PathStreamModel" "readEvent" "[I" ∈ wsG := wt_3 (i := 157) rfl rfl
theorem wl_3_158 : Cond.fieldLink RX6 80 "PathStreamModel" "readDepth" "I" ∈ wsG := wt_3 (i := 158) rfl rfl
theorem wl_3_159 : Cond.fieldLink RX6 86 "PathStreamModel" "readElements" "I" ∈ wsG := wt_3 (i := 159) rfl rfl
theorem wl_3_160 : u_lay RX6 TX6 0 ∈ wsG := wt_3 (i := 160) rfl rfl
theorem wl_3_162 : u_lay RX6 TX6 1 ∈ wsG := wt_3 (i := 162) rfl rfl
theorem wl_3_164 : u_lay RX6 TX6 2 ∈ wsG := wt_3 (i := 164) rfl rfl
theorem wl_3_166 : u_lay RX6 TX6 3 ∈ wsG := wt_3 (i := 166) rfl rfl
theorem wl_3_168 : u_lay RX6 TX6 4 ∈ wsG := wt_3 (i := 168) rfl rfl
theorem wl_3_170 : u_lay RX6 TX6 5 ∈ wsG := wt_3 (i := 170) rfl rfl
theorem wl_3_172 : u_lay RX6 TX6 6 ∈ wsG := wt_3 (i := 172) rfl rfl
theorem wl_3_174 : u_lay RX6 TX6 7 ∈ wsG := wt_3 (i := 174) rfl rfl
theorem wl_3_176 : u_lay RX6 TX6 8 ∈ wsG := wt_3 (i := 176) rfl rfl
theorem wl_3_178 : u_lay RX6 TX6 9 ∈ wsG := wt_3 (i := 178) rfl rfl
theorem wl_3_180 : u_lay RX6 TX6 10 ∈ wsG := wt_3 (i := 180) rfl rfl
theorem wl_3_182 : u_lay RX6 TX6 11 ∈ wsG := wt_3 (i := 182) rfl rfl
theorem wl_3_184 : u_lay RX6 TX6 12 ∈ wsG := wt_3 (i := 184) rfl rfl
theorem wl_3_186 : u_lay RX6 TX6 13 ∈ wsG := wt_3 (i := 186) rfl rfl
theorem wl_3_188 : u_lay RX6 TX6 14 ∈ wsG := wt_3 (i := 188) rfl rfl
theorem wl_3_190 : u_lay RX6 TX6 15 ∈ wsG := wt_3 (i := 190) rfl rfl
theorem wl_3_192 : u_lay RX6 TX6 16 ∈ wsG := wt_3 (i := 192) rfl rfl
theorem wl_3_194 : u_lay RX6 TX6 17 ∈ wsG := wt_3 (i := 194) rfl rfl
theorem wl_3_196 : u_lay RX6 TX6 18 ∈ wsG := wt_3 (i := 196) rfl rfl
theorem wl_3_198 : u_lay RX6 TX6 19 ∈ wsG := wt_3 (i := 198) rfl rfl
theorem wl_3_200 : u_lay RX6 TX6 20 ∈ wsG := wt_3 (i := 200) rfl rfl
theorem wl_3_202 : u_lay RX6 TX6 21 ∈ wsG := wt_3 (i := 202) rfl rfl
theorem wl_3_204 : u_lay RX6 TX6 22 ∈ wsG := wt_3 (i := 204) rfl rfl
theorem wl_3_206 : u_lay RX6 TX6 23 ∈ wsG := wt_3 (i := 206) rfl rfl
theorem wl_3_208 : u_lay RX6 TX6 24 ∈ wsG := wt_3 (i := 208) rfl rfl
theorem wl_3_210 : u_lay RX6 TX6 25 ∈ wsG := wt_3 (i := 210) rfl rfl
theorem wl_3_213 : Cond.methodLink RL 17 yX6_write ∈ wsG := wt_3 (i := 213) rfl rfl
theorem wl_3_214 : Cond.instanceMethod yX6_write ∈ wsG := wt_3 (i := 214) rfl rfl
theorem wl_3_215 : Cond.selects RX6 yX6_write yX6_write ∈ wsG := wt_3 (i := 215) rfl rfl
theorem wl_3_216 : Cond.code yX6_write cX6_write 2 (some .int) ∈ wsG := wt_3 (i := 216) rfl rfl
theorem wl_3_217 : Cond.constantLong RX6 68 (255) ∈ wsG := wt_3 (i := 217) rfl rfl
theorem wl_3_218 : Cond.methodLink RX6 64 yX6_in ∈ wsG := wt_3 (i := 218) rfl rfl
theorem wl_3_219 : Cond.static yX6_in ∈ wsG := wt_3 (i := 219) rfl rfl
theorem wl_3_220 : Cond.code yX6_in cX6_in 6 (some .boolean) ∈ wsG := wt_3 (i := 220) rfl rfl
theorem wl_3_221 : Cond.methodLink RL 22 yX6_wipe ∈ wsG := wt_3 (i := 221) rfl rfl
theorem wl_3_222 : Cond.instanceMethod yX6_wipe ∈ wsG := wt_3 (i := 222) rfl rfl
theorem wl_3_223 : Cond.selects RX6 yX6_wipe yX6_wipe ∈ wsG := wt_3 (i := 223) rfl rfl
theorem wl_3_224 : Cond.code yX6_wipe cX6_wipe 2 (some .int) ∈ wsG := wt_3 (i := 224) rfl rfl
theorem wl_3_225 : Cond.methodLink RL 26 yX6_fault ∈ wsG := wt_3 (i := 225) rfl rfl
theorem wl_3_226 : Cond.instanceMethod yX6_fault ∈ wsG := wt_3 (i := 226) rfl rfl
theorem wl_3_227 : Cond.selects RX6 yX6_fault yX6_fault ∈ wsG := wt_3 (i := 227) rfl rfl
theorem wl_3_228 : Cond.code yX6_fault cX6_fault 1 (some .int) ∈ wsG := wt_3 (i := 228) rfl rfl
theorem wl_3_229 : Cond.methodLink RX6 114 yX6_readText ∈ wsG := wt_3 (i := 229) rfl rfl
theorem wl_3_231 : Cond.instanceMethod yX6_readText ∈ wsG := wt_3 (i := 231) rfl rfl
theorem wl_3_232 : Cond.code yX6_readText cX6_readText 2 (some .int) ∈ wsG := wt_3 (i := 232) rfl rfl
theorem wl_3_233 : Cond.methodLink RX6 111 yX6_take ∈ wsG := wt_3 (i := 233) rfl rfl
theorem wl_3_235 : Cond.instanceMethod yX6_take ∈ wsG := wt_3 (i := 235) rfl rfl
theorem wl_3_236 : Cond.code yX6_take cX6_take 3 (some .boolean) ∈ wsG := wt_3 (i := 236) rfl rfl
theorem wl_3_237 : Cond.methodLink RX6 99 yX6_takeTop ∈ wsG := wt_3 (i := 237) rfl rfl
theorem wl_3_239 : Cond.instanceMethod yX6_takeTop ∈ wsG := wt_3 (i := 239) rfl rfl
theorem wl_4_0 : Cond.code yX6_takeTop cX6_takeTop 2 (some .boolean) ∈ wsG := wt_4 (i := 0) rfl rfl
theorem wl_4_1 : Cond.methodLink RX6 92 yX6_takeEvent ∈ wsG := wt_4 (i := 1) rfl rfl
theorem wl_4_3 : Cond.instanceMethod yX6_takeEvent ∈ wsG := wt_4 (i := 3) rfl rfl
theorem wl_4_4 : Cond.code yX6_takeEvent cX6_takeEvent 3 (some .boolean) ∈ wsG := wt_4 (i := 4) rfl rfl
theorem wl_4_5 : Cond.constantLong RX6 73 (48) ∈ wsG := wt_4 (i := 5) rfl rfl
theorem wl_4_6 : Cond.constantLong RX6 75 (57) ∈ wsG := wt_4 (i := 6) rfl rfl
theorem wl_4_7 : Cond.methodLink RX6 96 yX6_takeAxis ∈ wsG := wt_4 (i := 7) rfl rfl
theorem wl_4_9 : Cond.instanceMethod yX6_takeAxis ∈ wsG := wt_4 (i := 9) rfl rfl
theorem wl_4_10 : Cond.code yX6_takeAxis cX6_takeAxis 3 (some .boolean) ∈ wsG := wt_4 (i := 10) rfl rfl
theorem wl_4_11 : Cond.methodLink RX6 102 yX6_addToStep ∈ wsG := wt_4 (i := 11) rfl rfl
theorem wl_4_13 : Cond.instanceMethod yX6_addToStep ∈ wsG := wt_4 (i := 13) rfl rfl
theorem wl_4_14 : Cond.code yX6_addToStep cX6_addToStep 2 none ∈ wsG := wt_4 (i := 14) rfl rfl
theorem wl_4_15 : Cond.constantLong RX6 106 (4) ∈ wsG := wt_4 (i := 15) rfl rfl
theorem wl_4_16 : Cond.methodLink RX6 108 yX6_takeBehind ∈ wsG := wt_4 (i := 16) rfl rfl
theorem wl_4_18 : Cond.instanceMethod yX6_takeBehind ∈ wsG := wt_4 (i := 18) rfl rfl
theorem wl_4_19 : Cond.code yX6_takeBehind cX6_takeBehind 2 (some .boolean) ∈ wsG := wt_4 (i := 19) rfl rfl
theorem wl_4_20 : Cond.methodLink RL 30 yX6_task ∈ wsG := wt_4 (i := 20) rfl rfl
theorem wl_4_21 : Cond.instanceMethod yX6_task ∈ wsG := wt_4 (i := 21) rfl rfl
theorem wl_4_22 : Cond.selects RX6 yX6_task yX6_task ∈ wsG := wt_4 (i := 22) rfl rfl
theorem wl_4_23 : Cond.code yX6_task cX6_task 3 (some .int) ∈ wsG := wt_4 (i := 23) rfl rfl
theorem wl_4_24 : Cond.methodLink RX6 184 yX6_askOn ∈ wsG := wt_4 (i := 24) rfl rfl
theorem wl_4_26 : Cond.instanceMethod yX6_askOn ∈ wsG := wt_4 (i := 26) rfl rfl
theorem wl_4_27 : Cond.code yX6_askOn cX6_askOn 9 none ∈ wsG := wt_4 (i := 27) rfl rfl
theorem wl_4_28 : Cond.methodLink RX6 160 yX6_noteOut ∈ wsG := wt_4 (i := 28) rfl rfl
theorem wl_4_30 : Cond.instanceMethod yX6_noteOut ∈ wsG := wt_4 (i := 30) rfl rfl
theorem wl_4_31 : Cond.code yX6_noteOut cX6_noteOut 6 (some .int) ∈ wsG := wt_4 (i := 31) rfl rfl
theorem wl_4_32 : Cond.methodLink RX6 150 yX6_outOf ∈ wsG := wt_4 (i := 32) rfl rfl
theorem wl_4_34 : Cond.instanceMethod yX6_outOf ∈ wsG := wt_4 (i := 34) rfl rfl
theorem wl_4_35 : Cond.code yX6_outOf cX6_outOf 8 (some .int) ∈ wsG := wt_4 (i := 35) rfl rfl
theorem wl_4_36 : Cond.methodLink RX6 144 yX6_answersOf ∈ wsG := wt_4 (i := 36) rfl rfl
theorem wl_4_38 : Cond.instanceMethod yX6_answersOf ∈ wsG := wt_4 (i := 38) rfl rfl
theorem wl_4_39 : Cond.code yX6_answersOf cX6_answersOf 5 (some .int) ∈ wsG := wt_4 (i := 39) rfl rfl
theorem wl_4_40 : Cond.methodLink RX6 141 yX6_endsAll ∈ wsG := wt_4 (i := 40) rfl rfl
theorem wl_4_42 : Cond.instanceMethod yX6_endsAll ∈ wsG := wt_4 (i := 42) rfl rfl
theorem wl_4_43 : Cond.code yX6_endsAll cX6_endsAll 5 (some .boolean) ∈ wsG := wt_4 (i := 43) rfl rfl
theorem wl_4_44 : Cond.methodLink RX6 137 yX6_endsOf ∈ wsG := wt_4 (i := 44) rfl rfl
theorem wl_4_46 : Cond.instanceMethod yX6_endsOf ∈ wsG := wt_4 (i := 46) rfl rfl
theorem wl_4_47 : Cond.code yX6_endsOf cX6_endsOf 8 (some .int) ∈ wsG := wt_4 (i := 47) rfl rfl
theorem wl_4_48 : Cond.methodLink RX6 130 yX6_layWay ∈ wsG := wt_4 (i := 48) rfl rfl
theorem wl_4_50 : Cond.instanceMethod yX6_layWay ∈ wsG := wt_4 (i := 50) rfl rfl
theorem wl_4_51 : Cond.code yX6_layWay cX6_layWay 6 (some .int) ∈ wsG := wt_4 (i := 51) rfl rfl
theorem wl_4_52 : Cond.methodLink RX6 133 yX6_endsAt ∈ wsG := wt_4 (i := 52) rfl rfl
theorem wl_4_54 : Cond.instanceMethod yX6_endsAt ∈ wsG := wt_4 (i := 54) rfl rfl
theorem wl_4_55 : Cond.code yX6_endsAt cX6_endsAt 14 (some .int) ∈ wsG := wt_4 (i := 55) rfl rfl
theorem wl_4_56 : Cond.methodLink RX6 126 yX6_isMet ∈ wsG := wt_4 (i := 56) rfl rfl
theorem wl_4_58 : Cond.instanceMethod yX6_isMet ∈ wsG := wt_4 (i := 58) rfl rfl
theorem wl_4_59 : Cond.code yX6_isMet cX6_isMet 5 (some .boolean) ∈ wsG := wt_4 (i := 59) rfl rfl
theorem wl_4_60 : Cond.methodLink RX6 118 yX6_childNames ∈ wsG := wt_4 (i := 60) rfl rfl
theorem wl_4_61 : Cond.static yX6_childNames ∈ wsG := wt_4 (i := 61) rfl rfl
theorem wl_4_62 : Cond.code yX6_childNames cX6_childNames 4 (some .int) ∈ wsG := wt_4 (i := 62) rfl rfl
theorem wl_4_63 : Cond.methodLink RX6 122 yX6_has ∈ wsG := wt_4 (i := 63) rfl rfl
theorem wl_4_64 : Cond.static yX6_has ∈ wsG := wt_4 (i := 64) rfl rfl
theorem wl_4_65 : Cond.code yX6_has cX6_has 2 (some .boolean) ∈ wsG := wt_4 (i := 65) rfl rfl
theorem wl_4_66 : Cond.methodLink RX6 147 yX6_doubtsOf ∈ wsG := wt_4 (i := 66) rfl rfl
theorem wl_4_68 : Cond.instanceMethod yX6_doubtsOf ∈ wsG := wt_4 (i := 68) rfl rfl
theorem wl_4_69 : Cond.code yX6_doubtsOf cX6_doubtsOf 5 (some .int) ∈ wsG := wt_4 (i := 69) rfl rfl
theorem wl_4_70 : Cond.methodLink RX6 157 yX6_heldOf ∈ wsG := wt_4 (i := 70) rfl rfl
theorem wl_4_72 : Cond.instanceMethod yX6_heldOf ∈ wsG := wt_4 (i := 72) rfl rfl
theorem wl_4_73 : Cond.code yX6_heldOf cX6_heldOf 3 (some .int) ∈ wsG := wt_4 (i := 73) rfl rfl
theorem wl_4_74 : Cond.methodLink RX6 153 yX6_ones ∈ wsG := wt_4 (i := 74) rfl rfl
theorem wl_4_75 : Cond.static yX6_ones ∈ wsG := wt_4 (i := 75) rfl rfl
theorem wl_4_76 : Cond.code yX6_ones cX6_ones 3 (some .int) ∈ wsG := wt_4 (i := 76) rfl rfl
theorem wl_4_77 : Cond.methodLink RX6 188 yX6_eventOn ∈ wsG := wt_4 (i := 77) rfl rfl
theorem wl_4_79 : Cond.instanceMethod yX6_eventOn ∈ wsG := wt_4 (i := 79) rfl rfl
theorem wl_4_80 : Cond.code yX6_eventOn cX6_eventOn 4 (some .boolean) ∈ wsG := wt_4 (i := 80) rfl rfl
theorem wl_4_81 : Cond.methodLink RX6 170 yX6_mayOpen ∈ wsG := wt_4 (i := 81) rfl rfl
theorem wl_4_82 : Cond.static yX6_mayOpen ∈ wsG := wt_4 (i := 82) rfl rfl
theorem wl_4_83 : Cond.code yX6_mayOpen cX6_mayOpen 1 (some .boolean) ∈ wsG := wt_4 (i := 83) rfl rfl
theorem wl_4_84 : Cond.methodLink RX6 163 yX6_depthOf ∈ wsG := wt_4 (i := 84) rfl rfl
theorem wl_4_85 : Cond.static yX6_depthOf ∈ wsG := wt_4 (i := 85) rfl rfl
theorem wl_4_86 : Cond.code yX6_depthOf cX6_depthOf 4 (some .int) ∈ wsG := wt_4 (i := 86) rfl rfl
theorem wl_4_87 : Cond.methodLink RX6 174 yX6_openOn ∈ wsG := wt_4 (i := 87) rfl rfl
theorem wl_4_89 : Cond.instanceMethod yX6_openOn ∈ wsG := wt_4 (i := 89) rfl rfl
theorem wl_4_90 : Cond.code yX6_openOn cX6_openOn 5 none ∈ wsG := wt_4 (i := 90) rfl rfl
theorem wl_4_91 : Cond.methodLink RX6 166 yX6_noteAll ∈ wsG := wt_4 (i := 91) rfl rfl
theorem wl_4_93 : Cond.instanceMethod yX6_noteAll ∈ wsG := wt_4 (i := 93) rfl rfl
theorem wl_4_94 : Cond.code yX6_noteAll cX6_noteAll 4 (some .int) ∈ wsG := wt_4 (i := 94) rfl rfl
theorem wl_4_95 : Cond.methodLink RX6 178 yX6_closeOn ∈ wsG := wt_4 (i := 95) rfl rfl
theorem wl_4_97 : Cond.instanceMethod yX6_closeOn ∈ wsG := wt_4 (i := 97) rfl rfl
theorem wl_4_98 : Cond.code yX6_closeOn cX6_closeOn 3 (some .int) ∈ wsG := wt_4 (i := 98) rfl rfl
theorem wl_4_99 : Cond.methodLink RX6 181 yX6_tellOn ∈ wsG := wt_4 (i := 99) rfl rfl
theorem wl_4_101 : Cond.instanceMethod yX6_tellOn ∈ wsG := wt_4 (i := 101) rfl rfl
theorem wl_4_102 : Cond.code yX6_tellOn cX6_tellOn 3 (some .int) ∈ wsG := wt_4 (i := 102) rfl rfl
theorem wl_4_103 : Cond.methodLink RL 34 yX6_about ∈ wsG := wt_4 (i := 103) rfl rfl
theorem wl_4_104 : Cond.instanceMethod yX6_about ∈ wsG := wt_4 (i := 104) rfl rfl
theorem wl_4_105 : Cond.selects RX6 yX6_about yX6_about ∈ wsG := wt_4 (i := 105) rfl rfl
theorem wl_4_106 : Cond.code yX6_about cX6_about 2 (some .int) ∈ wsG := wt_4 (i := 106) rfl rfl
theorem wl_4_107 : Cond.methodLink RX6 199 yX6_shared ∈ wsG := wt_4 (i := 107) rfl rfl
theorem wl_4_109 : Cond.instanceMethod yX6_shared ∈ wsG := wt_4 (i := 109) rfl rfl
theorem wl_4_110 : Cond.code yX6_shared cX6_shared 6 (some .int) ∈ wsG := wt_4 (i := 110) rfl rfl
theorem wl_4_111 : Cond.methodLink RX6 195 yX6_isBeginning ∈ wsG := wt_4 (i := 111) rfl rfl
theorem wl_4_113 : Cond.instanceMethod yX6_isBeginning ∈ wsG := wt_4 (i := 113) rfl rfl
theorem wl_4_114 : Cond.code yX6_isBeginning cX6_isBeginning 6 (some .boolean) ∈ wsG := wt_4 (i := 114) rfl rfl
theorem wl_4_115 : Cond.methodLink RL 39 yX6_element ∈ wsG := wt_4 (i := 115) rfl rfl
theorem wl_4_116 : Cond.instanceMethod yX6_element ∈ wsG := wt_4 (i := 116) rfl rfl
theorem wl_4_117 : Cond.selects RX6 yX6_element yX6_element ∈ wsG := wt_4 (i := 117) rfl rfl
theorem wl_4_118 : Cond.code yX6_element cX6_element 3 (some .int) ∈ wsG := wt_4 (i := 118) rfl rfl
theorem wl_4_119 : Cond.methodLink RX6 205 yX6_isElement ∈ wsG := wt_4 (i := 119) rfl rfl
theorem wl_4_121 : Cond.instanceMethod yX6_isElement ∈ wsG := wt_4 (i := 121) rfl rfl
theorem wl_4_122 : Cond.code yX6_isElement cX6_isElement 2 (some .boolean) ∈ wsG := wt_4 (i := 122) rfl rfl
theorem wl_4_123 : Cond.methodLink RL 43 yX6_path ∈ wsG := wt_4 (i := 123) rfl rfl
theorem wl_4_124 : Cond.instanceMethod yX6_path ∈ wsG := wt_4 (i := 124) rfl rfl
theorem wl_4_125 : Cond.selects RX6 yX6_path yX6_path ∈ wsG := wt_4 (i := 125) rfl rfl
theorem wl_4_126 : Cond.code yX6_path cX6_path 4 (some .int) ∈ wsG := wt_4 (i := 126) rfl rfl
theorem wl_4_127 : Cond.methodLink RX6 208 yX6_isPath ∈ wsG := wt_4 (i := 127) rfl rfl
theorem wl_4_129 : Cond.instanceMethod yX6_isPath ∈ wsG := wt_4 (i := 129) rfl rfl
theorem wl_4_130 : Cond.code yX6_isPath cX6_isPath 2 (some .boolean) ∈ wsG := wt_4 (i := 130) rfl rfl
theorem wl_4_131 : Cond.methodLink RX6 211 yX6_copy ∈ wsG := wt_4 (i := 131) rfl rfl
theorem wl_4_132 : Cond.static yX6_copy ∈ wsG := wt_4 (i := 132) rfl rfl
theorem wl_4_133 : Cond.code yX6_copy cX6_copy 3 none ∈ wsG := wt_4 (i := 133) rfl rfl
theorem wl_4_134 : Cond.methodLink RL 47 yX6_step ∈ wsG := wt_4 (i := 134) rfl rfl
theorem wl_4_135 : Cond.instanceMethod yX6_step ∈ wsG := wt_4 (i := 135) rfl rfl
theorem wl_4_136 : Cond.selects RX6 yX6_step yX6_step ∈ wsG := wt_4 (i := 136) rfl rfl
theorem wl_4_137 : Cond.code yX6_step cX6_step 3 (some .int) ∈ wsG := wt_4 (i := 137) rfl rfl
theorem wl_4_138 : Cond.methodLink RL 51 yX6_is ∈ wsG := wt_4 (i := 138) rfl rfl
theorem wl_4_139 : Cond.instanceMethod yX6_is ∈ wsG := wt_4 (i := 139) rfl rfl
theorem wl_4_140 : Cond.selects RX6 yX6_is yX6_is ∈ wsG := wt_4 (i := 140) rfl rfl
theorem wl_4_141 : Cond.code yX6_is cX6_is 3 (some .int) ∈ wsG := wt_4 (i := 141) rfl rfl
theorem wl_4_142 : Cond.methodLink RL 55 yX6_ends ∈ wsG := wt_4 (i := 142) rfl rfl
theorem wl_4_143 : Cond.instanceMethod yX6_ends ∈ wsG := wt_4 (i := 143) rfl rfl
theorem wl_4_144 : Cond.selects RX6 yX6_ends yX6_ends ∈ wsG := wt_4 (i := 144) rfl rfl
theorem wl_4_145 : Cond.code yX6_ends cX6_ends 3 (some .int) ∈ wsG := wt_4 (i := 145) rfl rfl
theorem wl_4_146 : Cond.methodLink RL 60 yX6_out ∈ wsG := wt_4 (i := 146) rfl rfl
theorem wl_4_147 : Cond.instanceMethod yX6_out ∈ wsG := wt_4 (i := 147) rfl rfl
theorem wl_4_148 : Cond.selects RX6 yX6_out yX6_out ∈ wsG := wt_4 (i := 148) rfl rfl
theorem wl_4_149 : Cond.code yX6_out cX6_out 7 (some .int) ∈ wsG := wt_4 (i := 149) rfl rfl
theorem wl_4_150 : Cond.methodLink RL 64 yX6_open ∈ wsG := wt_4 (i := 150) rfl rfl
theorem wl_4_151 : Cond.instanceMethod yX6_open ∈ wsG := wt_4 (i := 151) rfl rfl
theorem wl_4_152 : Cond.selects RX6 yX6_open yX6_open ∈ wsG := wt_4 (i := 152) rfl rfl
theorem wl_4_153 : Cond.code yX6_open cX6_open 2 (some .int) ∈ wsG := wt_4 (i := 153) rfl rfl
theorem wl_4_154 : Cond.methodLink RX6 218 yX6_note ∈ wsG := wt_4 (i := 154) rfl rfl
theorem wl_4_156 : Cond.instanceMethod yX6_note ∈ wsG := wt_4 (i := 156) rfl rfl
theorem wl_4_157 : Cond.code yX6_note cX6_note 2 none ∈ wsG := wt_4 (i := 157) rfl rfl
theorem wl_4_158 : Cond.methodLink RL 68 yX6_close ∈ wsG := wt_4 (i := 158) rfl rfl
theorem wl_4_159 : Cond.instanceMethod yX6_close ∈ wsG := wt_4 (i := 159) rfl rfl
theorem wl_4_160 : Cond.selects RX6 yX6_close yX6_close ∈ wsG := wt_4 (i := 160) rfl rfl
theorem wl_4_161 : Cond.code yX6_close cX6_close 1 (some .int) ∈ wsG := wt_4 (i := 161) rfl rfl
theorem wl_4_162 : Cond.methodLink RL 72 yX6_tell ∈ wsG := wt_4 (i := 162) rfl rfl
theorem wl_4_163 : Cond.instanceMethod yX6_tell ∈ wsG := wt_4 (i := 163) rfl rfl
theorem wl_4_164 : Cond.selects RX6 yX6_tell yX6_tell ∈ wsG := wt_4 (i := 164) rfl rfl
theorem wl_4_165 : Cond.code yX6_tell cX6_tell 2 (some .int) ∈ wsG := wt_4 (i := 165) rfl rfl
theorem wl_4_166 : Cond.constantLong RX6 221 (9) ∈ wsG := wt_4 (i := 166) rfl rfl
theorem wl_4_167 : Cond.methodLink RL 79 yX6_ask ∈ wsG := wt_4 (i := 167) rfl rfl
theorem wl_4_168 : Cond.instanceMethod yX6_ask ∈ wsG := wt_4 (i := 168) rfl rfl
theorem wl_4_169 : Cond.selects RX6 yX6_ask yX6_ask ∈ wsG := wt_4 (i := 169) rfl rfl
theorem wl_4_170 : Cond.code yX6_ask cX6_ask 5 (some .int) ∈ wsG := wt_4 (i := 170) rfl rfl
theorem wl_4_171 : Cond.methodLink RX6 225 yX6_tenThousands ∈ wsG := wt_4 (i := 171) rfl rfl
theorem wl_4_172 : Cond.static yX6_tenThousands ∈ wsG := wt_4 (i := 172) rfl rfl
theorem wl_4_173 : Cond.code yX6_tenThousands cX6_tenThousands 4 (some .long) ∈ wsG := wt_4 (i := 173) rfl rfl
theorem wl_4_174 : Cond.constantLong RX6 223 (10000) ∈ wsG := wt_4 (i := 174) rfl rfl
theorem wl_4_175 : Cond.methodLink RX6 229 yX6_stepOf ∈ wsG := wt_4 (i := 175) rfl rfl
theorem wl_4_176 : Cond.static yX6_stepOf ∈ wsG := wt_4 (i := 176) rfl rfl
theorem wl_4_177 : Cond.code yX6_stepOf cX6_stepOf 4 (some .int) ∈ wsG := wt_4 (i := 177) rfl rfl
theorem wl_4_178 : Cond.methodLink RX6 233 yX6_isStep ∈ wsG := wt_4 (i := 178) rfl rfl
theorem wl_4_179 : Cond.static yX6_isStep ∈ wsG := wt_4 (i := 179) rfl rfl
theorem wl_4_180 : Cond.code yX6_isStep cX6_isStep 1 (some .boolean) ∈ wsG := wt_4 (i := 180) rfl rfl
theorem wl_4_181 : Cond.methodLink RL 83 yX6_drop ∈ wsG := wt_4 (i := 181) rfl rfl
theorem wl_4_182 : Cond.instanceMethod yX6_drop ∈ wsG := wt_4 (i := 182) rfl rfl
theorem wl_4_183 : Cond.selects RX6 yX6_drop yX6_drop ∈ wsG := wt_4 (i := 183) rfl rfl
theorem wl_4_184 : Cond.code yX6_drop cX6_drop 1 (some .int) ∈ wsG := wt_4 (i := 184) rfl rfl
theorem wl_4_185 : Cond.methodLink RL 87 yX6_undo ∈ wsG := wt_4 (i := 185) rfl rfl
theorem wl_4_186 : Cond.instanceMethod yX6_undo ∈ wsG := wt_4 (i := 186) rfl rfl
theorem wl_4_187 : Cond.selects RX6 yX6_undo yX6_undo ∈ wsG := wt_4 (i := 187) rfl rfl
theorem wl_4_188 : Cond.code yX6_undo cX6_undo 2 (some .int) ∈ wsG := wt_4 (i := 188) rfl rfl
theorem wl_4_189 : Cond.methodLink RL 91 yX6_within ∈ wsG := wt_4 (i := 189) rfl rfl
theorem wl_4_190 : Cond.instanceMethod yX6_within ∈ wsG := wt_4 (i := 190) rfl rfl
theorem wl_4_191 : Cond.selects RX6 yX6_within yX6_within ∈ wsG := wt_4 (i := 191) rfl rfl
theorem wl_4_192 : Cond.code yX6_within cX6_within 3 (some .int) ∈ wsG := wt_4 (i := 192) rfl rfl
theorem wl_4_193 : Cond.methodLink RL 95 yX6_judge ∈ wsG := wt_4 (i := 193) rfl rfl
theorem wl_4_194 : Cond.instanceMethod yX6_judge ∈ wsG := wt_4 (i := 194) rfl rfl
theorem wl_4_195 : Cond.selects RX6 yX6_judge yX6_judge ∈ wsG := wt_4 (i := 195) rfl rfl
theorem wl_4_196 : Cond.code yX6_judge cX6_judge 6 (some .int) ∈ wsG := wt_4 (i := 196) rfl rfl
theorem wl_4_197 : Cond.methodLink RX6 238 yX6_thousands ∈ wsG := wt_4 (i := 197) rfl rfl
theorem wl_4_198 : Cond.static yX6_thousands ∈ wsG := wt_4 (i := 198) rfl rfl
theorem wl_4_199 : Cond.code yX6_thousands cX6_thousands 4 (some .long) ∈ wsG := wt_4 (i := 199) rfl rfl
theorem wl_4_200 : Cond.constantLong RX6 236 (1000) ∈ wsG := wt_4 (i := 200) rfl rfl
theorem wl_4_201 : Cond.methodLink RX6 241 yX6_judged ∈ wsG := wt_4 (i := 201) rfl rfl
theorem wl_4_203 : Cond.instanceMethod yX6_judged ∈ wsG := wt_4 (i := 203) rfl rfl
theorem wl_4_204 : Cond.code yX6_judged cX6_judged 4 (some .boolean) ∈ wsG := wt_4 (i := 204) rfl rfl
theorem wl_4_205 : Cond.methodLink RL 99 yX6_see ∈ wsG := wt_4 (i := 205) rfl rfl
theorem wl_4_206 : Cond.instanceMethod yX6_see ∈ wsG := wt_4 (i := 206) rfl rfl
theorem wl_4_207 : Cond.selects RX6 yX6_see yX6_see ∈ wsG := wt_4 (i := 207) rfl rfl
theorem wl_4_208 : Cond.code yX6_see cX6_see 3 (some .int) ∈ wsG := wt_4 (i := 208) rfl rfl
theorem wl_4_209 : Cond.constantLong RX6 244 (20) ∈ wsG := wt_4 (i := 209) rfl rfl
theorem wl_4_210 : Cond.methodLink RL 103 yX6_unsee ∈ wsG := wt_4 (i := 210) rfl rfl
theorem wl_4_211 : Cond.instanceMethod yX6_unsee ∈ wsG := wt_4 (i := 211) rfl rfl
theorem wl_4_212 : Cond.selects RX6 yX6_unsee yX6_unsee ∈ wsG := wt_4 (i := 212) rfl rfl
theorem wl_4_213 : Cond.code yX6_unsee cX6_unsee 2 (some .int) ∈ wsG := wt_4 (i := 213) rfl rfl
theorem wl_4_214 : Cond.methodLink RL 107 yX6_which ∈ wsG := wt_4 (i := 214) rfl rfl
theorem wl_4_215 : Cond.instanceMethod yX6_which ∈ wsG := wt_4 (i := 215) rfl rfl
theorem wl_4_216 : Cond.selects RX6 yX6_which yX6_which ∈ wsG := wt_4 (i := 216) rfl rfl
theorem wl_4_217 : Cond.code yX6_which cX6_which 5 (some .int) ∈ wsG := wt_4 (i := 217) rfl rfl
theorem wl_4_218 : Cond.methodLink RL 112 yX6_share ∈ wsG := wt_4 (i := 218) rfl rfl
theorem wl_4_219 : Cond.instanceMethod yX6_share ∈ wsG := wt_4 (i := 219) rfl rfl
theorem wl_4_220 : Cond.selects RX6 yX6_share yX6_share ∈ wsG := wt_4 (i := 220) rfl rfl
theorem wl_4_221 : Cond.code yX6_share cX6_share 7 (some .int) ∈ wsG := wt_4 (i := 221) rfl rfl
theorem wl_4_222 : Cond.methodLink RX6 246 yX6_layWorth ∈ wsG := wt_4 (i := 222) rfl rfl
theorem wl_4_224 : Cond.instanceMethod yX6_layWorth ∈ wsG := wt_4 (i := 224) rfl rfl
theorem wl_4_225 : Cond.code yX6_layWorth cX6_layWorth 5 none ∈ wsG := wt_4 (i := 225) rfl rfl
theorem wl_4_226 : Cond.methodLink RX6 249 yX6_factorial ∈ wsG := wt_4 (i := 226) rfl rfl
theorem wl_4_227 : Cond.static yX6_factorial ∈ wsG := wt_4 (i := 227) rfl rfl
theorem wl_4_228 : Cond.code yX6_factorial cX6_factorial 3 (some .int) ∈ wsG := wt_4 (i := 228) rfl rfl
theorem wl_4_229 : Cond.methodLink RX6 252 yX6_fraction ∈ wsG := wt_4 (i := 229) rfl rfl
theorem wl_4_230 : Cond.static yX6_fraction ∈ wsG := wt_4 (i := 230) rfl rfl
theorem wl_4_231 : Cond.code yX6_fraction cX6_fraction 6 (some .int) ∈ wsG := wt_4 (i := 231) rfl rfl
theorem wl_4_232 : Cond.methodLink RL 116 yX6_chance ∈ wsG := wt_4 (i := 232) rfl rfl
theorem wl_4_233 : Cond.instanceMethod yX6_chance ∈ wsG := wt_4 (i := 233) rfl rfl
theorem wl_4_234 : Cond.selects RX6 yX6_chance yX6_chance ∈ wsG := wt_4 (i := 234) rfl rfl
theorem wl_4_235 : Cond.code yX6_chance cX6_chance 7 (some .int) ∈ wsG := wt_4 (i := 235) rfl rfl
theorem wl_4_236 : Cond.constantLong RX6 256 (10) ∈ wsG := wt_4 (i := 236) rfl rfl
theorem wl_4_237 : Cond.methodLink RX6 258 yX6_power ∈ wsG := wt_4 (i := 237) rfl rfl
theorem wl_4_238 : Cond.static yX6_power ∈ wsG := wt_4 (i := 238) rfl rfl
theorem wl_4_239 : Cond.code yX6_power cX6_power 4 (some .int) ∈ wsG := wt_4 (i := 239) rfl rfl
theorem wl_5_0 : Cond.methodLink RL 121 yX6_seed ∈ wsG := wt_5 (i := 0) rfl rfl
theorem wl_5_1 : Cond.instanceMethod yX6_seed ∈ wsG := wt_5 (i := 1) rfl rfl
theorem wl_5_2 : Cond.selects RX6 yX6_seed yX6_seed ∈ wsG := wt_5 (i := 2) rfl rfl
theorem wl_5_3 : Cond.code yX6_seed cX6_seed 5 (some .long) ∈ wsG := wt_5 (i := 3) rfl rfl
theorem wl_5_4 : Cond.methodLink RL 125 yX6_drawn ∈ wsG := wt_5 (i := 4) rfl rfl
theorem wl_5_5 : Cond.instanceMethod yX6_drawn ∈ wsG := wt_5 (i := 5) rfl rfl
theorem wl_5_6 : Cond.selects RX6 yX6_drawn yX6_drawn ∈ wsG := wt_5 (i := 6) rfl rfl
theorem wl_5_7 : Cond.code yX6_drawn cX6_drawn 7 (some .int) ∈ wsG := wt_5 (i := 7) rfl rfl
theorem wl_5_8 : Cond.constantLong RX6 266 (30) ∈ wsG := wt_5 (i := 8) rfl rfl
theorem wl_5_9 : Cond.constantLong RX6 268 (6364136223846793005) ∈ wsG := wt_5 (i := 9) rfl rfl
theorem wl_5_10 : Cond.constantLong RX6 270 (1442695040888963407) ∈ wsG := wt_5 (i := 10) rfl rfl
theorem wl_5_11 : Cond.methodLink RL 129 yX6_keep ∈ wsG := wt_5 (i := 11) rfl rfl
theorem wl_5_12 : Cond.instanceMethod yX6_keep ∈ wsG := wt_5 (i := 12) rfl rfl
theorem wl_5_13 : Cond.selects RX6 yX6_keep yX6_keep ∈ wsG := wt_5 (i := 13) rfl rfl
theorem wl_5_14 : Cond.code yX6_keep cX6_keep 3 (some .int) ∈ wsG := wt_5 (i := 14) rfl rfl
theorem wl_5_15 : Cond.methodLink RL 133 yX6_again ∈ wsG := wt_5 (i := 15) rfl rfl
theorem wl_5_16 : Cond.instanceMethod yX6_again ∈ wsG := wt_5 (i := 16) rfl rfl
theorem wl_5_17 : Cond.selects RX6 yX6_again yX6_again ∈ wsG := wt_5 (i := 17) rfl rfl
theorem wl_5_18 : Cond.code yX6_again cX6_again 3 (some .int) ∈ wsG := wt_5 (i := 18) rfl rfl
theorem wl_5_19 : Cond.constantLong RL 73 (4294967295) ∈ wsG := wt_5 (i := 19) rfl rfl
theorem wp_0 : Cond.selects RX5 yX5_readTask yX5_readTask ∈ wsG := ws_s (i := 0) rfl rfl
theorem wp_1 : Cond.selects RX4 yX4_goesOn yX4_goesOn ∈ wsG := ws_s (i := 1) rfl rfl
theorem wp_2 : Cond.selects RX4 yX4_beginsPath yX4_beginsPath ∈ wsG := ws_s (i := 2) rfl rfl
theorem wp_3 : Cond.selects RX4 yX4_takesEvent yX4_takesEvent ∈ wsG := ws_s (i := 3) rfl rfl
theorem wp_4 : Cond.selects RX4 yX4_takesAxis yX4_takesAxis ∈ wsG := ws_s (i := 4) rfl rfl
theorem wp_5 : Cond.selects RX4 yX4_takesTest yX4_takesTest ∈ wsG := ws_s (i := 5) rfl rfl
theorem wp_6 : Cond.selects RX4 yX4_addsToStep yX4_addsToStep ∈ wsG := ws_s (i := 6) rfl rfl
theorem wp_7 : Cond.selects RX4 yX4_takesNextStep yX4_takesNextStep ∈ wsG := ws_s (i := 7) rfl rfl
theorem wp_8 : Cond.selects RX4 yX4_takesChildName yX4_takesChildName ∈ wsG := ws_s (i := 8) rfl rfl
theorem wp_9 : Cond.selects RX4 yX4_takesFigure yX4_takesFigure ∈ wsG := ws_s (i := 9) rfl rfl
theorem wp_10 : Cond.selects RX1 yX1_lookAround yX1_lookAround ∈ wsG := ws_s (i := 10) rfl rfl
theorem wp_11 : Cond.selects RX1 yX1_matchElement yX1_matchElement ∈ wsG := ws_s (i := 11) rfl rfl
theorem wp_12 : Cond.selects RX1 yX1_note yX1_note ∈ wsG := ws_s (i := 12) rfl rfl
theorem wp_13 : Cond.selects RX5 yX5_forgetActions yX5_forgetActions ∈ wsG := ws_s (i := 13) rfl rfl
theorem wp_14 : Cond.selects RX3 yX3_earlierBeginsLike yX3_earlierBeginsLike ∈ wsG := ws_s (i := 14) rfl rfl
theorem wp_15 : Cond.selects RX5 yX5_isElement yX5_isElement ∈ wsG := ws_s (i := 15) rfl rfl
theorem wp_16 : Cond.selects RX5 yX5_isPath yX5_isPath ∈ wsG := ws_s (i := 16) rfl rfl
theorem wp_17 : Cond.selects RX5 yX5_pathNumber yX5_pathNumber ∈ wsG := ws_s (i := 17) rfl rfl
theorem wp_18 : Cond.selects RX5 yX5_recordAction yX5_recordAction ∈ wsG := ws_s (i := 18) rfl rfl
theorem wp_19 : Cond.selects RX5 yX5_splits yX5_splits ∈ wsG := ws_s (i := 19) rfl rfl
theorem wp_20 : Cond.selects RX5 yX5_partsAreSteps yX5_partsAreSteps ∈ wsG := ws_s (i := 20) rfl rfl
theorem wp_21 : Cond.selects RX5 yX5_answersOf yX5_answersOf ∈ wsG := ws_s (i := 21) rfl rfl
theorem wp_22 : Cond.selects RX5 yX5_comesTrue yX5_comesTrue ∈ wsG := ws_s (i := 22) rfl rfl
theorem wp_23 : Cond.selects RX5 yX5_emitsAfter yX5_emitsAfter ∈ wsG := ws_s (i := 23) rfl rfl
theorem wp_24 : Cond.selects RX5 yX5_agreesWithAll yX5_agreesWithAll ∈ wsG := ws_s (i := 24) rfl rfl
theorem wp_25 : Cond.selects RX5 yX5_answersWithLastTest yX5_answersWithLastTest ∈ wsG := ws_s (i := 25) rfl rfl
theorem wp_26 : Cond.selects RX5 yX5_findAnswerSets yX5_findAnswerSets ∈ wsG := ws_s (i := 26) rfl rfl
theorem wp_27 : Cond.selects RX5 yX5_pathsAnswering yX5_pathsAnswering ∈ wsG := ws_s (i := 27) rfl rfl
theorem wp_28 : Cond.selects RX5 yX5_weightOf yX5_weightOf ∈ wsG := ws_s (i := 28) rfl rfl
theorem wp_29 : Cond.selects RX5 yX5_answersOfAny yX5_answersOfAny ∈ wsG := ws_s (i := 29) rfl rfl
theorem wp_30 : Cond.selects RX5 yX5_drawEvent yX5_drawEvent ∈ wsG := ws_s (i := 30) rfl rfl
theorem wp_31 : Cond.selects RX6 yX6_readText yX6_readText ∈ wsG := ws_s (i := 31) rfl rfl
theorem wp_32 : Cond.selects RX6 yX6_take yX6_take ∈ wsG := ws_s (i := 32) rfl rfl
theorem wp_33 : Cond.selects RX6 yX6_takeTop yX6_takeTop ∈ wsG := ws_s (i := 33) rfl rfl
theorem wp_34 : Cond.selects RX6 yX6_takeEvent yX6_takeEvent ∈ wsG := ws_s (i := 34) rfl rfl
theorem wp_35 : Cond.selects RX6 yX6_takeAxis yX6_takeAxis ∈ wsG := ws_s (i := 35) rfl rfl
theorem wp_36 : Cond.selects RX6 yX6_addToStep yX6_addToStep ∈ wsG := ws_s (i := 36) rfl rfl
theorem wp_37 : Cond.selects RX6 yX6_takeBehind yX6_takeBehind ∈ wsG := ws_s (i := 37) rfl rfl
theorem wp_38 : Cond.selects RX6 yX6_askOn yX6_askOn ∈ wsG := ws_s (i := 38) rfl rfl
theorem wp_39 : Cond.selects RX6 yX6_noteOut yX6_noteOut ∈ wsG := ws_s (i := 39) rfl rfl
theorem wp_40 : Cond.selects RX6 yX6_outOf yX6_outOf ∈ wsG := ws_s (i := 40) rfl rfl
theorem wp_41 : Cond.selects RX6 yX6_answersOf yX6_answersOf ∈ wsG := ws_s (i := 41) rfl rfl
theorem wp_42 : Cond.selects RX6 yX6_endsAll yX6_endsAll ∈ wsG := ws_s (i := 42) rfl rfl
theorem wp_43 : Cond.selects RX6 yX6_endsOf yX6_endsOf ∈ wsG := ws_s (i := 43) rfl rfl
theorem wp_44 : Cond.selects RX6 yX6_layWay yX6_layWay ∈ wsG := ws_s (i := 44) rfl rfl
theorem wp_45 : Cond.selects RX6 yX6_endsAt yX6_endsAt ∈ wsG := ws_s (i := 45) rfl rfl
theorem wp_46 : Cond.selects RX6 yX6_isMet yX6_isMet ∈ wsG := ws_s (i := 46) rfl rfl
theorem wp_47 : Cond.selects RX6 yX6_doubtsOf yX6_doubtsOf ∈ wsG := ws_s (i := 47) rfl rfl
theorem wp_48 : Cond.selects RX6 yX6_heldOf yX6_heldOf ∈ wsG := ws_s (i := 48) rfl rfl
theorem wp_49 : Cond.selects RX6 yX6_eventOn yX6_eventOn ∈ wsG := ws_s (i := 49) rfl rfl
theorem wp_50 : Cond.selects RX6 yX6_openOn yX6_openOn ∈ wsG := ws_s (i := 50) rfl rfl
theorem wp_51 : Cond.selects RX6 yX6_noteAll yX6_noteAll ∈ wsG := ws_s (i := 51) rfl rfl
theorem wp_52 : Cond.selects RX6 yX6_closeOn yX6_closeOn ∈ wsG := ws_s (i := 52) rfl rfl
theorem wp_53 : Cond.selects RX6 yX6_tellOn yX6_tellOn ∈ wsG := ws_s (i := 53) rfl rfl
theorem wp_54 : Cond.selects RX6 yX6_shared yX6_shared ∈ wsG := ws_s (i := 54) rfl rfl
theorem wp_55 : Cond.selects RX6 yX6_isBeginning yX6_isBeginning ∈ wsG := ws_s (i := 55) rfl rfl
theorem wp_56 : Cond.selects RX6 yX6_isElement yX6_isElement ∈ wsG := ws_s (i := 56) rfl rfl
theorem wp_57 : Cond.selects RX6 yX6_isPath yX6_isPath ∈ wsG := ws_s (i := 57) rfl rfl
theorem wp_58 : Cond.selects RX6 yX6_note yX6_note ∈ wsG := ws_s (i := 58) rfl rfl
theorem wp_59 : Cond.selects RX6 yX6_judged yX6_judged ∈ wsG := ws_s (i := 59) rfl rfl
theorem wp_60 : Cond.selects RX6 yX6_layWorth yX6_layWorth ∈ wsG := ws_s (i := 60) rfl rfl
theorem inX0 : ∀ w ∈ u_ws RX0 TX0 9, w ∈ wsG := List.forall_mem_cons.mpr ⟨wl_1_54, List.forall_mem_cons.mpr ⟨wl_1_56, List.forall_mem_cons.mpr ⟨wl_1_58, List.forall_mem_cons.mpr ⟨wl_1_60, List.forall_mem_cons.mpr ⟨wl_1_62, List.forall_mem_cons.mpr ⟨wl_1_64, List.forall_mem_cons.mpr ⟨wl_1_66, List.forall_mem_cons.mpr ⟨wl_1_68, List.forall_mem_cons.mpr ⟨wl_1_70, fun _ h => absurd h List.not_mem_nil⟩⟩⟩⟩⟩⟩⟩⟩⟩
theorem inX1 : ∀ w ∈ u_ws RX1 TX1 6, w ∈ wsG := List.forall_mem_cons.mpr ⟨wl_1_145, List.forall_mem_cons.mpr ⟨wl_1_147, List.forall_mem_cons.mpr ⟨wl_1_149, List.forall_mem_cons.mpr ⟨wl_1_151, List.forall_mem_cons.mpr ⟨wl_1_153, List.forall_mem_cons.mpr ⟨wl_1_155, fun _ h => absurd h List.not_mem_nil⟩⟩⟩⟩⟩⟩
theorem inX2 : ∀ w ∈ u_ws RX2 TX2 7, w ∈ wsG := List.forall_mem_cons.mpr ⟨wl_1_97, List.forall_mem_cons.mpr ⟨wl_1_99, List.forall_mem_cons.mpr ⟨wl_1_101, List.forall_mem_cons.mpr ⟨wl_1_103, List.forall_mem_cons.mpr ⟨wl_1_105, List.forall_mem_cons.mpr ⟨wl_1_107, List.forall_mem_cons.mpr ⟨wl_1_109, fun _ h => absurd h List.not_mem_nil⟩⟩⟩⟩⟩⟩⟩
theorem inX3 : ∀ w ∈ u_ws RX3 TX3 3, w ∈ wsG := List.forall_mem_cons.mpr ⟨wl_1_120, List.forall_mem_cons.mpr ⟨wl_1_122, List.forall_mem_cons.mpr ⟨wl_1_124, fun _ h => absurd h List.not_mem_nil⟩⟩⟩
theorem inX4 : ∀ w ∈ u_ws RX4 TX4 3, w ∈ wsG := List.forall_mem_cons.mpr ⟨wl_1_168, List.forall_mem_cons.mpr ⟨wl_1_170, List.forall_mem_cons.mpr ⟨wl_1_172, fun _ h => absurd h List.not_mem_nil⟩⟩⟩
theorem inX5 : ∀ w ∈ u_ws RX5 TX5 17, w ∈ wsG := List.forall_mem_cons.mpr ⟨wl_1_192, List.forall_mem_cons.mpr ⟨wl_1_194, List.forall_mem_cons.mpr ⟨wl_1_196, List.forall_mem_cons.mpr ⟨wl_1_198, List.forall_mem_cons.mpr ⟨wl_1_200, List.forall_mem_cons.mpr ⟨wl_1_202, List.forall_mem_cons.mpr ⟨wl_1_204, List.forall_mem_cons.mpr ⟨wl_1_206, List.forall_mem_cons.mpr ⟨wl_1_208, List.forall_mem_cons.mpr ⟨wl_1_210, List.forall_mem_cons.mpr ⟨wl_1_212, List.forall_mem_cons.mpr ⟨wl_1_214, List.forall_mem_cons.mpr ⟨wl_1_216, List.forall_mem_cons.mpr ⟨wl_1_218, List.forall_mem_cons.mpr ⟨wl_1_220, List.forall_mem_cons.mpr ⟨wl_1_222, List.forall_mem_cons.mpr ⟨wl_1_224, fun _ h => absurd h List.not_mem_nil⟩⟩⟩⟩⟩⟩⟩⟩⟩⟩⟩⟩⟩⟩⟩⟩⟩
theorem inX6 : ∀ w ∈ u_ws RX6 TX6 26, w ∈ wsG := List.forall_mem_cons.mpr ⟨wl_3_160, List.forall_mem_cons.mpr ⟨wl_3_162, List.forall_mem_cons.mpr ⟨wl_3_164, List.forall_mem_cons.mpr ⟨wl_3_166, List.forall_mem_cons.mpr ⟨wl_3_168, List.forall_mem_cons.mpr ⟨wl_3_170, List.forall_mem_cons.mpr ⟨wl_3_172, List.forall_mem_cons.mpr ⟨wl_3_174, List.forall_mem_cons.mpr ⟨wl_3_176, List.forall_mem_cons.mpr ⟨wl_3_178, List.forall_mem_cons.mpr ⟨wl_3_180, List.forall_mem_cons.mpr ⟨wl_3_182, List.forall_mem_cons.mpr ⟨wl_3_184, List.forall_mem_cons.mpr ⟨wl_3_186, List.forall_mem_cons.mpr ⟨wl_3_188, List.forall_mem_cons.mpr ⟨wl_3_190, List.forall_mem_cons.mpr ⟨wl_3_192, List.forall_mem_cons.mpr ⟨wl_3_194, List.forall_mem_cons.mpr ⟨wl_3_196, List.forall_mem_cons.mpr ⟨wl_3_198, List.forall_mem_cons.mpr ⟨wl_3_200, List.forall_mem_cons.mpr ⟨wl_3_202, List.forall_mem_cons.mpr ⟨wl_3_204, List.forall_mem_cons.mpr ⟨wl_3_206, List.forall_mem_cons.mpr ⟨wl_3_208, List.forall_mem_cons.mpr ⟨wl_3_210, fun _ h => absurd h List.not_mem_nil⟩⟩⟩⟩⟩⟩⟩⟩⟩⟩⟩⟩⟩⟩⟩⟩⟩⟩⟩⟩⟩⟩⟩⟩⟩⟩
end
section
theorem dX0_init_0 : decode cX0_init 0 = .ok (.aload_n 0, 1) := by decide +kernel
theorem dX0_init_1 : decode cX0_init 1 = .ok (.invokespecial 3, 3) := by decide +kernel
theorem dX0_init_4 : decode cX0_init 4 = .ok (.aload_n 0, 1) := by decide +kernel
theorem dX0_init_5 : decode cX0_init 5 = .ok (.bipush 20, 2) := by decide +kernel
theorem dX0_init_7 : decode cX0_init 7 = .ok (.newarray .int, 2) := by decide +kernel
theorem dX0_init_9 : decode cX0_init 9 = .ok (.putfield 9, 3) := by decide +kernel
theorem dX0_init_12 : decode cX0_init 12 = .ok (.aload_n 0, 1) := by decide +kernel
theorem dX0_init_13 : decode cX0_init 13 = .ok (.bipush 20, 2) := by decide +kernel
theorem dX0_init_15 : decode cX0_init 15 = .ok (.newarray .int, 2) := by decide +kernel
theorem dX0_init_17 : decode cX0_init 17 = .ok (.putfield 15, 3) := by decide +kernel
theorem dX0_init_20 : decode cX0_init 20 = .ok (.aload_n 0, 1) := by decide +kernel
theorem dX0_init_21 : decode cX0_init 21 = .ok (.bipush 20, 2) := by decide +kernel
theorem dX0_init_23 : decode cX0_init 23 = .ok (.newarray .int, 2) := by decide +kernel
theorem dX0_init_25 : decode cX0_init 25 = .ok (.putfield 18, 3) := by decide +kernel
theorem dX0_init_28 : decode cX0_init 28 = .ok (.aload_n 0, 1) := by decide +kernel
theorem dX0_init_29 : decode cX0_init 29 = .ok (.bipush 20, 2) := by decide +kernel
theorem dX0_init_31 : decode cX0_init 31 = .ok (.newarray .int, 2) := by decide +kernel
theorem dX0_init_33 : decode cX0_init 33 = .ok (.putfield 21, 3) := by decide +kernel
theorem dX0_init_36 : decode cX0_init 36 = .ok (.aload_n 0, 1) := by decide +kernel
theorem dX0_init_37 : decode cX0_init 37 = .ok (.bipush 20, 2) := by decide +kernel
theorem dX0_init_39 : decode cX0_init 39 = .ok (.newarray .int, 2) := by decide +kernel
theorem dX0_init_41 : decode cX0_init 41 = .ok (.putfield 24, 3) := by decide +kernel
theorem dX0_init_44 : decode cX0_init 44 = .ok (.aload_n 0, 1) := by decide +kernel
theorem dX0_init_45 : decode cX0_init 45 = .ok (.bipush (-9), 2) := by decide +kernel
theorem dX0_init_47 : decode cX0_init 47 = .ok (.putfield 27, 3) := by decide +kernel
theorem dX0_init_50 : decode cX0_init 50 = .ok (.return_, 1) := by decide +kernel
theorem dX0_clear_0 : decode cX0_clear 0 = .ok (.aload_n 0, 1) := by decide +kernel
theorem dX0_clear_1 : decode cX0_clear 1 = .ok (.iconst 0, 1) := by decide +kernel
theorem dX0_clear_2 : decode cX0_clear 2 = .ok (.putfield 31, 3) := by decide +kernel
theorem dX0_clear_5 : decode cX0_clear 5 = .ok (.aload_n 0, 1) := by decide +kernel
theorem dX0_clear_6 : decode cX0_clear 6 = .ok (.iconst 0, 1) := by decide +kernel
theorem dX0_clear_7 : decode cX0_clear 7 = .ok (.putfield 34, 3) := by decide +kernel
theorem dX0_clear_10 : decode cX0_clear 10 = .ok (.aload_n 0, 1) := by decide +kernel
theorem dX0_clear_11 : decode cX0_clear 11 = .ok (.bipush (-9), 2) := by decide +kernel
theorem dX0_clear_13 : decode cX0_clear 13 = .ok (.putfield 27, 3) := by decide +kernel
theorem dX0_clear_16 : decode cX0_clear 16 = .ok (.aload_n 0, 1) := by decide +kernel
theorem dX0_clear_17 : decode cX0_clear 17 = .ok (.iconst 0, 1) := by decide +kernel
theorem dX0_clear_18 : decode cX0_clear 18 = .ok (.putfield 37, 3) := by decide +kernel
theorem dX0_clear_21 : decode cX0_clear 21 = .ok (.return_, 1) := by decide +kernel
theorem dX0_copyFrom_0 : decode cX0_copyFrom 0 = .ok (.aload_n 1, 1) := by decide +kernel
theorem dX0_copyFrom_1 : decode cX0_copyFrom 1 = .ok (.getfield 9, 3) := by decide +kernel
theorem dX0_copyFrom_4 : decode cX0_copyFrom 4 = .ok (.iconst 0, 1) := by decide +kernel
theorem dX0_copyFrom_5 : decode cX0_copyFrom 5 = .ok (.aload_n 0, 1) := by decide +kernel
theorem dX0_copyFrom_6 : decode cX0_copyFrom 6 = .ok (.getfield 9, 3) := by decide +kernel
theorem dX0_copyFrom_9 : decode cX0_copyFrom 9 = .ok (.iconst 0, 1) := by decide +kernel
theorem dX0_copyFrom_10 : decode cX0_copyFrom 10 = .ok (.aload_n 1, 1) := by decide +kernel
theorem dX0_copyFrom_11 : decode cX0_copyFrom 11 = .ok (.getfield 34, 3) := by decide +kernel
theorem dX0_copyFrom_14 : decode cX0_copyFrom 14 = .ok (.invokestatic 40, 3) := by decide +kernel
theorem dX0_copyFrom_17 : decode cX0_copyFrom 17 = .ok (.aload_n 1, 1) := by decide +kernel
theorem dX0_copyFrom_18 : decode cX0_copyFrom 18 = .ok (.getfield 15, 3) := by decide +kernel
theorem dX0_copyFrom_21 : decode cX0_copyFrom 21 = .ok (.iconst 0, 1) := by decide +kernel
theorem dX0_copyFrom_22 : decode cX0_copyFrom 22 = .ok (.aload_n 0, 1) := by decide +kernel
theorem dX0_copyFrom_23 : decode cX0_copyFrom 23 = .ok (.getfield 15, 3) := by decide +kernel
theorem dX0_copyFrom_26 : decode cX0_copyFrom 26 = .ok (.iconst 0, 1) := by decide +kernel
theorem dX0_copyFrom_27 : decode cX0_copyFrom 27 = .ok (.aload_n 1, 1) := by decide +kernel
theorem dX0_copyFrom_28 : decode cX0_copyFrom 28 = .ok (.getfield 34, 3) := by decide +kernel
theorem dX0_copyFrom_31 : decode cX0_copyFrom 31 = .ok (.invokestatic 40, 3) := by decide +kernel
theorem dX0_copyFrom_34 : decode cX0_copyFrom 34 = .ok (.aload_n 1, 1) := by decide +kernel
theorem dX0_copyFrom_35 : decode cX0_copyFrom 35 = .ok (.getfield 18, 3) := by decide +kernel
theorem dX0_copyFrom_38 : decode cX0_copyFrom 38 = .ok (.iconst 0, 1) := by decide +kernel
theorem dX0_copyFrom_39 : decode cX0_copyFrom 39 = .ok (.aload_n 0, 1) := by decide +kernel
theorem dX0_copyFrom_40 : decode cX0_copyFrom 40 = .ok (.getfield 18, 3) := by decide +kernel
theorem dX0_copyFrom_43 : decode cX0_copyFrom 43 = .ok (.iconst 0, 1) := by decide +kernel
theorem dX0_copyFrom_44 : decode cX0_copyFrom 44 = .ok (.aload_n 1, 1) := by decide +kernel
theorem dX0_copyFrom_45 : decode cX0_copyFrom 45 = .ok (.getfield 34, 3) := by decide +kernel
theorem dX0_copyFrom_48 : decode cX0_copyFrom 48 = .ok (.invokestatic 40, 3) := by decide +kernel
theorem dX0_copyFrom_51 : decode cX0_copyFrom 51 = .ok (.aload_n 1, 1) := by decide +kernel
theorem dX0_copyFrom_52 : decode cX0_copyFrom 52 = .ok (.getfield 21, 3) := by decide +kernel
theorem dX0_copyFrom_55 : decode cX0_copyFrom 55 = .ok (.iconst 0, 1) := by decide +kernel
theorem dX0_copyFrom_56 : decode cX0_copyFrom 56 = .ok (.aload_n 0, 1) := by decide +kernel
theorem dX0_copyFrom_57 : decode cX0_copyFrom 57 = .ok (.getfield 21, 3) := by decide +kernel
theorem dX0_copyFrom_60 : decode cX0_copyFrom 60 = .ok (.iconst 0, 1) := by decide +kernel
theorem dX0_copyFrom_61 : decode cX0_copyFrom 61 = .ok (.aload_n 1, 1) := by decide +kernel
theorem dX0_copyFrom_62 : decode cX0_copyFrom 62 = .ok (.getfield 34, 3) := by decide +kernel
theorem dX0_copyFrom_65 : decode cX0_copyFrom 65 = .ok (.invokestatic 40, 3) := by decide +kernel
theorem dX0_copyFrom_68 : decode cX0_copyFrom 68 = .ok (.aload_n 1, 1) := by decide +kernel
theorem dX0_copyFrom_69 : decode cX0_copyFrom 69 = .ok (.getfield 24, 3) := by decide +kernel
theorem dX0_copyFrom_72 : decode cX0_copyFrom 72 = .ok (.iconst 0, 1) := by decide +kernel
theorem dX0_copyFrom_73 : decode cX0_copyFrom 73 = .ok (.aload_n 0, 1) := by decide +kernel
theorem dX0_copyFrom_74 : decode cX0_copyFrom 74 = .ok (.getfield 24, 3) := by decide +kernel
theorem dX0_copyFrom_77 : decode cX0_copyFrom 77 = .ok (.iconst 0, 1) := by decide +kernel
theorem dX0_copyFrom_78 : decode cX0_copyFrom 78 = .ok (.aload_n 1, 1) := by decide +kernel
theorem dX0_copyFrom_79 : decode cX0_copyFrom 79 = .ok (.getfield 34, 3) := by decide +kernel
theorem dX0_copyFrom_82 : decode cX0_copyFrom 82 = .ok (.invokestatic 40, 3) := by decide +kernel
theorem dX0_copyFrom_85 : decode cX0_copyFrom 85 = .ok (.aload_n 0, 1) := by decide +kernel
theorem dX0_copyFrom_86 : decode cX0_copyFrom 86 = .ok (.aload_n 1, 1) := by decide +kernel
theorem dX0_copyFrom_87 : decode cX0_copyFrom 87 = .ok (.getfield 31, 3) := by decide +kernel
theorem dX0_copyFrom_90 : decode cX0_copyFrom 90 = .ok (.putfield 31, 3) := by decide +kernel
theorem dX0_copyFrom_93 : decode cX0_copyFrom 93 = .ok (.aload_n 0, 1) := by decide +kernel
theorem dX0_copyFrom_94 : decode cX0_copyFrom 94 = .ok (.aload_n 1, 1) := by decide +kernel
theorem dX0_copyFrom_95 : decode cX0_copyFrom 95 = .ok (.getfield 34, 3) := by decide +kernel
theorem dX0_copyFrom_98 : decode cX0_copyFrom 98 = .ok (.putfield 34, 3) := by decide +kernel
theorem dX0_copyFrom_101 : decode cX0_copyFrom 101 = .ok (.aload_n 0, 1) := by decide +kernel
theorem dX0_copyFrom_102 : decode cX0_copyFrom 102 = .ok (.aload_n 1, 1) := by decide +kernel
theorem dX0_copyFrom_103 : decode cX0_copyFrom 103 = .ok (.getfield 27, 3) := by decide +kernel
theorem dX0_copyFrom_106 : decode cX0_copyFrom 106 = .ok (.putfield 27, 3) := by decide +kernel
theorem dX0_copyFrom_109 : decode cX0_copyFrom 109 = .ok (.aload_n 0, 1) := by decide +kernel
theorem dX0_copyFrom_110 : decode cX0_copyFrom 110 = .ok (.aload_n 1, 1) := by decide +kernel
theorem dX0_copyFrom_111 : decode cX0_copyFrom 111 = .ok (.getfield 37, 3) := by decide +kernel
theorem dX0_copyFrom_114 : decode cX0_copyFrom 114 = .ok (.putfield 37, 3) := by decide +kernel
theorem dX0_copyFrom_117 : decode cX0_copyFrom 117 = .ok (.return_, 1) := by decide +kernel
theorem dX0_currentDepth_0 : decode cX0_currentDepth 0 = .ok (.aload_n 0, 1) := by decide +kernel
theorem dX0_currentDepth_1 : decode cX0_currentDepth 1 = .ok (.getfield 27, 3) := by decide +kernel
theorem dX0_currentDepth_4 : decode cX0_currentDepth 4 = .ok (.ifCond .ge 7, 3) := by decide +kernel
theorem dX0_currentDepth_7 : decode cX0_currentDepth 7 = .ok (.iconst 0, 1) := by decide +kernel
theorem dX0_currentDepth_8 : decode cX0_currentDepth 8 = .ok (.goto 12, 3) := by decide +kernel
theorem dX0_currentDepth_11 : decode cX0_currentDepth 11 = .ok (.aload_n 0, 1) := by decide +kernel
theorem dX0_currentDepth_12 : decode cX0_currentDepth 12 = .ok (.getfield 18, 3) := by decide +kernel
theorem dX0_currentDepth_15 : decode cX0_currentDepth 15 = .ok (.aload_n 0, 1) := by decide +kernel
theorem dX0_currentDepth_16 : decode cX0_currentDepth 16 = .ok (.getfield 27, 3) := by decide +kernel
theorem dX0_currentDepth_19 : decode cX0_currentDepth 19 = .ok (.iaload, 1) := by decide +kernel
theorem dX0_currentDepth_20 : decode cX0_currentDepth 20 = .ok (.ireturn, 1) := by decide +kernel
theorem dX0_openRefusal_0 : decode cX0_openRefusal 0 = .ok (.aload_n 0, 1) := by decide +kernel
theorem dX0_openRefusal_1 : decode cX0_openRefusal 1 = .ok (.getfield 34, 3) := by decide +kernel
theorem dX0_openRefusal_4 : decode cX0_openRefusal 4 = .ok (.ifCond .le 14, 3) := by decide +kernel
theorem dX0_openRefusal_7 : decode cX0_openRefusal 7 = .ok (.aload_n 0, 1) := by decide +kernel
theorem dX0_openRefusal_8 : decode cX0_openRefusal 8 = .ok (.getfield 27, 3) := by decide +kernel
theorem dX0_openRefusal_11 : decode cX0_openRefusal 11 = .ok (.ifCond .ge 7, 3) := by decide +kernel
theorem dX0_openRefusal_14 : decode cX0_openRefusal 14 = .ok (.iconst 1, 1) := by decide +kernel
theorem dX0_openRefusal_15 : decode cX0_openRefusal 15 = .ok (.goto 4, 3) := by decide +kernel
theorem dX0_openRefusal_18 : decode cX0_openRefusal 18 = .ok (.iconst 0, 1) := by decide +kernel
theorem dX0_openRefusal_19 : decode cX0_openRefusal 19 = .ok (.istore_n 1, 1) := by decide +kernel
theorem dX0_openRefusal_20 : decode cX0_openRefusal 20 = .ok (.iload_n 1, 1) := by decide +kernel
theorem dX0_openRefusal_21 : decode cX0_openRefusal 21 = .ok (.ifCond .ne 12, 3) := by decide +kernel
theorem dX0_openRefusal_24 : decode cX0_openRefusal 24 = .ok (.aload_n 0, 1) := by decide +kernel
theorem dX0_openRefusal_25 : decode cX0_openRefusal 25 = .ok (.invokevirtual 46, 3) := by decide +kernel
theorem dX0_openRefusal_28 : decode cX0_openRefusal 28 = .ok (.bipush 8, 2) := by decide +kernel
theorem dX0_openRefusal_30 : decode cX0_openRefusal 30 = .ok (.if_icmp .lt 6, 3) := by decide +kernel
theorem dX0_openRefusal_33 : decode cX0_openRefusal 33 = .ok (.bipush (-3), 2) := by decide +kernel
theorem dX0_openRefusal_35 : decode cX0_openRefusal 35 = .ok (.ireturn, 1) := by decide +kernel
theorem dX0_openRefusal_36 : decode cX0_openRefusal 36 = .ok (.aload_n 0, 1) := by decide +kernel
theorem dX0_openRefusal_37 : decode cX0_openRefusal 37 = .ok (.getfield 34, 3) := by decide +kernel
theorem dX0_openRefusal_40 : decode cX0_openRefusal 40 = .ok (.bipush 20, 2) := by decide +kernel
theorem dX0_openRefusal_42 : decode cX0_openRefusal 42 = .ok (.if_icmp .lt 8, 3) := by decide +kernel
theorem dX0_openRefusal_45 : decode cX0_openRefusal 45 = .ok (.bipush (-4), 2) := by decide +kernel
theorem dX0_openRefusal_47 : decode cX0_openRefusal 47 = .ok (.goto 5, 3) := by decide +kernel
theorem dX0_openRefusal_50 : decode cX0_openRefusal 50 = .ok (.bipush (-9), 2) := by decide +kernel
theorem dX0_openRefusal_52 : decode cX0_openRefusal 52 = .ok (.ireturn, 1) := by decide +kernel
theorem dX0_enter_0 : decode cX0_enter 0 = .ok (.iload_n 1, 1) := by decide +kernel
theorem dX0_enter_1 : decode cX0_enter 1 = .ok (.ifCond .lt 17, 3) := by decide +kernel
theorem dX0_enter_4 : decode cX0_enter 4 = .ok (.iload_n 1, 1) := by decide +kernel
theorem dX0_enter_5 : decode cX0_enter 5 = .ok (.iconst 5, 1) := by decide +kernel
theorem dX0_enter_6 : decode cX0_enter 6 = .ok (.if_icmp .ge 12, 3) := by decide +kernel
theorem dX0_enter_9 : decode cX0_enter 9 = .ok (.aload_n 0, 1) := by decide +kernel
theorem dX0_enter_10 : decode cX0_enter 10 = .ok (.invokevirtual 50, 3) := by decide +kernel
theorem dX0_enter_13 : decode cX0_enter 13 = .ok (.bipush (-9), 2) := by decide +kernel
theorem dX0_enter_15 : decode cX0_enter 15 = .ok (.if_icmp .eq 5, 3) := by decide +kernel
theorem dX0_enter_18 : decode cX0_enter 18 = .ok (.iconst 0, 1) := by decide +kernel
theorem dX0_enter_19 : decode cX0_enter 19 = .ok (.ireturn, 1) := by decide +kernel
theorem dX0_enter_20 : decode cX0_enter 20 = .ok (.aload_n 0, 1) := by decide +kernel
theorem dX0_enter_21 : decode cX0_enter 21 = .ok (.getfield 27, 3) := by decide +kernel
theorem dX0_enter_24 : decode cX0_enter 24 = .ok (.ifCond .lt 18, 3) := by decide +kernel
theorem dX0_enter_27 : decode cX0_enter 27 = .ok (.aload_n 0, 1) := by decide +kernel
theorem dX0_enter_28 : decode cX0_enter 28 = .ok (.getfield 24, 3) := by decide +kernel
theorem dX0_enter_31 : decode cX0_enter 31 = .ok (.aload_n 0, 1) := by decide +kernel
theorem dX0_enter_32 : decode cX0_enter 32 = .ok (.getfield 27, 3) := by decide +kernel
theorem dX0_enter_35 : decode cX0_enter 35 = .ok (.dup2, 1) := by decide +kernel
theorem dX0_enter_36 : decode cX0_enter 36 = .ok (.iaload, 1) := by decide +kernel
theorem dX0_enter_37 : decode cX0_enter 37 = .ok (.iconst 1, 1) := by decide +kernel
theorem dX0_enter_38 : decode cX0_enter 38 = .ok (.iload_n 1, 1) := by decide +kernel
theorem dX0_enter_39 : decode cX0_enter 39 = .ok (.ishl, 1) := by decide +kernel
theorem dX0_enter_40 : decode cX0_enter 40 = .ok (.ior, 1) := by decide +kernel
theorem dX0_enter_41 : decode cX0_enter 41 = .ok (.iastore, 1) := by decide +kernel
theorem dX0_enter_42 : decode cX0_enter 42 = .ok (.aload_n 0, 1) := by decide +kernel
theorem dX0_enter_43 : decode cX0_enter 43 = .ok (.getfield 9, 3) := by decide +kernel
theorem dX0_enter_46 : decode cX0_enter 46 = .ok (.aload_n 0, 1) := by decide +kernel
theorem dX0_enter_47 : decode cX0_enter 47 = .ok (.getfield 34, 3) := by decide +kernel
theorem dX0_enter_50 : decode cX0_enter 50 = .ok (.iload_n 1, 1) := by decide +kernel
theorem dX0_enter_51 : decode cX0_enter 51 = .ok (.iastore, 1) := by decide +kernel
theorem dX0_enter_52 : decode cX0_enter 52 = .ok (.aload_n 0, 1) := by decide +kernel
theorem dX0_enter_53 : decode cX0_enter 53 = .ok (.getfield 15, 3) := by decide +kernel
theorem dX0_enter_56 : decode cX0_enter 56 = .ok (.aload_n 0, 1) := by decide +kernel
theorem dX0_enter_57 : decode cX0_enter 57 = .ok (.getfield 34, 3) := by decide +kernel
theorem dX0_enter_60 : decode cX0_enter 60 = .ok (.aload_n 0, 1) := by decide +kernel
theorem dX0_enter_61 : decode cX0_enter 61 = .ok (.getfield 27, 3) := by decide +kernel
theorem dX0_enter_64 : decode cX0_enter 64 = .ok (.iastore, 1) := by decide +kernel
theorem dX0_enter_65 : decode cX0_enter 65 = .ok (.aload_n 0, 1) := by decide +kernel
theorem dX0_enter_66 : decode cX0_enter 66 = .ok (.getfield 18, 3) := by decide +kernel
theorem dX0_enter_69 : decode cX0_enter 69 = .ok (.aload_n 0, 1) := by decide +kernel
theorem dX0_enter_70 : decode cX0_enter 70 = .ok (.getfield 34, 3) := by decide +kernel
theorem dX0_enter_73 : decode cX0_enter 73 = .ok (.aload_n 0, 1) := by decide +kernel
theorem dX0_enter_74 : decode cX0_enter 74 = .ok (.invokevirtual 46, 3) := by decide +kernel
theorem dX0_enter_77 : decode cX0_enter 77 = .ok (.iconst 1, 1) := by decide +kernel
theorem dX0_enter_78 : decode cX0_enter 78 = .ok (.iadd, 1) := by decide +kernel
theorem dX0_enter_79 : decode cX0_enter 79 = .ok (.iastore, 1) := by decide +kernel
theorem dX0_enter_80 : decode cX0_enter 80 = .ok (.aload_n 0, 1) := by decide +kernel
theorem dX0_enter_81 : decode cX0_enter 81 = .ok (.getfield 21, 3) := by decide +kernel
theorem dX0_enter_84 : decode cX0_enter 84 = .ok (.aload_n 0, 1) := by decide +kernel
theorem dX0_enter_85 : decode cX0_enter 85 = .ok (.getfield 34, 3) := by decide +kernel
theorem dX0_enter_88 : decode cX0_enter 88 = .ok (.iconst 0, 1) := by decide +kernel
theorem dX0_enter_89 : decode cX0_enter 89 = .ok (.iastore, 1) := by decide +kernel
theorem dX0_enter_90 : decode cX0_enter 90 = .ok (.aload_n 0, 1) := by decide +kernel
theorem dX0_enter_91 : decode cX0_enter 91 = .ok (.getfield 24, 3) := by decide +kernel
theorem dX0_enter_94 : decode cX0_enter 94 = .ok (.aload_n 0, 1) := by decide +kernel
theorem dX0_enter_95 : decode cX0_enter 95 = .ok (.getfield 34, 3) := by decide +kernel
theorem dX0_enter_98 : decode cX0_enter 98 = .ok (.iconst 0, 1) := by decide +kernel
theorem dX0_enter_99 : decode cX0_enter 99 = .ok (.iastore, 1) := by decide +kernel
theorem dX0_enter_100 : decode cX0_enter 100 = .ok (.aload_n 0, 1) := by decide +kernel
theorem dX0_enter_101 : decode cX0_enter 101 = .ok (.dup, 1) := by decide +kernel
theorem dX0_enter_102 : decode cX0_enter 102 = .ok (.getfield 31, 3) := by decide +kernel
theorem dX0_enter_105 : decode cX0_enter 105 = .ok (.iconst 1, 1) := by decide +kernel
theorem dX0_enter_106 : decode cX0_enter 106 = .ok (.aload_n 0, 1) := by decide +kernel
theorem dX0_enter_107 : decode cX0_enter 107 = .ok (.getfield 34, 3) := by decide +kernel
theorem dX0_enter_110 : decode cX0_enter 110 = .ok (.ishl, 1) := by decide +kernel
theorem dX0_enter_111 : decode cX0_enter 111 = .ok (.ior, 1) := by decide +kernel
theorem dX0_enter_112 : decode cX0_enter 112 = .ok (.putfield 31, 3) := by decide +kernel
theorem dX0_enter_115 : decode cX0_enter 115 = .ok (.aload_n 0, 1) := by decide +kernel
theorem dX0_enter_116 : decode cX0_enter 116 = .ok (.aload_n 0, 1) := by decide +kernel
theorem dX0_enter_117 : decode cX0_enter 117 = .ok (.getfield 34, 3) := by decide +kernel
theorem dX0_enter_120 : decode cX0_enter 120 = .ok (.putfield 27, 3) := by decide +kernel
theorem dX0_enter_123 : decode cX0_enter 123 = .ok (.aload_n 0, 1) := by decide +kernel
theorem dX0_enter_124 : decode cX0_enter 124 = .ok (.dup, 1) := by decide +kernel
theorem dX0_enter_125 : decode cX0_enter 125 = .ok (.getfield 34, 3) := by decide +kernel
theorem dX0_enter_128 : decode cX0_enter 128 = .ok (.iconst 1, 1) := by decide +kernel
theorem dX0_enter_129 : decode cX0_enter 129 = .ok (.iadd, 1) := by decide +kernel
theorem dX0_enter_130 : decode cX0_enter 130 = .ok (.putfield 34, 3) := by decide +kernel
theorem dX0_enter_133 : decode cX0_enter 133 = .ok (.aload_n 0, 1) := by decide +kernel
theorem dX0_enter_134 : decode cX0_enter 134 = .ok (.dup, 1) := by decide +kernel
theorem dX0_enter_135 : decode cX0_enter 135 = .ok (.getfield 37, 3) := by decide +kernel
theorem dX0_enter_138 : decode cX0_enter 138 = .ok (.iconst 1, 1) := by decide +kernel
theorem dX0_enter_139 : decode cX0_enter 139 = .ok (.iadd, 1) := by decide +kernel
theorem dX0_enter_140 : decode cX0_enter 140 = .ok (.putfield 37, 3) := by decide +kernel
theorem dX0_enter_143 : decode cX0_enter 143 = .ok (.iconst 1, 1) := by decide +kernel
theorem dX0_enter_144 : decode cX0_enter 144 = .ok (.ireturn, 1) := by decide +kernel
theorem dX0_leave_0 : decode cX0_leave 0 = .ok (.aload_n 0, 1) := by decide +kernel
theorem dX0_leave_1 : decode cX0_leave 1 = .ok (.getfield 27, 3) := by decide +kernel
theorem dX0_leave_4 : decode cX0_leave 4 = .ok (.ifCond .ge 5, 3) := by decide +kernel
theorem dX0_leave_7 : decode cX0_leave 7 = .ok (.iconst 0, 1) := by decide +kernel
theorem dX0_leave_8 : decode cX0_leave 8 = .ok (.ireturn, 1) := by decide +kernel
theorem dX0_leave_9 : decode cX0_leave 9 = .ok (.aload_n 0, 1) := by decide +kernel
theorem dX0_leave_10 : decode cX0_leave 10 = .ok (.dup, 1) := by decide +kernel
theorem dX0_leave_11 : decode cX0_leave 11 = .ok (.getfield 31, 3) := by decide +kernel
theorem dX0_leave_14 : decode cX0_leave 14 = .ok (.iconst 1, 1) := by decide +kernel
theorem dX0_leave_15 : decode cX0_leave 15 = .ok (.aload_n 0, 1) := by decide +kernel
theorem dX0_leave_16 : decode cX0_leave 16 = .ok (.getfield 27, 3) := by decide +kernel
theorem dX0_leave_19 : decode cX0_leave 19 = .ok (.ishl, 1) := by decide +kernel
theorem dX0_leave_20 : decode cX0_leave 20 = .ok (.iconst (-1), 1) := by decide +kernel
theorem dX0_leave_21 : decode cX0_leave 21 = .ok (.ixor, 1) := by decide +kernel
theorem dX0_leave_22 : decode cX0_leave 22 = .ok (.iand, 1) := by decide +kernel
theorem dX0_leave_23 : decode cX0_leave 23 = .ok (.putfield 31, 3) := by decide +kernel
theorem dX0_leave_26 : decode cX0_leave 26 = .ok (.aload_n 0, 1) := by decide +kernel
theorem dX0_leave_27 : decode cX0_leave 27 = .ok (.aload_n 0, 1) := by decide +kernel
theorem dX0_leave_28 : decode cX0_leave 28 = .ok (.getfield 15, 3) := by decide +kernel
theorem dX0_leave_31 : decode cX0_leave 31 = .ok (.aload_n 0, 1) := by decide +kernel
theorem dX0_leave_32 : decode cX0_leave 32 = .ok (.getfield 27, 3) := by decide +kernel
theorem dX0_leave_35 : decode cX0_leave 35 = .ok (.iaload, 1) := by decide +kernel
theorem dX0_leave_36 : decode cX0_leave 36 = .ok (.putfield 27, 3) := by decide +kernel
theorem dX0_leave_39 : decode cX0_leave 39 = .ok (.aload_n 0, 1) := by decide +kernel
theorem dX0_leave_40 : decode cX0_leave 40 = .ok (.dup, 1) := by decide +kernel
theorem dX0_leave_41 : decode cX0_leave 41 = .ok (.getfield 37, 3) := by decide +kernel
theorem dX0_leave_44 : decode cX0_leave 44 = .ok (.iconst 1, 1) := by decide +kernel
theorem dX0_leave_45 : decode cX0_leave 45 = .ok (.iadd, 1) := by decide +kernel
theorem dX0_leave_46 : decode cX0_leave 46 = .ok (.putfield 37, 3) := by decide +kernel
theorem dX0_leave_49 : decode cX0_leave 49 = .ok (.iconst 1, 1) := by decide +kernel
theorem dX0_leave_50 : decode cX0_leave 50 = .ok (.ireturn, 1) := by decide +kernel
theorem dX0_hold_0 : decode cX0_hold 0 = .ok (.iload_n 1, 1) := by decide +kernel
theorem dX0_hold_1 : decode cX0_hold 1 = .ok (.ifCond .lt 16, 3) := by decide +kernel
theorem dX0_hold_4 : decode cX0_hold 4 = .ok (.iload_n 1, 1) := by decide +kernel
theorem dX0_hold_5 : decode cX0_hold 5 = .ok (.bipush 10, 2) := by decide +kernel
theorem dX0_hold_7 : decode cX0_hold 7 = .ok (.if_icmp .ge 10, 3) := by decide +kernel
theorem dX0_hold_10 : decode cX0_hold 10 = .ok (.aload_n 0, 1) := by decide +kernel
theorem dX0_hold_11 : decode cX0_hold 11 = .ok (.getfield 27, 3) := by decide +kernel
theorem dX0_hold_14 : decode cX0_hold 14 = .ok (.ifCond .ge 5, 3) := by decide +kernel
theorem dX0_hold_17 : decode cX0_hold 17 = .ok (.iconst 0, 1) := by decide +kernel
theorem dX0_hold_18 : decode cX0_hold 18 = .ok (.ireturn, 1) := by decide +kernel
theorem dX0_hold_19 : decode cX0_hold 19 = .ok (.aload_n 0, 1) := by decide +kernel
theorem dX0_hold_20 : decode cX0_hold 20 = .ok (.getfield 21, 3) := by decide +kernel
theorem dX0_hold_23 : decode cX0_hold 23 = .ok (.aload_n 0, 1) := by decide +kernel
theorem dX0_hold_24 : decode cX0_hold 24 = .ok (.getfield 27, 3) := by decide +kernel
theorem dX0_hold_27 : decode cX0_hold 27 = .ok (.dup2, 1) := by decide +kernel
theorem dX0_hold_28 : decode cX0_hold 28 = .ok (.iaload, 1) := by decide +kernel
theorem dX0_hold_29 : decode cX0_hold 29 = .ok (.iconst 1, 1) := by decide +kernel
theorem dX0_hold_30 : decode cX0_hold 30 = .ok (.iload_n 1, 1) := by decide +kernel
theorem dX0_hold_31 : decode cX0_hold 31 = .ok (.ishl, 1) := by decide +kernel
theorem dX0_hold_32 : decode cX0_hold 32 = .ok (.ior, 1) := by decide +kernel
theorem dX0_hold_33 : decode cX0_hold 33 = .ok (.iastore, 1) := by decide +kernel
theorem dX0_hold_34 : decode cX0_hold 34 = .ok (.aload_n 0, 1) := by decide +kernel
theorem dX0_hold_35 : decode cX0_hold 35 = .ok (.dup, 1) := by decide +kernel
theorem dX0_hold_36 : decode cX0_hold 36 = .ok (.getfield 37, 3) := by decide +kernel
theorem dX0_hold_39 : decode cX0_hold 39 = .ok (.iconst 1, 1) := by decide +kernel
theorem dX0_hold_40 : decode cX0_hold 40 = .ok (.iadd, 1) := by decide +kernel
theorem dX0_hold_41 : decode cX0_hold 41 = .ok (.putfield 37, 3) := by decide +kernel
theorem dX0_hold_44 : decode cX0_hold 44 = .ok (.iconst 1, 1) := by decide +kernel
theorem dX0_hold_45 : decode cX0_hold 45 = .ok (.ireturn, 1) := by decide +kernel
theorem dX0_fulfilled_0 : decode cX0_fulfilled 0 = .ok (.iconst 1, 1) := by decide +kernel
theorem dX0_fulfilled_1 : decode cX0_fulfilled 1 = .ok (.aload_n 0, 1) := by decide +kernel
theorem dX0_fulfilled_2 : decode cX0_fulfilled 2 = .ok (.getfield 24, 3) := by decide +kernel
theorem dX0_fulfilled_5 : decode cX0_fulfilled 5 = .ok (.iload_n 1, 1) := by decide +kernel
theorem dX0_fulfilled_6 : decode cX0_fulfilled 6 = .ok (.iaload, 1) := by decide +kernel
theorem dX0_fulfilled_7 : decode cX0_fulfilled 7 = .ok (.iconst 1, 1) := by decide +kernel
theorem dX0_fulfilled_8 : decode cX0_fulfilled 8 = .ok (.ishl, 1) := by decide +kernel
theorem dX0_fulfilled_9 : decode cX0_fulfilled 9 = .ok (.ior, 1) := by decide +kernel
theorem dX0_fulfilled_10 : decode cX0_fulfilled 10 = .ok (.aload_n 0, 1) := by decide +kernel
theorem dX0_fulfilled_11 : decode cX0_fulfilled 11 = .ok (.getfield 21, 3) := by decide +kernel
theorem dX0_fulfilled_14 : decode cX0_fulfilled 14 = .ok (.iload_n 1, 1) := by decide +kernel
theorem dX0_fulfilled_15 : decode cX0_fulfilled 15 = .ok (.iaload, 1) := by decide +kernel
theorem dX0_fulfilled_16 : decode cX0_fulfilled 16 = .ok (.bipush 6, 2) := by decide +kernel
theorem dX0_fulfilled_18 : decode cX0_fulfilled 18 = .ok (.ishl, 1) := by decide +kernel
theorem dX0_fulfilled_19 : decode cX0_fulfilled 19 = .ok (.ior, 1) := by decide +kernel
theorem dX0_fulfilled_20 : decode cX0_fulfilled 20 = .ok (.ireturn, 1) := by decide +kernel
theorem dX1_init_0 : decode cX1_init 0 = .ok (.aload_n 0, 1) := by decide +kernel
theorem dX1_init_1 : decode cX1_init 1 = .ok (.invokespecial 3, 3) := by decide +kernel
theorem dX1_init_4 : decode cX1_init 4 = .ok (.aload_n 0, 1) := by decide +kernel
theorem dX1_init_5 : decode cX1_init 5 = .ok (.bipush 20, 2) := by decide +kernel
theorem dX1_init_7 : decode cX1_init 7 = .ok (.newarray .int, 2) := by decide +kernel
theorem dX1_init_9 : decode cX1_init 9 = .ok (.putfield 9, 3) := by decide +kernel
theorem dX1_init_12 : decode cX1_init 12 = .ok (.aload_n 0, 1) := by decide +kernel
theorem dX1_init_13 : decode cX1_init 13 = .ok (.bipush 20, 2) := by decide +kernel
theorem dX1_init_15 : decode cX1_init 15 = .ok (.newarray .int, 2) := by decide +kernel
theorem dX1_init_17 : decode cX1_init 17 = .ok (.putfield 15, 3) := by decide +kernel
theorem dX1_init_20 : decode cX1_init 20 = .ok (.aload_n 0, 1) := by decide +kernel
theorem dX1_init_21 : decode cX1_init 21 = .ok (.bipush 20, 2) := by decide +kernel
theorem dX1_init_23 : decode cX1_init 23 = .ok (.newarray .int, 2) := by decide +kernel
theorem dX1_init_25 : decode cX1_init 25 = .ok (.putfield 18, 3) := by decide +kernel
theorem dX1_init_28 : decode cX1_init 28 = .ok (.aload_n 0, 1) := by decide +kernel
theorem dX1_init_29 : decode cX1_init 29 = .ok (.bipush 20, 2) := by decide +kernel
theorem dX1_init_31 : decode cX1_init 31 = .ok (.newarray .int, 2) := by decide +kernel
theorem dX1_init_33 : decode cX1_init 33 = .ok (.putfield 21, 3) := by decide +kernel
theorem dX1_init_36 : decode cX1_init 36 = .ok (.return_, 1) := by decide +kernel
theorem dX1_match_0 : decode cX1_match 0 = .ok (.aload_n 0, 1) := by decide +kernel
theorem dX1_match_1 : decode cX1_match 1 = .ok (.iconst 0, 1) := by decide +kernel
theorem dX1_match_2 : decode cX1_match 2 = .ok (.putfield 24, 3) := by decide +kernel
theorem dX1_match_5 : decode cX1_match 5 = .ok (.aload_n 0, 1) := by decide +kernel
theorem dX1_match_6 : decode cX1_match 6 = .ok (.iconst 0, 1) := by decide +kernel
theorem dX1_match_7 : decode cX1_match 7 = .ok (.putfield 28, 3) := by decide +kernel
theorem dX1_match_10 : decode cX1_match 10 = .ok (.iconst 0, 1) := by decide +kernel
theorem dX1_match_11 : decode cX1_match 11 = .ok (.istore_n 3, 1) := by decide +kernel
theorem dX1_match_12 : decode cX1_match 12 = .ok (.iload_n 3, 1) := by decide +kernel
theorem dX1_match_13 : decode cX1_match 13 = .ok (.aload_n 1, 1) := by decide +kernel
theorem dX1_match_14 : decode cX1_match 14 = .ok (.getfield 31, 3) := by decide +kernel
theorem dX1_match_17 : decode cX1_match 17 = .ok (.if_icmp .ge 36, 3) := by decide +kernel
theorem dX1_match_20 : decode cX1_match 20 = .ok (.aload_n 0, 1) := by decide +kernel
theorem dX1_match_21 : decode cX1_match 21 = .ok (.iload_n 3, 1) := by decide +kernel
theorem dX1_match_22 : decode cX1_match 22 = .ok (.aload_n 1, 1) := by decide +kernel
theorem dX1_match_23 : decode cX1_match 23 = .ok (.getfield 36, 3) := by decide +kernel
theorem dX1_match_26 : decode cX1_match 26 = .ok (.iload_n 3, 1) := by decide +kernel
theorem dX1_match_27 : decode cX1_match 27 = .ok (.iaload, 1) := by decide +kernel
theorem dX1_match_28 : decode cX1_match 28 = .ok (.invokevirtual 39, 3) := by decide +kernel
theorem dX1_match_31 : decode cX1_match 31 = .ok (.aload_n 0, 1) := by decide +kernel
theorem dX1_match_32 : decode cX1_match 32 = .ok (.aload_n 1, 1) := by decide +kernel
theorem dX1_match_33 : decode cX1_match 33 = .ok (.iload_n 3, 1) := by decide +kernel
theorem dX1_match_34 : decode cX1_match 34 = .ok (.aload_n 2, 1) := by decide +kernel
theorem dX1_match_35 : decode cX1_match 35 = .ok (.invokevirtual 43, 3) := by decide +kernel
theorem dX1_match_38 : decode cX1_match 38 = .ok (.aload_n 0, 1) := by decide +kernel
theorem dX1_match_39 : decode cX1_match 39 = .ok (.iload_n 3, 1) := by decide +kernel
theorem dX1_match_40 : decode cX1_match 40 = .ok (.aload_n 2, 1) := by decide +kernel
theorem dX1_match_41 : decode cX1_match 41 = .ok (.getfield 47, 3) := by decide +kernel
theorem dX1_match_44 : decode cX1_match 44 = .ok (.invokevirtual 52, 3) := by decide +kernel
theorem dX1_match_47 : decode cX1_match 47 = .ok (.iinc 3 1, 3) := by decide +kernel
theorem dX1_match_50 : decode cX1_match 50 = .ok (.goto (-38), 3) := by decide +kernel
theorem dX1_match_53 : decode cX1_match 53 = .ok (.return_, 1) := by decide +kernel
theorem dX1_lookAround_0 : decode cX1_lookAround 0 = .ok (.iload_n 2, 1) := by decide +kernel
theorem dX1_lookAround_1 : decode cX1_lookAround 1 = .ok (.ifCond .lt 12, 3) := by decide +kernel
theorem dX1_lookAround_4 : decode cX1_lookAround 4 = .ok (.iload_n 2, 1) := by decide +kernel
theorem dX1_lookAround_5 : decode cX1_lookAround 5 = .ok (.iload_n 1, 1) := by decide +kernel
theorem dX1_lookAround_6 : decode cX1_lookAround 6 = .ok (.if_icmp .ge 7, 3) := by decide +kernel
theorem dX1_lookAround_9 : decode cX1_lookAround 9 = .ok (.iconst 1, 1) := by decide +kernel
theorem dX1_lookAround_10 : decode cX1_lookAround 10 = .ok (.goto 4, 3) := by decide +kernel
theorem dX1_lookAround_13 : decode cX1_lookAround 13 = .ok (.iconst 0, 1) := by decide +kernel
theorem dX1_lookAround_14 : decode cX1_lookAround 14 = .ok (.istore_n 3, 1) := by decide +kernel
theorem dX1_lookAround_15 : decode cX1_lookAround 15 = .ok (.aload_n 0, 1) := by decide +kernel
theorem dX1_lookAround_16 : decode cX1_lookAround 16 = .ok (.getfield 18, 3) := by decide +kernel
theorem dX1_lookAround_19 : decode cX1_lookAround 19 = .ok (.iload_n 1, 1) := by decide +kernel
theorem dX1_lookAround_20 : decode cX1_lookAround 20 = .ok (.iload_n 3, 1) := by decide +kernel
theorem dX1_lookAround_21 : decode cX1_lookAround 21 = .ok (.ifCond .eq 19, 3) := by decide +kernel
theorem dX1_lookAround_24 : decode cX1_lookAround 24 = .ok (.aload_n 0, 1) := by decide +kernel
theorem dX1_lookAround_25 : decode cX1_lookAround 25 = .ok (.getfield 9, 3) := by decide +kernel
theorem dX1_lookAround_28 : decode cX1_lookAround 28 = .ok (.iload_n 2, 1) := by decide +kernel
theorem dX1_lookAround_29 : decode cX1_lookAround 29 = .ok (.iaload, 1) := by decide +kernel
theorem dX1_lookAround_30 : decode cX1_lookAround 30 = .ok (.aload_n 0, 1) := by decide +kernel
theorem dX1_lookAround_31 : decode cX1_lookAround 31 = .ok (.getfield 18, 3) := by decide +kernel
theorem dX1_lookAround_34 : decode cX1_lookAround 34 = .ok (.iload_n 2, 1) := by decide +kernel
theorem dX1_lookAround_35 : decode cX1_lookAround 35 = .ok (.iaload, 1) := by decide +kernel
theorem dX1_lookAround_36 : decode cX1_lookAround 36 = .ok (.ior, 1) := by decide +kernel
theorem dX1_lookAround_37 : decode cX1_lookAround 37 = .ok (.goto 4, 3) := by decide +kernel
theorem dX1_lookAround_40 : decode cX1_lookAround 40 = .ok (.iconst 0, 1) := by decide +kernel
theorem dX1_lookAround_41 : decode cX1_lookAround 41 = .ok (.iastore, 1) := by decide +kernel
theorem dX1_lookAround_42 : decode cX1_lookAround 42 = .ok (.aload_n 0, 1) := by decide +kernel
theorem dX1_lookAround_43 : decode cX1_lookAround 43 = .ok (.getfield 21, 3) := by decide +kernel
theorem dX1_lookAround_46 : decode cX1_lookAround 46 = .ok (.iload_n 1, 1) := by decide +kernel
theorem dX1_lookAround_47 : decode cX1_lookAround 47 = .ok (.iload_n 3, 1) := by decide +kernel
theorem dX1_lookAround_48 : decode cX1_lookAround 48 = .ok (.ifCond .eq 19, 3) := by decide +kernel
theorem dX1_lookAround_51 : decode cX1_lookAround 51 = .ok (.aload_n 0, 1) := by decide +kernel
theorem dX1_lookAround_52 : decode cX1_lookAround 52 = .ok (.getfield 15, 3) := by decide +kernel
theorem dX1_lookAround_55 : decode cX1_lookAround 55 = .ok (.iload_n 2, 1) := by decide +kernel
theorem dX1_lookAround_56 : decode cX1_lookAround 56 = .ok (.iaload, 1) := by decide +kernel
theorem dX1_lookAround_57 : decode cX1_lookAround 57 = .ok (.aload_n 0, 1) := by decide +kernel
theorem dX1_lookAround_58 : decode cX1_lookAround 58 = .ok (.getfield 21, 3) := by decide +kernel
theorem dX1_lookAround_61 : decode cX1_lookAround 61 = .ok (.iload_n 2, 1) := by decide +kernel
theorem dX1_lookAround_62 : decode cX1_lookAround 62 = .ok (.iaload, 1) := by decide +kernel
theorem dX1_lookAround_63 : decode cX1_lookAround 63 = .ok (.ior, 1) := by decide +kernel
theorem dX1_lookAround_64 : decode cX1_lookAround 64 = .ok (.goto 4, 3) := by decide +kernel
theorem dX1_lookAround_67 : decode cX1_lookAround 67 = .ok (.iconst 0, 1) := by decide +kernel
theorem dX1_lookAround_68 : decode cX1_lookAround 68 = .ok (.iastore, 1) := by decide +kernel
theorem dX1_lookAround_69 : decode cX1_lookAround 69 = .ok (.return_, 1) := by decide +kernel
theorem dX1_matchElement_0 : decode cX1_matchElement 0 = .ok (.aload_n 1, 1) := by decide +kernel
theorem dX1_matchElement_1 : decode cX1_matchElement 1 = .ok (.getfield 36, 3) := by decide +kernel
theorem dX1_matchElement_4 : decode cX1_matchElement 4 = .ok (.iload_n 2, 1) := by decide +kernel
theorem dX1_matchElement_5 : decode cX1_matchElement 5 = .ok (.iaload, 1) := by decide +kernel
theorem dX1_matchElement_6 : decode cX1_matchElement 6 = .ok (.istore 4, 2) := by decide +kernel
theorem dX1_matchElement_8 : decode cX1_matchElement 8 = .ok (.iload 4, 2) := by decide +kernel
theorem dX1_matchElement_10 : decode cX1_matchElement 10 = .ok (.ifCond .lt 13, 3) := by decide +kernel
theorem dX1_matchElement_13 : decode cX1_matchElement 13 = .ok (.iload 4, 2) := by decide +kernel
theorem dX1_matchElement_15 : decode cX1_matchElement 15 = .ok (.iload_n 2, 1) := by decide +kernel
theorem dX1_matchElement_16 : decode cX1_matchElement 16 = .ok (.if_icmp .ge 7, 3) := by decide +kernel
theorem dX1_matchElement_19 : decode cX1_matchElement 19 = .ok (.iconst 1, 1) := by decide +kernel
theorem dX1_matchElement_20 : decode cX1_matchElement 20 = .ok (.goto 4, 3) := by decide +kernel
theorem dX1_matchElement_23 : decode cX1_matchElement 23 = .ok (.iconst 0, 1) := by decide +kernel
theorem dX1_matchElement_24 : decode cX1_matchElement 24 = .ok (.istore 5, 2) := by decide +kernel
theorem dX1_matchElement_26 : decode cX1_matchElement 26 = .ok (.iload 5, 2) := by decide +kernel
theorem dX1_matchElement_28 : decode cX1_matchElement 28 = .ok (.ifCond .eq 13, 3) := by decide +kernel
theorem dX1_matchElement_31 : decode cX1_matchElement 31 = .ok (.aload_n 0, 1) := by decide +kernel
theorem dX1_matchElement_32 : decode cX1_matchElement 32 = .ok (.getfield 9, 3) := by decide +kernel
theorem dX1_matchElement_35 : decode cX1_matchElement 35 = .ok (.iload 4, 2) := by decide +kernel
theorem dX1_matchElement_37 : decode cX1_matchElement 37 = .ok (.iaload, 1) := by decide +kernel
theorem dX1_matchElement_38 : decode cX1_matchElement 38 = .ok (.goto 4, 3) := by decide +kernel
theorem dX1_matchElement_41 : decode cX1_matchElement 41 = .ok (.iconst 0, 1) := by decide +kernel
theorem dX1_matchElement_42 : decode cX1_matchElement 42 = .ok (.istore 6, 2) := by decide +kernel
theorem dX1_matchElement_44 : decode cX1_matchElement 44 = .ok (.iload 5, 2) := by decide +kernel
theorem dX1_matchElement_46 : decode cX1_matchElement 46 = .ok (.ifCond .eq 13, 3) := by decide +kernel
theorem dX1_matchElement_49 : decode cX1_matchElement 49 = .ok (.aload_n 0, 1) := by decide +kernel
theorem dX1_matchElement_50 : decode cX1_matchElement 50 = .ok (.getfield 15, 3) := by decide +kernel
theorem dX1_matchElement_53 : decode cX1_matchElement 53 = .ok (.iload 4, 2) := by decide +kernel
theorem dX1_matchElement_55 : decode cX1_matchElement 55 = .ok (.iaload, 1) := by decide +kernel
theorem dX1_matchElement_56 : decode cX1_matchElement 56 = .ok (.goto 4, 3) := by decide +kernel
theorem dX1_matchElement_59 : decode cX1_matchElement 59 = .ok (.iconst 0, 1) := by decide +kernel
theorem dX1_matchElement_60 : decode cX1_matchElement 60 = .ok (.istore 7, 2) := by decide +kernel
theorem dX1_matchElement_62 : decode cX1_matchElement 62 = .ok (.aload_n 1, 1) := by decide +kernel
theorem dX1_matchElement_63 : decode cX1_matchElement 63 = .ok (.getfield 55, 3) := by decide +kernel
theorem dX1_matchElement_66 : decode cX1_matchElement 66 = .ok (.iload_n 2, 1) := by decide +kernel
theorem dX1_matchElement_67 : decode cX1_matchElement 67 = .ok (.ishr, 1) := by decide +kernel
theorem dX1_matchElement_68 : decode cX1_matchElement 68 = .ok (.iconst 1, 1) := by decide +kernel
theorem dX1_matchElement_69 : decode cX1_matchElement 69 = .ok (.iand, 1) := by decide +kernel
theorem dX1_matchElement_70 : decode cX1_matchElement 70 = .ok (.ifCond .eq 7, 3) := by decide +kernel
theorem dX1_matchElement_73 : decode cX1_matchElement 73 = .ok (.iconst 1, 1) := by decide +kernel
theorem dX1_matchElement_74 : decode cX1_matchElement 74 = .ok (.goto 4, 3) := by decide +kernel
theorem dX1_matchElement_77 : decode cX1_matchElement 77 = .ok (.iconst 0, 1) := by decide +kernel
theorem dX1_matchElement_78 : decode cX1_matchElement 78 = .ok (.istore 8, 2) := by decide +kernel
theorem dX1_matchElement_80 : decode cX1_matchElement 80 = .ok (.aload_n 1, 1) := by decide +kernel
theorem dX1_matchElement_81 : decode cX1_matchElement 81 = .ok (.iload_n 2, 1) := by decide +kernel
theorem dX1_matchElement_82 : decode cX1_matchElement 82 = .ok (.invokevirtual 58, 3) := by decide +kernel
theorem dX1_matchElement_85 : decode cX1_matchElement 85 = .ok (.istore 9, 2) := by decide +kernel
theorem dX1_matchElement_87 : decode cX1_matchElement 87 = .ok (.iconst 0, 1) := by decide +kernel
theorem dX1_matchElement_88 : decode cX1_matchElement 88 = .ok (.istore 10, 2) := by decide +kernel
theorem dX1_matchElement_90 : decode cX1_matchElement 90 = .ok (.iconst 0, 1) := by decide +kernel
theorem dX1_matchElement_91 : decode cX1_matchElement 91 = .ok (.istore 11, 2) := by decide +kernel
theorem dX1_matchElement_93 : decode cX1_matchElement 93 = .ok (.iconst 0, 1) := by decide +kernel
theorem dX1_matchElement_94 : decode cX1_matchElement 94 = .ok (.istore 12, 2) := by decide +kernel
theorem dX1_matchElement_96 : decode cX1_matchElement 96 = .ok (.iload 12, 2) := by decide +kernel
theorem dX1_matchElement_98 : decode cX1_matchElement 98 = .ok (.aload_n 3, 1) := by decide +kernel
theorem dX1_matchElement_99 : decode cX1_matchElement 99 = .ok (.getfield 47, 3) := by decide +kernel
theorem dX1_matchElement_102 : decode cX1_matchElement 102 = .ok (.if_icmp .ge 203, 3) := by decide +kernel
theorem dX1_matchElement_105 : decode cX1_matchElement 105 = .ok (.aload_n 3, 1) := by decide +kernel
theorem dX1_matchElement_106 : decode cX1_matchElement 106 = .ok (.getfield 62, 3) := by decide +kernel
theorem dX1_matchElement_109 : decode cX1_matchElement 109 = .ok (.iload 12, 2) := by decide +kernel
theorem dX1_matchElement_111 : decode cX1_matchElement 111 = .ok (.iaload, 1) := by decide +kernel
theorem dX1_matchElement_112 : decode cX1_matchElement 112 = .ok (.istore 13, 2) := by decide +kernel
theorem dX1_matchElement_114 : decode cX1_matchElement 114 = .ok (.iload 13, 2) := by decide +kernel
theorem dX1_matchElement_116 : decode cX1_matchElement 116 = .ok (.bipush 100, 2) := by decide +kernel
theorem dX1_matchElement_118 : decode cX1_matchElement 118 = .ok (.idiv, 1) := by decide +kernel
theorem dX1_matchElement_119 : decode cX1_matchElement 119 = .ok (.bipush 10, 2) := by decide +kernel
theorem dX1_matchElement_121 : decode cX1_matchElement 121 = .ok (.irem, 1) := by decide +kernel
theorem dX1_matchElement_122 : decode cX1_matchElement 122 = .ok (.istore 14, 2) := by decide +kernel
theorem dX1_matchElement_124 : decode cX1_matchElement 124 = .ok (.iload 14, 2) := by decide +kernel
theorem dX1_matchElement_126 : decode cX1_matchElement 126 = .ok (.iconst 5, 1) := by decide +kernel
theorem dX1_matchElement_127 : decode cX1_matchElement 127 = .ok (.if_icmp .eq 17, 3) := by decide +kernel
theorem dX1_matchElement_130 : decode cX1_matchElement 130 = .ok (.iload 14, 2) := by decide +kernel
theorem dX1_matchElement_132 : decode cX1_matchElement 132 = .ok (.aload_n 1, 1) := by decide +kernel
theorem dX1_matchElement_133 : decode cX1_matchElement 133 = .ok (.getfield 65, 3) := by decide +kernel
theorem dX1_matchElement_136 : decode cX1_matchElement 136 = .ok (.iload_n 2, 1) := by decide +kernel
theorem dX1_matchElement_137 : decode cX1_matchElement 137 = .ok (.iaload, 1) := by decide +kernel
theorem dX1_matchElement_138 : decode cX1_matchElement 138 = .ok (.if_icmp .eq 6, 3) := by decide +kernel
theorem dX1_matchElement_141 : decode cX1_matchElement 141 = .ok (.goto 158, 3) := by decide +kernel
theorem dX1_matchElement_144 : decode cX1_matchElement 144 = .ok (.iload 13, 2) := by decide +kernel
theorem dX1_matchElement_146 : decode cX1_matchElement 146 = .ok (.sipush 1000, 3) := by decide +kernel
theorem dX1_matchElement_149 : decode cX1_matchElement 149 = .ok (.if_icmp .lt 7, 3) := by decide +kernel
theorem dX1_matchElement_152 : decode cX1_matchElement 152 = .ok (.iconst 1, 1) := by decide +kernel
theorem dX1_matchElement_153 : decode cX1_matchElement 153 = .ok (.goto 4, 3) := by decide +kernel
theorem dX1_matchElement_156 : decode cX1_matchElement 156 = .ok (.iconst 0, 1) := by decide +kernel
theorem dX1_matchElement_157 : decode cX1_matchElement 157 = .ok (.istore 15, 2) := by decide +kernel
theorem dX1_matchElement_159 : decode cX1_matchElement 159 = .ok (.iload 9, 2) := by decide +kernel
theorem dX1_matchElement_161 : decode cX1_matchElement 161 = .ok (.iload 13, 2) := by decide +kernel
theorem dX1_matchElement_163 : decode cX1_matchElement 163 = .ok (.bipush 100, 2) := by decide +kernel
theorem dX1_matchElement_165 : decode cX1_matchElement 165 = .ok (.irem, 1) := by decide +kernel
theorem dX1_matchElement_166 : decode cX1_matchElement 166 = .ok (.ishr, 1) := by decide +kernel
theorem dX1_matchElement_167 : decode cX1_matchElement 167 = .ok (.iconst 1, 1) := by decide +kernel
theorem dX1_matchElement_168 : decode cX1_matchElement 168 = .ok (.iand, 1) := by decide +kernel
theorem dX1_matchElement_169 : decode cX1_matchElement 169 = .ok (.ifCond .eq 7, 3) := by decide +kernel
theorem dX1_matchElement_172 : decode cX1_matchElement 172 = .ok (.iconst 1, 1) := by decide +kernel
theorem dX1_matchElement_173 : decode cX1_matchElement 173 = .ok (.goto 4, 3) := by decide +kernel
theorem dX1_matchElement_176 : decode cX1_matchElement 176 = .ok (.iconst 0, 1) := by decide +kernel
theorem dX1_matchElement_177 : decode cX1_matchElement 177 = .ok (.istore 16, 2) := by decide +kernel
theorem dX1_matchElement_179 : decode cX1_matchElement 179 = .ok (.iload 12, 2) := by decide +kernel
theorem dX1_matchElement_181 : decode cX1_matchElement 181 = .ok (.ifCond .ne 16, 3) := by decide +kernel
theorem dX1_matchElement_184 : decode cX1_matchElement 184 = .ok (.iload 15, 2) := by decide +kernel
theorem dX1_matchElement_186 : decode cX1_matchElement 186 = .ok (.ifCond .ne 7, 3) := by decide +kernel
theorem dX1_matchElement_189 : decode cX1_matchElement 189 = .ok (.iload_n 2, 1) := by decide +kernel
theorem dX1_matchElement_190 : decode cX1_matchElement 190 = .ok (.ifCond .ne 7, 3) := by decide +kernel
theorem dX1_matchElement_193 : decode cX1_matchElement 193 = .ok (.iconst 1, 1) := by decide +kernel
theorem dX1_matchElement_194 : decode cX1_matchElement 194 = .ok (.goto 4, 3) := by decide +kernel
theorem dX1_matchElement_197 : decode cX1_matchElement 197 = .ok (.iconst 0, 1) := by decide +kernel
theorem dX1_matchElement_198 : decode cX1_matchElement 198 = .ok (.istore 17, 2) := by decide +kernel
theorem dX1_matchElement_200 : decode cX1_matchElement 200 = .ok (.iload 15, 2) := by decide +kernel
theorem dX1_matchElement_202 : decode cX1_matchElement 202 = .ok (.ifCond .eq 12, 3) := by decide +kernel
theorem dX1_matchElement_205 : decode cX1_matchElement 205 = .ok (.aload_n 0, 1) := by decide +kernel
theorem dX1_matchElement_206 : decode cX1_matchElement 206 = .ok (.getfield 18, 3) := by decide +kernel
theorem dX1_matchElement_209 : decode cX1_matchElement 209 = .ok (.iload_n 2, 1) := by decide +kernel
theorem dX1_matchElement_210 : decode cX1_matchElement 210 = .ok (.iaload, 1) := by decide +kernel
theorem dX1_matchElement_211 : decode cX1_matchElement 211 = .ok (.goto 5, 3) := by decide +kernel
theorem dX1_matchElement_214 : decode cX1_matchElement 214 = .ok (.iload 6, 2) := by decide +kernel
theorem dX1_matchElement_216 : decode cX1_matchElement 216 = .ok (.istore 18, 2) := by decide +kernel
theorem dX1_matchElement_218 : decode cX1_matchElement 218 = .ok (.iload 15, 2) := by decide +kernel
theorem dX1_matchElement_220 : decode cX1_matchElement 220 = .ok (.ifCond .eq 12, 3) := by decide +kernel
theorem dX1_matchElement_223 : decode cX1_matchElement 223 = .ok (.aload_n 0, 1) := by decide +kernel
theorem dX1_matchElement_224 : decode cX1_matchElement 224 = .ok (.getfield 21, 3) := by decide +kernel
theorem dX1_matchElement_227 : decode cX1_matchElement 227 = .ok (.iload_n 2, 1) := by decide +kernel
theorem dX1_matchElement_228 : decode cX1_matchElement 228 = .ok (.iaload, 1) := by decide +kernel
theorem dX1_matchElement_229 : decode cX1_matchElement 229 = .ok (.goto 5, 3) := by decide +kernel
theorem dX1_matchElement_232 : decode cX1_matchElement 232 = .ok (.iload 7, 2) := by decide +kernel
theorem dX1_matchElement_234 : decode cX1_matchElement 234 = .ok (.istore 19, 2) := by decide +kernel
theorem dX1_matchElement_236 : decode cX1_matchElement 236 = .ok (.iload 16, 2) := by decide +kernel
theorem dX1_matchElement_238 : decode cX1_matchElement 238 = .ok (.ifCond .eq 27, 3) := by decide +kernel
theorem dX1_matchElement_241 : decode cX1_matchElement 241 = .ok (.iload 17, 2) := by decide +kernel
theorem dX1_matchElement_243 : decode cX1_matchElement 243 = .ok (.ifCond .ne 13, 3) := by decide +kernel
theorem dX1_matchElement_246 : decode cX1_matchElement 246 = .ok (.iload 18, 2) := by decide +kernel
theorem dX1_matchElement_248 : decode cX1_matchElement 248 = .ok (.iload 12, 2) := by decide +kernel
theorem dX1_matchElement_250 : decode cX1_matchElement 250 = .ok (.invokestatic 68, 3) := by decide +kernel
theorem dX1_matchElement_253 : decode cX1_matchElement 253 = .ok (.ifCond .eq 12, 3) := by decide +kernel
theorem dX1_matchElement_256 : decode cX1_matchElement 256 = .ok (.iload 10, 2) := by decide +kernel
theorem dX1_matchElement_258 : decode cX1_matchElement 258 = .ok (.iconst 1, 1) := by decide +kernel
theorem dX1_matchElement_259 : decode cX1_matchElement 259 = .ok (.iload 12, 2) := by decide +kernel
theorem dX1_matchElement_261 : decode cX1_matchElement 261 = .ok (.ishl, 1) := by decide +kernel
theorem dX1_matchElement_262 : decode cX1_matchElement 262 = .ok (.ior, 1) := by decide +kernel
theorem dX1_matchElement_263 : decode cX1_matchElement 263 = .ok (.istore 10, 2) := by decide +kernel
theorem dX1_matchElement_265 : decode cX1_matchElement 265 = .ok (.iload 16, 2) := by decide +kernel
theorem dX1_matchElement_267 : decode cX1_matchElement 267 = .ok (.ifCond .ne 8, 3) := by decide +kernel
theorem dX1_matchElement_270 : decode cX1_matchElement 270 = .ok (.iload 8, 2) := by decide +kernel
theorem dX1_matchElement_272 : decode cX1_matchElement 272 = .ok (.ifCond .eq 27, 3) := by decide +kernel
theorem dX1_matchElement_275 : decode cX1_matchElement 275 = .ok (.iload 17, 2) := by decide +kernel
theorem dX1_matchElement_277 : decode cX1_matchElement 277 = .ok (.ifCond .ne 13, 3) := by decide +kernel
theorem dX1_matchElement_280 : decode cX1_matchElement 280 = .ok (.iload 19, 2) := by decide +kernel
theorem dX1_matchElement_282 : decode cX1_matchElement 282 = .ok (.iload 12, 2) := by decide +kernel
theorem dX1_matchElement_284 : decode cX1_matchElement 284 = .ok (.invokestatic 68, 3) := by decide +kernel
theorem dX1_matchElement_287 : decode cX1_matchElement 287 = .ok (.ifCond .eq 12, 3) := by decide +kernel
theorem dX1_matchElement_290 : decode cX1_matchElement 290 = .ok (.iload 11, 2) := by decide +kernel
theorem dX1_matchElement_292 : decode cX1_matchElement 292 = .ok (.iconst 1, 1) := by decide +kernel
theorem dX1_matchElement_293 : decode cX1_matchElement 293 = .ok (.iload 12, 2) := by decide +kernel
theorem dX1_matchElement_295 : decode cX1_matchElement 295 = .ok (.ishl, 1) := by decide +kernel
theorem dX1_matchElement_296 : decode cX1_matchElement 296 = .ok (.ior, 1) := by decide +kernel
theorem dX1_matchElement_297 : decode cX1_matchElement 297 = .ok (.istore 11, 2) := by decide +kernel
theorem dX1_matchElement_299 : decode cX1_matchElement 299 = .ok (.iinc 12 1, 3) := by decide +kernel
theorem dX1_matchElement_302 : decode cX1_matchElement 302 = .ok (.goto (-206), 3) := by decide +kernel
theorem dX1_matchElement_305 : decode cX1_matchElement 305 = .ok (.aload_n 0, 1) := by decide +kernel
theorem dX1_matchElement_306 : decode cX1_matchElement 306 = .ok (.getfield 9, 3) := by decide +kernel
theorem dX1_matchElement_309 : decode cX1_matchElement 309 = .ok (.iload_n 2, 1) := by decide +kernel
theorem dX1_matchElement_310 : decode cX1_matchElement 310 = .ok (.iload 10, 2) := by decide +kernel
theorem dX1_matchElement_312 : decode cX1_matchElement 312 = .ok (.iastore, 1) := by decide +kernel
theorem dX1_matchElement_313 : decode cX1_matchElement 313 = .ok (.aload_n 0, 1) := by decide +kernel
theorem dX1_matchElement_314 : decode cX1_matchElement 314 = .ok (.getfield 15, 3) := by decide +kernel
theorem dX1_matchElement_317 : decode cX1_matchElement 317 = .ok (.iload_n 2, 1) := by decide +kernel
theorem dX1_matchElement_318 : decode cX1_matchElement 318 = .ok (.iload 11, 2) := by decide +kernel
theorem dX1_matchElement_320 : decode cX1_matchElement 320 = .ok (.iastore, 1) := by decide +kernel
theorem dX1_matchElement_321 : decode cX1_matchElement 321 = .ok (.return_, 1) := by decide +kernel
theorem dX1_hasPrefix_0 : decode cX1_hasPrefix 0 = .ok (.iload_n 1, 1) := by decide +kernel
theorem dX1_hasPrefix_1 : decode cX1_hasPrefix 1 = .ok (.ifCond .le 17, 3) := by decide +kernel
theorem dX1_hasPrefix_4 : decode cX1_hasPrefix 4 = .ok (.iload_n 0, 1) := by decide +kernel
theorem dX1_hasPrefix_5 : decode cX1_hasPrefix 5 = .ok (.iload_n 1, 1) := by decide +kernel
theorem dX1_hasPrefix_6 : decode cX1_hasPrefix 6 = .ok (.iconst 1, 1) := by decide +kernel
theorem dX1_hasPrefix_7 : decode cX1_hasPrefix 7 = .ok (.isub, 1) := by decide +kernel
theorem dX1_hasPrefix_8 : decode cX1_hasPrefix 8 = .ok (.ishr, 1) := by decide +kernel
theorem dX1_hasPrefix_9 : decode cX1_hasPrefix 9 = .ok (.iconst 1, 1) := by decide +kernel
theorem dX1_hasPrefix_10 : decode cX1_hasPrefix 10 = .ok (.iand, 1) := by decide +kernel
theorem dX1_hasPrefix_11 : decode cX1_hasPrefix 11 = .ok (.ifCond .eq 7, 3) := by decide +kernel
theorem dX1_hasPrefix_14 : decode cX1_hasPrefix 14 = .ok (.iconst 1, 1) := by decide +kernel
theorem dX1_hasPrefix_15 : decode cX1_hasPrefix 15 = .ok (.goto 4, 3) := by decide +kernel
theorem dX1_hasPrefix_18 : decode cX1_hasPrefix 18 = .ok (.iconst 0, 1) := by decide +kernel
theorem dX1_hasPrefix_19 : decode cX1_hasPrefix 19 = .ok (.ireturn, 1) := by decide +kernel
theorem dX1_note_0 : decode cX1_note 0 = .ok (.aload_n 0, 1) := by decide +kernel
theorem dX1_note_1 : decode cX1_note 1 = .ok (.getfield 9, 3) := by decide +kernel
theorem dX1_note_4 : decode cX1_note 4 = .ok (.iload_n 1, 1) := by decide +kernel
theorem dX1_note_5 : decode cX1_note 5 = .ok (.iaload, 1) := by decide +kernel
theorem dX1_note_6 : decode cX1_note 6 = .ok (.iload_n 2, 1) := by decide +kernel
theorem dX1_note_7 : decode cX1_note 7 = .ok (.invokestatic 68, 3) := by decide +kernel
theorem dX1_note_10 : decode cX1_note 10 = .ok (.ifCond .eq 18, 3) := by decide +kernel
theorem dX1_note_13 : decode cX1_note 13 = .ok (.aload_n 0, 1) := by decide +kernel
theorem dX1_note_14 : decode cX1_note 14 = .ok (.dup, 1) := by decide +kernel
theorem dX1_note_15 : decode cX1_note 15 = .ok (.getfield 24, 3) := by decide +kernel
theorem dX1_note_18 : decode cX1_note 18 = .ok (.iconst 1, 1) := by decide +kernel
theorem dX1_note_19 : decode cX1_note 19 = .ok (.iload_n 1, 1) := by decide +kernel
theorem dX1_note_20 : decode cX1_note 20 = .ok (.ishl, 1) := by decide +kernel
theorem dX1_note_21 : decode cX1_note 21 = .ok (.ior, 1) := by decide +kernel
theorem dX1_note_22 : decode cX1_note 22 = .ok (.putfield 24, 3) := by decide +kernel
theorem dX1_note_25 : decode cX1_note 25 = .ok (.goto 28, 3) := by decide +kernel
theorem dX1_note_28 : decode cX1_note 28 = .ok (.aload_n 0, 1) := by decide +kernel
theorem dX1_note_29 : decode cX1_note 29 = .ok (.getfield 15, 3) := by decide +kernel
theorem dX1_note_32 : decode cX1_note 32 = .ok (.iload_n 1, 1) := by decide +kernel
theorem dX1_note_33 : decode cX1_note 33 = .ok (.iaload, 1) := by decide +kernel
theorem dX1_note_34 : decode cX1_note 34 = .ok (.iload_n 2, 1) := by decide +kernel
theorem dX1_note_35 : decode cX1_note 35 = .ok (.invokestatic 68, 3) := by decide +kernel
theorem dX1_note_38 : decode cX1_note 38 = .ok (.ifCond .eq 15, 3) := by decide +kernel
theorem dX1_note_41 : decode cX1_note 41 = .ok (.aload_n 0, 1) := by decide +kernel
theorem dX1_note_42 : decode cX1_note 42 = .ok (.dup, 1) := by decide +kernel
theorem dX1_note_43 : decode cX1_note 43 = .ok (.getfield 28, 3) := by decide +kernel
theorem dX1_note_46 : decode cX1_note 46 = .ok (.iconst 1, 1) := by decide +kernel
theorem dX1_note_47 : decode cX1_note 47 = .ok (.iload_n 1, 1) := by decide +kernel
theorem dX1_note_48 : decode cX1_note 48 = .ok (.ishl, 1) := by decide +kernel
theorem dX1_note_49 : decode cX1_note 49 = .ok (.ior, 1) := by decide +kernel
theorem dX1_note_50 : decode cX1_note 50 = .ok (.putfield 28, 3) := by decide +kernel
theorem dX1_note_53 : decode cX1_note 53 = .ok (.return_, 1) := by decide +kernel
theorem dX2_init_0 : decode cX2_init 0 = .ok (.aload_n 0, 1) := by decide +kernel
theorem dX2_init_1 : decode cX2_init 1 = .ok (.invokespecial 3, 3) := by decide +kernel
theorem dX2_init_4 : decode cX2_init 4 = .ok (.aload_n 0, 1) := by decide +kernel
theorem dX2_init_5 : decode cX2_init 5 = .ok (.iconst 4, 1) := by decide +kernel
theorem dX2_init_6 : decode cX2_init 6 = .ok (.newarray .int, 2) := by decide +kernel
theorem dX2_init_8 : decode cX2_init 8 = .ok (.putfield 9, 3) := by decide +kernel
theorem dX2_init_11 : decode cX2_init 11 = .ok (.aload_n 0, 1) := by decide +kernel
theorem dX2_init_12 : decode cX2_init 12 = .ok (.bipush 20, 2) := by decide +kernel
theorem dX2_init_14 : decode cX2_init 14 = .ok (.newarray .int, 2) := by decide +kernel
theorem dX2_init_16 : decode cX2_init 16 = .ok (.putfield 15, 3) := by decide +kernel
theorem dX2_init_19 : decode cX2_init 19 = .ok (.aload_n 0, 1) := by decide +kernel
theorem dX2_init_20 : decode cX2_init 20 = .ok (.bipush 20, 2) := by decide +kernel
theorem dX2_init_22 : decode cX2_init 22 = .ok (.newarray .int, 2) := by decide +kernel
theorem dX2_init_24 : decode cX2_init 24 = .ok (.putfield 18, 3) := by decide +kernel
theorem dX2_init_27 : decode cX2_init 27 = .ok (.return_, 1) := by decide +kernel
theorem dX2_begin_0 : decode cX2_begin 0 = .ok (.aload_n 0, 1) := by decide +kernel
theorem dX2_begin_1 : decode cX2_begin 1 = .ok (.iconst 0, 1) := by decide +kernel
theorem dX2_begin_2 : decode cX2_begin 2 = .ok (.iload_n 2, 1) := by decide +kernel
theorem dX2_begin_3 : decode cX2_begin 3 = .ok (.aload_n 1, 1) := by decide +kernel
theorem dX2_begin_4 : decode cX2_begin 4 = .ok (.arraylength, 1) := by decide +kernel
theorem dX2_begin_5 : decode cX2_begin 5 = .ok (.iconst 4, 1) := by decide +kernel
theorem dX2_begin_6 : decode cX2_begin 6 = .ok (.invokestatic 21, 3) := by decide +kernel
theorem dX2_begin_9 : decode cX2_begin 9 = .ok (.invokestatic 21, 3) := by decide +kernel
theorem dX2_begin_12 : decode cX2_begin 12 = .ok (.invokestatic 27, 3) := by decide +kernel
theorem dX2_begin_15 : decode cX2_begin 15 = .ok (.putfield 30, 3) := by decide +kernel
theorem dX2_begin_18 : decode cX2_begin 18 = .ok (.aload_n 1, 1) := by decide +kernel
theorem dX2_begin_19 : decode cX2_begin 19 = .ok (.iconst 0, 1) := by decide +kernel
theorem dX2_begin_20 : decode cX2_begin 20 = .ok (.aload_n 0, 1) := by decide +kernel
theorem dX2_begin_21 : decode cX2_begin 21 = .ok (.getfield 9, 3) := by decide +kernel
theorem dX2_begin_24 : decode cX2_begin 24 = .ok (.iconst 0, 1) := by decide +kernel
theorem dX2_begin_25 : decode cX2_begin 25 = .ok (.aload_n 0, 1) := by decide +kernel
theorem dX2_begin_26 : decode cX2_begin 26 = .ok (.getfield 30, 3) := by decide +kernel
theorem dX2_begin_29 : decode cX2_begin 29 = .ok (.invokestatic 34, 3) := by decide +kernel
theorem dX2_begin_32 : decode cX2_begin 32 = .ok (.aload_n 0, 1) := by decide +kernel
theorem dX2_begin_33 : decode cX2_begin 33 = .ok (.iconst 0, 1) := by decide +kernel
theorem dX2_begin_34 : decode cX2_begin 34 = .ok (.putfield 40, 3) := by decide +kernel
theorem dX2_begin_37 : decode cX2_begin 37 = .ok (.aload_n 0, 1) := by decide +kernel
theorem dX2_begin_38 : decode cX2_begin 38 = .ok (.iconst 0, 1) := by decide +kernel
theorem dX2_begin_39 : decode cX2_begin 39 = .ok (.putfield 43, 3) := by decide +kernel
theorem dX2_begin_42 : decode cX2_begin 42 = .ok (.aload_n 0, 1) := by decide +kernel
theorem dX2_begin_43 : decode cX2_begin 43 = .ok (.iconst 0, 1) := by decide +kernel
theorem dX2_begin_44 : decode cX2_begin 44 = .ok (.putfield 46, 3) := by decide +kernel
theorem dX2_begin_47 : decode cX2_begin 47 = .ok (.return_, 1) := by decide +kernel
theorem dX2_copyFrom_0 : decode cX2_copyFrom 0 = .ok (.aload_n 1, 1) := by decide +kernel
theorem dX2_copyFrom_1 : decode cX2_copyFrom 1 = .ok (.getfield 9, 3) := by decide +kernel
theorem dX2_copyFrom_4 : decode cX2_copyFrom 4 = .ok (.iconst 0, 1) := by decide +kernel
theorem dX2_copyFrom_5 : decode cX2_copyFrom 5 = .ok (.aload_n 0, 1) := by decide +kernel
theorem dX2_copyFrom_6 : decode cX2_copyFrom 6 = .ok (.getfield 9, 3) := by decide +kernel
theorem dX2_copyFrom_9 : decode cX2_copyFrom 9 = .ok (.iconst 0, 1) := by decide +kernel
theorem dX2_copyFrom_10 : decode cX2_copyFrom 10 = .ok (.aload_n 1, 1) := by decide +kernel
theorem dX2_copyFrom_11 : decode cX2_copyFrom 11 = .ok (.getfield 30, 3) := by decide +kernel
theorem dX2_copyFrom_14 : decode cX2_copyFrom 14 = .ok (.invokestatic 34, 3) := by decide +kernel
theorem dX2_copyFrom_17 : decode cX2_copyFrom 17 = .ok (.aload_n 1, 1) := by decide +kernel
theorem dX2_copyFrom_18 : decode cX2_copyFrom 18 = .ok (.getfield 15, 3) := by decide +kernel
theorem dX2_copyFrom_21 : decode cX2_copyFrom 21 = .ok (.iconst 0, 1) := by decide +kernel
theorem dX2_copyFrom_22 : decode cX2_copyFrom 22 = .ok (.aload_n 0, 1) := by decide +kernel
theorem dX2_copyFrom_23 : decode cX2_copyFrom 23 = .ok (.getfield 15, 3) := by decide +kernel
theorem dX2_copyFrom_26 : decode cX2_copyFrom 26 = .ok (.iconst 0, 1) := by decide +kernel
theorem dX2_copyFrom_27 : decode cX2_copyFrom 27 = .ok (.aload_n 1, 1) := by decide +kernel
theorem dX2_copyFrom_28 : decode cX2_copyFrom 28 = .ok (.getfield 40, 3) := by decide +kernel
theorem dX2_copyFrom_31 : decode cX2_copyFrom 31 = .ok (.invokestatic 34, 3) := by decide +kernel
theorem dX2_copyFrom_34 : decode cX2_copyFrom 34 = .ok (.aload_n 1, 1) := by decide +kernel
theorem dX2_copyFrom_35 : decode cX2_copyFrom 35 = .ok (.getfield 18, 3) := by decide +kernel
theorem dX2_copyFrom_38 : decode cX2_copyFrom 38 = .ok (.iconst 0, 1) := by decide +kernel
theorem dX2_copyFrom_39 : decode cX2_copyFrom 39 = .ok (.aload_n 0, 1) := by decide +kernel
theorem dX2_copyFrom_40 : decode cX2_copyFrom 40 = .ok (.getfield 18, 3) := by decide +kernel
theorem dX2_copyFrom_43 : decode cX2_copyFrom 43 = .ok (.iconst 0, 1) := by decide +kernel
theorem dX2_copyFrom_44 : decode cX2_copyFrom 44 = .ok (.aload_n 1, 1) := by decide +kernel
theorem dX2_copyFrom_45 : decode cX2_copyFrom 45 = .ok (.getfield 40, 3) := by decide +kernel
theorem dX2_copyFrom_48 : decode cX2_copyFrom 48 = .ok (.invokestatic 34, 3) := by decide +kernel
theorem dX2_copyFrom_51 : decode cX2_copyFrom 51 = .ok (.aload_n 0, 1) := by decide +kernel
theorem dX2_copyFrom_52 : decode cX2_copyFrom 52 = .ok (.aload_n 1, 1) := by decide +kernel
theorem dX2_copyFrom_53 : decode cX2_copyFrom 53 = .ok (.getfield 30, 3) := by decide +kernel
theorem dX2_copyFrom_56 : decode cX2_copyFrom 56 = .ok (.putfield 30, 3) := by decide +kernel
theorem dX2_copyFrom_59 : decode cX2_copyFrom 59 = .ok (.aload_n 0, 1) := by decide +kernel
theorem dX2_copyFrom_60 : decode cX2_copyFrom 60 = .ok (.aload_n 1, 1) := by decide +kernel
theorem dX2_copyFrom_61 : decode cX2_copyFrom 61 = .ok (.getfield 40, 3) := by decide +kernel
theorem dX2_copyFrom_64 : decode cX2_copyFrom 64 = .ok (.putfield 40, 3) := by decide +kernel
theorem dX2_copyFrom_67 : decode cX2_copyFrom 67 = .ok (.aload_n 0, 1) := by decide +kernel
theorem dX2_copyFrom_68 : decode cX2_copyFrom 68 = .ok (.aload_n 1, 1) := by decide +kernel
theorem dX2_copyFrom_69 : decode cX2_copyFrom 69 = .ok (.getfield 43, 3) := by decide +kernel
theorem dX2_copyFrom_72 : decode cX2_copyFrom 72 = .ok (.putfield 43, 3) := by decide +kernel
theorem dX2_copyFrom_75 : decode cX2_copyFrom 75 = .ok (.aload_n 0, 1) := by decide +kernel
theorem dX2_copyFrom_76 : decode cX2_copyFrom 76 = .ok (.aload_n 1, 1) := by decide +kernel
theorem dX2_copyFrom_77 : decode cX2_copyFrom 77 = .ok (.getfield 46, 3) := by decide +kernel
theorem dX2_copyFrom_80 : decode cX2_copyFrom 80 = .ok (.putfield 46, 3) := by decide +kernel
theorem dX2_copyFrom_83 : decode cX2_copyFrom 83 = .ok (.return_, 1) := by decide +kernel
theorem dX2_setLastTest_0 : decode cX2_setLastTest 0 = .ok (.aload_n 0, 1) := by decide +kernel
theorem dX2_setLastTest_1 : decode cX2_setLastTest 1 = .ok (.getfield 30, 3) := by decide +kernel
theorem dX2_setLastTest_4 : decode cX2_setLastTest 4 = .ok (.ifCond .le 43, 3) := by decide +kernel
theorem dX2_setLastTest_7 : decode cX2_setLastTest 7 = .ok (.aload_n 0, 1) := by decide +kernel
theorem dX2_setLastTest_8 : decode cX2_setLastTest 8 = .ok (.getfield 9, 3) := by decide +kernel
theorem dX2_setLastTest_11 : decode cX2_setLastTest 11 = .ok (.aload_n 0, 1) := by decide +kernel
theorem dX2_setLastTest_12 : decode cX2_setLastTest 12 = .ok (.getfield 30, 3) := by decide +kernel
theorem dX2_setLastTest_15 : decode cX2_setLastTest 15 = .ok (.iconst 1, 1) := by decide +kernel
theorem dX2_setLastTest_16 : decode cX2_setLastTest 16 = .ok (.isub, 1) := by decide +kernel
theorem dX2_setLastTest_17 : decode cX2_setLastTest 17 = .ok (.iaload, 1) := by decide +kernel
theorem dX2_setLastTest_18 : decode cX2_setLastTest 18 = .ok (.istore_n 2, 1) := by decide +kernel
theorem dX2_setLastTest_19 : decode cX2_setLastTest 19 = .ok (.aload_n 0, 1) := by decide +kernel
theorem dX2_setLastTest_20 : decode cX2_setLastTest 20 = .ok (.getfield 9, 3) := by decide +kernel
theorem dX2_setLastTest_23 : decode cX2_setLastTest 23 = .ok (.aload_n 0, 1) := by decide +kernel
theorem dX2_setLastTest_24 : decode cX2_setLastTest 24 = .ok (.getfield 30, 3) := by decide +kernel
theorem dX2_setLastTest_27 : decode cX2_setLastTest 27 = .ok (.iconst 1, 1) := by decide +kernel
theorem dX2_setLastTest_28 : decode cX2_setLastTest 28 = .ok (.isub, 1) := by decide +kernel
theorem dX2_setLastTest_29 : decode cX2_setLastTest 29 = .ok (.iload_n 2, 1) := by decide +kernel
theorem dX2_setLastTest_30 : decode cX2_setLastTest 30 = .ok (.iload_n 2, 1) := by decide +kernel
theorem dX2_setLastTest_31 : decode cX2_setLastTest 31 = .ok (.bipush 100, 2) := by decide +kernel
theorem dX2_setLastTest_33 : decode cX2_setLastTest 33 = .ok (.idiv, 1) := by decide +kernel
theorem dX2_setLastTest_34 : decode cX2_setLastTest 34 = .ok (.bipush 10, 2) := by decide +kernel
theorem dX2_setLastTest_36 : decode cX2_setLastTest 36 = .ok (.irem, 1) := by decide +kernel
theorem dX2_setLastTest_37 : decode cX2_setLastTest 37 = .ok (.bipush 100, 2) := by decide +kernel
theorem dX2_setLastTest_39 : decode cX2_setLastTest 39 = .ok (.imul, 1) := by decide +kernel
theorem dX2_setLastTest_40 : decode cX2_setLastTest 40 = .ok (.isub, 1) := by decide +kernel
theorem dX2_setLastTest_41 : decode cX2_setLastTest 41 = .ok (.iload_n 1, 1) := by decide +kernel
theorem dX2_setLastTest_42 : decode cX2_setLastTest 42 = .ok (.bipush 100, 2) := by decide +kernel
theorem dX2_setLastTest_44 : decode cX2_setLastTest 44 = .ok (.imul, 1) := by decide +kernel
theorem dX2_setLastTest_45 : decode cX2_setLastTest 45 = .ok (.iadd, 1) := by decide +kernel
theorem dX2_setLastTest_46 : decode cX2_setLastTest 46 = .ok (.iastore, 1) := by decide +kernel
theorem dX2_setLastTest_47 : decode cX2_setLastTest 47 = .ok (.return_, 1) := by decide +kernel
theorem dX2_beginsLike_0 : decode cX2_beginsLike 0 = .ok (.aload_n 0, 1) := by decide +kernel
theorem dX2_beginsLike_1 : decode cX2_beginsLike 1 = .ok (.getfield 30, 3) := by decide +kernel
theorem dX2_beginsLike_4 : decode cX2_beginsLike 4 = .ok (.iload_n 2, 1) := by decide +kernel
theorem dX2_beginsLike_5 : decode cX2_beginsLike 5 = .ok (.if_icmp .lt 11, 3) := by decide +kernel
theorem dX2_beginsLike_8 : decode cX2_beginsLike 8 = .ok (.aload_n 1, 1) := by decide +kernel
theorem dX2_beginsLike_9 : decode cX2_beginsLike 9 = .ok (.getfield 30, 3) := by decide +kernel
theorem dX2_beginsLike_12 : decode cX2_beginsLike 12 = .ok (.iload_n 2, 1) := by decide +kernel
theorem dX2_beginsLike_13 : decode cX2_beginsLike 13 = .ok (.if_icmp .ge 5, 3) := by decide +kernel
theorem dX2_beginsLike_16 : decode cX2_beginsLike 16 = .ok (.iconst 0, 1) := by decide +kernel
theorem dX2_beginsLike_17 : decode cX2_beginsLike 17 = .ok (.ireturn, 1) := by decide +kernel
theorem dX2_beginsLike_18 : decode cX2_beginsLike 18 = .ok (.iconst 0, 1) := by decide +kernel
theorem dX2_beginsLike_19 : decode cX2_beginsLike 19 = .ok (.istore_n 3, 1) := by decide +kernel
theorem dX2_beginsLike_20 : decode cX2_beginsLike 20 = .ok (.iload_n 3, 1) := by decide +kernel
theorem dX2_beginsLike_21 : decode cX2_beginsLike 21 = .ok (.iload_n 2, 1) := by decide +kernel
theorem dX2_beginsLike_22 : decode cX2_beginsLike 22 = .ok (.if_icmp .ge 26, 3) := by decide +kernel
theorem dX2_beginsLike_25 : decode cX2_beginsLike 25 = .ok (.aload_n 0, 1) := by decide +kernel
theorem dX2_beginsLike_26 : decode cX2_beginsLike 26 = .ok (.getfield 9, 3) := by decide +kernel
theorem dX2_beginsLike_29 : decode cX2_beginsLike 29 = .ok (.iload_n 3, 1) := by decide +kernel
theorem dX2_beginsLike_30 : decode cX2_beginsLike 30 = .ok (.iaload, 1) := by decide +kernel
theorem dX2_beginsLike_31 : decode cX2_beginsLike 31 = .ok (.aload_n 1, 1) := by decide +kernel
theorem dX2_beginsLike_32 : decode cX2_beginsLike 32 = .ok (.getfield 9, 3) := by decide +kernel
theorem dX2_beginsLike_35 : decode cX2_beginsLike 35 = .ok (.iload_n 3, 1) := by decide +kernel
theorem dX2_beginsLike_36 : decode cX2_beginsLike 36 = .ok (.iaload, 1) := by decide +kernel
theorem dX2_beginsLike_37 : decode cX2_beginsLike 37 = .ok (.if_icmp .eq 5, 3) := by decide +kernel
theorem dX2_beginsLike_40 : decode cX2_beginsLike 40 = .ok (.iconst 0, 1) := by decide +kernel
theorem dX2_beginsLike_41 : decode cX2_beginsLike 41 = .ok (.ireturn, 1) := by decide +kernel
theorem dX2_beginsLike_42 : decode cX2_beginsLike 42 = .ok (.iinc 3 1, 3) := by decide +kernel
theorem dX2_beginsLike_45 : decode cX2_beginsLike 45 = .ok (.goto (-25), 3) := by decide +kernel
theorem dX2_beginsLike_48 : decode cX2_beginsLike 48 = .ok (.iconst 1, 1) := by decide +kernel
theorem dX2_beginsLike_49 : decode cX2_beginsLike 49 = .ok (.ireturn, 1) := by decide +kernel
theorem dX2_bufferSize_0 : decode cX2_bufferSize 0 = .ok (.aload_n 1, 1) := by decide +kernel
theorem dX2_bufferSize_1 : decode cX2_bufferSize 1 = .ok (.getfield 49, 3) := by decide +kernel
theorem dX2_bufferSize_4 : decode cX2_bufferSize 4 = .ok (.aload_n 1, 1) := by decide +kernel
theorem dX2_bufferSize_5 : decode cX2_bufferSize 5 = .ok (.getfield 54, 3) := by decide +kernel
theorem dX2_bufferSize_8 : decode cX2_bufferSize 8 = .ok (.aload_n 0, 1) := by decide +kernel
theorem dX2_bufferSize_9 : decode cX2_bufferSize 9 = .ok (.getfield 43, 3) := by decide +kernel
theorem dX2_bufferSize_12 : decode cX2_bufferSize 12 = .ok (.iconst (-1), 1) := by decide +kernel
theorem dX2_bufferSize_13 : decode cX2_bufferSize 13 = .ok (.ixor, 1) := by decide +kernel
theorem dX2_bufferSize_14 : decode cX2_bufferSize 14 = .ok (.iand, 1) := by decide +kernel
theorem dX2_bufferSize_15 : decode cX2_bufferSize 15 = .ok (.ior, 1) := by decide +kernel
theorem dX2_bufferSize_16 : decode cX2_bufferSize 16 = .ok (.invokestatic 57, 3) := by decide +kernel
theorem dX2_bufferSize_19 : decode cX2_bufferSize 19 = .ok (.ireturn, 1) := by decide +kernel
theorem dX2_emit_0 : decode cX2_emit 0 = .ok (.aload_n 1, 1) := by decide +kernel
theorem dX2_emit_1 : decode cX2_emit 1 = .ok (.getfield 49, 3) := by decide +kernel
theorem dX2_emit_4 : decode cX2_emit 4 = .ok (.aload_n 1, 1) := by decide +kernel
theorem dX2_emit_5 : decode cX2_emit 5 = .ok (.getfield 49, 3) := by decide +kernel
theorem dX2_emit_8 : decode cX2_emit 8 = .ok (.ineg, 1) := by decide +kernel
theorem dX2_emit_9 : decode cX2_emit 9 = .ok (.iand, 1) := by decide +kernel
theorem dX2_emit_10 : decode cX2_emit 10 = .ok (.istore_n 3, 1) := by decide +kernel
theorem dX2_emit_11 : decode cX2_emit 11 = .ok (.aload_n 1, 1) := by decide +kernel
theorem dX2_emit_12 : decode cX2_emit 12 = .ok (.getfield 54, 3) := by decide +kernel
theorem dX2_emit_15 : decode cX2_emit 15 = .ok (.aload_n 0, 1) := by decide +kernel
theorem dX2_emit_16 : decode cX2_emit 16 = .ok (.getfield 43, 3) := by decide +kernel
theorem dX2_emit_19 : decode cX2_emit 19 = .ok (.iconst (-1), 1) := by decide +kernel
theorem dX2_emit_20 : decode cX2_emit 20 = .ok (.ixor, 1) := by decide +kernel
theorem dX2_emit_21 : decode cX2_emit 21 = .ok (.iand, 1) := by decide +kernel
theorem dX2_emit_22 : decode cX2_emit 22 = .ok (.iload_n 3, 1) := by decide +kernel
theorem dX2_emit_23 : decode cX2_emit 23 = .ok (.iconst 1, 1) := by decide +kernel
theorem dX2_emit_24 : decode cX2_emit 24 = .ok (.isub, 1) := by decide +kernel
theorem dX2_emit_25 : decode cX2_emit 25 = .ok (.iand, 1) := by decide +kernel
theorem dX2_emit_26 : decode cX2_emit 26 = .ok (.istore 4, 2) := by decide +kernel
theorem dX2_emit_28 : decode cX2_emit 28 = .ok (.iconst 0, 1) := by decide +kernel
theorem dX2_emit_29 : decode cX2_emit 29 = .ok (.istore 5, 2) := by decide +kernel
theorem dX2_emit_31 : decode cX2_emit 31 = .ok (.iconst 0, 1) := by decide +kernel
theorem dX2_emit_32 : decode cX2_emit 32 = .ok (.istore 6, 2) := by decide +kernel
theorem dX2_emit_34 : decode cX2_emit 34 = .ok (.iload 6, 2) := by decide +kernel
theorem dX2_emit_36 : decode cX2_emit 36 = .ok (.bipush 20, 2) := by decide +kernel
theorem dX2_emit_38 : decode cX2_emit 38 = .ok (.if_icmp .ge 62, 3) := by decide +kernel
theorem dX2_emit_41 : decode cX2_emit 41 = .ok (.aload_n 0, 1) := by decide +kernel
theorem dX2_emit_42 : decode cX2_emit 42 = .ok (.getfield 40, 3) := by decide +kernel
theorem dX2_emit_45 : decode cX2_emit 45 = .ok (.bipush 20, 2) := by decide +kernel
theorem dX2_emit_47 : decode cX2_emit 47 = .ok (.if_icmp .ge 53, 3) := by decide +kernel
theorem dX2_emit_50 : decode cX2_emit 50 = .ok (.iload 4, 2) := by decide +kernel
theorem dX2_emit_52 : decode cX2_emit 52 = .ok (.iload 6, 2) := by decide +kernel
theorem dX2_emit_54 : decode cX2_emit 54 = .ok (.ishr, 1) := by decide +kernel
theorem dX2_emit_55 : decode cX2_emit 55 = .ok (.iconst 1, 1) := by decide +kernel
theorem dX2_emit_56 : decode cX2_emit 56 = .ok (.iand, 1) := by decide +kernel
theorem dX2_emit_57 : decode cX2_emit 57 = .ok (.ifCond .eq 37, 3) := by decide +kernel
theorem dX2_emit_60 : decode cX2_emit 60 = .ok (.aload_n 0, 1) := by decide +kernel
theorem dX2_emit_61 : decode cX2_emit 61 = .ok (.getfield 15, 3) := by decide +kernel
theorem dX2_emit_64 : decode cX2_emit 64 = .ok (.aload_n 0, 1) := by decide +kernel
theorem dX2_emit_65 : decode cX2_emit 65 = .ok (.getfield 40, 3) := by decide +kernel
theorem dX2_emit_68 : decode cX2_emit 68 = .ok (.iload 6, 2) := by decide +kernel
theorem dX2_emit_70 : decode cX2_emit 70 = .ok (.iastore, 1) := by decide +kernel
theorem dX2_emit_71 : decode cX2_emit 71 = .ok (.aload_n 0, 1) := by decide +kernel
theorem dX2_emit_72 : decode cX2_emit 72 = .ok (.getfield 18, 3) := by decide +kernel
theorem dX2_emit_75 : decode cX2_emit 75 = .ok (.aload_n 0, 1) := by decide +kernel
theorem dX2_emit_76 : decode cX2_emit 76 = .ok (.getfield 40, 3) := by decide +kernel
theorem dX2_emit_79 : decode cX2_emit 79 = .ok (.iload_n 2, 1) := by decide +kernel
theorem dX2_emit_80 : decode cX2_emit 80 = .ok (.iastore, 1) := by decide +kernel
theorem dX2_emit_81 : decode cX2_emit 81 = .ok (.aload_n 0, 1) := by decide +kernel
theorem dX2_emit_82 : decode cX2_emit 82 = .ok (.dup, 1) := by decide +kernel
theorem dX2_emit_83 : decode cX2_emit 83 = .ok (.getfield 40, 3) := by decide +kernel
theorem dX2_emit_86 : decode cX2_emit 86 = .ok (.iconst 1, 1) := by decide +kernel
theorem dX2_emit_87 : decode cX2_emit 87 = .ok (.iadd, 1) := by decide +kernel
theorem dX2_emit_88 : decode cX2_emit 88 = .ok (.putfield 40, 3) := by decide +kernel
theorem dX2_emit_91 : decode cX2_emit 91 = .ok (.iinc 5 1, 3) := by decide +kernel
theorem dX2_emit_94 : decode cX2_emit 94 = .ok (.iinc 6 1, 3) := by decide +kernel
theorem dX2_emit_97 : decode cX2_emit 97 = .ok (.goto (-63), 3) := by decide +kernel
theorem dX2_emit_100 : decode cX2_emit 100 = .ok (.aload_n 0, 1) := by decide +kernel
theorem dX2_emit_101 : decode cX2_emit 101 = .ok (.dup, 1) := by decide +kernel
theorem dX2_emit_102 : decode cX2_emit 102 = .ok (.getfield 43, 3) := by decide +kernel
theorem dX2_emit_105 : decode cX2_emit 105 = .ok (.iload 4, 2) := by decide +kernel
theorem dX2_emit_107 : decode cX2_emit 107 = .ok (.ior, 1) := by decide +kernel
theorem dX2_emit_108 : decode cX2_emit 108 = .ok (.putfield 43, 3) := by decide +kernel
theorem dX2_emit_111 : decode cX2_emit 111 = .ok (.aload_n 0, 1) := by decide +kernel
theorem dX2_emit_112 : decode cX2_emit 112 = .ok (.aload_n 0, 1) := by decide +kernel
theorem dX2_emit_113 : decode cX2_emit 113 = .ok (.getfield 46, 3) := by decide +kernel
theorem dX2_emit_116 : decode cX2_emit 116 = .ok (.aload_n 0, 1) := by decide +kernel
theorem dX2_emit_117 : decode cX2_emit 117 = .ok (.aload_n 1, 1) := by decide +kernel
theorem dX2_emit_118 : decode cX2_emit 118 = .ok (.invokevirtual 63, 3) := by decide +kernel
theorem dX2_emit_121 : decode cX2_emit 121 = .ok (.invokestatic 27, 3) := by decide +kernel
theorem dX2_emit_124 : decode cX2_emit 124 = .ok (.putfield 46, 3) := by decide +kernel
theorem dX2_emit_127 : decode cX2_emit 127 = .ok (.iload 5, 2) := by decide +kernel
theorem dX2_emit_129 : decode cX2_emit 129 = .ok (.ireturn, 1) := by decide +kernel
theorem dX3_init_0 : decode cX3_init 0 = .ok (.aload_n 0, 1) := by decide +kernel
theorem dX3_init_1 : decode cX3_init 1 = .ok (.invokespecial 3, 3) := by decide +kernel
theorem dX3_init_4 : decode cX3_init 4 = .ok (.aload_n 0, 1) := by decide +kernel
theorem dX3_init_5 : decode cX3_init 5 = .ok (.new 9, 3) := by decide +kernel
theorem dX3_init_8 : decode cX3_init 8 = .ok (.dup, 1) := by decide +kernel
theorem dX3_init_9 : decode cX3_init 9 = .ok (.invokespecial 11, 3) := by decide +kernel
theorem dX3_init_12 : decode cX3_init 12 = .ok (.putfield 12, 3) := by decide +kernel
theorem dX3_init_15 : decode cX3_init 15 = .ok (.aload_n 0, 1) := by decide +kernel
theorem dX3_init_16 : decode cX3_init 16 = .ok (.iconst 5, 1) := by decide +kernel
theorem dX3_init_17 : decode cX3_init 17 = .ok (.anewarray 18, 3) := by decide +kernel
theorem dX3_init_20 : decode cX3_init 20 = .ok (.putfield 20, 3) := by decide +kernel
theorem dX3_init_23 : decode cX3_init 23 = .ok (.iconst 0, 1) := by decide +kernel
theorem dX3_init_24 : decode cX3_init 24 = .ok (.istore_n 1, 1) := by decide +kernel
theorem dX3_init_25 : decode cX3_init 25 = .ok (.iload_n 1, 1) := by decide +kernel
theorem dX3_init_26 : decode cX3_init 26 = .ok (.iconst 5, 1) := by decide +kernel
theorem dX3_init_27 : decode cX3_init 27 = .ok (.if_icmp .ge 22, 3) := by decide +kernel
theorem dX3_init_30 : decode cX3_init 30 = .ok (.aload_n 0, 1) := by decide +kernel
theorem dX3_init_31 : decode cX3_init 31 = .ok (.getfield 20, 3) := by decide +kernel
theorem dX3_init_34 : decode cX3_init 34 = .ok (.iload_n 1, 1) := by decide +kernel
theorem dX3_init_35 : decode cX3_init 35 = .ok (.new 18, 3) := by decide +kernel
theorem dX3_init_38 : decode cX3_init 38 = .ok (.dup, 1) := by decide +kernel
theorem dX3_init_39 : decode cX3_init 39 = .ok (.invokespecial 24, 3) := by decide +kernel
theorem dX3_init_42 : decode cX3_init 42 = .ok (.aastore, 1) := by decide +kernel
theorem dX3_init_43 : decode cX3_init 43 = .ok (.iinc 1 1, 3) := by decide +kernel
theorem dX3_init_46 : decode cX3_init 46 = .ok (.goto (-21), 3) := by decide +kernel
theorem dX3_init_49 : decode cX3_init 49 = .ok (.return_, 1) := by decide +kernel
theorem dX3_clear_0 : decode cX3_clear 0 = .ok (.aload_n 0, 1) := by decide +kernel
theorem dX3_clear_1 : decode cX3_clear 1 = .ok (.getfield 12, 3) := by decide +kernel
theorem dX3_clear_4 : decode cX3_clear 4 = .ok (.invokevirtual 25, 3) := by decide +kernel
theorem dX3_clear_7 : decode cX3_clear 7 = .ok (.aload_n 0, 1) := by decide +kernel
theorem dX3_clear_8 : decode cX3_clear 8 = .ok (.iconst 0, 1) := by decide +kernel
theorem dX3_clear_9 : decode cX3_clear 9 = .ok (.putfield 28, 3) := by decide +kernel
theorem dX3_clear_12 : decode cX3_clear 12 = .ok (.return_, 1) := by decide +kernel
theorem dX3_copyFrom_0 : decode cX3_copyFrom 0 = .ok (.aload_n 0, 1) := by decide +kernel
theorem dX3_copyFrom_1 : decode cX3_copyFrom 1 = .ok (.getfield 12, 3) := by decide +kernel
theorem dX3_copyFrom_4 : decode cX3_copyFrom 4 = .ok (.aload_n 1, 1) := by decide +kernel
theorem dX3_copyFrom_5 : decode cX3_copyFrom 5 = .ok (.getfield 12, 3) := by decide +kernel
theorem dX3_copyFrom_8 : decode cX3_copyFrom 8 = .ok (.invokevirtual 32, 3) := by decide +kernel
theorem dX3_copyFrom_11 : decode cX3_copyFrom 11 = .ok (.aload_n 0, 1) := by decide +kernel
theorem dX3_copyFrom_12 : decode cX3_copyFrom 12 = .ok (.aload_n 1, 1) := by decide +kernel
theorem dX3_copyFrom_13 : decode cX3_copyFrom 13 = .ok (.getfield 28, 3) := by decide +kernel
theorem dX3_copyFrom_16 : decode cX3_copyFrom 16 = .ok (.putfield 28, 3) := by decide +kernel
theorem dX3_copyFrom_19 : decode cX3_copyFrom 19 = .ok (.iconst 0, 1) := by decide +kernel
theorem dX3_copyFrom_20 : decode cX3_copyFrom 20 = .ok (.istore_n 2, 1) := by decide +kernel
theorem dX3_copyFrom_21 : decode cX3_copyFrom 21 = .ok (.iload_n 2, 1) := by decide +kernel
theorem dX3_copyFrom_22 : decode cX3_copyFrom 22 = .ok (.aload_n 0, 1) := by decide +kernel
theorem dX3_copyFrom_23 : decode cX3_copyFrom 23 = .ok (.getfield 28, 3) := by decide +kernel
theorem dX3_copyFrom_26 : decode cX3_copyFrom 26 = .ok (.if_icmp .ge 24, 3) := by decide +kernel
theorem dX3_copyFrom_29 : decode cX3_copyFrom 29 = .ok (.aload_n 0, 1) := by decide +kernel
theorem dX3_copyFrom_30 : decode cX3_copyFrom 30 = .ok (.getfield 20, 3) := by decide +kernel
theorem dX3_copyFrom_33 : decode cX3_copyFrom 33 = .ok (.iload_n 2, 1) := by decide +kernel
theorem dX3_copyFrom_34 : decode cX3_copyFrom 34 = .ok (.aaload, 1) := by decide +kernel
theorem dX3_copyFrom_35 : decode cX3_copyFrom 35 = .ok (.aload_n 1, 1) := by decide +kernel
theorem dX3_copyFrom_36 : decode cX3_copyFrom 36 = .ok (.getfield 20, 3) := by decide +kernel
theorem dX3_copyFrom_39 : decode cX3_copyFrom 39 = .ok (.iload_n 2, 1) := by decide +kernel
theorem dX3_copyFrom_40 : decode cX3_copyFrom 40 = .ok (.aaload, 1) := by decide +kernel
theorem dX3_copyFrom_41 : decode cX3_copyFrom 41 = .ok (.invokevirtual 36, 3) := by decide +kernel
theorem dX3_copyFrom_44 : decode cX3_copyFrom 44 = .ok (.iinc 2 1, 3) := by decide +kernel
theorem dX3_copyFrom_47 : decode cX3_copyFrom 47 = .ok (.goto (-26), 3) := by decide +kernel
theorem dX3_copyFrom_50 : decode cX3_copyFrom 50 = .ok (.return_, 1) := by decide +kernel
theorem dX3_addPath_0 : decode cX3_addPath 0 = .ok (.aload_n 0, 1) := by decide +kernel
theorem dX3_addPath_1 : decode cX3_addPath 1 = .ok (.getfield 28, 3) := by decide +kernel
theorem dX3_addPath_4 : decode cX3_addPath 4 = .ok (.iconst 5, 1) := by decide +kernel
theorem dX3_addPath_5 : decode cX3_addPath 5 = .ok (.if_icmp .ge 27, 3) := by decide +kernel
theorem dX3_addPath_8 : decode cX3_addPath 8 = .ok (.aload_n 0, 1) := by decide +kernel
theorem dX3_addPath_9 : decode cX3_addPath 9 = .ok (.getfield 20, 3) := by decide +kernel
theorem dX3_addPath_12 : decode cX3_addPath 12 = .ok (.aload_n 0, 1) := by decide +kernel
theorem dX3_addPath_13 : decode cX3_addPath 13 = .ok (.getfield 28, 3) := by decide +kernel
theorem dX3_addPath_16 : decode cX3_addPath 16 = .ok (.aaload, 1) := by decide +kernel
theorem dX3_addPath_17 : decode cX3_addPath 17 = .ok (.aload_n 1, 1) := by decide +kernel
theorem dX3_addPath_18 : decode cX3_addPath 18 = .ok (.iload_n 2, 1) := by decide +kernel
theorem dX3_addPath_19 : decode cX3_addPath 19 = .ok (.invokevirtual 39, 3) := by decide +kernel
theorem dX3_addPath_22 : decode cX3_addPath 22 = .ok (.aload_n 0, 1) := by decide +kernel
theorem dX3_addPath_23 : decode cX3_addPath 23 = .ok (.dup, 1) := by decide +kernel
theorem dX3_addPath_24 : decode cX3_addPath 24 = .ok (.getfield 28, 3) := by decide +kernel
theorem dX3_addPath_27 : decode cX3_addPath 27 = .ok (.iconst 1, 1) := by decide +kernel
theorem dX3_addPath_28 : decode cX3_addPath 28 = .ok (.iadd, 1) := by decide +kernel
theorem dX3_addPath_29 : decode cX3_addPath 29 = .ok (.putfield 28, 3) := by decide +kernel
theorem dX3_addPath_32 : decode cX3_addPath 32 = .ok (.return_, 1) := by decide +kernel
theorem dX3_emitAll_0 : decode cX3_emitAll 0 = .ok (.iconst 0, 1) := by decide +kernel
theorem dX3_emitAll_1 : decode cX3_emitAll 1 = .ok (.istore_n 2, 1) := by decide +kernel
theorem dX3_emitAll_2 : decode cX3_emitAll 2 = .ok (.iconst 0, 1) := by decide +kernel
theorem dX3_emitAll_3 : decode cX3_emitAll 3 = .ok (.istore_n 3, 1) := by decide +kernel
theorem dX3_emitAll_4 : decode cX3_emitAll 4 = .ok (.iload_n 3, 1) := by decide +kernel
theorem dX3_emitAll_5 : decode cX3_emitAll 5 = .ok (.aload_n 0, 1) := by decide +kernel
theorem dX3_emitAll_6 : decode cX3_emitAll 6 = .ok (.getfield 28, 3) := by decide +kernel
theorem dX3_emitAll_9 : decode cX3_emitAll 9 = .ok (.if_icmp .ge 18, 3) := by decide +kernel
theorem dX3_emitAll_12 : decode cX3_emitAll 12 = .ok (.iload_n 2, 1) := by decide +kernel
theorem dX3_emitAll_13 : decode cX3_emitAll 13 = .ok (.aload_n 0, 1) := by decide +kernel
theorem dX3_emitAll_14 : decode cX3_emitAll 14 = .ok (.iload_n 3, 1) := by decide +kernel
theorem dX3_emitAll_15 : decode cX3_emitAll 15 = .ok (.aload_n 1, 1) := by decide +kernel
theorem dX3_emitAll_16 : decode cX3_emitAll 16 = .ok (.invokevirtual 43, 3) := by decide +kernel
theorem dX3_emitAll_19 : decode cX3_emitAll 19 = .ok (.iadd, 1) := by decide +kernel
theorem dX3_emitAll_20 : decode cX3_emitAll 20 = .ok (.istore_n 2, 1) := by decide +kernel
theorem dX3_emitAll_21 : decode cX3_emitAll 21 = .ok (.iinc 3 1, 3) := by decide +kernel
theorem dX3_emitAll_24 : decode cX3_emitAll 24 = .ok (.goto (-20), 3) := by decide +kernel
theorem dX3_emitAll_27 : decode cX3_emitAll 27 = .ok (.iload_n 2, 1) := by decide +kernel
theorem dX3_emitAll_28 : decode cX3_emitAll 28 = .ok (.ireturn, 1) := by decide +kernel
theorem dX3_emitOne_0 : decode cX3_emitOne 0 = .ok (.aload_n 2, 1) := by decide +kernel
theorem dX3_emitOne_1 : decode cX3_emitOne 1 = .ok (.aload_n 0, 1) := by decide +kernel
theorem dX3_emitOne_2 : decode cX3_emitOne 2 = .ok (.getfield 12, 3) := by decide +kernel
theorem dX3_emitOne_5 : decode cX3_emitOne 5 = .ok (.aload_n 0, 1) := by decide +kernel
theorem dX3_emitOne_6 : decode cX3_emitOne 6 = .ok (.getfield 20, 3) := by decide +kernel
theorem dX3_emitOne_9 : decode cX3_emitOne 9 = .ok (.iload_n 1, 1) := by decide +kernel
theorem dX3_emitOne_10 : decode cX3_emitOne 10 = .ok (.aaload, 1) := by decide +kernel
theorem dX3_emitOne_11 : decode cX3_emitOne 11 = .ok (.invokevirtual 47, 3) := by decide +kernel
theorem dX3_emitOne_14 : decode cX3_emitOne 14 = .ok (.aload_n 0, 1) := by decide +kernel
theorem dX3_emitOne_15 : decode cX3_emitOne 15 = .ok (.getfield 20, 3) := by decide +kernel
theorem dX3_emitOne_18 : decode cX3_emitOne 18 = .ok (.iload_n 1, 1) := by decide +kernel
theorem dX3_emitOne_19 : decode cX3_emitOne 19 = .ok (.aaload, 1) := by decide +kernel
theorem dX3_emitOne_20 : decode cX3_emitOne 20 = .ok (.aload_n 2, 1) := by decide +kernel
theorem dX3_emitOne_21 : decode cX3_emitOne 21 = .ok (.aload_n 0, 1) := by decide +kernel
theorem dX3_emitOne_22 : decode cX3_emitOne 22 = .ok (.getfield 12, 3) := by decide +kernel
theorem dX3_emitOne_25 : decode cX3_emitOne 25 = .ok (.getfield 53, 3) := by decide +kernel
theorem dX3_emitOne_28 : decode cX3_emitOne 28 = .ok (.invokevirtual 56, 3) := by decide +kernel
theorem dX3_emitOne_31 : decode cX3_emitOne 31 = .ok (.ireturn, 1) := by decide +kernel
theorem dX3_differentPrefixes_0 : decode cX3_differentPrefixes 0 = .ok (.iconst 0, 1) := by decide +kernel
theorem dX3_differentPrefixes_1 : decode cX3_differentPrefixes 1 = .ok (.istore_n 1, 1) := by decide +kernel
theorem dX3_differentPrefixes_2 : decode cX3_differentPrefixes 2 = .ok (.iconst 0, 1) := by decide +kernel
theorem dX3_differentPrefixes_3 : decode cX3_differentPrefixes 3 = .ok (.istore_n 2, 1) := by decide +kernel
theorem dX3_differentPrefixes_4 : decode cX3_differentPrefixes 4 = .ok (.iload_n 2, 1) := by decide +kernel
theorem dX3_differentPrefixes_5 : decode cX3_differentPrefixes 5 = .ok (.aload_n 0, 1) := by decide +kernel
theorem dX3_differentPrefixes_6 : decode cX3_differentPrefixes 6 = .ok (.getfield 28, 3) := by decide +kernel
theorem dX3_differentPrefixes_9 : decode cX3_differentPrefixes 9 = .ok (.if_icmp .ge 42, 3) := by decide +kernel
theorem dX3_differentPrefixes_12 : decode cX3_differentPrefixes 12 = .ok (.iconst 1, 1) := by decide +kernel
theorem dX3_differentPrefixes_13 : decode cX3_differentPrefixes 13 = .ok (.istore_n 3, 1) := by decide +kernel
theorem dX3_differentPrefixes_14 : decode cX3_differentPrefixes 14 = .ok (.iload_n 3, 1) := by decide +kernel
theorem dX3_differentPrefixes_15 : decode cX3_differentPrefixes 15 = .ok (.aload_n 0, 1) := by decide +kernel
theorem dX3_differentPrefixes_16 : decode cX3_differentPrefixes 16 = .ok (.getfield 20, 3) := by decide +kernel
theorem dX3_differentPrefixes_19 : decode cX3_differentPrefixes 19 = .ok (.iload_n 2, 1) := by decide +kernel
theorem dX3_differentPrefixes_20 : decode cX3_differentPrefixes 20 = .ok (.aaload, 1) := by decide +kernel
theorem dX3_differentPrefixes_21 : decode cX3_differentPrefixes 21 = .ok (.getfield 60, 3) := by decide +kernel
theorem dX3_differentPrefixes_24 : decode cX3_differentPrefixes 24 = .ok (.if_icmp .gt 21, 3) := by decide +kernel
theorem dX3_differentPrefixes_27 : decode cX3_differentPrefixes 27 = .ok (.aload_n 0, 1) := by decide +kernel
theorem dX3_differentPrefixes_28 : decode cX3_differentPrefixes 28 = .ok (.iload_n 2, 1) := by decide +kernel
theorem dX3_differentPrefixes_29 : decode cX3_differentPrefixes 29 = .ok (.iload_n 3, 1) := by decide +kernel
theorem dX3_differentPrefixes_30 : decode cX3_differentPrefixes 30 = .ok (.invokevirtual 63, 3) := by decide +kernel
theorem dX3_differentPrefixes_33 : decode cX3_differentPrefixes 33 = .ok (.ifCond .ne 6, 3) := by decide +kernel
theorem dX3_differentPrefixes_36 : decode cX3_differentPrefixes 36 = .ok (.iinc 1 1, 3) := by decide +kernel
theorem dX3_differentPrefixes_39 : decode cX3_differentPrefixes 39 = .ok (.iinc 3 1, 3) := by decide +kernel
theorem dX3_differentPrefixes_42 : decode cX3_differentPrefixes 42 = .ok (.goto (-28), 3) := by decide +kernel
theorem dX3_differentPrefixes_45 : decode cX3_differentPrefixes 45 = .ok (.iinc 2 1, 3) := by decide +kernel
theorem dX3_differentPrefixes_48 : decode cX3_differentPrefixes 48 = .ok (.goto (-44), 3) := by decide +kernel
theorem dX3_differentPrefixes_51 : decode cX3_differentPrefixes 51 = .ok (.iload_n 1, 1) := by decide +kernel
theorem dX3_differentPrefixes_52 : decode cX3_differentPrefixes 52 = .ok (.ireturn, 1) := by decide +kernel
theorem dX3_earlierBeginsLike_0 : decode cX3_earlierBeginsLike 0 = .ok (.iconst 0, 1) := by decide +kernel
theorem dX3_earlierBeginsLike_1 : decode cX3_earlierBeginsLike 1 = .ok (.istore_n 3, 1) := by decide +kernel
theorem dX3_earlierBeginsLike_2 : decode cX3_earlierBeginsLike 2 = .ok (.iload_n 3, 1) := by decide +kernel
theorem dX3_earlierBeginsLike_3 : decode cX3_earlierBeginsLike 3 = .ok (.iload_n 1, 1) := by decide +kernel
theorem dX3_earlierBeginsLike_4 : decode cX3_earlierBeginsLike 4 = .ok (.if_icmp .ge 30, 3) := by decide +kernel
theorem dX3_earlierBeginsLike_7 : decode cX3_earlierBeginsLike 7 = .ok (.aload_n 0, 1) := by decide +kernel
theorem dX3_earlierBeginsLike_8 : decode cX3_earlierBeginsLike 8 = .ok (.getfield 20, 3) := by decide +kernel
theorem dX3_earlierBeginsLike_11 : decode cX3_earlierBeginsLike 11 = .ok (.iload_n 3, 1) := by decide +kernel
theorem dX3_earlierBeginsLike_12 : decode cX3_earlierBeginsLike 12 = .ok (.aaload, 1) := by decide +kernel
theorem dX3_earlierBeginsLike_13 : decode cX3_earlierBeginsLike 13 = .ok (.aload_n 0, 1) := by decide +kernel
theorem dX3_earlierBeginsLike_14 : decode cX3_earlierBeginsLike 14 = .ok (.getfield 20, 3) := by decide +kernel
theorem dX3_earlierBeginsLike_17 : decode cX3_earlierBeginsLike 17 = .ok (.iload_n 1, 1) := by decide +kernel
theorem dX3_earlierBeginsLike_18 : decode cX3_earlierBeginsLike 18 = .ok (.aaload, 1) := by decide +kernel
theorem dX3_earlierBeginsLike_19 : decode cX3_earlierBeginsLike 19 = .ok (.iload_n 2, 1) := by decide +kernel
theorem dX3_earlierBeginsLike_20 : decode cX3_earlierBeginsLike 20 = .ok (.invokevirtual 67, 3) := by decide +kernel
theorem dX3_earlierBeginsLike_23 : decode cX3_earlierBeginsLike 23 = .ok (.ifCond .eq 5, 3) := by decide +kernel
theorem dX3_earlierBeginsLike_26 : decode cX3_earlierBeginsLike 26 = .ok (.iconst 1, 1) := by decide +kernel
theorem dX3_earlierBeginsLike_27 : decode cX3_earlierBeginsLike 27 = .ok (.ireturn, 1) := by decide +kernel
theorem dX3_earlierBeginsLike_28 : decode cX3_earlierBeginsLike 28 = .ok (.iinc 3 1, 3) := by decide +kernel
theorem dX3_earlierBeginsLike_31 : decode cX3_earlierBeginsLike 31 = .ok (.goto (-29), 3) := by decide +kernel
theorem dX3_earlierBeginsLike_34 : decode cX3_earlierBeginsLike 34 = .ok (.iconst 0, 1) := by decide +kernel
theorem dX3_earlierBeginsLike_35 : decode cX3_earlierBeginsLike 35 = .ok (.ireturn, 1) := by decide +kernel
theorem dX4_init_0 : decode cX4_init 0 = .ok (.aload_n 0, 1) := by decide +kernel
theorem dX4_init_1 : decode cX4_init 1 = .ok (.invokespecial 3, 3) := by decide +kernel
theorem dX4_init_4 : decode cX4_init 4 = .ok (.aload_n 0, 1) := by decide +kernel
theorem dX4_init_5 : decode cX4_init 5 = .ok (.iconst 4, 1) := by decide +kernel
theorem dX4_init_6 : decode cX4_init 6 = .ok (.newarray .int, 2) := by decide +kernel
theorem dX4_init_8 : decode cX4_init 8 = .ok (.putfield 9, 3) := by decide +kernel
theorem dX4_init_11 : decode cX4_init 11 = .ok (.return_, 1) := by decide +kernel
theorem dX4_begin_0 : decode cX4_begin 0 = .ok (.aload_n 0, 1) := by decide +kernel
theorem dX4_begin_1 : decode cX4_begin 1 = .ok (.iconst 0, 1) := by decide +kernel
theorem dX4_begin_2 : decode cX4_begin 2 = .ok (.putfield 15, 3) := by decide +kernel
theorem dX4_begin_5 : decode cX4_begin 5 = .ok (.aload_n 0, 1) := by decide +kernel
theorem dX4_begin_6 : decode cX4_begin 6 = .ok (.iconst 0, 1) := by decide +kernel
theorem dX4_begin_7 : decode cX4_begin 7 = .ok (.putfield 19, 3) := by decide +kernel
theorem dX4_begin_10 : decode cX4_begin 10 = .ok (.return_, 1) := by decide +kernel
theorem dX4_mayEnd_0 : decode cX4_mayEnd 0 = .ok (.aload_n 0, 1) := by decide +kernel
theorem dX4_mayEnd_1 : decode cX4_mayEnd 1 = .ok (.getfield 15, 3) := by decide +kernel
theorem dX4_mayEnd_4 : decode cX4_mayEnd 4 = .ok (.iconst 1, 1) := by decide +kernel
theorem dX4_mayEnd_5 : decode cX4_mayEnd 5 = .ok (.if_icmp .eq 11, 3) := by decide +kernel
theorem dX4_mayEnd_8 : decode cX4_mayEnd 8 = .ok (.aload_n 0, 1) := by decide +kernel
theorem dX4_mayEnd_9 : decode cX4_mayEnd 9 = .ok (.getfield 15, 3) := by decide +kernel
theorem dX4_mayEnd_12 : decode cX4_mayEnd 12 = .ok (.iconst 2, 1) := by decide +kernel
theorem dX4_mayEnd_13 : decode cX4_mayEnd 13 = .ok (.if_icmp .ne 7, 3) := by decide +kernel
theorem dX4_mayEnd_16 : decode cX4_mayEnd 16 = .ok (.iconst 1, 1) := by decide +kernel
theorem dX4_mayEnd_17 : decode cX4_mayEnd 17 = .ok (.goto 4, 3) := by decide +kernel
theorem dX4_mayEnd_20 : decode cX4_mayEnd 20 = .ok (.iconst 0, 1) := by decide +kernel
theorem dX4_mayEnd_21 : decode cX4_mayEnd 21 = .ok (.ireturn, 1) := by decide +kernel
theorem dX4_takes_0 : decode cX4_takes 0 = .ok (.aload_n 0, 1) := by decide +kernel
theorem dX4_takes_1 : decode cX4_takes 1 = .ok (.getfield 15, 3) := by decide +kernel
theorem dX4_takes_4 : decode cX4_takes 4 = .ok (.tableswitch 216 0 10 #[60, 77, 101, 111, 117, 123, 146, 168, 174, 192, 199], 60) := by decide +kernel
theorem dX4_takes_64 : decode cX4_takes 64 = .ok (.aload_n 0, 1) := by decide +kernel
theorem dX4_takes_65 : decode cX4_takes 65 = .ok (.iload_n 1, 1) := by decide +kernel
theorem dX4_takes_66 : decode cX4_takes 66 = .ok (.bipush 68, 2) := by decide +kernel
theorem dX4_takes_68 : decode cX4_takes 68 = .ok (.if_icmp .ne 7, 3) := by decide +kernel
theorem dX4_takes_71 : decode cX4_takes 71 = .ok (.iconst 1, 1) := by decide +kernel
theorem dX4_takes_72 : decode cX4_takes 72 = .ok (.goto 4, 3) := by decide +kernel
theorem dX4_takes_75 : decode cX4_takes 75 = .ok (.iconst 0, 1) := by decide +kernel
theorem dX4_takes_76 : decode cX4_takes 76 = .ok (.iconst 1, 1) := by decide +kernel
theorem dX4_takes_77 : decode cX4_takes 77 = .ok (.invokevirtual 22, 3) := by decide +kernel
theorem dX4_takes_80 : decode cX4_takes 80 = .ok (.ireturn, 1) := by decide +kernel
theorem dX4_takes_81 : decode cX4_takes 81 = .ok (.iload_n 1, 1) := by decide +kernel
theorem dX4_takes_82 : decode cX4_takes 82 = .ok (.bipush 113, 2) := by decide +kernel
theorem dX4_takes_84 : decode cX4_takes 84 = .ok (.if_icmp .ne 11, 3) := by decide +kernel
theorem dX4_takes_87 : decode cX4_takes 87 = .ok (.aload_n 0, 1) := by decide +kernel
theorem dX4_takes_88 : decode cX4_takes 88 = .ok (.aload_n 2, 1) := by decide +kernel
theorem dX4_takes_89 : decode cX4_takes 89 = .ok (.invokevirtual 26, 3) := by decide +kernel
theorem dX4_takes_92 : decode cX4_takes 92 = .ok (.goto 12, 3) := by decide +kernel
theorem dX4_takes_95 : decode cX4_takes 95 = .ok (.aload_n 0, 1) := by decide +kernel
theorem dX4_takes_96 : decode cX4_takes 96 = .ok (.iload_n 1, 1) := by decide +kernel
theorem dX4_takes_97 : decode cX4_takes 97 = .ok (.aload_n 2, 1) := by decide +kernel
theorem dX4_takes_98 : decode cX4_takes 98 = .ok (.getfield 30, 3) := by decide +kernel
theorem dX4_takes_101 : decode cX4_takes 101 = .ok (.invokevirtual 36, 3) := by decide +kernel
theorem dX4_takes_104 : decode cX4_takes 104 = .ok (.ireturn, 1) := by decide +kernel
theorem dX4_takes_105 : decode cX4_takes 105 = .ok (.aload_n 0, 1) := by decide +kernel
theorem dX4_takes_106 : decode cX4_takes 106 = .ok (.iload_n 1, 1) := by decide +kernel
theorem dX4_takes_107 : decode cX4_takes 107 = .ok (.aload_n 2, 1) := by decide +kernel
theorem dX4_takes_108 : decode cX4_takes 108 = .ok (.getfield 30, 3) := by decide +kernel
theorem dX4_takes_111 : decode cX4_takes 111 = .ok (.invokevirtual 36, 3) := by decide +kernel
theorem dX4_takes_114 : decode cX4_takes 114 = .ok (.ireturn, 1) := by decide +kernel
theorem dX4_takes_115 : decode cX4_takes 115 = .ok (.aload_n 0, 1) := by decide +kernel
theorem dX4_takes_116 : decode cX4_takes 116 = .ok (.iload_n 1, 1) := by decide +kernel
theorem dX4_takes_117 : decode cX4_takes 117 = .ok (.invokevirtual 40, 3) := by decide +kernel
theorem dX4_takes_120 : decode cX4_takes 120 = .ok (.ireturn, 1) := by decide +kernel
theorem dX4_takes_121 : decode cX4_takes 121 = .ok (.aload_n 0, 1) := by decide +kernel
theorem dX4_takes_122 : decode cX4_takes 122 = .ok (.iload_n 1, 1) := by decide +kernel
theorem dX4_takes_123 : decode cX4_takes 123 = .ok (.invokevirtual 44, 3) := by decide +kernel
theorem dX4_takes_126 : decode cX4_takes 126 = .ok (.ireturn, 1) := by decide +kernel
theorem dX4_takes_127 : decode cX4_takes 127 = .ok (.iload_n 1, 1) := by decide +kernel
theorem dX4_takes_128 : decode cX4_takes 128 = .ok (.bipush 91, 2) := by decide +kernel
theorem dX4_takes_130 : decode cX4_takes 130 = .ok (.if_icmp .ne 13, 3) := by decide +kernel
theorem dX4_takes_133 : decode cX4_takes 133 = .ok (.aload_n 0, 1) := by decide +kernel
theorem dX4_takes_134 : decode cX4_takes 134 = .ok (.iconst 1, 1) := by decide +kernel
theorem dX4_takes_135 : decode cX4_takes 135 = .ok (.bipush 6, 2) := by decide +kernel
theorem dX4_takes_137 : decode cX4_takes 137 = .ok (.invokevirtual 22, 3) := by decide +kernel
theorem dX4_takes_140 : decode cX4_takes 140 = .ok (.goto 9, 3) := by decide +kernel
theorem dX4_takes_143 : decode cX4_takes 143 = .ok (.aload_n 0, 1) := by decide +kernel
theorem dX4_takes_144 : decode cX4_takes 144 = .ok (.iload_n 1, 1) := by decide +kernel
theorem dX4_takes_145 : decode cX4_takes 145 = .ok (.aload_n 2, 1) := by decide +kernel
theorem dX4_takes_146 : decode cX4_takes 146 = .ok (.invokevirtual 47, 3) := by decide +kernel
theorem dX4_takes_149 : decode cX4_takes 149 = .ok (.ireturn, 1) := by decide +kernel
theorem dX4_takes_150 : decode cX4_takes 150 = .ok (.iload_n 1, 1) := by decide +kernel
theorem dX4_takes_151 : decode cX4_takes 151 = .ok (.bipush 61, 2) := by decide +kernel
theorem dX4_takes_153 : decode cX4_takes 153 = .ok (.if_icmp .ne 13, 3) := by decide +kernel
theorem dX4_takes_156 : decode cX4_takes 156 = .ok (.aload_n 0, 1) := by decide +kernel
theorem dX4_takes_157 : decode cX4_takes 157 = .ok (.iconst 1, 1) := by decide +kernel
theorem dX4_takes_158 : decode cX4_takes 158 = .ok (.bipush 7, 2) := by decide +kernel
theorem dX4_takes_160 : decode cX4_takes 160 = .ok (.invokevirtual 22, 3) := by decide +kernel
theorem dX4_takes_163 : decode cX4_takes 163 = .ok (.goto 8, 3) := by decide +kernel
theorem dX4_takes_166 : decode cX4_takes 166 = .ok (.aload_n 0, 1) := by decide +kernel
theorem dX4_takes_167 : decode cX4_takes 167 = .ok (.iload_n 1, 1) := by decide +kernel
theorem dX4_takes_168 : decode cX4_takes 168 = .ok (.invokevirtual 51, 3) := by decide +kernel
theorem dX4_takes_171 : decode cX4_takes 171 = .ok (.ireturn, 1) := by decide +kernel
theorem dX4_takes_172 : decode cX4_takes 172 = .ok (.aload_n 0, 1) := by decide +kernel
theorem dX4_takes_173 : decode cX4_takes 173 = .ok (.iload_n 1, 1) := by decide +kernel
theorem dX4_takes_174 : decode cX4_takes 174 = .ok (.invokevirtual 54, 3) := by decide +kernel
theorem dX4_takes_177 : decode cX4_takes 177 = .ok (.ireturn, 1) := by decide +kernel
theorem dX4_takes_178 : decode cX4_takes 178 = .ok (.aload_n 0, 1) := by decide +kernel
theorem dX4_takes_179 : decode cX4_takes 179 = .ok (.iload_n 1, 1) := by decide +kernel
theorem dX4_takes_180 : decode cX4_takes 180 = .ok (.bipush 93, 2) := by decide +kernel
theorem dX4_takes_182 : decode cX4_takes 182 = .ok (.if_icmp .ne 7, 3) := by decide +kernel
theorem dX4_takes_185 : decode cX4_takes 185 = .ok (.iconst 1, 1) := by decide +kernel
theorem dX4_takes_186 : decode cX4_takes 186 = .ok (.goto 4, 3) := by decide +kernel
theorem dX4_takes_189 : decode cX4_takes 189 = .ok (.iconst 0, 1) := by decide +kernel
theorem dX4_takes_190 : decode cX4_takes 190 = .ok (.bipush 9, 2) := by decide +kernel
theorem dX4_takes_192 : decode cX4_takes 192 = .ok (.invokevirtual 22, 3) := by decide +kernel
theorem dX4_takes_195 : decode cX4_takes 195 = .ok (.ireturn, 1) := by decide +kernel
theorem dX4_takes_196 : decode cX4_takes 196 = .ok (.aload_n 0, 1) := by decide +kernel
theorem dX4_takes_197 : decode cX4_takes 197 = .ok (.iload_n 1, 1) := by decide +kernel
theorem dX4_takes_198 : decode cX4_takes 198 = .ok (.aload_n 2, 1) := by decide +kernel
theorem dX4_takes_199 : decode cX4_takes 199 = .ok (.invokevirtual 47, 3) := by decide +kernel
theorem dX4_takes_202 : decode cX4_takes 202 = .ok (.ireturn, 1) := by decide +kernel
theorem dX4_takes_203 : decode cX4_takes 203 = .ok (.aload_n 0, 1) := by decide +kernel
theorem dX4_takes_204 : decode cX4_takes 204 = .ok (.aload_n 2, 1) := by decide +kernel
theorem dX4_takes_205 : decode cX4_takes 205 = .ok (.getfield 30, 3) := by decide +kernel
theorem dX4_takes_208 : decode cX4_takes 208 = .ok (.iload_n 1, 1) := by decide +kernel
theorem dX4_takes_209 : decode cX4_takes 209 = .ok (.invokestatic 57, 3) := by decide +kernel
theorem dX4_takes_212 : decode cX4_takes 212 = .ok (.invokevirtual 61, 3) := by decide +kernel
theorem dX4_takes_215 : decode cX4_takes 215 = .ok (.iconst 2, 1) := by decide +kernel
theorem dX4_takes_216 : decode cX4_takes 216 = .ok (.invokevirtual 22, 3) := by decide +kernel
theorem dX4_takes_219 : decode cX4_takes 219 = .ok (.ireturn, 1) := by decide +kernel
theorem dX4_takes_220 : decode cX4_takes 220 = .ok (.iconst 0, 1) := by decide +kernel
theorem dX4_takes_221 : decode cX4_takes 221 = .ok (.ireturn, 1) := by decide +kernel
theorem dX4_goesOn_0 : decode cX4_goesOn 0 = .ok (.iload_n 1, 1) := by decide +kernel
theorem dX4_goesOn_1 : decode cX4_goesOn 1 = .ok (.ifCond .eq 8, 3) := by decide +kernel
theorem dX4_goesOn_4 : decode cX4_goesOn 4 = .ok (.aload_n 0, 1) := by decide +kernel
theorem dX4_goesOn_5 : decode cX4_goesOn 5 = .ok (.iload_n 2, 1) := by decide +kernel
theorem dX4_goesOn_6 : decode cX4_goesOn 6 = .ok (.putfield 15, 3) := by decide +kernel
theorem dX4_goesOn_9 : decode cX4_goesOn 9 = .ok (.iload_n 1, 1) := by decide +kernel
theorem dX4_goesOn_10 : decode cX4_goesOn 10 = .ok (.ireturn, 1) := by decide +kernel
theorem dX4_beginsPath_0 : decode cX4_beginsPath 0 = .ok (.aload_n 0, 1) := by decide +kernel
theorem dX4_beginsPath_1 : decode cX4_beginsPath 1 = .ok (.iconst 0, 1) := by decide +kernel
theorem dX4_beginsPath_2 : decode cX4_beginsPath 2 = .ok (.putfield 19, 3) := by decide +kernel
theorem dX4_beginsPath_5 : decode cX4_beginsPath 5 = .ok (.aload_n 0, 1) := by decide +kernel
theorem dX4_beginsPath_6 : decode cX4_beginsPath 6 = .ok (.aload_n 1, 1) := by decide +kernel
theorem dX4_beginsPath_7 : decode cX4_beginsPath 7 = .ok (.getfield 67, 3) := by decide +kernel
theorem dX4_beginsPath_10 : decode cX4_beginsPath 10 = .ok (.iconst 5, 1) := by decide +kernel
theorem dX4_beginsPath_11 : decode cX4_beginsPath 11 = .ok (.if_icmp .ge 7, 3) := by decide +kernel
theorem dX4_beginsPath_14 : decode cX4_beginsPath 14 = .ok (.iconst 1, 1) := by decide +kernel
theorem dX4_beginsPath_15 : decode cX4_beginsPath 15 = .ok (.goto 4, 3) := by decide +kernel
theorem dX4_beginsPath_18 : decode cX4_beginsPath 18 = .ok (.iconst 0, 1) := by decide +kernel
theorem dX4_beginsPath_19 : decode cX4_beginsPath 19 = .ok (.iconst 3, 1) := by decide +kernel
theorem dX4_beginsPath_20 : decode cX4_beginsPath 20 = .ok (.invokevirtual 22, 3) := by decide +kernel
theorem dX4_beginsPath_23 : decode cX4_beginsPath 23 = .ok (.ireturn, 1) := by decide +kernel
theorem dX4_takesEvent_0 : decode cX4_takesEvent 0 = .ok (.iload_n 1, 1) := by decide +kernel
theorem dX4_takesEvent_1 : decode cX4_takesEvent 1 = .ok (.bipush 40, 2) := by decide +kernel
theorem dX4_takesEvent_3 : decode cX4_takesEvent 3 = .ok (.if_icmp .ne 24, 3) := by decide +kernel
theorem dX4_takesEvent_6 : decode cX4_takesEvent 6 = .ok (.aload_n 0, 1) := by decide +kernel
theorem dX4_takesEvent_7 : decode cX4_takesEvent 7 = .ok (.aload_n 2, 1) := by decide +kernel
theorem dX4_takesEvent_8 : decode cX4_takesEvent 8 = .ok (.invokevirtual 70, 3) := by decide +kernel
theorem dX4_takesEvent_11 : decode cX4_takesEvent 11 = .ok (.bipush (-9), 2) := by decide +kernel
theorem dX4_takesEvent_13 : decode cX4_takesEvent 13 = .ok (.if_icmp .ne 7, 3) := by decide +kernel
theorem dX4_takesEvent_16 : decode cX4_takesEvent 16 = .ok (.iconst 1, 1) := by decide +kernel
theorem dX4_takesEvent_17 : decode cX4_takesEvent 17 = .ok (.goto 4, 3) := by decide +kernel
theorem dX4_takesEvent_20 : decode cX4_takesEvent 20 = .ok (.iconst 0, 1) := by decide +kernel
theorem dX4_takesEvent_21 : decode cX4_takesEvent 21 = .ok (.bipush 10, 2) := by decide +kernel
theorem dX4_takesEvent_23 : decode cX4_takesEvent 23 = .ok (.invokevirtual 22, 3) := by decide +kernel
theorem dX4_takesEvent_26 : decode cX4_takesEvent 26 = .ok (.ireturn, 1) := by decide +kernel
theorem dX4_takesEvent_27 : decode cX4_takesEvent 27 = .ok (.iload_n 1, 1) := by decide +kernel
theorem dX4_takesEvent_28 : decode cX4_takesEvent 28 = .ok (.bipush 41, 2) := by decide +kernel
theorem dX4_takesEvent_30 : decode cX4_takesEvent 30 = .ok (.if_icmp .ne 13, 3) := by decide +kernel
theorem dX4_takesEvent_33 : decode cX4_takesEvent 33 = .ok (.aload_n 0, 1) := by decide +kernel
theorem dX4_takesEvent_34 : decode cX4_takesEvent 34 = .ok (.aload_n 2, 1) := by decide +kernel
theorem dX4_takesEvent_35 : decode cX4_takesEvent 35 = .ok (.invokevirtual 74, 3) := by decide +kernel
theorem dX4_takesEvent_38 : decode cX4_takesEvent 38 = .ok (.iconst 2, 1) := by decide +kernel
theorem dX4_takesEvent_39 : decode cX4_takesEvent 39 = .ok (.invokevirtual 22, 3) := by decide +kernel
theorem dX4_takesEvent_42 : decode cX4_takesEvent 42 = .ok (.ireturn, 1) := by decide +kernel
theorem dX4_takesEvent_43 : decode cX4_takesEvent 43 = .ok (.aload_n 0, 1) := by decide +kernel
theorem dX4_takesEvent_44 : decode cX4_takesEvent 44 = .ok (.aload_n 2, 1) := by decide +kernel
theorem dX4_takesEvent_45 : decode cX4_takesEvent 45 = .ok (.iload_n 1, 1) := by decide +kernel
theorem dX4_takesEvent_46 : decode cX4_takesEvent 46 = .ok (.invokestatic 78, 3) := by decide +kernel
theorem dX4_takesEvent_49 : decode cX4_takesEvent 49 = .ok (.invokevirtual 81, 3) := by decide +kernel
theorem dX4_takesEvent_52 : decode cX4_takesEvent 52 = .ok (.iconst 2, 1) := by decide +kernel
theorem dX4_takesEvent_53 : decode cX4_takesEvent 53 = .ok (.invokevirtual 22, 3) := by decide +kernel
theorem dX4_takesEvent_56 : decode cX4_takesEvent 56 = .ok (.ireturn, 1) := by decide +kernel
theorem dX4_takesAxis_0 : decode cX4_takesAxis 0 = .ok (.iload_n 1, 1) := by decide +kernel
theorem dX4_takesAxis_1 : decode cX4_takesAxis 1 = .ok (.bipush 47, 2) := by decide +kernel
theorem dX4_takesAxis_3 : decode cX4_takesAxis 3 = .ok (.if_icmp .eq 9, 3) := by decide +kernel
theorem dX4_takesAxis_6 : decode cX4_takesAxis 6 = .ok (.iload_n 1, 1) := by decide +kernel
theorem dX4_takesAxis_7 : decode cX4_takesAxis 7 = .ok (.bipush 33, 2) := by decide +kernel
theorem dX4_takesAxis_9 : decode cX4_takesAxis 9 = .ok (.if_icmp .ne 7, 3) := by decide +kernel
theorem dX4_takesAxis_12 : decode cX4_takesAxis 12 = .ok (.iconst 1, 1) := by decide +kernel
theorem dX4_takesAxis_13 : decode cX4_takesAxis 13 = .ok (.goto 4, 3) := by decide +kernel
theorem dX4_takesAxis_16 : decode cX4_takesAxis 16 = .ok (.iconst 0, 1) := by decide +kernel
theorem dX4_takesAxis_17 : decode cX4_takesAxis 17 = .ok (.istore_n 2, 1) := by decide +kernel
theorem dX4_takesAxis_18 : decode cX4_takesAxis 18 = .ok (.iload_n 2, 1) := by decide +kernel
theorem dX4_takesAxis_19 : decode cX4_takesAxis 19 = .ok (.ifCond .eq 11, 3) := by decide +kernel
theorem dX4_takesAxis_22 : decode cX4_takesAxis 22 = .ok (.aload_n 0, 1) := by decide +kernel
theorem dX4_takesAxis_23 : decode cX4_takesAxis 23 = .ok (.getfield 19, 3) := by decide +kernel
theorem dX4_takesAxis_26 : decode cX4_takesAxis 26 = .ok (.iconst 4, 1) := by decide +kernel
theorem dX4_takesAxis_27 : decode cX4_takesAxis 27 = .ok (.if_icmp .lt 5, 3) := by decide +kernel
theorem dX4_takesAxis_30 : decode cX4_takesAxis 30 = .ok (.iconst 0, 1) := by decide +kernel
theorem dX4_takesAxis_31 : decode cX4_takesAxis 31 = .ok (.ireturn, 1) := by decide +kernel
theorem dX4_takesAxis_32 : decode cX4_takesAxis 32 = .ok (.aload_n 0, 1) := by decide +kernel
theorem dX4_takesAxis_33 : decode cX4_takesAxis 33 = .ok (.getfield 9, 3) := by decide +kernel
theorem dX4_takesAxis_36 : decode cX4_takesAxis 36 = .ok (.aload_n 0, 1) := by decide +kernel
theorem dX4_takesAxis_37 : decode cX4_takesAxis 37 = .ok (.getfield 19, 3) := by decide +kernel
theorem dX4_takesAxis_40 : decode cX4_takesAxis 40 = .ok (.iload_n 1, 1) := by decide +kernel
theorem dX4_takesAxis_41 : decode cX4_takesAxis 41 = .ok (.bipush 33, 2) := by decide +kernel
theorem dX4_takesAxis_43 : decode cX4_takesAxis 43 = .ok (.if_icmp .ne 9, 3) := by decide +kernel
theorem dX4_takesAxis_46 : decode cX4_takesAxis 46 = .ok (.sipush 1000, 3) := by decide +kernel
theorem dX4_takesAxis_49 : decode cX4_takesAxis 49 = .ok (.goto 4, 3) := by decide +kernel
theorem dX4_takesAxis_52 : decode cX4_takesAxis 52 = .ok (.iconst 0, 1) := by decide +kernel
theorem dX4_takesAxis_53 : decode cX4_takesAxis 53 = .ok (.iastore, 1) := by decide +kernel
theorem dX4_takesAxis_54 : decode cX4_takesAxis 54 = .ok (.aload_n 0, 1) := by decide +kernel
theorem dX4_takesAxis_55 : decode cX4_takesAxis 55 = .ok (.dup, 1) := by decide +kernel
theorem dX4_takesAxis_56 : decode cX4_takesAxis 56 = .ok (.getfield 19, 3) := by decide +kernel
theorem dX4_takesAxis_59 : decode cX4_takesAxis 59 = .ok (.iconst 1, 1) := by decide +kernel
theorem dX4_takesAxis_60 : decode cX4_takesAxis 60 = .ok (.iadd, 1) := by decide +kernel
theorem dX4_takesAxis_61 : decode cX4_takesAxis 61 = .ok (.putfield 19, 3) := by decide +kernel
theorem dX4_takesAxis_64 : decode cX4_takesAxis 64 = .ok (.aload_n 0, 1) := by decide +kernel
theorem dX4_takesAxis_65 : decode cX4_takesAxis 65 = .ok (.iconst 1, 1) := by decide +kernel
theorem dX4_takesAxis_66 : decode cX4_takesAxis 66 = .ok (.iconst 4, 1) := by decide +kernel
theorem dX4_takesAxis_67 : decode cX4_takesAxis 67 = .ok (.invokevirtual 22, 3) := by decide +kernel
theorem dX4_takesAxis_70 : decode cX4_takesAxis 70 = .ok (.ireturn, 1) := by decide +kernel
theorem dX4_takesTest_0 : decode cX4_takesTest 0 = .ok (.iload_n 1, 1) := by decide +kernel
theorem dX4_takesTest_1 : decode cX4_takesTest 1 = .ok (.bipush 42, 2) := by decide +kernel
theorem dX4_takesTest_3 : decode cX4_takesTest 3 = .ok (.if_icmp .ne 7, 3) := by decide +kernel
theorem dX4_takesTest_6 : decode cX4_takesTest 6 = .ok (.iconst 5, 1) := by decide +kernel
theorem dX4_takesTest_7 : decode cX4_takesTest 7 = .ok (.goto 7, 3) := by decide +kernel
theorem dX4_takesTest_10 : decode cX4_takesTest 10 = .ok (.iload_n 1, 1) := by decide +kernel
theorem dX4_takesTest_11 : decode cX4_takesTest 11 = .ok (.invokestatic 57, 3) := by decide +kernel
theorem dX4_takesTest_14 : decode cX4_takesTest 14 = .ok (.istore_n 2, 1) := by decide +kernel
theorem dX4_takesTest_15 : decode cX4_takesTest 15 = .ok (.aload_n 0, 1) := by decide +kernel
theorem dX4_takesTest_16 : decode cX4_takesTest 16 = .ok (.iload_n 2, 1) := by decide +kernel
theorem dX4_takesTest_17 : decode cX4_takesTest 17 = .ok (.ifCond .lt 7, 3) := by decide +kernel
theorem dX4_takesTest_20 : decode cX4_takesTest 20 = .ok (.iconst 1, 1) := by decide +kernel
theorem dX4_takesTest_21 : decode cX4_takesTest 21 = .ok (.goto 4, 3) := by decide +kernel
theorem dX4_takesTest_24 : decode cX4_takesTest 24 = .ok (.iconst 0, 1) := by decide +kernel
theorem dX4_takesTest_25 : decode cX4_takesTest 25 = .ok (.iload_n 2, 1) := by decide +kernel
theorem dX4_takesTest_26 : decode cX4_takesTest 26 = .ok (.bipush 100, 2) := by decide +kernel
theorem dX4_takesTest_28 : decode cX4_takesTest 28 = .ok (.imul, 1) := by decide +kernel
theorem dX4_takesTest_29 : decode cX4_takesTest 29 = .ok (.iconst 5, 1) := by decide +kernel
theorem dX4_takesTest_30 : decode cX4_takesTest 30 = .ok (.invokevirtual 84, 3) := by decide +kernel
theorem dX4_takesTest_33 : decode cX4_takesTest 33 = .ok (.ireturn, 1) := by decide +kernel
theorem dX4_takesChildName_0 : decode cX4_takesChildName 0 = .ok (.iload_n 1, 1) := by decide +kernel
theorem dX4_takesChildName_1 : decode cX4_takesChildName 1 = .ok (.invokestatic 57, 3) := by decide +kernel
theorem dX4_takesChildName_4 : decode cX4_takesChildName 4 = .ok (.istore_n 2, 1) := by decide +kernel
theorem dX4_takesChildName_5 : decode cX4_takesChildName 5 = .ok (.aload_n 0, 1) := by decide +kernel
theorem dX4_takesChildName_6 : decode cX4_takesChildName 6 = .ok (.iload_n 2, 1) := by decide +kernel
theorem dX4_takesChildName_7 : decode cX4_takesChildName 7 = .ok (.ifCond .lt 7, 3) := by decide +kernel
theorem dX4_takesChildName_10 : decode cX4_takesChildName 10 = .ok (.iconst 1, 1) := by decide +kernel
theorem dX4_takesChildName_11 : decode cX4_takesChildName 11 = .ok (.goto 4, 3) := by decide +kernel
theorem dX4_takesChildName_14 : decode cX4_takesChildName 14 = .ok (.iconst 0, 1) := by decide +kernel
theorem dX4_takesChildName_15 : decode cX4_takesChildName 15 = .ok (.iconst 1, 1) := by decide +kernel
theorem dX4_takesChildName_16 : decode cX4_takesChildName 16 = .ok (.iload_n 2, 1) := by decide +kernel
theorem dX4_takesChildName_17 : decode cX4_takesChildName 17 = .ok (.iadd, 1) := by decide +kernel
theorem dX4_takesChildName_18 : decode cX4_takesChildName 18 = .ok (.bipush 8, 2) := by decide +kernel
theorem dX4_takesChildName_20 : decode cX4_takesChildName 20 = .ok (.invokevirtual 84, 3) := by decide +kernel
theorem dX4_takesChildName_23 : decode cX4_takesChildName 23 = .ok (.ireturn, 1) := by decide +kernel
theorem dX4_takesFigure_0 : decode cX4_takesFigure 0 = .ok (.iload_n 1, 1) := by decide +kernel
theorem dX4_takesFigure_1 : decode cX4_takesFigure 1 = .ok (.invokestatic 78, 3) := by decide +kernel
theorem dX4_takesFigure_4 : decode cX4_takesFigure 4 = .ok (.istore_n 2, 1) := by decide +kernel
theorem dX4_takesFigure_5 : decode cX4_takesFigure 5 = .ok (.aload_n 0, 1) := by decide +kernel
theorem dX4_takesFigure_6 : decode cX4_takesFigure 6 = .ok (.iload_n 2, 1) := by decide +kernel
theorem dX4_takesFigure_7 : decode cX4_takesFigure 7 = .ok (.ifCond .lt 7, 3) := by decide +kernel
theorem dX4_takesFigure_10 : decode cX4_takesFigure 10 = .ok (.iconst 1, 1) := by decide +kernel
theorem dX4_takesFigure_11 : decode cX4_takesFigure 11 = .ok (.goto 4, 3) := by decide +kernel
theorem dX4_takesFigure_14 : decode cX4_takesFigure 14 = .ok (.iconst 0, 1) := by decide +kernel
theorem dX4_takesFigure_15 : decode cX4_takesFigure 15 = .ok (.bipush 6, 2) := by decide +kernel
theorem dX4_takesFigure_17 : decode cX4_takesFigure 17 = .ok (.iload_n 2, 1) := by decide +kernel
theorem dX4_takesFigure_18 : decode cX4_takesFigure 18 = .ok (.iadd, 1) := by decide +kernel
theorem dX4_takesFigure_19 : decode cX4_takesFigure 19 = .ok (.bipush 8, 2) := by decide +kernel
theorem dX4_takesFigure_21 : decode cX4_takesFigure 21 = .ok (.invokevirtual 84, 3) := by decide +kernel
theorem dX4_takesFigure_24 : decode cX4_takesFigure 24 = .ok (.ireturn, 1) := by decide +kernel
theorem dX4_addsToStep_0 : decode cX4_addsToStep 0 = .ok (.iload_n 1, 1) := by decide +kernel
theorem dX4_addsToStep_1 : decode cX4_addsToStep 1 = .ok (.ifCond .eq 25, 3) := by decide +kernel
theorem dX4_addsToStep_4 : decode cX4_addsToStep 4 = .ok (.aload_n 0, 1) := by decide +kernel
theorem dX4_addsToStep_5 : decode cX4_addsToStep 5 = .ok (.getfield 19, 3) := by decide +kernel
theorem dX4_addsToStep_8 : decode cX4_addsToStep 8 = .ok (.ifCond .le 18, 3) := by decide +kernel
theorem dX4_addsToStep_11 : decode cX4_addsToStep 11 = .ok (.aload_n 0, 1) := by decide +kernel
theorem dX4_addsToStep_12 : decode cX4_addsToStep 12 = .ok (.getfield 9, 3) := by decide +kernel
theorem dX4_addsToStep_15 : decode cX4_addsToStep 15 = .ok (.aload_n 0, 1) := by decide +kernel
theorem dX4_addsToStep_16 : decode cX4_addsToStep 16 = .ok (.getfield 19, 3) := by decide +kernel
theorem dX4_addsToStep_19 : decode cX4_addsToStep 19 = .ok (.iconst 1, 1) := by decide +kernel
theorem dX4_addsToStep_20 : decode cX4_addsToStep 20 = .ok (.isub, 1) := by decide +kernel
theorem dX4_addsToStep_21 : decode cX4_addsToStep 21 = .ok (.dup2, 1) := by decide +kernel
theorem dX4_addsToStep_22 : decode cX4_addsToStep 22 = .ok (.iaload, 1) := by decide +kernel
theorem dX4_addsToStep_23 : decode cX4_addsToStep 23 = .ok (.iload_n 2, 1) := by decide +kernel
theorem dX4_addsToStep_24 : decode cX4_addsToStep 24 = .ok (.iadd, 1) := by decide +kernel
theorem dX4_addsToStep_25 : decode cX4_addsToStep 25 = .ok (.iastore, 1) := by decide +kernel
theorem dX4_addsToStep_26 : decode cX4_addsToStep 26 = .ok (.aload_n 0, 1) := by decide +kernel
theorem dX4_addsToStep_27 : decode cX4_addsToStep 27 = .ok (.iload_n 1, 1) := by decide +kernel
theorem dX4_addsToStep_28 : decode cX4_addsToStep 28 = .ok (.iload_n 3, 1) := by decide +kernel
theorem dX4_addsToStep_29 : decode cX4_addsToStep 29 = .ok (.invokevirtual 22, 3) := by decide +kernel
theorem dX4_addsToStep_32 : decode cX4_addsToStep 32 = .ok (.ireturn, 1) := by decide +kernel
theorem dX4_takesNextStep_0 : decode cX4_takesNextStep 0 = .ok (.iload_n 1, 1) := by decide +kernel
theorem dX4_takesNextStep_1 : decode cX4_takesNextStep 1 = .ok (.bipush 46, 2) := by decide +kernel
theorem dX4_takesNextStep_3 : decode cX4_takesNextStep 3 = .ok (.if_icmp .eq 9, 3) := by decide +kernel
theorem dX4_takesNextStep_6 : decode cX4_takesNextStep 6 = .ok (.aload_n 0, 1) := by decide +kernel
theorem dX4_takesNextStep_7 : decode cX4_takesNextStep 7 = .ok (.iload_n 1, 1) := by decide +kernel
theorem dX4_takesNextStep_8 : decode cX4_takesNextStep 8 = .ok (.invokevirtual 40, 3) := by decide +kernel
theorem dX4_takesNextStep_11 : decode cX4_takesNextStep 11 = .ok (.ireturn, 1) := by decide +kernel
theorem dX4_takesNextStep_12 : decode cX4_takesNextStep 12 = .ok (.aload_n 2, 1) := by decide +kernel
theorem dX4_takesNextStep_13 : decode cX4_takesNextStep 13 = .ok (.aload_n 0, 1) := by decide +kernel
theorem dX4_takesNextStep_14 : decode cX4_takesNextStep 14 = .ok (.getfield 9, 3) := by decide +kernel
theorem dX4_takesNextStep_17 : decode cX4_takesNextStep 17 = .ok (.aload_n 0, 1) := by decide +kernel
theorem dX4_takesNextStep_18 : decode cX4_takesNextStep 18 = .ok (.getfield 19, 3) := by decide +kernel
theorem dX4_takesNextStep_21 : decode cX4_takesNextStep 21 = .ok (.invokevirtual 88, 3) := by decide +kernel
theorem dX4_takesNextStep_24 : decode cX4_takesNextStep 24 = .ok (.aload_n 0, 1) := by decide +kernel
theorem dX4_takesNextStep_25 : decode cX4_takesNextStep 25 = .ok (.iconst 1, 1) := by decide +kernel
theorem dX4_takesNextStep_26 : decode cX4_takesNextStep 26 = .ok (.iconst 1, 1) := by decide +kernel
theorem dX4_takesNextStep_27 : decode cX4_takesNextStep 27 = .ok (.invokevirtual 22, 3) := by decide +kernel
theorem dX4_takesNextStep_30 : decode cX4_takesNextStep 30 = .ok (.ireturn, 1) := by decide +kernel
theorem dX4_nameOf_0 : decode cX4_nameOf 0 = .ok (.iload_n 0, 1) := by decide +kernel
theorem dX4_nameOf_1 : decode cX4_nameOf 1 = .ok (.bipush 97, 2) := by decide +kernel
theorem dX4_nameOf_3 : decode cX4_nameOf 3 = .ok (.if_icmp .lt 16, 3) := by decide +kernel
theorem dX4_nameOf_6 : decode cX4_nameOf 6 = .ok (.iload_n 0, 1) := by decide +kernel
theorem dX4_nameOf_7 : decode cX4_nameOf 7 = .ok (.bipush 101, 2) := by decide +kernel
theorem dX4_nameOf_9 : decode cX4_nameOf 9 = .ok (.if_icmp .gt 10, 3) := by decide +kernel
theorem dX4_nameOf_12 : decode cX4_nameOf 12 = .ok (.iload_n 0, 1) := by decide +kernel
theorem dX4_nameOf_13 : decode cX4_nameOf 13 = .ok (.bipush 97, 2) := by decide +kernel
theorem dX4_nameOf_15 : decode cX4_nameOf 15 = .ok (.isub, 1) := by decide +kernel
theorem dX4_nameOf_16 : decode cX4_nameOf 16 = .ok (.goto 5, 3) := by decide +kernel
theorem dX4_nameOf_19 : decode cX4_nameOf 19 = .ok (.bipush (-9), 2) := by decide +kernel
theorem dX4_nameOf_21 : decode cX4_nameOf 21 = .ok (.ireturn, 1) := by decide +kernel
theorem dX4_figureOf_0 : decode cX4_figureOf 0 = .ok (.iload_n 0, 1) := by decide +kernel
theorem dX4_figureOf_1 : decode cX4_figureOf 1 = .ok (.bipush 48, 2) := by decide +kernel
theorem dX4_figureOf_3 : decode cX4_figureOf 3 = .ok (.if_icmp .lt 16, 3) := by decide +kernel
theorem dX4_figureOf_6 : decode cX4_figureOf 6 = .ok (.iload_n 0, 1) := by decide +kernel
theorem dX4_figureOf_7 : decode cX4_figureOf 7 = .ok (.bipush 57, 2) := by decide +kernel
theorem dX4_figureOf_9 : decode cX4_figureOf 9 = .ok (.if_icmp .gt 10, 3) := by decide +kernel
theorem dX4_figureOf_12 : decode cX4_figureOf 12 = .ok (.iload_n 0, 1) := by decide +kernel
theorem dX4_figureOf_13 : decode cX4_figureOf 13 = .ok (.bipush 48, 2) := by decide +kernel
theorem dX4_figureOf_15 : decode cX4_figureOf 15 = .ok (.isub, 1) := by decide +kernel
theorem dX4_figureOf_16 : decode cX4_figureOf 16 = .ok (.goto 5, 3) := by decide +kernel
theorem dX4_figureOf_19 : decode cX4_figureOf 19 = .ok (.bipush (-9), 2) := by decide +kernel
theorem dX4_figureOf_21 : decode cX4_figureOf 21 = .ok (.ireturn, 1) := by decide +kernel
theorem dX5_init_0 : decode cX5_init 0 = .ok (.aload_n 0, 1) := by decide +kernel
theorem dX5_init_1 : decode cX5_init 1 = .ok (.invokespecial 1, 3) := by decide +kernel
theorem dX5_init_4 : decode cX5_init 4 = .ok (.aload_n 0, 1) := by decide +kernel
theorem dX5_init_5 : decode cX5_init 5 = .ok (.new 7, 3) := by decide +kernel
theorem dX5_init_8 : decode cX5_init 8 = .ok (.dup, 1) := by decide +kernel
theorem dX5_init_9 : decode cX5_init 9 = .ok (.invokespecial 9, 3) := by decide +kernel
theorem dX5_init_12 : decode cX5_init 12 = .ok (.putfield 10, 3) := by decide +kernel
theorem dX5_init_15 : decode cX5_init 15 = .ok (.aload_n 0, 1) := by decide +kernel
theorem dX5_init_16 : decode cX5_init 16 = .ok (.new 7, 3) := by decide +kernel
theorem dX5_init_19 : decode cX5_init 19 = .ok (.dup, 1) := by decide +kernel
theorem dX5_init_20 : decode cX5_init 20 = .ok (.invokespecial 9, 3) := by decide +kernel
theorem dX5_init_23 : decode cX5_init 23 = .ok (.putfield 16, 3) := by decide +kernel
theorem dX5_init_26 : decode cX5_init 26 = .ok (.aload_n 0, 1) := by decide +kernel
theorem dX5_init_27 : decode cX5_init 27 = .ok (.bipush 14, 2) := by decide +kernel
theorem dX5_init_29 : decode cX5_init 29 = .ok (.anewarray 7, 3) := by decide +kernel
theorem dX5_init_32 : decode cX5_init 32 = .ok (.putfield 19, 3) := by decide +kernel
theorem dX5_init_35 : decode cX5_init 35 = .ok (.aload_n 0, 1) := by decide +kernel
theorem dX5_init_36 : decode cX5_init 36 = .ok (.iconst 2, 1) := by decide +kernel
theorem dX5_init_37 : decode cX5_init 37 = .ok (.anewarray 7, 3) := by decide +kernel
theorem dX5_init_40 : decode cX5_init 40 = .ok (.putfield 23, 3) := by decide +kernel
theorem dX5_init_43 : decode cX5_init 43 = .ok (.aload_n 0, 1) := by decide +kernel
theorem dX5_init_44 : decode cX5_init 44 = .ok (.iconst 2, 1) := by decide +kernel
theorem dX5_init_45 : decode cX5_init 45 = .ok (.newarray .boolean, 2) := by decide +kernel
theorem dX5_init_47 : decode cX5_init 47 = .ok (.putfield 26, 3) := by decide +kernel
theorem dX5_init_50 : decode cX5_init 50 = .ok (.aload_n 0, 1) := by decide +kernel
theorem dX5_init_51 : decode cX5_init 51 = .ok (.new 30, 3) := by decide +kernel
theorem dX5_init_54 : decode cX5_init 54 = .ok (.dup, 1) := by decide +kernel
theorem dX5_init_55 : decode cX5_init 55 = .ok (.invokespecial 32, 3) := by decide +kernel
theorem dX5_init_58 : decode cX5_init 58 = .ok (.putfield 33, 3) := by decide +kernel
theorem dX5_init_61 : decode cX5_init 61 = .ok (.aload_n 0, 1) := by decide +kernel
theorem dX5_init_62 : decode cX5_init 62 = .ok (.new 37, 3) := by decide +kernel
theorem dX5_init_65 : decode cX5_init 65 = .ok (.dup, 1) := by decide +kernel
theorem dX5_init_66 : decode cX5_init 66 = .ok (.invokespecial 39, 3) := by decide +kernel
theorem dX5_init_69 : decode cX5_init 69 = .ok (.putfield 40, 3) := by decide +kernel
theorem dX5_init_72 : decode cX5_init 72 = .ok (.aload_n 0, 1) := by decide +kernel
theorem dX5_init_73 : decode cX5_init 73 = .ok (.bipush 99, 2) := by decide +kernel
theorem dX5_init_75 : decode cX5_init 75 = .ok (.newarray .char, 2) := by decide +kernel
theorem dX5_init_77 : decode cX5_init 77 = .ok (.putfield 44, 3) := by decide +kernel
theorem dX5_init_80 : decode cX5_init 80 = .ok (.aload_n 0, 1) := by decide +kernel
theorem dX5_init_81 : decode cX5_init 81 = .ok (.bipush 6, 2) := by decide +kernel
theorem dX5_init_83 : decode cX5_init 83 = .ok (.newarray .int, 2) := by decide +kernel
theorem dX5_init_85 : decode cX5_init 85 = .ok (.putfield 48, 3) := by decide +kernel
theorem dX5_init_88 : decode cX5_init 88 = .ok (.aload_n 0, 1) := by decide +kernel
theorem dX5_init_89 : decode cX5_init 89 = .ok (.bipush 6, 2) := by decide +kernel
theorem dX5_init_91 : decode cX5_init 91 = .ok (.newarray .int, 2) := by decide +kernel
theorem dX5_init_93 : decode cX5_init 93 = .ok (.putfield 52, 3) := by decide +kernel
theorem dX5_init_96 : decode cX5_init 96 = .ok (.aload_n 0, 1) := by decide +kernel
theorem dX5_init_97 : decode cX5_init 97 = .ok (.iconst 4, 1) := by decide +kernel
theorem dX5_init_98 : decode cX5_init 98 = .ok (.newarray .int, 2) := by decide +kernel
theorem dX5_init_100 : decode cX5_init 100 = .ok (.putfield 55, 3) := by decide +kernel
theorem dX5_init_103 : decode cX5_init 103 = .ok (.aload_n 0, 1) := by decide +kernel
theorem dX5_init_104 : decode cX5_init 104 = .ok (.iconst 5, 1) := by decide +kernel
theorem dX5_init_105 : decode cX5_init 105 = .ok (.newarray .int, 2) := by decide +kernel
theorem dX5_init_107 : decode cX5_init 107 = .ok (.putfield 58, 3) := by decide +kernel
theorem dX5_init_110 : decode cX5_init 110 = .ok (.iconst 0, 1) := by decide +kernel
theorem dX5_init_111 : decode cX5_init 111 = .ok (.istore_n 1, 1) := by decide +kernel
theorem dX5_init_112 : decode cX5_init 112 = .ok (.iload_n 1, 1) := by decide +kernel
theorem dX5_init_113 : decode cX5_init 113 = .ok (.bipush 14, 2) := by decide +kernel
theorem dX5_init_115 : decode cX5_init 115 = .ok (.if_icmp .ge 22, 3) := by decide +kernel
theorem dX5_init_118 : decode cX5_init 118 = .ok (.aload_n 0, 1) := by decide +kernel
theorem dX5_init_119 : decode cX5_init 119 = .ok (.getfield 19, 3) := by decide +kernel
theorem dX5_init_122 : decode cX5_init 122 = .ok (.iload_n 1, 1) := by decide +kernel
theorem dX5_init_123 : decode cX5_init 123 = .ok (.new 7, 3) := by decide +kernel
theorem dX5_init_126 : decode cX5_init 126 = .ok (.dup, 1) := by decide +kernel
theorem dX5_init_127 : decode cX5_init 127 = .ok (.invokespecial 9, 3) := by decide +kernel
theorem dX5_init_130 : decode cX5_init 130 = .ok (.aastore, 1) := by decide +kernel
theorem dX5_init_131 : decode cX5_init 131 = .ok (.iinc 1 1, 3) := by decide +kernel
theorem dX5_init_134 : decode cX5_init 134 = .ok (.goto (-22), 3) := by decide +kernel
theorem dX5_init_137 : decode cX5_init 137 = .ok (.iconst 0, 1) := by decide +kernel
theorem dX5_init_138 : decode cX5_init 138 = .ok (.istore_n 1, 1) := by decide +kernel
theorem dX5_init_139 : decode cX5_init 139 = .ok (.iload_n 1, 1) := by decide +kernel
theorem dX5_init_140 : decode cX5_init 140 = .ok (.iconst 2, 1) := by decide +kernel
theorem dX5_init_141 : decode cX5_init 141 = .ok (.if_icmp .ge 22, 3) := by decide +kernel
theorem dX5_init_144 : decode cX5_init 144 = .ok (.aload_n 0, 1) := by decide +kernel
theorem dX5_init_145 : decode cX5_init 145 = .ok (.getfield 23, 3) := by decide +kernel
theorem dX5_init_148 : decode cX5_init 148 = .ok (.iload_n 1, 1) := by decide +kernel
theorem dX5_init_149 : decode cX5_init 149 = .ok (.new 7, 3) := by decide +kernel
theorem dX5_init_152 : decode cX5_init 152 = .ok (.dup, 1) := by decide +kernel
theorem dX5_init_153 : decode cX5_init 153 = .ok (.invokespecial 9, 3) := by decide +kernel
theorem dX5_init_156 : decode cX5_init 156 = .ok (.aastore, 1) := by decide +kernel
theorem dX5_init_157 : decode cX5_init 157 = .ok (.iinc 1 1, 3) := by decide +kernel
theorem dX5_init_160 : decode cX5_init 160 = .ok (.goto (-21), 3) := by decide +kernel
theorem dX5_init_163 : decode cX5_init 163 = .ok (.return_, 1) := by decide +kernel
theorem dX5_write_0 : decode cX5_write 0 = .ok (.iload_n 1, 1) := by decide +kernel
theorem dX5_write_1 : decode cX5_write 1 = .ok (.ifCond .lt 10, 3) := by decide +kernel
theorem dX5_write_4 : decode cX5_write 4 = .ok (.iload_n 1, 1) := by decide +kernel
theorem dX5_write_5 : decode cX5_write 5 = .ok (.sipush 255, 3) := by decide +kernel
theorem dX5_write_8 : decode cX5_write 8 = .ok (.if_icmp .le 6, 3) := by decide +kernel
theorem dX5_write_11 : decode cX5_write 11 = .ok (.bipush (-2), 2) := by decide +kernel
theorem dX5_write_13 : decode cX5_write 13 = .ok (.ireturn, 1) := by decide +kernel
theorem dX5_write_14 : decode cX5_write 14 = .ok (.aload_n 0, 1) := by decide +kernel
theorem dX5_write_15 : decode cX5_write 15 = .ok (.getfield 61, 3) := by decide +kernel
theorem dX5_write_18 : decode cX5_write 18 = .ok (.bipush 99, 2) := by decide +kernel
theorem dX5_write_20 : decode cX5_write 20 = .ok (.if_icmp .lt 6, 3) := by decide +kernel
theorem dX5_write_23 : decode cX5_write 23 = .ok (.bipush (-4), 2) := by decide +kernel
theorem dX5_write_25 : decode cX5_write 25 = .ok (.ireturn, 1) := by decide +kernel
theorem dX5_write_26 : decode cX5_write 26 = .ok (.aload_n 0, 1) := by decide +kernel
theorem dX5_write_27 : decode cX5_write 27 = .ok (.getfield 44, 3) := by decide +kernel
theorem dX5_write_30 : decode cX5_write 30 = .ok (.aload_n 0, 1) := by decide +kernel
theorem dX5_write_31 : decode cX5_write 31 = .ok (.getfield 61, 3) := by decide +kernel
theorem dX5_write_34 : decode cX5_write 34 = .ok (.iload_n 1, 1) := by decide +kernel
theorem dX5_write_35 : decode cX5_write 35 = .ok (.i2c, 1) := by decide +kernel
theorem dX5_write_36 : decode cX5_write 36 = .ok (.castore, 1) := by decide +kernel
theorem dX5_write_37 : decode cX5_write 37 = .ok (.aload_n 0, 1) := by decide +kernel
theorem dX5_write_38 : decode cX5_write 38 = .ok (.dup, 1) := by decide +kernel
theorem dX5_write_39 : decode cX5_write 39 = .ok (.getfield 61, 3) := by decide +kernel
theorem dX5_write_42 : decode cX5_write 42 = .ok (.iconst 1, 1) := by decide +kernel
theorem dX5_write_43 : decode cX5_write 43 = .ok (.iadd, 1) := by decide +kernel
theorem dX5_write_44 : decode cX5_write 44 = .ok (.putfield 61, 3) := by decide +kernel
theorem dX5_write_47 : decode cX5_write 47 = .ok (.aload_n 0, 1) := by decide +kernel
theorem dX5_write_48 : decode cX5_write 48 = .ok (.getfield 61, 3) := by decide +kernel
theorem dX5_write_51 : decode cX5_write 51 = .ok (.ireturn, 1) := by decide +kernel
theorem dX5_wipe_0 : decode cX5_wipe 0 = .ok (.aload_n 0, 1) := by decide +kernel
theorem dX5_wipe_1 : decode cX5_wipe 1 = .ok (.getfield 61, 3) := by decide +kernel
theorem dX5_wipe_4 : decode cX5_wipe 4 = .ok (.istore_n 1, 1) := by decide +kernel
theorem dX5_wipe_5 : decode cX5_wipe 5 = .ok (.aload_n 0, 1) := by decide +kernel
theorem dX5_wipe_6 : decode cX5_wipe 6 = .ok (.iconst 0, 1) := by decide +kernel
theorem dX5_wipe_7 : decode cX5_wipe 7 = .ok (.putfield 61, 3) := by decide +kernel
theorem dX5_wipe_10 : decode cX5_wipe 10 = .ok (.iload_n 1, 1) := by decide +kernel
theorem dX5_wipe_11 : decode cX5_wipe 11 = .ok (.ireturn, 1) := by decide +kernel
theorem dX5_fault_0 : decode cX5_fault 0 = .ok (.aload_n 0, 1) := by decide +kernel
theorem dX5_fault_1 : decode cX5_fault 1 = .ok (.iconst 0, 1) := by decide +kernel
theorem dX5_fault_2 : decode cX5_fault 2 = .ok (.invokevirtual 65, 3) := by decide +kernel
theorem dX5_fault_5 : decode cX5_fault 5 = .ok (.ireturn, 1) := by decide +kernel
theorem dX5_task_0 : decode cX5_task 0 = .ok (.aload_n 0, 1) := by decide +kernel
theorem dX5_task_1 : decode cX5_task 1 = .ok (.iconst 1, 1) := by decide +kernel
theorem dX5_task_2 : decode cX5_task 2 = .ok (.invokevirtual 65, 3) := by decide +kernel
theorem dX5_task_5 : decode cX5_task 5 = .ok (.bipush (-9), 2) := by decide +kernel
theorem dX5_task_7 : decode cX5_task 7 = .ok (.if_icmp .eq 6, 3) := by decide +kernel
theorem dX5_task_10 : decode cX5_task 10 = .ok (.bipush (-3), 2) := by decide +kernel
theorem dX5_task_12 : decode cX5_task 12 = .ok (.ireturn, 1) := by decide +kernel
theorem dX5_task_13 : decode cX5_task 13 = .ok (.aload_n 0, 1) := by decide +kernel
theorem dX5_task_14 : decode cX5_task 14 = .ok (.getfield 10, 3) := by decide +kernel
theorem dX5_task_17 : decode cX5_task 17 = .ok (.aload_n 0, 1) := by decide +kernel
theorem dX5_task_18 : decode cX5_task 18 = .ok (.getfield 16, 3) := by decide +kernel
theorem dX5_task_21 : decode cX5_task 21 = .ok (.invokevirtual 69, 3) := by decide +kernel
theorem dX5_task_24 : decode cX5_task 24 = .ok (.aload_n 0, 1) := by decide +kernel
theorem dX5_task_25 : decode cX5_task 25 = .ok (.invokevirtual 73, 3) := by decide +kernel
theorem dX5_task_28 : decode cX5_task 28 = .ok (.iconst 0, 1) := by decide +kernel
theorem dX5_task_29 : decode cX5_task 29 = .ok (.istore_n 1, 1) := by decide +kernel
theorem dX5_task_30 : decode cX5_task 30 = .ok (.iload_n 1, 1) := by decide +kernel
theorem dX5_task_31 : decode cX5_task 31 = .ok (.iconst 2, 1) := by decide +kernel
theorem dX5_task_32 : decode cX5_task 32 = .ok (.if_icmp .ge 16, 3) := by decide +kernel
theorem dX5_task_35 : decode cX5_task 35 = .ok (.aload_n 0, 1) := by decide +kernel
theorem dX5_task_36 : decode cX5_task 36 = .ok (.getfield 26, 3) := by decide +kernel
theorem dX5_task_39 : decode cX5_task 39 = .ok (.iload_n 1, 1) := by decide +kernel
theorem dX5_task_40 : decode cX5_task 40 = .ok (.iconst 0, 1) := by decide +kernel
theorem dX5_task_41 : decode cX5_task 41 = .ok (.bastore, 1) := by decide +kernel
theorem dX5_task_42 : decode cX5_task 42 = .ok (.iinc 1 1, 3) := by decide +kernel
theorem dX5_task_45 : decode cX5_task 45 = .ok (.goto (-15), 3) := by decide +kernel
theorem dX5_task_48 : decode cX5_task 48 = .ok (.aload_n 0, 1) := by decide +kernel
theorem dX5_task_49 : decode cX5_task 49 = .ok (.getfield 10, 3) := by decide +kernel
theorem dX5_task_52 : decode cX5_task 52 = .ok (.getfield 76, 3) := by decide +kernel
theorem dX5_task_55 : decode cX5_task 55 = .ok (.ireturn, 1) := by decide +kernel
theorem dX5_about_0 : decode cX5_about 0 = .ok (.iload_n 1, 1) := by decide +kernel
theorem dX5_about_1 : decode cX5_about 1 = .ok (.tableswitch 126 0 8 #[51, 59, 70, 81, 92, 103, 111, 116, 121], 51) := by decide +kernel
theorem dX5_about_52 : decode cX5_about 52 = .ok (.aload_n 0, 1) := by decide +kernel
theorem dX5_about_53 : decode cX5_about 53 = .ok (.getfield 10, 3) := by decide +kernel
theorem dX5_about_56 : decode cX5_about 56 = .ok (.getfield 76, 3) := by decide +kernel
theorem dX5_about_59 : decode cX5_about 59 = .ok (.ireturn, 1) := by decide +kernel
theorem dX5_about_60 : decode cX5_about 60 = .ok (.aload_n 0, 1) := by decide +kernel
theorem dX5_about_61 : decode cX5_about 61 = .ok (.getfield 10, 3) := by decide +kernel
theorem dX5_about_64 : decode cX5_about 64 = .ok (.getfield 79, 3) := by decide +kernel
theorem dX5_about_67 : decode cX5_about 67 = .ok (.getfield 83, 3) := by decide +kernel
theorem dX5_about_70 : decode cX5_about 70 = .ok (.ireturn, 1) := by decide +kernel
theorem dX5_about_71 : decode cX5_about 71 = .ok (.aload_n 0, 1) := by decide +kernel
theorem dX5_about_72 : decode cX5_about 72 = .ok (.getfield 10, 3) := by decide +kernel
theorem dX5_about_75 : decode cX5_about 75 = .ok (.getfield 79, 3) := by decide +kernel
theorem dX5_about_78 : decode cX5_about 78 = .ok (.getfield 88, 3) := by decide +kernel
theorem dX5_about_81 : decode cX5_about 81 = .ok (.ireturn, 1) := by decide +kernel
theorem dX5_about_82 : decode cX5_about 82 = .ok (.aload_n 0, 1) := by decide +kernel
theorem dX5_about_83 : decode cX5_about 83 = .ok (.getfield 10, 3) := by decide +kernel
theorem dX5_about_86 : decode cX5_about 86 = .ok (.getfield 79, 3) := by decide +kernel
theorem dX5_about_89 : decode cX5_about 89 = .ok (.invokevirtual 91, 3) := by decide +kernel
theorem dX5_about_92 : decode cX5_about 92 = .ok (.ireturn, 1) := by decide +kernel
theorem dX5_about_93 : decode cX5_about 93 = .ok (.aload_n 0, 1) := by decide +kernel
theorem dX5_about_94 : decode cX5_about 94 = .ok (.getfield 10, 3) := by decide +kernel
theorem dX5_about_97 : decode cX5_about 97 = .ok (.getfield 79, 3) := by decide +kernel
theorem dX5_about_100 : decode cX5_about 100 = .ok (.getfield 95, 3) := by decide +kernel
theorem dX5_about_103 : decode cX5_about 103 = .ok (.ireturn, 1) := by decide +kernel
theorem dX5_about_104 : decode cX5_about 104 = .ok (.aload_n 0, 1) := by decide +kernel
theorem dX5_about_105 : decode cX5_about 105 = .ok (.getfield 10, 3) := by decide +kernel
theorem dX5_about_108 : decode cX5_about 108 = .ok (.invokevirtual 98, 3) := by decide +kernel
theorem dX5_about_111 : decode cX5_about 111 = .ok (.ireturn, 1) := by decide +kernel
theorem dX5_about_112 : decode cX5_about 112 = .ok (.aload_n 0, 1) := by decide +kernel
theorem dX5_about_113 : decode cX5_about 113 = .ok (.getfield 101, 3) := by decide +kernel
theorem dX5_about_116 : decode cX5_about 116 = .ok (.ireturn, 1) := by decide +kernel
theorem dX5_about_117 : decode cX5_about 117 = .ok (.aload_n 0, 1) := by decide +kernel
theorem dX5_about_118 : decode cX5_about 118 = .ok (.getfield 104, 3) := by decide +kernel
theorem dX5_about_121 : decode cX5_about 121 = .ok (.ireturn, 1) := by decide +kernel
theorem dX5_about_122 : decode cX5_about 122 = .ok (.aload_n 0, 1) := by decide +kernel
theorem dX5_about_123 : decode cX5_about 123 = .ok (.getfield 61, 3) := by decide +kernel
theorem dX5_about_126 : decode cX5_about 126 = .ok (.ireturn, 1) := by decide +kernel
theorem dX5_about_127 : decode cX5_about 127 = .ok (.bipush (-2), 2) := by decide +kernel
theorem dX5_about_129 : decode cX5_about 129 = .ok (.ireturn, 1) := by decide +kernel
theorem dX5_element_0 : decode cX5_element 0 = .ok (.aload_n 0, 1) := by decide +kernel
theorem dX5_element_1 : decode cX5_element 1 = .ok (.iload_n 1, 1) := by decide +kernel
theorem dX5_element_2 : decode cX5_element 2 = .ok (.invokevirtual 107, 3) := by decide +kernel
theorem dX5_element_5 : decode cX5_element 5 = .ok (.ifCond .ne 5, 3) := by decide +kernel
theorem dX5_element_8 : decode cX5_element 8 = .ok (.iconst (-1), 1) := by decide +kernel
theorem dX5_element_9 : decode cX5_element 9 = .ok (.ireturn, 1) := by decide +kernel
theorem dX5_element_10 : decode cX5_element 10 = .ok (.aload_n 0, 1) := by decide +kernel
theorem dX5_element_11 : decode cX5_element 11 = .ok (.getfield 10, 3) := by decide +kernel
theorem dX5_element_14 : decode cX5_element 14 = .ok (.getfield 79, 3) := by decide +kernel
theorem dX5_element_17 : decode cX5_element 17 = .ok (.astore_n 3, 1) := by decide +kernel
theorem dX5_element_18 : decode cX5_element 18 = .ok (.iload_n 2, 1) := by decide +kernel
theorem dX5_element_19 : decode cX5_element 19 = .ok (.tableswitch 81 0 5 #[37, 44, 51, 58, 67, 74], 37) := by decide +kernel
theorem dX5_element_56 : decode cX5_element 56 = .ok (.aload_n 3, 1) := by decide +kernel
theorem dX5_element_57 : decode cX5_element 57 = .ok (.getfield 111, 3) := by decide +kernel
theorem dX5_element_60 : decode cX5_element 60 = .ok (.iload_n 1, 1) := by decide +kernel
theorem dX5_element_61 : decode cX5_element 61 = .ok (.iaload, 1) := by decide +kernel
theorem dX5_element_62 : decode cX5_element 62 = .ok (.ireturn, 1) := by decide +kernel
theorem dX5_element_63 : decode cX5_element 63 = .ok (.aload_n 3, 1) := by decide +kernel
theorem dX5_element_64 : decode cX5_element 64 = .ok (.getfield 114, 3) := by decide +kernel
theorem dX5_element_67 : decode cX5_element 67 = .ok (.iload_n 1, 1) := by decide +kernel
theorem dX5_element_68 : decode cX5_element 68 = .ok (.iaload, 1) := by decide +kernel
theorem dX5_element_69 : decode cX5_element 69 = .ok (.ireturn, 1) := by decide +kernel
theorem dX5_element_70 : decode cX5_element 70 = .ok (.aload_n 3, 1) := by decide +kernel
theorem dX5_element_71 : decode cX5_element 71 = .ok (.getfield 117, 3) := by decide +kernel
theorem dX5_element_74 : decode cX5_element 74 = .ok (.iload_n 1, 1) := by decide +kernel
theorem dX5_element_75 : decode cX5_element 75 = .ok (.iaload, 1) := by decide +kernel
theorem dX5_element_76 : decode cX5_element 76 = .ok (.ireturn, 1) := by decide +kernel
theorem dX5_element_77 : decode cX5_element 77 = .ok (.aload_n 3, 1) := by decide +kernel
theorem dX5_element_78 : decode cX5_element 78 = .ok (.getfield 120, 3) := by decide +kernel
theorem dX5_element_81 : decode cX5_element 81 = .ok (.iload_n 1, 1) := by decide +kernel
theorem dX5_element_82 : decode cX5_element 82 = .ok (.ishr, 1) := by decide +kernel
theorem dX5_element_83 : decode cX5_element 83 = .ok (.iconst 1, 1) := by decide +kernel
theorem dX5_element_84 : decode cX5_element 84 = .ok (.iand, 1) := by decide +kernel
theorem dX5_element_85 : decode cX5_element 85 = .ok (.ireturn, 1) := by decide +kernel
theorem dX5_element_86 : decode cX5_element 86 = .ok (.aload_n 3, 1) := by decide +kernel
theorem dX5_element_87 : decode cX5_element 87 = .ok (.getfield 123, 3) := by decide +kernel
theorem dX5_element_90 : decode cX5_element 90 = .ok (.iload_n 1, 1) := by decide +kernel
theorem dX5_element_91 : decode cX5_element 91 = .ok (.iaload, 1) := by decide +kernel
theorem dX5_element_92 : decode cX5_element 92 = .ok (.ireturn, 1) := by decide +kernel
theorem dX5_element_93 : decode cX5_element 93 = .ok (.aload_n 3, 1) := by decide +kernel
theorem dX5_element_94 : decode cX5_element 94 = .ok (.getfield 126, 3) := by decide +kernel
theorem dX5_element_97 : decode cX5_element 97 = .ok (.iload_n 1, 1) := by decide +kernel
theorem dX5_element_98 : decode cX5_element 98 = .ok (.iaload, 1) := by decide +kernel
theorem dX5_element_99 : decode cX5_element 99 = .ok (.ireturn, 1) := by decide +kernel
theorem dX5_element_100 : decode cX5_element 100 = .ok (.bipush (-2), 2) := by decide +kernel
theorem dX5_element_102 : decode cX5_element 102 = .ok (.ireturn, 1) := by decide +kernel
theorem dX5_path_0 : decode cX5_path 0 = .ok (.aload_n 0, 1) := by decide +kernel
theorem dX5_path_1 : decode cX5_path 1 = .ok (.iload_n 1, 1) := by decide +kernel
theorem dX5_path_2 : decode cX5_path 2 = .ok (.invokevirtual 129, 3) := by decide +kernel
theorem dX5_path_5 : decode cX5_path 5 = .ok (.ifCond .ne 5, 3) := by decide +kernel
theorem dX5_path_8 : decode cX5_path 8 = .ok (.iconst (-1), 1) := by decide +kernel
theorem dX5_path_9 : decode cX5_path 9 = .ok (.ireturn, 1) := by decide +kernel
theorem dX5_path_10 : decode cX5_path 10 = .ok (.iload_n 2, 1) := by decide +kernel
theorem dX5_path_11 : decode cX5_path 11 = .ok (.ifCond .lt 9, 3) := by decide +kernel
theorem dX5_path_14 : decode cX5_path 14 = .ok (.iload_n 2, 1) := by decide +kernel
theorem dX5_path_15 : decode cX5_path 15 = .ok (.bipush 6, 2) := by decide +kernel
theorem dX5_path_17 : decode cX5_path 17 = .ok (.if_icmp .le 6, 3) := by decide +kernel
theorem dX5_path_20 : decode cX5_path 20 = .ok (.bipush (-2), 2) := by decide +kernel
theorem dX5_path_22 : decode cX5_path 22 = .ok (.ireturn, 1) := by decide +kernel
theorem dX5_path_23 : decode cX5_path 23 = .ok (.aload_n 0, 1) := by decide +kernel
theorem dX5_path_24 : decode cX5_path 24 = .ok (.aload_n 0, 1) := by decide +kernel
theorem dX5_path_25 : decode cX5_path 25 = .ok (.getfield 10, 3) := by decide +kernel
theorem dX5_path_28 : decode cX5_path 28 = .ok (.iload_n 1, 1) := by decide +kernel
theorem dX5_path_29 : decode cX5_path 29 = .ok (.iload_n 2, 1) := by decide +kernel
theorem dX5_path_30 : decode cX5_path 30 = .ok (.invokevirtual 132, 3) := by decide +kernel
theorem dX5_path_33 : decode cX5_path 33 = .ok (.ireturn, 1) := by decide +kernel
theorem dX5_step_0 : decode cX5_step 0 = .ok (.aload_n 0, 1) := by decide +kernel
theorem dX5_step_1 : decode cX5_step 1 = .ok (.iload_n 1, 1) := by decide +kernel
theorem dX5_step_2 : decode cX5_step 2 = .ok (.invokevirtual 129, 3) := by decide +kernel
theorem dX5_step_5 : decode cX5_step 5 = .ok (.ifCond .eq 23, 3) := by decide +kernel
theorem dX5_step_8 : decode cX5_step 8 = .ok (.iload_n 2, 1) := by decide +kernel
theorem dX5_step_9 : decode cX5_step 9 = .ok (.ifCond .lt 19, 3) := by decide +kernel
theorem dX5_step_12 : decode cX5_step 12 = .ok (.iload_n 2, 1) := by decide +kernel
theorem dX5_step_13 : decode cX5_step 13 = .ok (.aload_n 0, 1) := by decide +kernel
theorem dX5_step_14 : decode cX5_step 14 = .ok (.getfield 10, 3) := by decide +kernel
theorem dX5_step_17 : decode cX5_step 17 = .ok (.getfield 136, 3) := by decide +kernel
theorem dX5_step_20 : decode cX5_step 20 = .ok (.iload_n 1, 1) := by decide +kernel
theorem dX5_step_21 : decode cX5_step 21 = .ok (.aaload, 1) := by decide +kernel
theorem dX5_step_22 : decode cX5_step 22 = .ok (.getfield 140, 3) := by decide +kernel
theorem dX5_step_25 : decode cX5_step 25 = .ok (.if_icmp .lt 5, 3) := by decide +kernel
theorem dX5_step_28 : decode cX5_step 28 = .ok (.iconst (-1), 1) := by decide +kernel
theorem dX5_step_29 : decode cX5_step 29 = .ok (.ireturn, 1) := by decide +kernel
theorem dX5_step_30 : decode cX5_step 30 = .ok (.aload_n 0, 1) := by decide +kernel
theorem dX5_step_31 : decode cX5_step 31 = .ok (.getfield 10, 3) := by decide +kernel
theorem dX5_step_34 : decode cX5_step 34 = .ok (.getfield 136, 3) := by decide +kernel
theorem dX5_step_37 : decode cX5_step 37 = .ok (.iload_n 1, 1) := by decide +kernel
theorem dX5_step_38 : decode cX5_step 38 = .ok (.aaload, 1) := by decide +kernel
theorem dX5_step_39 : decode cX5_step 39 = .ok (.getfield 145, 3) := by decide +kernel
theorem dX5_step_42 : decode cX5_step 42 = .ok (.iload_n 2, 1) := by decide +kernel
theorem dX5_step_43 : decode cX5_step 43 = .ok (.iaload, 1) := by decide +kernel
theorem dX5_step_44 : decode cX5_step 44 = .ok (.ireturn, 1) := by decide +kernel
theorem dX5_is_0 : decode cX5_is 0 = .ok (.aload_n 0, 1) := by decide +kernel
theorem dX5_is_1 : decode cX5_is 1 = .ok (.iload_n 1, 1) := by decide +kernel
theorem dX5_is_2 : decode cX5_is 2 = .ok (.invokevirtual 129, 3) := by decide +kernel
theorem dX5_is_5 : decode cX5_is 5 = .ok (.ifCond .eq 11, 3) := by decide +kernel
theorem dX5_is_8 : decode cX5_is 8 = .ok (.aload_n 0, 1) := by decide +kernel
theorem dX5_is_9 : decode cX5_is 9 = .ok (.iload_n 2, 1) := by decide +kernel
theorem dX5_is_10 : decode cX5_is 10 = .ok (.invokevirtual 107, 3) := by decide +kernel
theorem dX5_is_13 : decode cX5_is 13 = .ok (.ifCond .ne 5, 3) := by decide +kernel
theorem dX5_is_16 : decode cX5_is 16 = .ok (.iconst (-1), 1) := by decide +kernel
theorem dX5_is_17 : decode cX5_is 17 = .ok (.ireturn, 1) := by decide +kernel
theorem dX5_is_18 : decode cX5_is 18 = .ok (.aload_n 0, 1) := by decide +kernel
theorem dX5_is_19 : decode cX5_is 19 = .ok (.getfield 33, 3) := by decide +kernel
theorem dX5_is_22 : decode cX5_is 22 = .ok (.aload_n 0, 1) := by decide +kernel
theorem dX5_is_23 : decode cX5_is 23 = .ok (.getfield 10, 3) := by decide +kernel
theorem dX5_is_26 : decode cX5_is 26 = .ok (.getfield 79, 3) := by decide +kernel
theorem dX5_is_29 : decode cX5_is 29 = .ok (.aload_n 0, 1) := by decide +kernel
theorem dX5_is_30 : decode cX5_is 30 = .ok (.getfield 10, 3) := by decide +kernel
theorem dX5_is_33 : decode cX5_is 33 = .ok (.getfield 136, 3) := by decide +kernel
theorem dX5_is_36 : decode cX5_is 36 = .ok (.iload_n 1, 1) := by decide +kernel
theorem dX5_is_37 : decode cX5_is 37 = .ok (.aaload, 1) := by decide +kernel
theorem dX5_is_38 : decode cX5_is 38 = .ok (.invokevirtual 148, 3) := by decide +kernel
theorem dX5_is_41 : decode cX5_is 41 = .ok (.aload_n 0, 1) := by decide +kernel
theorem dX5_is_42 : decode cX5_is 42 = .ok (.getfield 33, 3) := by decide +kernel
theorem dX5_is_45 : decode cX5_is 45 = .ok (.getfield 152, 3) := by decide +kernel
theorem dX5_is_48 : decode cX5_is 48 = .ok (.iload_n 2, 1) := by decide +kernel
theorem dX5_is_49 : decode cX5_is 49 = .ok (.ishr, 1) := by decide +kernel
theorem dX5_is_50 : decode cX5_is 50 = .ok (.iconst 1, 1) := by decide +kernel
theorem dX5_is_51 : decode cX5_is 51 = .ok (.iand, 1) := by decide +kernel
theorem dX5_is_52 : decode cX5_is 52 = .ok (.ifCond .eq 5, 3) := by decide +kernel
theorem dX5_is_55 : decode cX5_is 55 = .ok (.iconst 2, 1) := by decide +kernel
theorem dX5_is_56 : decode cX5_is 56 = .ok (.ireturn, 1) := by decide +kernel
theorem dX5_is_57 : decode cX5_is 57 = .ok (.aload_n 0, 1) := by decide +kernel
theorem dX5_is_58 : decode cX5_is 58 = .ok (.getfield 33, 3) := by decide +kernel
theorem dX5_is_61 : decode cX5_is 61 = .ok (.getfield 155, 3) := by decide +kernel
theorem dX5_is_64 : decode cX5_is 64 = .ok (.iload_n 2, 1) := by decide +kernel
theorem dX5_is_65 : decode cX5_is 65 = .ok (.ishr, 1) := by decide +kernel
theorem dX5_is_66 : decode cX5_is 66 = .ok (.iconst 1, 1) := by decide +kernel
theorem dX5_is_67 : decode cX5_is 67 = .ok (.iand, 1) := by decide +kernel
theorem dX5_is_68 : decode cX5_is 68 = .ok (.ireturn, 1) := by decide +kernel
theorem dX5_ends_0 : decode cX5_ends 0 = .ok (.aload_n 0, 1) := by decide +kernel
theorem dX5_ends_1 : decode cX5_ends 1 = .ok (.iload_n 1, 1) := by decide +kernel
theorem dX5_ends_2 : decode cX5_ends 2 = .ok (.invokevirtual 129, 3) := by decide +kernel
theorem dX5_ends_5 : decode cX5_ends 5 = .ok (.ifCond .eq 11, 3) := by decide +kernel
theorem dX5_ends_8 : decode cX5_ends 8 = .ok (.aload_n 0, 1) := by decide +kernel
theorem dX5_ends_9 : decode cX5_ends 9 = .ok (.iload_n 2, 1) := by decide +kernel
theorem dX5_ends_10 : decode cX5_ends 10 = .ok (.invokevirtual 107, 3) := by decide +kernel
theorem dX5_ends_13 : decode cX5_ends 13 = .ok (.ifCond .ne 5, 3) := by decide +kernel
theorem dX5_ends_16 : decode cX5_ends 16 = .ok (.iconst (-1), 1) := by decide +kernel
theorem dX5_ends_17 : decode cX5_ends 17 = .ok (.ireturn, 1) := by decide +kernel
theorem dX5_ends_18 : decode cX5_ends 18 = .ok (.aload_n 0, 1) := by decide +kernel
theorem dX5_ends_19 : decode cX5_ends 19 = .ok (.getfield 33, 3) := by decide +kernel
theorem dX5_ends_22 : decode cX5_ends 22 = .ok (.aload_n 0, 1) := by decide +kernel
theorem dX5_ends_23 : decode cX5_ends 23 = .ok (.getfield 10, 3) := by decide +kernel
theorem dX5_ends_26 : decode cX5_ends 26 = .ok (.getfield 79, 3) := by decide +kernel
theorem dX5_ends_29 : decode cX5_ends 29 = .ok (.aload_n 0, 1) := by decide +kernel
theorem dX5_ends_30 : decode cX5_ends 30 = .ok (.getfield 10, 3) := by decide +kernel
theorem dX5_ends_33 : decode cX5_ends 33 = .ok (.getfield 136, 3) := by decide +kernel
theorem dX5_ends_36 : decode cX5_ends 36 = .ok (.iload_n 1, 1) := by decide +kernel
theorem dX5_ends_37 : decode cX5_ends 37 = .ok (.aaload, 1) := by decide +kernel
theorem dX5_ends_38 : decode cX5_ends 38 = .ok (.invokevirtual 148, 3) := by decide +kernel
theorem dX5_ends_41 : decode cX5_ends 41 = .ok (.aload_n 0, 1) := by decide +kernel
theorem dX5_ends_42 : decode cX5_ends 42 = .ok (.getfield 33, 3) := by decide +kernel
theorem dX5_ends_45 : decode cX5_ends 45 = .ok (.getfield 158, 3) := by decide +kernel
theorem dX5_ends_48 : decode cX5_ends 48 = .ok (.iload_n 2, 1) := by decide +kernel
theorem dX5_ends_49 : decode cX5_ends 49 = .ok (.iaload, 1) := by decide +kernel
theorem dX5_ends_50 : decode cX5_ends 50 = .ok (.ireturn, 1) := by decide +kernel
theorem dX5_out_0 : decode cX5_out 0 = .ok (.aload_n 0, 1) := by decide +kernel
theorem dX5_out_1 : decode cX5_out 1 = .ok (.iload_n 1, 1) := by decide +kernel
theorem dX5_out_2 : decode cX5_out 2 = .ok (.invokevirtual 129, 3) := by decide +kernel
theorem dX5_out_5 : decode cX5_out 5 = .ok (.ifCond .ne 5, 3) := by decide +kernel
theorem dX5_out_8 : decode cX5_out 8 = .ok (.iconst (-1), 1) := by decide +kernel
theorem dX5_out_9 : decode cX5_out 9 = .ok (.ireturn, 1) := by decide +kernel
theorem dX5_out_10 : decode cX5_out 10 = .ok (.aload_n 0, 1) := by decide +kernel
theorem dX5_out_11 : decode cX5_out 11 = .ok (.getfield 10, 3) := by decide +kernel
theorem dX5_out_14 : decode cX5_out 14 = .ok (.getfield 136, 3) := by decide +kernel
theorem dX5_out_17 : decode cX5_out 17 = .ok (.iload_n 1, 1) := by decide +kernel
theorem dX5_out_18 : decode cX5_out 18 = .ok (.aaload, 1) := by decide +kernel
theorem dX5_out_19 : decode cX5_out 19 = .ok (.astore 4, 2) := by decide +kernel
theorem dX5_out_21 : decode cX5_out 21 = .ok (.iload_n 2, 1) := by decide +kernel
theorem dX5_out_22 : decode cX5_out 22 = .ok (.ifCond .lt 12, 3) := by decide +kernel
theorem dX5_out_25 : decode cX5_out 25 = .ok (.iload_n 2, 1) := by decide +kernel
theorem dX5_out_26 : decode cX5_out 26 = .ok (.aload 4, 2) := by decide +kernel
theorem dX5_out_28 : decode cX5_out 28 = .ok (.getfield 161, 3) := by decide +kernel
theorem dX5_out_31 : decode cX5_out 31 = .ok (.if_icmp .lt 6, 3) := by decide +kernel
theorem dX5_out_34 : decode cX5_out 34 = .ok (.bipush (-9), 2) := by decide +kernel
theorem dX5_out_36 : decode cX5_out 36 = .ok (.ireturn, 1) := by decide +kernel
theorem dX5_out_37 : decode cX5_out 37 = .ok (.iload_n 3, 1) := by decide +kernel
theorem dX5_out_38 : decode cX5_out 38 = .ok (.ifCond .eq 13, 3) := by decide +kernel
theorem dX5_out_41 : decode cX5_out 41 = .ok (.aload 4, 2) := by decide +kernel
theorem dX5_out_43 : decode cX5_out 43 = .ok (.getfield 164, 3) := by decide +kernel
theorem dX5_out_46 : decode cX5_out 46 = .ok (.iload_n 2, 1) := by decide +kernel
theorem dX5_out_47 : decode cX5_out 47 = .ok (.iaload, 1) := by decide +kernel
theorem dX5_out_48 : decode cX5_out 48 = .ok (.goto 10, 3) := by decide +kernel
theorem dX5_out_51 : decode cX5_out 51 = .ok (.aload 4, 2) := by decide +kernel
theorem dX5_out_53 : decode cX5_out 53 = .ok (.getfield 167, 3) := by decide +kernel
theorem dX5_out_56 : decode cX5_out 56 = .ok (.iload_n 2, 1) := by decide +kernel
theorem dX5_out_57 : decode cX5_out 57 = .ok (.iaload, 1) := by decide +kernel
theorem dX5_out_58 : decode cX5_out 58 = .ok (.ireturn, 1) := by decide +kernel
theorem dX5_open_0 : decode cX5_open 0 = .ok (.iload_n 1, 1) := by decide +kernel
theorem dX5_open_1 : decode cX5_open 1 = .ok (.ifCond .lt 8, 3) := by decide +kernel
theorem dX5_open_4 : decode cX5_open 4 = .ok (.iload_n 1, 1) := by decide +kernel
theorem dX5_open_5 : decode cX5_open 5 = .ok (.iconst 5, 1) := by decide +kernel
theorem dX5_open_6 : decode cX5_open 6 = .ok (.if_icmp .lt 6, 3) := by decide +kernel
theorem dX5_open_9 : decode cX5_open 9 = .ok (.bipush (-2), 2) := by decide +kernel
theorem dX5_open_11 : decode cX5_open 11 = .ok (.ireturn, 1) := by decide +kernel
theorem dX5_open_12 : decode cX5_open 12 = .ok (.aload_n 0, 1) := by decide +kernel
theorem dX5_open_13 : decode cX5_open 13 = .ok (.getfield 10, 3) := by decide +kernel
theorem dX5_open_16 : decode cX5_open 16 = .ok (.getfield 79, 3) := by decide +kernel
theorem dX5_open_19 : decode cX5_open 19 = .ok (.invokevirtual 170, 3) := by decide +kernel
theorem dX5_open_22 : decode cX5_open 22 = .ok (.istore_n 2, 1) := by decide +kernel
theorem dX5_open_23 : decode cX5_open 23 = .ok (.iload_n 2, 1) := by decide +kernel
theorem dX5_open_24 : decode cX5_open 24 = .ok (.bipush (-9), 2) := by decide +kernel
theorem dX5_open_26 : decode cX5_open 26 = .ok (.if_icmp .eq 5, 3) := by decide +kernel
theorem dX5_open_29 : decode cX5_open 29 = .ok (.iload_n 2, 1) := by decide +kernel
theorem dX5_open_30 : decode cX5_open 30 = .ok (.ireturn, 1) := by decide +kernel
theorem dX5_open_31 : decode cX5_open 31 = .ok (.aload_n 0, 1) := by decide +kernel
theorem dX5_open_32 : decode cX5_open 32 = .ok (.invokevirtual 173, 3) := by decide +kernel
theorem dX5_open_35 : decode cX5_open 35 = .ok (.aload_n 0, 1) := by decide +kernel
theorem dX5_open_36 : decode cX5_open 36 = .ok (.getfield 10, 3) := by decide +kernel
theorem dX5_open_39 : decode cX5_open 39 = .ok (.getfield 79, 3) := by decide +kernel
theorem dX5_open_42 : decode cX5_open 42 = .ok (.iload_n 1, 1) := by decide +kernel
theorem dX5_open_43 : decode cX5_open 43 = .ok (.invokevirtual 176, 3) := by decide +kernel
theorem dX5_open_46 : decode cX5_open 46 = .ok (.pop, 1) := by decide +kernel
theorem dX5_open_47 : decode cX5_open 47 = .ok (.aload_n 0, 1) := by decide +kernel
theorem dX5_open_48 : decode cX5_open 48 = .ok (.getfield 10, 3) := by decide +kernel
theorem dX5_open_51 : decode cX5_open 51 = .ok (.aload_n 0, 1) := by decide +kernel
theorem dX5_open_52 : decode cX5_open 52 = .ok (.getfield 33, 3) := by decide +kernel
theorem dX5_open_55 : decode cX5_open 55 = .ok (.invokevirtual 179, 3) := by decide +kernel
theorem dX5_open_58 : decode cX5_open 58 = .ok (.pop, 1) := by decide +kernel
theorem dX5_open_59 : decode cX5_open 59 = .ok (.aload_n 0, 1) := by decide +kernel
theorem dX5_open_60 : decode cX5_open 60 = .ok (.getfield 10, 3) := by decide +kernel
theorem dX5_open_63 : decode cX5_open 63 = .ok (.getfield 79, 3) := by decide +kernel
theorem dX5_open_66 : decode cX5_open 66 = .ok (.getfield 88, 3) := by decide +kernel
theorem dX5_open_69 : decode cX5_open 69 = .ok (.ireturn, 1) := by decide +kernel
theorem dX5_close_0 : decode cX5_close 0 = .ok (.aload_n 0, 1) := by decide +kernel
theorem dX5_close_1 : decode cX5_close 1 = .ok (.getfield 10, 3) := by decide +kernel
theorem dX5_close_4 : decode cX5_close 4 = .ok (.getfield 79, 3) := by decide +kernel
theorem dX5_close_7 : decode cX5_close 7 = .ok (.getfield 88, 3) := by decide +kernel
theorem dX5_close_10 : decode cX5_close 10 = .ok (.ifCond .ge 6, 3) := by decide +kernel
theorem dX5_close_13 : decode cX5_close 13 = .ok (.bipush (-3), 2) := by decide +kernel
theorem dX5_close_15 : decode cX5_close 15 = .ok (.ireturn, 1) := by decide +kernel
theorem dX5_close_16 : decode cX5_close 16 = .ok (.aload_n 0, 1) := by decide +kernel
theorem dX5_close_17 : decode cX5_close 17 = .ok (.invokevirtual 173, 3) := by decide +kernel
theorem dX5_close_20 : decode cX5_close 20 = .ok (.aload_n 0, 1) := by decide +kernel
theorem dX5_close_21 : decode cX5_close 21 = .ok (.getfield 10, 3) := by decide +kernel
theorem dX5_close_24 : decode cX5_close 24 = .ok (.getfield 79, 3) := by decide +kernel
theorem dX5_close_27 : decode cX5_close 27 = .ok (.invokevirtual 183, 3) := by decide +kernel
theorem dX5_close_30 : decode cX5_close 30 = .ok (.pop, 1) := by decide +kernel
theorem dX5_close_31 : decode cX5_close 31 = .ok (.aload_n 0, 1) := by decide +kernel
theorem dX5_close_32 : decode cX5_close 32 = .ok (.getfield 10, 3) := by decide +kernel
theorem dX5_close_35 : decode cX5_close 35 = .ok (.aload_n 0, 1) := by decide +kernel
theorem dX5_close_36 : decode cX5_close 36 = .ok (.getfield 33, 3) := by decide +kernel
theorem dX5_close_39 : decode cX5_close 39 = .ok (.invokevirtual 179, 3) := by decide +kernel
theorem dX5_close_42 : decode cX5_close 42 = .ok (.ireturn, 1) := by decide +kernel
theorem dX5_tell_0 : decode cX5_tell 0 = .ok (.iload_n 1, 1) := by decide +kernel
theorem dX5_tell_1 : decode cX5_tell 1 = .ok (.ifCond .lt 9, 3) := by decide +kernel
theorem dX5_tell_4 : decode cX5_tell 4 = .ok (.iload_n 1, 1) := by decide +kernel
theorem dX5_tell_5 : decode cX5_tell 5 = .ok (.bipush 10, 2) := by decide +kernel
theorem dX5_tell_7 : decode cX5_tell 7 = .ok (.if_icmp .lt 6, 3) := by decide +kernel
theorem dX5_tell_10 : decode cX5_tell 10 = .ok (.bipush (-2), 2) := by decide +kernel
theorem dX5_tell_12 : decode cX5_tell 12 = .ok (.ireturn, 1) := by decide +kernel
theorem dX5_tell_13 : decode cX5_tell 13 = .ok (.aload_n 0, 1) := by decide +kernel
theorem dX5_tell_14 : decode cX5_tell 14 = .ok (.getfield 10, 3) := by decide +kernel
theorem dX5_tell_17 : decode cX5_tell 17 = .ok (.getfield 79, 3) := by decide +kernel
theorem dX5_tell_20 : decode cX5_tell 20 = .ok (.getfield 88, 3) := by decide +kernel
theorem dX5_tell_23 : decode cX5_tell 23 = .ok (.ifCond .ge 6, 3) := by decide +kernel
theorem dX5_tell_26 : decode cX5_tell 26 = .ok (.bipush (-3), 2) := by decide +kernel
theorem dX5_tell_28 : decode cX5_tell 28 = .ok (.ireturn, 1) := by decide +kernel
theorem dX5_tell_29 : decode cX5_tell 29 = .ok (.aload_n 0, 1) := by decide +kernel
theorem dX5_tell_30 : decode cX5_tell 30 = .ok (.invokevirtual 173, 3) := by decide +kernel
theorem dX5_tell_33 : decode cX5_tell 33 = .ok (.aload_n 0, 1) := by decide +kernel
theorem dX5_tell_34 : decode cX5_tell 34 = .ok (.getfield 10, 3) := by decide +kernel
theorem dX5_tell_37 : decode cX5_tell 37 = .ok (.getfield 79, 3) := by decide +kernel
theorem dX5_tell_40 : decode cX5_tell 40 = .ok (.iload_n 1, 1) := by decide +kernel
theorem dX5_tell_41 : decode cX5_tell 41 = .ok (.invokevirtual 187, 3) := by decide +kernel
theorem dX5_tell_44 : decode cX5_tell 44 = .ok (.pop, 1) := by decide +kernel
theorem dX5_tell_45 : decode cX5_tell 45 = .ok (.aload_n 0, 1) := by decide +kernel
theorem dX5_tell_46 : decode cX5_tell 46 = .ok (.getfield 10, 3) := by decide +kernel
theorem dX5_tell_49 : decode cX5_tell 49 = .ok (.aload_n 0, 1) := by decide +kernel
theorem dX5_tell_50 : decode cX5_tell 50 = .ok (.getfield 33, 3) := by decide +kernel
theorem dX5_tell_53 : decode cX5_tell 53 = .ok (.invokevirtual 179, 3) := by decide +kernel
theorem dX5_tell_56 : decode cX5_tell 56 = .ok (.ireturn, 1) := by decide +kernel
theorem dX5_ask_0 : decode cX5_ask 0 = .ok (.iload_n 1, 1) := by decide +kernel
theorem dX5_ask_1 : decode cX5_ask 1 = .ok (.iconst 1, 1) := by decide +kernel
theorem dX5_ask_2 : decode cX5_ask 2 = .ok (.if_icmp .lt 28, 3) := by decide +kernel
theorem dX5_ask_5 : decode cX5_ask 5 = .ok (.iload_n 1, 1) := by decide +kernel
theorem dX5_ask_6 : decode cX5_ask 6 = .ok (.iconst 4, 1) := by decide +kernel
theorem dX5_ask_7 : decode cX5_ask 7 = .ok (.if_icmp .gt 23, 3) := by decide +kernel
theorem dX5_ask_10 : decode cX5_ask 10 = .ok (.aload_n 0, 1) := by decide +kernel
theorem dX5_ask_11 : decode cX5_ask 11 = .ok (.lload_n 2, 1) := by decide +kernel
theorem dX5_ask_12 : decode cX5_ask 12 = .ok (.sipush 10000, 3) := by decide +kernel
theorem dX5_ask_15 : decode cX5_ask 15 = .ok (.iload_n 1, 1) := by decide +kernel
theorem dX5_ask_16 : decode cX5_ask 16 = .ok (.invokevirtual 190, 3) := by decide +kernel
theorem dX5_ask_19 : decode cX5_ask 19 = .ok (.ifCond .eq 11, 3) := by decide +kernel
theorem dX5_ask_22 : decode cX5_ask 22 = .ok (.aload_n 0, 1) := by decide +kernel
theorem dX5_ask_23 : decode cX5_ask 23 = .ok (.iload_n 1, 1) := by decide +kernel
theorem dX5_ask_24 : decode cX5_ask 24 = .ok (.invokevirtual 194, 3) := by decide +kernel
theorem dX5_ask_27 : decode cX5_ask 27 = .ok (.ifCond .ne 6, 3) := by decide +kernel
theorem dX5_ask_30 : decode cX5_ask 30 = .ok (.bipush (-2), 2) := by decide +kernel
theorem dX5_ask_32 : decode cX5_ask 32 = .ok (.ireturn, 1) := by decide +kernel
theorem dX5_ask_33 : decode cX5_ask 33 = .ok (.aload_n 0, 1) := by decide +kernel
theorem dX5_ask_34 : decode cX5_ask 34 = .ok (.getfield 10, 3) := by decide +kernel
theorem dX5_ask_37 : decode cX5_ask 37 = .ok (.getfield 76, 3) := by decide +kernel
theorem dX5_ask_40 : decode cX5_ask 40 = .ok (.iconst 5, 1) := by decide +kernel
theorem dX5_ask_41 : decode cX5_ask 41 = .ok (.if_icmp .lt 6, 3) := by decide +kernel
theorem dX5_ask_44 : decode cX5_ask 44 = .ok (.bipush (-4), 2) := by decide +kernel
theorem dX5_ask_46 : decode cX5_ask 46 = .ok (.ireturn, 1) := by decide +kernel
theorem dX5_ask_47 : decode cX5_ask 47 = .ok (.aload_n 0, 1) := by decide +kernel
theorem dX5_ask_48 : decode cX5_ask 48 = .ok (.invokevirtual 173, 3) := by decide +kernel
theorem dX5_ask_51 : decode cX5_ask 51 = .ok (.aload_n 0, 1) := by decide +kernel
theorem dX5_ask_52 : decode cX5_ask 52 = .ok (.getfield 10, 3) := by decide +kernel
theorem dX5_ask_55 : decode cX5_ask 55 = .ok (.getfield 76, 3) := by decide +kernel
theorem dX5_ask_58 : decode cX5_ask 58 = .ok (.istore 4, 2) := by decide +kernel
theorem dX5_ask_60 : decode cX5_ask 60 = .ok (.aload_n 0, 1) := by decide +kernel
theorem dX5_ask_61 : decode cX5_ask 61 = .ok (.getfield 10, 3) := by decide +kernel
theorem dX5_ask_64 : decode cX5_ask 64 = .ok (.aload_n 0, 1) := by decide +kernel
theorem dX5_ask_65 : decode cX5_ask 65 = .ok (.getfield 55, 3) := by decide +kernel
theorem dX5_ask_68 : decode cX5_ask 68 = .ok (.iload_n 1, 1) := by decide +kernel
theorem dX5_ask_69 : decode cX5_ask 69 = .ok (.invokevirtual 197, 3) := by decide +kernel
theorem dX5_ask_72 : decode cX5_ask 72 = .ok (.aload_n 0, 1) := by decide +kernel
theorem dX5_ask_73 : decode cX5_ask 73 = .ok (.getfield 10, 3) := by decide +kernel
theorem dX5_ask_76 : decode cX5_ask 76 = .ok (.iload 4, 2) := by decide +kernel
theorem dX5_ask_78 : decode cX5_ask 78 = .ok (.aload_n 0, 1) := by decide +kernel
theorem dX5_ask_79 : decode cX5_ask 79 = .ok (.getfield 33, 3) := by decide +kernel
theorem dX5_ask_82 : decode cX5_ask 82 = .ok (.invokevirtual 201, 3) := by decide +kernel
theorem dX5_ask_85 : decode cX5_ask 85 = .ok (.pop, 1) := by decide +kernel
theorem dX5_ask_86 : decode cX5_ask 86 = .ok (.iload 4, 2) := by decide +kernel
theorem dX5_ask_88 : decode cX5_ask 88 = .ok (.ireturn, 1) := by decide +kernel
theorem dX5_drop_0 : decode cX5_drop 0 = .ok (.aload_n 0, 1) := by decide +kernel
theorem dX5_drop_1 : decode cX5_drop 1 = .ok (.getfield 10, 3) := by decide +kernel
theorem dX5_drop_4 : decode cX5_drop 4 = .ok (.getfield 76, 3) := by decide +kernel
theorem dX5_drop_7 : decode cX5_drop 7 = .ok (.ifCond .gt 6, 3) := by decide +kernel
theorem dX5_drop_10 : decode cX5_drop 10 = .ok (.bipush (-3), 2) := by decide +kernel
theorem dX5_drop_12 : decode cX5_drop 12 = .ok (.ireturn, 1) := by decide +kernel
theorem dX5_drop_13 : decode cX5_drop 13 = .ok (.aload_n 0, 1) := by decide +kernel
theorem dX5_drop_14 : decode cX5_drop 14 = .ok (.invokevirtual 173, 3) := by decide +kernel
theorem dX5_drop_17 : decode cX5_drop 17 = .ok (.aload_n 0, 1) := by decide +kernel
theorem dX5_drop_18 : decode cX5_drop 18 = .ok (.getfield 10, 3) := by decide +kernel
theorem dX5_drop_21 : decode cX5_drop 21 = .ok (.dup, 1) := by decide +kernel
theorem dX5_drop_22 : decode cX5_drop 22 = .ok (.getfield 76, 3) := by decide +kernel
theorem dX5_drop_25 : decode cX5_drop 25 = .ok (.iconst 1, 1) := by decide +kernel
theorem dX5_drop_26 : decode cX5_drop 26 = .ok (.isub, 1) := by decide +kernel
theorem dX5_drop_27 : decode cX5_drop 27 = .ok (.putfield 76, 3) := by decide +kernel
theorem dX5_drop_30 : decode cX5_drop 30 = .ok (.aload_n 0, 1) := by decide +kernel
theorem dX5_drop_31 : decode cX5_drop 31 = .ok (.getfield 10, 3) := by decide +kernel
theorem dX5_drop_34 : decode cX5_drop 34 = .ok (.getfield 76, 3) := by decide +kernel
theorem dX5_drop_37 : decode cX5_drop 37 = .ok (.ireturn, 1) := by decide +kernel
theorem dX5_undo_0 : decode cX5_undo 0 = .ok (.aload_n 0, 1) := by decide +kernel
theorem dX5_undo_1 : decode cX5_undo 1 = .ok (.getfield 101, 3) := by decide +kernel
theorem dX5_undo_4 : decode cX5_undo 4 = .ok (.ifCond .gt 6, 3) := by decide +kernel
theorem dX5_undo_7 : decode cX5_undo 7 = .ok (.bipush (-3), 2) := by decide +kernel
theorem dX5_undo_9 : decode cX5_undo 9 = .ok (.ireturn, 1) := by decide +kernel
theorem dX5_undo_10 : decode cX5_undo 10 = .ok (.aload_n 0, 1) := by decide +kernel
theorem dX5_undo_11 : decode cX5_undo 11 = .ok (.aload_n 0, 1) := by decide +kernel
theorem dX5_undo_12 : decode cX5_undo 12 = .ok (.getfield 205, 3) := by decide +kernel
theorem dX5_undo_15 : decode cX5_undo 15 = .ok (.ifCond .le 12, 3) := by decide +kernel
theorem dX5_undo_18 : decode cX5_undo 18 = .ok (.aload_n 0, 1) := by decide +kernel
theorem dX5_undo_19 : decode cX5_undo 19 = .ok (.getfield 205, 3) := by decide +kernel
theorem dX5_undo_22 : decode cX5_undo 22 = .ok (.iconst 1, 1) := by decide +kernel
theorem dX5_undo_23 : decode cX5_undo 23 = .ok (.isub, 1) := by decide +kernel
theorem dX5_undo_24 : decode cX5_undo 24 = .ok (.goto 5, 3) := by decide +kernel
theorem dX5_undo_27 : decode cX5_undo 27 = .ok (.bipush 13, 2) := by decide +kernel
theorem dX5_undo_29 : decode cX5_undo 29 = .ok (.putfield 205, 3) := by decide +kernel
theorem dX5_undo_32 : decode cX5_undo 32 = .ok (.aload_n 0, 1) := by decide +kernel
theorem dX5_undo_33 : decode cX5_undo 33 = .ok (.getfield 10, 3) := by decide +kernel
theorem dX5_undo_36 : decode cX5_undo 36 = .ok (.aload_n 0, 1) := by decide +kernel
theorem dX5_undo_37 : decode cX5_undo 37 = .ok (.getfield 19, 3) := by decide +kernel
theorem dX5_undo_40 : decode cX5_undo 40 = .ok (.aload_n 0, 1) := by decide +kernel
theorem dX5_undo_41 : decode cX5_undo 41 = .ok (.getfield 205, 3) := by decide +kernel
theorem dX5_undo_44 : decode cX5_undo 44 = .ok (.aaload, 1) := by decide +kernel
theorem dX5_undo_45 : decode cX5_undo 45 = .ok (.invokevirtual 69, 3) := by decide +kernel
theorem dX5_undo_48 : decode cX5_undo 48 = .ok (.aload_n 0, 1) := by decide +kernel
theorem dX5_undo_49 : decode cX5_undo 49 = .ok (.dup, 1) := by decide +kernel
theorem dX5_undo_50 : decode cX5_undo 50 = .ok (.getfield 101, 3) := by decide +kernel
theorem dX5_undo_53 : decode cX5_undo 53 = .ok (.iconst 1, 1) := by decide +kernel
theorem dX5_undo_54 : decode cX5_undo 54 = .ok (.isub, 1) := by decide +kernel
theorem dX5_undo_55 : decode cX5_undo 55 = .ok (.putfield 101, 3) := by decide +kernel
theorem dX5_undo_58 : decode cX5_undo 58 = .ok (.aload_n 0, 1) := by decide +kernel
theorem dX5_undo_59 : decode cX5_undo 59 = .ok (.getfield 101, 3) := by decide +kernel
theorem dX5_undo_62 : decode cX5_undo 62 = .ok (.ireturn, 1) := by decide +kernel
theorem dX5_within_0 : decode cX5_within 0 = .ok (.aload_n 0, 1) := by decide +kernel
theorem dX5_within_1 : decode cX5_within 1 = .ok (.iload_n 1, 1) := by decide +kernel
theorem dX5_within_2 : decode cX5_within 2 = .ok (.invokevirtual 129, 3) := by decide +kernel
theorem dX5_within_5 : decode cX5_within 5 = .ok (.ifCond .eq 11, 3) := by decide +kernel
theorem dX5_within_8 : decode cX5_within 8 = .ok (.aload_n 0, 1) := by decide +kernel
theorem dX5_within_9 : decode cX5_within 9 = .ok (.iload_n 2, 1) := by decide +kernel
theorem dX5_within_10 : decode cX5_within 10 = .ok (.invokevirtual 129, 3) := by decide +kernel
theorem dX5_within_13 : decode cX5_within 13 = .ok (.ifCond .ne 5, 3) := by decide +kernel
theorem dX5_within_16 : decode cX5_within 16 = .ok (.iconst (-1), 1) := by decide +kernel
theorem dX5_within_17 : decode cX5_within 17 = .ok (.ireturn, 1) := by decide +kernel
theorem dX5_within_18 : decode cX5_within 18 = .ok (.aload_n 0, 1) := by decide +kernel
theorem dX5_within_19 : decode cX5_within 19 = .ok (.aload_n 0, 1) := by decide +kernel
theorem dX5_within_20 : decode cX5_within 20 = .ok (.getfield 10, 3) := by decide +kernel
theorem dX5_within_23 : decode cX5_within 23 = .ok (.iload_n 1, 1) := by decide +kernel
theorem dX5_within_24 : decode cX5_within 24 = .ok (.invokevirtual 208, 3) := by decide +kernel
theorem dX5_within_27 : decode cX5_within 27 = .ok (.istore_n 3, 1) := by decide +kernel
theorem dX5_within_28 : decode cX5_within 28 = .ok (.aload_n 0, 1) := by decide +kernel
theorem dX5_within_29 : decode cX5_within 29 = .ok (.aload_n 0, 1) := by decide +kernel
theorem dX5_within_30 : decode cX5_within 30 = .ok (.getfield 10, 3) := by decide +kernel
theorem dX5_within_33 : decode cX5_within 33 = .ok (.iload_n 2, 1) := by decide +kernel
theorem dX5_within_34 : decode cX5_within 34 = .ok (.invokevirtual 208, 3) := by decide +kernel
theorem dX5_within_37 : decode cX5_within 37 = .ok (.istore 4, 2) := by decide +kernel
theorem dX5_within_39 : decode cX5_within 39 = .ok (.iload_n 3, 1) := by decide +kernel
theorem dX5_within_40 : decode cX5_within 40 = .ok (.iload 4, 2) := by decide +kernel
theorem dX5_within_42 : decode cX5_within 42 = .ok (.iconst (-1), 1) := by decide +kernel
theorem dX5_within_43 : decode cX5_within 43 = .ok (.ixor, 1) := by decide +kernel
theorem dX5_within_44 : decode cX5_within 44 = .ok (.iand, 1) := by decide +kernel
theorem dX5_within_45 : decode cX5_within 45 = .ok (.ifCond .ne 7, 3) := by decide +kernel
theorem dX5_within_48 : decode cX5_within 48 = .ok (.iconst 1, 1) := by decide +kernel
theorem dX5_within_49 : decode cX5_within 49 = .ok (.goto 4, 3) := by decide +kernel
theorem dX5_within_52 : decode cX5_within 52 = .ok (.iconst 0, 1) := by decide +kernel
theorem dX5_within_53 : decode cX5_within 53 = .ok (.ireturn, 1) := by decide +kernel
theorem dX5_judge_0 : decode cX5_judge 0 = .ok (.iload_n 1, 1) := by decide +kernel
theorem dX5_judge_1 : decode cX5_judge 1 = .ok (.iconst 1, 1) := by decide +kernel
theorem dX5_judge_2 : decode cX5_judge 2 = .ok (.if_icmp .lt 20, 3) := by decide +kernel
theorem dX5_judge_5 : decode cX5_judge 5 = .ok (.iload_n 1, 1) := by decide +kernel
theorem dX5_judge_6 : decode cX5_judge 6 = .ok (.iconst 4, 1) := by decide +kernel
theorem dX5_judge_7 : decode cX5_judge 7 = .ok (.if_icmp .gt 15, 3) := by decide +kernel
theorem dX5_judge_10 : decode cX5_judge 10 = .ok (.aload_n 0, 1) := by decide +kernel
theorem dX5_judge_11 : decode cX5_judge 11 = .ok (.lload_n 2, 1) := by decide +kernel
theorem dX5_judge_12 : decode cX5_judge 12 = .ok (.sipush 1000, 3) := by decide +kernel
theorem dX5_judge_15 : decode cX5_judge 15 = .ok (.iload_n 1, 1) := by decide +kernel
theorem dX5_judge_16 : decode cX5_judge 16 = .ok (.invokevirtual 190, 3) := by decide +kernel
theorem dX5_judge_19 : decode cX5_judge 19 = .ok (.ifCond .ne 6, 3) := by decide +kernel
theorem dX5_judge_22 : decode cX5_judge 22 = .ok (.bipush (-2), 2) := by decide +kernel
theorem dX5_judge_24 : decode cX5_judge 24 = .ok (.ireturn, 1) := by decide +kernel
theorem dX5_judge_25 : decode cX5_judge 25 = .ok (.aload_n 0, 1) := by decide +kernel
theorem dX5_judge_26 : decode cX5_judge 26 = .ok (.getfield 16, 3) := by decide +kernel
theorem dX5_judge_29 : decode cX5_judge 29 = .ok (.aload_n 0, 1) := by decide +kernel
theorem dX5_judge_30 : decode cX5_judge 30 = .ok (.getfield 10, 3) := by decide +kernel
theorem dX5_judge_33 : decode cX5_judge 33 = .ok (.invokevirtual 69, 3) := by decide +kernel
theorem dX5_judge_36 : decode cX5_judge 36 = .ok (.iconst 0, 1) := by decide +kernel
theorem dX5_judge_37 : decode cX5_judge 37 = .ok (.istore 4, 2) := by decide +kernel
theorem dX5_judge_39 : decode cX5_judge 39 = .ok (.iload 4, 2) := by decide +kernel
theorem dX5_judge_41 : decode cX5_judge 41 = .ok (.iload_n 1, 1) := by decide +kernel
theorem dX5_judge_42 : decode cX5_judge 42 = .ok (.if_icmp .ge 52, 3) := by decide +kernel
theorem dX5_judge_45 : decode cX5_judge 45 = .ok (.aload_n 0, 1) := by decide +kernel
theorem dX5_judge_46 : decode cX5_judge 46 = .ok (.aload_n 0, 1) := by decide +kernel
theorem dX5_judge_47 : decode cX5_judge 47 = .ok (.getfield 55, 3) := by decide +kernel
theorem dX5_judge_50 : decode cX5_judge 50 = .ok (.iload 4, 2) := by decide +kernel
theorem dX5_judge_52 : decode cX5_judge 52 = .ok (.iaload, 1) := by decide +kernel
theorem dX5_judge_53 : decode cX5_judge 53 = .ok (.bipush 100, 2) := by decide +kernel
theorem dX5_judge_55 : decode cX5_judge 55 = .ok (.idiv, 1) := by decide +kernel
theorem dX5_judge_56 : decode cX5_judge 56 = .ok (.aload_n 0, 1) := by decide +kernel
theorem dX5_judge_57 : decode cX5_judge 57 = .ok (.getfield 55, 3) := by decide +kernel
theorem dX5_judge_60 : decode cX5_judge 60 = .ok (.iload 4, 2) := by decide +kernel
theorem dX5_judge_62 : decode cX5_judge 62 = .ok (.iaload, 1) := by decide +kernel
theorem dX5_judge_63 : decode cX5_judge 63 = .ok (.bipush 10, 2) := by decide +kernel
theorem dX5_judge_65 : decode cX5_judge 65 = .ok (.idiv, 1) := by decide +kernel
theorem dX5_judge_66 : decode cX5_judge 66 = .ok (.bipush 10, 2) := by decide +kernel
theorem dX5_judge_68 : decode cX5_judge 68 = .ok (.irem, 1) := by decide +kernel
theorem dX5_judge_69 : decode cX5_judge 69 = .ok (.aload_n 0, 1) := by decide +kernel
theorem dX5_judge_70 : decode cX5_judge 70 = .ok (.getfield 55, 3) := by decide +kernel
theorem dX5_judge_73 : decode cX5_judge 73 = .ok (.iload 4, 2) := by decide +kernel
theorem dX5_judge_75 : decode cX5_judge 75 = .ok (.iaload, 1) := by decide +kernel
theorem dX5_judge_76 : decode cX5_judge 76 = .ok (.bipush 10, 2) := by decide +kernel
theorem dX5_judge_78 : decode cX5_judge 78 = .ok (.irem, 1) := by decide +kernel
theorem dX5_judge_79 : decode cX5_judge 79 = .ok (.invokevirtual 212, 3) := by decide +kernel
theorem dX5_judge_82 : decode cX5_judge 82 = .ok (.ifCond .ne 6, 3) := by decide +kernel
theorem dX5_judge_85 : decode cX5_judge 85 = .ok (.iload 4, 2) := by decide +kernel
theorem dX5_judge_87 : decode cX5_judge 87 = .ok (.ireturn, 1) := by decide +kernel
theorem dX5_judge_88 : decode cX5_judge 88 = .ok (.iinc 4 1, 3) := by decide +kernel
theorem dX5_judge_91 : decode cX5_judge 91 = .ok (.goto (-52), 3) := by decide +kernel
theorem dX5_judge_94 : decode cX5_judge 94 = .ok (.bipush (-9), 2) := by decide +kernel
theorem dX5_judge_96 : decode cX5_judge 96 = .ok (.ireturn, 1) := by decide +kernel
theorem dX5_see_0 : decode cX5_see 0 = .ok (.aload_n 0, 1) := by decide +kernel
theorem dX5_see_1 : decode cX5_see 1 = .ok (.iload_n 1, 1) := by decide +kernel
theorem dX5_see_2 : decode cX5_see 2 = .ok (.invokevirtual 129, 3) := by decide +kernel
theorem dX5_see_5 : decode cX5_see 5 = .ok (.ifCond .ne 5, 3) := by decide +kernel
theorem dX5_see_8 : decode cX5_see 8 = .ok (.iconst (-1), 1) := by decide +kernel
theorem dX5_see_9 : decode cX5_see 9 = .ok (.ireturn, 1) := by decide +kernel
theorem dX5_see_10 : decode cX5_see 10 = .ok (.iload_n 2, 1) := by decide +kernel
theorem dX5_see_11 : decode cX5_see 11 = .ok (.ifCond .lt 9, 3) := by decide +kernel
theorem dX5_see_14 : decode cX5_see 14 = .ok (.iload_n 2, 1) := by decide +kernel
theorem dX5_see_15 : decode cX5_see 15 = .ok (.bipush 20, 2) := by decide +kernel
theorem dX5_see_17 : decode cX5_see 17 = .ok (.if_icmp .le 6, 3) := by decide +kernel
theorem dX5_see_20 : decode cX5_see 20 = .ok (.bipush (-2), 2) := by decide +kernel
theorem dX5_see_22 : decode cX5_see 22 = .ok (.ireturn, 1) := by decide +kernel
theorem dX5_see_23 : decode cX5_see 23 = .ok (.aload_n 0, 1) := by decide +kernel
theorem dX5_see_24 : decode cX5_see 24 = .ok (.getfield 104, 3) := by decide +kernel
theorem dX5_see_27 : decode cX5_see 27 = .ok (.bipush 6, 2) := by decide +kernel
theorem dX5_see_29 : decode cX5_see 29 = .ok (.if_icmp .lt 6, 3) := by decide +kernel
theorem dX5_see_32 : decode cX5_see 32 = .ok (.bipush (-4), 2) := by decide +kernel
theorem dX5_see_34 : decode cX5_see 34 = .ok (.ireturn, 1) := by decide +kernel
theorem dX5_see_35 : decode cX5_see 35 = .ok (.aload_n 0, 1) := by decide +kernel
theorem dX5_see_36 : decode cX5_see 36 = .ok (.getfield 48, 3) := by decide +kernel
theorem dX5_see_39 : decode cX5_see 39 = .ok (.aload_n 0, 1) := by decide +kernel
theorem dX5_see_40 : decode cX5_see 40 = .ok (.getfield 104, 3) := by decide +kernel
theorem dX5_see_43 : decode cX5_see 43 = .ok (.iload_n 1, 1) := by decide +kernel
theorem dX5_see_44 : decode cX5_see 44 = .ok (.iastore, 1) := by decide +kernel
theorem dX5_see_45 : decode cX5_see 45 = .ok (.aload_n 0, 1) := by decide +kernel
theorem dX5_see_46 : decode cX5_see 46 = .ok (.getfield 52, 3) := by decide +kernel
theorem dX5_see_49 : decode cX5_see 49 = .ok (.aload_n 0, 1) := by decide +kernel
theorem dX5_see_50 : decode cX5_see 50 = .ok (.getfield 104, 3) := by decide +kernel
theorem dX5_see_53 : decode cX5_see 53 = .ok (.iload_n 2, 1) := by decide +kernel
theorem dX5_see_54 : decode cX5_see 54 = .ok (.iastore, 1) := by decide +kernel
theorem dX5_see_55 : decode cX5_see 55 = .ok (.aload_n 0, 1) := by decide +kernel
theorem dX5_see_56 : decode cX5_see 56 = .ok (.dup, 1) := by decide +kernel
theorem dX5_see_57 : decode cX5_see 57 = .ok (.getfield 104, 3) := by decide +kernel
theorem dX5_see_60 : decode cX5_see 60 = .ok (.iconst 1, 1) := by decide +kernel
theorem dX5_see_61 : decode cX5_see 61 = .ok (.iadd, 1) := by decide +kernel
theorem dX5_see_62 : decode cX5_see 62 = .ok (.putfield 104, 3) := by decide +kernel
theorem dX5_see_65 : decode cX5_see 65 = .ok (.aload_n 0, 1) := by decide +kernel
theorem dX5_see_66 : decode cX5_see 66 = .ok (.getfield 104, 3) := by decide +kernel
theorem dX5_see_69 : decode cX5_see 69 = .ok (.ireturn, 1) := by decide +kernel
theorem dX5_unsee_0 : decode cX5_unsee 0 = .ok (.aload_n 0, 1) := by decide +kernel
theorem dX5_unsee_1 : decode cX5_unsee 1 = .ok (.getfield 104, 3) := by decide +kernel
theorem dX5_unsee_4 : decode cX5_unsee 4 = .ok (.istore_n 1, 1) := by decide +kernel
theorem dX5_unsee_5 : decode cX5_unsee 5 = .ok (.aload_n 0, 1) := by decide +kernel
theorem dX5_unsee_6 : decode cX5_unsee 6 = .ok (.iconst 0, 1) := by decide +kernel
theorem dX5_unsee_7 : decode cX5_unsee 7 = .ok (.putfield 104, 3) := by decide +kernel
theorem dX5_unsee_10 : decode cX5_unsee 10 = .ok (.iload_n 1, 1) := by decide +kernel
theorem dX5_unsee_11 : decode cX5_unsee 11 = .ok (.ireturn, 1) := by decide +kernel
theorem dX5_which_0 : decode cX5_which 0 = .ok (.iconst 0, 1) := by decide +kernel
theorem dX5_which_1 : decode cX5_which 1 = .ok (.istore_n 1, 1) := by decide +kernel
theorem dX5_which_2 : decode cX5_which 2 = .ok (.iconst 0, 1) := by decide +kernel
theorem dX5_which_3 : decode cX5_which 3 = .ok (.istore_n 2, 1) := by decide +kernel
theorem dX5_which_4 : decode cX5_which 4 = .ok (.iload_n 2, 1) := by decide +kernel
theorem dX5_which_5 : decode cX5_which 5 = .ok (.iconst 5, 1) := by decide +kernel
theorem dX5_which_6 : decode cX5_which 6 = .ok (.if_icmp .gt 23, 3) := by decide +kernel
theorem dX5_which_9 : decode cX5_which 9 = .ok (.aload_n 0, 1) := by decide +kernel
theorem dX5_which_10 : decode cX5_which 10 = .ok (.iload_n 2, 1) := by decide +kernel
theorem dX5_which_11 : decode cX5_which 11 = .ok (.invokevirtual 216, 3) := by decide +kernel
theorem dX5_which_14 : decode cX5_which 14 = .ok (.ifCond .eq 9, 3) := by decide +kernel
theorem dX5_which_17 : decode cX5_which 17 = .ok (.iload_n 1, 1) := by decide +kernel
theorem dX5_which_18 : decode cX5_which 18 = .ok (.iconst 1, 1) := by decide +kernel
theorem dX5_which_19 : decode cX5_which 19 = .ok (.iload_n 2, 1) := by decide +kernel
theorem dX5_which_20 : decode cX5_which 20 = .ok (.ishl, 1) := by decide +kernel
theorem dX5_which_21 : decode cX5_which 21 = .ok (.ior, 1) := by decide +kernel
theorem dX5_which_22 : decode cX5_which 22 = .ok (.istore_n 1, 1) := by decide +kernel
theorem dX5_which_23 : decode cX5_which 23 = .ok (.iinc 2 1, 3) := by decide +kernel
theorem dX5_which_26 : decode cX5_which 26 = .ok (.goto (-22), 3) := by decide +kernel
theorem dX5_which_29 : decode cX5_which 29 = .ok (.iload_n 1, 1) := by decide +kernel
theorem dX5_which_30 : decode cX5_which 30 = .ok (.ireturn, 1) := by decide +kernel
theorem dX5_share_0 : decode cX5_share 0 = .ok (.aload_n 0, 1) := by decide +kernel
theorem dX5_share_1 : decode cX5_share 1 = .ok (.iload_n 1, 1) := by decide +kernel
theorem dX5_share_2 : decode cX5_share 2 = .ok (.invokevirtual 129, 3) := by decide +kernel
theorem dX5_share_5 : decode cX5_share 5 = .ok (.ifCond .ne 5, 3) := by decide +kernel
theorem dX5_share_8 : decode cX5_share 8 = .ok (.iconst (-1), 1) := by decide +kernel
theorem dX5_share_9 : decode cX5_share 9 = .ok (.ireturn, 1) := by decide +kernel
theorem dX5_share_10 : decode cX5_share 10 = .ok (.aload_n 0, 1) := by decide +kernel
theorem dX5_share_11 : decode cX5_share 11 = .ok (.invokevirtual 219, 3) := by decide +kernel
theorem dX5_share_14 : decode cX5_share 14 = .ok (.iconst 0, 1) := by decide +kernel
theorem dX5_share_15 : decode cX5_share 15 = .ok (.istore_n 3, 1) := by decide +kernel
theorem dX5_share_16 : decode cX5_share 16 = .ok (.iconst 0, 1) := by decide +kernel
theorem dX5_share_17 : decode cX5_share 17 = .ok (.istore 4, 2) := by decide +kernel
theorem dX5_share_19 : decode cX5_share 19 = .ok (.iload 4, 2) := by decide +kernel
theorem dX5_share_21 : decode cX5_share 21 = .ok (.aload_n 0, 1) := by decide +kernel
theorem dX5_share_22 : decode cX5_share 22 = .ok (.getfield 10, 3) := by decide +kernel
theorem dX5_share_25 : decode cX5_share 25 = .ok (.getfield 79, 3) := by decide +kernel
theorem dX5_share_28 : decode cX5_share 28 = .ok (.getfield 83, 3) := by decide +kernel
theorem dX5_share_31 : decode cX5_share 31 = .ok (.if_icmp .ge 44, 3) := by decide +kernel
theorem dX5_share_34 : decode cX5_share 34 = .ok (.aload_n 0, 1) := by decide +kernel
theorem dX5_share_35 : decode cX5_share 35 = .ok (.iload 4, 2) := by decide +kernel
theorem dX5_share_37 : decode cX5_share 37 = .ok (.invokevirtual 222, 3) := by decide +kernel
theorem dX5_share_40 : decode cX5_share 40 = .ok (.istore 5, 2) := by decide +kernel
theorem dX5_share_42 : decode cX5_share 42 = .ok (.aload_n 0, 1) := by decide +kernel
theorem dX5_share_43 : decode cX5_share 43 = .ok (.getfield 58, 3) := by decide +kernel
theorem dX5_share_46 : decode cX5_share 46 = .ok (.iload_n 1, 1) := by decide +kernel
theorem dX5_share_47 : decode cX5_share 47 = .ok (.iaload, 1) := by decide +kernel
theorem dX5_share_48 : decode cX5_share 48 = .ok (.iload 4, 2) := by decide +kernel
theorem dX5_share_50 : decode cX5_share 50 = .ok (.ishr, 1) := by decide +kernel
theorem dX5_share_51 : decode cX5_share 51 = .ok (.iconst 1, 1) := by decide +kernel
theorem dX5_share_52 : decode cX5_share 52 = .ok (.iand, 1) := by decide +kernel
theorem dX5_share_53 : decode cX5_share 53 = .ok (.ifCond .eq 16, 3) := by decide +kernel
theorem dX5_share_56 : decode cX5_share 56 = .ok (.iload 5, 2) := by decide +kernel
theorem dX5_share_58 : decode cX5_share 58 = .ok (.ifCond .le 11, 3) := by decide +kernel
theorem dX5_share_61 : decode cX5_share 61 = .ok (.iload_n 3, 1) := by decide +kernel
theorem dX5_share_62 : decode cX5_share 62 = .ok (.bipush 60, 2) := by decide +kernel
theorem dX5_share_64 : decode cX5_share 64 = .ok (.iload 5, 2) := by decide +kernel
theorem dX5_share_66 : decode cX5_share 66 = .ok (.idiv, 1) := by decide +kernel
theorem dX5_share_67 : decode cX5_share 67 = .ok (.iadd, 1) := by decide +kernel
theorem dX5_share_68 : decode cX5_share 68 = .ok (.istore_n 3, 1) := by decide +kernel
theorem dX5_share_69 : decode cX5_share 69 = .ok (.iinc 4 1, 3) := by decide +kernel
theorem dX5_share_72 : decode cX5_share 72 = .ok (.goto (-53), 3) := by decide +kernel
theorem dX5_share_75 : decode cX5_share 75 = .ok (.iload_n 3, 1) := by decide +kernel
theorem dX5_share_76 : decode cX5_share 76 = .ok (.bipush 60, 2) := by decide +kernel
theorem dX5_share_78 : decode cX5_share 78 = .ok (.iload_n 2, 1) := by decide +kernel
theorem dX5_share_79 : decode cX5_share 79 = .ok (.invokestatic 226, 3) := by decide +kernel
theorem dX5_share_82 : decode cX5_share 82 = .ok (.ireturn, 1) := by decide +kernel
theorem dX5_chance_0 : decode cX5_chance 0 = .ok (.iload_n 1, 1) := by decide +kernel
theorem dX5_chance_1 : decode cX5_chance 1 = .ok (.ifCond .lt 19, 3) := by decide +kernel
theorem dX5_chance_4 : decode cX5_chance 4 = .ok (.iload_n 1, 1) := by decide +kernel
theorem dX5_chance_5 : decode cX5_chance 5 = .ok (.bipush 20, 2) := by decide +kernel
theorem dX5_chance_7 : decode cX5_chance 7 = .ok (.if_icmp .gt 13, 3) := by decide +kernel
theorem dX5_chance_10 : decode cX5_chance 10 = .ok (.iload_n 2, 1) := by decide +kernel
theorem dX5_chance_11 : decode cX5_chance 11 = .ok (.ifCond .lt 9, 3) := by decide +kernel
theorem dX5_chance_14 : decode cX5_chance 14 = .ok (.iload_n 2, 1) := by decide +kernel
theorem dX5_chance_15 : decode cX5_chance 15 = .ok (.bipush 10, 2) := by decide +kernel
theorem dX5_chance_17 : decode cX5_chance 17 = .ok (.if_icmp .le 6, 3) := by decide +kernel
theorem dX5_chance_20 : decode cX5_chance 20 = .ok (.bipush (-2), 2) := by decide +kernel
theorem dX5_chance_22 : decode cX5_chance 22 = .ok (.ireturn, 1) := by decide +kernel
theorem dX5_chance_23 : decode cX5_chance 23 = .ok (.aload_n 0, 1) := by decide +kernel
theorem dX5_chance_24 : decode cX5_chance 24 = .ok (.invokevirtual 219, 3) := by decide +kernel
theorem dX5_chance_27 : decode cX5_chance 27 = .ok (.iconst 0, 1) := by decide +kernel
theorem dX5_chance_28 : decode cX5_chance 28 = .ok (.istore 4, 2) := by decide +kernel
theorem dX5_chance_30 : decode cX5_chance 30 = .ok (.iconst 0, 1) := by decide +kernel
theorem dX5_chance_31 : decode cX5_chance 31 = .ok (.istore 5, 2) := by decide +kernel
theorem dX5_chance_33 : decode cX5_chance 33 = .ok (.iconst 0, 1) := by decide +kernel
theorem dX5_chance_34 : decode cX5_chance 34 = .ok (.istore 6, 2) := by decide +kernel
theorem dX5_chance_36 : decode cX5_chance 36 = .ok (.iload 6, 2) := by decide +kernel
theorem dX5_chance_38 : decode cX5_chance 38 = .ok (.iconst 1, 1) := by decide +kernel
theorem dX5_chance_39 : decode cX5_chance 39 = .ok (.aload_n 0, 1) := by decide +kernel
theorem dX5_chance_40 : decode cX5_chance 40 = .ok (.getfield 10, 3) := by decide +kernel
theorem dX5_chance_43 : decode cX5_chance 43 = .ok (.getfield 76, 3) := by decide +kernel
theorem dX5_chance_46 : decode cX5_chance 46 = .ok (.ishl, 1) := by decide +kernel
theorem dX5_chance_47 : decode cX5_chance 47 = .ok (.if_icmp .ge 45, 3) := by decide +kernel
theorem dX5_chance_50 : decode cX5_chance 50 = .ok (.aload_n 0, 1) := by decide +kernel
theorem dX5_chance_51 : decode cX5_chance 51 = .ok (.iload 6, 2) := by decide +kernel
theorem dX5_chance_53 : decode cX5_chance 53 = .ok (.iload_n 2, 1) := by decide +kernel
theorem dX5_chance_54 : decode cX5_chance 54 = .ok (.invokevirtual 230, 3) := by decide +kernel
theorem dX5_chance_57 : decode cX5_chance 57 = .ok (.istore 7, 2) := by decide +kernel
theorem dX5_chance_59 : decode cX5_chance 59 = .ok (.iload 5, 2) := by decide +kernel
theorem dX5_chance_61 : decode cX5_chance 61 = .ok (.iload 7, 2) := by decide +kernel
theorem dX5_chance_63 : decode cX5_chance 63 = .ok (.iadd, 1) := by decide +kernel
theorem dX5_chance_64 : decode cX5_chance 64 = .ok (.istore 5, 2) := by decide +kernel
theorem dX5_chance_66 : decode cX5_chance 66 = .ok (.aload_n 0, 1) := by decide +kernel
theorem dX5_chance_67 : decode cX5_chance 67 = .ok (.iload 6, 2) := by decide +kernel
theorem dX5_chance_69 : decode cX5_chance 69 = .ok (.invokevirtual 234, 3) := by decide +kernel
theorem dX5_chance_72 : decode cX5_chance 72 = .ok (.invokestatic 237, 3) := by decide +kernel
theorem dX5_chance_75 : decode cX5_chance 75 = .ok (.iload_n 1, 1) := by decide +kernel
theorem dX5_chance_76 : decode cX5_chance 76 = .ok (.if_icmp .lt 10, 3) := by decide +kernel
theorem dX5_chance_79 : decode cX5_chance 79 = .ok (.iload 4, 2) := by decide +kernel
theorem dX5_chance_81 : decode cX5_chance 81 = .ok (.iload 7, 2) := by decide +kernel
theorem dX5_chance_83 : decode cX5_chance 83 = .ok (.iadd, 1) := by decide +kernel
theorem dX5_chance_84 : decode cX5_chance 84 = .ok (.istore 4, 2) := by decide +kernel
theorem dX5_chance_86 : decode cX5_chance 86 = .ok (.iinc 6 1, 3) := by decide +kernel
theorem dX5_chance_89 : decode cX5_chance 89 = .ok (.goto (-53), 3) := by decide +kernel
theorem dX5_chance_92 : decode cX5_chance 92 = .ok (.iload 4, 2) := by decide +kernel
theorem dX5_chance_94 : decode cX5_chance 94 = .ok (.iload 5, 2) := by decide +kernel
theorem dX5_chance_96 : decode cX5_chance 96 = .ok (.iload_n 3, 1) := by decide +kernel
theorem dX5_chance_97 : decode cX5_chance 97 = .ok (.invokestatic 226, 3) := by decide +kernel
theorem dX5_chance_100 : decode cX5_chance 100 = .ok (.ireturn, 1) := by decide +kernel
theorem dX5_seed_0 : decode cX5_seed 0 = .ok (.aload_n 0, 1) := by decide +kernel
theorem dX5_seed_1 : decode cX5_seed 1 = .ok (.getfield 242, 3) := by decide +kernel
theorem dX5_seed_4 : decode cX5_seed 4 = .ok (.lstore_n 3, 1) := by decide +kernel
theorem dX5_seed_5 : decode cX5_seed 5 = .ok (.aload_n 0, 1) := by decide +kernel
theorem dX5_seed_6 : decode cX5_seed 6 = .ok (.lload_n 1, 1) := by decide +kernel
theorem dX5_seed_7 : decode cX5_seed 7 = .ok (.putfield 242, 3) := by decide +kernel
theorem dX5_seed_10 : decode cX5_seed 10 = .ok (.lload_n 3, 1) := by decide +kernel
theorem dX5_seed_11 : decode cX5_seed 11 = .ok (.lreturn, 1) := by decide +kernel
theorem dX5_drawn_0 : decode cX5_drawn 0 = .ok (.iload_n 1, 1) := by decide +kernel
theorem dX5_drawn_1 : decode cX5_drawn 1 = .ok (.iconst 1, 1) := by decide +kernel
theorem dX5_drawn_2 : decode cX5_drawn 2 = .ok (.if_icmp .lt 9, 3) := by decide +kernel
theorem dX5_drawn_5 : decode cX5_drawn 5 = .ok (.iload_n 1, 1) := by decide +kernel
theorem dX5_drawn_6 : decode cX5_drawn 6 = .ok (.bipush 30, 2) := by decide +kernel
theorem dX5_drawn_8 : decode cX5_drawn 8 = .ok (.if_icmp .le 6, 3) := by decide +kernel
theorem dX5_drawn_11 : decode cX5_drawn 11 = .ok (.bipush (-2), 2) := by decide +kernel
theorem dX5_drawn_13 : decode cX5_drawn 13 = .ok (.ireturn, 1) := by decide +kernel
theorem dX5_drawn_14 : decode cX5_drawn 14 = .ok (.aload_n 0, 1) := by decide +kernel
theorem dX5_drawn_15 : decode cX5_drawn 15 = .ok (.getfield 16, 3) := by decide +kernel
theorem dX5_drawn_18 : decode cX5_drawn 18 = .ok (.aload_n 0, 1) := by decide +kernel
theorem dX5_drawn_19 : decode cX5_drawn 19 = .ok (.getfield 10, 3) := by decide +kernel
theorem dX5_drawn_22 : decode cX5_drawn 22 = .ok (.invokevirtual 69, 3) := by decide +kernel
theorem dX5_drawn_25 : decode cX5_drawn 25 = .ok (.iconst 0, 1) := by decide +kernel
theorem dX5_drawn_26 : decode cX5_drawn 26 = .ok (.istore_n 2, 1) := by decide +kernel
theorem dX5_drawn_27 : decode cX5_drawn 27 = .ok (.iload_n 2, 1) := by decide +kernel
theorem dX5_drawn_28 : decode cX5_drawn 28 = .ok (.iload_n 1, 1) := by decide +kernel
theorem dX5_drawn_29 : decode cX5_drawn 29 = .ok (.if_icmp .ge 20, 3) := by decide +kernel
theorem dX5_drawn_32 : decode cX5_drawn 32 = .ok (.aload_n 0, 1) := by decide +kernel
theorem dX5_drawn_33 : decode cX5_drawn 33 = .ok (.aload_n 0, 1) := by decide +kernel
theorem dX5_drawn_34 : decode cX5_drawn 34 = .ok (.getfield 16, 3) := by decide +kernel
theorem dX5_drawn_37 : decode cX5_drawn 37 = .ok (.getfield 79, 3) := by decide +kernel
theorem dX5_drawn_40 : decode cX5_drawn 40 = .ok (.invokevirtual 246, 3) := by decide +kernel
theorem dX5_drawn_43 : decode cX5_drawn 43 = .ok (.iinc 2 1, 3) := by decide +kernel
theorem dX5_drawn_46 : decode cX5_drawn 46 = .ok (.goto (-19), 3) := by decide +kernel
theorem dX5_drawn_49 : decode cX5_drawn 49 = .ok (.iconst 0, 1) := by decide +kernel
theorem dX5_drawn_50 : decode cX5_drawn 50 = .ok (.istore_n 2, 1) := by decide +kernel
theorem dX5_drawn_51 : decode cX5_drawn 51 = .ok (.iconst 0, 1) := by decide +kernel
theorem dX5_drawn_52 : decode cX5_drawn 52 = .ok (.istore_n 3, 1) := by decide +kernel
theorem dX5_drawn_53 : decode cX5_drawn 53 = .ok (.iload_n 3, 1) := by decide +kernel
theorem dX5_drawn_54 : decode cX5_drawn 54 = .ok (.aload_n 0, 1) := by decide +kernel
theorem dX5_drawn_55 : decode cX5_drawn 55 = .ok (.getfield 16, 3) := by decide +kernel
theorem dX5_drawn_58 : decode cX5_drawn 58 = .ok (.getfield 76, 3) := by decide +kernel
theorem dX5_drawn_61 : decode cX5_drawn 61 = .ok (.if_icmp .ge 24, 3) := by decide +kernel
theorem dX5_drawn_64 : decode cX5_drawn 64 = .ok (.iload_n 2, 1) := by decide +kernel
theorem dX5_drawn_65 : decode cX5_drawn 65 = .ok (.aload_n 0, 1) := by decide +kernel
theorem dX5_drawn_66 : decode cX5_drawn 66 = .ok (.aload_n 0, 1) := by decide +kernel
theorem dX5_drawn_67 : decode cX5_drawn 67 = .ok (.getfield 16, 3) := by decide +kernel
theorem dX5_drawn_70 : decode cX5_drawn 70 = .ok (.iload_n 3, 1) := by decide +kernel
theorem dX5_drawn_71 : decode cX5_drawn 71 = .ok (.invokevirtual 208, 3) := by decide +kernel
theorem dX5_drawn_74 : decode cX5_drawn 74 = .ok (.invokestatic 237, 3) := by decide +kernel
theorem dX5_drawn_77 : decode cX5_drawn 77 = .ok (.iadd, 1) := by decide +kernel
theorem dX5_drawn_78 : decode cX5_drawn 78 = .ok (.istore_n 2, 1) := by decide +kernel
theorem dX5_drawn_79 : decode cX5_drawn 79 = .ok (.iinc 3 1, 3) := by decide +kernel
theorem dX5_drawn_82 : decode cX5_drawn 82 = .ok (.goto (-29), 3) := by decide +kernel
theorem dX5_drawn_85 : decode cX5_drawn 85 = .ok (.iload_n 2, 1) := by decide +kernel
theorem dX5_drawn_86 : decode cX5_drawn 86 = .ok (.ireturn, 1) := by decide +kernel
theorem dX5_keep_0 : decode cX5_keep 0 = .ok (.iload_n 1, 1) := by decide +kernel
theorem dX5_keep_1 : decode cX5_keep 1 = .ok (.ifCond .lt 8, 3) := by decide +kernel
theorem dX5_keep_4 : decode cX5_keep 4 = .ok (.iload_n 1, 1) := by decide +kernel
theorem dX5_keep_5 : decode cX5_keep 5 = .ok (.iconst 2, 1) := by decide +kernel
theorem dX5_keep_6 : decode cX5_keep 6 = .ok (.if_icmp .lt 5, 3) := by decide +kernel
theorem dX5_keep_9 : decode cX5_keep 9 = .ok (.iconst (-1), 1) := by decide +kernel
theorem dX5_keep_10 : decode cX5_keep 10 = .ok (.ireturn, 1) := by decide +kernel
theorem dX5_keep_11 : decode cX5_keep 11 = .ok (.aload_n 0, 1) := by decide +kernel
theorem dX5_keep_12 : decode cX5_keep 12 = .ok (.getfield 23, 3) := by decide +kernel
theorem dX5_keep_15 : decode cX5_keep 15 = .ok (.iload_n 1, 1) := by decide +kernel
theorem dX5_keep_16 : decode cX5_keep 16 = .ok (.aaload, 1) := by decide +kernel
theorem dX5_keep_17 : decode cX5_keep 17 = .ok (.aload_n 0, 1) := by decide +kernel
theorem dX5_keep_18 : decode cX5_keep 18 = .ok (.getfield 10, 3) := by decide +kernel
theorem dX5_keep_21 : decode cX5_keep 21 = .ok (.invokevirtual 69, 3) := by decide +kernel
theorem dX5_keep_24 : decode cX5_keep 24 = .ok (.aload_n 0, 1) := by decide +kernel
theorem dX5_keep_25 : decode cX5_keep 25 = .ok (.getfield 26, 3) := by decide +kernel
theorem dX5_keep_28 : decode cX5_keep 28 = .ok (.iload_n 1, 1) := by decide +kernel
theorem dX5_keep_29 : decode cX5_keep 29 = .ok (.iconst 1, 1) := by decide +kernel
theorem dX5_keep_30 : decode cX5_keep 30 = .ok (.bastore, 1) := by decide +kernel
theorem dX5_keep_31 : decode cX5_keep 31 = .ok (.aload_n 0, 1) := by decide +kernel
theorem dX5_keep_32 : decode cX5_keep 32 = .ok (.getfield 10, 3) := by decide +kernel
theorem dX5_keep_35 : decode cX5_keep 35 = .ok (.getfield 79, 3) := by decide +kernel
theorem dX5_keep_38 : decode cX5_keep 38 = .ok (.getfield 95, 3) := by decide +kernel
theorem dX5_keep_41 : decode cX5_keep 41 = .ok (.ireturn, 1) := by decide +kernel
theorem dX5_again_0 : decode cX5_again 0 = .ok (.iload_n 1, 1) := by decide +kernel
theorem dX5_again_1 : decode cX5_again 1 = .ok (.ifCond .lt 8, 3) := by decide +kernel
theorem dX5_again_4 : decode cX5_again 4 = .ok (.iload_n 1, 1) := by decide +kernel
theorem dX5_again_5 : decode cX5_again 5 = .ok (.iconst 2, 1) := by decide +kernel
theorem dX5_again_6 : decode cX5_again 6 = .ok (.if_icmp .lt 5, 3) := by decide +kernel
theorem dX5_again_9 : decode cX5_again 9 = .ok (.iconst (-1), 1) := by decide +kernel
theorem dX5_again_10 : decode cX5_again 10 = .ok (.ireturn, 1) := by decide +kernel
theorem dX5_again_11 : decode cX5_again 11 = .ok (.aload_n 0, 1) := by decide +kernel
theorem dX5_again_12 : decode cX5_again 12 = .ok (.getfield 26, 3) := by decide +kernel
theorem dX5_again_15 : decode cX5_again 15 = .ok (.iload_n 1, 1) := by decide +kernel
theorem dX5_again_16 : decode cX5_again 16 = .ok (.baload, 1) := by decide +kernel
theorem dX5_again_17 : decode cX5_again 17 = .ok (.ifCond .ne 6, 3) := by decide +kernel
theorem dX5_again_20 : decode cX5_again 20 = .ok (.bipush (-3), 2) := by decide +kernel
theorem dX5_again_22 : decode cX5_again 22 = .ok (.ireturn, 1) := by decide +kernel
theorem dX5_again_23 : decode cX5_again 23 = .ok (.aload_n 0, 1) := by decide +kernel
theorem dX5_again_24 : decode cX5_again 24 = .ok (.getfield 10, 3) := by decide +kernel
theorem dX5_again_27 : decode cX5_again 27 = .ok (.aload_n 0, 1) := by decide +kernel
theorem dX5_again_28 : decode cX5_again 28 = .ok (.getfield 23, 3) := by decide +kernel
theorem dX5_again_31 : decode cX5_again 31 = .ok (.iload_n 1, 1) := by decide +kernel
theorem dX5_again_32 : decode cX5_again 32 = .ok (.aaload, 1) := by decide +kernel
theorem dX5_again_33 : decode cX5_again 33 = .ok (.invokevirtual 69, 3) := by decide +kernel
theorem dX5_again_36 : decode cX5_again 36 = .ok (.aload_n 0, 1) := by decide +kernel
theorem dX5_again_37 : decode cX5_again 37 = .ok (.invokevirtual 73, 3) := by decide +kernel
theorem dX5_again_40 : decode cX5_again 40 = .ok (.aload_n 0, 1) := by decide +kernel
theorem dX5_again_41 : decode cX5_again 41 = .ok (.getfield 10, 3) := by decide +kernel
theorem dX5_again_44 : decode cX5_again 44 = .ok (.getfield 79, 3) := by decide +kernel
theorem dX5_again_47 : decode cX5_again 47 = .ok (.getfield 95, 3) := by decide +kernel
theorem dX5_again_50 : decode cX5_again 50 = .ok (.ireturn, 1) := by decide +kernel
theorem dX5_isElement_0 : decode cX5_isElement 0 = .ok (.iload_n 1, 1) := by decide +kernel
theorem dX5_isElement_1 : decode cX5_isElement 1 = .ok (.ifCond .lt 21, 3) := by decide +kernel
theorem dX5_isElement_4 : decode cX5_isElement 4 = .ok (.iload_n 1, 1) := by decide +kernel
theorem dX5_isElement_5 : decode cX5_isElement 5 = .ok (.aload_n 0, 1) := by decide +kernel
theorem dX5_isElement_6 : decode cX5_isElement 6 = .ok (.getfield 10, 3) := by decide +kernel
theorem dX5_isElement_9 : decode cX5_isElement 9 = .ok (.getfield 79, 3) := by decide +kernel
theorem dX5_isElement_12 : decode cX5_isElement 12 = .ok (.getfield 83, 3) := by decide +kernel
theorem dX5_isElement_15 : decode cX5_isElement 15 = .ok (.if_icmp .ge 7, 3) := by decide +kernel
theorem dX5_isElement_18 : decode cX5_isElement 18 = .ok (.iconst 1, 1) := by decide +kernel
theorem dX5_isElement_19 : decode cX5_isElement 19 = .ok (.goto 4, 3) := by decide +kernel
theorem dX5_isElement_22 : decode cX5_isElement 22 = .ok (.iconst 0, 1) := by decide +kernel
theorem dX5_isElement_23 : decode cX5_isElement 23 = .ok (.ireturn, 1) := by decide +kernel
theorem dX5_isPath_0 : decode cX5_isPath 0 = .ok (.iload_n 1, 1) := by decide +kernel
theorem dX5_isPath_1 : decode cX5_isPath 1 = .ok (.ifCond .lt 18, 3) := by decide +kernel
theorem dX5_isPath_4 : decode cX5_isPath 4 = .ok (.iload_n 1, 1) := by decide +kernel
theorem dX5_isPath_5 : decode cX5_isPath 5 = .ok (.aload_n 0, 1) := by decide +kernel
theorem dX5_isPath_6 : decode cX5_isPath 6 = .ok (.getfield 10, 3) := by decide +kernel
theorem dX5_isPath_9 : decode cX5_isPath 9 = .ok (.getfield 76, 3) := by decide +kernel
theorem dX5_isPath_12 : decode cX5_isPath 12 = .ok (.if_icmp .ge 7, 3) := by decide +kernel
theorem dX5_isPath_15 : decode cX5_isPath 15 = .ok (.iconst 1, 1) := by decide +kernel
theorem dX5_isPath_16 : decode cX5_isPath 16 = .ok (.goto 4, 3) := by decide +kernel
theorem dX5_isPath_19 : decode cX5_isPath 19 = .ok (.iconst 0, 1) := by decide +kernel
theorem dX5_isPath_20 : decode cX5_isPath 20 = .ok (.ireturn, 1) := by decide +kernel
theorem dX5_readTask_0 : decode cX5_readTask 0 = .ok (.aload_n 0, 1) := by decide +kernel
theorem dX5_readTask_1 : decode cX5_readTask 1 = .ok (.getfield 16, 3) := by decide +kernel
theorem dX5_readTask_4 : decode cX5_readTask 4 = .ok (.invokevirtual 250, 3) := by decide +kernel
theorem dX5_readTask_7 : decode cX5_readTask 7 = .ok (.aload_n 0, 1) := by decide +kernel
theorem dX5_readTask_8 : decode cX5_readTask 8 = .ok (.getfield 40, 3) := by decide +kernel
theorem dX5_readTask_11 : decode cX5_readTask 11 = .ok (.invokevirtual 253, 3) := by decide +kernel
theorem dX5_readTask_14 : decode cX5_readTask 14 = .ok (.iconst 0, 1) := by decide +kernel
theorem dX5_readTask_15 : decode cX5_readTask 15 = .ok (.istore_n 2, 1) := by decide +kernel
theorem dX5_readTask_16 : decode cX5_readTask 16 = .ok (.iload_n 2, 1) := by decide +kernel
theorem dX5_readTask_17 : decode cX5_readTask 17 = .ok (.aload_n 0, 1) := by decide +kernel
theorem dX5_readTask_18 : decode cX5_readTask 18 = .ok (.getfield 61, 3) := by decide +kernel
theorem dX5_readTask_21 : decode cX5_readTask 21 = .ok (.if_icmp .ge 72, 3) := by decide +kernel
theorem dX5_readTask_24 : decode cX5_readTask 24 = .ok (.aload_n 0, 1) := by decide +kernel
theorem dX5_readTask_25 : decode cX5_readTask 25 = .ok (.getfield 16, 3) := by decide +kernel
theorem dX5_readTask_28 : decode cX5_readTask 28 = .ok (.getfield 79, 3) := by decide +kernel
theorem dX5_readTask_31 : decode cX5_readTask 31 = .ok (.getfield 95, 3) := by decide +kernel
theorem dX5_readTask_34 : decode cX5_readTask 34 = .ok (.istore_n 3, 1) := by decide +kernel
theorem dX5_readTask_35 : decode cX5_readTask 35 = .ok (.aload_n 0, 1) := by decide +kernel
theorem dX5_readTask_36 : decode cX5_readTask 36 = .ok (.getfield 40, 3) := by decide +kernel
theorem dX5_readTask_39 : decode cX5_readTask 39 = .ok (.aload_n 0, 1) := by decide +kernel
theorem dX5_readTask_40 : decode cX5_readTask 40 = .ok (.getfield 44, 3) := by decide +kernel
theorem dX5_readTask_43 : decode cX5_readTask 43 = .ok (.iload_n 2, 1) := by decide +kernel
theorem dX5_readTask_44 : decode cX5_readTask 44 = .ok (.caload, 1) := by decide +kernel
theorem dX5_readTask_45 : decode cX5_readTask 45 = .ok (.aload_n 0, 1) := by decide +kernel
theorem dX5_readTask_46 : decode cX5_readTask 46 = .ok (.getfield 16, 3) := by decide +kernel
theorem dX5_readTask_49 : decode cX5_readTask 49 = .ok (.invokevirtual 256, 3) := by decide +kernel
theorem dX5_readTask_52 : decode cX5_readTask 52 = .ok (.ifCond .ne 5, 3) := by decide +kernel
theorem dX5_readTask_55 : decode cX5_readTask 55 = .ok (.iload_n 2, 1) := by decide +kernel
theorem dX5_readTask_56 : decode cX5_readTask 56 = .ok (.ireturn, 1) := by decide +kernel
theorem dX5_readTask_57 : decode cX5_readTask 57 = .ok (.iload_n 1, 1) := by decide +kernel
theorem dX5_readTask_58 : decode cX5_readTask 58 = .ok (.ifCond .eq 29, 3) := by decide +kernel
theorem dX5_readTask_61 : decode cX5_readTask 61 = .ok (.aload_n 0, 1) := by decide +kernel
theorem dX5_readTask_62 : decode cX5_readTask 62 = .ok (.getfield 16, 3) := by decide +kernel
theorem dX5_readTask_65 : decode cX5_readTask 65 = .ok (.getfield 79, 3) := by decide +kernel
theorem dX5_readTask_68 : decode cX5_readTask 68 = .ok (.getfield 95, 3) := by decide +kernel
theorem dX5_readTask_71 : decode cX5_readTask 71 = .ok (.iload_n 3, 1) := by decide +kernel
theorem dX5_readTask_72 : decode cX5_readTask 72 = .ok (.if_icmp .eq 15, 3) := by decide +kernel
theorem dX5_readTask_75 : decode cX5_readTask 75 = .ok (.aload_n 0, 1) := by decide +kernel
theorem dX5_readTask_76 : decode cX5_readTask 76 = .ok (.getfield 16, 3) := by decide +kernel
theorem dX5_readTask_79 : decode cX5_readTask 79 = .ok (.aload_n 0, 1) := by decide +kernel
theorem dX5_readTask_80 : decode cX5_readTask 80 = .ok (.getfield 33, 3) := by decide +kernel
theorem dX5_readTask_83 : decode cX5_readTask 83 = .ok (.invokevirtual 179, 3) := by decide +kernel
theorem dX5_readTask_86 : decode cX5_readTask 86 = .ok (.pop, 1) := by decide +kernel
theorem dX5_readTask_87 : decode cX5_readTask 87 = .ok (.iinc 2 1, 3) := by decide +kernel
theorem dX5_readTask_90 : decode cX5_readTask 90 = .ok (.goto (-74), 3) := by decide +kernel
theorem dX5_readTask_93 : decode cX5_readTask 93 = .ok (.aload_n 0, 1) := by decide +kernel
theorem dX5_readTask_94 : decode cX5_readTask 94 = .ok (.getfield 40, 3) := by decide +kernel
theorem dX5_readTask_97 : decode cX5_readTask 97 = .ok (.invokevirtual 260, 3) := by decide +kernel
theorem dX5_readTask_100 : decode cX5_readTask 100 = .ok (.ifCond .eq 8, 3) := by decide +kernel
theorem dX5_readTask_103 : decode cX5_readTask 103 = .ok (.bipush (-9), 2) := by decide +kernel
theorem dX5_readTask_105 : decode cX5_readTask 105 = .ok (.goto 7, 3) := by decide +kernel
theorem dX5_readTask_108 : decode cX5_readTask 108 = .ok (.aload_n 0, 1) := by decide +kernel
theorem dX5_readTask_109 : decode cX5_readTask 109 = .ok (.getfield 61, 3) := by decide +kernel
theorem dX5_readTask_112 : decode cX5_readTask 112 = .ok (.ireturn, 1) := by decide +kernel
theorem dX5_recordAction_0 : decode cX5_recordAction 0 = .ok (.aload_n 0, 1) := by decide +kernel
theorem dX5_recordAction_1 : decode cX5_recordAction 1 = .ok (.getfield 19, 3) := by decide +kernel
theorem dX5_recordAction_4 : decode cX5_recordAction 4 = .ok (.aload_n 0, 1) := by decide +kernel
theorem dX5_recordAction_5 : decode cX5_recordAction 5 = .ok (.getfield 205, 3) := by decide +kernel
theorem dX5_recordAction_8 : decode cX5_recordAction 8 = .ok (.aaload, 1) := by decide +kernel
theorem dX5_recordAction_9 : decode cX5_recordAction 9 = .ok (.aload_n 0, 1) := by decide +kernel
theorem dX5_recordAction_10 : decode cX5_recordAction 10 = .ok (.getfield 10, 3) := by decide +kernel
theorem dX5_recordAction_13 : decode cX5_recordAction 13 = .ok (.invokevirtual 69, 3) := by decide +kernel
theorem dX5_recordAction_16 : decode cX5_recordAction 16 = .ok (.aload_n 0, 1) := by decide +kernel
theorem dX5_recordAction_17 : decode cX5_recordAction 17 = .ok (.aload_n 0, 1) := by decide +kernel
theorem dX5_recordAction_18 : decode cX5_recordAction 18 = .ok (.getfield 205, 3) := by decide +kernel
theorem dX5_recordAction_21 : decode cX5_recordAction 21 = .ok (.bipush 13, 2) := by decide +kernel
theorem dX5_recordAction_23 : decode cX5_recordAction 23 = .ok (.if_icmp .ge 12, 3) := by decide +kernel
theorem dX5_recordAction_26 : decode cX5_recordAction 26 = .ok (.aload_n 0, 1) := by decide +kernel
theorem dX5_recordAction_27 : decode cX5_recordAction 27 = .ok (.getfield 205, 3) := by decide +kernel
theorem dX5_recordAction_30 : decode cX5_recordAction 30 = .ok (.iconst 1, 1) := by decide +kernel
theorem dX5_recordAction_31 : decode cX5_recordAction 31 = .ok (.iadd, 1) := by decide +kernel
theorem dX5_recordAction_32 : decode cX5_recordAction 32 = .ok (.goto 4, 3) := by decide +kernel
theorem dX5_recordAction_35 : decode cX5_recordAction 35 = .ok (.iconst 0, 1) := by decide +kernel
theorem dX5_recordAction_36 : decode cX5_recordAction 36 = .ok (.putfield 205, 3) := by decide +kernel
theorem dX5_recordAction_39 : decode cX5_recordAction 39 = .ok (.aload_n 0, 1) := by decide +kernel
theorem dX5_recordAction_40 : decode cX5_recordAction 40 = .ok (.getfield 101, 3) := by decide +kernel
theorem dX5_recordAction_43 : decode cX5_recordAction 43 = .ok (.bipush 14, 2) := by decide +kernel
theorem dX5_recordAction_45 : decode cX5_recordAction 45 = .ok (.if_icmp .ge 13, 3) := by decide +kernel
theorem dX5_recordAction_48 : decode cX5_recordAction 48 = .ok (.aload_n 0, 1) := by decide +kernel
theorem dX5_recordAction_49 : decode cX5_recordAction 49 = .ok (.dup, 1) := by decide +kernel
theorem dX5_recordAction_50 : decode cX5_recordAction 50 = .ok (.getfield 101, 3) := by decide +kernel
theorem dX5_recordAction_53 : decode cX5_recordAction 53 = .ok (.iconst 1, 1) := by decide +kernel
theorem dX5_recordAction_54 : decode cX5_recordAction 54 = .ok (.iadd, 1) := by decide +kernel
theorem dX5_recordAction_55 : decode cX5_recordAction 55 = .ok (.putfield 101, 3) := by decide +kernel
theorem dX5_recordAction_58 : decode cX5_recordAction 58 = .ok (.return_, 1) := by decide +kernel
theorem dX5_forgetActions_0 : decode cX5_forgetActions 0 = .ok (.aload_n 0, 1) := by decide +kernel
theorem dX5_forgetActions_1 : decode cX5_forgetActions 1 = .ok (.iconst 0, 1) := by decide +kernel
theorem dX5_forgetActions_2 : decode cX5_forgetActions 2 = .ok (.putfield 101, 3) := by decide +kernel
theorem dX5_forgetActions_5 : decode cX5_forgetActions 5 = .ok (.return_, 1) := by decide +kernel
theorem dX5_answersOf_0 : decode cX5_answersOf 0 = .ok (.aload_n 0, 1) := by decide +kernel
theorem dX5_answersOf_1 : decode cX5_answersOf 1 = .ok (.getfield 33, 3) := by decide +kernel
theorem dX5_answersOf_4 : decode cX5_answersOf 4 = .ok (.aload_n 1, 1) := by decide +kernel
theorem dX5_answersOf_5 : decode cX5_answersOf 5 = .ok (.getfield 79, 3) := by decide +kernel
theorem dX5_answersOf_8 : decode cX5_answersOf 8 = .ok (.aload_n 1, 1) := by decide +kernel
theorem dX5_answersOf_9 : decode cX5_answersOf 9 = .ok (.getfield 136, 3) := by decide +kernel
theorem dX5_answersOf_12 : decode cX5_answersOf 12 = .ok (.iload_n 2, 1) := by decide +kernel
theorem dX5_answersOf_13 : decode cX5_answersOf 13 = .ok (.aaload, 1) := by decide +kernel
theorem dX5_answersOf_14 : decode cX5_answersOf 14 = .ok (.invokevirtual 148, 3) := by decide +kernel
theorem dX5_answersOf_17 : decode cX5_answersOf 17 = .ok (.aload_n 0, 1) := by decide +kernel
theorem dX5_answersOf_18 : decode cX5_answersOf 18 = .ok (.getfield 33, 3) := by decide +kernel
theorem dX5_answersOf_21 : decode cX5_answersOf 21 = .ok (.getfield 152, 3) := by decide +kernel
theorem dX5_answersOf_24 : decode cX5_answersOf 24 = .ok (.ireturn, 1) := by decide +kernel
theorem dX5_pathNumber_0 : decode cX5_pathNumber 0 = .ok (.aload_n 1, 1) := by decide +kernel
theorem dX5_pathNumber_1 : decode cX5_pathNumber 1 = .ok (.getfield 136, 3) := by decide +kernel
theorem dX5_pathNumber_4 : decode cX5_pathNumber 4 = .ok (.iload_n 2, 1) := by decide +kernel
theorem dX5_pathNumber_5 : decode cX5_pathNumber 5 = .ok (.aaload, 1) := by decide +kernel
theorem dX5_pathNumber_6 : decode cX5_pathNumber 6 = .ok (.astore 4, 2) := by decide +kernel
theorem dX5_pathNumber_8 : decode cX5_pathNumber 8 = .ok (.aload_n 0, 1) := by decide +kernel
theorem dX5_pathNumber_9 : decode cX5_pathNumber 9 = .ok (.getfield 33, 3) := by decide +kernel
theorem dX5_pathNumber_12 : decode cX5_pathNumber 12 = .ok (.aload_n 1, 1) := by decide +kernel
theorem dX5_pathNumber_13 : decode cX5_pathNumber 13 = .ok (.getfield 79, 3) := by decide +kernel
theorem dX5_pathNumber_16 : decode cX5_pathNumber 16 = .ok (.aload 4, 2) := by decide +kernel
theorem dX5_pathNumber_18 : decode cX5_pathNumber 18 = .ok (.invokevirtual 148, 3) := by decide +kernel
theorem dX5_pathNumber_21 : decode cX5_pathNumber 21 = .ok (.iload_n 3, 1) := by decide +kernel
theorem dX5_pathNumber_22 : decode cX5_pathNumber 22 = .ok (.tableswitch 77 0 5 #[38, 77, 44, 50, 60, 66], 38) := by decide +kernel
theorem dX5_pathNumber_60 : decode cX5_pathNumber 60 = .ok (.aload 4, 2) := by decide +kernel
theorem dX5_pathNumber_62 : decode cX5_pathNumber 62 = .ok (.getfield 140, 3) := by decide +kernel
theorem dX5_pathNumber_65 : decode cX5_pathNumber 65 = .ok (.ireturn, 1) := by decide +kernel
theorem dX5_pathNumber_66 : decode cX5_pathNumber 66 = .ok (.aload 4, 2) := by decide +kernel
theorem dX5_pathNumber_68 : decode cX5_pathNumber 68 = .ok (.getfield 161, 3) := by decide +kernel
theorem dX5_pathNumber_71 : decode cX5_pathNumber 71 = .ok (.ireturn, 1) := by decide +kernel
theorem dX5_pathNumber_72 : decode cX5_pathNumber 72 = .ok (.aload 4, 2) := by decide +kernel
theorem dX5_pathNumber_74 : decode cX5_pathNumber 74 = .ok (.aload_n 0, 1) := by decide +kernel
theorem dX5_pathNumber_75 : decode cX5_pathNumber 75 = .ok (.getfield 33, 3) := by decide +kernel
theorem dX5_pathNumber_78 : decode cX5_pathNumber 78 = .ok (.invokevirtual 263, 3) := by decide +kernel
theorem dX5_pathNumber_81 : decode cX5_pathNumber 81 = .ok (.ireturn, 1) := by decide +kernel
theorem dX5_pathNumber_82 : decode cX5_pathNumber 82 = .ok (.aload 4, 2) := by decide +kernel
theorem dX5_pathNumber_84 : decode cX5_pathNumber 84 = .ok (.getfield 266, 3) := by decide +kernel
theorem dX5_pathNumber_87 : decode cX5_pathNumber 87 = .ok (.ireturn, 1) := by decide +kernel
theorem dX5_pathNumber_88 : decode cX5_pathNumber 88 = .ok (.aload_n 0, 1) := by decide +kernel
theorem dX5_pathNumber_89 : decode cX5_pathNumber 89 = .ok (.getfield 33, 3) := by decide +kernel
theorem dX5_pathNumber_92 : decode cX5_pathNumber 92 = .ok (.getfield 155, 3) := by decide +kernel
theorem dX5_pathNumber_95 : decode cX5_pathNumber 95 = .ok (.invokestatic 237, 3) := by decide +kernel
theorem dX5_pathNumber_98 : decode cX5_pathNumber 98 = .ok (.ireturn, 1) := by decide +kernel
theorem dX5_pathNumber_99 : decode cX5_pathNumber 99 = .ok (.aload_n 0, 1) := by decide +kernel
theorem dX5_pathNumber_100 : decode cX5_pathNumber 100 = .ok (.getfield 33, 3) := by decide +kernel
theorem dX5_pathNumber_103 : decode cX5_pathNumber 103 = .ok (.getfield 152, 3) := by decide +kernel
theorem dX5_pathNumber_106 : decode cX5_pathNumber 106 = .ok (.invokestatic 237, 3) := by decide +kernel
theorem dX5_pathNumber_109 : decode cX5_pathNumber 109 = .ok (.ireturn, 1) := by decide +kernel
theorem dX5_splits_0 : decode cX5_splits 0 = .ok (.lload_n 1, 1) := by decide +kernel
theorem dX5_splits_1 : decode cX5_splits 1 = .ok (.lconst 0, 1) := by decide +kernel
theorem dX5_splits_2 : decode cX5_splits 2 = .ok (.lcmp, 1) := by decide +kernel
theorem dX5_splits_3 : decode cX5_splits 3 = .ok (.ifCond .lt 18, 3) := by decide +kernel
theorem dX5_splits_6 : decode cX5_splits 6 = .ok (.iload_n 3, 1) := by decide +kernel
theorem dX5_splits_7 : decode cX5_splits 7 = .ok (.iconst 2, 1) := by decide +kernel
theorem dX5_splits_8 : decode cX5_splits 8 = .ok (.if_icmp .lt 13, 3) := by decide +kernel
theorem dX5_splits_11 : decode cX5_splits 11 = .ok (.iload 4, 2) := by decide +kernel
theorem dX5_splits_13 : decode cX5_splits 13 = .ok (.aload_n 0, 1) := by decide +kernel
theorem dX5_splits_14 : decode cX5_splits 14 = .ok (.getfield 55, 3) := by decide +kernel
theorem dX5_splits_17 : decode cX5_splits 17 = .ok (.arraylength, 1) := by decide +kernel
theorem dX5_splits_18 : decode cX5_splits 18 = .ok (.if_icmp .le 5, 3) := by decide +kernel
theorem dX5_splits_21 : decode cX5_splits 21 = .ok (.iconst 0, 1) := by decide +kernel
theorem dX5_splits_22 : decode cX5_splits 22 = .ok (.ireturn, 1) := by decide +kernel
theorem dX5_splits_23 : decode cX5_splits 23 = .ok (.lload_n 1, 1) := by decide +kernel
theorem dX5_splits_24 : decode cX5_splits 24 = .ok (.lstore 5, 2) := by decide +kernel
theorem dX5_splits_26 : decode cX5_splits 26 = .ok (.iload 4, 2) := by decide +kernel
theorem dX5_splits_28 : decode cX5_splits 28 = .ok (.iconst 1, 1) := by decide +kernel
theorem dX5_splits_29 : decode cX5_splits 29 = .ok (.isub, 1) := by decide +kernel
theorem dX5_splits_30 : decode cX5_splits 30 = .ok (.istore 7, 2) := by decide +kernel
theorem dX5_splits_32 : decode cX5_splits 32 = .ok (.iload 7, 2) := by decide +kernel
theorem dX5_splits_34 : decode cX5_splits 34 = .ok (.ifCond .lt 29, 3) := by decide +kernel
theorem dX5_splits_37 : decode cX5_splits 37 = .ok (.aload_n 0, 1) := by decide +kernel
theorem dX5_splits_38 : decode cX5_splits 38 = .ok (.getfield 55, 3) := by decide +kernel
theorem dX5_splits_41 : decode cX5_splits 41 = .ok (.iload 7, 2) := by decide +kernel
theorem dX5_splits_43 : decode cX5_splits 43 = .ok (.lload 5, 2) := by decide +kernel
theorem dX5_splits_45 : decode cX5_splits 45 = .ok (.iload_n 3, 1) := by decide +kernel
theorem dX5_splits_46 : decode cX5_splits 46 = .ok (.i2l, 1) := by decide +kernel
theorem dX5_splits_47 : decode cX5_splits 47 = .ok (.lrem, 1) := by decide +kernel
theorem dX5_splits_48 : decode cX5_splits 48 = .ok (.l2i, 1) := by decide +kernel
theorem dX5_splits_49 : decode cX5_splits 49 = .ok (.iastore, 1) := by decide +kernel
theorem dX5_splits_50 : decode cX5_splits 50 = .ok (.lload 5, 2) := by decide +kernel
theorem dX5_splits_52 : decode cX5_splits 52 = .ok (.iload_n 3, 1) := by decide +kernel
theorem dX5_splits_53 : decode cX5_splits 53 = .ok (.i2l, 1) := by decide +kernel
theorem dX5_splits_54 : decode cX5_splits 54 = .ok (.ldiv, 1) := by decide +kernel
theorem dX5_splits_55 : decode cX5_splits 55 = .ok (.lstore 5, 2) := by decide +kernel
theorem dX5_splits_57 : decode cX5_splits 57 = .ok (.iinc 7 (-1), 3) := by decide +kernel
theorem dX5_splits_60 : decode cX5_splits 60 = .ok (.goto (-28), 3) := by decide +kernel
theorem dX5_splits_63 : decode cX5_splits 63 = .ok (.lload 5, 2) := by decide +kernel
theorem dX5_splits_65 : decode cX5_splits 65 = .ok (.lconst 0, 1) := by decide +kernel
theorem dX5_splits_66 : decode cX5_splits 66 = .ok (.lcmp, 1) := by decide +kernel
theorem dX5_splits_67 : decode cX5_splits 67 = .ok (.ifCond .ne 7, 3) := by decide +kernel
theorem dX5_splits_70 : decode cX5_splits 70 = .ok (.iconst 1, 1) := by decide +kernel
theorem dX5_splits_71 : decode cX5_splits 71 = .ok (.goto 4, 3) := by decide +kernel
theorem dX5_splits_74 : decode cX5_splits 74 = .ok (.iconst 0, 1) := by decide +kernel
theorem dX5_splits_75 : decode cX5_splits 75 = .ok (.ireturn, 1) := by decide +kernel
theorem dX5_partsAreSteps_0 : decode cX5_partsAreSteps 0 = .ok (.iconst 0, 1) := by decide +kernel
theorem dX5_partsAreSteps_1 : decode cX5_partsAreSteps 1 = .ok (.istore_n 2, 1) := by decide +kernel
theorem dX5_partsAreSteps_2 : decode cX5_partsAreSteps 2 = .ok (.iload_n 2, 1) := by decide +kernel
theorem dX5_partsAreSteps_3 : decode cX5_partsAreSteps 3 = .ok (.iload_n 1, 1) := by decide +kernel
theorem dX5_partsAreSteps_4 : decode cX5_partsAreSteps 4 = .ok (.if_icmp .ge 65, 3) := by decide +kernel
theorem dX5_partsAreSteps_7 : decode cX5_partsAreSteps 7 = .ok (.aload_n 0, 1) := by decide +kernel
theorem dX5_partsAreSteps_8 : decode cX5_partsAreSteps 8 = .ok (.getfield 55, 3) := by decide +kernel
theorem dX5_partsAreSteps_11 : decode cX5_partsAreSteps 11 = .ok (.iload_n 2, 1) := by decide +kernel
theorem dX5_partsAreSteps_12 : decode cX5_partsAreSteps 12 = .ok (.iaload, 1) := by decide +kernel
theorem dX5_partsAreSteps_13 : decode cX5_partsAreSteps 13 = .ok (.sipush 1000, 3) := by decide +kernel
theorem dX5_partsAreSteps_16 : decode cX5_partsAreSteps 16 = .ok (.idiv, 1) := by decide +kernel
theorem dX5_partsAreSteps_17 : decode cX5_partsAreSteps 17 = .ok (.istore_n 3, 1) := by decide +kernel
theorem dX5_partsAreSteps_18 : decode cX5_partsAreSteps 18 = .ok (.aload_n 0, 1) := by decide +kernel
theorem dX5_partsAreSteps_19 : decode cX5_partsAreSteps 19 = .ok (.getfield 55, 3) := by decide +kernel
theorem dX5_partsAreSteps_22 : decode cX5_partsAreSteps 22 = .ok (.iload_n 2, 1) := by decide +kernel
theorem dX5_partsAreSteps_23 : decode cX5_partsAreSteps 23 = .ok (.iaload, 1) := by decide +kernel
theorem dX5_partsAreSteps_24 : decode cX5_partsAreSteps 24 = .ok (.bipush 100, 2) := by decide +kernel
theorem dX5_partsAreSteps_26 : decode cX5_partsAreSteps 26 = .ok (.idiv, 1) := by decide +kernel
theorem dX5_partsAreSteps_27 : decode cX5_partsAreSteps 27 = .ok (.bipush 10, 2) := by decide +kernel
theorem dX5_partsAreSteps_29 : decode cX5_partsAreSteps 29 = .ok (.irem, 1) := by decide +kernel
theorem dX5_partsAreSteps_30 : decode cX5_partsAreSteps 30 = .ok (.istore 4, 2) := by decide +kernel
theorem dX5_partsAreSteps_32 : decode cX5_partsAreSteps 32 = .ok (.aload_n 0, 1) := by decide +kernel
theorem dX5_partsAreSteps_33 : decode cX5_partsAreSteps 33 = .ok (.getfield 55, 3) := by decide +kernel
theorem dX5_partsAreSteps_36 : decode cX5_partsAreSteps 36 = .ok (.iload_n 2, 1) := by decide +kernel
theorem dX5_partsAreSteps_37 : decode cX5_partsAreSteps 37 = .ok (.iaload, 1) := by decide +kernel
theorem dX5_partsAreSteps_38 : decode cX5_partsAreSteps 38 = .ok (.bipush 100, 2) := by decide +kernel
theorem dX5_partsAreSteps_40 : decode cX5_partsAreSteps 40 = .ok (.irem, 1) := by decide +kernel
theorem dX5_partsAreSteps_41 : decode cX5_partsAreSteps 41 = .ok (.istore 5, 2) := by decide +kernel
theorem dX5_partsAreSteps_43 : decode cX5_partsAreSteps 43 = .ok (.iload_n 3, 1) := by decide +kernel
theorem dX5_partsAreSteps_44 : decode cX5_partsAreSteps 44 = .ok (.iconst 1, 1) := by decide +kernel
theorem dX5_partsAreSteps_45 : decode cX5_partsAreSteps 45 = .ok (.if_icmp .gt 16, 3) := by decide +kernel
theorem dX5_partsAreSteps_48 : decode cX5_partsAreSteps 48 = .ok (.iload 4, 2) := by decide +kernel
theorem dX5_partsAreSteps_50 : decode cX5_partsAreSteps 50 = .ok (.iconst 5, 1) := by decide +kernel
theorem dX5_partsAreSteps_51 : decode cX5_partsAreSteps 51 = .ok (.if_icmp .gt 10, 3) := by decide +kernel
theorem dX5_partsAreSteps_54 : decode cX5_partsAreSteps 54 = .ok (.iload 5, 2) := by decide +kernel
theorem dX5_partsAreSteps_56 : decode cX5_partsAreSteps 56 = .ok (.bipush 16, 2) := by decide +kernel
theorem dX5_partsAreSteps_58 : decode cX5_partsAreSteps 58 = .ok (.if_icmp .lt 5, 3) := by decide +kernel
theorem dX5_partsAreSteps_61 : decode cX5_partsAreSteps 61 = .ok (.iconst 0, 1) := by decide +kernel
theorem dX5_partsAreSteps_62 : decode cX5_partsAreSteps 62 = .ok (.ireturn, 1) := by decide +kernel
theorem dX5_partsAreSteps_63 : decode cX5_partsAreSteps 63 = .ok (.iinc 2 1, 3) := by decide +kernel
theorem dX5_partsAreSteps_66 : decode cX5_partsAreSteps 66 = .ok (.goto (-64), 3) := by decide +kernel
theorem dX5_partsAreSteps_69 : decode cX5_partsAreSteps 69 = .ok (.iconst 1, 1) := by decide +kernel
theorem dX5_partsAreSteps_70 : decode cX5_partsAreSteps 70 = .ok (.ireturn, 1) := by decide +kernel
theorem dX5_comesTrue_0 : decode cX5_comesTrue 0 = .ok (.iload_n 1, 1) := by decide +kernel
theorem dX5_comesTrue_1 : decode cX5_comesTrue 1 = .ok (.tableswitch 247 1 7 #[43, 71, 102, 130, 161, 192, 223], 43) := by decide +kernel
theorem dX5_comesTrue_44 : decode cX5_comesTrue 44 = .ok (.iload_n 2, 1) := by decide +kernel
theorem dX5_comesTrue_45 : decode cX5_comesTrue 45 = .ok (.ifCond .ne 25, 3) := by decide +kernel
theorem dX5_comesTrue_48 : decode cX5_comesTrue 48 = .ok (.aload_n 0, 1) := by decide +kernel
theorem dX5_comesTrue_49 : decode cX5_comesTrue 49 = .ok (.aload_n 0, 1) := by decide +kernel
theorem dX5_comesTrue_50 : decode cX5_comesTrue 50 = .ok (.getfield 16, 3) := by decide +kernel
theorem dX5_comesTrue_53 : decode cX5_comesTrue 53 = .ok (.getfield 79, 3) := by decide +kernel
theorem dX5_comesTrue_56 : decode cX5_comesTrue 56 = .ok (.iload_n 3, 1) := by decide +kernel
theorem dX5_comesTrue_57 : decode cX5_comesTrue 57 = .ok (.invokevirtual 176, 3) := by decide +kernel
theorem dX5_comesTrue_60 : decode cX5_comesTrue 60 = .ok (.invokevirtual 269, 3) := by decide +kernel
theorem dX5_comesTrue_63 : decode cX5_comesTrue 63 = .ok (.ifCond .eq 7, 3) := by decide +kernel
theorem dX5_comesTrue_66 : decode cX5_comesTrue 66 = .ok (.iconst 1, 1) := by decide +kernel
theorem dX5_comesTrue_67 : decode cX5_comesTrue 67 = .ok (.goto 4, 3) := by decide +kernel
theorem dX5_comesTrue_70 : decode cX5_comesTrue 70 = .ok (.iconst 0, 1) := by decide +kernel
theorem dX5_comesTrue_71 : decode cX5_comesTrue 71 = .ok (.ireturn, 1) := by decide +kernel
theorem dX5_comesTrue_72 : decode cX5_comesTrue 72 = .ok (.iload_n 2, 1) := by decide +kernel
theorem dX5_comesTrue_73 : decode cX5_comesTrue 73 = .ok (.ifCond .ne 28, 3) := by decide +kernel
theorem dX5_comesTrue_76 : decode cX5_comesTrue 76 = .ok (.iload_n 3, 1) := by decide +kernel
theorem dX5_comesTrue_77 : decode cX5_comesTrue 77 = .ok (.ifCond .ne 24, 3) := by decide +kernel
theorem dX5_comesTrue_80 : decode cX5_comesTrue 80 = .ok (.aload_n 0, 1) := by decide +kernel
theorem dX5_comesTrue_81 : decode cX5_comesTrue 81 = .ok (.aload_n 0, 1) := by decide +kernel
theorem dX5_comesTrue_82 : decode cX5_comesTrue 82 = .ok (.getfield 16, 3) := by decide +kernel
theorem dX5_comesTrue_85 : decode cX5_comesTrue 85 = .ok (.getfield 79, 3) := by decide +kernel
theorem dX5_comesTrue_88 : decode cX5_comesTrue 88 = .ok (.invokevirtual 183, 3) := by decide +kernel
theorem dX5_comesTrue_91 : decode cX5_comesTrue 91 = .ok (.invokevirtual 269, 3) := by decide +kernel
theorem dX5_comesTrue_94 : decode cX5_comesTrue 94 = .ok (.ifCond .eq 7, 3) := by decide +kernel
theorem dX5_comesTrue_97 : decode cX5_comesTrue 97 = .ok (.iconst 1, 1) := by decide +kernel
theorem dX5_comesTrue_98 : decode cX5_comesTrue 98 = .ok (.goto 4, 3) := by decide +kernel
theorem dX5_comesTrue_101 : decode cX5_comesTrue 101 = .ok (.iconst 0, 1) := by decide +kernel
theorem dX5_comesTrue_102 : decode cX5_comesTrue 102 = .ok (.ireturn, 1) := by decide +kernel
theorem dX5_comesTrue_103 : decode cX5_comesTrue 103 = .ok (.iload_n 2, 1) := by decide +kernel
theorem dX5_comesTrue_104 : decode cX5_comesTrue 104 = .ok (.ifCond .ne 25, 3) := by decide +kernel
theorem dX5_comesTrue_107 : decode cX5_comesTrue 107 = .ok (.aload_n 0, 1) := by decide +kernel
theorem dX5_comesTrue_108 : decode cX5_comesTrue 108 = .ok (.aload_n 0, 1) := by decide +kernel
theorem dX5_comesTrue_109 : decode cX5_comesTrue 109 = .ok (.getfield 16, 3) := by decide +kernel
theorem dX5_comesTrue_112 : decode cX5_comesTrue 112 = .ok (.getfield 79, 3) := by decide +kernel
theorem dX5_comesTrue_115 : decode cX5_comesTrue 115 = .ok (.iload_n 3, 1) := by decide +kernel
theorem dX5_comesTrue_116 : decode cX5_comesTrue 116 = .ok (.invokevirtual 187, 3) := by decide +kernel
theorem dX5_comesTrue_119 : decode cX5_comesTrue 119 = .ok (.invokevirtual 269, 3) := by decide +kernel
theorem dX5_comesTrue_122 : decode cX5_comesTrue 122 = .ok (.ifCond .eq 7, 3) := by decide +kernel
theorem dX5_comesTrue_125 : decode cX5_comesTrue 125 = .ok (.iconst 1, 1) := by decide +kernel
theorem dX5_comesTrue_126 : decode cX5_comesTrue 126 = .ok (.goto 4, 3) := by decide +kernel
theorem dX5_comesTrue_129 : decode cX5_comesTrue 129 = .ok (.iconst 0, 1) := by decide +kernel
theorem dX5_comesTrue_130 : decode cX5_comesTrue 130 = .ok (.ireturn, 1) := by decide +kernel
theorem dX5_comesTrue_131 : decode cX5_comesTrue 131 = .ok (.iload_n 2, 1) := by decide +kernel
theorem dX5_comesTrue_132 : decode cX5_comesTrue 132 = .ok (.aload_n 0, 1) := by decide +kernel
theorem dX5_comesTrue_133 : decode cX5_comesTrue 133 = .ok (.getfield 16, 3) := by decide +kernel
theorem dX5_comesTrue_136 : decode cX5_comesTrue 136 = .ok (.getfield 76, 3) := by decide +kernel
theorem dX5_comesTrue_139 : decode cX5_comesTrue 139 = .ok (.if_icmp .ge 21, 3) := by decide +kernel
theorem dX5_comesTrue_142 : decode cX5_comesTrue 142 = .ok (.aload_n 0, 1) := by decide +kernel
theorem dX5_comesTrue_143 : decode cX5_comesTrue 143 = .ok (.aload_n 0, 1) := by decide +kernel
theorem dX5_comesTrue_144 : decode cX5_comesTrue 144 = .ok (.getfield 16, 3) := by decide +kernel
theorem dX5_comesTrue_147 : decode cX5_comesTrue 147 = .ok (.iload_n 2, 1) := by decide +kernel
theorem dX5_comesTrue_148 : decode cX5_comesTrue 148 = .ok (.iconst 1, 1) := by decide +kernel
theorem dX5_comesTrue_149 : decode cX5_comesTrue 149 = .ok (.invokevirtual 132, 3) := by decide +kernel
theorem dX5_comesTrue_152 : decode cX5_comesTrue 152 = .ok (.iload_n 3, 1) := by decide +kernel
theorem dX5_comesTrue_153 : decode cX5_comesTrue 153 = .ok (.if_icmp .ne 7, 3) := by decide +kernel
theorem dX5_comesTrue_156 : decode cX5_comesTrue 156 = .ok (.iconst 1, 1) := by decide +kernel
theorem dX5_comesTrue_157 : decode cX5_comesTrue 157 = .ok (.goto 4, 3) := by decide +kernel
theorem dX5_comesTrue_160 : decode cX5_comesTrue 160 = .ok (.iconst 0, 1) := by decide +kernel
theorem dX5_comesTrue_161 : decode cX5_comesTrue 161 = .ok (.ireturn, 1) := by decide +kernel
theorem dX5_comesTrue_162 : decode cX5_comesTrue 162 = .ok (.iload_n 2, 1) := by decide +kernel
theorem dX5_comesTrue_163 : decode cX5_comesTrue 163 = .ok (.aload_n 0, 1) := by decide +kernel
theorem dX5_comesTrue_164 : decode cX5_comesTrue 164 = .ok (.getfield 16, 3) := by decide +kernel
theorem dX5_comesTrue_167 : decode cX5_comesTrue 167 = .ok (.getfield 76, 3) := by decide +kernel
theorem dX5_comesTrue_170 : decode cX5_comesTrue 170 = .ok (.if_icmp .ge 21, 3) := by decide +kernel
theorem dX5_comesTrue_173 : decode cX5_comesTrue 173 = .ok (.aload_n 0, 1) := by decide +kernel
theorem dX5_comesTrue_174 : decode cX5_comesTrue 174 = .ok (.aload_n 0, 1) := by decide +kernel
theorem dX5_comesTrue_175 : decode cX5_comesTrue 175 = .ok (.getfield 16, 3) := by decide +kernel
theorem dX5_comesTrue_178 : decode cX5_comesTrue 178 = .ok (.iload_n 2, 1) := by decide +kernel
theorem dX5_comesTrue_179 : decode cX5_comesTrue 179 = .ok (.iconst 2, 1) := by decide +kernel
theorem dX5_comesTrue_180 : decode cX5_comesTrue 180 = .ok (.invokevirtual 132, 3) := by decide +kernel
theorem dX5_comesTrue_183 : decode cX5_comesTrue 183 = .ok (.iload_n 3, 1) := by decide +kernel
theorem dX5_comesTrue_184 : decode cX5_comesTrue 184 = .ok (.if_icmp .ne 7, 3) := by decide +kernel
theorem dX5_comesTrue_187 : decode cX5_comesTrue 187 = .ok (.iconst 1, 1) := by decide +kernel
theorem dX5_comesTrue_188 : decode cX5_comesTrue 188 = .ok (.goto 4, 3) := by decide +kernel
theorem dX5_comesTrue_191 : decode cX5_comesTrue 191 = .ok (.iconst 0, 1) := by decide +kernel
theorem dX5_comesTrue_192 : decode cX5_comesTrue 192 = .ok (.ireturn, 1) := by decide +kernel
theorem dX5_comesTrue_193 : decode cX5_comesTrue 193 = .ok (.iload_n 2, 1) := by decide +kernel
theorem dX5_comesTrue_194 : decode cX5_comesTrue 194 = .ok (.aload_n 0, 1) := by decide +kernel
theorem dX5_comesTrue_195 : decode cX5_comesTrue 195 = .ok (.getfield 16, 3) := by decide +kernel
theorem dX5_comesTrue_198 : decode cX5_comesTrue 198 = .ok (.getfield 76, 3) := by decide +kernel
theorem dX5_comesTrue_201 : decode cX5_comesTrue 201 = .ok (.if_icmp .ge 21, 3) := by decide +kernel
theorem dX5_comesTrue_204 : decode cX5_comesTrue 204 = .ok (.aload_n 0, 1) := by decide +kernel
theorem dX5_comesTrue_205 : decode cX5_comesTrue 205 = .ok (.aload_n 0, 1) := by decide +kernel
theorem dX5_comesTrue_206 : decode cX5_comesTrue 206 = .ok (.getfield 16, 3) := by decide +kernel
theorem dX5_comesTrue_209 : decode cX5_comesTrue 209 = .ok (.iload_n 2, 1) := by decide +kernel
theorem dX5_comesTrue_210 : decode cX5_comesTrue 210 = .ok (.iconst 3, 1) := by decide +kernel
theorem dX5_comesTrue_211 : decode cX5_comesTrue 211 = .ok (.invokevirtual 132, 3) := by decide +kernel
theorem dX5_comesTrue_214 : decode cX5_comesTrue 214 = .ok (.iload_n 3, 1) := by decide +kernel
theorem dX5_comesTrue_215 : decode cX5_comesTrue 215 = .ok (.if_icmp .ne 7, 3) := by decide +kernel
theorem dX5_comesTrue_218 : decode cX5_comesTrue 218 = .ok (.iconst 1, 1) := by decide +kernel
theorem dX5_comesTrue_219 : decode cX5_comesTrue 219 = .ok (.goto 4, 3) := by decide +kernel
theorem dX5_comesTrue_222 : decode cX5_comesTrue 222 = .ok (.iconst 0, 1) := by decide +kernel
theorem dX5_comesTrue_223 : decode cX5_comesTrue 223 = .ok (.ireturn, 1) := by decide +kernel
theorem dX5_comesTrue_224 : decode cX5_comesTrue 224 = .ok (.iload_n 2, 1) := by decide +kernel
theorem dX5_comesTrue_225 : decode cX5_comesTrue 225 = .ok (.ifCond .ne 21, 3) := by decide +kernel
theorem dX5_comesTrue_228 : decode cX5_comesTrue 228 = .ok (.aload_n 0, 1) := by decide +kernel
theorem dX5_comesTrue_229 : decode cX5_comesTrue 229 = .ok (.getfield 16, 3) := by decide +kernel
theorem dX5_comesTrue_232 : decode cX5_comesTrue 232 = .ok (.getfield 79, 3) := by decide +kernel
theorem dX5_comesTrue_235 : decode cX5_comesTrue 235 = .ok (.invokevirtual 91, 3) := by decide +kernel
theorem dX5_comesTrue_238 : decode cX5_comesTrue 238 = .ok (.iload_n 3, 1) := by decide +kernel
theorem dX5_comesTrue_239 : decode cX5_comesTrue 239 = .ok (.if_icmp .ne 7, 3) := by decide +kernel
theorem dX5_comesTrue_242 : decode cX5_comesTrue 242 = .ok (.iconst 1, 1) := by decide +kernel
theorem dX5_comesTrue_243 : decode cX5_comesTrue 243 = .ok (.goto 4, 3) := by decide +kernel
theorem dX5_comesTrue_246 : decode cX5_comesTrue 246 = .ok (.iconst 0, 1) := by decide +kernel
theorem dX5_comesTrue_247 : decode cX5_comesTrue 247 = .ok (.ireturn, 1) := by decide +kernel
theorem dX5_comesTrue_248 : decode cX5_comesTrue 248 = .ok (.iconst 0, 1) := by decide +kernel
theorem dX5_comesTrue_249 : decode cX5_comesTrue 249 = .ok (.ireturn, 1) := by decide +kernel
theorem dX5_emitsAfter_0 : decode cX5_emitsAfter 0 = .ok (.iload_n 1, 1) := by decide +kernel
theorem dX5_emitsAfter_1 : decode cX5_emitsAfter 1 = .ok (.ifCond .eq 15, 3) := by decide +kernel
theorem dX5_emitsAfter_4 : decode cX5_emitsAfter 4 = .ok (.aload_n 0, 1) := by decide +kernel
theorem dX5_emitsAfter_5 : decode cX5_emitsAfter 5 = .ok (.getfield 16, 3) := by decide +kernel
theorem dX5_emitsAfter_8 : decode cX5_emitsAfter 8 = .ok (.aload_n 0, 1) := by decide +kernel
theorem dX5_emitsAfter_9 : decode cX5_emitsAfter 9 = .ok (.getfield 33, 3) := by decide +kernel
theorem dX5_emitsAfter_12 : decode cX5_emitsAfter 12 = .ok (.invokevirtual 179, 3) := by decide +kernel
theorem dX5_emitsAfter_15 : decode cX5_emitsAfter 15 = .ok (.pop, 1) := by decide +kernel
theorem dX5_emitsAfter_16 : decode cX5_emitsAfter 16 = .ok (.iload_n 1, 1) := by decide +kernel
theorem dX5_emitsAfter_17 : decode cX5_emitsAfter 17 = .ok (.ireturn, 1) := by decide +kernel
theorem dX5_agreesWithAll_0 : decode cX5_agreesWithAll 0 = .ok (.iconst 0, 1) := by decide +kernel
theorem dX5_agreesWithAll_1 : decode cX5_agreesWithAll 1 = .ok (.istore_n 2, 1) := by decide +kernel
theorem dX5_agreesWithAll_2 : decode cX5_agreesWithAll 2 = .ok (.iload_n 2, 1) := by decide +kernel
theorem dX5_agreesWithAll_3 : decode cX5_agreesWithAll 3 = .ok (.aload_n 0, 1) := by decide +kernel
theorem dX5_agreesWithAll_4 : decode cX5_agreesWithAll 4 = .ok (.getfield 104, 3) := by decide +kernel
theorem dX5_agreesWithAll_7 : decode cX5_agreesWithAll 7 = .ok (.if_icmp .ge 41, 3) := by decide +kernel
theorem dX5_agreesWithAll_10 : decode cX5_agreesWithAll 10 = .ok (.aload_n 0, 1) := by decide +kernel
theorem dX5_agreesWithAll_11 : decode cX5_agreesWithAll 11 = .ok (.getfield 48, 3) := by decide +kernel
theorem dX5_agreesWithAll_14 : decode cX5_agreesWithAll 14 = .ok (.iload_n 2, 1) := by decide +kernel
theorem dX5_agreesWithAll_15 : decode cX5_agreesWithAll 15 = .ok (.iaload, 1) := by decide +kernel
theorem dX5_agreesWithAll_16 : decode cX5_agreesWithAll 16 = .ok (.istore_n 3, 1) := by decide +kernel
theorem dX5_agreesWithAll_17 : decode cX5_agreesWithAll 17 = .ok (.aload_n 0, 1) := by decide +kernel
theorem dX5_agreesWithAll_18 : decode cX5_agreesWithAll 18 = .ok (.iload_n 3, 1) := by decide +kernel
theorem dX5_agreesWithAll_19 : decode cX5_agreesWithAll 19 = .ok (.invokevirtual 129, 3) := by decide +kernel
theorem dX5_agreesWithAll_22 : decode cX5_agreesWithAll 22 = .ok (.ifCond .eq 20, 3) := by decide +kernel
theorem dX5_agreesWithAll_25 : decode cX5_agreesWithAll 25 = .ok (.aload_n 0, 1) := by decide +kernel
theorem dX5_agreesWithAll_26 : decode cX5_agreesWithAll 26 = .ok (.iload_n 3, 1) := by decide +kernel
theorem dX5_agreesWithAll_27 : decode cX5_agreesWithAll 27 = .ok (.iload_n 1, 1) := by decide +kernel
theorem dX5_agreesWithAll_28 : decode cX5_agreesWithAll 28 = .ok (.invokevirtual 273, 3) := by decide +kernel
theorem dX5_agreesWithAll_31 : decode cX5_agreesWithAll 31 = .ok (.aload_n 0, 1) := by decide +kernel
theorem dX5_agreesWithAll_32 : decode cX5_agreesWithAll 32 = .ok (.getfield 52, 3) := by decide +kernel
theorem dX5_agreesWithAll_35 : decode cX5_agreesWithAll 35 = .ok (.iload_n 2, 1) := by decide +kernel
theorem dX5_agreesWithAll_36 : decode cX5_agreesWithAll 36 = .ok (.iaload, 1) := by decide +kernel
theorem dX5_agreesWithAll_37 : decode cX5_agreesWithAll 37 = .ok (.if_icmp .eq 5, 3) := by decide +kernel
theorem dX5_agreesWithAll_40 : decode cX5_agreesWithAll 40 = .ok (.iconst 0, 1) := by decide +kernel
theorem dX5_agreesWithAll_41 : decode cX5_agreesWithAll 41 = .ok (.ireturn, 1) := by decide +kernel
theorem dX5_agreesWithAll_42 : decode cX5_agreesWithAll 42 = .ok (.iinc 2 1, 3) := by decide +kernel
theorem dX5_agreesWithAll_45 : decode cX5_agreesWithAll 45 = .ok (.goto (-43), 3) := by decide +kernel
theorem dX5_agreesWithAll_48 : decode cX5_agreesWithAll 48 = .ok (.iconst 1, 1) := by decide +kernel
theorem dX5_agreesWithAll_49 : decode cX5_agreesWithAll 49 = .ok (.ireturn, 1) := by decide +kernel
theorem dX5_answersWithLastTest_0 : decode cX5_answersWithLastTest 0 = .ok (.aload_n 0, 1) := by decide +kernel
theorem dX5_answersWithLastTest_1 : decode cX5_answersWithLastTest 1 = .ok (.getfield 16, 3) := by decide +kernel
theorem dX5_answersWithLastTest_4 : decode cX5_answersWithLastTest 4 = .ok (.getfield 136, 3) := by decide +kernel
theorem dX5_answersWithLastTest_7 : decode cX5_answersWithLastTest 7 = .ok (.iconst 0, 1) := by decide +kernel
theorem dX5_answersWithLastTest_8 : decode cX5_answersWithLastTest 8 = .ok (.aaload, 1) := by decide +kernel
theorem dX5_answersWithLastTest_9 : decode cX5_answersWithLastTest 9 = .ok (.astore_n 3, 1) := by decide +kernel
theorem dX5_answersWithLastTest_10 : decode cX5_answersWithLastTest 10 = .ok (.aload_n 3, 1) := by decide +kernel
theorem dX5_answersWithLastTest_11 : decode cX5_answersWithLastTest 11 = .ok (.aload_n 0, 1) := by decide +kernel
theorem dX5_answersWithLastTest_12 : decode cX5_answersWithLastTest 12 = .ok (.getfield 10, 3) := by decide +kernel
theorem dX5_answersWithLastTest_15 : decode cX5_answersWithLastTest 15 = .ok (.getfield 136, 3) := by decide +kernel
theorem dX5_answersWithLastTest_18 : decode cX5_answersWithLastTest 18 = .ok (.iload_n 1, 1) := by decide +kernel
theorem dX5_answersWithLastTest_19 : decode cX5_answersWithLastTest 19 = .ok (.aaload, 1) := by decide +kernel
theorem dX5_answersWithLastTest_20 : decode cX5_answersWithLastTest 20 = .ok (.invokevirtual 276, 3) := by decide +kernel
theorem dX5_answersWithLastTest_23 : decode cX5_answersWithLastTest 23 = .ok (.aload_n 3, 1) := by decide +kernel
theorem dX5_answersWithLastTest_24 : decode cX5_answersWithLastTest 24 = .ok (.iload_n 2, 1) := by decide +kernel
theorem dX5_answersWithLastTest_25 : decode cX5_answersWithLastTest 25 = .ok (.invokevirtual 279, 3) := by decide +kernel
theorem dX5_answersWithLastTest_28 : decode cX5_answersWithLastTest 28 = .ok (.aload_n 0, 1) := by decide +kernel
theorem dX5_answersWithLastTest_29 : decode cX5_answersWithLastTest 29 = .ok (.getfield 33, 3) := by decide +kernel
theorem dX5_answersWithLastTest_32 : decode cX5_answersWithLastTest 32 = .ok (.aload_n 0, 1) := by decide +kernel
theorem dX5_answersWithLastTest_33 : decode cX5_answersWithLastTest 33 = .ok (.getfield 10, 3) := by decide +kernel
theorem dX5_answersWithLastTest_36 : decode cX5_answersWithLastTest 36 = .ok (.getfield 79, 3) := by decide +kernel
theorem dX5_answersWithLastTest_39 : decode cX5_answersWithLastTest 39 = .ok (.aload_n 3, 1) := by decide +kernel
theorem dX5_answersWithLastTest_40 : decode cX5_answersWithLastTest 40 = .ok (.invokevirtual 148, 3) := by decide +kernel
theorem dX5_answersWithLastTest_43 : decode cX5_answersWithLastTest 43 = .ok (.aload_n 0, 1) := by decide +kernel
theorem dX5_answersWithLastTest_44 : decode cX5_answersWithLastTest 44 = .ok (.getfield 33, 3) := by decide +kernel
theorem dX5_answersWithLastTest_47 : decode cX5_answersWithLastTest 47 = .ok (.getfield 152, 3) := by decide +kernel
theorem dX5_answersWithLastTest_50 : decode cX5_answersWithLastTest 50 = .ok (.invokestatic 237, 3) := by decide +kernel
theorem dX5_answersWithLastTest_53 : decode cX5_answersWithLastTest 53 = .ok (.ireturn, 1) := by decide +kernel
theorem dX5_findAnswerSets_0 : decode cX5_findAnswerSets 0 = .ok (.iconst 0, 1) := by decide +kernel
theorem dX5_findAnswerSets_1 : decode cX5_findAnswerSets 1 = .ok (.istore_n 1, 1) := by decide +kernel
theorem dX5_findAnswerSets_2 : decode cX5_findAnswerSets 2 = .ok (.iload_n 1, 1) := by decide +kernel
theorem dX5_findAnswerSets_3 : decode cX5_findAnswerSets 3 = .ok (.aload_n 0, 1) := by decide +kernel
theorem dX5_findAnswerSets_4 : decode cX5_findAnswerSets 4 = .ok (.getfield 10, 3) := by decide +kernel
theorem dX5_findAnswerSets_7 : decode cX5_findAnswerSets 7 = .ok (.getfield 76, 3) := by decide +kernel
theorem dX5_findAnswerSets_10 : decode cX5_findAnswerSets 10 = .ok (.if_icmp .ge 24, 3) := by decide +kernel
theorem dX5_findAnswerSets_13 : decode cX5_findAnswerSets 13 = .ok (.aload_n 0, 1) := by decide +kernel
theorem dX5_findAnswerSets_14 : decode cX5_findAnswerSets 14 = .ok (.getfield 58, 3) := by decide +kernel
theorem dX5_findAnswerSets_17 : decode cX5_findAnswerSets 17 = .ok (.iload_n 1, 1) := by decide +kernel
theorem dX5_findAnswerSets_18 : decode cX5_findAnswerSets 18 = .ok (.aload_n 0, 1) := by decide +kernel
theorem dX5_findAnswerSets_19 : decode cX5_findAnswerSets 19 = .ok (.aload_n 0, 1) := by decide +kernel
theorem dX5_findAnswerSets_20 : decode cX5_findAnswerSets 20 = .ok (.getfield 10, 3) := by decide +kernel
theorem dX5_findAnswerSets_23 : decode cX5_findAnswerSets 23 = .ok (.iload_n 1, 1) := by decide +kernel
theorem dX5_findAnswerSets_24 : decode cX5_findAnswerSets 24 = .ok (.invokevirtual 208, 3) := by decide +kernel
theorem dX5_findAnswerSets_27 : decode cX5_findAnswerSets 27 = .ok (.iastore, 1) := by decide +kernel
theorem dX5_findAnswerSets_28 : decode cX5_findAnswerSets 28 = .ok (.iinc 1 1, 3) := by decide +kernel
theorem dX5_findAnswerSets_31 : decode cX5_findAnswerSets 31 = .ok (.goto (-29), 3) := by decide +kernel
theorem dX5_findAnswerSets_34 : decode cX5_findAnswerSets 34 = .ok (.return_, 1) := by decide +kernel
theorem dX5_pathsAnswering_0 : decode cX5_pathsAnswering 0 = .ok (.iconst 0, 1) := by decide +kernel
theorem dX5_pathsAnswering_1 : decode cX5_pathsAnswering 1 = .ok (.istore_n 2, 1) := by decide +kernel
theorem dX5_pathsAnswering_2 : decode cX5_pathsAnswering 2 = .ok (.iconst 0, 1) := by decide +kernel
theorem dX5_pathsAnswering_3 : decode cX5_pathsAnswering 3 = .ok (.istore_n 3, 1) := by decide +kernel
theorem dX5_pathsAnswering_4 : decode cX5_pathsAnswering 4 = .ok (.iload_n 3, 1) := by decide +kernel
theorem dX5_pathsAnswering_5 : decode cX5_pathsAnswering 5 = .ok (.aload_n 0, 1) := by decide +kernel
theorem dX5_pathsAnswering_6 : decode cX5_pathsAnswering 6 = .ok (.getfield 10, 3) := by decide +kernel
theorem dX5_pathsAnswering_9 : decode cX5_pathsAnswering 9 = .ok (.getfield 76, 3) := by decide +kernel
theorem dX5_pathsAnswering_12 : decode cX5_pathsAnswering 12 = .ok (.if_icmp .ge 22, 3) := by decide +kernel
theorem dX5_pathsAnswering_15 : decode cX5_pathsAnswering 15 = .ok (.iload_n 2, 1) := by decide +kernel
theorem dX5_pathsAnswering_16 : decode cX5_pathsAnswering 16 = .ok (.aload_n 0, 1) := by decide +kernel
theorem dX5_pathsAnswering_17 : decode cX5_pathsAnswering 17 = .ok (.getfield 58, 3) := by decide +kernel
theorem dX5_pathsAnswering_20 : decode cX5_pathsAnswering 20 = .ok (.iload_n 3, 1) := by decide +kernel
theorem dX5_pathsAnswering_21 : decode cX5_pathsAnswering 21 = .ok (.iaload, 1) := by decide +kernel
theorem dX5_pathsAnswering_22 : decode cX5_pathsAnswering 22 = .ok (.iload_n 1, 1) := by decide +kernel
theorem dX5_pathsAnswering_23 : decode cX5_pathsAnswering 23 = .ok (.ishr, 1) := by decide +kernel
theorem dX5_pathsAnswering_24 : decode cX5_pathsAnswering 24 = .ok (.iconst 1, 1) := by decide +kernel
theorem dX5_pathsAnswering_25 : decode cX5_pathsAnswering 25 = .ok (.iand, 1) := by decide +kernel
theorem dX5_pathsAnswering_26 : decode cX5_pathsAnswering 26 = .ok (.iadd, 1) := by decide +kernel
theorem dX5_pathsAnswering_27 : decode cX5_pathsAnswering 27 = .ok (.istore_n 2, 1) := by decide +kernel
theorem dX5_pathsAnswering_28 : decode cX5_pathsAnswering 28 = .ok (.iinc 3 1, 3) := by decide +kernel
theorem dX5_pathsAnswering_31 : decode cX5_pathsAnswering 31 = .ok (.goto (-27), 3) := by decide +kernel
theorem dX5_pathsAnswering_34 : decode cX5_pathsAnswering 34 = .ok (.iload_n 2, 1) := by decide +kernel
theorem dX5_pathsAnswering_35 : decode cX5_pathsAnswering 35 = .ok (.ireturn, 1) := by decide +kernel
theorem dX5_answersOfAny_0 : decode cX5_answersOfAny 0 = .ok (.iconst 0, 1) := by decide +kernel
theorem dX5_answersOfAny_1 : decode cX5_answersOfAny 1 = .ok (.istore_n 2, 1) := by decide +kernel
theorem dX5_answersOfAny_2 : decode cX5_answersOfAny 2 = .ok (.iconst 0, 1) := by decide +kernel
theorem dX5_answersOfAny_3 : decode cX5_answersOfAny 3 = .ok (.istore_n 3, 1) := by decide +kernel
theorem dX5_answersOfAny_4 : decode cX5_answersOfAny 4 = .ok (.iload_n 3, 1) := by decide +kernel
theorem dX5_answersOfAny_5 : decode cX5_answersOfAny 5 = .ok (.aload_n 0, 1) := by decide +kernel
theorem dX5_answersOfAny_6 : decode cX5_answersOfAny 6 = .ok (.getfield 10, 3) := by decide +kernel
theorem dX5_answersOfAny_9 : decode cX5_answersOfAny 9 = .ok (.getfield 76, 3) := by decide +kernel
theorem dX5_answersOfAny_12 : decode cX5_answersOfAny 12 = .ok (.if_icmp .ge 26, 3) := by decide +kernel
theorem dX5_answersOfAny_15 : decode cX5_answersOfAny 15 = .ok (.iload_n 1, 1) := by decide +kernel
theorem dX5_answersOfAny_16 : decode cX5_answersOfAny 16 = .ok (.iload_n 3, 1) := by decide +kernel
theorem dX5_answersOfAny_17 : decode cX5_answersOfAny 17 = .ok (.ishr, 1) := by decide +kernel
theorem dX5_answersOfAny_18 : decode cX5_answersOfAny 18 = .ok (.iconst 1, 1) := by decide +kernel
theorem dX5_answersOfAny_19 : decode cX5_answersOfAny 19 = .ok (.iand, 1) := by decide +kernel
theorem dX5_answersOfAny_20 : decode cX5_answersOfAny 20 = .ok (.ifCond .eq 12, 3) := by decide +kernel
theorem dX5_answersOfAny_23 : decode cX5_answersOfAny 23 = .ok (.iload_n 2, 1) := by decide +kernel
theorem dX5_answersOfAny_24 : decode cX5_answersOfAny 24 = .ok (.aload_n 0, 1) := by decide +kernel
theorem dX5_answersOfAny_25 : decode cX5_answersOfAny 25 = .ok (.getfield 58, 3) := by decide +kernel
theorem dX5_answersOfAny_28 : decode cX5_answersOfAny 28 = .ok (.iload_n 3, 1) := by decide +kernel
theorem dX5_answersOfAny_29 : decode cX5_answersOfAny 29 = .ok (.iaload, 1) := by decide +kernel
theorem dX5_answersOfAny_30 : decode cX5_answersOfAny 30 = .ok (.ior, 1) := by decide +kernel
theorem dX5_answersOfAny_31 : decode cX5_answersOfAny 31 = .ok (.istore_n 2, 1) := by decide +kernel
theorem dX5_answersOfAny_32 : decode cX5_answersOfAny 32 = .ok (.iinc 3 1, 3) := by decide +kernel
theorem dX5_answersOfAny_35 : decode cX5_answersOfAny 35 = .ok (.goto (-31), 3) := by decide +kernel
theorem dX5_answersOfAny_38 : decode cX5_answersOfAny 38 = .ok (.iload_n 2, 1) := by decide +kernel
theorem dX5_answersOfAny_39 : decode cX5_answersOfAny 39 = .ok (.ireturn, 1) := by decide +kernel
theorem dX5_weightOf_0 : decode cX5_weightOf 0 = .ok (.iconst 1, 1) := by decide +kernel
theorem dX5_weightOf_1 : decode cX5_weightOf 1 = .ok (.istore_n 3, 1) := by decide +kernel
theorem dX5_weightOf_2 : decode cX5_weightOf 2 = .ok (.iconst 0, 1) := by decide +kernel
theorem dX5_weightOf_3 : decode cX5_weightOf 3 = .ok (.istore 4, 2) := by decide +kernel
theorem dX5_weightOf_5 : decode cX5_weightOf 5 = .ok (.iload 4, 2) := by decide +kernel
theorem dX5_weightOf_7 : decode cX5_weightOf 7 = .ok (.aload_n 0, 1) := by decide +kernel
theorem dX5_weightOf_8 : decode cX5_weightOf 8 = .ok (.getfield 10, 3) := by decide +kernel
theorem dX5_weightOf_11 : decode cX5_weightOf 11 = .ok (.getfield 76, 3) := by decide +kernel
theorem dX5_weightOf_14 : decode cX5_weightOf 14 = .ok (.if_icmp .ge 29, 3) := by decide +kernel
theorem dX5_weightOf_17 : decode cX5_weightOf 17 = .ok (.iload_n 3, 1) := by decide +kernel
theorem dX5_weightOf_18 : decode cX5_weightOf 18 = .ok (.iload_n 1, 1) := by decide +kernel
theorem dX5_weightOf_19 : decode cX5_weightOf 19 = .ok (.iload 4, 2) := by decide +kernel
theorem dX5_weightOf_21 : decode cX5_weightOf 21 = .ok (.ishr, 1) := by decide +kernel
theorem dX5_weightOf_22 : decode cX5_weightOf 22 = .ok (.iconst 1, 1) := by decide +kernel
theorem dX5_weightOf_23 : decode cX5_weightOf 23 = .ok (.iand, 1) := by decide +kernel
theorem dX5_weightOf_24 : decode cX5_weightOf 24 = .ok (.ifCond .eq 10, 3) := by decide +kernel
theorem dX5_weightOf_27 : decode cX5_weightOf 27 = .ok (.bipush 10, 2) := by decide +kernel
theorem dX5_weightOf_29 : decode cX5_weightOf 29 = .ok (.iload_n 2, 1) := by decide +kernel
theorem dX5_weightOf_30 : decode cX5_weightOf 30 = .ok (.isub, 1) := by decide +kernel
theorem dX5_weightOf_31 : decode cX5_weightOf 31 = .ok (.goto 4, 3) := by decide +kernel
theorem dX5_weightOf_34 : decode cX5_weightOf 34 = .ok (.iload_n 2, 1) := by decide +kernel
theorem dX5_weightOf_35 : decode cX5_weightOf 35 = .ok (.imul, 1) := by decide +kernel
theorem dX5_weightOf_36 : decode cX5_weightOf 36 = .ok (.istore_n 3, 1) := by decide +kernel
theorem dX5_weightOf_37 : decode cX5_weightOf 37 = .ok (.iinc 4 1, 3) := by decide +kernel
theorem dX5_weightOf_40 : decode cX5_weightOf 40 = .ok (.goto (-35), 3) := by decide +kernel
theorem dX5_weightOf_43 : decode cX5_weightOf 43 = .ok (.iload_n 3, 1) := by decide +kernel
theorem dX5_weightOf_44 : decode cX5_weightOf 44 = .ok (.ireturn, 1) := by decide +kernel
theorem dX5_inLowestTerms_0 : decode cX5_inLowestTerms 0 = .ok (.iload_n 0, 1) := by decide +kernel
theorem dX5_inLowestTerms_1 : decode cX5_inLowestTerms 1 = .ok (.iload_n 1, 1) := by decide +kernel
theorem dX5_inLowestTerms_2 : decode cX5_inLowestTerms 2 = .ok (.invokestatic 283, 3) := by decide +kernel
theorem dX5_inLowestTerms_5 : decode cX5_inLowestTerms 5 = .ok (.istore_n 3, 1) := by decide +kernel
theorem dX5_inLowestTerms_6 : decode cX5_inLowestTerms 6 = .ok (.iload_n 2, 1) := by decide +kernel
theorem dX5_inLowestTerms_7 : decode cX5_inLowestTerms 7 = .ok (.ifCond .eq 7, 3) := by decide +kernel
theorem dX5_inLowestTerms_10 : decode cX5_inLowestTerms 10 = .ok (.iload_n 0, 1) := by decide +kernel
theorem dX5_inLowestTerms_11 : decode cX5_inLowestTerms 11 = .ok (.goto 4, 3) := by decide +kernel
theorem dX5_inLowestTerms_14 : decode cX5_inLowestTerms 14 = .ok (.iload_n 1, 1) := by decide +kernel
theorem dX5_inLowestTerms_15 : decode cX5_inLowestTerms 15 = .ok (.istore 4, 2) := by decide +kernel
theorem dX5_inLowestTerms_17 : decode cX5_inLowestTerms 17 = .ok (.iload_n 3, 1) := by decide +kernel
theorem dX5_inLowestTerms_18 : decode cX5_inLowestTerms 18 = .ok (.ifCond .le 10, 3) := by decide +kernel
theorem dX5_inLowestTerms_21 : decode cX5_inLowestTerms 21 = .ok (.iload 4, 2) := by decide +kernel
theorem dX5_inLowestTerms_23 : decode cX5_inLowestTerms 23 = .ok (.iload_n 3, 1) := by decide +kernel
theorem dX5_inLowestTerms_24 : decode cX5_inLowestTerms 24 = .ok (.idiv, 1) := by decide +kernel
theorem dX5_inLowestTerms_25 : decode cX5_inLowestTerms 25 = .ok (.goto 5, 3) := by decide +kernel
theorem dX5_inLowestTerms_28 : decode cX5_inLowestTerms 28 = .ok (.iload 4, 2) := by decide +kernel
theorem dX5_inLowestTerms_30 : decode cX5_inLowestTerms 30 = .ok (.ireturn, 1) := by decide +kernel
theorem dX5_greatestDivisor_0 : decode cX5_greatestDivisor 0 = .ok (.iload_n 0, 1) := by decide +kernel
theorem dX5_greatestDivisor_1 : decode cX5_greatestDivisor 1 = .ok (.istore_n 2, 1) := by decide +kernel
theorem dX5_greatestDivisor_2 : decode cX5_greatestDivisor 2 = .ok (.iload_n 1, 1) := by decide +kernel
theorem dX5_greatestDivisor_3 : decode cX5_greatestDivisor 3 = .ok (.istore_n 3, 1) := by decide +kernel
theorem dX5_greatestDivisor_4 : decode cX5_greatestDivisor 4 = .ok (.iconst 0, 1) := by decide +kernel
theorem dX5_greatestDivisor_5 : decode cX5_greatestDivisor 5 = .ok (.istore 4, 2) := by decide +kernel
theorem dX5_greatestDivisor_7 : decode cX5_greatestDivisor 7 = .ok (.iload 4, 2) := by decide +kernel
theorem dX5_greatestDivisor_9 : decode cX5_greatestDivisor 9 = .ok (.bipush 64, 2) := by decide +kernel
theorem dX5_greatestDivisor_11 : decode cX5_greatestDivisor 11 = .ok (.if_icmp .ge 23, 3) := by decide +kernel
theorem dX5_greatestDivisor_14 : decode cX5_greatestDivisor 14 = .ok (.iload_n 3, 1) := by decide +kernel
theorem dX5_greatestDivisor_15 : decode cX5_greatestDivisor 15 = .ok (.ifCond .eq 19, 3) := by decide +kernel
theorem dX5_greatestDivisor_18 : decode cX5_greatestDivisor 18 = .ok (.iload_n 2, 1) := by decide +kernel
theorem dX5_greatestDivisor_19 : decode cX5_greatestDivisor 19 = .ok (.iload_n 3, 1) := by decide +kernel
theorem dX5_greatestDivisor_20 : decode cX5_greatestDivisor 20 = .ok (.irem, 1) := by decide +kernel
theorem dX5_greatestDivisor_21 : decode cX5_greatestDivisor 21 = .ok (.istore 5, 2) := by decide +kernel
theorem dX5_greatestDivisor_23 : decode cX5_greatestDivisor 23 = .ok (.iload_n 3, 1) := by decide +kernel
theorem dX5_greatestDivisor_24 : decode cX5_greatestDivisor 24 = .ok (.istore_n 2, 1) := by decide +kernel
theorem dX5_greatestDivisor_25 : decode cX5_greatestDivisor 25 = .ok (.iload 5, 2) := by decide +kernel
theorem dX5_greatestDivisor_27 : decode cX5_greatestDivisor 27 = .ok (.istore_n 3, 1) := by decide +kernel
theorem dX5_greatestDivisor_28 : decode cX5_greatestDivisor 28 = .ok (.iinc 4 1, 3) := by decide +kernel
theorem dX5_greatestDivisor_31 : decode cX5_greatestDivisor 31 = .ok (.goto (-24), 3) := by decide +kernel
theorem dX5_greatestDivisor_34 : decode cX5_greatestDivisor 34 = .ok (.iload_n 2, 1) := by decide +kernel
theorem dX5_greatestDivisor_35 : decode cX5_greatestDivisor 35 = .ok (.ireturn, 1) := by decide +kernel
theorem dX5_drawEvent_0 : decode cX5_drawEvent 0 = .ok (.aload_n 0, 1) := by decide +kernel
theorem dX5_drawEvent_1 : decode cX5_drawEvent 1 = .ok (.aload_n 0, 1) := by decide +kernel
theorem dX5_drawEvent_2 : decode cX5_drawEvent 2 = .ok (.getfield 242, 3) := by decide +kernel
theorem dX5_drawEvent_5 : decode cX5_drawEvent 5 = .ok (.ldc2_w 286, 3) := by decide +kernel
theorem dX5_drawEvent_8 : decode cX5_drawEvent 8 = .ok (.lmul, 1) := by decide +kernel
theorem dX5_drawEvent_9 : decode cX5_drawEvent 9 = .ok (.ldc2_w 288, 3) := by decide +kernel
theorem dX5_drawEvent_12 : decode cX5_drawEvent 12 = .ok (.ladd, 1) := by decide +kernel
theorem dX5_drawEvent_13 : decode cX5_drawEvent 13 = .ok (.putfield 242, 3) := by decide +kernel
theorem dX5_drawEvent_16 : decode cX5_drawEvent 16 = .ok (.aload_n 0, 1) := by decide +kernel
theorem dX5_drawEvent_17 : decode cX5_drawEvent 17 = .ok (.getfield 242, 3) := by decide +kernel
theorem dX5_drawEvent_20 : decode cX5_drawEvent 20 = .ok (.bipush 33, 2) := by decide +kernel
theorem dX5_drawEvent_22 : decode cX5_drawEvent 22 = .ok (.lushr, 1) := by decide +kernel
theorem dX5_drawEvent_23 : decode cX5_drawEvent 23 = .ok (.l2i, 1) := by decide +kernel
theorem dX5_drawEvent_24 : decode cX5_drawEvent 24 = .ok (.istore_n 2, 1) := by decide +kernel
theorem dX5_drawEvent_25 : decode cX5_drawEvent 25 = .ok (.iload_n 2, 1) := by decide +kernel
theorem dX5_drawEvent_26 : decode cX5_drawEvent 26 = .ok (.bipush 8, 2) := by decide +kernel
theorem dX5_drawEvent_28 : decode cX5_drawEvent 28 = .ok (.irem, 1) := by decide +kernel
theorem dX5_drawEvent_29 : decode cX5_drawEvent 29 = .ok (.istore_n 3, 1) := by decide +kernel
theorem dX5_drawEvent_30 : decode cX5_drawEvent 30 = .ok (.iload_n 3, 1) := by decide +kernel
theorem dX5_drawEvent_31 : decode cX5_drawEvent 31 = .ok (.iconst 3, 1) := by decide +kernel
theorem dX5_drawEvent_32 : decode cX5_drawEvent 32 = .ok (.if_icmp .gt 17, 3) := by decide +kernel
theorem dX5_drawEvent_35 : decode cX5_drawEvent 35 = .ok (.aload_n 1, 1) := by decide +kernel
theorem dX5_drawEvent_36 : decode cX5_drawEvent 36 = .ok (.iload_n 2, 1) := by decide +kernel
theorem dX5_drawEvent_37 : decode cX5_drawEvent 37 = .ok (.bipush 8, 2) := by decide +kernel
theorem dX5_drawEvent_39 : decode cX5_drawEvent 39 = .ok (.idiv, 1) := by decide +kernel
theorem dX5_drawEvent_40 : decode cX5_drawEvent 40 = .ok (.iconst 5, 1) := by decide +kernel
theorem dX5_drawEvent_41 : decode cX5_drawEvent 41 = .ok (.irem, 1) := by decide +kernel
theorem dX5_drawEvent_42 : decode cX5_drawEvent 42 = .ok (.invokevirtual 176, 3) := by decide +kernel
theorem dX5_drawEvent_45 : decode cX5_drawEvent 45 = .ok (.pop, 1) := by decide +kernel
theorem dX5_drawEvent_46 : decode cX5_drawEvent 46 = .ok (.goto 28, 3) := by decide +kernel
theorem dX5_drawEvent_49 : decode cX5_drawEvent 49 = .ok (.iload_n 3, 1) := by decide +kernel
theorem dX5_drawEvent_50 : decode cX5_drawEvent 50 = .ok (.iconst 5, 1) := by decide +kernel
theorem dX5_drawEvent_51 : decode cX5_drawEvent 51 = .ok (.if_icmp .gt 11, 3) := by decide +kernel
theorem dX5_drawEvent_54 : decode cX5_drawEvent 54 = .ok (.aload_n 1, 1) := by decide +kernel
theorem dX5_drawEvent_55 : decode cX5_drawEvent 55 = .ok (.invokevirtual 183, 3) := by decide +kernel
theorem dX5_drawEvent_58 : decode cX5_drawEvent 58 = .ok (.pop, 1) := by decide +kernel
theorem dX5_drawEvent_59 : decode cX5_drawEvent 59 = .ok (.goto 15, 3) := by decide +kernel
theorem dX5_drawEvent_62 : decode cX5_drawEvent 62 = .ok (.aload_n 1, 1) := by decide +kernel
theorem dX5_drawEvent_63 : decode cX5_drawEvent 63 = .ok (.iload_n 2, 1) := by decide +kernel
theorem dX5_drawEvent_64 : decode cX5_drawEvent 64 = .ok (.bipush 8, 2) := by decide +kernel
theorem dX5_drawEvent_66 : decode cX5_drawEvent 66 = .ok (.idiv, 1) := by decide +kernel
theorem dX5_drawEvent_67 : decode cX5_drawEvent 67 = .ok (.bipush 10, 2) := by decide +kernel
theorem dX5_drawEvent_69 : decode cX5_drawEvent 69 = .ok (.irem, 1) := by decide +kernel
theorem dX5_drawEvent_70 : decode cX5_drawEvent 70 = .ok (.invokevirtual 187, 3) := by decide +kernel
theorem dX5_drawEvent_73 : decode cX5_drawEvent 73 = .ok (.pop, 1) := by decide +kernel
theorem dX5_drawEvent_74 : decode cX5_drawEvent 74 = .ok (.return_, 1) := by decide +kernel
theorem dX6_init_0 : decode cX6_init 0 = .ok (.aload_n 0, 1) := by decide +kernel
theorem dX6_init_1 : decode cX6_init 1 = .ok (.invokespecial 1, 3) := by decide +kernel
theorem dX6_init_4 : decode cX6_init 4 = .ok (.aload_n 0, 1) := by decide +kernel
theorem dX6_init_5 : decode cX6_init 5 = .ok (.bipush 99, 2) := by decide +kernel
theorem dX6_init_7 : decode cX6_init 7 = .ok (.newarray .int, 2) := by decide +kernel
theorem dX6_init_9 : decode cX6_init 9 = .ok (.putfield 7, 3) := by decide +kernel
theorem dX6_init_12 : decode cX6_init 12 = .ok (.aload_n 0, 1) := by decide +kernel
theorem dX6_init_13 : decode cX6_init 13 = .ok (.sipush 214, 3) := by decide +kernel
theorem dX6_init_16 : decode cX6_init 16 = .ok (.newarray .int, 2) := by decide +kernel
theorem dX6_init_18 : decode cX6_init 18 = .ok (.putfield 13, 3) := by decide +kernel
theorem dX6_init_21 : decode cX6_init 21 = .ok (.aload_n 0, 1) := by decide +kernel
theorem dX6_init_22 : decode cX6_init 22 = .ok (.sipush 214, 3) := by decide +kernel
theorem dX6_init_25 : decode cX6_init 25 = .ok (.newarray .int, 2) := by decide +kernel
theorem dX6_init_27 : decode cX6_init 27 = .ok (.putfield 16, 3) := by decide +kernel
theorem dX6_init_30 : decode cX6_init 30 = .ok (.aload_n 0, 1) := by decide +kernel
theorem dX6_init_31 : decode cX6_init 31 = .ok (.sipush 2996, 3) := by decide +kernel
theorem dX6_init_34 : decode cX6_init 34 = .ok (.newarray .int, 2) := by decide +kernel
theorem dX6_init_36 : decode cX6_init 36 = .ok (.putfield 19, 3) := by decide +kernel
theorem dX6_init_39 : decode cX6_init 39 = .ok (.aload_n 0, 1) := by decide +kernel
theorem dX6_init_40 : decode cX6_init 40 = .ok (.sipush 428, 3) := by decide +kernel
theorem dX6_init_43 : decode cX6_init 43 = .ok (.newarray .int, 2) := by decide +kernel
theorem dX6_init_45 : decode cX6_init 45 = .ok (.putfield 22, 3) := by decide +kernel
theorem dX6_init_48 : decode cX6_init 48 = .ok (.aload_n 0, 1) := by decide +kernel
theorem dX6_init_49 : decode cX6_init 49 = .ok (.iconst 2, 1) := by decide +kernel
theorem dX6_init_50 : decode cX6_init 50 = .ok (.newarray .boolean, 2) := by decide +kernel
theorem dX6_init_52 : decode cX6_init 52 = .ok (.putfield 25, 3) := by decide +kernel
theorem dX6_init_55 : decode cX6_init 55 = .ok (.aload_n 0, 1) := by decide +kernel
theorem dX6_init_56 : decode cX6_init 56 = .ok (.bipush 6, 2) := by decide +kernel
theorem dX6_init_58 : decode cX6_init 58 = .ok (.newarray .int, 2) := by decide +kernel
theorem dX6_init_60 : decode cX6_init 60 = .ok (.putfield 29, 3) := by decide +kernel
end
section
theorem dX6_init_63 : decode cX6_init 63 = .ok (.aload_n 0, 1) := by decide +kernel
theorem dX6_init_64 : decode cX6_init 64 = .ok (.bipush 6, 2) := by decide +kernel
theorem dX6_init_66 : decode cX6_init 66 = .ok (.newarray .int, 2) := by decide +kernel
theorem dX6_init_68 : decode cX6_init 68 = .ok (.putfield 32, 3) := by decide +kernel
theorem dX6_init_71 : decode cX6_init 71 = .ok (.aload_n 0, 1) := by decide +kernel
theorem dX6_init_72 : decode cX6_init 72 = .ok (.bipush 8, 2) := by decide +kernel
theorem dX6_init_74 : decode cX6_init 74 = .ok (.newarray .int, 2) := by decide +kernel
theorem dX6_init_76 : decode cX6_init 76 = .ok (.putfield 35, 3) := by decide +kernel
theorem dX6_init_79 : decode cX6_init 79 = .ok (.aload_n 0, 1) := by decide +kernel
theorem dX6_init_80 : decode cX6_init 80 = .ok (.bipush 8, 2) := by decide +kernel
theorem dX6_init_82 : decode cX6_init 82 = .ok (.newarray .int, 2) := by decide +kernel
theorem dX6_init_84 : decode cX6_init 84 = .ok (.putfield 38, 3) := by decide +kernel
theorem dX6_init_87 : decode cX6_init 87 = .ok (.aload_n 0, 1) := by decide +kernel
theorem dX6_init_88 : decode cX6_init 88 = .ok (.bipush 32, 2) := by decide +kernel
theorem dX6_init_90 : decode cX6_init 90 = .ok (.newarray .int, 2) := by decide +kernel
theorem dX6_init_92 : decode cX6_init 92 = .ok (.putfield 41, 3) := by decide +kernel
theorem dX6_init_95 : decode cX6_init 95 = .ok (.aload_n 0, 1) := by decide +kernel
theorem dX6_init_96 : decode cX6_init 96 = .ok (.iconst 5, 1) := by decide +kernel
theorem dX6_init_97 : decode cX6_init 97 = .ok (.newarray .int, 2) := by decide +kernel
theorem dX6_init_99 : decode cX6_init 99 = .ok (.putfield 44, 3) := by decide +kernel
theorem dX6_init_102 : decode cX6_init 102 = .ok (.aload_n 0, 1) := by decide +kernel
theorem dX6_init_103 : decode cX6_init 103 = .ok (.iconst 5, 1) := by decide +kernel
theorem dX6_init_104 : decode cX6_init 104 = .ok (.newarray .int, 2) := by decide +kernel
theorem dX6_init_106 : decode cX6_init 106 = .ok (.putfield 47, 3) := by decide +kernel
theorem dX6_init_109 : decode cX6_init 109 = .ok (.aload_n 0, 1) := by decide +kernel
theorem dX6_init_110 : decode cX6_init 110 = .ok (.bipush 20, 2) := by decide +kernel
theorem dX6_init_112 : decode cX6_init 112 = .ok (.newarray .int, 2) := by decide +kernel
theorem dX6_init_114 : decode cX6_init 114 = .ok (.putfield 50, 3) := by decide +kernel
theorem dX6_init_117 : decode cX6_init 117 = .ok (.aload_n 0, 1) := by decide +kernel
theorem dX6_init_118 : decode cX6_init 118 = .ok (.bipush 99, 2) := by decide +kernel
theorem dX6_init_120 : decode cX6_init 120 = .ok (.newarray .int, 2) := by decide +kernel
theorem dX6_init_122 : decode cX6_init 122 = .ok (.putfield 53, 3) := by decide +kernel
theorem dX6_init_125 : decode cX6_init 125 = .ok (.aload_n 0, 1) := by decide +kernel
theorem dX6_init_126 : decode cX6_init 126 = .ok (.bipush (-9), 2) := by decide +kernel
theorem dX6_init_128 : decode cX6_init 128 = .ok (.putfield 56, 3) := by decide +kernel
theorem dX6_init_131 : decode cX6_init 131 = .ok (.aload_n 0, 1) := by decide +kernel
theorem dX6_init_132 : decode cX6_init 132 = .ok (.getfield 13, 3) := by decide +kernel
theorem dX6_init_135 : decode cX6_init 135 = .ok (.invokestatic 60, 3) := by decide +kernel
theorem dX6_init_138 : decode cX6_init 138 = .ok (.return_, 1) := by decide +kernel
theorem dX6_clear_0 : decode cX6_clear 0 = .ok (.iconst 0, 1) := by decide +kernel
theorem dX6_clear_1 : decode cX6_clear 1 = .ok (.istore_n 1, 1) := by decide +kernel
theorem dX6_clear_2 : decode cX6_clear 2 = .ok (.iload_n 1, 1) := by decide +kernel
theorem dX6_clear_3 : decode cX6_clear 3 = .ok (.sipush 214, 3) := by decide +kernel
theorem dX6_clear_6 : decode cX6_clear 6 = .ok (.if_icmp .ge 24, 3) := by decide +kernel
theorem dX6_clear_9 : decode cX6_clear 9 = .ok (.aload_n 0, 1) := by decide +kernel
theorem dX6_clear_10 : decode cX6_clear 10 = .ok (.iload_n 1, 1) := by decide +kernel
theorem dX6_clear_11 : decode cX6_clear 11 = .ok (.iload_n 1, 1) := by decide +kernel
theorem dX6_clear_12 : decode cX6_clear 12 = .ok (.bipush 114, 2) := by decide +kernel
theorem dX6_clear_14 : decode cX6_clear 14 = .ok (.if_icmp .ge 7, 3) := by decide +kernel
theorem dX6_clear_17 : decode cX6_clear 17 = .ok (.iconst 0, 1) := by decide +kernel
theorem dX6_clear_18 : decode cX6_clear 18 = .ok (.goto 5, 3) := by decide +kernel
theorem dX6_clear_21 : decode cX6_clear 21 = .ok (.bipush (-9), 2) := by decide +kernel
theorem dX6_clear_23 : decode cX6_clear 23 = .ok (.iastore, 1) := by decide +kernel
theorem dX6_clear_24 : decode cX6_clear 24 = .ok (.iinc 1 1, 3) := by decide +kernel
theorem dX6_clear_27 : decode cX6_clear 27 = .ok (.goto (-25), 3) := by decide +kernel
theorem dX6_clear_30 : decode cX6_clear 30 = .ok (.aload_n 0, 1) := by decide +kernel
theorem dX6_clear_31 : decode cX6_clear 31 = .ok (.bipush 81, 2) := by decide +kernel
theorem dX6_clear_33 : decode cX6_clear 33 = .ok (.bipush (-9), 2) := by decide +kernel
theorem dX6_clear_35 : decode cX6_clear 35 = .ok (.iastore, 1) := by decide +kernel
theorem dX6_clear_36 : decode cX6_clear 36 = .ok (.return_, 1) := by decide +kernel
theorem dX6_copy_0 : decode cX6_copy 0 = .ok (.iconst 0, 1) := by decide +kernel
theorem dX6_copy_1 : decode cX6_copy 1 = .ok (.istore_n 2, 1) := by decide +kernel
theorem dX6_copy_2 : decode cX6_copy 2 = .ok (.iload_n 2, 1) := by decide +kernel
theorem dX6_copy_3 : decode cX6_copy 3 = .ok (.sipush 214, 3) := by decide +kernel
theorem dX6_copy_6 : decode cX6_copy 6 = .ok (.if_icmp .ge 15, 3) := by decide +kernel
theorem dX6_copy_9 : decode cX6_copy 9 = .ok (.aload_n 1, 1) := by decide +kernel
theorem dX6_copy_10 : decode cX6_copy 10 = .ok (.iload_n 2, 1) := by decide +kernel
theorem dX6_copy_11 : decode cX6_copy 11 = .ok (.aload_n 0, 1) := by decide +kernel
theorem dX6_copy_12 : decode cX6_copy 12 = .ok (.iload_n 2, 1) := by decide +kernel
theorem dX6_copy_13 : decode cX6_copy 13 = .ok (.iaload, 1) := by decide +kernel
theorem dX6_copy_14 : decode cX6_copy 14 = .ok (.iastore, 1) := by decide +kernel
theorem dX6_copy_15 : decode cX6_copy 15 = .ok (.iinc 2 1, 3) := by decide +kernel
theorem dX6_copy_18 : decode cX6_copy 18 = .ok (.goto (-16), 3) := by decide +kernel
theorem dX6_copy_21 : decode cX6_copy 21 = .ok (.return_, 1) := by decide +kernel
theorem dX6_in_0 : decode cX6_in 0 = .ok (.lload_n 0, 1) := by decide +kernel
theorem dX6_in_1 : decode cX6_in 1 = .ok (.lload_n 2, 1) := by decide +kernel
theorem dX6_in_2 : decode cX6_in 2 = .ok (.lcmp, 1) := by decide +kernel
theorem dX6_in_3 : decode cX6_in 3 = .ok (.ifCond .lt 14, 3) := by decide +kernel
theorem dX6_in_6 : decode cX6_in 6 = .ok (.lload_n 0, 1) := by decide +kernel
theorem dX6_in_7 : decode cX6_in 7 = .ok (.lload 4, 2) := by decide +kernel
theorem dX6_in_9 : decode cX6_in 9 = .ok (.lcmp, 1) := by decide +kernel
theorem dX6_in_10 : decode cX6_in 10 = .ok (.ifCond .gt 7, 3) := by decide +kernel
theorem dX6_in_13 : decode cX6_in 13 = .ok (.iconst 1, 1) := by decide +kernel
theorem dX6_in_14 : decode cX6_in 14 = .ok (.goto 4, 3) := by decide +kernel
theorem dX6_in_17 : decode cX6_in 17 = .ok (.iconst 0, 1) := by decide +kernel
theorem dX6_in_18 : decode cX6_in 18 = .ok (.ireturn, 1) := by decide +kernel
theorem dX6_has_0 : decode cX6_has 0 = .ok (.iload_n 0, 1) := by decide +kernel
theorem dX6_has_1 : decode cX6_has 1 = .ok (.iload_n 1, 1) := by decide +kernel
theorem dX6_has_2 : decode cX6_has 2 = .ok (.ishr, 1) := by decide +kernel
theorem dX6_has_3 : decode cX6_has 3 = .ok (.iconst 1, 1) := by decide +kernel
theorem dX6_has_4 : decode cX6_has 4 = .ok (.iand, 1) := by decide +kernel
theorem dX6_has_5 : decode cX6_has 5 = .ok (.iconst 1, 1) := by decide +kernel
theorem dX6_has_6 : decode cX6_has 6 = .ok (.if_icmp .ne 7, 3) := by decide +kernel
theorem dX6_has_9 : decode cX6_has 9 = .ok (.iconst 1, 1) := by decide +kernel
theorem dX6_has_10 : decode cX6_has 10 = .ok (.goto 4, 3) := by decide +kernel
theorem dX6_has_13 : decode cX6_has 13 = .ok (.iconst 0, 1) := by decide +kernel
theorem dX6_has_14 : decode cX6_has 14 = .ok (.ireturn, 1) := by decide +kernel
theorem dX6_ones_0 : decode cX6_ones 0 = .ok (.iconst 0, 1) := by decide +kernel
theorem dX6_ones_1 : decode cX6_ones 1 = .ok (.istore_n 1, 1) := by decide +kernel
theorem dX6_ones_2 : decode cX6_ones 2 = .ok (.iconst 0, 1) := by decide +kernel
theorem dX6_ones_3 : decode cX6_ones 3 = .ok (.istore_n 2, 1) := by decide +kernel
theorem dX6_ones_4 : decode cX6_ones 4 = .ok (.iload_n 2, 1) := by decide +kernel
theorem dX6_ones_5 : decode cX6_ones 5 = .ok (.bipush 20, 2) := by decide +kernel
theorem dX6_ones_7 : decode cX6_ones 7 = .ok (.if_icmp .ge 17, 3) := by decide +kernel
theorem dX6_ones_10 : decode cX6_ones 10 = .ok (.iload_n 1, 1) := by decide +kernel
theorem dX6_ones_11 : decode cX6_ones 11 = .ok (.iload_n 0, 1) := by decide +kernel
theorem dX6_ones_12 : decode cX6_ones 12 = .ok (.iload_n 2, 1) := by decide +kernel
theorem dX6_ones_13 : decode cX6_ones 13 = .ok (.ishr, 1) := by decide +kernel
theorem dX6_ones_14 : decode cX6_ones 14 = .ok (.iconst 1, 1) := by decide +kernel
theorem dX6_ones_15 : decode cX6_ones 15 = .ok (.iand, 1) := by decide +kernel
theorem dX6_ones_16 : decode cX6_ones 16 = .ok (.iadd, 1) := by decide +kernel
theorem dX6_ones_17 : decode cX6_ones 17 = .ok (.istore_n 1, 1) := by decide +kernel
theorem dX6_ones_18 : decode cX6_ones 18 = .ok (.iinc 2 1, 3) := by decide +kernel
theorem dX6_ones_21 : decode cX6_ones 21 = .ok (.goto (-17), 3) := by decide +kernel
theorem dX6_ones_24 : decode cX6_ones 24 = .ok (.iload_n 1, 1) := by decide +kernel
theorem dX6_ones_25 : decode cX6_ones 25 = .ok (.ireturn, 1) := by decide +kernel
theorem dX6_power_0 : decode cX6_power 0 = .ok (.iconst 1, 1) := by decide +kernel
theorem dX6_power_1 : decode cX6_power 1 = .ok (.istore_n 2, 1) := by decide +kernel
theorem dX6_power_2 : decode cX6_power 2 = .ok (.iconst 0, 1) := by decide +kernel
theorem dX6_power_3 : decode cX6_power 3 = .ok (.istore_n 3, 1) := by decide +kernel
theorem dX6_power_4 : decode cX6_power 4 = .ok (.iload_n 3, 1) := by decide +kernel
theorem dX6_power_5 : decode cX6_power 5 = .ok (.iload_n 1, 1) := by decide +kernel
theorem dX6_power_6 : decode cX6_power 6 = .ok (.if_icmp .ge 13, 3) := by decide +kernel
theorem dX6_power_9 : decode cX6_power 9 = .ok (.iload_n 2, 1) := by decide +kernel
theorem dX6_power_10 : decode cX6_power 10 = .ok (.iload_n 0, 1) := by decide +kernel
theorem dX6_power_11 : decode cX6_power 11 = .ok (.imul, 1) := by decide +kernel
theorem dX6_power_12 : decode cX6_power 12 = .ok (.istore_n 2, 1) := by decide +kernel
theorem dX6_power_13 : decode cX6_power 13 = .ok (.iinc 3 1, 3) := by decide +kernel
theorem dX6_power_16 : decode cX6_power 16 = .ok (.goto (-12), 3) := by decide +kernel
theorem dX6_power_19 : decode cX6_power 19 = .ok (.iload_n 2, 1) := by decide +kernel
theorem dX6_power_20 : decode cX6_power 20 = .ok (.ireturn, 1) := by decide +kernel
theorem dX6_factorial_0 : decode cX6_factorial 0 = .ok (.iconst 1, 1) := by decide +kernel
theorem dX6_factorial_1 : decode cX6_factorial 1 = .ok (.istore_n 1, 1) := by decide +kernel
theorem dX6_factorial_2 : decode cX6_factorial 2 = .ok (.iconst 2, 1) := by decide +kernel
theorem dX6_factorial_3 : decode cX6_factorial 3 = .ok (.istore_n 2, 1) := by decide +kernel
theorem dX6_factorial_4 : decode cX6_factorial 4 = .ok (.iload_n 2, 1) := by decide +kernel
theorem dX6_factorial_5 : decode cX6_factorial 5 = .ok (.iload_n 0, 1) := by decide +kernel
theorem dX6_factorial_6 : decode cX6_factorial 6 = .ok (.if_icmp .gt 13, 3) := by decide +kernel
theorem dX6_factorial_9 : decode cX6_factorial 9 = .ok (.iload_n 1, 1) := by decide +kernel
theorem dX6_factorial_10 : decode cX6_factorial 10 = .ok (.iload_n 2, 1) := by decide +kernel
theorem dX6_factorial_11 : decode cX6_factorial 11 = .ok (.imul, 1) := by decide +kernel
theorem dX6_factorial_12 : decode cX6_factorial 12 = .ok (.istore_n 1, 1) := by decide +kernel
theorem dX6_factorial_13 : decode cX6_factorial 13 = .ok (.iinc 2 1, 3) := by decide +kernel
theorem dX6_factorial_16 : decode cX6_factorial 16 = .ok (.goto (-12), 3) := by decide +kernel
theorem dX6_factorial_19 : decode cX6_factorial 19 = .ok (.iload_n 1, 1) := by decide +kernel
theorem dX6_factorial_20 : decode cX6_factorial 20 = .ok (.ireturn, 1) := by decide +kernel
theorem dX6_fraction_0 : decode cX6_fraction 0 = .ok (.iload_n 0, 1) := by decide +kernel
theorem dX6_fraction_1 : decode cX6_fraction 1 = .ok (.ifCond .ge 8, 3) := by decide +kernel
theorem dX6_fraction_4 : decode cX6_fraction 4 = .ok (.iload_n 0, 1) := by decide +kernel
theorem dX6_fraction_5 : decode cX6_fraction 5 = .ok (.ineg, 1) := by decide +kernel
theorem dX6_fraction_6 : decode cX6_fraction 6 = .ok (.goto 4, 3) := by decide +kernel
theorem dX6_fraction_9 : decode cX6_fraction 9 = .ok (.iload_n 0, 1) := by decide +kernel
theorem dX6_fraction_10 : decode cX6_fraction 10 = .ok (.istore_n 3, 1) := by decide +kernel
theorem dX6_fraction_11 : decode cX6_fraction 11 = .ok (.iload_n 1, 1) := by decide +kernel
theorem dX6_fraction_12 : decode cX6_fraction 12 = .ok (.istore 4, 2) := by decide +kernel
theorem dX6_fraction_14 : decode cX6_fraction 14 = .ok (.iload 4, 2) := by decide +kernel
theorem dX6_fraction_16 : decode cX6_fraction 16 = .ok (.ifCond .eq 19, 3) := by decide +kernel
theorem dX6_fraction_19 : decode cX6_fraction 19 = .ok (.iload_n 3, 1) := by decide +kernel
theorem dX6_fraction_20 : decode cX6_fraction 20 = .ok (.iload 4, 2) := by decide +kernel
theorem dX6_fraction_22 : decode cX6_fraction 22 = .ok (.irem, 1) := by decide +kernel
theorem dX6_fraction_23 : decode cX6_fraction 23 = .ok (.istore 5, 2) := by decide +kernel
theorem dX6_fraction_25 : decode cX6_fraction 25 = .ok (.iload 4, 2) := by decide +kernel
theorem dX6_fraction_27 : decode cX6_fraction 27 = .ok (.istore_n 3, 1) := by decide +kernel
theorem dX6_fraction_28 : decode cX6_fraction 28 = .ok (.iload 5, 2) := by decide +kernel
theorem dX6_fraction_30 : decode cX6_fraction 30 = .ok (.istore 4, 2) := by decide +kernel
theorem dX6_fraction_32 : decode cX6_fraction 32 = .ok (.goto (-18), 3) := by decide +kernel
theorem dX6_fraction_35 : decode cX6_fraction 35 = .ok (.iload_n 2, 1) := by decide +kernel
theorem dX6_fraction_36 : decode cX6_fraction 36 = .ok (.ifCond .eq 9, 3) := by decide +kernel
theorem dX6_fraction_39 : decode cX6_fraction 39 = .ok (.iload_n 0, 1) := by decide +kernel
theorem dX6_fraction_40 : decode cX6_fraction 40 = .ok (.iload_n 3, 1) := by decide +kernel
theorem dX6_fraction_41 : decode cX6_fraction 41 = .ok (.idiv, 1) := by decide +kernel
theorem dX6_fraction_42 : decode cX6_fraction 42 = .ok (.goto 6, 3) := by decide +kernel
theorem dX6_fraction_45 : decode cX6_fraction 45 = .ok (.iload_n 1, 1) := by decide +kernel
theorem dX6_fraction_46 : decode cX6_fraction 46 = .ok (.iload_n 3, 1) := by decide +kernel
theorem dX6_fraction_47 : decode cX6_fraction 47 = .ok (.idiv, 1) := by decide +kernel
theorem dX6_fraction_48 : decode cX6_fraction 48 = .ok (.ireturn, 1) := by decide +kernel
theorem dX6_isPath_0 : decode cX6_isPath 0 = .ok (.iload_n 1, 1) := by decide +kernel
theorem dX6_isPath_1 : decode cX6_isPath 1 = .ok (.i2l, 1) := by decide +kernel
theorem dX6_isPath_2 : decode cX6_isPath 2 = .ok (.lconst 0, 1) := by decide +kernel
theorem dX6_isPath_3 : decode cX6_isPath 3 = .ok (.aload_n 0, 1) := by decide +kernel
theorem dX6_isPath_4 : decode cX6_isPath 4 = .ok (.getfield 13, 3) := by decide +kernel
theorem dX6_isPath_7 : decode cX6_isPath 7 = .ok (.bipush 83, 2) := by decide +kernel
theorem dX6_isPath_9 : decode cX6_isPath 9 = .ok (.iaload, 1) := by decide +kernel
theorem dX6_isPath_10 : decode cX6_isPath 10 = .ok (.iconst 1, 1) := by decide +kernel
theorem dX6_isPath_11 : decode cX6_isPath 11 = .ok (.isub, 1) := by decide +kernel
theorem dX6_isPath_12 : decode cX6_isPath 12 = .ok (.i2l, 1) := by decide +kernel
theorem dX6_isPath_13 : decode cX6_isPath 13 = .ok (.invokestatic 64, 3) := by decide +kernel
theorem dX6_isPath_16 : decode cX6_isPath 16 = .ok (.ireturn, 1) := by decide +kernel
theorem dX6_isElement_0 : decode cX6_isElement 0 = .ok (.iload_n 1, 1) := by decide +kernel
theorem dX6_isElement_1 : decode cX6_isElement 1 = .ok (.i2l, 1) := by decide +kernel
theorem dX6_isElement_2 : decode cX6_isElement 2 = .ok (.lconst 0, 1) := by decide +kernel
theorem dX6_isElement_3 : decode cX6_isElement 3 = .ok (.aload_n 0, 1) := by decide +kernel
theorem dX6_isElement_4 : decode cX6_isElement 4 = .ok (.getfield 13, 3) := by decide +kernel
theorem dX6_isElement_7 : decode cX6_isElement 7 = .ok (.bipush 80, 2) := by decide +kernel
theorem dX6_isElement_9 : decode cX6_isElement 9 = .ok (.iaload, 1) := by decide +kernel
theorem dX6_isElement_10 : decode cX6_isElement 10 = .ok (.iconst 1, 1) := by decide +kernel
theorem dX6_isElement_11 : decode cX6_isElement 11 = .ok (.isub, 1) := by decide +kernel
theorem dX6_isElement_12 : decode cX6_isElement 12 = .ok (.i2l, 1) := by decide +kernel
theorem dX6_isElement_13 : decode cX6_isElement 13 = .ok (.invokestatic 64, 3) := by decide +kernel
theorem dX6_isElement_16 : decode cX6_isElement 16 = .ok (.ireturn, 1) := by decide +kernel
theorem dX6_write_0 : decode cX6_write 0 = .ok (.iload_n 1, 1) := by decide +kernel
theorem dX6_write_1 : decode cX6_write 1 = .ok (.i2l, 1) := by decide +kernel
theorem dX6_write_2 : decode cX6_write 2 = .ok (.lconst 0, 1) := by decide +kernel
theorem dX6_write_3 : decode cX6_write 3 = .ok (.ldc2_w 68, 3) := by decide +kernel
theorem dX6_write_6 : decode cX6_write 6 = .ok (.invokestatic 64, 3) := by decide +kernel
theorem dX6_write_9 : decode cX6_write 9 = .ok (.ifCond .ne 6, 3) := by decide +kernel
theorem dX6_write_12 : decode cX6_write 12 = .ok (.bipush (-2), 2) := by decide +kernel
theorem dX6_write_14 : decode cX6_write 14 = .ok (.ireturn, 1) := by decide +kernel
theorem dX6_write_15 : decode cX6_write 15 = .ok (.aload_n 0, 1) := by decide +kernel
theorem dX6_write_16 : decode cX6_write 16 = .ok (.getfield 70, 3) := by decide +kernel
theorem dX6_write_19 : decode cX6_write 19 = .ok (.bipush 99, 2) := by decide +kernel
theorem dX6_write_21 : decode cX6_write 21 = .ok (.if_icmp .ne 6, 3) := by decide +kernel
theorem dX6_write_24 : decode cX6_write 24 = .ok (.bipush (-4), 2) := by decide +kernel
theorem dX6_write_26 : decode cX6_write 26 = .ok (.ireturn, 1) := by decide +kernel
theorem dX6_write_27 : decode cX6_write 27 = .ok (.aload_n 0, 1) := by decide +kernel
theorem dX6_write_28 : decode cX6_write 28 = .ok (.getfield 7, 3) := by decide +kernel
theorem dX6_write_31 : decode cX6_write 31 = .ok (.aload_n 0, 1) := by decide +kernel
theorem dX6_write_32 : decode cX6_write 32 = .ok (.getfield 70, 3) := by decide +kernel
theorem dX6_write_35 : decode cX6_write 35 = .ok (.iload_n 1, 1) := by decide +kernel
theorem dX6_write_36 : decode cX6_write 36 = .ok (.iastore, 1) := by decide +kernel
theorem dX6_write_37 : decode cX6_write 37 = .ok (.aload_n 0, 1) := by decide +kernel
theorem dX6_write_38 : decode cX6_write 38 = .ok (.dup, 1) := by decide +kernel
theorem dX6_write_39 : decode cX6_write 39 = .ok (.getfield 70, 3) := by decide +kernel
theorem dX6_write_42 : decode cX6_write 42 = .ok (.iconst 1, 1) := by decide +kernel
theorem dX6_write_43 : decode cX6_write 43 = .ok (.iadd, 1) := by decide +kernel
theorem dX6_write_44 : decode cX6_write 44 = .ok (.putfield 70, 3) := by decide +kernel
theorem dX6_write_47 : decode cX6_write 47 = .ok (.aload_n 0, 1) := by decide +kernel
theorem dX6_write_48 : decode cX6_write 48 = .ok (.getfield 70, 3) := by decide +kernel
theorem dX6_write_51 : decode cX6_write 51 = .ok (.ireturn, 1) := by decide +kernel
theorem dX6_wipe_0 : decode cX6_wipe 0 = .ok (.aload_n 0, 1) := by decide +kernel
theorem dX6_wipe_1 : decode cX6_wipe 1 = .ok (.getfield 70, 3) := by decide +kernel
theorem dX6_wipe_4 : decode cX6_wipe 4 = .ok (.istore_n 1, 1) := by decide +kernel
theorem dX6_wipe_5 : decode cX6_wipe 5 = .ok (.aload_n 0, 1) := by decide +kernel
theorem dX6_wipe_6 : decode cX6_wipe 6 = .ok (.iconst 0, 1) := by decide +kernel
theorem dX6_wipe_7 : decode cX6_wipe 7 = .ok (.putfield 70, 3) := by decide +kernel
theorem dX6_wipe_10 : decode cX6_wipe 10 = .ok (.iload_n 1, 1) := by decide +kernel
theorem dX6_wipe_11 : decode cX6_wipe 11 = .ok (.ireturn, 1) := by decide +kernel
theorem dX6_takeEvent_0 : decode cX6_takeEvent 0 = .ok (.iload_n 1, 1) := by decide +kernel
theorem dX6_takeEvent_1 : decode cX6_takeEvent 1 = .ok (.i2l, 1) := by decide +kernel
theorem dX6_takeEvent_2 : decode cX6_takeEvent 2 = .ok (.ldc2_w 73, 3) := by decide +kernel
theorem dX6_takeEvent_5 : decode cX6_takeEvent 5 = .ok (.ldc2_w 75, 3) := by decide +kernel
theorem dX6_takeEvent_8 : decode cX6_takeEvent 8 = .ok (.invokestatic 64, 3) := by decide +kernel
theorem dX6_takeEvent_11 : decode cX6_takeEvent 11 = .ok (.ifCond .ne 9, 3) := by decide +kernel
theorem dX6_takeEvent_14 : decode cX6_takeEvent 14 = .ok (.iload_n 1, 1) := by decide +kernel
theorem dX6_takeEvent_15 : decode cX6_takeEvent 15 = .ok (.bipush 41, 2) := by decide +kernel
theorem dX6_takeEvent_17 : decode cX6_takeEvent 17 = .ok (.if_icmp .ne 72, 3) := by decide +kernel
theorem dX6_takeEvent_20 : decode cX6_takeEvent 20 = .ok (.aload_n 0, 1) := by decide +kernel
theorem dX6_takeEvent_21 : decode cX6_takeEvent 21 = .ok (.getfield 53, 3) := by decide +kernel
theorem dX6_takeEvent_24 : decode cX6_takeEvent 24 = .ok (.aload_n 0, 1) := by decide +kernel
theorem dX6_takeEvent_25 : decode cX6_takeEvent 25 = .ok (.getfield 77, 3) := by decide +kernel
theorem dX6_takeEvent_28 : decode cX6_takeEvent 28 = .ok (.iload_n 1, 1) := by decide +kernel
theorem dX6_takeEvent_29 : decode cX6_takeEvent 29 = .ok (.bipush 41, 2) := by decide +kernel
theorem dX6_takeEvent_31 : decode cX6_takeEvent 31 = .ok (.if_icmp .ne 8, 3) := by decide +kernel
theorem dX6_takeEvent_34 : decode cX6_takeEvent 34 = .ok (.bipush 10, 2) := by decide +kernel
theorem dX6_takeEvent_36 : decode cX6_takeEvent 36 = .ok (.goto 7, 3) := by decide +kernel
theorem dX6_takeEvent_39 : decode cX6_takeEvent 39 = .ok (.iload_n 1, 1) := by decide +kernel
theorem dX6_takeEvent_40 : decode cX6_takeEvent 40 = .ok (.bipush 28, 2) := by decide +kernel
theorem dX6_takeEvent_42 : decode cX6_takeEvent 42 = .ok (.isub, 1) := by decide +kernel
theorem dX6_takeEvent_43 : decode cX6_takeEvent 43 = .ok (.iastore, 1) := by decide +kernel
theorem dX6_takeEvent_44 : decode cX6_takeEvent 44 = .ok (.aload_n 0, 1) := by decide +kernel
theorem dX6_takeEvent_45 : decode cX6_takeEvent 45 = .ok (.dup, 1) := by decide +kernel
theorem dX6_takeEvent_46 : decode cX6_takeEvent 46 = .ok (.getfield 77, 3) := by decide +kernel
theorem dX6_takeEvent_49 : decode cX6_takeEvent 49 = .ok (.iconst 1, 1) := by decide +kernel
theorem dX6_takeEvent_50 : decode cX6_takeEvent 50 = .ok (.iadd, 1) := by decide +kernel
theorem dX6_takeEvent_51 : decode cX6_takeEvent 51 = .ok (.putfield 77, 3) := by decide +kernel
theorem dX6_takeEvent_54 : decode cX6_takeEvent 54 = .ok (.aload_n 0, 1) := by decide +kernel
theorem dX6_takeEvent_55 : decode cX6_takeEvent 55 = .ok (.getfield 80, 3) := by decide +kernel
theorem dX6_takeEvent_58 : decode cX6_takeEvent 58 = .ok (.ifCond .le 7, 3) := by decide +kernel
theorem dX6_takeEvent_61 : decode cX6_takeEvent 61 = .ok (.iconst 1, 1) := by decide +kernel
theorem dX6_takeEvent_62 : decode cX6_takeEvent 62 = .ok (.goto 4, 3) := by decide +kernel
theorem dX6_takeEvent_65 : decode cX6_takeEvent 65 = .ok (.iconst 0, 1) := by decide +kernel
theorem dX6_takeEvent_66 : decode cX6_takeEvent 66 = .ok (.istore_n 2, 1) := by decide +kernel
theorem dX6_takeEvent_67 : decode cX6_takeEvent 67 = .ok (.aload_n 0, 1) := by decide +kernel
theorem dX6_takeEvent_68 : decode cX6_takeEvent 68 = .ok (.dup, 1) := by decide +kernel
theorem dX6_takeEvent_69 : decode cX6_takeEvent 69 = .ok (.getfield 80, 3) := by decide +kernel
theorem dX6_takeEvent_72 : decode cX6_takeEvent 72 = .ok (.iload_n 1, 1) := by decide +kernel
theorem dX6_takeEvent_73 : decode cX6_takeEvent 73 = .ok (.bipush 41, 2) := by decide +kernel
theorem dX6_takeEvent_75 : decode cX6_takeEvent 75 = .ok (.if_icmp .ne 7, 3) := by decide +kernel
theorem dX6_takeEvent_78 : decode cX6_takeEvent 78 = .ok (.iconst 1, 1) := by decide +kernel
theorem dX6_takeEvent_79 : decode cX6_takeEvent 79 = .ok (.goto 4, 3) := by decide +kernel
theorem dX6_takeEvent_82 : decode cX6_takeEvent 82 = .ok (.iconst 0, 1) := by decide +kernel
theorem dX6_takeEvent_83 : decode cX6_takeEvent 83 = .ok (.isub, 1) := by decide +kernel
theorem dX6_takeEvent_84 : decode cX6_takeEvent 84 = .ok (.putfield 80, 3) := by decide +kernel
theorem dX6_takeEvent_87 : decode cX6_takeEvent 87 = .ok (.iload_n 2, 1) := by decide +kernel
theorem dX6_takeEvent_88 : decode cX6_takeEvent 88 = .ok (.ireturn, 1) := by decide +kernel
theorem dX6_takeEvent_89 : decode cX6_takeEvent 89 = .ok (.aload_n 0, 1) := by decide +kernel
theorem dX6_takeEvent_90 : decode cX6_takeEvent 90 = .ok (.bipush 8, 2) := by decide +kernel
theorem dX6_takeEvent_92 : decode cX6_takeEvent 92 = .ok (.putfield 83, 3) := by decide +kernel
theorem dX6_takeEvent_95 : decode cX6_takeEvent 95 = .ok (.iload_n 1, 1) := by decide +kernel
theorem dX6_takeEvent_96 : decode cX6_takeEvent 96 = .ok (.bipush 40, 2) := by decide +kernel
theorem dX6_takeEvent_98 : decode cX6_takeEvent 98 = .ok (.if_icmp .ne 39, 3) := by decide +kernel
theorem dX6_takeEvent_101 : decode cX6_takeEvent 101 = .ok (.aload_n 0, 1) := by decide +kernel
theorem dX6_takeEvent_102 : decode cX6_takeEvent 102 = .ok (.getfield 86, 3) := by decide +kernel
theorem dX6_takeEvent_105 : decode cX6_takeEvent 105 = .ok (.bipush 20, 2) := by decide +kernel
theorem dX6_takeEvent_107 : decode cX6_takeEvent 107 = .ok (.if_icmp .ge 30, 3) := by decide +kernel
theorem dX6_takeEvent_110 : decode cX6_takeEvent 110 = .ok (.aload_n 0, 1) := by decide +kernel
theorem dX6_takeEvent_111 : decode cX6_takeEvent 111 = .ok (.getfield 80, 3) := by decide +kernel
theorem dX6_takeEvent_114 : decode cX6_takeEvent 114 = .ok (.bipush 8, 2) := by decide +kernel
theorem dX6_takeEvent_116 : decode cX6_takeEvent 116 = .ok (.if_icmp .ge 21, 3) := by decide +kernel
theorem dX6_takeEvent_119 : decode cX6_takeEvent 119 = .ok (.aload_n 0, 1) := by decide +kernel
theorem dX6_takeEvent_120 : decode cX6_takeEvent 120 = .ok (.getfield 86, 3) := by decide +kernel
theorem dX6_takeEvent_123 : decode cX6_takeEvent 123 = .ok (.ifCond .eq 10, 3) := by decide +kernel
theorem dX6_takeEvent_126 : decode cX6_takeEvent 126 = .ok (.aload_n 0, 1) := by decide +kernel
theorem dX6_takeEvent_127 : decode cX6_takeEvent 127 = .ok (.getfield 80, 3) := by decide +kernel
theorem dX6_takeEvent_130 : decode cX6_takeEvent 130 = .ok (.ifCond .le 7, 3) := by decide +kernel
theorem dX6_takeEvent_133 : decode cX6_takeEvent 133 = .ok (.iconst 1, 1) := by decide +kernel
theorem dX6_takeEvent_134 : decode cX6_takeEvent 134 = .ok (.goto 4, 3) := by decide +kernel
theorem dX6_takeEvent_137 : decode cX6_takeEvent 137 = .ok (.iconst 0, 1) := by decide +kernel
theorem dX6_takeEvent_138 : decode cX6_takeEvent 138 = .ok (.ireturn, 1) := by decide +kernel
theorem dX6_takeTop_0 : decode cX6_takeTop 0 = .ok (.iload_n 1, 1) := by decide +kernel
theorem dX6_takeTop_1 : decode cX6_takeTop 1 = .ok (.bipush 113, 2) := by decide +kernel
theorem dX6_takeTop_3 : decode cX6_takeTop 3 = .ok (.if_icmp .ne 51, 3) := by decide +kernel
theorem dX6_takeTop_6 : decode cX6_takeTop 6 = .ok (.aload_n 0, 1) := by decide +kernel
theorem dX6_takeTop_7 : decode cX6_takeTop 7 = .ok (.iconst 1, 1) := by decide +kernel
theorem dX6_takeTop_8 : decode cX6_takeTop 8 = .ok (.putfield 83, 3) := by decide +kernel
theorem dX6_takeTop_11 : decode cX6_takeTop 11 = .ok (.aload_n 0, 1) := by decide +kernel
theorem dX6_takeTop_12 : decode cX6_takeTop 12 = .ok (.getfield 47, 3) := by decide +kernel
theorem dX6_takeTop_15 : decode cX6_takeTop 15 = .ok (.aload_n 0, 1) := by decide +kernel
theorem dX6_takeTop_16 : decode cX6_takeTop 16 = .ok (.getfield 89, 3) := by decide +kernel
theorem dX6_takeTop_19 : decode cX6_takeTop 19 = .ok (.iconst 5, 1) := by decide +kernel
theorem dX6_takeTop_20 : decode cX6_takeTop 20 = .ok (.if_icmp .ge 10, 3) := by decide +kernel
theorem dX6_takeTop_23 : decode cX6_takeTop 23 = .ok (.aload_n 0, 1) := by decide +kernel
theorem dX6_takeTop_24 : decode cX6_takeTop 24 = .ok (.getfield 89, 3) := by decide +kernel
theorem dX6_takeTop_27 : decode cX6_takeTop 27 = .ok (.goto 4, 3) := by decide +kernel
theorem dX6_takeTop_30 : decode cX6_takeTop 30 = .ok (.iconst 0, 1) := by decide +kernel
theorem dX6_takeTop_31 : decode cX6_takeTop 31 = .ok (.iconst 0, 1) := by decide +kernel
theorem dX6_takeTop_32 : decode cX6_takeTop 32 = .ok (.iastore, 1) := by decide +kernel
theorem dX6_takeTop_33 : decode cX6_takeTop 33 = .ok (.aload_n 0, 1) := by decide +kernel
theorem dX6_takeTop_34 : decode cX6_takeTop 34 = .ok (.getfield 89, 3) := by decide +kernel
theorem dX6_takeTop_37 : decode cX6_takeTop 37 = .ok (.iconst 5, 1) := by decide +kernel
theorem dX6_takeTop_38 : decode cX6_takeTop 38 = .ok (.if_icmp .ge 14, 3) := by decide +kernel
theorem dX6_takeTop_41 : decode cX6_takeTop 41 = .ok (.aload_n 0, 1) := by decide +kernel
theorem dX6_takeTop_42 : decode cX6_takeTop 42 = .ok (.getfield 77, 3) := by decide +kernel
theorem dX6_takeTop_45 : decode cX6_takeTop 45 = .ok (.ifCond .ne 7, 3) := by decide +kernel
theorem dX6_takeTop_48 : decode cX6_takeTop 48 = .ok (.iconst 1, 1) := by decide +kernel
theorem dX6_takeTop_49 : decode cX6_takeTop 49 = .ok (.goto 4, 3) := by decide +kernel
theorem dX6_takeTop_52 : decode cX6_takeTop 52 = .ok (.iconst 0, 1) := by decide +kernel
theorem dX6_takeTop_53 : decode cX6_takeTop 53 = .ok (.ireturn, 1) := by decide +kernel
theorem dX6_takeTop_54 : decode cX6_takeTop 54 = .ok (.aload_n 0, 1) := by decide +kernel
theorem dX6_takeTop_55 : decode cX6_takeTop 55 = .ok (.iload_n 1, 1) := by decide +kernel
theorem dX6_takeTop_56 : decode cX6_takeTop 56 = .ok (.invokevirtual 92, 3) := by decide +kernel
theorem dX6_takeTop_59 : decode cX6_takeTop 59 = .ok (.ireturn, 1) := by decide +kernel
theorem dX6_takeAxis_0 : decode cX6_takeAxis 0 = .ok (.aload_n 0, 1) := by decide +kernel
theorem dX6_takeAxis_1 : decode cX6_takeAxis 1 = .ok (.getfield 47, 3) := by decide +kernel
theorem dX6_takeAxis_4 : decode cX6_takeAxis 4 = .ok (.aload_n 0, 1) := by decide +kernel
theorem dX6_takeAxis_5 : decode cX6_takeAxis 5 = .ok (.getfield 89, 3) := by decide +kernel
theorem dX6_takeAxis_8 : decode cX6_takeAxis 8 = .ok (.iaload, 1) := by decide +kernel
theorem dX6_takeAxis_9 : decode cX6_takeAxis 9 = .ok (.istore_n 2, 1) := by decide +kernel
theorem dX6_takeAxis_10 : decode cX6_takeAxis 10 = .ok (.iload_n 1, 1) := by decide +kernel
theorem dX6_takeAxis_11 : decode cX6_takeAxis 11 = .ok (.bipush 47, 2) := by decide +kernel
theorem dX6_takeAxis_13 : decode cX6_takeAxis 13 = .ok (.if_icmp .eq 9, 3) := by decide +kernel
theorem dX6_takeAxis_16 : decode cX6_takeAxis 16 = .ok (.iload_n 1, 1) := by decide +kernel
theorem dX6_takeAxis_17 : decode cX6_takeAxis 17 = .ok (.bipush 33, 2) := by decide +kernel
theorem dX6_takeAxis_19 : decode cX6_takeAxis 19 = .ok (.if_icmp .ne 8, 3) := by decide +kernel
theorem dX6_takeAxis_22 : decode cX6_takeAxis 22 = .ok (.iload_n 2, 1) := by decide +kernel
theorem dX6_takeAxis_23 : decode cX6_takeAxis 23 = .ok (.iconst 4, 1) := by decide +kernel
theorem dX6_takeAxis_24 : decode cX6_takeAxis 24 = .ok (.if_icmp .ne 5, 3) := by decide +kernel
theorem dX6_takeAxis_27 : decode cX6_takeAxis 27 = .ok (.iconst 0, 1) := by decide +kernel
theorem dX6_takeAxis_28 : decode cX6_takeAxis 28 = .ok (.ireturn, 1) := by decide +kernel
theorem dX6_takeAxis_29 : decode cX6_takeAxis 29 = .ok (.aload_n 0, 1) := by decide +kernel
theorem dX6_takeAxis_30 : decode cX6_takeAxis 30 = .ok (.getfield 50, 3) := by decide +kernel
theorem dX6_takeAxis_33 : decode cX6_takeAxis 33 = .ok (.iconst 4, 1) := by decide +kernel
theorem dX6_takeAxis_34 : decode cX6_takeAxis 34 = .ok (.aload_n 0, 1) := by decide +kernel
theorem dX6_takeAxis_35 : decode cX6_takeAxis 35 = .ok (.getfield 89, 3) := by decide +kernel
theorem dX6_takeAxis_38 : decode cX6_takeAxis 38 = .ok (.imul, 1) := by decide +kernel
theorem dX6_takeAxis_39 : decode cX6_takeAxis 39 = .ok (.iload_n 2, 1) := by decide +kernel
theorem dX6_takeAxis_40 : decode cX6_takeAxis 40 = .ok (.iadd, 1) := by decide +kernel
theorem dX6_takeAxis_41 : decode cX6_takeAxis 41 = .ok (.iload_n 1, 1) := by decide +kernel
theorem dX6_takeAxis_42 : decode cX6_takeAxis 42 = .ok (.bipush 33, 2) := by decide +kernel
theorem dX6_takeAxis_44 : decode cX6_takeAxis 44 = .ok (.if_icmp .ne 9, 3) := by decide +kernel
theorem dX6_takeAxis_47 : decode cX6_takeAxis 47 = .ok (.sipush 1000, 3) := by decide +kernel
theorem dX6_takeAxis_50 : decode cX6_takeAxis 50 = .ok (.goto 4, 3) := by decide +kernel
theorem dX6_takeAxis_53 : decode cX6_takeAxis 53 = .ok (.iconst 0, 1) := by decide +kernel
theorem dX6_takeAxis_54 : decode cX6_takeAxis 54 = .ok (.iastore, 1) := by decide +kernel
theorem dX6_takeAxis_55 : decode cX6_takeAxis 55 = .ok (.aload_n 0, 1) := by decide +kernel
theorem dX6_takeAxis_56 : decode cX6_takeAxis 56 = .ok (.getfield 47, 3) := by decide +kernel
theorem dX6_takeAxis_59 : decode cX6_takeAxis 59 = .ok (.aload_n 0, 1) := by decide +kernel
theorem dX6_takeAxis_60 : decode cX6_takeAxis 60 = .ok (.getfield 89, 3) := by decide +kernel
theorem dX6_takeAxis_63 : decode cX6_takeAxis 63 = .ok (.dup2, 1) := by decide +kernel
theorem dX6_takeAxis_64 : decode cX6_takeAxis 64 = .ok (.iaload, 1) := by decide +kernel
theorem dX6_takeAxis_65 : decode cX6_takeAxis 65 = .ok (.iconst 1, 1) := by decide +kernel
theorem dX6_takeAxis_66 : decode cX6_takeAxis 66 = .ok (.iadd, 1) := by decide +kernel
theorem dX6_takeAxis_67 : decode cX6_takeAxis 67 = .ok (.iastore, 1) := by decide +kernel
theorem dX6_takeAxis_68 : decode cX6_takeAxis 68 = .ok (.aload_n 0, 1) := by decide +kernel
theorem dX6_takeAxis_69 : decode cX6_takeAxis 69 = .ok (.iconst 2, 1) := by decide +kernel
theorem dX6_takeAxis_70 : decode cX6_takeAxis 70 = .ok (.putfield 83, 3) := by decide +kernel
theorem dX6_takeAxis_73 : decode cX6_takeAxis 73 = .ok (.iconst 1, 1) := by decide +kernel
theorem dX6_takeAxis_74 : decode cX6_takeAxis 74 = .ok (.ireturn, 1) := by decide +kernel
theorem dX6_takeBehind_0 : decode cX6_takeBehind 0 = .ok (.iload_n 1, 1) := by decide +kernel
theorem dX6_takeBehind_1 : decode cX6_takeBehind 1 = .ok (.bipush 46, 2) := by decide +kernel
theorem dX6_takeBehind_3 : decode cX6_takeBehind 3 = .ok (.if_icmp .ne 20, 3) := by decide +kernel
theorem dX6_takeBehind_6 : decode cX6_takeBehind 6 = .ok (.aload_n 0, 1) := by decide +kernel
theorem dX6_takeBehind_7 : decode cX6_takeBehind 7 = .ok (.dup, 1) := by decide +kernel
theorem dX6_takeBehind_8 : decode cX6_takeBehind 8 = .ok (.getfield 89, 3) := by decide +kernel
theorem dX6_takeBehind_11 : decode cX6_takeBehind 11 = .ok (.iconst 1, 1) := by decide +kernel
theorem dX6_takeBehind_12 : decode cX6_takeBehind 12 = .ok (.iadd, 1) := by decide +kernel
theorem dX6_takeBehind_13 : decode cX6_takeBehind 13 = .ok (.putfield 89, 3) := by decide +kernel
theorem dX6_takeBehind_16 : decode cX6_takeBehind 16 = .ok (.aload_n 0, 1) := by decide +kernel
theorem dX6_takeBehind_17 : decode cX6_takeBehind 17 = .ok (.iconst 0, 1) := by decide +kernel
theorem dX6_takeBehind_18 : decode cX6_takeBehind 18 = .ok (.putfield 83, 3) := by decide +kernel
theorem dX6_takeBehind_21 : decode cX6_takeBehind 21 = .ok (.iconst 1, 1) := by decide +kernel
theorem dX6_takeBehind_22 : decode cX6_takeBehind 22 = .ok (.ireturn, 1) := by decide +kernel
theorem dX6_takeBehind_23 : decode cX6_takeBehind 23 = .ok (.iload_n 1, 1) := by decide +kernel
theorem dX6_takeBehind_24 : decode cX6_takeBehind 24 = .ok (.bipush 91, 2) := by decide +kernel
theorem dX6_takeBehind_26 : decode cX6_takeBehind 26 = .ok (.if_icmp .ne 18, 3) := by decide +kernel
theorem dX6_takeBehind_29 : decode cX6_takeBehind 29 = .ok (.aload_n 0, 1) := by decide +kernel
theorem dX6_takeBehind_30 : decode cX6_takeBehind 30 = .ok (.getfield 83, 3) := by decide +kernel
theorem dX6_takeBehind_33 : decode cX6_takeBehind 33 = .ok (.iconst 3, 1) := by decide +kernel
theorem dX6_takeBehind_34 : decode cX6_takeBehind 34 = .ok (.if_icmp .ne 10, 3) := by decide +kernel
theorem dX6_takeBehind_37 : decode cX6_takeBehind 37 = .ok (.aload_n 0, 1) := by decide +kernel
theorem dX6_takeBehind_38 : decode cX6_takeBehind 38 = .ok (.iconst 4, 1) := by decide +kernel
theorem dX6_takeBehind_39 : decode cX6_takeBehind 39 = .ok (.putfield 83, 3) := by decide +kernel
theorem dX6_takeBehind_42 : decode cX6_takeBehind 42 = .ok (.iconst 1, 1) := by decide +kernel
theorem dX6_takeBehind_43 : decode cX6_takeBehind 43 = .ok (.ireturn, 1) := by decide +kernel
theorem dX6_takeBehind_44 : decode cX6_takeBehind 44 = .ok (.aload_n 0, 1) := by decide +kernel
theorem dX6_takeBehind_45 : decode cX6_takeBehind 45 = .ok (.iload_n 1, 1) := by decide +kernel
theorem dX6_takeBehind_46 : decode cX6_takeBehind 46 = .ok (.invokevirtual 96, 3) := by decide +kernel
theorem dX6_takeBehind_49 : decode cX6_takeBehind 49 = .ok (.ireturn, 1) := by decide +kernel
theorem dX6_addToStep_0 : decode cX6_addToStep 0 = .ok (.aload_n 0, 1) := by decide +kernel
theorem dX6_addToStep_1 : decode cX6_addToStep 1 = .ok (.getfield 50, 3) := by decide +kernel
theorem dX6_addToStep_4 : decode cX6_addToStep 4 = .ok (.iconst 4, 1) := by decide +kernel
theorem dX6_addToStep_5 : decode cX6_addToStep 5 = .ok (.aload_n 0, 1) := by decide +kernel
theorem dX6_addToStep_6 : decode cX6_addToStep 6 = .ok (.getfield 89, 3) := by decide +kernel
theorem dX6_addToStep_9 : decode cX6_addToStep 9 = .ok (.imul, 1) := by decide +kernel
theorem dX6_addToStep_10 : decode cX6_addToStep 10 = .ok (.aload_n 0, 1) := by decide +kernel
theorem dX6_addToStep_11 : decode cX6_addToStep 11 = .ok (.getfield 47, 3) := by decide +kernel
theorem dX6_addToStep_14 : decode cX6_addToStep 14 = .ok (.aload_n 0, 1) := by decide +kernel
theorem dX6_addToStep_15 : decode cX6_addToStep 15 = .ok (.getfield 89, 3) := by decide +kernel
theorem dX6_addToStep_18 : decode cX6_addToStep 18 = .ok (.iaload, 1) := by decide +kernel
theorem dX6_addToStep_19 : decode cX6_addToStep 19 = .ok (.iadd, 1) := by decide +kernel
theorem dX6_addToStep_20 : decode cX6_addToStep 20 = .ok (.iconst 1, 1) := by decide +kernel
theorem dX6_addToStep_21 : decode cX6_addToStep 21 = .ok (.isub, 1) := by decide +kernel
theorem dX6_addToStep_22 : decode cX6_addToStep 22 = .ok (.dup2, 1) := by decide +kernel
theorem dX6_addToStep_23 : decode cX6_addToStep 23 = .ok (.iaload, 1) := by decide +kernel
theorem dX6_addToStep_24 : decode cX6_addToStep 24 = .ok (.iload_n 1, 1) := by decide +kernel
theorem dX6_addToStep_25 : decode cX6_addToStep 25 = .ok (.iadd, 1) := by decide +kernel
theorem dX6_addToStep_26 : decode cX6_addToStep 26 = .ok (.iastore, 1) := by decide +kernel
theorem dX6_addToStep_27 : decode cX6_addToStep 27 = .ok (.return_, 1) := by decide +kernel
theorem dX6_take_0 : decode cX6_take 0 = .ok (.iload_n 1, 1) := by decide +kernel
theorem dX6_take_1 : decode cX6_take 1 = .ok (.bipush 97, 2) := by decide +kernel
theorem dX6_take_3 : decode cX6_take 3 = .ok (.isub, 1) := by decide +kernel
theorem dX6_take_4 : decode cX6_take 4 = .ok (.istore_n 2, 1) := by decide +kernel
theorem dX6_take_5 : decode cX6_take 5 = .ok (.aload_n 0, 1) := by decide +kernel
theorem dX6_take_6 : decode cX6_take 6 = .ok (.getfield 83, 3) := by decide +kernel
theorem dX6_take_9 : decode cX6_take 9 = .ok (.tableswitch 216 0 7 #[47, 53, 59, 106, 112, 169, 198, 106], 47) := by decide +kernel
theorem dX6_take_56 : decode cX6_take 56 = .ok (.aload_n 0, 1) := by decide +kernel
theorem dX6_take_57 : decode cX6_take 57 = .ok (.iload_n 1, 1) := by decide +kernel
theorem dX6_take_58 : decode cX6_take 58 = .ok (.invokevirtual 99, 3) := by decide +kernel
theorem dX6_take_61 : decode cX6_take 61 = .ok (.ireturn, 1) := by decide +kernel
theorem dX6_take_62 : decode cX6_take 62 = .ok (.aload_n 0, 1) := by decide +kernel
theorem dX6_take_63 : decode cX6_take 63 = .ok (.iload_n 1, 1) := by decide +kernel
theorem dX6_take_64 : decode cX6_take 64 = .ok (.invokevirtual 96, 3) := by decide +kernel
theorem dX6_take_67 : decode cX6_take 67 = .ok (.ireturn, 1) := by decide +kernel
theorem dX6_take_68 : decode cX6_take 68 = .ok (.aload_n 0, 1) := by decide +kernel
theorem dX6_take_69 : decode cX6_take 69 = .ok (.bipush 100, 2) := by decide +kernel
theorem dX6_take_71 : decode cX6_take 71 = .ok (.iload_n 1, 1) := by decide +kernel
theorem dX6_take_72 : decode cX6_take 72 = .ok (.bipush 42, 2) := by decide +kernel
theorem dX6_take_74 : decode cX6_take 74 = .ok (.if_icmp .ne 7, 3) := by decide +kernel
theorem dX6_take_77 : decode cX6_take 77 = .ok (.iconst 5, 1) := by decide +kernel
theorem dX6_take_78 : decode cX6_take 78 = .ok (.goto 4, 3) := by decide +kernel
theorem dX6_take_81 : decode cX6_take 81 = .ok (.iload_n 2, 1) := by decide +kernel
theorem dX6_take_82 : decode cX6_take 82 = .ok (.imul, 1) := by decide +kernel
theorem dX6_take_83 : decode cX6_take 83 = .ok (.invokevirtual 102, 3) := by decide +kernel
theorem dX6_take_86 : decode cX6_take 86 = .ok (.aload_n 0, 1) := by decide +kernel
theorem dX6_take_87 : decode cX6_take 87 = .ok (.iconst 3, 1) := by decide +kernel
theorem dX6_take_88 : decode cX6_take 88 = .ok (.putfield 83, 3) := by decide +kernel
theorem dX6_take_91 : decode cX6_take 91 = .ok (.iload_n 1, 1) := by decide +kernel
theorem dX6_take_92 : decode cX6_take 92 = .ok (.bipush 42, 2) := by decide +kernel
theorem dX6_take_94 : decode cX6_take 94 = .ok (.if_icmp .eq 15, 3) := by decide +kernel
theorem dX6_take_97 : decode cX6_take 97 = .ok (.iload_n 2, 1) := by decide +kernel
theorem dX6_take_98 : decode cX6_take 98 = .ok (.i2l, 1) := by decide +kernel
theorem dX6_take_99 : decode cX6_take 99 = .ok (.lconst 0, 1) := by decide +kernel
theorem dX6_take_100 : decode cX6_take 100 = .ok (.ldc2_w 106, 3) := by decide +kernel
theorem dX6_take_103 : decode cX6_take 103 = .ok (.invokestatic 64, 3) := by decide +kernel
theorem dX6_take_106 : decode cX6_take 106 = .ok (.ifCond .eq 7, 3) := by decide +kernel
theorem dX6_take_109 : decode cX6_take 109 = .ok (.iconst 1, 1) := by decide +kernel
theorem dX6_take_110 : decode cX6_take 110 = .ok (.goto 4, 3) := by decide +kernel
theorem dX6_take_113 : decode cX6_take 113 = .ok (.iconst 0, 1) := by decide +kernel
theorem dX6_take_114 : decode cX6_take 114 = .ok (.ireturn, 1) := by decide +kernel
theorem dX6_take_115 : decode cX6_take 115 = .ok (.aload_n 0, 1) := by decide +kernel
theorem dX6_take_116 : decode cX6_take 116 = .ok (.iload_n 1, 1) := by decide +kernel
theorem dX6_take_117 : decode cX6_take 117 = .ok (.invokevirtual 108, 3) := by decide +kernel
theorem dX6_take_120 : decode cX6_take 120 = .ok (.ireturn, 1) := by decide +kernel
theorem dX6_take_121 : decode cX6_take 121 = .ok (.aload_n 0, 1) := by decide +kernel
theorem dX6_take_122 : decode cX6_take 122 = .ok (.iload_n 1, 1) := by decide +kernel
theorem dX6_take_123 : decode cX6_take 123 = .ok (.bipush 61, 2) := by decide +kernel
theorem dX6_take_125 : decode cX6_take 125 = .ok (.if_icmp .ne 7, 3) := by decide +kernel
theorem dX6_take_128 : decode cX6_take 128 = .ok (.iconst 5, 1) := by decide +kernel
theorem dX6_take_129 : decode cX6_take 129 = .ok (.goto 5, 3) := by decide +kernel
theorem dX6_take_132 : decode cX6_take 132 = .ok (.bipush 6, 2) := by decide +kernel
theorem dX6_take_134 : decode cX6_take 134 = .ok (.putfield 83, 3) := by decide +kernel
theorem dX6_take_137 : decode cX6_take 137 = .ok (.aload_n 0, 1) := by decide +kernel
theorem dX6_take_138 : decode cX6_take 138 = .ok (.iload_n 1, 1) := by decide +kernel
theorem dX6_take_139 : decode cX6_take 139 = .ok (.bipush 61, 2) := by decide +kernel
theorem dX6_take_141 : decode cX6_take 141 = .ok (.if_icmp .ne 7, 3) := by decide +kernel
theorem dX6_take_144 : decode cX6_take 144 = .ok (.iconst 0, 1) := by decide +kernel
theorem dX6_take_145 : decode cX6_take 145 = .ok (.goto 6, 3) := by decide +kernel
theorem dX6_take_148 : decode cX6_take 148 = .ok (.iload_n 2, 1) := by decide +kernel
theorem dX6_take_149 : decode cX6_take 149 = .ok (.iconst 1, 1) := by decide +kernel
theorem dX6_take_150 : decode cX6_take 150 = .ok (.iadd, 1) := by decide +kernel
theorem dX6_take_151 : decode cX6_take 151 = .ok (.invokevirtual 102, 3) := by decide +kernel
theorem dX6_take_154 : decode cX6_take 154 = .ok (.iload_n 1, 1) := by decide +kernel
theorem dX6_take_155 : decode cX6_take 155 = .ok (.bipush 61, 2) := by decide +kernel
theorem dX6_take_157 : decode cX6_take 157 = .ok (.if_icmp .eq 15, 3) := by decide +kernel
theorem dX6_take_160 : decode cX6_take 160 = .ok (.iload_n 2, 1) := by decide +kernel
theorem dX6_take_161 : decode cX6_take 161 = .ok (.i2l, 1) := by decide +kernel
theorem dX6_take_162 : decode cX6_take 162 = .ok (.lconst 0, 1) := by decide +kernel
theorem dX6_take_163 : decode cX6_take 163 = .ok (.ldc2_w 106, 3) := by decide +kernel
theorem dX6_take_166 : decode cX6_take 166 = .ok (.invokestatic 64, 3) := by decide +kernel
theorem dX6_take_169 : decode cX6_take 169 = .ok (.ifCond .eq 7, 3) := by decide +kernel
theorem dX6_take_172 : decode cX6_take 172 = .ok (.iconst 1, 1) := by decide +kernel
theorem dX6_take_173 : decode cX6_take 173 = .ok (.goto 4, 3) := by decide +kernel
theorem dX6_take_176 : decode cX6_take 176 = .ok (.iconst 0, 1) := by decide +kernel
theorem dX6_take_177 : decode cX6_take 177 = .ok (.ireturn, 1) := by decide +kernel
theorem dX6_take_178 : decode cX6_take 178 = .ok (.aload_n 0, 1) := by decide +kernel
theorem dX6_take_179 : decode cX6_take 179 = .ok (.bipush 6, 2) := by decide +kernel
theorem dX6_take_181 : decode cX6_take 181 = .ok (.putfield 83, 3) := by decide +kernel
theorem dX6_take_184 : decode cX6_take 184 = .ok (.aload_n 0, 1) := by decide +kernel
theorem dX6_take_185 : decode cX6_take 185 = .ok (.iload_n 1, 1) := by decide +kernel
theorem dX6_take_186 : decode cX6_take 186 = .ok (.bipush 48, 2) := by decide +kernel
theorem dX6_take_188 : decode cX6_take 188 = .ok (.isub, 1) := by decide +kernel
theorem dX6_take_189 : decode cX6_take 189 = .ok (.bipush 6, 2) := by decide +kernel
theorem dX6_take_191 : decode cX6_take 191 = .ok (.iadd, 1) := by decide +kernel
theorem dX6_take_192 : decode cX6_take 192 = .ok (.invokevirtual 102, 3) := by decide +kernel
theorem dX6_take_195 : decode cX6_take 195 = .ok (.iload_n 1, 1) := by decide +kernel
theorem dX6_take_196 : decode cX6_take 196 = .ok (.i2l, 1) := by decide +kernel
theorem dX6_take_197 : decode cX6_take 197 = .ok (.ldc2_w 73, 3) := by decide +kernel
theorem dX6_take_200 : decode cX6_take 200 = .ok (.ldc2_w 75, 3) := by decide +kernel
theorem dX6_take_203 : decode cX6_take 203 = .ok (.invokestatic 64, 3) := by decide +kernel
theorem dX6_take_206 : decode cX6_take 206 = .ok (.ireturn, 1) := by decide +kernel
theorem dX6_take_207 : decode cX6_take 207 = .ok (.aload_n 0, 1) := by decide +kernel
theorem dX6_take_208 : decode cX6_take 208 = .ok (.bipush 7, 2) := by decide +kernel
theorem dX6_take_210 : decode cX6_take 210 = .ok (.putfield 83, 3) := by decide +kernel
theorem dX6_take_213 : decode cX6_take 213 = .ok (.iload_n 1, 1) := by decide +kernel
theorem dX6_take_214 : decode cX6_take 214 = .ok (.bipush 93, 2) := by decide +kernel
theorem dX6_take_216 : decode cX6_take 216 = .ok (.if_icmp .ne 7, 3) := by decide +kernel
theorem dX6_take_219 : decode cX6_take 219 = .ok (.iconst 1, 1) := by decide +kernel
theorem dX6_take_220 : decode cX6_take 220 = .ok (.goto 4, 3) := by decide +kernel
theorem dX6_take_223 : decode cX6_take 223 = .ok (.iconst 0, 1) := by decide +kernel
theorem dX6_take_224 : decode cX6_take 224 = .ok (.ireturn, 1) := by decide +kernel
theorem dX6_take_225 : decode cX6_take 225 = .ok (.aload_n 0, 1) := by decide +kernel
theorem dX6_take_226 : decode cX6_take 226 = .ok (.getfield 53, 3) := by decide +kernel
theorem dX6_take_229 : decode cX6_take 229 = .ok (.aload_n 0, 1) := by decide +kernel
theorem dX6_take_230 : decode cX6_take 230 = .ok (.getfield 77, 3) := by decide +kernel
theorem dX6_take_233 : decode cX6_take 233 = .ok (.iload_n 2, 1) := by decide +kernel
theorem dX6_take_234 : decode cX6_take 234 = .ok (.iastore, 1) := by decide +kernel
theorem dX6_take_235 : decode cX6_take 235 = .ok (.aload_n 0, 1) := by decide +kernel
theorem dX6_take_236 : decode cX6_take 236 = .ok (.dup, 1) := by decide +kernel
theorem dX6_take_237 : decode cX6_take 237 = .ok (.getfield 77, 3) := by decide +kernel
theorem dX6_take_240 : decode cX6_take 240 = .ok (.iconst 1, 1) := by decide +kernel
theorem dX6_take_241 : decode cX6_take 241 = .ok (.iadd, 1) := by decide +kernel
theorem dX6_take_242 : decode cX6_take 242 = .ok (.putfield 77, 3) := by decide +kernel
theorem dX6_take_245 : decode cX6_take 245 = .ok (.aload_n 0, 1) := by decide +kernel
theorem dX6_take_246 : decode cX6_take 246 = .ok (.dup, 1) := by decide +kernel
theorem dX6_take_247 : decode cX6_take 247 = .ok (.getfield 86, 3) := by decide +kernel
theorem dX6_take_250 : decode cX6_take 250 = .ok (.iconst 1, 1) := by decide +kernel
theorem dX6_take_251 : decode cX6_take 251 = .ok (.iadd, 1) := by decide +kernel
theorem dX6_take_252 : decode cX6_take 252 = .ok (.putfield 86, 3) := by decide +kernel
theorem dX6_take_255 : decode cX6_take 255 = .ok (.aload_n 0, 1) := by decide +kernel
theorem dX6_take_256 : decode cX6_take 256 = .ok (.dup, 1) := by decide +kernel
theorem dX6_take_257 : decode cX6_take 257 = .ok (.getfield 80, 3) := by decide +kernel
theorem dX6_take_260 : decode cX6_take 260 = .ok (.iconst 1, 1) := by decide +kernel
theorem dX6_take_261 : decode cX6_take 261 = .ok (.iadd, 1) := by decide +kernel
theorem dX6_take_262 : decode cX6_take 262 = .ok (.putfield 80, 3) := by decide +kernel
theorem dX6_take_265 : decode cX6_take 265 = .ok (.aload_n 0, 1) := by decide +kernel
theorem dX6_take_266 : decode cX6_take 266 = .ok (.iconst 0, 1) := by decide +kernel
theorem dX6_take_267 : decode cX6_take 267 = .ok (.putfield 83, 3) := by decide +kernel
theorem dX6_take_270 : decode cX6_take 270 = .ok (.iload_n 2, 1) := by decide +kernel
theorem dX6_take_271 : decode cX6_take 271 = .ok (.i2l, 1) := by decide +kernel
theorem dX6_take_272 : decode cX6_take 272 = .ok (.lconst 0, 1) := by decide +kernel
theorem dX6_take_273 : decode cX6_take 273 = .ok (.ldc2_w 106, 3) := by decide +kernel
theorem dX6_take_276 : decode cX6_take 276 = .ok (.invokestatic 64, 3) := by decide +kernel
theorem dX6_take_279 : decode cX6_take 279 = .ok (.ireturn, 1) := by decide +kernel
theorem dX6_readText_0 : decode cX6_readText 0 = .ok (.aload_n 0, 1) := by decide +kernel
theorem dX6_readText_1 : decode cX6_readText 1 = .ok (.iconst 0, 1) := by decide +kernel
theorem dX6_readText_2 : decode cX6_readText 2 = .ok (.putfield 83, 3) := by decide +kernel
theorem dX6_readText_5 : decode cX6_readText 5 = .ok (.aload_n 0, 1) := by decide +kernel
theorem dX6_readText_6 : decode cX6_readText 6 = .ok (.iconst 0, 1) := by decide +kernel
theorem dX6_readText_7 : decode cX6_readText 7 = .ok (.putfield 89, 3) := by decide +kernel
theorem dX6_readText_10 : decode cX6_readText 10 = .ok (.aload_n 0, 1) := by decide +kernel
theorem dX6_readText_11 : decode cX6_readText 11 = .ok (.iconst 0, 1) := by decide +kernel
theorem dX6_readText_12 : decode cX6_readText 12 = .ok (.putfield 77, 3) := by decide +kernel
theorem dX6_readText_15 : decode cX6_readText 15 = .ok (.aload_n 0, 1) := by decide +kernel
theorem dX6_readText_16 : decode cX6_readText 16 = .ok (.iconst 0, 1) := by decide +kernel
theorem dX6_readText_17 : decode cX6_readText 17 = .ok (.putfield 80, 3) := by decide +kernel
theorem dX6_readText_20 : decode cX6_readText 20 = .ok (.aload_n 0, 1) := by decide +kernel
theorem dX6_readText_21 : decode cX6_readText 21 = .ok (.iconst 0, 1) := by decide +kernel
theorem dX6_readText_22 : decode cX6_readText 22 = .ok (.putfield 86, 3) := by decide +kernel
theorem dX6_readText_25 : decode cX6_readText 25 = .ok (.aload_n 0, 1) := by decide +kernel
theorem dX6_readText_26 : decode cX6_readText 26 = .ok (.getfield 70, 3) := by decide +kernel
theorem dX6_readText_29 : decode cX6_readText 29 = .ok (.ifCond .eq 14, 3) := by decide +kernel
theorem dX6_readText_32 : decode cX6_readText 32 = .ok (.aload_n 0, 1) := by decide +kernel
theorem dX6_readText_33 : decode cX6_readText 33 = .ok (.getfield 7, 3) := by decide +kernel
theorem dX6_readText_36 : decode cX6_readText 36 = .ok (.iconst 0, 1) := by decide +kernel
theorem dX6_readText_37 : decode cX6_readText 37 = .ok (.iaload, 1) := by decide +kernel
theorem dX6_readText_38 : decode cX6_readText 38 = .ok (.bipush 68, 2) := by decide +kernel
theorem dX6_readText_40 : decode cX6_readText 40 = .ok (.if_icmp .eq 5, 3) := by decide +kernel
theorem dX6_readText_43 : decode cX6_readText 43 = .ok (.iconst 0, 1) := by decide +kernel
theorem dX6_readText_44 : decode cX6_readText 44 = .ok (.ireturn, 1) := by decide +kernel
theorem dX6_readText_45 : decode cX6_readText 45 = .ok (.iconst 1, 1) := by decide +kernel
theorem dX6_readText_46 : decode cX6_readText 46 = .ok (.istore_n 1, 1) := by decide +kernel
theorem dX6_readText_47 : decode cX6_readText 47 = .ok (.iload_n 1, 1) := by decide +kernel
theorem dX6_readText_48 : decode cX6_readText 48 = .ok (.aload_n 0, 1) := by decide +kernel
theorem dX6_readText_49 : decode cX6_readText 49 = .ok (.getfield 70, 3) := by decide +kernel
theorem dX6_readText_52 : decode cX6_readText 52 = .ok (.if_icmp .ge 24, 3) := by decide +kernel
theorem dX6_readText_55 : decode cX6_readText 55 = .ok (.aload_n 0, 1) := by decide +kernel
theorem dX6_readText_56 : decode cX6_readText 56 = .ok (.aload_n 0, 1) := by decide +kernel
theorem dX6_readText_57 : decode cX6_readText 57 = .ok (.getfield 7, 3) := by decide +kernel
theorem dX6_readText_60 : decode cX6_readText 60 = .ok (.iload_n 1, 1) := by decide +kernel
theorem dX6_readText_61 : decode cX6_readText 61 = .ok (.iaload, 1) := by decide +kernel
theorem dX6_readText_62 : decode cX6_readText 62 = .ok (.invokevirtual 111, 3) := by decide +kernel
theorem dX6_readText_65 : decode cX6_readText 65 = .ok (.ifCond .ne 5, 3) := by decide +kernel
theorem dX6_readText_68 : decode cX6_readText 68 = .ok (.iload_n 1, 1) := by decide +kernel
theorem dX6_readText_69 : decode cX6_readText 69 = .ok (.ireturn, 1) := by decide +kernel
theorem dX6_readText_70 : decode cX6_readText 70 = .ok (.iinc 1 1, 3) := by decide +kernel
theorem dX6_readText_73 : decode cX6_readText 73 = .ok (.goto (-26), 3) := by decide +kernel
theorem dX6_readText_76 : decode cX6_readText 76 = .ok (.aload_n 0, 1) := by decide +kernel
theorem dX6_readText_77 : decode cX6_readText 77 = .ok (.getfield 83, 3) := by decide +kernel
theorem dX6_readText_80 : decode cX6_readText 80 = .ok (.ifCond .ne 8, 3) := by decide +kernel
theorem dX6_readText_83 : decode cX6_readText 83 = .ok (.bipush (-9), 2) := by decide +kernel
theorem dX6_readText_85 : decode cX6_readText 85 = .ok (.goto 7, 3) := by decide +kernel
theorem dX6_readText_88 : decode cX6_readText 88 = .ok (.aload_n 0, 1) := by decide +kernel
theorem dX6_readText_89 : decode cX6_readText 89 = .ok (.getfield 70, 3) := by decide +kernel
theorem dX6_readText_92 : decode cX6_readText 92 = .ok (.ireturn, 1) := by decide +kernel
theorem dX6_fault_0 : decode cX6_fault 0 = .ok (.aload_n 0, 1) := by decide +kernel
theorem dX6_fault_1 : decode cX6_fault 1 = .ok (.invokevirtual 114, 3) := by decide +kernel
theorem dX6_fault_4 : decode cX6_fault 4 = .ok (.ireturn, 1) := by decide +kernel
theorem dX6_childNames_0 : decode cX6_childNames 0 = .ok (.iconst 0, 1) := by decide +kernel
theorem dX6_childNames_1 : decode cX6_childNames 1 = .ok (.istore_n 2, 1) := by decide +kernel
theorem dX6_childNames_2 : decode cX6_childNames 2 = .ok (.iconst 1, 1) := by decide +kernel
theorem dX6_childNames_3 : decode cX6_childNames 3 = .ok (.istore_n 3, 1) := by decide +kernel
theorem dX6_childNames_4 : decode cX6_childNames 4 = .ok (.iload_n 3, 1) := by decide +kernel
theorem dX6_childNames_5 : decode cX6_childNames 5 = .ok (.aload_n 0, 1) := by decide +kernel
theorem dX6_childNames_6 : decode cX6_childNames 6 = .ok (.bipush 80, 2) := by decide +kernel
theorem dX6_childNames_8 : decode cX6_childNames 8 = .ok (.iaload, 1) := by decide +kernel
theorem dX6_childNames_9 : decode cX6_childNames 9 = .ok (.if_icmp .ge 31, 3) := by decide +kernel
theorem dX6_childNames_12 : decode cX6_childNames 12 = .ok (.iload_n 2, 1) := by decide +kernel
theorem dX6_childNames_13 : decode cX6_childNames 13 = .ok (.aload_n 0, 1) := by decide +kernel
theorem dX6_childNames_14 : decode cX6_childNames 14 = .ok (.bipush 20, 2) := by decide +kernel
theorem dX6_childNames_16 : decode cX6_childNames 16 = .ok (.iload_n 3, 1) := by decide +kernel
theorem dX6_childNames_17 : decode cX6_childNames 17 = .ok (.iadd, 1) := by decide +kernel
theorem dX6_childNames_18 : decode cX6_childNames 18 = .ok (.iaload, 1) := by decide +kernel
theorem dX6_childNames_19 : decode cX6_childNames 19 = .ok (.iload_n 1, 1) := by decide +kernel
theorem dX6_childNames_20 : decode cX6_childNames 20 = .ok (.if_icmp .ne 11, 3) := by decide +kernel
theorem dX6_childNames_23 : decode cX6_childNames 23 = .ok (.iconst 1, 1) := by decide +kernel
theorem dX6_childNames_24 : decode cX6_childNames 24 = .ok (.aload_n 0, 1) := by decide +kernel
theorem dX6_childNames_25 : decode cX6_childNames 25 = .ok (.iload_n 3, 1) := by decide +kernel
theorem dX6_childNames_26 : decode cX6_childNames 26 = .ok (.iaload, 1) := by decide +kernel
theorem dX6_childNames_27 : decode cX6_childNames 27 = .ok (.ishl, 1) := by decide +kernel
theorem dX6_childNames_28 : decode cX6_childNames 28 = .ok (.goto 4, 3) := by decide +kernel
theorem dX6_childNames_31 : decode cX6_childNames 31 = .ok (.iconst 0, 1) := by decide +kernel
theorem dX6_childNames_32 : decode cX6_childNames 32 = .ok (.ior, 1) := by decide +kernel
theorem dX6_childNames_33 : decode cX6_childNames 33 = .ok (.istore_n 2, 1) := by decide +kernel
theorem dX6_childNames_34 : decode cX6_childNames 34 = .ok (.iinc 3 1, 3) := by decide +kernel
theorem dX6_childNames_37 : decode cX6_childNames 37 = .ok (.goto (-33), 3) := by decide +kernel
theorem dX6_childNames_40 : decode cX6_childNames 40 = .ok (.iload_n 2, 1) := by decide +kernel
theorem dX6_childNames_41 : decode cX6_childNames 41 = .ok (.ireturn, 1) := by decide +kernel
theorem dX6_isMet_0 : decode cX6_isMet 0 = .ok (.iload_n 2, 1) := by decide +kernel
theorem dX6_isMet_1 : decode cX6_isMet 1 = .ok (.ifCond .eq 18, 3) := by decide +kernel
theorem dX6_isMet_4 : decode cX6_isMet 4 = .ok (.iload 4, 2) := by decide +kernel
theorem dX6_isMet_6 : decode cX6_isMet 6 = .ok (.ifCond .eq 15, 3) := by decide +kernel
theorem dX6_isMet_9 : decode cX6_isMet 9 = .ok (.aload_n 1, 1) := by decide +kernel
theorem dX6_isMet_10 : decode cX6_isMet 10 = .ok (.bipush 40, 2) := by decide +kernel
theorem dX6_isMet_12 : decode cX6_isMet 12 = .ok (.iload_n 3, 1) := by decide +kernel
theorem dX6_isMet_13 : decode cX6_isMet 13 = .ok (.iadd, 1) := by decide +kernel
theorem dX6_isMet_14 : decode cX6_isMet 14 = .ok (.iaload, 1) := by decide +kernel
theorem dX6_isMet_15 : decode cX6_isMet 15 = .ok (.iconst 1, 1) := by decide +kernel
theorem dX6_isMet_16 : decode cX6_isMet 16 = .ok (.if_icmp .ne 5, 3) := by decide +kernel
theorem dX6_isMet_19 : decode cX6_isMet 19 = .ok (.iconst 1, 1) := by decide +kernel
theorem dX6_isMet_20 : decode cX6_isMet 20 = .ok (.ireturn, 1) := by decide +kernel
theorem dX6_isMet_21 : decode cX6_isMet 21 = .ok (.iload_n 2, 1) := by decide +kernel
theorem dX6_isMet_22 : decode cX6_isMet 22 = .ok (.bipush 6, 2) := by decide +kernel
theorem dX6_isMet_24 : decode cX6_isMet 24 = .ok (.if_icmp .ge 17, 3) := by decide +kernel
theorem dX6_isMet_27 : decode cX6_isMet 27 = .ok (.aload_n 1, 1) := by decide +kernel
theorem dX6_isMet_28 : decode cX6_isMet 28 = .ok (.iload_n 3, 1) := by decide +kernel
theorem dX6_isMet_29 : decode cX6_isMet 29 = .ok (.invokestatic 118, 3) := by decide +kernel
theorem dX6_isMet_32 : decode cX6_isMet 32 = .ok (.iload_n 2, 1) := by decide +kernel
theorem dX6_isMet_33 : decode cX6_isMet 33 = .ok (.iconst 1, 1) := by decide +kernel
theorem dX6_isMet_34 : decode cX6_isMet 34 = .ok (.isub, 1) := by decide +kernel
theorem dX6_isMet_35 : decode cX6_isMet 35 = .ok (.invokestatic 122, 3) := by decide +kernel
theorem dX6_isMet_38 : decode cX6_isMet 38 = .ok (.goto 16, 3) := by decide +kernel
theorem dX6_isMet_41 : decode cX6_isMet 41 = .ok (.aload_n 1, 1) := by decide +kernel
theorem dX6_isMet_42 : decode cX6_isMet 42 = .ok (.bipush 60, 2) := by decide +kernel
theorem dX6_isMet_44 : decode cX6_isMet 44 = .ok (.iload_n 3, 1) := by decide +kernel
theorem dX6_isMet_45 : decode cX6_isMet 45 = .ok (.iadd, 1) := by decide +kernel
theorem dX6_isMet_46 : decode cX6_isMet 46 = .ok (.iaload, 1) := by decide +kernel
theorem dX6_isMet_47 : decode cX6_isMet 47 = .ok (.iload_n 2, 1) := by decide +kernel
theorem dX6_isMet_48 : decode cX6_isMet 48 = .ok (.bipush 6, 2) := by decide +kernel
theorem dX6_isMet_50 : decode cX6_isMet 50 = .ok (.isub, 1) := by decide +kernel
theorem dX6_isMet_51 : decode cX6_isMet 51 = .ok (.invokestatic 122, 3) := by decide +kernel
theorem dX6_isMet_54 : decode cX6_isMet 54 = .ok (.ireturn, 1) := by decide +kernel
theorem dX6_layWay_0 : decode cX6_layWay 0 = .ok (.iconst 0, 1) := by decide +kernel
theorem dX6_layWay_1 : decode cX6_layWay 1 = .ok (.istore_n 3, 1) := by decide +kernel
theorem dX6_layWay_2 : decode cX6_layWay 2 = .ok (.iload_n 2, 1) := by decide +kernel
theorem dX6_layWay_3 : decode cX6_layWay 3 = .ok (.istore 4, 2) := by decide +kernel
theorem dX6_layWay_5 : decode cX6_layWay 5 = .ok (.iload 4, 2) := by decide +kernel
theorem dX6_layWay_7 : decode cX6_layWay 7 = .ok (.bipush (-9), 2) := by decide +kernel
theorem dX6_layWay_9 : decode cX6_layWay 9 = .ok (.if_icmp .eq 18, 3) := by decide +kernel
theorem dX6_layWay_12 : decode cX6_layWay 12 = .ok (.iinc 3 1, 3) := by decide +kernel
theorem dX6_layWay_15 : decode cX6_layWay 15 = .ok (.aload_n 1, 1) := by decide +kernel
theorem dX6_layWay_16 : decode cX6_layWay 16 = .ok (.bipush 20, 2) := by decide +kernel
theorem dX6_layWay_18 : decode cX6_layWay 18 = .ok (.iload 4, 2) := by decide +kernel
theorem dX6_layWay_20 : decode cX6_layWay 20 = .ok (.iadd, 1) := by decide +kernel
theorem dX6_layWay_21 : decode cX6_layWay 21 = .ok (.iaload, 1) := by decide +kernel
theorem dX6_layWay_22 : decode cX6_layWay 22 = .ok (.istore 4, 2) := by decide +kernel
theorem dX6_layWay_24 : decode cX6_layWay 24 = .ok (.goto (-19), 3) := by decide +kernel
theorem dX6_layWay_27 : decode cX6_layWay 27 = .ok (.iload_n 3, 1) := by decide +kernel
theorem dX6_layWay_28 : decode cX6_layWay 28 = .ok (.istore 4, 2) := by decide +kernel
theorem dX6_layWay_30 : decode cX6_layWay 30 = .ok (.iload_n 2, 1) := by decide +kernel
theorem dX6_layWay_31 : decode cX6_layWay 31 = .ok (.istore 5, 2) := by decide +kernel
theorem dX6_layWay_33 : decode cX6_layWay 33 = .ok (.iload 5, 2) := by decide +kernel
theorem dX6_layWay_35 : decode cX6_layWay 35 = .ok (.bipush (-9), 2) := by decide +kernel
theorem dX6_layWay_37 : decode cX6_layWay 37 = .ok (.if_icmp .eq 27, 3) := by decide +kernel
theorem dX6_layWay_40 : decode cX6_layWay 40 = .ok (.iinc 4 (-1), 3) := by decide +kernel
theorem dX6_layWay_43 : decode cX6_layWay 43 = .ok (.aload_n 0, 1) := by decide +kernel
theorem dX6_layWay_44 : decode cX6_layWay 44 = .ok (.getfield 35, 3) := by decide +kernel
theorem dX6_layWay_47 : decode cX6_layWay 47 = .ok (.iload 4, 2) := by decide +kernel
theorem dX6_layWay_49 : decode cX6_layWay 49 = .ok (.iload 5, 2) := by decide +kernel
theorem dX6_layWay_51 : decode cX6_layWay 51 = .ok (.iastore, 1) := by decide +kernel
theorem dX6_layWay_52 : decode cX6_layWay 52 = .ok (.aload_n 1, 1) := by decide +kernel
theorem dX6_layWay_53 : decode cX6_layWay 53 = .ok (.bipush 20, 2) := by decide +kernel
theorem dX6_layWay_55 : decode cX6_layWay 55 = .ok (.iload 5, 2) := by decide +kernel
theorem dX6_layWay_57 : decode cX6_layWay 57 = .ok (.iadd, 1) := by decide +kernel
theorem dX6_layWay_58 : decode cX6_layWay 58 = .ok (.iaload, 1) := by decide +kernel
theorem dX6_layWay_59 : decode cX6_layWay 59 = .ok (.istore 5, 2) := by decide +kernel
theorem dX6_layWay_61 : decode cX6_layWay 61 = .ok (.goto (-28), 3) := by decide +kernel
theorem dX6_layWay_64 : decode cX6_layWay 64 = .ok (.iload_n 3, 1) := by decide +kernel
theorem dX6_layWay_65 : decode cX6_layWay 65 = .ok (.ireturn, 1) := by decide +kernel
theorem dX6_endsAt_0 : decode cX6_endsAt 0 = .ok (.iconst 0, 1) := by decide +kernel
theorem dX6_endsAt_1 : decode cX6_endsAt 1 = .ok (.istore 7, 2) := by decide +kernel
theorem dX6_endsAt_3 : decode cX6_endsAt 3 = .ok (.aload_n 1, 1) := by decide +kernel
theorem dX6_endsAt_4 : decode cX6_endsAt 4 = .ok (.bipush 84, 2) := by decide +kernel
theorem dX6_endsAt_6 : decode cX6_endsAt 6 = .ok (.iload_n 2, 1) := by decide +kernel
theorem dX6_endsAt_7 : decode cX6_endsAt 7 = .ok (.iadd, 1) := by decide +kernel
theorem dX6_endsAt_8 : decode cX6_endsAt 8 = .ok (.iaload, 1) := by decide +kernel
theorem dX6_endsAt_9 : decode cX6_endsAt 9 = .ok (.istore 8, 2) := by decide +kernel
theorem dX6_endsAt_11 : decode cX6_endsAt 11 = .ok (.iconst 0, 1) := by decide +kernel
theorem dX6_endsAt_12 : decode cX6_endsAt 12 = .ok (.istore 9, 2) := by decide +kernel
theorem dX6_endsAt_14 : decode cX6_endsAt 14 = .ok (.iload 9, 2) := by decide +kernel
theorem dX6_endsAt_16 : decode cX6_endsAt 16 = .ok (.iload 8, 2) := by decide +kernel
theorem dX6_endsAt_18 : decode cX6_endsAt 18 = .ok (.if_icmp .ge 197, 3) := by decide +kernel
theorem dX6_endsAt_21 : decode cX6_endsAt 21 = .ok (.aload_n 1, 1) := by decide +kernel
theorem dX6_endsAt_22 : decode cX6_endsAt 22 = .ok (.bipush 89, 2) := by decide +kernel
theorem dX6_endsAt_24 : decode cX6_endsAt 24 = .ok (.iconst 4, 1) := by decide +kernel
theorem dX6_endsAt_25 : decode cX6_endsAt 25 = .ok (.iload_n 2, 1) := by decide +kernel
theorem dX6_endsAt_26 : decode cX6_endsAt 26 = .ok (.imul, 1) := by decide +kernel
theorem dX6_endsAt_27 : decode cX6_endsAt 27 = .ok (.iadd, 1) := by decide +kernel
theorem dX6_endsAt_28 : decode cX6_endsAt 28 = .ok (.iload 9, 2) := by decide +kernel
theorem dX6_endsAt_30 : decode cX6_endsAt 30 = .ok (.iadd, 1) := by decide +kernel
theorem dX6_endsAt_31 : decode cX6_endsAt 31 = .ok (.iaload, 1) := by decide +kernel
theorem dX6_endsAt_32 : decode cX6_endsAt 32 = .ok (.istore 10, 2) := by decide +kernel
theorem dX6_endsAt_34 : decode cX6_endsAt 34 = .ok (.iload 9, 2) := by decide +kernel
theorem dX6_endsAt_36 : decode cX6_endsAt 36 = .ok (.iload 8, 2) := by decide +kernel
theorem dX6_endsAt_38 : decode cX6_endsAt 38 = .ok (.iconst 1, 1) := by decide +kernel
theorem dX6_endsAt_39 : decode cX6_endsAt 39 = .ok (.isub, 1) := by decide +kernel
theorem dX6_endsAt_40 : decode cX6_endsAt 40 = .ok (.if_icmp .ne 19, 3) := by decide +kernel
theorem dX6_endsAt_43 : decode cX6_endsAt 43 = .ok (.aload_n 0, 1) := by decide +kernel
theorem dX6_endsAt_44 : decode cX6_endsAt 44 = .ok (.getfield 56, 3) := by decide +kernel
theorem dX6_endsAt_47 : decode cX6_endsAt 47 = .ok (.bipush (-9), 2) := by decide +kernel
theorem dX6_endsAt_49 : decode cX6_endsAt 49 = .ok (.if_icmp .eq 10, 3) := by decide +kernel
theorem dX6_endsAt_52 : decode cX6_endsAt 52 = .ok (.aload_n 0, 1) := by decide +kernel
theorem dX6_endsAt_53 : decode cX6_endsAt 53 = .ok (.getfield 56, 3) := by decide +kernel
theorem dX6_endsAt_56 : decode cX6_endsAt 56 = .ok (.goto 11, 3) := by decide +kernel
theorem dX6_endsAt_59 : decode cX6_endsAt 59 = .ok (.iload 10, 2) := by decide +kernel
theorem dX6_endsAt_61 : decode cX6_endsAt 61 = .ok (.bipush 100, 2) := by decide +kernel
theorem dX6_endsAt_63 : decode cX6_endsAt 63 = .ok (.idiv, 1) := by decide +kernel
theorem dX6_endsAt_64 : decode cX6_endsAt 64 = .ok (.bipush 10, 2) := by decide +kernel
theorem dX6_endsAt_66 : decode cX6_endsAt 66 = .ok (.irem, 1) := by decide +kernel
theorem dX6_endsAt_67 : decode cX6_endsAt 67 = .ok (.istore 11, 2) := by decide +kernel
theorem dX6_endsAt_69 : decode cX6_endsAt 69 = .ok (.iload 11, 2) := by decide +kernel
theorem dX6_endsAt_71 : decode cX6_endsAt 71 = .ok (.iconst 5, 1) := by decide +kernel
theorem dX6_endsAt_72 : decode cX6_endsAt 72 = .ok (.if_icmp .eq 11, 3) := by decide +kernel
theorem dX6_endsAt_75 : decode cX6_endsAt 75 = .ok (.iload 11, 2) := by decide +kernel
theorem dX6_endsAt_77 : decode cX6_endsAt 77 = .ok (.aload_n 1, 1) := by decide +kernel
theorem dX6_endsAt_78 : decode cX6_endsAt 78 = .ok (.iload_n 3, 1) := by decide +kernel
theorem dX6_endsAt_79 : decode cX6_endsAt 79 = .ok (.iaload, 1) := by decide +kernel
theorem dX6_endsAt_80 : decode cX6_endsAt 80 = .ok (.if_icmp .ne 23, 3) := by decide +kernel
theorem dX6_endsAt_83 : decode cX6_endsAt 83 = .ok (.aload_n 0, 1) := by decide +kernel
theorem dX6_endsAt_84 : decode cX6_endsAt 84 = .ok (.aload_n 1, 1) := by decide +kernel
theorem dX6_endsAt_85 : decode cX6_endsAt 85 = .ok (.iload 10, 2) := by decide +kernel
theorem dX6_endsAt_87 : decode cX6_endsAt 87 = .ok (.bipush 100, 2) := by decide +kernel
theorem dX6_endsAt_89 : decode cX6_endsAt 89 = .ok (.irem, 1) := by decide +kernel
theorem dX6_endsAt_90 : decode cX6_endsAt 90 = .ok (.iload_n 3, 1) := by decide +kernel
theorem dX6_endsAt_91 : decode cX6_endsAt 91 = .ok (.iload 6, 2) := by decide +kernel
theorem dX6_endsAt_93 : decode cX6_endsAt 93 = .ok (.invokevirtual 126, 3) := by decide +kernel
theorem dX6_endsAt_96 : decode cX6_endsAt 96 = .ok (.ifCond .eq 7, 3) := by decide +kernel
theorem dX6_endsAt_99 : decode cX6_endsAt 99 = .ok (.iconst 1, 1) := by decide +kernel
theorem dX6_endsAt_100 : decode cX6_endsAt 100 = .ok (.goto 4, 3) := by decide +kernel
theorem dX6_endsAt_103 : decode cX6_endsAt 103 = .ok (.iconst 0, 1) := by decide +kernel
theorem dX6_endsAt_104 : decode cX6_endsAt 104 = .ok (.istore 12, 2) := by decide +kernel
theorem dX6_endsAt_106 : decode cX6_endsAt 106 = .ok (.iload 9, 2) := by decide +kernel
theorem dX6_endsAt_108 : decode cX6_endsAt 108 = .ok (.ifCond .ne 25, 3) := by decide +kernel
theorem dX6_endsAt_111 : decode cX6_endsAt 111 = .ok (.iload 10, 2) := by decide +kernel
theorem dX6_endsAt_113 : decode cX6_endsAt 113 = .ok (.sipush 1000, 3) := by decide +kernel
theorem dX6_endsAt_116 : decode cX6_endsAt 116 = .ok (.if_icmp .ge 7, 3) := by decide +kernel
theorem dX6_endsAt_119 : decode cX6_endsAt 119 = .ok (.iload_n 3, 1) := by decide +kernel
theorem dX6_endsAt_120 : decode cX6_endsAt 120 = .ok (.ifCond .ne 7, 3) := by decide +kernel
theorem dX6_endsAt_123 : decode cX6_endsAt 123 = .ok (.iconst 1, 1) := by decide +kernel
theorem dX6_endsAt_124 : decode cX6_endsAt 124 = .ok (.goto 4, 3) := by decide +kernel
theorem dX6_endsAt_127 : decode cX6_endsAt 127 = .ok (.iconst 0, 1) := by decide +kernel
theorem dX6_endsAt_128 : decode cX6_endsAt 128 = .ok (.istore 13, 2) := by decide +kernel
theorem dX6_endsAt_130 : decode cX6_endsAt 130 = .ok (.goto 56, 3) := by decide +kernel
theorem dX6_endsAt_133 : decode cX6_endsAt 133 = .ok (.iload 10, 2) := by decide +kernel
theorem dX6_endsAt_135 : decode cX6_endsAt 135 = .ok (.sipush 1000, 3) := by decide +kernel
theorem dX6_endsAt_138 : decode cX6_endsAt 138 = .ok (.if_icmp .lt 17, 3) := by decide +kernel
theorem dX6_endsAt_141 : decode cX6_endsAt 141 = .ok (.iload 5, 2) := by decide +kernel
theorem dX6_endsAt_143 : decode cX6_endsAt 143 = .ok (.iload 9, 2) := by decide +kernel
theorem dX6_endsAt_145 : decode cX6_endsAt 145 = .ok (.iconst 1, 1) := by decide +kernel
theorem dX6_endsAt_146 : decode cX6_endsAt 146 = .ok (.isub, 1) := by decide +kernel
theorem dX6_endsAt_147 : decode cX6_endsAt 147 = .ok (.invokestatic 122, 3) := by decide +kernel
theorem dX6_endsAt_150 : decode cX6_endsAt 150 = .ok (.istore 13, 2) := by decide +kernel
theorem dX6_endsAt_152 : decode cX6_endsAt 152 = .ok (.goto 34, 3) := by decide +kernel
theorem dX6_endsAt_155 : decode cX6_endsAt 155 = .ok (.iload 4, 2) := by decide +kernel
theorem dX6_endsAt_157 : decode cX6_endsAt 157 = .ok (.ifCond .le 26, 3) := by decide +kernel
theorem dX6_endsAt_160 : decode cX6_endsAt 160 = .ok (.aload_n 0, 1) := by decide +kernel
theorem dX6_endsAt_161 : decode cX6_endsAt 161 = .ok (.getfield 38, 3) := by decide +kernel
theorem dX6_endsAt_164 : decode cX6_endsAt 164 = .ok (.iload 4, 2) := by decide +kernel
theorem dX6_endsAt_166 : decode cX6_endsAt 166 = .ok (.iconst 1, 1) := by decide +kernel
theorem dX6_endsAt_167 : decode cX6_endsAt 167 = .ok (.isub, 1) := by decide +kernel
theorem dX6_endsAt_168 : decode cX6_endsAt 168 = .ok (.iaload, 1) := by decide +kernel
theorem dX6_endsAt_169 : decode cX6_endsAt 169 = .ok (.iload 9, 2) := by decide +kernel
theorem dX6_endsAt_171 : decode cX6_endsAt 171 = .ok (.iconst 1, 1) := by decide +kernel
theorem dX6_endsAt_172 : decode cX6_endsAt 172 = .ok (.isub, 1) := by decide +kernel
theorem dX6_endsAt_173 : decode cX6_endsAt 173 = .ok (.invokestatic 122, 3) := by decide +kernel
theorem dX6_endsAt_176 : decode cX6_endsAt 176 = .ok (.ifCond .eq 7, 3) := by decide +kernel
theorem dX6_endsAt_179 : decode cX6_endsAt 179 = .ok (.iconst 1, 1) := by decide +kernel
theorem dX6_endsAt_180 : decode cX6_endsAt 180 = .ok (.goto 4, 3) := by decide +kernel
theorem dX6_endsAt_183 : decode cX6_endsAt 183 = .ok (.iconst 0, 1) := by decide +kernel
theorem dX6_endsAt_184 : decode cX6_endsAt 184 = .ok (.istore 13, 2) := by decide +kernel
theorem dX6_endsAt_186 : decode cX6_endsAt 186 = .ok (.iload 7, 2) := by decide +kernel
theorem dX6_endsAt_188 : decode cX6_endsAt 188 = .ok (.iload 12, 2) := by decide +kernel
theorem dX6_endsAt_190 : decode cX6_endsAt 190 = .ok (.ifCond .eq 15, 3) := by decide +kernel
theorem dX6_endsAt_193 : decode cX6_endsAt 193 = .ok (.iload 13, 2) := by decide +kernel
theorem dX6_endsAt_195 : decode cX6_endsAt 195 = .ok (.ifCond .eq 10, 3) := by decide +kernel
theorem dX6_endsAt_198 : decode cX6_endsAt 198 = .ok (.iconst 1, 1) := by decide +kernel
theorem dX6_endsAt_199 : decode cX6_endsAt 199 = .ok (.iload 9, 2) := by decide +kernel
theorem dX6_endsAt_201 : decode cX6_endsAt 201 = .ok (.ishl, 1) := by decide +kernel
theorem dX6_endsAt_202 : decode cX6_endsAt 202 = .ok (.goto 4, 3) := by decide +kernel
theorem dX6_endsAt_205 : decode cX6_endsAt 205 = .ok (.iconst 0, 1) := by decide +kernel
theorem dX6_endsAt_206 : decode cX6_endsAt 206 = .ok (.ior, 1) := by decide +kernel
theorem dX6_endsAt_207 : decode cX6_endsAt 207 = .ok (.istore 7, 2) := by decide +kernel
theorem dX6_endsAt_209 : decode cX6_endsAt 209 = .ok (.iinc 9 1, 3) := by decide +kernel
theorem dX6_endsAt_212 : decode cX6_endsAt 212 = .ok (.goto (-198), 3) := by decide +kernel
theorem dX6_endsAt_215 : decode cX6_endsAt 215 = .ok (.iload 7, 2) := by decide +kernel
theorem dX6_endsAt_217 : decode cX6_endsAt 217 = .ok (.ireturn, 1) := by decide +kernel
theorem dX6_endsOf_0 : decode cX6_endsOf 0 = .ok (.aload_n 0, 1) := by decide +kernel
theorem dX6_endsOf_1 : decode cX6_endsOf 1 = .ok (.aload_n 1, 1) := by decide +kernel
theorem dX6_endsOf_2 : decode cX6_endsOf 2 = .ok (.iload_n 3, 1) := by decide +kernel
theorem dX6_endsOf_3 : decode cX6_endsOf 3 = .ok (.invokevirtual 130, 3) := by decide +kernel
theorem dX6_endsOf_6 : decode cX6_endsOf 6 = .ok (.istore 5, 2) := by decide +kernel
theorem dX6_endsOf_8 : decode cX6_endsOf 8 = .ok (.iconst 0, 1) := by decide +kernel
theorem dX6_endsOf_9 : decode cX6_endsOf 9 = .ok (.istore 6, 2) := by decide +kernel
theorem dX6_endsOf_11 : decode cX6_endsOf 11 = .ok (.iconst 0, 1) := by decide +kernel
theorem dX6_endsOf_12 : decode cX6_endsOf 12 = .ok (.istore 7, 2) := by decide +kernel
theorem dX6_endsOf_14 : decode cX6_endsOf 14 = .ok (.iload 7, 2) := by decide +kernel
theorem dX6_endsOf_16 : decode cX6_endsOf 16 = .ok (.iload 5, 2) := by decide +kernel
theorem dX6_endsOf_18 : decode cX6_endsOf 18 = .ok (.if_icmp .ge 47, 3) := by decide +kernel
theorem dX6_endsOf_21 : decode cX6_endsOf 21 = .ok (.aload_n 0, 1) := by decide +kernel
theorem dX6_endsOf_22 : decode cX6_endsOf 22 = .ok (.getfield 38, 3) := by decide +kernel
theorem dX6_endsOf_25 : decode cX6_endsOf 25 = .ok (.iload 7, 2) := by decide +kernel
theorem dX6_endsOf_27 : decode cX6_endsOf 27 = .ok (.aload_n 0, 1) := by decide +kernel
theorem dX6_endsOf_28 : decode cX6_endsOf 28 = .ok (.aload_n 1, 1) := by decide +kernel
theorem dX6_endsOf_29 : decode cX6_endsOf 29 = .ok (.iload_n 2, 1) := by decide +kernel
theorem dX6_endsOf_30 : decode cX6_endsOf 30 = .ok (.aload_n 0, 1) := by decide +kernel
theorem dX6_endsOf_31 : decode cX6_endsOf 31 = .ok (.getfield 35, 3) := by decide +kernel
theorem dX6_endsOf_34 : decode cX6_endsOf 34 = .ok (.iload 7, 2) := by decide +kernel
theorem dX6_endsOf_36 : decode cX6_endsOf 36 = .ok (.iaload, 1) := by decide +kernel
theorem dX6_endsOf_37 : decode cX6_endsOf 37 = .ok (.iload 7, 2) := by decide +kernel
theorem dX6_endsOf_39 : decode cX6_endsOf 39 = .ok (.iload 6, 2) := by decide +kernel
theorem dX6_endsOf_41 : decode cX6_endsOf 41 = .ok (.iload 4, 2) := by decide +kernel
theorem dX6_endsOf_43 : decode cX6_endsOf 43 = .ok (.invokevirtual 133, 3) := by decide +kernel
theorem dX6_endsOf_46 : decode cX6_endsOf 46 = .ok (.iastore, 1) := by decide +kernel
theorem dX6_endsOf_47 : decode cX6_endsOf 47 = .ok (.iload 6, 2) := by decide +kernel
theorem dX6_endsOf_49 : decode cX6_endsOf 49 = .ok (.aload_n 0, 1) := by decide +kernel
theorem dX6_endsOf_50 : decode cX6_endsOf 50 = .ok (.getfield 38, 3) := by decide +kernel
theorem dX6_endsOf_53 : decode cX6_endsOf 53 = .ok (.iload 7, 2) := by decide +kernel
theorem dX6_endsOf_55 : decode cX6_endsOf 55 = .ok (.iaload, 1) := by decide +kernel
theorem dX6_endsOf_56 : decode cX6_endsOf 56 = .ok (.ior, 1) := by decide +kernel
theorem dX6_endsOf_57 : decode cX6_endsOf 57 = .ok (.istore 6, 2) := by decide +kernel
theorem dX6_endsOf_59 : decode cX6_endsOf 59 = .ok (.iinc 7 1, 3) := by decide +kernel
theorem dX6_endsOf_62 : decode cX6_endsOf 62 = .ok (.goto (-48), 3) := by decide +kernel
theorem dX6_endsOf_65 : decode cX6_endsOf 65 = .ok (.aload_n 0, 1) := by decide +kernel
theorem dX6_endsOf_66 : decode cX6_endsOf 66 = .ok (.getfield 38, 3) := by decide +kernel
theorem dX6_endsOf_69 : decode cX6_endsOf 69 = .ok (.iload 5, 2) := by decide +kernel
theorem dX6_endsOf_71 : decode cX6_endsOf 71 = .ok (.iconst 1, 1) := by decide +kernel
theorem dX6_endsOf_72 : decode cX6_endsOf 72 = .ok (.isub, 1) := by decide +kernel
theorem dX6_endsOf_73 : decode cX6_endsOf 73 = .ok (.iaload, 1) := by decide +kernel
theorem dX6_endsOf_74 : decode cX6_endsOf 74 = .ok (.ireturn, 1) := by decide +kernel
theorem dX6_endsAll_0 : decode cX6_endsAll 0 = .ok (.aload_n 0, 1) := by decide +kernel
theorem dX6_endsAll_1 : decode cX6_endsAll 1 = .ok (.aload_n 1, 1) := by decide +kernel
theorem dX6_endsAll_2 : decode cX6_endsAll 2 = .ok (.iload_n 2, 1) := by decide +kernel
theorem dX6_endsAll_3 : decode cX6_endsAll 3 = .ok (.iload_n 3, 1) := by decide +kernel
theorem dX6_endsAll_4 : decode cX6_endsAll 4 = .ok (.iload 4, 2) := by decide +kernel
theorem dX6_endsAll_6 : decode cX6_endsAll 6 = .ok (.invokevirtual 137, 3) := by decide +kernel
theorem dX6_endsAll_9 : decode cX6_endsAll 9 = .ok (.aload_n 1, 1) := by decide +kernel
theorem dX6_endsAll_10 : decode cX6_endsAll 10 = .ok (.bipush 84, 2) := by decide +kernel
theorem dX6_endsAll_12 : decode cX6_endsAll 12 = .ok (.iload_n 2, 1) := by decide +kernel
theorem dX6_endsAll_13 : decode cX6_endsAll 13 = .ok (.iadd, 1) := by decide +kernel
theorem dX6_endsAll_14 : decode cX6_endsAll 14 = .ok (.iaload, 1) := by decide +kernel
theorem dX6_endsAll_15 : decode cX6_endsAll 15 = .ok (.iconst 1, 1) := by decide +kernel
theorem dX6_endsAll_16 : decode cX6_endsAll 16 = .ok (.isub, 1) := by decide +kernel
theorem dX6_endsAll_17 : decode cX6_endsAll 17 = .ok (.invokestatic 122, 3) := by decide +kernel
theorem dX6_endsAll_20 : decode cX6_endsAll 20 = .ok (.ireturn, 1) := by decide +kernel
theorem dX6_answersOf_0 : decode cX6_answersOf 0 = .ok (.iconst 0, 1) := by decide +kernel
theorem dX6_answersOf_1 : decode cX6_answersOf 1 = .ok (.istore_n 3, 1) := by decide +kernel
theorem dX6_answersOf_2 : decode cX6_answersOf 2 = .ok (.iconst 0, 1) := by decide +kernel
theorem dX6_answersOf_3 : decode cX6_answersOf 3 = .ok (.istore 4, 2) := by decide +kernel
theorem dX6_answersOf_5 : decode cX6_answersOf 5 = .ok (.iload 4, 2) := by decide +kernel
theorem dX6_answersOf_7 : decode cX6_answersOf 7 = .ok (.aload_n 1, 1) := by decide +kernel
theorem dX6_answersOf_8 : decode cX6_answersOf 8 = .ok (.bipush 80, 2) := by decide +kernel
theorem dX6_answersOf_10 : decode cX6_answersOf 10 = .ok (.iaload, 1) := by decide +kernel
theorem dX6_answersOf_11 : decode cX6_answersOf 11 = .ok (.if_icmp .ge 32, 3) := by decide +kernel
theorem dX6_answersOf_14 : decode cX6_answersOf 14 = .ok (.iload_n 3, 1) := by decide +kernel
theorem dX6_answersOf_15 : decode cX6_answersOf 15 = .ok (.aload_n 0, 1) := by decide +kernel
theorem dX6_answersOf_16 : decode cX6_answersOf 16 = .ok (.aload_n 1, 1) := by decide +kernel
theorem dX6_answersOf_17 : decode cX6_answersOf 17 = .ok (.iload_n 2, 1) := by decide +kernel
theorem dX6_answersOf_18 : decode cX6_answersOf 18 = .ok (.iload 4, 2) := by decide +kernel
theorem dX6_answersOf_20 : decode cX6_answersOf 20 = .ok (.iconst 0, 1) := by decide +kernel
theorem dX6_answersOf_21 : decode cX6_answersOf 21 = .ok (.invokevirtual 141, 3) := by decide +kernel
theorem dX6_answersOf_24 : decode cX6_answersOf 24 = .ok (.ifCond .eq 10, 3) := by decide +kernel
theorem dX6_answersOf_27 : decode cX6_answersOf 27 = .ok (.iconst 1, 1) := by decide +kernel
theorem dX6_answersOf_28 : decode cX6_answersOf 28 = .ok (.iload 4, 2) := by decide +kernel
theorem dX6_answersOf_30 : decode cX6_answersOf 30 = .ok (.ishl, 1) := by decide +kernel
theorem dX6_answersOf_31 : decode cX6_answersOf 31 = .ok (.goto 4, 3) := by decide +kernel
theorem dX6_answersOf_34 : decode cX6_answersOf 34 = .ok (.iconst 0, 1) := by decide +kernel
theorem dX6_answersOf_35 : decode cX6_answersOf 35 = .ok (.ior, 1) := by decide +kernel
theorem dX6_answersOf_36 : decode cX6_answersOf 36 = .ok (.istore_n 3, 1) := by decide +kernel
theorem dX6_answersOf_37 : decode cX6_answersOf 37 = .ok (.iinc 4 1, 3) := by decide +kernel
theorem dX6_answersOf_40 : decode cX6_answersOf 40 = .ok (.goto (-35), 3) := by decide +kernel
theorem dX6_answersOf_43 : decode cX6_answersOf 43 = .ok (.iload_n 3, 1) := by decide +kernel
theorem dX6_answersOf_44 : decode cX6_answersOf 44 = .ok (.ireturn, 1) := by decide +kernel
theorem dX6_doubtsOf_0 : decode cX6_doubtsOf 0 = .ok (.iconst 0, 1) := by decide +kernel
theorem dX6_doubtsOf_1 : decode cX6_doubtsOf 1 = .ok (.istore_n 3, 1) := by decide +kernel
theorem dX6_doubtsOf_2 : decode cX6_doubtsOf 2 = .ok (.iconst 0, 1) := by decide +kernel
theorem dX6_doubtsOf_3 : decode cX6_doubtsOf 3 = .ok (.istore 4, 2) := by decide +kernel
theorem dX6_doubtsOf_5 : decode cX6_doubtsOf 5 = .ok (.iload 4, 2) := by decide +kernel
theorem dX6_doubtsOf_7 : decode cX6_doubtsOf 7 = .ok (.aload_n 1, 1) := by decide +kernel
theorem dX6_doubtsOf_8 : decode cX6_doubtsOf 8 = .ok (.bipush 80, 2) := by decide +kernel
theorem dX6_doubtsOf_10 : decode cX6_doubtsOf 10 = .ok (.iaload, 1) := by decide +kernel
theorem dX6_doubtsOf_11 : decode cX6_doubtsOf 11 = .ok (.if_icmp .ge 44, 3) := by decide +kernel
theorem dX6_doubtsOf_14 : decode cX6_doubtsOf 14 = .ok (.iload_n 3, 1) := by decide +kernel
theorem dX6_doubtsOf_15 : decode cX6_doubtsOf 15 = .ok (.aload_n 0, 1) := by decide +kernel
theorem dX6_doubtsOf_16 : decode cX6_doubtsOf 16 = .ok (.aload_n 1, 1) := by decide +kernel
theorem dX6_doubtsOf_17 : decode cX6_doubtsOf 17 = .ok (.iload_n 2, 1) := by decide +kernel
theorem dX6_doubtsOf_18 : decode cX6_doubtsOf 18 = .ok (.iload 4, 2) := by decide +kernel
theorem dX6_doubtsOf_20 : decode cX6_doubtsOf 20 = .ok (.iconst 1, 1) := by decide +kernel
theorem dX6_doubtsOf_21 : decode cX6_doubtsOf 21 = .ok (.invokevirtual 141, 3) := by decide +kernel
theorem dX6_doubtsOf_24 : decode cX6_doubtsOf 24 = .ok (.ifCond .eq 22, 3) := by decide +kernel
theorem dX6_doubtsOf_27 : decode cX6_doubtsOf 27 = .ok (.aload_n 0, 1) := by decide +kernel
theorem dX6_doubtsOf_28 : decode cX6_doubtsOf 28 = .ok (.aload_n 1, 1) := by decide +kernel
theorem dX6_doubtsOf_29 : decode cX6_doubtsOf 29 = .ok (.iload_n 2, 1) := by decide +kernel
theorem dX6_doubtsOf_30 : decode cX6_doubtsOf 30 = .ok (.iload 4, 2) := by decide +kernel
theorem dX6_doubtsOf_32 : decode cX6_doubtsOf 32 = .ok (.iconst 0, 1) := by decide +kernel
theorem dX6_doubtsOf_33 : decode cX6_doubtsOf 33 = .ok (.invokevirtual 141, 3) := by decide +kernel
theorem dX6_doubtsOf_36 : decode cX6_doubtsOf 36 = .ok (.ifCond .ne 10, 3) := by decide +kernel
theorem dX6_doubtsOf_39 : decode cX6_doubtsOf 39 = .ok (.iconst 1, 1) := by decide +kernel
theorem dX6_doubtsOf_40 : decode cX6_doubtsOf 40 = .ok (.iload 4, 2) := by decide +kernel
theorem dX6_doubtsOf_42 : decode cX6_doubtsOf 42 = .ok (.ishl, 1) := by decide +kernel
theorem dX6_doubtsOf_43 : decode cX6_doubtsOf 43 = .ok (.goto 4, 3) := by decide +kernel
theorem dX6_doubtsOf_46 : decode cX6_doubtsOf 46 = .ok (.iconst 0, 1) := by decide +kernel
theorem dX6_doubtsOf_47 : decode cX6_doubtsOf 47 = .ok (.ior, 1) := by decide +kernel
theorem dX6_doubtsOf_48 : decode cX6_doubtsOf 48 = .ok (.istore_n 3, 1) := by decide +kernel
theorem dX6_doubtsOf_49 : decode cX6_doubtsOf 49 = .ok (.iinc 4 1, 3) := by decide +kernel
theorem dX6_doubtsOf_52 : decode cX6_doubtsOf 52 = .ok (.goto (-47), 3) := by decide +kernel
theorem dX6_doubtsOf_55 : decode cX6_doubtsOf 55 = .ok (.iload_n 3, 1) := by decide +kernel
theorem dX6_doubtsOf_56 : decode cX6_doubtsOf 56 = .ok (.ireturn, 1) := by decide +kernel
theorem dX6_outOf_0 : decode cX6_outOf 0 = .ok (.aload_n 0, 1) := by decide +kernel
theorem dX6_outOf_1 : decode cX6_outOf 1 = .ok (.aload_n 1, 1) := by decide +kernel
theorem dX6_outOf_2 : decode cX6_outOf 2 = .ok (.iload_n 2, 1) := by decide +kernel
theorem dX6_outOf_3 : decode cX6_outOf 3 = .ok (.invokevirtual 144, 3) := by decide +kernel
theorem dX6_outOf_6 : decode cX6_outOf 6 = .ok (.istore_n 3, 1) := by decide +kernel
theorem dX6_outOf_7 : decode cX6_outOf 7 = .ok (.aload_n 0, 1) := by decide +kernel
theorem dX6_outOf_8 : decode cX6_outOf 8 = .ok (.aload_n 1, 1) := by decide +kernel
theorem dX6_outOf_9 : decode cX6_outOf 9 = .ok (.iload_n 2, 1) := by decide +kernel
theorem dX6_outOf_10 : decode cX6_outOf 10 = .ok (.invokevirtual 147, 3) := by decide +kernel
theorem dX6_outOf_13 : decode cX6_outOf 13 = .ok (.istore 4, 2) := by decide +kernel
theorem dX6_outOf_15 : decode cX6_outOf 15 = .ok (.iconst 0, 1) := by decide +kernel
theorem dX6_outOf_16 : decode cX6_outOf 16 = .ok (.istore 5, 2) := by decide +kernel
theorem dX6_outOf_18 : decode cX6_outOf 18 = .ok (.iconst 1, 1) := by decide +kernel
theorem dX6_outOf_19 : decode cX6_outOf 19 = .ok (.istore 6, 2) := by decide +kernel
theorem dX6_outOf_21 : decode cX6_outOf 21 = .ok (.iconst 0, 1) := by decide +kernel
theorem dX6_outOf_22 : decode cX6_outOf 22 = .ok (.istore 7, 2) := by decide +kernel
theorem dX6_outOf_24 : decode cX6_outOf 24 = .ok (.iload 7, 2) := by decide +kernel
theorem dX6_outOf_26 : decode cX6_outOf 26 = .ok (.aload_n 1, 1) := by decide +kernel
theorem dX6_outOf_27 : decode cX6_outOf 27 = .ok (.bipush 80, 2) := by decide +kernel
theorem dX6_outOf_29 : decode cX6_outOf 29 = .ok (.iaload, 1) := by decide +kernel
theorem dX6_outOf_30 : decode cX6_outOf 30 = .ok (.if_icmp .ge 58, 3) := by decide +kernel
theorem dX6_outOf_33 : decode cX6_outOf 33 = .ok (.iload 6, 2) := by decide +kernel
theorem dX6_outOf_35 : decode cX6_outOf 35 = .ok (.ifCond .eq 17, 3) := by decide +kernel
theorem dX6_outOf_38 : decode cX6_outOf 38 = .ok (.iload 4, 2) := by decide +kernel
theorem dX6_outOf_40 : decode cX6_outOf 40 = .ok (.iload 7, 2) := by decide +kernel
theorem dX6_outOf_42 : decode cX6_outOf 42 = .ok (.invokestatic 122, 3) := by decide +kernel
theorem dX6_outOf_45 : decode cX6_outOf 45 = .ok (.ifCond .ne 7, 3) := by decide +kernel
theorem dX6_outOf_48 : decode cX6_outOf 48 = .ok (.iconst 1, 1) := by decide +kernel
theorem dX6_outOf_49 : decode cX6_outOf 49 = .ok (.goto 4, 3) := by decide +kernel
theorem dX6_outOf_52 : decode cX6_outOf 52 = .ok (.iconst 0, 1) := by decide +kernel
theorem dX6_outOf_53 : decode cX6_outOf 53 = .ok (.istore 6, 2) := by decide +kernel
theorem dX6_outOf_55 : decode cX6_outOf 55 = .ok (.iload 5, 2) := by decide +kernel
theorem dX6_outOf_57 : decode cX6_outOf 57 = .ok (.iload 6, 2) := by decide +kernel
theorem dX6_outOf_59 : decode cX6_outOf 59 = .ok (.ifCond .eq 19, 3) := by decide +kernel
theorem dX6_outOf_62 : decode cX6_outOf 62 = .ok (.iload_n 3, 1) := by decide +kernel
theorem dX6_outOf_63 : decode cX6_outOf 63 = .ok (.iload 7, 2) := by decide +kernel
theorem dX6_outOf_65 : decode cX6_outOf 65 = .ok (.invokestatic 122, 3) := by decide +kernel
theorem dX6_outOf_68 : decode cX6_outOf 68 = .ok (.ifCond .eq 10, 3) := by decide +kernel
theorem dX6_outOf_71 : decode cX6_outOf 71 = .ok (.iconst 1, 1) := by decide +kernel
theorem dX6_outOf_72 : decode cX6_outOf 72 = .ok (.iload 7, 2) := by decide +kernel
theorem dX6_outOf_74 : decode cX6_outOf 74 = .ok (.ishl, 1) := by decide +kernel
theorem dX6_outOf_75 : decode cX6_outOf 75 = .ok (.goto 4, 3) := by decide +kernel
theorem dX6_outOf_78 : decode cX6_outOf 78 = .ok (.iconst 0, 1) := by decide +kernel
theorem dX6_outOf_79 : decode cX6_outOf 79 = .ok (.ior, 1) := by decide +kernel
theorem dX6_outOf_80 : decode cX6_outOf 80 = .ok (.istore 5, 2) := by decide +kernel
theorem dX6_outOf_82 : decode cX6_outOf 82 = .ok (.iinc 7 1, 3) := by decide +kernel
theorem dX6_outOf_85 : decode cX6_outOf 85 = .ok (.goto (-61), 3) := by decide +kernel
theorem dX6_outOf_88 : decode cX6_outOf 88 = .ok (.iload 5, 2) := by decide +kernel
theorem dX6_outOf_90 : decode cX6_outOf 90 = .ok (.ireturn, 1) := by decide +kernel
theorem dX6_heldOf_0 : decode cX6_heldOf 0 = .ok (.aload_n 0, 1) := by decide +kernel
theorem dX6_heldOf_1 : decode cX6_heldOf 1 = .ok (.aload_n 1, 1) := by decide +kernel
theorem dX6_heldOf_2 : decode cX6_heldOf 2 = .ok (.iload_n 2, 1) := by decide +kernel
theorem dX6_heldOf_3 : decode cX6_heldOf 3 = .ok (.invokevirtual 144, 3) := by decide +kernel
theorem dX6_heldOf_6 : decode cX6_heldOf 6 = .ok (.aload_n 0, 1) := by decide +kernel
theorem dX6_heldOf_7 : decode cX6_heldOf 7 = .ok (.aload_n 1, 1) := by decide +kernel
theorem dX6_heldOf_8 : decode cX6_heldOf 8 = .ok (.iload_n 2, 1) := by decide +kernel
theorem dX6_heldOf_9 : decode cX6_heldOf 9 = .ok (.invokevirtual 150, 3) := by decide +kernel
theorem dX6_heldOf_12 : decode cX6_heldOf 12 = .ok (.iconst (-1), 1) := by decide +kernel
theorem dX6_heldOf_13 : decode cX6_heldOf 13 = .ok (.ixor, 1) := by decide +kernel
theorem dX6_heldOf_14 : decode cX6_heldOf 14 = .ok (.iand, 1) := by decide +kernel
theorem dX6_heldOf_15 : decode cX6_heldOf 15 = .ok (.invokestatic 153, 3) := by decide +kernel
theorem dX6_heldOf_18 : decode cX6_heldOf 18 = .ok (.aload_n 0, 1) := by decide +kernel
theorem dX6_heldOf_19 : decode cX6_heldOf 19 = .ok (.aload_n 1, 1) := by decide +kernel
theorem dX6_heldOf_20 : decode cX6_heldOf 20 = .ok (.iload_n 2, 1) := by decide +kernel
theorem dX6_heldOf_21 : decode cX6_heldOf 21 = .ok (.invokevirtual 147, 3) := by decide +kernel
theorem dX6_heldOf_24 : decode cX6_heldOf 24 = .ok (.invokestatic 153, 3) := by decide +kernel
theorem dX6_heldOf_27 : decode cX6_heldOf 27 = .ok (.iadd, 1) := by decide +kernel
theorem dX6_heldOf_28 : decode cX6_heldOf 28 = .ok (.ireturn, 1) := by decide +kernel
theorem dX6_noteOut_0 : decode cX6_noteOut 0 = .ok (.aload_n 0, 1) := by decide +kernel
theorem dX6_noteOut_1 : decode cX6_noteOut 1 = .ok (.aload_n 1, 1) := by decide +kernel
theorem dX6_noteOut_2 : decode cX6_noteOut 2 = .ok (.iload_n 2, 1) := by decide +kernel
theorem dX6_noteOut_3 : decode cX6_noteOut 3 = .ok (.invokevirtual 150, 3) := by decide +kernel
theorem dX6_noteOut_6 : decode cX6_noteOut 6 = .ok (.istore_n 3, 1) := by decide +kernel
theorem dX6_noteOut_7 : decode cX6_noteOut 7 = .ok (.iconst 0, 1) := by decide +kernel
theorem dX6_noteOut_8 : decode cX6_noteOut 8 = .ok (.istore 4, 2) := by decide +kernel
theorem dX6_noteOut_10 : decode cX6_noteOut 10 = .ok (.iconst 0, 1) := by decide +kernel
theorem dX6_noteOut_11 : decode cX6_noteOut 11 = .ok (.istore 5, 2) := by decide +kernel
theorem dX6_noteOut_13 : decode cX6_noteOut 13 = .ok (.iload 5, 2) := by decide +kernel
theorem dX6_noteOut_15 : decode cX6_noteOut 15 = .ok (.bipush 20, 2) := by decide +kernel
theorem dX6_noteOut_17 : decode cX6_noteOut 17 = .ok (.if_icmp .ge 54, 3) := by decide +kernel
theorem dX6_noteOut_20 : decode cX6_noteOut 20 = .ok (.iload_n 3, 1) := by decide +kernel
theorem dX6_noteOut_21 : decode cX6_noteOut 21 = .ok (.iload 5, 2) := by decide +kernel
theorem dX6_noteOut_23 : decode cX6_noteOut 23 = .ok (.invokestatic 122, 3) := by decide +kernel
theorem dX6_noteOut_26 : decode cX6_noteOut 26 = .ok (.ifCond .eq 39, 3) := by decide +kernel
theorem dX6_noteOut_29 : decode cX6_noteOut 29 = .ok (.aload_n 1, 1) := by decide +kernel
theorem dX6_noteOut_30 : decode cX6_noteOut 30 = .ok (.bipush 114, 2) := by decide +kernel
theorem dX6_noteOut_32 : decode cX6_noteOut 32 = .ok (.bipush 20, 2) := by decide +kernel
theorem dX6_noteOut_34 : decode cX6_noteOut 34 = .ok (.iload_n 2, 1) := by decide +kernel
theorem dX6_noteOut_35 : decode cX6_noteOut 35 = .ok (.imul, 1) := by decide +kernel
theorem dX6_noteOut_36 : decode cX6_noteOut 36 = .ok (.iadd, 1) := by decide +kernel
theorem dX6_noteOut_37 : decode cX6_noteOut 37 = .ok (.iload 5, 2) := by decide +kernel
theorem dX6_noteOut_39 : decode cX6_noteOut 39 = .ok (.iadd, 1) := by decide +kernel
theorem dX6_noteOut_40 : decode cX6_noteOut 40 = .ok (.iaload, 1) := by decide +kernel
theorem dX6_noteOut_41 : decode cX6_noteOut 41 = .ok (.bipush (-9), 2) := by decide +kernel
theorem dX6_noteOut_43 : decode cX6_noteOut 43 = .ok (.if_icmp .ne 22, 3) := by decide +kernel
theorem dX6_noteOut_46 : decode cX6_noteOut 46 = .ok (.aload_n 1, 1) := by decide +kernel
theorem dX6_noteOut_47 : decode cX6_noteOut 47 = .ok (.bipush 114, 2) := by decide +kernel
theorem dX6_noteOut_49 : decode cX6_noteOut 49 = .ok (.bipush 20, 2) := by decide +kernel
theorem dX6_noteOut_51 : decode cX6_noteOut 51 = .ok (.iload_n 2, 1) := by decide +kernel
theorem dX6_noteOut_52 : decode cX6_noteOut 52 = .ok (.imul, 1) := by decide +kernel
theorem dX6_noteOut_53 : decode cX6_noteOut 53 = .ok (.iadd, 1) := by decide +kernel
theorem dX6_noteOut_54 : decode cX6_noteOut 54 = .ok (.iload 5, 2) := by decide +kernel
theorem dX6_noteOut_56 : decode cX6_noteOut 56 = .ok (.iadd, 1) := by decide +kernel
theorem dX6_noteOut_57 : decode cX6_noteOut 57 = .ok (.aload_n 1, 1) := by decide +kernel
theorem dX6_noteOut_58 : decode cX6_noteOut 58 = .ok (.bipush 82, 2) := by decide +kernel
theorem dX6_noteOut_60 : decode cX6_noteOut 60 = .ok (.iaload, 1) := by decide +kernel
theorem dX6_noteOut_61 : decode cX6_noteOut 61 = .ok (.iastore, 1) := by decide +kernel
theorem dX6_noteOut_62 : decode cX6_noteOut 62 = .ok (.iinc 4 1, 3) := by decide +kernel
theorem dX6_noteOut_65 : decode cX6_noteOut 65 = .ok (.iinc 5 1, 3) := by decide +kernel
theorem dX6_noteOut_68 : decode cX6_noteOut 68 = .ok (.goto (-55), 3) := by decide +kernel
theorem dX6_noteOut_71 : decode cX6_noteOut 71 = .ok (.aload_n 0, 1) := by decide +kernel
theorem dX6_noteOut_72 : decode cX6_noteOut 72 = .ok (.aload_n 1, 1) := by decide +kernel
theorem dX6_noteOut_73 : decode cX6_noteOut 73 = .ok (.iload_n 2, 1) := by decide +kernel
theorem dX6_noteOut_74 : decode cX6_noteOut 74 = .ok (.invokevirtual 157, 3) := by decide +kernel
theorem dX6_noteOut_77 : decode cX6_noteOut 77 = .ok (.istore 5, 2) := by decide +kernel
theorem dX6_noteOut_79 : decode cX6_noteOut 79 = .ok (.aload_n 1, 1) := by decide +kernel
theorem dX6_noteOut_80 : decode cX6_noteOut 80 = .ok (.bipush 109, 2) := by decide +kernel
theorem dX6_noteOut_82 : decode cX6_noteOut 82 = .ok (.iload_n 2, 1) := by decide +kernel
theorem dX6_noteOut_83 : decode cX6_noteOut 83 = .ok (.iadd, 1) := by decide +kernel
theorem dX6_noteOut_84 : decode cX6_noteOut 84 = .ok (.iload 5, 2) := by decide +kernel
theorem dX6_noteOut_86 : decode cX6_noteOut 86 = .ok (.aload_n 1, 1) := by decide +kernel
theorem dX6_noteOut_87 : decode cX6_noteOut 87 = .ok (.bipush 109, 2) := by decide +kernel
theorem dX6_noteOut_89 : decode cX6_noteOut 89 = .ok (.iload_n 2, 1) := by decide +kernel
theorem dX6_noteOut_90 : decode cX6_noteOut 90 = .ok (.iadd, 1) := by decide +kernel
theorem dX6_noteOut_91 : decode cX6_noteOut 91 = .ok (.iaload, 1) := by decide +kernel
theorem dX6_noteOut_92 : decode cX6_noteOut 92 = .ok (.if_icmp .le 8, 3) := by decide +kernel
theorem dX6_noteOut_95 : decode cX6_noteOut 95 = .ok (.iload 5, 2) := by decide +kernel
theorem dX6_noteOut_97 : decode cX6_noteOut 97 = .ok (.goto 9, 3) := by decide +kernel
theorem dX6_noteOut_100 : decode cX6_noteOut 100 = .ok (.aload_n 1, 1) := by decide +kernel
theorem dX6_noteOut_101 : decode cX6_noteOut 101 = .ok (.bipush 109, 2) := by decide +kernel
theorem dX6_noteOut_103 : decode cX6_noteOut 103 = .ok (.iload_n 2, 1) := by decide +kernel
theorem dX6_noteOut_104 : decode cX6_noteOut 104 = .ok (.iadd, 1) := by decide +kernel
theorem dX6_noteOut_105 : decode cX6_noteOut 105 = .ok (.iaload, 1) := by decide +kernel
theorem dX6_noteOut_106 : decode cX6_noteOut 106 = .ok (.iastore, 1) := by decide +kernel
theorem dX6_noteOut_107 : decode cX6_noteOut 107 = .ok (.iload 4, 2) := by decide +kernel
theorem dX6_noteOut_109 : decode cX6_noteOut 109 = .ok (.ireturn, 1) := by decide +kernel
theorem dX6_noteAll_0 : decode cX6_noteAll 0 = .ok (.aload_n 1, 1) := by decide +kernel
theorem dX6_noteAll_1 : decode cX6_noteAll 1 = .ok (.bipush 82, 2) := by decide +kernel
theorem dX6_noteAll_3 : decode cX6_noteAll 3 = .ok (.dup2, 1) := by decide +kernel
theorem dX6_noteAll_4 : decode cX6_noteAll 4 = .ok (.iaload, 1) := by decide +kernel
theorem dX6_noteAll_5 : decode cX6_noteAll 5 = .ok (.iconst 1, 1) := by decide +kernel
theorem dX6_noteAll_6 : decode cX6_noteAll 6 = .ok (.iadd, 1) := by decide +kernel
theorem dX6_noteAll_7 : decode cX6_noteAll 7 = .ok (.iastore, 1) := by decide +kernel
theorem dX6_noteAll_8 : decode cX6_noteAll 8 = .ok (.iconst 0, 1) := by decide +kernel
theorem dX6_noteAll_9 : decode cX6_noteAll 9 = .ok (.istore_n 2, 1) := by decide +kernel
theorem dX6_noteAll_10 : decode cX6_noteAll 10 = .ok (.iconst 0, 1) := by decide +kernel
theorem dX6_noteAll_11 : decode cX6_noteAll 11 = .ok (.istore_n 3, 1) := by decide +kernel
theorem dX6_noteAll_12 : decode cX6_noteAll 12 = .ok (.iload_n 3, 1) := by decide +kernel
theorem dX6_noteAll_13 : decode cX6_noteAll 13 = .ok (.aload_n 1, 1) := by decide +kernel
theorem dX6_noteAll_14 : decode cX6_noteAll 14 = .ok (.bipush 83, 2) := by decide +kernel
theorem dX6_noteAll_16 : decode cX6_noteAll 16 = .ok (.iaload, 1) := by decide +kernel
theorem dX6_noteAll_17 : decode cX6_noteAll 17 = .ok (.if_icmp .ge 18, 3) := by decide +kernel
theorem dX6_noteAll_20 : decode cX6_noteAll 20 = .ok (.iload_n 2, 1) := by decide +kernel
theorem dX6_noteAll_21 : decode cX6_noteAll 21 = .ok (.aload_n 0, 1) := by decide +kernel
theorem dX6_noteAll_22 : decode cX6_noteAll 22 = .ok (.aload_n 1, 1) := by decide +kernel
theorem dX6_noteAll_23 : decode cX6_noteAll 23 = .ok (.iload_n 3, 1) := by decide +kernel
theorem dX6_noteAll_24 : decode cX6_noteAll 24 = .ok (.invokevirtual 160, 3) := by decide +kernel
theorem dX6_noteAll_27 : decode cX6_noteAll 27 = .ok (.iadd, 1) := by decide +kernel
theorem dX6_noteAll_28 : decode cX6_noteAll 28 = .ok (.istore_n 2, 1) := by decide +kernel
theorem dX6_noteAll_29 : decode cX6_noteAll 29 = .ok (.iinc 3 1, 3) := by decide +kernel
theorem dX6_noteAll_32 : decode cX6_noteAll 32 = .ok (.goto (-20), 3) := by decide +kernel
theorem dX6_noteAll_35 : decode cX6_noteAll 35 = .ok (.iload_n 2, 1) := by decide +kernel
theorem dX6_noteAll_36 : decode cX6_noteAll 36 = .ok (.ireturn, 1) := by decide +kernel
theorem dX6_depthOf_0 : decode cX6_depthOf 0 = .ok (.iconst 0, 1) := by decide +kernel
theorem dX6_depthOf_1 : decode cX6_depthOf 1 = .ok (.istore_n 2, 1) := by decide +kernel
theorem dX6_depthOf_2 : decode cX6_depthOf 2 = .ok (.iload_n 1, 1) := by decide +kernel
theorem dX6_depthOf_3 : decode cX6_depthOf 3 = .ok (.istore_n 3, 1) := by decide +kernel
theorem dX6_depthOf_4 : decode cX6_depthOf 4 = .ok (.iload_n 3, 1) := by decide +kernel
theorem dX6_depthOf_5 : decode cX6_depthOf 5 = .ok (.bipush (-9), 2) := by decide +kernel
theorem dX6_depthOf_7 : decode cX6_depthOf 7 = .ok (.if_icmp .eq 16, 3) := by decide +kernel
theorem dX6_depthOf_10 : decode cX6_depthOf 10 = .ok (.iinc 2 1, 3) := by decide +kernel
theorem dX6_depthOf_13 : decode cX6_depthOf 13 = .ok (.aload_n 0, 1) := by decide +kernel
theorem dX6_depthOf_14 : decode cX6_depthOf 14 = .ok (.bipush 20, 2) := by decide +kernel
theorem dX6_depthOf_16 : decode cX6_depthOf 16 = .ok (.iload_n 3, 1) := by decide +kernel
theorem dX6_depthOf_17 : decode cX6_depthOf 17 = .ok (.iadd, 1) := by decide +kernel
theorem dX6_depthOf_18 : decode cX6_depthOf 18 = .ok (.iaload, 1) := by decide +kernel
theorem dX6_depthOf_19 : decode cX6_depthOf 19 = .ok (.istore_n 3, 1) := by decide +kernel
theorem dX6_depthOf_20 : decode cX6_depthOf 20 = .ok (.goto (-16), 3) := by decide +kernel
theorem dX6_depthOf_23 : decode cX6_depthOf 23 = .ok (.iload_n 2, 1) := by decide +kernel
theorem dX6_depthOf_24 : decode cX6_depthOf 24 = .ok (.ireturn, 1) := by decide +kernel
theorem dX6_mayOpen_0 : decode cX6_mayOpen 0 = .ok (.aload_n 0, 1) := by decide +kernel
theorem dX6_mayOpen_1 : decode cX6_mayOpen 1 = .ok (.bipush 80, 2) := by decide +kernel
theorem dX6_mayOpen_3 : decode cX6_mayOpen 3 = .ok (.iaload, 1) := by decide +kernel
theorem dX6_mayOpen_4 : decode cX6_mayOpen 4 = .ok (.ifCond .eq 25, 3) := by decide +kernel
theorem dX6_mayOpen_7 : decode cX6_mayOpen 7 = .ok (.aload_n 0, 1) := by decide +kernel
theorem dX6_mayOpen_8 : decode cX6_mayOpen 8 = .ok (.bipush 81, 2) := by decide +kernel
theorem dX6_mayOpen_10 : decode cX6_mayOpen 10 = .ok (.iaload, 1) := by decide +kernel
theorem dX6_mayOpen_11 : decode cX6_mayOpen 11 = .ok (.bipush (-9), 2) := by decide +kernel
theorem dX6_mayOpen_13 : decode cX6_mayOpen 13 = .ok (.if_icmp .eq 20, 3) := by decide +kernel
theorem dX6_mayOpen_16 : decode cX6_mayOpen 16 = .ok (.aload_n 0, 1) := by decide +kernel
theorem dX6_mayOpen_17 : decode cX6_mayOpen 17 = .ok (.aload_n 0, 1) := by decide +kernel
theorem dX6_mayOpen_18 : decode cX6_mayOpen 18 = .ok (.bipush 81, 2) := by decide +kernel
theorem dX6_mayOpen_20 : decode cX6_mayOpen 20 = .ok (.iaload, 1) := by decide +kernel
theorem dX6_mayOpen_21 : decode cX6_mayOpen 21 = .ok (.invokestatic 163, 3) := by decide +kernel
theorem dX6_mayOpen_24 : decode cX6_mayOpen 24 = .ok (.bipush 8, 2) := by decide +kernel
theorem dX6_mayOpen_26 : decode cX6_mayOpen 26 = .ok (.if_icmp .ge 7, 3) := by decide +kernel
theorem dX6_mayOpen_29 : decode cX6_mayOpen 29 = .ok (.iconst 1, 1) := by decide +kernel
theorem dX6_mayOpen_30 : decode cX6_mayOpen 30 = .ok (.goto 4, 3) := by decide +kernel
theorem dX6_mayOpen_33 : decode cX6_mayOpen 33 = .ok (.iconst 0, 1) := by decide +kernel
theorem dX6_mayOpen_34 : decode cX6_mayOpen 34 = .ok (.ireturn, 1) := by decide +kernel
theorem dX6_openOn_0 : decode cX6_openOn 0 = .ok (.aload_n 1, 1) := by decide +kernel
theorem dX6_openOn_1 : decode cX6_openOn 1 = .ok (.bipush 80, 2) := by decide +kernel
theorem dX6_openOn_3 : decode cX6_openOn 3 = .ok (.iaload, 1) := by decide +kernel
theorem dX6_openOn_4 : decode cX6_openOn 4 = .ok (.istore_n 3, 1) := by decide +kernel
theorem dX6_openOn_5 : decode cX6_openOn 5 = .ok (.aload_n 1, 1) := by decide +kernel
theorem dX6_openOn_6 : decode cX6_openOn 6 = .ok (.iload_n 3, 1) := by decide +kernel
theorem dX6_openOn_7 : decode cX6_openOn 7 = .ok (.iload_n 2, 1) := by decide +kernel
theorem dX6_openOn_8 : decode cX6_openOn 8 = .ok (.iastore, 1) := by decide +kernel
theorem dX6_openOn_9 : decode cX6_openOn 9 = .ok (.aload_n 1, 1) := by decide +kernel
theorem dX6_openOn_10 : decode cX6_openOn 10 = .ok (.bipush 20, 2) := by decide +kernel
theorem dX6_openOn_12 : decode cX6_openOn 12 = .ok (.iload_n 3, 1) := by decide +kernel
theorem dX6_openOn_13 : decode cX6_openOn 13 = .ok (.iadd, 1) := by decide +kernel
theorem dX6_openOn_14 : decode cX6_openOn 14 = .ok (.aload_n 1, 1) := by decide +kernel
theorem dX6_openOn_15 : decode cX6_openOn 15 = .ok (.bipush 81, 2) := by decide +kernel
theorem dX6_openOn_17 : decode cX6_openOn 17 = .ok (.iaload, 1) := by decide +kernel
theorem dX6_openOn_18 : decode cX6_openOn 18 = .ok (.iastore, 1) := by decide +kernel
theorem dX6_openOn_19 : decode cX6_openOn 19 = .ok (.aload_n 1, 1) := by decide +kernel
theorem dX6_openOn_20 : decode cX6_openOn 20 = .ok (.bipush 40, 2) := by decide +kernel
theorem dX6_openOn_22 : decode cX6_openOn 22 = .ok (.iload_n 3, 1) := by decide +kernel
theorem dX6_openOn_23 : decode cX6_openOn 23 = .ok (.iadd, 1) := by decide +kernel
theorem dX6_openOn_24 : decode cX6_openOn 24 = .ok (.iconst 1, 1) := by decide +kernel
theorem dX6_openOn_25 : decode cX6_openOn 25 = .ok (.iastore, 1) := by decide +kernel
theorem dX6_openOn_26 : decode cX6_openOn 26 = .ok (.aload_n 1, 1) := by decide +kernel
theorem dX6_openOn_27 : decode cX6_openOn 27 = .ok (.bipush 60, 2) := by decide +kernel
theorem dX6_openOn_29 : decode cX6_openOn 29 = .ok (.iload_n 3, 1) := by decide +kernel
theorem dX6_openOn_30 : decode cX6_openOn 30 = .ok (.iadd, 1) := by decide +kernel
theorem dX6_openOn_31 : decode cX6_openOn 31 = .ok (.iconst 0, 1) := by decide +kernel
theorem dX6_openOn_32 : decode cX6_openOn 32 = .ok (.iastore, 1) := by decide +kernel
theorem dX6_openOn_33 : decode cX6_openOn 33 = .ok (.aload_n 1, 1) := by decide +kernel
theorem dX6_openOn_34 : decode cX6_openOn 34 = .ok (.bipush 81, 2) := by decide +kernel
theorem dX6_openOn_36 : decode cX6_openOn 36 = .ok (.iload_n 3, 1) := by decide +kernel
theorem dX6_openOn_37 : decode cX6_openOn 37 = .ok (.iastore, 1) := by decide +kernel
theorem dX6_openOn_38 : decode cX6_openOn 38 = .ok (.aload_n 1, 1) := by decide +kernel
theorem dX6_openOn_39 : decode cX6_openOn 39 = .ok (.bipush 80, 2) := by decide +kernel
theorem dX6_openOn_41 : decode cX6_openOn 41 = .ok (.dup2, 1) := by decide +kernel
theorem dX6_openOn_42 : decode cX6_openOn 42 = .ok (.iaload, 1) := by decide +kernel
theorem dX6_openOn_43 : decode cX6_openOn 43 = .ok (.iconst 1, 1) := by decide +kernel
theorem dX6_openOn_44 : decode cX6_openOn 44 = .ok (.iadd, 1) := by decide +kernel
theorem dX6_openOn_45 : decode cX6_openOn 45 = .ok (.iastore, 1) := by decide +kernel
theorem dX6_openOn_46 : decode cX6_openOn 46 = .ok (.aload_n 0, 1) := by decide +kernel
theorem dX6_openOn_47 : decode cX6_openOn 47 = .ok (.aload_n 1, 1) := by decide +kernel
theorem dX6_openOn_48 : decode cX6_openOn 48 = .ok (.invokevirtual 166, 3) := by decide +kernel
theorem dX6_openOn_51 : decode cX6_openOn 51 = .ok (.istore 4, 2) := by decide +kernel
theorem dX6_openOn_53 : decode cX6_openOn 53 = .ok (.return_, 1) := by decide +kernel
theorem dX6_closeOn_0 : decode cX6_closeOn 0 = .ok (.aload_n 1, 1) := by decide +kernel
theorem dX6_closeOn_1 : decode cX6_closeOn 1 = .ok (.bipush 81, 2) := by decide +kernel
theorem dX6_closeOn_3 : decode cX6_closeOn 3 = .ok (.iaload, 1) := by decide +kernel
theorem dX6_closeOn_4 : decode cX6_closeOn 4 = .ok (.istore_n 2, 1) := by decide +kernel
theorem dX6_closeOn_5 : decode cX6_closeOn 5 = .ok (.aload_n 1, 1) := by decide +kernel
theorem dX6_closeOn_6 : decode cX6_closeOn 6 = .ok (.bipush 40, 2) := by decide +kernel
theorem dX6_closeOn_8 : decode cX6_closeOn 8 = .ok (.iload_n 2, 1) := by decide +kernel
theorem dX6_closeOn_9 : decode cX6_closeOn 9 = .ok (.iadd, 1) := by decide +kernel
theorem dX6_closeOn_10 : decode cX6_closeOn 10 = .ok (.iconst 0, 1) := by decide +kernel
theorem dX6_closeOn_11 : decode cX6_closeOn 11 = .ok (.iastore, 1) := by decide +kernel
theorem dX6_closeOn_12 : decode cX6_closeOn 12 = .ok (.aload_n 1, 1) := by decide +kernel
theorem dX6_closeOn_13 : decode cX6_closeOn 13 = .ok (.bipush 81, 2) := by decide +kernel
theorem dX6_closeOn_15 : decode cX6_closeOn 15 = .ok (.aload_n 1, 1) := by decide +kernel
theorem dX6_closeOn_16 : decode cX6_closeOn 16 = .ok (.bipush 20, 2) := by decide +kernel
theorem dX6_closeOn_18 : decode cX6_closeOn 18 = .ok (.iload_n 2, 1) := by decide +kernel
theorem dX6_closeOn_19 : decode cX6_closeOn 19 = .ok (.iadd, 1) := by decide +kernel
theorem dX6_closeOn_20 : decode cX6_closeOn 20 = .ok (.iaload, 1) := by decide +kernel
theorem dX6_closeOn_21 : decode cX6_closeOn 21 = .ok (.iastore, 1) := by decide +kernel
theorem dX6_closeOn_22 : decode cX6_closeOn 22 = .ok (.aload_n 0, 1) := by decide +kernel
theorem dX6_closeOn_23 : decode cX6_closeOn 23 = .ok (.aload_n 1, 1) := by decide +kernel
theorem dX6_closeOn_24 : decode cX6_closeOn 24 = .ok (.invokevirtual 166, 3) := by decide +kernel
theorem dX6_closeOn_27 : decode cX6_closeOn 27 = .ok (.ireturn, 1) := by decide +kernel
theorem dX6_tellOn_0 : decode cX6_tellOn 0 = .ok (.aload_n 1, 1) := by decide +kernel
theorem dX6_tellOn_1 : decode cX6_tellOn 1 = .ok (.bipush 60, 2) := by decide +kernel
theorem dX6_tellOn_3 : decode cX6_tellOn 3 = .ok (.aload_n 1, 1) := by decide +kernel
theorem dX6_tellOn_4 : decode cX6_tellOn 4 = .ok (.bipush 81, 2) := by decide +kernel
theorem dX6_tellOn_6 : decode cX6_tellOn 6 = .ok (.iaload, 1) := by decide +kernel
theorem dX6_tellOn_7 : decode cX6_tellOn 7 = .ok (.iadd, 1) := by decide +kernel
theorem dX6_tellOn_8 : decode cX6_tellOn 8 = .ok (.dup2, 1) := by decide +kernel
theorem dX6_tellOn_9 : decode cX6_tellOn 9 = .ok (.iaload, 1) := by decide +kernel
theorem dX6_tellOn_10 : decode cX6_tellOn 10 = .ok (.iconst 1, 1) := by decide +kernel
theorem dX6_tellOn_11 : decode cX6_tellOn 11 = .ok (.iload_n 2, 1) := by decide +kernel
theorem dX6_tellOn_12 : decode cX6_tellOn 12 = .ok (.ishl, 1) := by decide +kernel
theorem dX6_tellOn_13 : decode cX6_tellOn 13 = .ok (.ior, 1) := by decide +kernel
theorem dX6_tellOn_14 : decode cX6_tellOn 14 = .ok (.iastore, 1) := by decide +kernel
theorem dX6_tellOn_15 : decode cX6_tellOn 15 = .ok (.aload_n 0, 1) := by decide +kernel
theorem dX6_tellOn_16 : decode cX6_tellOn 16 = .ok (.aload_n 1, 1) := by decide +kernel
theorem dX6_tellOn_17 : decode cX6_tellOn 17 = .ok (.invokevirtual 166, 3) := by decide +kernel
theorem dX6_tellOn_20 : decode cX6_tellOn 20 = .ok (.ireturn, 1) := by decide +kernel
theorem dX6_eventOn_0 : decode cX6_eventOn 0 = .ok (.iload_n 2, 1) := by decide +kernel
theorem dX6_eventOn_1 : decode cX6_eventOn 1 = .ok (.bipush 10, 2) := by decide +kernel
theorem dX6_eventOn_3 : decode cX6_eventOn 3 = .ok (.if_icmp .ge 37, 3) := by decide +kernel
theorem dX6_eventOn_6 : decode cX6_eventOn 6 = .ok (.aload_n 1, 1) := by decide +kernel
theorem dX6_eventOn_7 : decode cX6_eventOn 7 = .ok (.invokestatic 170, 3) := by decide +kernel
theorem dX6_eventOn_10 : decode cX6_eventOn 10 = .ok (.ifCond .eq 16, 3) := by decide +kernel
theorem dX6_eventOn_13 : decode cX6_eventOn 13 = .ok (.aload_n 1, 1) := by decide +kernel
theorem dX6_eventOn_14 : decode cX6_eventOn 14 = .ok (.bipush 80, 2) := by decide +kernel
theorem dX6_eventOn_16 : decode cX6_eventOn 16 = .ok (.iaload, 1) := by decide +kernel
theorem dX6_eventOn_17 : decode cX6_eventOn 17 = .ok (.bipush 20, 2) := by decide +kernel
theorem dX6_eventOn_19 : decode cX6_eventOn 19 = .ok (.if_icmp .ge 7, 3) := by decide +kernel
theorem dX6_eventOn_22 : decode cX6_eventOn 22 = .ok (.iconst 1, 1) := by decide +kernel
theorem dX6_eventOn_23 : decode cX6_eventOn 23 = .ok (.goto 4, 3) := by decide +kernel
theorem dX6_eventOn_26 : decode cX6_eventOn 26 = .ok (.iconst 0, 1) := by decide +kernel
theorem dX6_eventOn_27 : decode cX6_eventOn 27 = .ok (.istore_n 3, 1) := by decide +kernel
theorem dX6_eventOn_28 : decode cX6_eventOn 28 = .ok (.iload_n 3, 1) := by decide +kernel
theorem dX6_eventOn_29 : decode cX6_eventOn 29 = .ok (.ifCond .eq 9, 3) := by decide +kernel
theorem dX6_eventOn_32 : decode cX6_eventOn 32 = .ok (.aload_n 0, 1) := by decide +kernel
theorem dX6_eventOn_33 : decode cX6_eventOn 33 = .ok (.aload_n 1, 1) := by decide +kernel
theorem dX6_eventOn_34 : decode cX6_eventOn 34 = .ok (.iload_n 2, 1) := by decide +kernel
theorem dX6_eventOn_35 : decode cX6_eventOn 35 = .ok (.invokevirtual 174, 3) := by decide +kernel
theorem dX6_eventOn_38 : decode cX6_eventOn 38 = .ok (.iload_n 3, 1) := by decide +kernel
theorem dX6_eventOn_39 : decode cX6_eventOn 39 = .ok (.ireturn, 1) := by decide +kernel
theorem dX6_eventOn_40 : decode cX6_eventOn 40 = .ok (.aload_n 1, 1) := by decide +kernel
theorem dX6_eventOn_41 : decode cX6_eventOn 41 = .ok (.bipush 81, 2) := by decide +kernel
theorem dX6_eventOn_43 : decode cX6_eventOn 43 = .ok (.iaload, 1) := by decide +kernel
theorem dX6_eventOn_44 : decode cX6_eventOn 44 = .ok (.bipush (-9), 2) := by decide +kernel
theorem dX6_eventOn_46 : decode cX6_eventOn 46 = .ok (.if_icmp .ne 5, 3) := by decide +kernel
theorem dX6_eventOn_49 : decode cX6_eventOn 49 = .ok (.iconst 0, 1) := by decide +kernel
theorem dX6_eventOn_50 : decode cX6_eventOn 50 = .ok (.ireturn, 1) := by decide +kernel
theorem dX6_eventOn_51 : decode cX6_eventOn 51 = .ok (.iload_n 2, 1) := by decide +kernel
theorem dX6_eventOn_52 : decode cX6_eventOn 52 = .ok (.bipush 10, 2) := by decide +kernel
theorem dX6_eventOn_54 : decode cX6_eventOn 54 = .ok (.if_icmp .ne 11, 3) := by decide +kernel
theorem dX6_eventOn_57 : decode cX6_eventOn 57 = .ok (.aload_n 0, 1) := by decide +kernel
theorem dX6_eventOn_58 : decode cX6_eventOn 58 = .ok (.aload_n 1, 1) := by decide +kernel
theorem dX6_eventOn_59 : decode cX6_eventOn 59 = .ok (.invokevirtual 178, 3) := by decide +kernel
theorem dX6_eventOn_62 : decode cX6_eventOn 62 = .ok (.goto 12, 3) := by decide +kernel
theorem dX6_eventOn_65 : decode cX6_eventOn 65 = .ok (.aload_n 0, 1) := by decide +kernel
theorem dX6_eventOn_66 : decode cX6_eventOn 66 = .ok (.aload_n 1, 1) := by decide +kernel
theorem dX6_eventOn_67 : decode cX6_eventOn 67 = .ok (.iload_n 2, 1) := by decide +kernel
theorem dX6_eventOn_68 : decode cX6_eventOn 68 = .ok (.bipush 20, 2) := by decide +kernel
theorem dX6_eventOn_70 : decode cX6_eventOn 70 = .ok (.isub, 1) := by decide +kernel
theorem dX6_eventOn_71 : decode cX6_eventOn 71 = .ok (.invokevirtual 181, 3) := by decide +kernel
theorem dX6_eventOn_74 : decode cX6_eventOn 74 = .ok (.istore_n 3, 1) := by decide +kernel
theorem dX6_eventOn_75 : decode cX6_eventOn 75 = .ok (.iconst 1, 1) := by decide +kernel
theorem dX6_eventOn_76 : decode cX6_eventOn 76 = .ok (.ireturn, 1) := by decide +kernel
theorem dX6_askOn_0 : decode cX6_askOn 0 = .ok (.aload_n 1, 1) := by decide +kernel
theorem dX6_askOn_1 : decode cX6_askOn 1 = .ok (.bipush 83, 2) := by decide +kernel
theorem dX6_askOn_3 : decode cX6_askOn 3 = .ok (.iaload, 1) := by decide +kernel
theorem dX6_askOn_4 : decode cX6_askOn 4 = .ok (.istore 7, 2) := by decide +kernel
theorem dX6_askOn_6 : decode cX6_askOn 6 = .ok (.aload_n 1, 1) := by decide +kernel
theorem dX6_askOn_7 : decode cX6_askOn 7 = .ok (.bipush 84, 2) := by decide +kernel
theorem dX6_askOn_9 : decode cX6_askOn 9 = .ok (.iload 7, 2) := by decide +kernel
theorem dX6_askOn_11 : decode cX6_askOn 11 = .ok (.iadd, 1) := by decide +kernel
theorem dX6_askOn_12 : decode cX6_askOn 12 = .ok (.iload_n 2, 1) := by decide +kernel
theorem dX6_askOn_13 : decode cX6_askOn 13 = .ok (.iastore, 1) := by decide +kernel
theorem dX6_askOn_14 : decode cX6_askOn 14 = .ok (.aload_n 1, 1) := by decide +kernel
theorem dX6_askOn_15 : decode cX6_askOn 15 = .ok (.bipush 89, 2) := by decide +kernel
theorem dX6_askOn_17 : decode cX6_askOn 17 = .ok (.iconst 4, 1) := by decide +kernel
theorem dX6_askOn_18 : decode cX6_askOn 18 = .ok (.iload 7, 2) := by decide +kernel
theorem dX6_askOn_20 : decode cX6_askOn 20 = .ok (.imul, 1) := by decide +kernel
theorem dX6_askOn_21 : decode cX6_askOn 21 = .ok (.iadd, 1) := by decide +kernel
theorem dX6_askOn_22 : decode cX6_askOn 22 = .ok (.iload_n 3, 1) := by decide +kernel
theorem dX6_askOn_23 : decode cX6_askOn 23 = .ok (.iastore, 1) := by decide +kernel
theorem dX6_askOn_24 : decode cX6_askOn 24 = .ok (.aload_n 1, 1) := by decide +kernel
theorem dX6_askOn_25 : decode cX6_askOn 25 = .ok (.bipush 89, 2) := by decide +kernel
theorem dX6_askOn_27 : decode cX6_askOn 27 = .ok (.iconst 4, 1) := by decide +kernel
theorem dX6_askOn_28 : decode cX6_askOn 28 = .ok (.iload 7, 2) := by decide +kernel
theorem dX6_askOn_30 : decode cX6_askOn 30 = .ok (.imul, 1) := by decide +kernel
theorem dX6_askOn_31 : decode cX6_askOn 31 = .ok (.iadd, 1) := by decide +kernel
theorem dX6_askOn_32 : decode cX6_askOn 32 = .ok (.iconst 1, 1) := by decide +kernel
theorem dX6_askOn_33 : decode cX6_askOn 33 = .ok (.iadd, 1) := by decide +kernel
theorem dX6_askOn_34 : decode cX6_askOn 34 = .ok (.iload 4, 2) := by decide +kernel
theorem dX6_askOn_36 : decode cX6_askOn 36 = .ok (.iastore, 1) := by decide +kernel
theorem dX6_askOn_37 : decode cX6_askOn 37 = .ok (.aload_n 1, 1) := by decide +kernel
theorem dX6_askOn_38 : decode cX6_askOn 38 = .ok (.bipush 89, 2) := by decide +kernel
theorem dX6_askOn_40 : decode cX6_askOn 40 = .ok (.iconst 4, 1) := by decide +kernel
theorem dX6_askOn_41 : decode cX6_askOn 41 = .ok (.iload 7, 2) := by decide +kernel
theorem dX6_askOn_43 : decode cX6_askOn 43 = .ok (.imul, 1) := by decide +kernel
theorem dX6_askOn_44 : decode cX6_askOn 44 = .ok (.iadd, 1) := by decide +kernel
theorem dX6_askOn_45 : decode cX6_askOn 45 = .ok (.iconst 2, 1) := by decide +kernel
theorem dX6_askOn_46 : decode cX6_askOn 46 = .ok (.iadd, 1) := by decide +kernel
theorem dX6_askOn_47 : decode cX6_askOn 47 = .ok (.iload 5, 2) := by decide +kernel
theorem dX6_askOn_49 : decode cX6_askOn 49 = .ok (.iastore, 1) := by decide +kernel
theorem dX6_askOn_50 : decode cX6_askOn 50 = .ok (.aload_n 1, 1) := by decide +kernel
theorem dX6_askOn_51 : decode cX6_askOn 51 = .ok (.bipush 89, 2) := by decide +kernel
theorem dX6_askOn_53 : decode cX6_askOn 53 = .ok (.iconst 4, 1) := by decide +kernel
theorem dX6_askOn_54 : decode cX6_askOn 54 = .ok (.iload 7, 2) := by decide +kernel
theorem dX6_askOn_56 : decode cX6_askOn 56 = .ok (.imul, 1) := by decide +kernel
theorem dX6_askOn_57 : decode cX6_askOn 57 = .ok (.iadd, 1) := by decide +kernel
theorem dX6_askOn_58 : decode cX6_askOn 58 = .ok (.iconst 3, 1) := by decide +kernel
theorem dX6_askOn_59 : decode cX6_askOn 59 = .ok (.iadd, 1) := by decide +kernel
theorem dX6_askOn_60 : decode cX6_askOn 60 = .ok (.iload 6, 2) := by decide +kernel
theorem dX6_askOn_62 : decode cX6_askOn 62 = .ok (.iastore, 1) := by decide +kernel
theorem dX6_askOn_63 : decode cX6_askOn 63 = .ok (.aload_n 1, 1) := by decide +kernel
theorem dX6_askOn_64 : decode cX6_askOn 64 = .ok (.bipush 109, 2) := by decide +kernel
theorem dX6_askOn_66 : decode cX6_askOn 66 = .ok (.iload 7, 2) := by decide +kernel
theorem dX6_askOn_68 : decode cX6_askOn 68 = .ok (.iadd, 1) := by decide +kernel
theorem dX6_askOn_69 : decode cX6_askOn 69 = .ok (.iconst 0, 1) := by decide +kernel
theorem dX6_askOn_70 : decode cX6_askOn 70 = .ok (.iastore, 1) := by decide +kernel
theorem dX6_askOn_71 : decode cX6_askOn 71 = .ok (.iconst 0, 1) := by decide +kernel
theorem dX6_askOn_72 : decode cX6_askOn 72 = .ok (.istore 8, 2) := by decide +kernel
theorem dX6_askOn_74 : decode cX6_askOn 74 = .ok (.iload 8, 2) := by decide +kernel
theorem dX6_askOn_76 : decode cX6_askOn 76 = .ok (.bipush 20, 2) := by decide +kernel
theorem dX6_askOn_78 : decode cX6_askOn 78 = .ok (.if_icmp .ge 24, 3) := by decide +kernel
theorem dX6_askOn_81 : decode cX6_askOn 81 = .ok (.aload_n 1, 1) := by decide +kernel
theorem dX6_askOn_82 : decode cX6_askOn 82 = .ok (.bipush 114, 2) := by decide +kernel
theorem dX6_askOn_84 : decode cX6_askOn 84 = .ok (.bipush 20, 2) := by decide +kernel
theorem dX6_askOn_86 : decode cX6_askOn 86 = .ok (.iload 7, 2) := by decide +kernel
theorem dX6_askOn_88 : decode cX6_askOn 88 = .ok (.imul, 1) := by decide +kernel
theorem dX6_askOn_89 : decode cX6_askOn 89 = .ok (.iadd, 1) := by decide +kernel
theorem dX6_askOn_90 : decode cX6_askOn 90 = .ok (.iload 8, 2) := by decide +kernel
theorem dX6_askOn_92 : decode cX6_askOn 92 = .ok (.iadd, 1) := by decide +kernel
theorem dX6_askOn_93 : decode cX6_askOn 93 = .ok (.bipush (-9), 2) := by decide +kernel
theorem dX6_askOn_95 : decode cX6_askOn 95 = .ok (.iastore, 1) := by decide +kernel
theorem dX6_askOn_96 : decode cX6_askOn 96 = .ok (.iinc 8 1, 3) := by decide +kernel
theorem dX6_askOn_99 : decode cX6_askOn 99 = .ok (.goto (-25), 3) := by decide +kernel
theorem dX6_askOn_102 : decode cX6_askOn 102 = .ok (.aload_n 1, 1) := by decide +kernel
theorem dX6_askOn_103 : decode cX6_askOn 103 = .ok (.bipush 83, 2) := by decide +kernel
theorem dX6_askOn_105 : decode cX6_askOn 105 = .ok (.dup2, 1) := by decide +kernel
theorem dX6_askOn_106 : decode cX6_askOn 106 = .ok (.iaload, 1) := by decide +kernel
theorem dX6_askOn_107 : decode cX6_askOn 107 = .ok (.iconst 1, 1) := by decide +kernel
theorem dX6_askOn_108 : decode cX6_askOn 108 = .ok (.iadd, 1) := by decide +kernel
theorem dX6_askOn_109 : decode cX6_askOn 109 = .ok (.iastore, 1) := by decide +kernel
theorem dX6_askOn_110 : decode cX6_askOn 110 = .ok (.aload_n 0, 1) := by decide +kernel
theorem dX6_askOn_111 : decode cX6_askOn 111 = .ok (.aload_n 1, 1) := by decide +kernel
theorem dX6_askOn_112 : decode cX6_askOn 112 = .ok (.iload 7, 2) := by decide +kernel
theorem dX6_askOn_114 : decode cX6_askOn 114 = .ok (.invokevirtual 160, 3) := by decide +kernel
theorem dX6_askOn_117 : decode cX6_askOn 117 = .ok (.istore 8, 2) := by decide +kernel
theorem dX6_askOn_119 : decode cX6_askOn 119 = .ok (.return_, 1) := by decide +kernel
theorem dX6_task_0 : decode cX6_task 0 = .ok (.aload_n 0, 1) := by decide +kernel
theorem dX6_task_1 : decode cX6_task 1 = .ok (.invokevirtual 114, 3) := by decide +kernel
theorem dX6_task_4 : decode cX6_task 4 = .ok (.bipush (-9), 2) := by decide +kernel
theorem dX6_task_6 : decode cX6_task 6 = .ok (.if_icmp .eq 6, 3) := by decide +kernel
theorem dX6_task_9 : decode cX6_task 9 = .ok (.bipush (-3), 2) := by decide +kernel
theorem dX6_task_11 : decode cX6_task 11 = .ok (.ireturn, 1) := by decide +kernel
theorem dX6_task_12 : decode cX6_task 12 = .ok (.aload_n 0, 1) := by decide +kernel
theorem dX6_task_13 : decode cX6_task 13 = .ok (.getfield 13, 3) := by decide +kernel
theorem dX6_task_16 : decode cX6_task 16 = .ok (.invokestatic 60, 3) := by decide +kernel
theorem dX6_task_19 : decode cX6_task 19 = .ok (.iconst 0, 1) := by decide +kernel
theorem dX6_task_20 : decode cX6_task 20 = .ok (.istore_n 1, 1) := by decide +kernel
theorem dX6_task_21 : decode cX6_task 21 = .ok (.iload_n 1, 1) := by decide +kernel
theorem dX6_task_22 : decode cX6_task 22 = .ok (.aload_n 0, 1) := by decide +kernel
theorem dX6_task_23 : decode cX6_task 23 = .ok (.getfield 89, 3) := by decide +kernel
theorem dX6_task_26 : decode cX6_task 26 = .ok (.if_icmp .ge 57, 3) := by decide +kernel
theorem dX6_task_29 : decode cX6_task 29 = .ok (.iconst 4, 1) := by decide +kernel
theorem dX6_task_30 : decode cX6_task 30 = .ok (.iload_n 1, 1) := by decide +kernel
theorem dX6_task_31 : decode cX6_task 31 = .ok (.imul, 1) := by decide +kernel
theorem dX6_task_32 : decode cX6_task 32 = .ok (.istore_n 2, 1) := by decide +kernel
theorem dX6_task_33 : decode cX6_task 33 = .ok (.aload_n 0, 1) := by decide +kernel
theorem dX6_task_34 : decode cX6_task 34 = .ok (.aload_n 0, 1) := by decide +kernel
theorem dX6_task_35 : decode cX6_task 35 = .ok (.getfield 13, 3) := by decide +kernel
theorem dX6_task_38 : decode cX6_task 38 = .ok (.aload_n 0, 1) := by decide +kernel
theorem dX6_task_39 : decode cX6_task 39 = .ok (.getfield 47, 3) := by decide +kernel
theorem dX6_task_42 : decode cX6_task 42 = .ok (.iload_n 1, 1) := by decide +kernel
theorem dX6_task_43 : decode cX6_task 43 = .ok (.iaload, 1) := by decide +kernel
theorem dX6_task_44 : decode cX6_task 44 = .ok (.aload_n 0, 1) := by decide +kernel
theorem dX6_task_45 : decode cX6_task 45 = .ok (.getfield 50, 3) := by decide +kernel
theorem dX6_task_48 : decode cX6_task 48 = .ok (.iload_n 2, 1) := by decide +kernel
theorem dX6_task_49 : decode cX6_task 49 = .ok (.iaload, 1) := by decide +kernel
theorem dX6_task_50 : decode cX6_task 50 = .ok (.aload_n 0, 1) := by decide +kernel
theorem dX6_task_51 : decode cX6_task 51 = .ok (.getfield 50, 3) := by decide +kernel
theorem dX6_task_54 : decode cX6_task 54 = .ok (.iload_n 2, 1) := by decide +kernel
theorem dX6_task_55 : decode cX6_task 55 = .ok (.iconst 1, 1) := by decide +kernel
theorem dX6_task_56 : decode cX6_task 56 = .ok (.iadd, 1) := by decide +kernel
theorem dX6_task_57 : decode cX6_task 57 = .ok (.iaload, 1) := by decide +kernel
theorem dX6_task_58 : decode cX6_task 58 = .ok (.aload_n 0, 1) := by decide +kernel
theorem dX6_task_59 : decode cX6_task 59 = .ok (.getfield 50, 3) := by decide +kernel
theorem dX6_task_62 : decode cX6_task 62 = .ok (.iload_n 2, 1) := by decide +kernel
theorem dX6_task_63 : decode cX6_task 63 = .ok (.iconst 2, 1) := by decide +kernel
theorem dX6_task_64 : decode cX6_task 64 = .ok (.iadd, 1) := by decide +kernel
theorem dX6_task_65 : decode cX6_task 65 = .ok (.iaload, 1) := by decide +kernel
theorem dX6_task_66 : decode cX6_task 66 = .ok (.aload_n 0, 1) := by decide +kernel
theorem dX6_task_67 : decode cX6_task 67 = .ok (.getfield 50, 3) := by decide +kernel
theorem dX6_task_70 : decode cX6_task 70 = .ok (.iload_n 2, 1) := by decide +kernel
theorem dX6_task_71 : decode cX6_task 71 = .ok (.iconst 3, 1) := by decide +kernel
theorem dX6_task_72 : decode cX6_task 72 = .ok (.iadd, 1) := by decide +kernel
theorem dX6_task_73 : decode cX6_task 73 = .ok (.iaload, 1) := by decide +kernel
theorem dX6_task_74 : decode cX6_task 74 = .ok (.invokevirtual 184, 3) := by decide +kernel
theorem dX6_task_77 : decode cX6_task 77 = .ok (.iinc 1 1, 3) := by decide +kernel
theorem dX6_task_80 : decode cX6_task 80 = .ok (.goto (-59), 3) := by decide +kernel
theorem dX6_task_83 : decode cX6_task 83 = .ok (.iconst 0, 1) := by decide +kernel
theorem dX6_task_84 : decode cX6_task 84 = .ok (.istore_n 1, 1) := by decide +kernel
theorem dX6_task_85 : decode cX6_task 85 = .ok (.iload_n 1, 1) := by decide +kernel
theorem dX6_task_86 : decode cX6_task 86 = .ok (.aload_n 0, 1) := by decide +kernel
theorem dX6_task_87 : decode cX6_task 87 = .ok (.getfield 77, 3) := by decide +kernel
theorem dX6_task_90 : decode cX6_task 90 = .ok (.if_icmp .ge 24, 3) := by decide +kernel
theorem dX6_task_93 : decode cX6_task 93 = .ok (.aload_n 0, 1) := by decide +kernel
theorem dX6_task_94 : decode cX6_task 94 = .ok (.aload_n 0, 1) := by decide +kernel
theorem dX6_task_95 : decode cX6_task 95 = .ok (.getfield 13, 3) := by decide +kernel
theorem dX6_task_98 : decode cX6_task 98 = .ok (.aload_n 0, 1) := by decide +kernel
theorem dX6_task_99 : decode cX6_task 99 = .ok (.getfield 53, 3) := by decide +kernel
theorem dX6_task_102 : decode cX6_task 102 = .ok (.iload_n 1, 1) := by decide +kernel
theorem dX6_task_103 : decode cX6_task 103 = .ok (.iaload, 1) := by decide +kernel
theorem dX6_task_104 : decode cX6_task 104 = .ok (.invokevirtual 188, 3) := by decide +kernel
theorem dX6_task_107 : decode cX6_task 107 = .ok (.istore_n 2, 1) := by decide +kernel
theorem dX6_task_108 : decode cX6_task 108 = .ok (.iinc 1 1, 3) := by decide +kernel
theorem dX6_task_111 : decode cX6_task 111 = .ok (.goto (-26), 3) := by decide +kernel
theorem dX6_task_114 : decode cX6_task 114 = .ok (.aload_n 0, 1) := by decide +kernel
theorem dX6_task_115 : decode cX6_task 115 = .ok (.iconst 0, 1) := by decide +kernel
theorem dX6_task_116 : decode cX6_task 116 = .ok (.putfield 192, 3) := by decide +kernel
theorem dX6_task_119 : decode cX6_task 119 = .ok (.aload_n 0, 1) := by decide +kernel
theorem dX6_task_120 : decode cX6_task 120 = .ok (.getfield 25, 3) := by decide +kernel
theorem dX6_task_123 : decode cX6_task 123 = .ok (.iconst 0, 1) := by decide +kernel
theorem dX6_task_124 : decode cX6_task 124 = .ok (.iconst 0, 1) := by decide +kernel
theorem dX6_task_125 : decode cX6_task 125 = .ok (.bastore, 1) := by decide +kernel
theorem dX6_task_126 : decode cX6_task 126 = .ok (.aload_n 0, 1) := by decide +kernel
theorem dX6_task_127 : decode cX6_task 127 = .ok (.getfield 25, 3) := by decide +kernel
theorem dX6_task_130 : decode cX6_task 130 = .ok (.iconst 1, 1) := by decide +kernel
theorem dX6_task_131 : decode cX6_task 131 = .ok (.iconst 0, 1) := by decide +kernel
theorem dX6_task_132 : decode cX6_task 132 = .ok (.bastore, 1) := by decide +kernel
theorem dX6_task_133 : decode cX6_task 133 = .ok (.aload_n 0, 1) := by decide +kernel
theorem dX6_task_134 : decode cX6_task 134 = .ok (.getfield 13, 3) := by decide +kernel
theorem dX6_task_137 : decode cX6_task 137 = .ok (.bipush 83, 2) := by decide +kernel
theorem dX6_task_139 : decode cX6_task 139 = .ok (.iaload, 1) := by decide +kernel
theorem dX6_task_140 : decode cX6_task 140 = .ok (.ireturn, 1) := by decide +kernel
theorem dX6_isBeginning_0 : decode cX6_isBeginning 0 = .ok (.aload_n 0, 1) := by decide +kernel
theorem dX6_isBeginning_1 : decode cX6_isBeginning 1 = .ok (.getfield 13, 3) := by decide +kernel
theorem dX6_isBeginning_4 : decode cX6_isBeginning 4 = .ok (.bipush 84, 2) := by decide +kernel
theorem dX6_isBeginning_6 : decode cX6_isBeginning 6 = .ok (.iload_n 2, 1) := by decide +kernel
theorem dX6_isBeginning_7 : decode cX6_isBeginning 7 = .ok (.iadd, 1) := by decide +kernel
theorem dX6_isBeginning_8 : decode cX6_isBeginning 8 = .ok (.iaload, 1) := by decide +kernel
theorem dX6_isBeginning_9 : decode cX6_isBeginning 9 = .ok (.iload_n 3, 1) := by decide +kernel
theorem dX6_isBeginning_10 : decode cX6_isBeginning 10 = .ok (.if_icmp .lt 7, 3) := by decide +kernel
theorem dX6_isBeginning_13 : decode cX6_isBeginning 13 = .ok (.iconst 1, 1) := by decide +kernel
theorem dX6_isBeginning_14 : decode cX6_isBeginning 14 = .ok (.goto 4, 3) := by decide +kernel
theorem dX6_isBeginning_17 : decode cX6_isBeginning 17 = .ok (.iconst 0, 1) := by decide +kernel
theorem dX6_isBeginning_18 : decode cX6_isBeginning 18 = .ok (.istore 4, 2) := by decide +kernel
theorem dX6_isBeginning_20 : decode cX6_isBeginning 20 = .ok (.iconst 0, 1) := by decide +kernel
theorem dX6_isBeginning_21 : decode cX6_isBeginning 21 = .ok (.istore 5, 2) := by decide +kernel
theorem dX6_isBeginning_23 : decode cX6_isBeginning 23 = .ok (.iload 5, 2) := by decide +kernel
theorem dX6_isBeginning_25 : decode cX6_isBeginning 25 = .ok (.iload_n 3, 1) := by decide +kernel
theorem dX6_isBeginning_26 : decode cX6_isBeginning 26 = .ok (.if_icmp .ge 52, 3) := by decide +kernel
theorem dX6_isBeginning_29 : decode cX6_isBeginning 29 = .ok (.iload 4, 2) := by decide +kernel
theorem dX6_isBeginning_31 : decode cX6_isBeginning 31 = .ok (.ifCond .eq 38, 3) := by decide +kernel
theorem dX6_isBeginning_34 : decode cX6_isBeginning 34 = .ok (.aload_n 0, 1) := by decide +kernel
theorem dX6_isBeginning_35 : decode cX6_isBeginning 35 = .ok (.getfield 13, 3) := by decide +kernel
theorem dX6_isBeginning_38 : decode cX6_isBeginning 38 = .ok (.bipush 89, 2) := by decide +kernel
theorem dX6_isBeginning_40 : decode cX6_isBeginning 40 = .ok (.iconst 4, 1) := by decide +kernel
theorem dX6_isBeginning_41 : decode cX6_isBeginning 41 = .ok (.iload_n 1, 1) := by decide +kernel
theorem dX6_isBeginning_42 : decode cX6_isBeginning 42 = .ok (.imul, 1) := by decide +kernel
theorem dX6_isBeginning_43 : decode cX6_isBeginning 43 = .ok (.iadd, 1) := by decide +kernel
theorem dX6_isBeginning_44 : decode cX6_isBeginning 44 = .ok (.iload 5, 2) := by decide +kernel
theorem dX6_isBeginning_46 : decode cX6_isBeginning 46 = .ok (.iadd, 1) := by decide +kernel
theorem dX6_isBeginning_47 : decode cX6_isBeginning 47 = .ok (.iaload, 1) := by decide +kernel
theorem dX6_isBeginning_48 : decode cX6_isBeginning 48 = .ok (.aload_n 0, 1) := by decide +kernel
theorem dX6_isBeginning_49 : decode cX6_isBeginning 49 = .ok (.getfield 13, 3) := by decide +kernel
theorem dX6_isBeginning_52 : decode cX6_isBeginning 52 = .ok (.bipush 89, 2) := by decide +kernel
theorem dX6_isBeginning_54 : decode cX6_isBeginning 54 = .ok (.iconst 4, 1) := by decide +kernel
theorem dX6_isBeginning_55 : decode cX6_isBeginning 55 = .ok (.iload_n 2, 1) := by decide +kernel
theorem dX6_isBeginning_56 : decode cX6_isBeginning 56 = .ok (.imul, 1) := by decide +kernel
theorem dX6_isBeginning_57 : decode cX6_isBeginning 57 = .ok (.iadd, 1) := by decide +kernel
theorem dX6_isBeginning_58 : decode cX6_isBeginning 58 = .ok (.iload 5, 2) := by decide +kernel
theorem dX6_isBeginning_60 : decode cX6_isBeginning 60 = .ok (.iadd, 1) := by decide +kernel
theorem dX6_isBeginning_61 : decode cX6_isBeginning 61 = .ok (.iaload, 1) := by decide +kernel
theorem dX6_isBeginning_62 : decode cX6_isBeginning 62 = .ok (.if_icmp .ne 7, 3) := by decide +kernel
theorem dX6_isBeginning_65 : decode cX6_isBeginning 65 = .ok (.iconst 1, 1) := by decide +kernel
theorem dX6_isBeginning_66 : decode cX6_isBeginning 66 = .ok (.goto 4, 3) := by decide +kernel
theorem dX6_isBeginning_69 : decode cX6_isBeginning 69 = .ok (.iconst 0, 1) := by decide +kernel
theorem dX6_isBeginning_70 : decode cX6_isBeginning 70 = .ok (.istore 4, 2) := by decide +kernel
theorem dX6_isBeginning_72 : decode cX6_isBeginning 72 = .ok (.iinc 5 1, 3) := by decide +kernel
theorem dX6_isBeginning_75 : decode cX6_isBeginning 75 = .ok (.goto (-52), 3) := by decide +kernel
theorem dX6_isBeginning_78 : decode cX6_isBeginning 78 = .ok (.iload 4, 2) := by decide +kernel
theorem dX6_isBeginning_80 : decode cX6_isBeginning 80 = .ok (.ireturn, 1) := by decide +kernel
theorem dX6_shared_0 : decode cX6_shared 0 = .ok (.iconst 0, 1) := by decide +kernel
theorem dX6_shared_1 : decode cX6_shared 1 = .ok (.istore_n 1, 1) := by decide +kernel
theorem dX6_shared_2 : decode cX6_shared 2 = .ok (.iconst 0, 1) := by decide +kernel
theorem dX6_shared_3 : decode cX6_shared 3 = .ok (.istore_n 2, 1) := by decide +kernel
theorem dX6_shared_4 : decode cX6_shared 4 = .ok (.iload_n 2, 1) := by decide +kernel
theorem dX6_shared_5 : decode cX6_shared 5 = .ok (.aload_n 0, 1) := by decide +kernel
theorem dX6_shared_6 : decode cX6_shared 6 = .ok (.getfield 13, 3) := by decide +kernel
theorem dX6_shared_9 : decode cX6_shared 9 = .ok (.bipush 83, 2) := by decide +kernel
theorem dX6_shared_11 : decode cX6_shared 11 = .ok (.iaload, 1) := by decide +kernel
theorem dX6_shared_12 : decode cX6_shared 12 = .ok (.if_icmp .ge 84, 3) := by decide +kernel
theorem dX6_shared_15 : decode cX6_shared 15 = .ok (.iconst 1, 1) := by decide +kernel
theorem dX6_shared_16 : decode cX6_shared 16 = .ok (.istore_n 3, 1) := by decide +kernel
theorem dX6_shared_17 : decode cX6_shared 17 = .ok (.iload_n 3, 1) := by decide +kernel
theorem dX6_shared_18 : decode cX6_shared 18 = .ok (.aload_n 0, 1) := by decide +kernel
theorem dX6_shared_19 : decode cX6_shared 19 = .ok (.getfield 13, 3) := by decide +kernel
theorem dX6_shared_22 : decode cX6_shared 22 = .ok (.bipush 84, 2) := by decide +kernel
theorem dX6_shared_24 : decode cX6_shared 24 = .ok (.iload_n 2, 1) := by decide +kernel
theorem dX6_shared_25 : decode cX6_shared 25 = .ok (.iadd, 1) := by decide +kernel
theorem dX6_shared_26 : decode cX6_shared 26 = .ok (.iaload, 1) := by decide +kernel
theorem dX6_shared_27 : decode cX6_shared 27 = .ok (.if_icmp .gt 63, 3) := by decide +kernel
theorem dX6_shared_30 : decode cX6_shared 30 = .ok (.iconst 1, 1) := by decide +kernel
theorem dX6_shared_31 : decode cX6_shared 31 = .ok (.istore 4, 2) := by decide +kernel
theorem dX6_shared_33 : decode cX6_shared 33 = .ok (.iconst 0, 1) := by decide +kernel
theorem dX6_shared_34 : decode cX6_shared 34 = .ok (.istore 5, 2) := by decide +kernel
theorem dX6_shared_36 : decode cX6_shared 36 = .ok (.iload 5, 2) := by decide +kernel
theorem dX6_shared_38 : decode cX6_shared 38 = .ok (.iload_n 2, 1) := by decide +kernel
theorem dX6_shared_39 : decode cX6_shared 39 = .ok (.if_icmp .ge 32, 3) := by decide +kernel
theorem dX6_shared_42 : decode cX6_shared 42 = .ok (.iload 4, 2) := by decide +kernel
theorem dX6_shared_44 : decode cX6_shared 44 = .ok (.ifCond .eq 18, 3) := by decide +kernel
theorem dX6_shared_47 : decode cX6_shared 47 = .ok (.aload_n 0, 1) := by decide +kernel
theorem dX6_shared_48 : decode cX6_shared 48 = .ok (.iload_n 2, 1) := by decide +kernel
theorem dX6_shared_49 : decode cX6_shared 49 = .ok (.iload 5, 2) := by decide +kernel
theorem dX6_shared_51 : decode cX6_shared 51 = .ok (.iload_n 3, 1) := by decide +kernel
theorem dX6_shared_52 : decode cX6_shared 52 = .ok (.invokevirtual 195, 3) := by decide +kernel
theorem dX6_shared_55 : decode cX6_shared 55 = .ok (.ifCond .ne 7, 3) := by decide +kernel
theorem dX6_shared_58 : decode cX6_shared 58 = .ok (.iconst 1, 1) := by decide +kernel
theorem dX6_shared_59 : decode cX6_shared 59 = .ok (.goto 4, 3) := by decide +kernel
theorem dX6_shared_62 : decode cX6_shared 62 = .ok (.iconst 0, 1) := by decide +kernel
theorem dX6_shared_63 : decode cX6_shared 63 = .ok (.istore 4, 2) := by decide +kernel
theorem dX6_shared_65 : decode cX6_shared 65 = .ok (.iinc 5 1, 3) := by decide +kernel
theorem dX6_shared_68 : decode cX6_shared 68 = .ok (.goto (-32), 3) := by decide +kernel
theorem dX6_shared_71 : decode cX6_shared 71 = .ok (.iload_n 1, 1) := by decide +kernel
theorem dX6_shared_72 : decode cX6_shared 72 = .ok (.iload 4, 2) := by decide +kernel
theorem dX6_shared_74 : decode cX6_shared 74 = .ok (.ifCond .eq 7, 3) := by decide +kernel
theorem dX6_shared_77 : decode cX6_shared 77 = .ok (.iconst 1, 1) := by decide +kernel
theorem dX6_shared_78 : decode cX6_shared 78 = .ok (.goto 4, 3) := by decide +kernel
theorem dX6_shared_81 : decode cX6_shared 81 = .ok (.iconst 0, 1) := by decide +kernel
theorem dX6_shared_82 : decode cX6_shared 82 = .ok (.iadd, 1) := by decide +kernel
theorem dX6_shared_83 : decode cX6_shared 83 = .ok (.istore_n 1, 1) := by decide +kernel
theorem dX6_shared_84 : decode cX6_shared 84 = .ok (.iinc 3 1, 3) := by decide +kernel
theorem dX6_shared_87 : decode cX6_shared 87 = .ok (.goto (-70), 3) := by decide +kernel
theorem dX6_shared_90 : decode cX6_shared 90 = .ok (.iinc 2 1, 3) := by decide +kernel
theorem dX6_shared_93 : decode cX6_shared 93 = .ok (.goto (-89), 3) := by decide +kernel
theorem dX6_shared_96 : decode cX6_shared 96 = .ok (.iload_n 1, 1) := by decide +kernel
theorem dX6_shared_97 : decode cX6_shared 97 = .ok (.ireturn, 1) := by decide +kernel
theorem dX6_about_0 : decode cX6_about 0 = .ok (.iload_n 1, 1) := by decide +kernel
theorem dX6_about_1 : decode cX6_about 1 = .ok (.tableswitch 118 0 8 #[51, 59, 67, 75, 90, 98, 103, 108, 113], 51) := by decide +kernel
theorem dX6_about_52 : decode cX6_about 52 = .ok (.aload_n 0, 1) := by decide +kernel
theorem dX6_about_53 : decode cX6_about 53 = .ok (.getfield 13, 3) := by decide +kernel
theorem dX6_about_56 : decode cX6_about 56 = .ok (.bipush 83, 2) := by decide +kernel
theorem dX6_about_58 : decode cX6_about 58 = .ok (.iaload, 1) := by decide +kernel
theorem dX6_about_59 : decode cX6_about 59 = .ok (.ireturn, 1) := by decide +kernel
theorem dX6_about_60 : decode cX6_about 60 = .ok (.aload_n 0, 1) := by decide +kernel
theorem dX6_about_61 : decode cX6_about 61 = .ok (.getfield 13, 3) := by decide +kernel
theorem dX6_about_64 : decode cX6_about 64 = .ok (.bipush 80, 2) := by decide +kernel
theorem dX6_about_66 : decode cX6_about 66 = .ok (.iaload, 1) := by decide +kernel
theorem dX6_about_67 : decode cX6_about 67 = .ok (.ireturn, 1) := by decide +kernel
theorem dX6_about_68 : decode cX6_about 68 = .ok (.aload_n 0, 1) := by decide +kernel
theorem dX6_about_69 : decode cX6_about 69 = .ok (.getfield 13, 3) := by decide +kernel
theorem dX6_about_72 : decode cX6_about 72 = .ok (.bipush 81, 2) := by decide +kernel
theorem dX6_about_74 : decode cX6_about 74 = .ok (.iaload, 1) := by decide +kernel
theorem dX6_about_75 : decode cX6_about 75 = .ok (.ireturn, 1) := by decide +kernel
theorem dX6_about_76 : decode cX6_about 76 = .ok (.aload_n 0, 1) := by decide +kernel
theorem dX6_about_77 : decode cX6_about 77 = .ok (.getfield 13, 3) := by decide +kernel
theorem dX6_about_80 : decode cX6_about 80 = .ok (.aload_n 0, 1) := by decide +kernel
theorem dX6_about_81 : decode cX6_about 81 = .ok (.getfield 13, 3) := by decide +kernel
theorem dX6_about_84 : decode cX6_about 84 = .ok (.bipush 81, 2) := by decide +kernel
theorem dX6_about_86 : decode cX6_about 86 = .ok (.iaload, 1) := by decide +kernel
theorem dX6_about_87 : decode cX6_about 87 = .ok (.invokestatic 163, 3) := by decide +kernel
theorem dX6_about_90 : decode cX6_about 90 = .ok (.ireturn, 1) := by decide +kernel
theorem dX6_about_91 : decode cX6_about 91 = .ok (.aload_n 0, 1) := by decide +kernel
theorem dX6_about_92 : decode cX6_about 92 = .ok (.getfield 13, 3) := by decide +kernel
theorem dX6_about_95 : decode cX6_about 95 = .ok (.bipush 82, 2) := by decide +kernel
theorem dX6_about_97 : decode cX6_about 97 = .ok (.iaload, 1) := by decide +kernel
theorem dX6_about_98 : decode cX6_about 98 = .ok (.ireturn, 1) := by decide +kernel
theorem dX6_about_99 : decode cX6_about 99 = .ok (.aload_n 0, 1) := by decide +kernel
theorem dX6_about_100 : decode cX6_about 100 = .ok (.invokevirtual 199, 3) := by decide +kernel
theorem dX6_about_103 : decode cX6_about 103 = .ok (.ireturn, 1) := by decide +kernel
theorem dX6_about_104 : decode cX6_about 104 = .ok (.aload_n 0, 1) := by decide +kernel
theorem dX6_about_105 : decode cX6_about 105 = .ok (.getfield 192, 3) := by decide +kernel
theorem dX6_about_108 : decode cX6_about 108 = .ok (.ireturn, 1) := by decide +kernel
theorem dX6_about_109 : decode cX6_about 109 = .ok (.aload_n 0, 1) := by decide +kernel
theorem dX6_about_110 : decode cX6_about 110 = .ok (.getfield 202, 3) := by decide +kernel
theorem dX6_about_113 : decode cX6_about 113 = .ok (.ireturn, 1) := by decide +kernel
theorem dX6_about_114 : decode cX6_about 114 = .ok (.aload_n 0, 1) := by decide +kernel
theorem dX6_about_115 : decode cX6_about 115 = .ok (.getfield 70, 3) := by decide +kernel
theorem dX6_about_118 : decode cX6_about 118 = .ok (.ireturn, 1) := by decide +kernel
theorem dX6_about_119 : decode cX6_about 119 = .ok (.bipush (-2), 2) := by decide +kernel
theorem dX6_about_121 : decode cX6_about 121 = .ok (.ireturn, 1) := by decide +kernel
theorem dX6_element_0 : decode cX6_element 0 = .ok (.aload_n 0, 1) := by decide +kernel
theorem dX6_element_1 : decode cX6_element 1 = .ok (.iload_n 1, 1) := by decide +kernel
theorem dX6_element_2 : decode cX6_element 2 = .ok (.invokevirtual 205, 3) := by decide +kernel
theorem dX6_element_5 : decode cX6_element 5 = .ok (.ifCond .ne 5, 3) := by decide +kernel
theorem dX6_element_8 : decode cX6_element 8 = .ok (.iconst (-1), 1) := by decide +kernel
theorem dX6_element_9 : decode cX6_element 9 = .ok (.ireturn, 1) := by decide +kernel
theorem dX6_element_10 : decode cX6_element 10 = .ok (.iload_n 2, 1) := by decide +kernel
theorem dX6_element_11 : decode cX6_element 11 = .ok (.tableswitch 92 0 5 #[37, 44, 54, 63, 73, 83], 37) := by decide +kernel
theorem dX6_element_48 : decode cX6_element 48 = .ok (.aload_n 0, 1) := by decide +kernel
theorem dX6_element_49 : decode cX6_element 49 = .ok (.getfield 13, 3) := by decide +kernel
theorem dX6_element_52 : decode cX6_element 52 = .ok (.iload_n 1, 1) := by decide +kernel
theorem dX6_element_53 : decode cX6_element 53 = .ok (.iaload, 1) := by decide +kernel
theorem dX6_element_54 : decode cX6_element 54 = .ok (.ireturn, 1) := by decide +kernel
theorem dX6_element_55 : decode cX6_element 55 = .ok (.aload_n 0, 1) := by decide +kernel
theorem dX6_element_56 : decode cX6_element 56 = .ok (.getfield 13, 3) := by decide +kernel
theorem dX6_element_59 : decode cX6_element 59 = .ok (.bipush 20, 2) := by decide +kernel
theorem dX6_element_61 : decode cX6_element 61 = .ok (.iload_n 1, 1) := by decide +kernel
theorem dX6_element_62 : decode cX6_element 62 = .ok (.iadd, 1) := by decide +kernel
theorem dX6_element_63 : decode cX6_element 63 = .ok (.iaload, 1) := by decide +kernel
theorem dX6_element_64 : decode cX6_element 64 = .ok (.ireturn, 1) := by decide +kernel
theorem dX6_element_65 : decode cX6_element 65 = .ok (.aload_n 0, 1) := by decide +kernel
theorem dX6_element_66 : decode cX6_element 66 = .ok (.getfield 13, 3) := by decide +kernel
theorem dX6_element_69 : decode cX6_element 69 = .ok (.iload_n 1, 1) := by decide +kernel
theorem dX6_element_70 : decode cX6_element 70 = .ok (.invokestatic 163, 3) := by decide +kernel
theorem dX6_element_73 : decode cX6_element 73 = .ok (.ireturn, 1) := by decide +kernel
theorem dX6_element_74 : decode cX6_element 74 = .ok (.aload_n 0, 1) := by decide +kernel
theorem dX6_element_75 : decode cX6_element 75 = .ok (.getfield 13, 3) := by decide +kernel
theorem dX6_element_78 : decode cX6_element 78 = .ok (.bipush 40, 2) := by decide +kernel
theorem dX6_element_80 : decode cX6_element 80 = .ok (.iload_n 1, 1) := by decide +kernel
theorem dX6_element_81 : decode cX6_element 81 = .ok (.iadd, 1) := by decide +kernel
theorem dX6_element_82 : decode cX6_element 82 = .ok (.iaload, 1) := by decide +kernel
theorem dX6_element_83 : decode cX6_element 83 = .ok (.ireturn, 1) := by decide +kernel
theorem dX6_element_84 : decode cX6_element 84 = .ok (.aload_n 0, 1) := by decide +kernel
theorem dX6_element_85 : decode cX6_element 85 = .ok (.getfield 13, 3) := by decide +kernel
theorem dX6_element_88 : decode cX6_element 88 = .ok (.bipush 60, 2) := by decide +kernel
theorem dX6_element_90 : decode cX6_element 90 = .ok (.iload_n 1, 1) := by decide +kernel
theorem dX6_element_91 : decode cX6_element 91 = .ok (.iadd, 1) := by decide +kernel
theorem dX6_element_92 : decode cX6_element 92 = .ok (.iaload, 1) := by decide +kernel
theorem dX6_element_93 : decode cX6_element 93 = .ok (.ireturn, 1) := by decide +kernel
theorem dX6_element_94 : decode cX6_element 94 = .ok (.aload_n 0, 1) := by decide +kernel
theorem dX6_element_95 : decode cX6_element 95 = .ok (.getfield 13, 3) := by decide +kernel
theorem dX6_element_98 : decode cX6_element 98 = .ok (.iload_n 1, 1) := by decide +kernel
theorem dX6_element_99 : decode cX6_element 99 = .ok (.invokestatic 118, 3) := by decide +kernel
theorem dX6_element_102 : decode cX6_element 102 = .ok (.ireturn, 1) := by decide +kernel
theorem dX6_element_103 : decode cX6_element 103 = .ok (.bipush (-2), 2) := by decide +kernel
theorem dX6_element_105 : decode cX6_element 105 = .ok (.ireturn, 1) := by decide +kernel
theorem dX6_path_0 : decode cX6_path 0 = .ok (.aload_n 0, 1) := by decide +kernel
theorem dX6_path_1 : decode cX6_path 1 = .ok (.iload_n 1, 1) := by decide +kernel
theorem dX6_path_2 : decode cX6_path 2 = .ok (.invokevirtual 208, 3) := by decide +kernel
theorem dX6_path_5 : decode cX6_path 5 = .ok (.ifCond .ne 5, 3) := by decide +kernel
theorem dX6_path_8 : decode cX6_path 8 = .ok (.iconst (-1), 1) := by decide +kernel
theorem dX6_path_9 : decode cX6_path 9 = .ok (.ireturn, 1) := by decide +kernel
theorem dX6_path_10 : decode cX6_path 10 = .ok (.iload_n 2, 1) := by decide +kernel
theorem dX6_path_11 : decode cX6_path 11 = .ok (.tableswitch 158 0 6 #[41, 51, 64, 77, 87, 97, 110], 41) := by decide +kernel
theorem dX6_path_52 : decode cX6_path 52 = .ok (.aload_n 0, 1) := by decide +kernel
theorem dX6_path_53 : decode cX6_path 53 = .ok (.getfield 13, 3) := by decide +kernel
theorem dX6_path_56 : decode cX6_path 56 = .ok (.bipush 84, 2) := by decide +kernel
theorem dX6_path_58 : decode cX6_path 58 = .ok (.iload_n 1, 1) := by decide +kernel
theorem dX6_path_59 : decode cX6_path 59 = .ok (.iadd, 1) := by decide +kernel
theorem dX6_path_60 : decode cX6_path 60 = .ok (.iaload, 1) := by decide +kernel
theorem dX6_path_61 : decode cX6_path 61 = .ok (.ireturn, 1) := by decide +kernel
theorem dX6_path_62 : decode cX6_path 62 = .ok (.aload_n 0, 1) := by decide +kernel
theorem dX6_path_63 : decode cX6_path 63 = .ok (.aload_n 0, 1) := by decide +kernel
theorem dX6_path_64 : decode cX6_path 64 = .ok (.getfield 13, 3) := by decide +kernel
theorem dX6_path_67 : decode cX6_path 67 = .ok (.iload_n 1, 1) := by decide +kernel
theorem dX6_path_68 : decode cX6_path 68 = .ok (.invokevirtual 144, 3) := by decide +kernel
theorem dX6_path_71 : decode cX6_path 71 = .ok (.invokestatic 153, 3) := by decide +kernel
theorem dX6_path_74 : decode cX6_path 74 = .ok (.ireturn, 1) := by decide +kernel
theorem dX6_path_75 : decode cX6_path 75 = .ok (.aload_n 0, 1) := by decide +kernel
theorem dX6_path_76 : decode cX6_path 76 = .ok (.aload_n 0, 1) := by decide +kernel
theorem dX6_path_77 : decode cX6_path 77 = .ok (.getfield 13, 3) := by decide +kernel
theorem dX6_path_80 : decode cX6_path 80 = .ok (.iload_n 1, 1) := by decide +kernel
theorem dX6_path_81 : decode cX6_path 81 = .ok (.invokevirtual 150, 3) := by decide +kernel
theorem dX6_path_84 : decode cX6_path 84 = .ok (.invokestatic 153, 3) := by decide +kernel
theorem dX6_path_87 : decode cX6_path 87 = .ok (.ireturn, 1) := by decide +kernel
theorem dX6_path_88 : decode cX6_path 88 = .ok (.aload_n 0, 1) := by decide +kernel
theorem dX6_path_89 : decode cX6_path 89 = .ok (.aload_n 0, 1) := by decide +kernel
theorem dX6_path_90 : decode cX6_path 90 = .ok (.getfield 13, 3) := by decide +kernel
theorem dX6_path_93 : decode cX6_path 93 = .ok (.iload_n 1, 1) := by decide +kernel
theorem dX6_path_94 : decode cX6_path 94 = .ok (.invokevirtual 157, 3) := by decide +kernel
theorem dX6_path_97 : decode cX6_path 97 = .ok (.ireturn, 1) := by decide +kernel
theorem dX6_path_98 : decode cX6_path 98 = .ok (.aload_n 0, 1) := by decide +kernel
theorem dX6_path_99 : decode cX6_path 99 = .ok (.getfield 13, 3) := by decide +kernel
theorem dX6_path_102 : decode cX6_path 102 = .ok (.bipush 109, 2) := by decide +kernel
theorem dX6_path_104 : decode cX6_path 104 = .ok (.iload_n 1, 1) := by decide +kernel
theorem dX6_path_105 : decode cX6_path 105 = .ok (.iadd, 1) := by decide +kernel
theorem dX6_path_106 : decode cX6_path 106 = .ok (.iaload, 1) := by decide +kernel
theorem dX6_path_107 : decode cX6_path 107 = .ok (.ireturn, 1) := by decide +kernel
theorem dX6_path_108 : decode cX6_path 108 = .ok (.aload_n 0, 1) := by decide +kernel
theorem dX6_path_109 : decode cX6_path 109 = .ok (.aload_n 0, 1) := by decide +kernel
theorem dX6_path_110 : decode cX6_path 110 = .ok (.getfield 13, 3) := by decide +kernel
theorem dX6_path_113 : decode cX6_path 113 = .ok (.iload_n 1, 1) := by decide +kernel
theorem dX6_path_114 : decode cX6_path 114 = .ok (.invokevirtual 147, 3) := by decide +kernel
theorem dX6_path_117 : decode cX6_path 117 = .ok (.invokestatic 153, 3) := by decide +kernel
theorem dX6_path_120 : decode cX6_path 120 = .ok (.ireturn, 1) := by decide +kernel
theorem dX6_path_121 : decode cX6_path 121 = .ok (.aload_n 0, 1) := by decide +kernel
theorem dX6_path_122 : decode cX6_path 122 = .ok (.getfield 13, 3) := by decide +kernel
theorem dX6_path_125 : decode cX6_path 125 = .ok (.aload_n 0, 1) := by decide +kernel
theorem dX6_path_126 : decode cX6_path 126 = .ok (.getfield 16, 3) := by decide +kernel
theorem dX6_path_129 : decode cX6_path 129 = .ok (.invokestatic 211, 3) := by decide +kernel
theorem dX6_path_132 : decode cX6_path 132 = .ok (.aload_n 0, 1) := by decide +kernel
theorem dX6_path_133 : decode cX6_path 133 = .ok (.getfield 16, 3) := by decide +kernel
theorem dX6_path_136 : decode cX6_path 136 = .ok (.bipush 81, 2) := by decide +kernel
theorem dX6_path_138 : decode cX6_path 138 = .ok (.iaload, 1) := by decide +kernel
theorem dX6_path_139 : decode cX6_path 139 = .ok (.bipush (-9), 2) := by decide +kernel
theorem dX6_path_141 : decode cX6_path 141 = .ok (.if_icmp .eq 15, 3) := by decide +kernel
theorem dX6_path_144 : decode cX6_path 144 = .ok (.aload_n 0, 1) := by decide +kernel
theorem dX6_path_145 : decode cX6_path 145 = .ok (.aload_n 0, 1) := by decide +kernel
theorem dX6_path_146 : decode cX6_path 146 = .ok (.getfield 16, 3) := by decide +kernel
theorem dX6_path_149 : decode cX6_path 149 = .ok (.invokevirtual 178, 3) := by decide +kernel
theorem dX6_path_152 : decode cX6_path 152 = .ok (.istore_n 3, 1) := by decide +kernel
theorem dX6_path_153 : decode cX6_path 153 = .ok (.goto (-21), 3) := by decide +kernel
theorem dX6_path_156 : decode cX6_path 156 = .ok (.aload_n 0, 1) := by decide +kernel
theorem dX6_path_157 : decode cX6_path 157 = .ok (.aload_n 0, 1) := by decide +kernel
theorem dX6_path_158 : decode cX6_path 158 = .ok (.getfield 16, 3) := by decide +kernel
theorem dX6_path_161 : decode cX6_path 161 = .ok (.iload_n 1, 1) := by decide +kernel
theorem dX6_path_162 : decode cX6_path 162 = .ok (.invokevirtual 150, 3) := by decide +kernel
theorem dX6_path_165 : decode cX6_path 165 = .ok (.invokestatic 153, 3) := by decide +kernel
theorem dX6_path_168 : decode cX6_path 168 = .ok (.ireturn, 1) := by decide +kernel
theorem dX6_path_169 : decode cX6_path 169 = .ok (.bipush (-2), 2) := by decide +kernel
theorem dX6_path_171 : decode cX6_path 171 = .ok (.ireturn, 1) := by decide +kernel
theorem dX6_step_0 : decode cX6_step 0 = .ok (.aload_n 0, 1) := by decide +kernel
theorem dX6_step_1 : decode cX6_step 1 = .ok (.iload_n 1, 1) := by decide +kernel
theorem dX6_step_2 : decode cX6_step 2 = .ok (.invokevirtual 208, 3) := by decide +kernel
theorem dX6_step_5 : decode cX6_step 5 = .ok (.ifCond .eq 40, 3) := by decide +kernel
theorem dX6_step_8 : decode cX6_step 8 = .ok (.iload_n 2, 1) := by decide +kernel
theorem dX6_step_9 : decode cX6_step 9 = .ok (.i2l, 1) := by decide +kernel
theorem dX6_step_10 : decode cX6_step 10 = .ok (.lconst 0, 1) := by decide +kernel
theorem dX6_step_11 : decode cX6_step 11 = .ok (.aload_n 0, 1) := by decide +kernel
theorem dX6_step_12 : decode cX6_step 12 = .ok (.getfield 13, 3) := by decide +kernel
theorem dX6_step_15 : decode cX6_step 15 = .ok (.bipush 84, 2) := by decide +kernel
theorem dX6_step_17 : decode cX6_step 17 = .ok (.iload_n 1, 1) := by decide +kernel
theorem dX6_step_18 : decode cX6_step 18 = .ok (.iadd, 1) := by decide +kernel
theorem dX6_step_19 : decode cX6_step 19 = .ok (.iaload, 1) := by decide +kernel
theorem dX6_step_20 : decode cX6_step 20 = .ok (.iconst 1, 1) := by decide +kernel
theorem dX6_step_21 : decode cX6_step 21 = .ok (.isub, 1) := by decide +kernel
theorem dX6_step_22 : decode cX6_step 22 = .ok (.i2l, 1) := by decide +kernel
theorem dX6_step_23 : decode cX6_step 23 = .ok (.invokestatic 64, 3) := by decide +kernel
theorem dX6_step_26 : decode cX6_step 26 = .ok (.ifCond .eq 19, 3) := by decide +kernel
theorem dX6_step_29 : decode cX6_step 29 = .ok (.aload_n 0, 1) := by decide +kernel
theorem dX6_step_30 : decode cX6_step 30 = .ok (.getfield 13, 3) := by decide +kernel
theorem dX6_step_33 : decode cX6_step 33 = .ok (.bipush 89, 2) := by decide +kernel
theorem dX6_step_35 : decode cX6_step 35 = .ok (.iconst 4, 1) := by decide +kernel
theorem dX6_step_36 : decode cX6_step 36 = .ok (.iload_n 1, 1) := by decide +kernel
theorem dX6_step_37 : decode cX6_step 37 = .ok (.imul, 1) := by decide +kernel
theorem dX6_step_38 : decode cX6_step 38 = .ok (.iadd, 1) := by decide +kernel
theorem dX6_step_39 : decode cX6_step 39 = .ok (.iload_n 2, 1) := by decide +kernel
theorem dX6_step_40 : decode cX6_step 40 = .ok (.iadd, 1) := by decide +kernel
theorem dX6_step_41 : decode cX6_step 41 = .ok (.iaload, 1) := by decide +kernel
theorem dX6_step_42 : decode cX6_step 42 = .ok (.goto 4, 3) := by decide +kernel
theorem dX6_step_45 : decode cX6_step 45 = .ok (.iconst (-1), 1) := by decide +kernel
theorem dX6_step_46 : decode cX6_step 46 = .ok (.ireturn, 1) := by decide +kernel
theorem dX6_is_0 : decode cX6_is 0 = .ok (.aload_n 0, 1) := by decide +kernel
theorem dX6_is_1 : decode cX6_is 1 = .ok (.iload_n 1, 1) := by decide +kernel
theorem dX6_is_2 : decode cX6_is 2 = .ok (.invokevirtual 208, 3) := by decide +kernel
theorem dX6_is_5 : decode cX6_is 5 = .ok (.ifCond .eq 11, 3) := by decide +kernel
theorem dX6_is_8 : decode cX6_is 8 = .ok (.aload_n 0, 1) := by decide +kernel
theorem dX6_is_9 : decode cX6_is 9 = .ok (.iload_n 2, 1) := by decide +kernel
theorem dX6_is_10 : decode cX6_is 10 = .ok (.invokevirtual 205, 3) := by decide +kernel
theorem dX6_is_13 : decode cX6_is 13 = .ok (.ifCond .ne 5, 3) := by decide +kernel
theorem dX6_is_16 : decode cX6_is 16 = .ok (.iconst (-1), 1) := by decide +kernel
theorem dX6_is_17 : decode cX6_is 17 = .ok (.ireturn, 1) := by decide +kernel
theorem dX6_is_18 : decode cX6_is 18 = .ok (.aload_n 0, 1) := by decide +kernel
theorem dX6_is_19 : decode cX6_is 19 = .ok (.aload_n 0, 1) := by decide +kernel
theorem dX6_is_20 : decode cX6_is 20 = .ok (.getfield 13, 3) := by decide +kernel
theorem dX6_is_23 : decode cX6_is 23 = .ok (.iload_n 1, 1) := by decide +kernel
theorem dX6_is_24 : decode cX6_is 24 = .ok (.iload_n 2, 1) := by decide +kernel
theorem dX6_is_25 : decode cX6_is 25 = .ok (.iconst 0, 1) := by decide +kernel
theorem dX6_is_26 : decode cX6_is 26 = .ok (.invokevirtual 141, 3) := by decide +kernel
theorem dX6_is_29 : decode cX6_is 29 = .ok (.ifCond .eq 7, 3) := by decide +kernel
theorem dX6_is_32 : decode cX6_is 32 = .ok (.iconst 2, 1) := by decide +kernel
theorem dX6_is_33 : decode cX6_is 33 = .ok (.goto 22, 3) := by decide +kernel
theorem dX6_is_36 : decode cX6_is 36 = .ok (.aload_n 0, 1) := by decide +kernel
theorem dX6_is_37 : decode cX6_is 37 = .ok (.aload_n 0, 1) := by decide +kernel
theorem dX6_is_38 : decode cX6_is 38 = .ok (.getfield 13, 3) := by decide +kernel
theorem dX6_is_41 : decode cX6_is 41 = .ok (.iload_n 1, 1) := by decide +kernel
theorem dX6_is_42 : decode cX6_is 42 = .ok (.iload_n 2, 1) := by decide +kernel
theorem dX6_is_43 : decode cX6_is 43 = .ok (.iconst 1, 1) := by decide +kernel
theorem dX6_is_44 : decode cX6_is 44 = .ok (.invokevirtual 141, 3) := by decide +kernel
theorem dX6_is_47 : decode cX6_is 47 = .ok (.ifCond .eq 7, 3) := by decide +kernel
theorem dX6_is_50 : decode cX6_is 50 = .ok (.iconst 1, 1) := by decide +kernel
theorem dX6_is_51 : decode cX6_is 51 = .ok (.goto 4, 3) := by decide +kernel
theorem dX6_is_54 : decode cX6_is 54 = .ok (.iconst 0, 1) := by decide +kernel
theorem dX6_is_55 : decode cX6_is 55 = .ok (.ireturn, 1) := by decide +kernel
theorem dX6_ends_0 : decode cX6_ends 0 = .ok (.aload_n 0, 1) := by decide +kernel
theorem dX6_ends_1 : decode cX6_ends 1 = .ok (.iload_n 1, 1) := by decide +kernel
theorem dX6_ends_2 : decode cX6_ends 2 = .ok (.invokevirtual 208, 3) := by decide +kernel
theorem dX6_ends_5 : decode cX6_ends 5 = .ok (.ifCond .eq 25, 3) := by decide +kernel
theorem dX6_ends_8 : decode cX6_ends 8 = .ok (.aload_n 0, 1) := by decide +kernel
theorem dX6_ends_9 : decode cX6_ends 9 = .ok (.iload_n 2, 1) := by decide +kernel
theorem dX6_ends_10 : decode cX6_ends 10 = .ok (.invokevirtual 205, 3) := by decide +kernel
theorem dX6_ends_13 : decode cX6_ends 13 = .ok (.ifCond .eq 17, 3) := by decide +kernel
theorem dX6_ends_16 : decode cX6_ends 16 = .ok (.aload_n 0, 1) := by decide +kernel
theorem dX6_ends_17 : decode cX6_ends 17 = .ok (.aload_n 0, 1) := by decide +kernel
theorem dX6_ends_18 : decode cX6_ends 18 = .ok (.getfield 13, 3) := by decide +kernel
theorem dX6_ends_21 : decode cX6_ends 21 = .ok (.iload_n 1, 1) := by decide +kernel
theorem dX6_ends_22 : decode cX6_ends 22 = .ok (.iload_n 2, 1) := by decide +kernel
theorem dX6_ends_23 : decode cX6_ends 23 = .ok (.iconst 0, 1) := by decide +kernel
theorem dX6_ends_24 : decode cX6_ends 24 = .ok (.invokevirtual 137, 3) := by decide +kernel
theorem dX6_ends_27 : decode cX6_ends 27 = .ok (.goto 4, 3) := by decide +kernel
theorem dX6_ends_30 : decode cX6_ends 30 = .ok (.iconst (-1), 1) := by decide +kernel
theorem dX6_ends_31 : decode cX6_ends 31 = .ok (.ireturn, 1) := by decide +kernel
theorem dX6_out_0 : decode cX6_out 0 = .ok (.aload_n 0, 1) := by decide +kernel
theorem dX6_out_1 : decode cX6_out 1 = .ok (.iload_n 1, 1) := by decide +kernel
theorem dX6_out_2 : decode cX6_out 2 = .ok (.invokevirtual 208, 3) := by decide +kernel
theorem dX6_out_5 : decode cX6_out 5 = .ok (.ifCond .ne 5, 3) := by decide +kernel
theorem dX6_out_8 : decode cX6_out 8 = .ok (.iconst (-1), 1) := by decide +kernel
theorem dX6_out_9 : decode cX6_out 9 = .ok (.ireturn, 1) := by decide +kernel
theorem dX6_out_10 : decode cX6_out 10 = .ok (.aload_n 0, 1) := by decide +kernel
theorem dX6_out_11 : decode cX6_out 11 = .ok (.aload_n 0, 1) := by decide +kernel
theorem dX6_out_12 : decode cX6_out 12 = .ok (.getfield 13, 3) := by decide +kernel
theorem dX6_out_15 : decode cX6_out 15 = .ok (.iload_n 1, 1) := by decide +kernel
theorem dX6_out_16 : decode cX6_out 16 = .ok (.invokevirtual 150, 3) := by decide +kernel
theorem dX6_out_19 : decode cX6_out 19 = .ok (.istore 4, 2) := by decide +kernel
theorem dX6_out_21 : decode cX6_out 21 = .ok (.iload_n 2, 1) := by decide +kernel
theorem dX6_out_22 : decode cX6_out 22 = .ok (.istore 5, 2) := by decide +kernel
theorem dX6_out_24 : decode cX6_out 24 = .ok (.iconst 0, 1) := by decide +kernel
theorem dX6_out_25 : decode cX6_out 25 = .ok (.istore 6, 2) := by decide +kernel
theorem dX6_out_27 : decode cX6_out 27 = .ok (.iload 6, 2) := by decide +kernel
theorem dX6_out_29 : decode cX6_out 29 = .ok (.bipush 20, 2) := by decide +kernel
theorem dX6_out_31 : decode cX6_out 31 = .ok (.if_icmp .ge 57, 3) := by decide +kernel
theorem dX6_out_34 : decode cX6_out 34 = .ok (.iload 5, 2) := by decide +kernel
theorem dX6_out_36 : decode cX6_out 36 = .ok (.ifCond .lt 52, 3) := by decide +kernel
theorem dX6_out_39 : decode cX6_out 39 = .ok (.iload 4, 2) := by decide +kernel
theorem dX6_out_41 : decode cX6_out 41 = .ok (.iload 6, 2) := by decide +kernel
theorem dX6_out_43 : decode cX6_out 43 = .ok (.invokestatic 122, 3) := by decide +kernel
theorem dX6_out_46 : decode cX6_out 46 = .ok (.ifCond .eq 36, 3) := by decide +kernel
theorem dX6_out_49 : decode cX6_out 49 = .ok (.iload 5, 2) := by decide +kernel
theorem dX6_out_51 : decode cX6_out 51 = .ok (.ifCond .ne 28, 3) := by decide +kernel
theorem dX6_out_54 : decode cX6_out 54 = .ok (.iload_n 3, 1) := by decide +kernel
theorem dX6_out_55 : decode cX6_out 55 = .ok (.ifCond .eq 21, 3) := by decide +kernel
theorem dX6_out_58 : decode cX6_out 58 = .ok (.aload_n 0, 1) := by decide +kernel
theorem dX6_out_59 : decode cX6_out 59 = .ok (.getfield 13, 3) := by decide +kernel
theorem dX6_out_62 : decode cX6_out 62 = .ok (.bipush 114, 2) := by decide +kernel
theorem dX6_out_64 : decode cX6_out 64 = .ok (.bipush 20, 2) := by decide +kernel
theorem dX6_out_66 : decode cX6_out 66 = .ok (.iload_n 1, 1) := by decide +kernel
theorem dX6_out_67 : decode cX6_out 67 = .ok (.imul, 1) := by decide +kernel
theorem dX6_out_68 : decode cX6_out 68 = .ok (.iadd, 1) := by decide +kernel
theorem dX6_out_69 : decode cX6_out 69 = .ok (.iload 6, 2) := by decide +kernel
theorem dX6_out_71 : decode cX6_out 71 = .ok (.iadd, 1) := by decide +kernel
theorem dX6_out_72 : decode cX6_out 72 = .ok (.iaload, 1) := by decide +kernel
theorem dX6_out_73 : decode cX6_out 73 = .ok (.goto 5, 3) := by decide +kernel
theorem dX6_out_76 : decode cX6_out 76 = .ok (.iload 6, 2) := by decide +kernel
theorem dX6_out_78 : decode cX6_out 78 = .ok (.ireturn, 1) := by decide +kernel
theorem dX6_out_79 : decode cX6_out 79 = .ok (.iinc 5 (-1), 3) := by decide +kernel
theorem dX6_out_82 : decode cX6_out 82 = .ok (.iinc 6 1, 3) := by decide +kernel
theorem dX6_out_85 : decode cX6_out 85 = .ok (.goto (-58), 3) := by decide +kernel
theorem dX6_out_88 : decode cX6_out 88 = .ok (.bipush (-9), 2) := by decide +kernel
theorem dX6_out_90 : decode cX6_out 90 = .ok (.ireturn, 1) := by decide +kernel
theorem dX6_note_0 : decode cX6_note 0 = .ok (.iconst 0, 1) := by decide +kernel
theorem dX6_note_1 : decode cX6_note 1 = .ok (.istore_n 1, 1) := by decide +kernel
theorem dX6_note_2 : decode cX6_note 2 = .ok (.iload_n 1, 1) := by decide +kernel
theorem dX6_note_3 : decode cX6_note 3 = .ok (.sipush 214, 3) := by decide +kernel
theorem dX6_note_6 : decode cX6_note 6 = .ok (.if_icmp .ge 30, 3) := by decide +kernel
theorem dX6_note_9 : decode cX6_note 9 = .ok (.aload_n 0, 1) := by decide +kernel
theorem dX6_note_10 : decode cX6_note 10 = .ok (.getfield 19, 3) := by decide +kernel
theorem dX6_note_13 : decode cX6_note 13 = .ok (.sipush 214, 3) := by decide +kernel
theorem dX6_note_16 : decode cX6_note 16 = .ok (.aload_n 0, 1) := by decide +kernel
theorem dX6_note_17 : decode cX6_note 17 = .ok (.getfield 215, 3) := by decide +kernel
theorem dX6_note_20 : decode cX6_note 20 = .ok (.imul, 1) := by decide +kernel
theorem dX6_note_21 : decode cX6_note 21 = .ok (.iload_n 1, 1) := by decide +kernel
theorem dX6_note_22 : decode cX6_note 22 = .ok (.iadd, 1) := by decide +kernel
theorem dX6_note_23 : decode cX6_note 23 = .ok (.aload_n 0, 1) := by decide +kernel
theorem dX6_note_24 : decode cX6_note 24 = .ok (.getfield 13, 3) := by decide +kernel
theorem dX6_note_27 : decode cX6_note 27 = .ok (.iload_n 1, 1) := by decide +kernel
theorem dX6_note_28 : decode cX6_note 28 = .ok (.iaload, 1) := by decide +kernel
theorem dX6_note_29 : decode cX6_note 29 = .ok (.iastore, 1) := by decide +kernel
theorem dX6_note_30 : decode cX6_note 30 = .ok (.iinc 1 1, 3) := by decide +kernel
theorem dX6_note_33 : decode cX6_note 33 = .ok (.goto (-31), 3) := by decide +kernel
theorem dX6_note_36 : decode cX6_note 36 = .ok (.aload_n 0, 1) := by decide +kernel
theorem dX6_note_37 : decode cX6_note 37 = .ok (.aload_n 0, 1) := by decide +kernel
theorem dX6_note_38 : decode cX6_note 38 = .ok (.getfield 215, 3) := by decide +kernel
theorem dX6_note_41 : decode cX6_note 41 = .ok (.iconst 1, 1) := by decide +kernel
theorem dX6_note_42 : decode cX6_note 42 = .ok (.iadd, 1) := by decide +kernel
theorem dX6_note_43 : decode cX6_note 43 = .ok (.bipush 14, 2) := by decide +kernel
theorem dX6_note_45 : decode cX6_note 45 = .ok (.irem, 1) := by decide +kernel
theorem dX6_note_46 : decode cX6_note 46 = .ok (.putfield 215, 3) := by decide +kernel
theorem dX6_note_49 : decode cX6_note 49 = .ok (.aload_n 0, 1) := by decide +kernel
theorem dX6_note_50 : decode cX6_note 50 = .ok (.aload_n 0, 1) := by decide +kernel
theorem dX6_note_51 : decode cX6_note 51 = .ok (.getfield 192, 3) := by decide +kernel
theorem dX6_note_54 : decode cX6_note 54 = .ok (.bipush 14, 2) := by decide +kernel
theorem dX6_note_56 : decode cX6_note 56 = .ok (.if_icmp .ge 12, 3) := by decide +kernel
theorem dX6_note_59 : decode cX6_note 59 = .ok (.aload_n 0, 1) := by decide +kernel
theorem dX6_note_60 : decode cX6_note 60 = .ok (.getfield 192, 3) := by decide +kernel
theorem dX6_note_63 : decode cX6_note 63 = .ok (.iconst 1, 1) := by decide +kernel
theorem dX6_note_64 : decode cX6_note 64 = .ok (.iadd, 1) := by decide +kernel
theorem dX6_note_65 : decode cX6_note 65 = .ok (.goto 5, 3) := by decide +kernel
theorem dX6_note_68 : decode cX6_note 68 = .ok (.bipush 14, 2) := by decide +kernel
theorem dX6_note_70 : decode cX6_note 70 = .ok (.putfield 192, 3) := by decide +kernel
theorem dX6_note_73 : decode cX6_note 73 = .ok (.return_, 1) := by decide +kernel
theorem dX6_open_0 : decode cX6_open 0 = .ok (.iload_n 1, 1) := by decide +kernel
theorem dX6_open_1 : decode cX6_open 1 = .ok (.i2l, 1) := by decide +kernel
theorem dX6_open_2 : decode cX6_open 2 = .ok (.lconst 0, 1) := by decide +kernel
theorem dX6_open_3 : decode cX6_open 3 = .ok (.ldc2_w 106, 3) := by decide +kernel
theorem dX6_open_6 : decode cX6_open 6 = .ok (.invokestatic 64, 3) := by decide +kernel
theorem dX6_open_9 : decode cX6_open 9 = .ok (.ifCond .ne 6, 3) := by decide +kernel
theorem dX6_open_12 : decode cX6_open 12 = .ok (.bipush (-2), 2) := by decide +kernel
theorem dX6_open_14 : decode cX6_open 14 = .ok (.ireturn, 1) := by decide +kernel
theorem dX6_open_15 : decode cX6_open 15 = .ok (.aload_n 0, 1) := by decide +kernel
theorem dX6_open_16 : decode cX6_open 16 = .ok (.getfield 13, 3) := by decide +kernel
theorem dX6_open_19 : decode cX6_open 19 = .ok (.invokestatic 170, 3) := by decide +kernel
theorem dX6_open_22 : decode cX6_open 22 = .ok (.ifCond .ne 6, 3) := by decide +kernel
theorem dX6_open_25 : decode cX6_open 25 = .ok (.bipush (-3), 2) := by decide +kernel
theorem dX6_open_27 : decode cX6_open 27 = .ok (.ireturn, 1) := by decide +kernel
theorem dX6_open_28 : decode cX6_open 28 = .ok (.aload_n 0, 1) := by decide +kernel
theorem dX6_open_29 : decode cX6_open 29 = .ok (.getfield 13, 3) := by decide +kernel
theorem dX6_open_32 : decode cX6_open 32 = .ok (.bipush 80, 2) := by decide +kernel
theorem dX6_open_34 : decode cX6_open 34 = .ok (.iaload, 1) := by decide +kernel
theorem dX6_open_35 : decode cX6_open 35 = .ok (.bipush 20, 2) := by decide +kernel
theorem dX6_open_37 : decode cX6_open 37 = .ok (.if_icmp .ne 6, 3) := by decide +kernel
theorem dX6_open_40 : decode cX6_open 40 = .ok (.bipush (-4), 2) := by decide +kernel
theorem dX6_open_42 : decode cX6_open 42 = .ok (.ireturn, 1) := by decide +kernel
theorem dX6_open_43 : decode cX6_open 43 = .ok (.aload_n 0, 1) := by decide +kernel
theorem dX6_open_44 : decode cX6_open 44 = .ok (.invokevirtual 218, 3) := by decide +kernel
theorem dX6_open_47 : decode cX6_open 47 = .ok (.aload_n 0, 1) := by decide +kernel
theorem dX6_open_48 : decode cX6_open 48 = .ok (.aload_n 0, 1) := by decide +kernel
theorem dX6_open_49 : decode cX6_open 49 = .ok (.getfield 13, 3) := by decide +kernel
theorem dX6_open_52 : decode cX6_open 52 = .ok (.iload_n 1, 1) := by decide +kernel
theorem dX6_open_53 : decode cX6_open 53 = .ok (.invokevirtual 174, 3) := by decide +kernel
theorem dX6_open_56 : decode cX6_open 56 = .ok (.aload_n 0, 1) := by decide +kernel
theorem dX6_open_57 : decode cX6_open 57 = .ok (.getfield 13, 3) := by decide +kernel
theorem dX6_open_60 : decode cX6_open 60 = .ok (.bipush 80, 2) := by decide +kernel
theorem dX6_open_62 : decode cX6_open 62 = .ok (.iaload, 1) := by decide +kernel
theorem dX6_open_63 : decode cX6_open 63 = .ok (.iconst 1, 1) := by decide +kernel
theorem dX6_open_64 : decode cX6_open 64 = .ok (.isub, 1) := by decide +kernel
theorem dX6_open_65 : decode cX6_open 65 = .ok (.ireturn, 1) := by decide +kernel
theorem dX6_close_0 : decode cX6_close 0 = .ok (.aload_n 0, 1) := by decide +kernel
theorem dX6_close_1 : decode cX6_close 1 = .ok (.getfield 13, 3) := by decide +kernel
theorem dX6_close_4 : decode cX6_close 4 = .ok (.bipush 81, 2) := by decide +kernel
theorem dX6_close_6 : decode cX6_close 6 = .ok (.iaload, 1) := by decide +kernel
theorem dX6_close_7 : decode cX6_close 7 = .ok (.bipush (-9), 2) := by decide +kernel
theorem dX6_close_9 : decode cX6_close 9 = .ok (.if_icmp .ne 6, 3) := by decide +kernel
theorem dX6_close_12 : decode cX6_close 12 = .ok (.bipush (-3), 2) := by decide +kernel
theorem dX6_close_14 : decode cX6_close 14 = .ok (.ireturn, 1) := by decide +kernel
theorem dX6_close_15 : decode cX6_close 15 = .ok (.aload_n 0, 1) := by decide +kernel
theorem dX6_close_16 : decode cX6_close 16 = .ok (.invokevirtual 218, 3) := by decide +kernel
theorem dX6_close_19 : decode cX6_close 19 = .ok (.aload_n 0, 1) := by decide +kernel
theorem dX6_close_20 : decode cX6_close 20 = .ok (.aload_n 0, 1) := by decide +kernel
theorem dX6_close_21 : decode cX6_close 21 = .ok (.getfield 13, 3) := by decide +kernel
theorem dX6_close_24 : decode cX6_close 24 = .ok (.invokevirtual 178, 3) := by decide +kernel
theorem dX6_close_27 : decode cX6_close 27 = .ok (.ireturn, 1) := by decide +kernel
theorem dX6_tell_0 : decode cX6_tell 0 = .ok (.iload_n 1, 1) := by decide +kernel
theorem dX6_tell_1 : decode cX6_tell 1 = .ok (.i2l, 1) := by decide +kernel
theorem dX6_tell_2 : decode cX6_tell 2 = .ok (.lconst 0, 1) := by decide +kernel
theorem dX6_tell_3 : decode cX6_tell 3 = .ok (.ldc2_w 221, 3) := by decide +kernel
theorem dX6_tell_6 : decode cX6_tell 6 = .ok (.invokestatic 64, 3) := by decide +kernel
theorem dX6_tell_9 : decode cX6_tell 9 = .ok (.ifCond .ne 6, 3) := by decide +kernel
theorem dX6_tell_12 : decode cX6_tell 12 = .ok (.bipush (-2), 2) := by decide +kernel
theorem dX6_tell_14 : decode cX6_tell 14 = .ok (.ireturn, 1) := by decide +kernel
theorem dX6_tell_15 : decode cX6_tell 15 = .ok (.aload_n 0, 1) := by decide +kernel
theorem dX6_tell_16 : decode cX6_tell 16 = .ok (.getfield 13, 3) := by decide +kernel
theorem dX6_tell_19 : decode cX6_tell 19 = .ok (.bipush 81, 2) := by decide +kernel
theorem dX6_tell_21 : decode cX6_tell 21 = .ok (.iaload, 1) := by decide +kernel
theorem dX6_tell_22 : decode cX6_tell 22 = .ok (.bipush (-9), 2) := by decide +kernel
theorem dX6_tell_24 : decode cX6_tell 24 = .ok (.if_icmp .ne 6, 3) := by decide +kernel
theorem dX6_tell_27 : decode cX6_tell 27 = .ok (.bipush (-3), 2) := by decide +kernel
theorem dX6_tell_29 : decode cX6_tell 29 = .ok (.ireturn, 1) := by decide +kernel
theorem dX6_tell_30 : decode cX6_tell 30 = .ok (.aload_n 0, 1) := by decide +kernel
theorem dX6_tell_31 : decode cX6_tell 31 = .ok (.invokevirtual 218, 3) := by decide +kernel
theorem dX6_tell_34 : decode cX6_tell 34 = .ok (.aload_n 0, 1) := by decide +kernel
theorem dX6_tell_35 : decode cX6_tell 35 = .ok (.aload_n 0, 1) := by decide +kernel
theorem dX6_tell_36 : decode cX6_tell 36 = .ok (.getfield 13, 3) := by decide +kernel
theorem dX6_tell_39 : decode cX6_tell 39 = .ok (.iload_n 1, 1) := by decide +kernel
theorem dX6_tell_40 : decode cX6_tell 40 = .ok (.invokevirtual 181, 3) := by decide +kernel
theorem dX6_tell_43 : decode cX6_tell 43 = .ok (.ireturn, 1) := by decide +kernel
theorem dX6_tenThousands_0 : decode cX6_tenThousands 0 = .ok (.lconst 1, 1) := by decide +kernel
theorem dX6_tenThousands_1 : decode cX6_tenThousands 1 = .ok (.lstore_n 1, 1) := by decide +kernel
theorem dX6_tenThousands_2 : decode cX6_tenThousands 2 = .ok (.iconst 0, 1) := by decide +kernel
theorem dX6_tenThousands_3 : decode cX6_tenThousands 3 = .ok (.istore_n 3, 1) := by decide +kernel
theorem dX6_tenThousands_4 : decode cX6_tenThousands 4 = .ok (.iload_n 3, 1) := by decide +kernel
theorem dX6_tenThousands_5 : decode cX6_tenThousands 5 = .ok (.iload_n 0, 1) := by decide +kernel
theorem dX6_tenThousands_6 : decode cX6_tenThousands 6 = .ok (.if_icmp .ge 15, 3) := by decide +kernel
theorem dX6_tenThousands_9 : decode cX6_tenThousands 9 = .ok (.lload_n 1, 1) := by decide +kernel
theorem dX6_tenThousands_10 : decode cX6_tenThousands 10 = .ok (.ldc2_w 223, 3) := by decide +kernel
theorem dX6_tenThousands_13 : decode cX6_tenThousands 13 = .ok (.lmul, 1) := by decide +kernel
theorem dX6_tenThousands_14 : decode cX6_tenThousands 14 = .ok (.lstore_n 1, 1) := by decide +kernel
theorem dX6_tenThousands_15 : decode cX6_tenThousands 15 = .ok (.iinc 3 1, 3) := by decide +kernel
theorem dX6_tenThousands_18 : decode cX6_tenThousands 18 = .ok (.goto (-14), 3) := by decide +kernel
theorem dX6_tenThousands_21 : decode cX6_tenThousands 21 = .ok (.lload_n 1, 1) := by decide +kernel
theorem dX6_tenThousands_22 : decode cX6_tenThousands 22 = .ok (.lreturn, 1) := by decide +kernel
theorem dX6_isStep_0 : decode cX6_isStep 0 = .ok (.iload_n 0, 1) := by decide +kernel
theorem dX6_isStep_1 : decode cX6_isStep 1 = .ok (.sipush 1000, 3) := by decide +kernel
theorem dX6_isStep_4 : decode cX6_isStep 4 = .ok (.idiv, 1) := by decide +kernel
theorem dX6_isStep_5 : decode cX6_isStep 5 = .ok (.iconst 2, 1) := by decide +kernel
theorem dX6_isStep_6 : decode cX6_isStep 6 = .ok (.if_icmp .ge 27, 3) := by decide +kernel
theorem dX6_isStep_9 : decode cX6_isStep 9 = .ok (.iload_n 0, 1) := by decide +kernel
theorem dX6_isStep_10 : decode cX6_isStep 10 = .ok (.bipush 100, 2) := by decide +kernel
theorem dX6_isStep_12 : decode cX6_isStep 12 = .ok (.idiv, 1) := by decide +kernel
theorem dX6_isStep_13 : decode cX6_isStep 13 = .ok (.bipush 10, 2) := by decide +kernel
theorem dX6_isStep_15 : decode cX6_isStep 15 = .ok (.irem, 1) := by decide +kernel
theorem dX6_isStep_16 : decode cX6_isStep 16 = .ok (.iconst 5, 1) := by decide +kernel
theorem dX6_isStep_17 : decode cX6_isStep 17 = .ok (.if_icmp .gt 16, 3) := by decide +kernel
theorem dX6_isStep_20 : decode cX6_isStep 20 = .ok (.iload_n 0, 1) := by decide +kernel
theorem dX6_isStep_21 : decode cX6_isStep 21 = .ok (.bipush 100, 2) := by decide +kernel
theorem dX6_isStep_23 : decode cX6_isStep 23 = .ok (.irem, 1) := by decide +kernel
theorem dX6_isStep_24 : decode cX6_isStep 24 = .ok (.bipush 16, 2) := by decide +kernel
theorem dX6_isStep_26 : decode cX6_isStep 26 = .ok (.if_icmp .ge 7, 3) := by decide +kernel
theorem dX6_isStep_29 : decode cX6_isStep 29 = .ok (.iconst 1, 1) := by decide +kernel
theorem dX6_isStep_30 : decode cX6_isStep 30 = .ok (.goto 4, 3) := by decide +kernel
theorem dX6_isStep_33 : decode cX6_isStep 33 = .ok (.iconst 0, 1) := by decide +kernel
theorem dX6_isStep_34 : decode cX6_isStep 34 = .ok (.ireturn, 1) := by decide +kernel
theorem dX6_stepOf_0 : decode cX6_stepOf 0 = .ok (.iload_n 3, 1) := by decide +kernel
theorem dX6_stepOf_1 : decode cX6_stepOf 1 = .ok (.iload_n 2, 1) := by decide +kernel
theorem dX6_stepOf_2 : decode cX6_stepOf 2 = .ok (.if_icmp .ge 21, 3) := by decide +kernel
theorem dX6_stepOf_5 : decode cX6_stepOf 5 = .ok (.lload_n 0, 1) := by decide +kernel
theorem dX6_stepOf_6 : decode cX6_stepOf 6 = .ok (.iload_n 2, 1) := by decide +kernel
theorem dX6_stepOf_7 : decode cX6_stepOf 7 = .ok (.iconst 1, 1) := by decide +kernel
theorem dX6_stepOf_8 : decode cX6_stepOf 8 = .ok (.isub, 1) := by decide +kernel
theorem dX6_stepOf_9 : decode cX6_stepOf 9 = .ok (.iload_n 3, 1) := by decide +kernel
theorem dX6_stepOf_10 : decode cX6_stepOf 10 = .ok (.isub, 1) := by decide +kernel
theorem dX6_stepOf_11 : decode cX6_stepOf 11 = .ok (.invokestatic 225, 3) := by decide +kernel
theorem dX6_stepOf_14 : decode cX6_stepOf 14 = .ok (.ldiv, 1) := by decide +kernel
theorem dX6_stepOf_15 : decode cX6_stepOf 15 = .ok (.ldc2_w 223, 3) := by decide +kernel
theorem dX6_stepOf_18 : decode cX6_stepOf 18 = .ok (.lrem, 1) := by decide +kernel
theorem dX6_stepOf_19 : decode cX6_stepOf 19 = .ok (.l2i, 1) := by decide +kernel
theorem dX6_stepOf_20 : decode cX6_stepOf 20 = .ok (.goto 4, 3) := by decide +kernel
theorem dX6_stepOf_23 : decode cX6_stepOf 23 = .ok (.iconst 0, 1) := by decide +kernel
theorem dX6_stepOf_24 : decode cX6_stepOf 24 = .ok (.ireturn, 1) := by decide +kernel
theorem dX6_ask_0 : decode cX6_ask 0 = .ok (.iload_n 1, 1) := by decide +kernel
theorem dX6_ask_1 : decode cX6_ask 1 = .ok (.i2l, 1) := by decide +kernel
theorem dX6_ask_2 : decode cX6_ask 2 = .ok (.lconst 1, 1) := by decide +kernel
theorem dX6_ask_3 : decode cX6_ask 3 = .ok (.ldc2_w 106, 3) := by decide +kernel
theorem dX6_ask_6 : decode cX6_ask 6 = .ok (.invokestatic 64, 3) := by decide +kernel
theorem dX6_ask_9 : decode cX6_ask 9 = .ok (.ifCond .eq 17, 3) := by decide +kernel
theorem dX6_ask_12 : decode cX6_ask 12 = .ok (.lload_n 2, 1) := by decide +kernel
theorem dX6_ask_13 : decode cX6_ask 13 = .ok (.lconst 0, 1) := by decide +kernel
theorem dX6_ask_14 : decode cX6_ask 14 = .ok (.iload_n 1, 1) := by decide +kernel
theorem dX6_ask_15 : decode cX6_ask 15 = .ok (.invokestatic 225, 3) := by decide +kernel
theorem dX6_ask_18 : decode cX6_ask 18 = .ok (.lconst 1, 1) := by decide +kernel
theorem dX6_ask_19 : decode cX6_ask 19 = .ok (.lsub, 1) := by decide +kernel
theorem dX6_ask_20 : decode cX6_ask 20 = .ok (.invokestatic 64, 3) := by decide +kernel
theorem dX6_ask_23 : decode cX6_ask 23 = .ok (.ifCond .ne 6, 3) := by decide +kernel
theorem dX6_ask_26 : decode cX6_ask 26 = .ok (.bipush (-2), 2) := by decide +kernel
theorem dX6_ask_28 : decode cX6_ask 28 = .ok (.ireturn, 1) := by decide +kernel
theorem dX6_ask_29 : decode cX6_ask 29 = .ok (.iconst 0, 1) := by decide +kernel
theorem dX6_ask_30 : decode cX6_ask 30 = .ok (.istore 4, 2) := by decide +kernel
theorem dX6_ask_32 : decode cX6_ask 32 = .ok (.iload 4, 2) := by decide +kernel
theorem dX6_ask_34 : decode cX6_ask 34 = .ok (.iload_n 1, 1) := by decide +kernel
theorem dX6_ask_35 : decode cX6_ask 35 = .ok (.if_icmp .ge 25, 3) := by decide +kernel
theorem dX6_ask_38 : decode cX6_ask 38 = .ok (.lload_n 2, 1) := by decide +kernel
theorem dX6_ask_39 : decode cX6_ask 39 = .ok (.iload_n 1, 1) := by decide +kernel
theorem dX6_ask_40 : decode cX6_ask 40 = .ok (.iload 4, 2) := by decide +kernel
theorem dX6_ask_42 : decode cX6_ask 42 = .ok (.invokestatic 229, 3) := by decide +kernel
theorem dX6_ask_45 : decode cX6_ask 45 = .ok (.invokestatic 233, 3) := by decide +kernel
theorem dX6_ask_48 : decode cX6_ask 48 = .ok (.ifCond .ne 6, 3) := by decide +kernel
theorem dX6_ask_51 : decode cX6_ask 51 = .ok (.bipush (-2), 2) := by decide +kernel
theorem dX6_ask_53 : decode cX6_ask 53 = .ok (.ireturn, 1) := by decide +kernel
theorem dX6_ask_54 : decode cX6_ask 54 = .ok (.iinc 4 1, 3) := by decide +kernel
theorem dX6_ask_57 : decode cX6_ask 57 = .ok (.goto (-25), 3) := by decide +kernel
theorem dX6_ask_60 : decode cX6_ask 60 = .ok (.aload_n 0, 1) := by decide +kernel
theorem dX6_ask_61 : decode cX6_ask 61 = .ok (.getfield 13, 3) := by decide +kernel
theorem dX6_ask_64 : decode cX6_ask 64 = .ok (.bipush 83, 2) := by decide +kernel
theorem dX6_ask_66 : decode cX6_ask 66 = .ok (.iaload, 1) := by decide +kernel
theorem dX6_ask_67 : decode cX6_ask 67 = .ok (.iconst 5, 1) := by decide +kernel
theorem dX6_ask_68 : decode cX6_ask 68 = .ok (.if_icmp .ne 6, 3) := by decide +kernel
theorem dX6_ask_71 : decode cX6_ask 71 = .ok (.bipush (-4), 2) := by decide +kernel
theorem dX6_ask_73 : decode cX6_ask 73 = .ok (.ireturn, 1) := by decide +kernel
theorem dX6_ask_74 : decode cX6_ask 74 = .ok (.aload_n 0, 1) := by decide +kernel
theorem dX6_ask_75 : decode cX6_ask 75 = .ok (.invokevirtual 218, 3) := by decide +kernel
theorem dX6_ask_78 : decode cX6_ask 78 = .ok (.aload_n 0, 1) := by decide +kernel
theorem dX6_ask_79 : decode cX6_ask 79 = .ok (.aload_n 0, 1) := by decide +kernel
theorem dX6_ask_80 : decode cX6_ask 80 = .ok (.getfield 13, 3) := by decide +kernel
theorem dX6_ask_83 : decode cX6_ask 83 = .ok (.iload_n 1, 1) := by decide +kernel
theorem dX6_ask_84 : decode cX6_ask 84 = .ok (.lload_n 2, 1) := by decide +kernel
theorem dX6_ask_85 : decode cX6_ask 85 = .ok (.iload_n 1, 1) := by decide +kernel
theorem dX6_ask_86 : decode cX6_ask 86 = .ok (.iconst 0, 1) := by decide +kernel
theorem dX6_ask_87 : decode cX6_ask 87 = .ok (.invokestatic 229, 3) := by decide +kernel
theorem dX6_ask_90 : decode cX6_ask 90 = .ok (.lload_n 2, 1) := by decide +kernel
theorem dX6_ask_91 : decode cX6_ask 91 = .ok (.iload_n 1, 1) := by decide +kernel
theorem dX6_ask_92 : decode cX6_ask 92 = .ok (.iconst 1, 1) := by decide +kernel
theorem dX6_ask_93 : decode cX6_ask 93 = .ok (.invokestatic 229, 3) := by decide +kernel
theorem dX6_ask_96 : decode cX6_ask 96 = .ok (.lload_n 2, 1) := by decide +kernel
theorem dX6_ask_97 : decode cX6_ask 97 = .ok (.iload_n 1, 1) := by decide +kernel
theorem dX6_ask_98 : decode cX6_ask 98 = .ok (.iconst 2, 1) := by decide +kernel
theorem dX6_ask_99 : decode cX6_ask 99 = .ok (.invokestatic 229, 3) := by decide +kernel
theorem dX6_ask_102 : decode cX6_ask 102 = .ok (.lload_n 2, 1) := by decide +kernel
theorem dX6_ask_103 : decode cX6_ask 103 = .ok (.iload_n 1, 1) := by decide +kernel
theorem dX6_ask_104 : decode cX6_ask 104 = .ok (.iconst 3, 1) := by decide +kernel
theorem dX6_ask_105 : decode cX6_ask 105 = .ok (.invokestatic 229, 3) := by decide +kernel
theorem dX6_ask_108 : decode cX6_ask 108 = .ok (.invokevirtual 184, 3) := by decide +kernel
theorem dX6_ask_111 : decode cX6_ask 111 = .ok (.aload_n 0, 1) := by decide +kernel
theorem dX6_ask_112 : decode cX6_ask 112 = .ok (.getfield 13, 3) := by decide +kernel
theorem dX6_ask_115 : decode cX6_ask 115 = .ok (.bipush 83, 2) := by decide +kernel
theorem dX6_ask_117 : decode cX6_ask 117 = .ok (.iaload, 1) := by decide +kernel
theorem dX6_ask_118 : decode cX6_ask 118 = .ok (.iconst 1, 1) := by decide +kernel
theorem dX6_ask_119 : decode cX6_ask 119 = .ok (.isub, 1) := by decide +kernel
theorem dX6_ask_120 : decode cX6_ask 120 = .ok (.ireturn, 1) := by decide +kernel
theorem dX6_drop_0 : decode cX6_drop 0 = .ok (.aload_n 0, 1) := by decide +kernel
theorem dX6_drop_1 : decode cX6_drop 1 = .ok (.getfield 13, 3) := by decide +kernel
theorem dX6_drop_4 : decode cX6_drop 4 = .ok (.bipush 83, 2) := by decide +kernel
theorem dX6_drop_6 : decode cX6_drop 6 = .ok (.iaload, 1) := by decide +kernel
theorem dX6_drop_7 : decode cX6_drop 7 = .ok (.ifCond .ne 6, 3) := by decide +kernel
theorem dX6_drop_10 : decode cX6_drop 10 = .ok (.bipush (-3), 2) := by decide +kernel
theorem dX6_drop_12 : decode cX6_drop 12 = .ok (.ireturn, 1) := by decide +kernel
theorem dX6_drop_13 : decode cX6_drop 13 = .ok (.aload_n 0, 1) := by decide +kernel
theorem dX6_drop_14 : decode cX6_drop 14 = .ok (.invokevirtual 218, 3) := by decide +kernel
theorem dX6_drop_17 : decode cX6_drop 17 = .ok (.aload_n 0, 1) := by decide +kernel
theorem dX6_drop_18 : decode cX6_drop 18 = .ok (.getfield 13, 3) := by decide +kernel
theorem dX6_drop_21 : decode cX6_drop 21 = .ok (.bipush 83, 2) := by decide +kernel
theorem dX6_drop_23 : decode cX6_drop 23 = .ok (.dup2, 1) := by decide +kernel
theorem dX6_drop_24 : decode cX6_drop 24 = .ok (.iaload, 1) := by decide +kernel
theorem dX6_drop_25 : decode cX6_drop 25 = .ok (.iconst 1, 1) := by decide +kernel
theorem dX6_drop_26 : decode cX6_drop 26 = .ok (.isub, 1) := by decide +kernel
theorem dX6_drop_27 : decode cX6_drop 27 = .ok (.iastore, 1) := by decide +kernel
theorem dX6_drop_28 : decode cX6_drop 28 = .ok (.aload_n 0, 1) := by decide +kernel
theorem dX6_drop_29 : decode cX6_drop 29 = .ok (.getfield 13, 3) := by decide +kernel
theorem dX6_drop_32 : decode cX6_drop 32 = .ok (.bipush 83, 2) := by decide +kernel
theorem dX6_drop_34 : decode cX6_drop 34 = .ok (.iaload, 1) := by decide +kernel
theorem dX6_drop_35 : decode cX6_drop 35 = .ok (.ireturn, 1) := by decide +kernel
theorem dX6_undo_0 : decode cX6_undo 0 = .ok (.aload_n 0, 1) := by decide +kernel
theorem dX6_undo_1 : decode cX6_undo 1 = .ok (.getfield 192, 3) := by decide +kernel
theorem dX6_undo_4 : decode cX6_undo 4 = .ok (.ifCond .ne 6, 3) := by decide +kernel
theorem dX6_undo_7 : decode cX6_undo 7 = .ok (.bipush (-3), 2) := by decide +kernel
theorem dX6_undo_9 : decode cX6_undo 9 = .ok (.ireturn, 1) := by decide +kernel
theorem dX6_undo_10 : decode cX6_undo 10 = .ok (.aload_n 0, 1) := by decide +kernel
theorem dX6_undo_11 : decode cX6_undo 11 = .ok (.dup, 1) := by decide +kernel
theorem dX6_undo_12 : decode cX6_undo 12 = .ok (.getfield 192, 3) := by decide +kernel
theorem dX6_undo_15 : decode cX6_undo 15 = .ok (.iconst 1, 1) := by decide +kernel
theorem dX6_undo_16 : decode cX6_undo 16 = .ok (.isub, 1) := by decide +kernel
theorem dX6_undo_17 : decode cX6_undo 17 = .ok (.putfield 192, 3) := by decide +kernel
theorem dX6_undo_20 : decode cX6_undo 20 = .ok (.aload_n 0, 1) := by decide +kernel
theorem dX6_undo_21 : decode cX6_undo 21 = .ok (.aload_n 0, 1) := by decide +kernel
theorem dX6_undo_22 : decode cX6_undo 22 = .ok (.getfield 215, 3) := by decide +kernel
theorem dX6_undo_25 : decode cX6_undo 25 = .ok (.bipush 14, 2) := by decide +kernel
theorem dX6_undo_27 : decode cX6_undo 27 = .ok (.iadd, 1) := by decide +kernel
theorem dX6_undo_28 : decode cX6_undo 28 = .ok (.iconst 1, 1) := by decide +kernel
theorem dX6_undo_29 : decode cX6_undo 29 = .ok (.isub, 1) := by decide +kernel
theorem dX6_undo_30 : decode cX6_undo 30 = .ok (.bipush 14, 2) := by decide +kernel
theorem dX6_undo_32 : decode cX6_undo 32 = .ok (.irem, 1) := by decide +kernel
theorem dX6_undo_33 : decode cX6_undo 33 = .ok (.putfield 215, 3) := by decide +kernel
theorem dX6_undo_36 : decode cX6_undo 36 = .ok (.iconst 0, 1) := by decide +kernel
theorem dX6_undo_37 : decode cX6_undo 37 = .ok (.istore_n 1, 1) := by decide +kernel
theorem dX6_undo_38 : decode cX6_undo 38 = .ok (.iload_n 1, 1) := by decide +kernel
theorem dX6_undo_39 : decode cX6_undo 39 = .ok (.sipush 214, 3) := by decide +kernel
theorem dX6_undo_42 : decode cX6_undo 42 = .ok (.if_icmp .ge 30, 3) := by decide +kernel
theorem dX6_undo_45 : decode cX6_undo 45 = .ok (.aload_n 0, 1) := by decide +kernel
theorem dX6_undo_46 : decode cX6_undo 46 = .ok (.getfield 13, 3) := by decide +kernel
theorem dX6_undo_49 : decode cX6_undo 49 = .ok (.iload_n 1, 1) := by decide +kernel
theorem dX6_undo_50 : decode cX6_undo 50 = .ok (.aload_n 0, 1) := by decide +kernel
theorem dX6_undo_51 : decode cX6_undo 51 = .ok (.getfield 19, 3) := by decide +kernel
theorem dX6_undo_54 : decode cX6_undo 54 = .ok (.sipush 214, 3) := by decide +kernel
theorem dX6_undo_57 : decode cX6_undo 57 = .ok (.aload_n 0, 1) := by decide +kernel
theorem dX6_undo_58 : decode cX6_undo 58 = .ok (.getfield 215, 3) := by decide +kernel
theorem dX6_undo_61 : decode cX6_undo 61 = .ok (.imul, 1) := by decide +kernel
theorem dX6_undo_62 : decode cX6_undo 62 = .ok (.iload_n 1, 1) := by decide +kernel
theorem dX6_undo_63 : decode cX6_undo 63 = .ok (.iadd, 1) := by decide +kernel
theorem dX6_undo_64 : decode cX6_undo 64 = .ok (.iaload, 1) := by decide +kernel
theorem dX6_undo_65 : decode cX6_undo 65 = .ok (.iastore, 1) := by decide +kernel
theorem dX6_undo_66 : decode cX6_undo 66 = .ok (.iinc 1 1, 3) := by decide +kernel
theorem dX6_undo_69 : decode cX6_undo 69 = .ok (.goto (-31), 3) := by decide +kernel
theorem dX6_undo_72 : decode cX6_undo 72 = .ok (.aload_n 0, 1) := by decide +kernel
theorem dX6_undo_73 : decode cX6_undo 73 = .ok (.getfield 192, 3) := by decide +kernel
theorem dX6_undo_76 : decode cX6_undo 76 = .ok (.ireturn, 1) := by decide +kernel
theorem dX6_within_0 : decode cX6_within 0 = .ok (.aload_n 0, 1) := by decide +kernel
theorem dX6_within_1 : decode cX6_within 1 = .ok (.iload_n 1, 1) := by decide +kernel
theorem dX6_within_2 : decode cX6_within 2 = .ok (.invokevirtual 208, 3) := by decide +kernel
theorem dX6_within_5 : decode cX6_within 5 = .ok (.ifCond .eq 11, 3) := by decide +kernel
theorem dX6_within_8 : decode cX6_within 8 = .ok (.aload_n 0, 1) := by decide +kernel
theorem dX6_within_9 : decode cX6_within 9 = .ok (.iload_n 2, 1) := by decide +kernel
theorem dX6_within_10 : decode cX6_within 10 = .ok (.invokevirtual 208, 3) := by decide +kernel
theorem dX6_within_13 : decode cX6_within 13 = .ok (.ifCond .ne 5, 3) := by decide +kernel
theorem dX6_within_16 : decode cX6_within 16 = .ok (.iconst (-1), 1) := by decide +kernel
theorem dX6_within_17 : decode cX6_within 17 = .ok (.ireturn, 1) := by decide +kernel
theorem dX6_within_18 : decode cX6_within 18 = .ok (.aload_n 0, 1) := by decide +kernel
theorem dX6_within_19 : decode cX6_within 19 = .ok (.aload_n 0, 1) := by decide +kernel
theorem dX6_within_20 : decode cX6_within 20 = .ok (.getfield 13, 3) := by decide +kernel
theorem dX6_within_23 : decode cX6_within 23 = .ok (.iload_n 1, 1) := by decide +kernel
theorem dX6_within_24 : decode cX6_within 24 = .ok (.invokevirtual 144, 3) := by decide +kernel
theorem dX6_within_27 : decode cX6_within 27 = .ok (.aload_n 0, 1) := by decide +kernel
theorem dX6_within_28 : decode cX6_within 28 = .ok (.aload_n 0, 1) := by decide +kernel
theorem dX6_within_29 : decode cX6_within 29 = .ok (.getfield 13, 3) := by decide +kernel
theorem dX6_within_32 : decode cX6_within 32 = .ok (.iload_n 2, 1) := by decide +kernel
theorem dX6_within_33 : decode cX6_within 33 = .ok (.invokevirtual 144, 3) := by decide +kernel
theorem dX6_within_36 : decode cX6_within 36 = .ok (.iconst (-1), 1) := by decide +kernel
theorem dX6_within_37 : decode cX6_within 37 = .ok (.ixor, 1) := by decide +kernel
theorem dX6_within_38 : decode cX6_within 38 = .ok (.iand, 1) := by decide +kernel
theorem dX6_within_39 : decode cX6_within 39 = .ok (.ifCond .ne 7, 3) := by decide +kernel
theorem dX6_within_42 : decode cX6_within 42 = .ok (.iconst 1, 1) := by decide +kernel
theorem dX6_within_43 : decode cX6_within 43 = .ok (.goto 4, 3) := by decide +kernel
theorem dX6_within_46 : decode cX6_within 46 = .ok (.iconst 0, 1) := by decide +kernel
theorem dX6_within_47 : decode cX6_within 47 = .ok (.ireturn, 1) := by decide +kernel
theorem dX6_judged_0 : decode cX6_judged 0 = .ok (.iload_n 1, 1) := by decide +kernel
theorem dX6_judged_1 : decode cX6_judged 1 = .ok (.tableswitch 237 1 7 #[43, 70, 97, 122, 152, 182, 209], 43) := by decide +kernel
theorem dX6_judged_44 : decode cX6_judged 44 = .ok (.iload_n 2, 1) := by decide +kernel
theorem dX6_judged_45 : decode cX6_judged 45 = .ok (.ifCond .ne 24, 3) := by decide +kernel
theorem dX6_judged_48 : decode cX6_judged 48 = .ok (.iload_n 3, 1) := by decide +kernel
theorem dX6_judged_49 : decode cX6_judged 49 = .ok (.iconst 5, 1) := by decide +kernel
theorem dX6_judged_50 : decode cX6_judged 50 = .ok (.if_icmp .ge 19, 3) := by decide +kernel
theorem dX6_judged_53 : decode cX6_judged 53 = .ok (.aload_n 0, 1) := by decide +kernel
theorem dX6_judged_54 : decode cX6_judged 54 = .ok (.aload_n 0, 1) := by decide +kernel
theorem dX6_judged_55 : decode cX6_judged 55 = .ok (.getfield 16, 3) := by decide +kernel
theorem dX6_judged_58 : decode cX6_judged 58 = .ok (.iload_n 3, 1) := by decide +kernel
theorem dX6_judged_59 : decode cX6_judged 59 = .ok (.invokevirtual 188, 3) := by decide +kernel
theorem dX6_judged_62 : decode cX6_judged 62 = .ok (.ifCond .eq 7, 3) := by decide +kernel
theorem dX6_judged_65 : decode cX6_judged 65 = .ok (.iconst 1, 1) := by decide +kernel
theorem dX6_judged_66 : decode cX6_judged 66 = .ok (.goto 4, 3) := by decide +kernel
theorem dX6_judged_69 : decode cX6_judged 69 = .ok (.iconst 0, 1) := by decide +kernel
theorem dX6_judged_70 : decode cX6_judged 70 = .ok (.ireturn, 1) := by decide +kernel
theorem dX6_judged_71 : decode cX6_judged 71 = .ok (.iload_n 2, 1) := by decide +kernel
theorem dX6_judged_72 : decode cX6_judged 72 = .ok (.ifCond .ne 24, 3) := by decide +kernel
theorem dX6_judged_75 : decode cX6_judged 75 = .ok (.iload_n 3, 1) := by decide +kernel
theorem dX6_judged_76 : decode cX6_judged 76 = .ok (.ifCond .ne 20, 3) := by decide +kernel
theorem dX6_judged_79 : decode cX6_judged 79 = .ok (.aload_n 0, 1) := by decide +kernel
theorem dX6_judged_80 : decode cX6_judged 80 = .ok (.aload_n 0, 1) := by decide +kernel
theorem dX6_judged_81 : decode cX6_judged 81 = .ok (.getfield 16, 3) := by decide +kernel
theorem dX6_judged_84 : decode cX6_judged 84 = .ok (.bipush 10, 2) := by decide +kernel
theorem dX6_judged_86 : decode cX6_judged 86 = .ok (.invokevirtual 188, 3) := by decide +kernel
theorem dX6_judged_89 : decode cX6_judged 89 = .ok (.ifCond .eq 7, 3) := by decide +kernel
theorem dX6_judged_92 : decode cX6_judged 92 = .ok (.iconst 1, 1) := by decide +kernel
theorem dX6_judged_93 : decode cX6_judged 93 = .ok (.goto 4, 3) := by decide +kernel
theorem dX6_judged_96 : decode cX6_judged 96 = .ok (.iconst 0, 1) := by decide +kernel
theorem dX6_judged_97 : decode cX6_judged 97 = .ok (.ireturn, 1) := by decide +kernel
theorem dX6_judged_98 : decode cX6_judged 98 = .ok (.iload_n 2, 1) := by decide +kernel
theorem dX6_judged_99 : decode cX6_judged 99 = .ok (.ifCond .ne 22, 3) := by decide +kernel
theorem dX6_judged_102 : decode cX6_judged 102 = .ok (.aload_n 0, 1) := by decide +kernel
theorem dX6_judged_103 : decode cX6_judged 103 = .ok (.aload_n 0, 1) := by decide +kernel
theorem dX6_judged_104 : decode cX6_judged 104 = .ok (.getfield 16, 3) := by decide +kernel
theorem dX6_judged_107 : decode cX6_judged 107 = .ok (.bipush 20, 2) := by decide +kernel
theorem dX6_judged_109 : decode cX6_judged 109 = .ok (.iload_n 3, 1) := by decide +kernel
theorem dX6_judged_110 : decode cX6_judged 110 = .ok (.iadd, 1) := by decide +kernel
theorem dX6_judged_111 : decode cX6_judged 111 = .ok (.invokevirtual 188, 3) := by decide +kernel
theorem dX6_judged_114 : decode cX6_judged 114 = .ok (.ifCond .eq 7, 3) := by decide +kernel
theorem dX6_judged_117 : decode cX6_judged 117 = .ok (.iconst 1, 1) := by decide +kernel
theorem dX6_judged_118 : decode cX6_judged 118 = .ok (.goto 4, 3) := by decide +kernel
theorem dX6_judged_121 : decode cX6_judged 121 = .ok (.iconst 0, 1) := by decide +kernel
theorem dX6_judged_122 : decode cX6_judged 122 = .ok (.ireturn, 1) := by decide +kernel
theorem dX6_judged_123 : decode cX6_judged 123 = .ok (.aload_n 0, 1) := by decide +kernel
theorem dX6_judged_124 : decode cX6_judged 124 = .ok (.iload_n 2, 1) := by decide +kernel
theorem dX6_judged_125 : decode cX6_judged 125 = .ok (.invokevirtual 208, 3) := by decide +kernel
theorem dX6_judged_128 : decode cX6_judged 128 = .ok (.ifCond .eq 23, 3) := by decide +kernel
theorem dX6_judged_131 : decode cX6_judged 131 = .ok (.aload_n 0, 1) := by decide +kernel
theorem dX6_judged_132 : decode cX6_judged 132 = .ok (.aload_n 0, 1) := by decide +kernel
theorem dX6_judged_133 : decode cX6_judged 133 = .ok (.getfield 16, 3) := by decide +kernel
theorem dX6_judged_136 : decode cX6_judged 136 = .ok (.iload_n 2, 1) := by decide +kernel
theorem dX6_judged_137 : decode cX6_judged 137 = .ok (.invokevirtual 144, 3) := by decide +kernel
theorem dX6_judged_140 : decode cX6_judged 140 = .ok (.invokestatic 153, 3) := by decide +kernel
theorem dX6_judged_143 : decode cX6_judged 143 = .ok (.iload_n 3, 1) := by decide +kernel
theorem dX6_judged_144 : decode cX6_judged 144 = .ok (.if_icmp .ne 7, 3) := by decide +kernel
theorem dX6_judged_147 : decode cX6_judged 147 = .ok (.iconst 1, 1) := by decide +kernel
theorem dX6_judged_148 : decode cX6_judged 148 = .ok (.goto 4, 3) := by decide +kernel
theorem dX6_judged_151 : decode cX6_judged 151 = .ok (.iconst 0, 1) := by decide +kernel
theorem dX6_judged_152 : decode cX6_judged 152 = .ok (.ireturn, 1) := by decide +kernel
theorem dX6_judged_153 : decode cX6_judged 153 = .ok (.aload_n 0, 1) := by decide +kernel
theorem dX6_judged_154 : decode cX6_judged 154 = .ok (.iload_n 2, 1) := by decide +kernel
theorem dX6_judged_155 : decode cX6_judged 155 = .ok (.invokevirtual 208, 3) := by decide +kernel
theorem dX6_judged_158 : decode cX6_judged 158 = .ok (.ifCond .eq 23, 3) := by decide +kernel
theorem dX6_judged_161 : decode cX6_judged 161 = .ok (.aload_n 0, 1) := by decide +kernel
theorem dX6_judged_162 : decode cX6_judged 162 = .ok (.aload_n 0, 1) := by decide +kernel
theorem dX6_judged_163 : decode cX6_judged 163 = .ok (.getfield 16, 3) := by decide +kernel
theorem dX6_judged_166 : decode cX6_judged 166 = .ok (.iload_n 2, 1) := by decide +kernel
theorem dX6_judged_167 : decode cX6_judged 167 = .ok (.invokevirtual 150, 3) := by decide +kernel
theorem dX6_judged_170 : decode cX6_judged 170 = .ok (.invokestatic 153, 3) := by decide +kernel
theorem dX6_judged_173 : decode cX6_judged 173 = .ok (.iload_n 3, 1) := by decide +kernel
theorem dX6_judged_174 : decode cX6_judged 174 = .ok (.if_icmp .ne 7, 3) := by decide +kernel
theorem dX6_judged_177 : decode cX6_judged 177 = .ok (.iconst 1, 1) := by decide +kernel
theorem dX6_judged_178 : decode cX6_judged 178 = .ok (.goto 4, 3) := by decide +kernel
theorem dX6_judged_181 : decode cX6_judged 181 = .ok (.iconst 0, 1) := by decide +kernel
theorem dX6_judged_182 : decode cX6_judged 182 = .ok (.ireturn, 1) := by decide +kernel
theorem dX6_judged_183 : decode cX6_judged 183 = .ok (.aload_n 0, 1) := by decide +kernel
theorem dX6_judged_184 : decode cX6_judged 184 = .ok (.iload_n 2, 1) := by decide +kernel
theorem dX6_judged_185 : decode cX6_judged 185 = .ok (.invokevirtual 208, 3) := by decide +kernel
theorem dX6_judged_188 : decode cX6_judged 188 = .ok (.ifCond .eq 20, 3) := by decide +kernel
theorem dX6_judged_191 : decode cX6_judged 191 = .ok (.aload_n 0, 1) := by decide +kernel
theorem dX6_judged_192 : decode cX6_judged 192 = .ok (.aload_n 0, 1) := by decide +kernel
theorem dX6_judged_193 : decode cX6_judged 193 = .ok (.getfield 16, 3) := by decide +kernel
theorem dX6_judged_196 : decode cX6_judged 196 = .ok (.iload_n 2, 1) := by decide +kernel
theorem dX6_judged_197 : decode cX6_judged 197 = .ok (.invokevirtual 157, 3) := by decide +kernel
theorem dX6_judged_200 : decode cX6_judged 200 = .ok (.iload_n 3, 1) := by decide +kernel
theorem dX6_judged_201 : decode cX6_judged 201 = .ok (.if_icmp .ne 7, 3) := by decide +kernel
theorem dX6_judged_204 : decode cX6_judged 204 = .ok (.iconst 1, 1) := by decide +kernel
theorem dX6_judged_205 : decode cX6_judged 205 = .ok (.goto 4, 3) := by decide +kernel
theorem dX6_judged_208 : decode cX6_judged 208 = .ok (.iconst 0, 1) := by decide +kernel
theorem dX6_judged_209 : decode cX6_judged 209 = .ok (.ireturn, 1) := by decide +kernel
theorem dX6_judged_210 : decode cX6_judged 210 = .ok (.iload_n 2, 1) := by decide +kernel
theorem dX6_judged_211 : decode cX6_judged 211 = .ok (.ifCond .ne 25, 3) := by decide +kernel
theorem dX6_judged_214 : decode cX6_judged 214 = .ok (.aload_n 0, 1) := by decide +kernel
theorem dX6_judged_215 : decode cX6_judged 215 = .ok (.getfield 16, 3) := by decide +kernel
theorem dX6_judged_218 : decode cX6_judged 218 = .ok (.aload_n 0, 1) := by decide +kernel
theorem dX6_judged_219 : decode cX6_judged 219 = .ok (.getfield 16, 3) := by decide +kernel
theorem dX6_judged_222 : decode cX6_judged 222 = .ok (.bipush 81, 2) := by decide +kernel
theorem dX6_judged_224 : decode cX6_judged 224 = .ok (.iaload, 1) := by decide +kernel
theorem dX6_judged_225 : decode cX6_judged 225 = .ok (.invokestatic 163, 3) := by decide +kernel
theorem dX6_judged_228 : decode cX6_judged 228 = .ok (.iload_n 3, 1) := by decide +kernel
theorem dX6_judged_229 : decode cX6_judged 229 = .ok (.if_icmp .ne 7, 3) := by decide +kernel
theorem dX6_judged_232 : decode cX6_judged 232 = .ok (.iconst 1, 1) := by decide +kernel
theorem dX6_judged_233 : decode cX6_judged 233 = .ok (.goto 4, 3) := by decide +kernel
theorem dX6_judged_236 : decode cX6_judged 236 = .ok (.iconst 0, 1) := by decide +kernel
theorem dX6_judged_237 : decode cX6_judged 237 = .ok (.ireturn, 1) := by decide +kernel
theorem dX6_judged_238 : decode cX6_judged 238 = .ok (.iconst 0, 1) := by decide +kernel
theorem dX6_judged_239 : decode cX6_judged 239 = .ok (.ireturn, 1) := by decide +kernel
theorem dX6_thousands_0 : decode cX6_thousands 0 = .ok (.lconst 1, 1) := by decide +kernel
theorem dX6_thousands_1 : decode cX6_thousands 1 = .ok (.lstore_n 1, 1) := by decide +kernel
theorem dX6_thousands_2 : decode cX6_thousands 2 = .ok (.iconst 0, 1) := by decide +kernel
theorem dX6_thousands_3 : decode cX6_thousands 3 = .ok (.istore_n 3, 1) := by decide +kernel
theorem dX6_thousands_4 : decode cX6_thousands 4 = .ok (.iload_n 3, 1) := by decide +kernel
theorem dX6_thousands_5 : decode cX6_thousands 5 = .ok (.iload_n 0, 1) := by decide +kernel
theorem dX6_thousands_6 : decode cX6_thousands 6 = .ok (.if_icmp .ge 15, 3) := by decide +kernel
theorem dX6_thousands_9 : decode cX6_thousands 9 = .ok (.lload_n 1, 1) := by decide +kernel
theorem dX6_thousands_10 : decode cX6_thousands 10 = .ok (.ldc2_w 236, 3) := by decide +kernel
theorem dX6_thousands_13 : decode cX6_thousands 13 = .ok (.lmul, 1) := by decide +kernel
theorem dX6_thousands_14 : decode cX6_thousands 14 = .ok (.lstore_n 1, 1) := by decide +kernel
theorem dX6_thousands_15 : decode cX6_thousands 15 = .ok (.iinc 3 1, 3) := by decide +kernel
theorem dX6_thousands_18 : decode cX6_thousands 18 = .ok (.goto (-14), 3) := by decide +kernel
theorem dX6_thousands_21 : decode cX6_thousands 21 = .ok (.lload_n 1, 1) := by decide +kernel
theorem dX6_thousands_22 : decode cX6_thousands 22 = .ok (.lreturn, 1) := by decide +kernel
theorem dX6_judge_0 : decode cX6_judge 0 = .ok (.iload_n 1, 1) := by decide +kernel
theorem dX6_judge_1 : decode cX6_judge 1 = .ok (.i2l, 1) := by decide +kernel
theorem dX6_judge_2 : decode cX6_judge 2 = .ok (.lconst 1, 1) := by decide +kernel
theorem dX6_judge_3 : decode cX6_judge 3 = .ok (.ldc2_w 106, 3) := by decide +kernel
theorem dX6_judge_6 : decode cX6_judge 6 = .ok (.invokestatic 64, 3) := by decide +kernel
theorem dX6_judge_9 : decode cX6_judge 9 = .ok (.ifCond .eq 17, 3) := by decide +kernel
theorem dX6_judge_12 : decode cX6_judge 12 = .ok (.lload_n 2, 1) := by decide +kernel
theorem dX6_judge_13 : decode cX6_judge 13 = .ok (.lconst 0, 1) := by decide +kernel
theorem dX6_judge_14 : decode cX6_judge 14 = .ok (.iload_n 1, 1) := by decide +kernel
theorem dX6_judge_15 : decode cX6_judge 15 = .ok (.invokestatic 238, 3) := by decide +kernel
theorem dX6_judge_18 : decode cX6_judge 18 = .ok (.lconst 1, 1) := by decide +kernel
theorem dX6_judge_19 : decode cX6_judge 19 = .ok (.lsub, 1) := by decide +kernel
theorem dX6_judge_20 : decode cX6_judge 20 = .ok (.invokestatic 64, 3) := by decide +kernel
theorem dX6_judge_23 : decode cX6_judge 23 = .ok (.ifCond .ne 6, 3) := by decide +kernel
theorem dX6_judge_26 : decode cX6_judge 26 = .ok (.bipush (-2), 2) := by decide +kernel
theorem dX6_judge_28 : decode cX6_judge 28 = .ok (.ireturn, 1) := by decide +kernel
theorem dX6_judge_29 : decode cX6_judge 29 = .ok (.aload_n 0, 1) := by decide +kernel
theorem dX6_judge_30 : decode cX6_judge 30 = .ok (.getfield 13, 3) := by decide +kernel
theorem dX6_judge_33 : decode cX6_judge 33 = .ok (.aload_n 0, 1) := by decide +kernel
theorem dX6_judge_34 : decode cX6_judge 34 = .ok (.getfield 16, 3) := by decide +kernel
theorem dX6_judge_37 : decode cX6_judge 37 = .ok (.invokestatic 211, 3) := by decide +kernel
theorem dX6_judge_40 : decode cX6_judge 40 = .ok (.iconst 0, 1) := by decide +kernel
theorem dX6_judge_41 : decode cX6_judge 41 = .ok (.istore 4, 2) := by decide +kernel
theorem dX6_judge_43 : decode cX6_judge 43 = .ok (.iload 4, 2) := by decide +kernel
theorem dX6_judge_45 : decode cX6_judge 45 = .ok (.iload_n 1, 1) := by decide +kernel
theorem dX6_judge_46 : decode cX6_judge 46 = .ok (.if_icmp .ge 55, 3) := by decide +kernel
theorem dX6_judge_49 : decode cX6_judge 49 = .ok (.lload_n 2, 1) := by decide +kernel
theorem dX6_judge_50 : decode cX6_judge 50 = .ok (.iload_n 1, 1) := by decide +kernel
theorem dX6_judge_51 : decode cX6_judge 51 = .ok (.iconst 1, 1) := by decide +kernel
theorem dX6_judge_52 : decode cX6_judge 52 = .ok (.isub, 1) := by decide +kernel
theorem dX6_judge_53 : decode cX6_judge 53 = .ok (.iload 4, 2) := by decide +kernel
theorem dX6_judge_55 : decode cX6_judge 55 = .ok (.isub, 1) := by decide +kernel
theorem dX6_judge_56 : decode cX6_judge 56 = .ok (.invokestatic 238, 3) := by decide +kernel
theorem dX6_judge_59 : decode cX6_judge 59 = .ok (.ldiv, 1) := by decide +kernel
theorem dX6_judge_60 : decode cX6_judge 60 = .ok (.ldc2_w 236, 3) := by decide +kernel
theorem dX6_judge_63 : decode cX6_judge 63 = .ok (.lrem, 1) := by decide +kernel
theorem dX6_judge_64 : decode cX6_judge 64 = .ok (.l2i, 1) := by decide +kernel
theorem dX6_judge_65 : decode cX6_judge 65 = .ok (.istore 5, 2) := by decide +kernel
theorem dX6_judge_67 : decode cX6_judge 67 = .ok (.aload_n 0, 1) := by decide +kernel
theorem dX6_judge_68 : decode cX6_judge 68 = .ok (.iload 5, 2) := by decide +kernel
theorem dX6_judge_70 : decode cX6_judge 70 = .ok (.bipush 100, 2) := by decide +kernel
theorem dX6_judge_72 : decode cX6_judge 72 = .ok (.idiv, 1) := by decide +kernel
theorem dX6_judge_73 : decode cX6_judge 73 = .ok (.iload 5, 2) := by decide +kernel
theorem dX6_judge_75 : decode cX6_judge 75 = .ok (.bipush 10, 2) := by decide +kernel
theorem dX6_judge_77 : decode cX6_judge 77 = .ok (.idiv, 1) := by decide +kernel
theorem dX6_judge_78 : decode cX6_judge 78 = .ok (.bipush 10, 2) := by decide +kernel
theorem dX6_judge_80 : decode cX6_judge 80 = .ok (.irem, 1) := by decide +kernel
theorem dX6_judge_81 : decode cX6_judge 81 = .ok (.iload 5, 2) := by decide +kernel
theorem dX6_judge_83 : decode cX6_judge 83 = .ok (.bipush 10, 2) := by decide +kernel
theorem dX6_judge_85 : decode cX6_judge 85 = .ok (.irem, 1) := by decide +kernel
theorem dX6_judge_86 : decode cX6_judge 86 = .ok (.invokevirtual 241, 3) := by decide +kernel
theorem dX6_judge_89 : decode cX6_judge 89 = .ok (.ifCond .ne 6, 3) := by decide +kernel
theorem dX6_judge_92 : decode cX6_judge 92 = .ok (.iload 4, 2) := by decide +kernel
theorem dX6_judge_94 : decode cX6_judge 94 = .ok (.ireturn, 1) := by decide +kernel
theorem dX6_judge_95 : decode cX6_judge 95 = .ok (.iinc 4 1, 3) := by decide +kernel
theorem dX6_judge_98 : decode cX6_judge 98 = .ok (.goto (-55), 3) := by decide +kernel
theorem dX6_judge_101 : decode cX6_judge 101 = .ok (.bipush (-9), 2) := by decide +kernel
theorem dX6_judge_103 : decode cX6_judge 103 = .ok (.ireturn, 1) := by decide +kernel
theorem dX6_see_0 : decode cX6_see 0 = .ok (.aload_n 0, 1) := by decide +kernel
theorem dX6_see_1 : decode cX6_see 1 = .ok (.iload_n 1, 1) := by decide +kernel
theorem dX6_see_2 : decode cX6_see 2 = .ok (.invokevirtual 208, 3) := by decide +kernel
theorem dX6_see_5 : decode cX6_see 5 = .ok (.ifCond .ne 5, 3) := by decide +kernel
theorem dX6_see_8 : decode cX6_see 8 = .ok (.iconst (-1), 1) := by decide +kernel
theorem dX6_see_9 : decode cX6_see 9 = .ok (.ireturn, 1) := by decide +kernel
theorem dX6_see_10 : decode cX6_see 10 = .ok (.iload_n 2, 1) := by decide +kernel
theorem dX6_see_11 : decode cX6_see 11 = .ok (.i2l, 1) := by decide +kernel
theorem dX6_see_12 : decode cX6_see 12 = .ok (.lconst 0, 1) := by decide +kernel
theorem dX6_see_13 : decode cX6_see 13 = .ok (.ldc2_w 244, 3) := by decide +kernel
theorem dX6_see_16 : decode cX6_see 16 = .ok (.invokestatic 64, 3) := by decide +kernel
theorem dX6_see_19 : decode cX6_see 19 = .ok (.ifCond .ne 6, 3) := by decide +kernel
theorem dX6_see_22 : decode cX6_see 22 = .ok (.bipush (-2), 2) := by decide +kernel
theorem dX6_see_24 : decode cX6_see 24 = .ok (.ireturn, 1) := by decide +kernel
theorem dX6_see_25 : decode cX6_see 25 = .ok (.aload_n 0, 1) := by decide +kernel
theorem dX6_see_26 : decode cX6_see 26 = .ok (.getfield 202, 3) := by decide +kernel
theorem dX6_see_29 : decode cX6_see 29 = .ok (.bipush 6, 2) := by decide +kernel
theorem dX6_see_31 : decode cX6_see 31 = .ok (.if_icmp .ne 6, 3) := by decide +kernel
theorem dX6_see_34 : decode cX6_see 34 = .ok (.bipush (-4), 2) := by decide +kernel
theorem dX6_see_36 : decode cX6_see 36 = .ok (.ireturn, 1) := by decide +kernel
theorem dX6_see_37 : decode cX6_see 37 = .ok (.aload_n 0, 1) := by decide +kernel
theorem dX6_see_38 : decode cX6_see 38 = .ok (.getfield 29, 3) := by decide +kernel
theorem dX6_see_41 : decode cX6_see 41 = .ok (.aload_n 0, 1) := by decide +kernel
theorem dX6_see_42 : decode cX6_see 42 = .ok (.getfield 202, 3) := by decide +kernel
theorem dX6_see_45 : decode cX6_see 45 = .ok (.iload_n 1, 1) := by decide +kernel
theorem dX6_see_46 : decode cX6_see 46 = .ok (.iastore, 1) := by decide +kernel
theorem dX6_see_47 : decode cX6_see 47 = .ok (.aload_n 0, 1) := by decide +kernel
theorem dX6_see_48 : decode cX6_see 48 = .ok (.getfield 32, 3) := by decide +kernel
theorem dX6_see_51 : decode cX6_see 51 = .ok (.aload_n 0, 1) := by decide +kernel
theorem dX6_see_52 : decode cX6_see 52 = .ok (.getfield 202, 3) := by decide +kernel
theorem dX6_see_55 : decode cX6_see 55 = .ok (.iload_n 2, 1) := by decide +kernel
theorem dX6_see_56 : decode cX6_see 56 = .ok (.iastore, 1) := by decide +kernel
theorem dX6_see_57 : decode cX6_see 57 = .ok (.aload_n 0, 1) := by decide +kernel
theorem dX6_see_58 : decode cX6_see 58 = .ok (.dup, 1) := by decide +kernel
theorem dX6_see_59 : decode cX6_see 59 = .ok (.getfield 202, 3) := by decide +kernel
theorem dX6_see_62 : decode cX6_see 62 = .ok (.iconst 1, 1) := by decide +kernel
theorem dX6_see_63 : decode cX6_see 63 = .ok (.iadd, 1) := by decide +kernel
theorem dX6_see_64 : decode cX6_see 64 = .ok (.putfield 202, 3) := by decide +kernel
theorem dX6_see_67 : decode cX6_see 67 = .ok (.aload_n 0, 1) := by decide +kernel
theorem dX6_see_68 : decode cX6_see 68 = .ok (.getfield 202, 3) := by decide +kernel
theorem dX6_see_71 : decode cX6_see 71 = .ok (.ireturn, 1) := by decide +kernel
theorem dX6_unsee_0 : decode cX6_unsee 0 = .ok (.aload_n 0, 1) := by decide +kernel
theorem dX6_unsee_1 : decode cX6_unsee 1 = .ok (.getfield 202, 3) := by decide +kernel
theorem dX6_unsee_4 : decode cX6_unsee 4 = .ok (.istore_n 1, 1) := by decide +kernel
theorem dX6_unsee_5 : decode cX6_unsee 5 = .ok (.aload_n 0, 1) := by decide +kernel
theorem dX6_unsee_6 : decode cX6_unsee 6 = .ok (.iconst 0, 1) := by decide +kernel
theorem dX6_unsee_7 : decode cX6_unsee 7 = .ok (.putfield 202, 3) := by decide +kernel
theorem dX6_unsee_10 : decode cX6_unsee 10 = .ok (.iload_n 1, 1) := by decide +kernel
theorem dX6_unsee_11 : decode cX6_unsee 11 = .ok (.ireturn, 1) := by decide +kernel
theorem dX6_which_0 : decode cX6_which 0 = .ok (.iconst 0, 1) := by decide +kernel
theorem dX6_which_1 : decode cX6_which 1 = .ok (.istore_n 1, 1) := by decide +kernel
theorem dX6_which_2 : decode cX6_which 2 = .ok (.iconst 0, 1) := by decide +kernel
theorem dX6_which_3 : decode cX6_which 3 = .ok (.istore_n 2, 1) := by decide +kernel
theorem dX6_which_4 : decode cX6_which 4 = .ok (.iload_n 2, 1) := by decide +kernel
theorem dX6_which_5 : decode cX6_which 5 = .ok (.iconst 5, 1) := by decide +kernel
theorem dX6_which_6 : decode cX6_which 6 = .ok (.if_icmp .gt 106, 3) := by decide +kernel
theorem dX6_which_9 : decode cX6_which 9 = .ok (.iconst 1, 1) := by decide +kernel
theorem dX6_which_10 : decode cX6_which 10 = .ok (.istore_n 3, 1) := by decide +kernel
theorem dX6_which_11 : decode cX6_which 11 = .ok (.aload_n 0, 1) := by decide +kernel
theorem dX6_which_12 : decode cX6_which 12 = .ok (.iload_n 2, 1) := by decide +kernel
theorem dX6_which_13 : decode cX6_which 13 = .ok (.putfield 56, 3) := by decide +kernel
theorem dX6_which_16 : decode cX6_which 16 = .ok (.iconst 0, 1) := by decide +kernel
theorem dX6_which_17 : decode cX6_which 17 = .ok (.istore 4, 2) := by decide +kernel
theorem dX6_which_19 : decode cX6_which 19 = .ok (.iload 4, 2) := by decide +kernel
theorem dX6_which_21 : decode cX6_which 21 = .ok (.aload_n 0, 1) := by decide +kernel
theorem dX6_which_22 : decode cX6_which 22 = .ok (.getfield 202, 3) := by decide +kernel
theorem dX6_which_25 : decode cX6_which 25 = .ok (.if_icmp .ge 61, 3) := by decide +kernel
theorem dX6_which_28 : decode cX6_which 28 = .ok (.iload_n 3, 1) := by decide +kernel
theorem dX6_which_29 : decode cX6_which 29 = .ok (.ifCond .eq 49, 3) := by decide +kernel
theorem dX6_which_32 : decode cX6_which 32 = .ok (.aload_n 0, 1) := by decide +kernel
theorem dX6_which_33 : decode cX6_which 33 = .ok (.aload_n 0, 1) := by decide +kernel
theorem dX6_which_34 : decode cX6_which 34 = .ok (.getfield 29, 3) := by decide +kernel
theorem dX6_which_37 : decode cX6_which 37 = .ok (.iload 4, 2) := by decide +kernel
theorem dX6_which_39 : decode cX6_which 39 = .ok (.iaload, 1) := by decide +kernel
theorem dX6_which_40 : decode cX6_which 40 = .ok (.invokevirtual 208, 3) := by decide +kernel
theorem dX6_which_43 : decode cX6_which 43 = .ok (.ifCond .eq 31, 3) := by decide +kernel
theorem dX6_which_46 : decode cX6_which 46 = .ok (.aload_n 0, 1) := by decide +kernel
theorem dX6_which_47 : decode cX6_which 47 = .ok (.aload_n 0, 1) := by decide +kernel
theorem dX6_which_48 : decode cX6_which 48 = .ok (.getfield 13, 3) := by decide +kernel
theorem dX6_which_51 : decode cX6_which 51 = .ok (.aload_n 0, 1) := by decide +kernel
theorem dX6_which_52 : decode cX6_which 52 = .ok (.getfield 29, 3) := by decide +kernel
theorem dX6_which_55 : decode cX6_which 55 = .ok (.iload 4, 2) := by decide +kernel
theorem dX6_which_57 : decode cX6_which 57 = .ok (.iaload, 1) := by decide +kernel
theorem dX6_which_58 : decode cX6_which 58 = .ok (.invokevirtual 144, 3) := by decide +kernel
theorem dX6_which_61 : decode cX6_which 61 = .ok (.invokestatic 153, 3) := by decide +kernel
theorem dX6_which_64 : decode cX6_which 64 = .ok (.aload_n 0, 1) := by decide +kernel
theorem dX6_which_65 : decode cX6_which 65 = .ok (.getfield 32, 3) := by decide +kernel
theorem dX6_which_68 : decode cX6_which 68 = .ok (.iload 4, 2) := by decide +kernel
theorem dX6_which_70 : decode cX6_which 70 = .ok (.iaload, 1) := by decide +kernel
theorem dX6_which_71 : decode cX6_which 71 = .ok (.if_icmp .ne 7, 3) := by decide +kernel
theorem dX6_which_74 : decode cX6_which 74 = .ok (.iconst 1, 1) := by decide +kernel
theorem dX6_which_75 : decode cX6_which 75 = .ok (.goto 4, 3) := by decide +kernel
theorem dX6_which_78 : decode cX6_which 78 = .ok (.iconst 0, 1) := by decide +kernel
theorem dX6_which_79 : decode cX6_which 79 = .ok (.istore_n 3, 1) := by decide +kernel
theorem dX6_which_80 : decode cX6_which 80 = .ok (.iinc 4 1, 3) := by decide +kernel
theorem dX6_which_83 : decode cX6_which 83 = .ok (.goto (-64), 3) := by decide +kernel
theorem dX6_which_86 : decode cX6_which 86 = .ok (.aload_n 0, 1) := by decide +kernel
theorem dX6_which_87 : decode cX6_which 87 = .ok (.bipush (-9), 2) := by decide +kernel
theorem dX6_which_89 : decode cX6_which 89 = .ok (.putfield 56, 3) := by decide +kernel
theorem dX6_which_92 : decode cX6_which 92 = .ok (.iload_n 1, 1) := by decide +kernel
theorem dX6_which_93 : decode cX6_which 93 = .ok (.iload_n 3, 1) := by decide +kernel
theorem dX6_which_94 : decode cX6_which 94 = .ok (.ifCond .eq 9, 3) := by decide +kernel
theorem dX6_which_97 : decode cX6_which 97 = .ok (.iconst 1, 1) := by decide +kernel
theorem dX6_which_98 : decode cX6_which 98 = .ok (.iload_n 2, 1) := by decide +kernel
theorem dX6_which_99 : decode cX6_which 99 = .ok (.ishl, 1) := by decide +kernel
theorem dX6_which_100 : decode cX6_which 100 = .ok (.goto 4, 3) := by decide +kernel
theorem dX6_which_103 : decode cX6_which 103 = .ok (.iconst 0, 1) := by decide +kernel
theorem dX6_which_104 : decode cX6_which 104 = .ok (.ior, 1) := by decide +kernel
theorem dX6_which_105 : decode cX6_which 105 = .ok (.istore_n 1, 1) := by decide +kernel
theorem dX6_which_106 : decode cX6_which 106 = .ok (.iinc 2 1, 3) := by decide +kernel
theorem dX6_which_109 : decode cX6_which 109 = .ok (.goto (-105), 3) := by decide +kernel
theorem dX6_which_112 : decode cX6_which 112 = .ok (.iload_n 1, 1) := by decide +kernel
theorem dX6_which_113 : decode cX6_which 113 = .ok (.ireturn, 1) := by decide +kernel
theorem dX6_layWorth_0 : decode cX6_layWorth 0 = .ok (.aload_n 0, 1) := by decide +kernel
theorem dX6_layWorth_1 : decode cX6_layWorth 1 = .ok (.getfield 13, 3) := by decide +kernel
theorem dX6_layWorth_4 : decode cX6_layWorth 4 = .ok (.bipush 83, 2) := by decide +kernel
theorem dX6_layWorth_6 : decode cX6_layWorth 6 = .ok (.iaload, 1) := by decide +kernel
theorem dX6_layWorth_7 : decode cX6_layWorth 7 = .ok (.istore_n 1, 1) := by decide +kernel
theorem dX6_layWorth_8 : decode cX6_layWorth 8 = .ok (.iconst 0, 1) := by decide +kernel
theorem dX6_layWorth_9 : decode cX6_layWorth 9 = .ok (.istore_n 2, 1) := by decide +kernel
theorem dX6_layWorth_10 : decode cX6_layWorth 10 = .ok (.iload_n 2, 1) := by decide +kernel
theorem dX6_layWorth_11 : decode cX6_layWorth 11 = .ok (.iload_n 1, 1) := by decide +kernel
theorem dX6_layWorth_12 : decode cX6_layWorth 12 = .ok (.if_icmp .ge 24, 3) := by decide +kernel
theorem dX6_layWorth_15 : decode cX6_layWorth 15 = .ok (.aload_n 0, 1) := by decide +kernel
theorem dX6_layWorth_16 : decode cX6_layWorth 16 = .ok (.getfield 44, 3) := by decide +kernel
theorem dX6_layWorth_19 : decode cX6_layWorth 19 = .ok (.iload_n 2, 1) := by decide +kernel
theorem dX6_layWorth_20 : decode cX6_layWorth 20 = .ok (.aload_n 0, 1) := by decide +kernel
theorem dX6_layWorth_21 : decode cX6_layWorth 21 = .ok (.aload_n 0, 1) := by decide +kernel
theorem dX6_layWorth_22 : decode cX6_layWorth 22 = .ok (.getfield 13, 3) := by decide +kernel
theorem dX6_layWorth_25 : decode cX6_layWorth 25 = .ok (.iload_n 2, 1) := by decide +kernel
theorem dX6_layWorth_26 : decode cX6_layWorth 26 = .ok (.invokevirtual 144, 3) := by decide +kernel
theorem dX6_layWorth_29 : decode cX6_layWorth 29 = .ok (.iastore, 1) := by decide +kernel
theorem dX6_layWorth_30 : decode cX6_layWorth 30 = .ok (.iinc 2 1, 3) := by decide +kernel
theorem dX6_layWorth_33 : decode cX6_layWorth 33 = .ok (.goto (-23), 3) := by decide +kernel
theorem dX6_layWorth_36 : decode cX6_layWorth 36 = .ok (.iconst 0, 1) := by decide +kernel
theorem dX6_layWorth_37 : decode cX6_layWorth 37 = .ok (.istore_n 2, 1) := by decide +kernel
theorem dX6_layWorth_38 : decode cX6_layWorth 38 = .ok (.iload_n 2, 1) := by decide +kernel
theorem dX6_layWorth_39 : decode cX6_layWorth 39 = .ok (.iconst 1, 1) := by decide +kernel
theorem dX6_layWorth_40 : decode cX6_layWorth 40 = .ok (.iload_n 1, 1) := by decide +kernel
theorem dX6_layWorth_41 : decode cX6_layWorth 41 = .ok (.ishl, 1) := by decide +kernel
theorem dX6_layWorth_42 : decode cX6_layWorth 42 = .ok (.if_icmp .ge 59, 3) := by decide +kernel
theorem dX6_layWorth_45 : decode cX6_layWorth 45 = .ok (.iconst 0, 1) := by decide +kernel
theorem dX6_layWorth_46 : decode cX6_layWorth 46 = .ok (.istore_n 3, 1) := by decide +kernel
theorem dX6_layWorth_47 : decode cX6_layWorth 47 = .ok (.iconst 0, 1) := by decide +kernel
theorem dX6_layWorth_48 : decode cX6_layWorth 48 = .ok (.istore 4, 2) := by decide +kernel
theorem dX6_layWorth_50 : decode cX6_layWorth 50 = .ok (.iload 4, 2) := by decide +kernel
theorem dX6_layWorth_52 : decode cX6_layWorth 52 = .ok (.iload_n 1, 1) := by decide +kernel
theorem dX6_layWorth_53 : decode cX6_layWorth 53 = .ok (.if_icmp .ge 32, 3) := by decide +kernel
theorem dX6_layWorth_56 : decode cX6_layWorth 56 = .ok (.iload_n 3, 1) := by decide +kernel
theorem dX6_layWorth_57 : decode cX6_layWorth 57 = .ok (.iload_n 2, 1) := by decide +kernel
theorem dX6_layWorth_58 : decode cX6_layWorth 58 = .ok (.iload 4, 2) := by decide +kernel
theorem dX6_layWorth_60 : decode cX6_layWorth 60 = .ok (.invokestatic 122, 3) := by decide +kernel
theorem dX6_layWorth_63 : decode cX6_layWorth 63 = .ok (.ifCond .eq 13, 3) := by decide +kernel
theorem dX6_layWorth_66 : decode cX6_layWorth 66 = .ok (.aload_n 0, 1) := by decide +kernel
theorem dX6_layWorth_67 : decode cX6_layWorth 67 = .ok (.getfield 44, 3) := by decide +kernel
theorem dX6_layWorth_70 : decode cX6_layWorth 70 = .ok (.iload 4, 2) := by decide +kernel
theorem dX6_layWorth_72 : decode cX6_layWorth 72 = .ok (.iaload, 1) := by decide +kernel
theorem dX6_layWorth_73 : decode cX6_layWorth 73 = .ok (.goto 4, 3) := by decide +kernel
theorem dX6_layWorth_76 : decode cX6_layWorth 76 = .ok (.iconst 0, 1) := by decide +kernel
theorem dX6_layWorth_77 : decode cX6_layWorth 77 = .ok (.ior, 1) := by decide +kernel
theorem dX6_layWorth_78 : decode cX6_layWorth 78 = .ok (.istore_n 3, 1) := by decide +kernel
theorem dX6_layWorth_79 : decode cX6_layWorth 79 = .ok (.iinc 4 1, 3) := by decide +kernel
theorem dX6_layWorth_82 : decode cX6_layWorth 82 = .ok (.goto (-32), 3) := by decide +kernel
theorem dX6_layWorth_85 : decode cX6_layWorth 85 = .ok (.aload_n 0, 1) := by decide +kernel
theorem dX6_layWorth_86 : decode cX6_layWorth 86 = .ok (.getfield 41, 3) := by decide +kernel
theorem dX6_layWorth_89 : decode cX6_layWorth 89 = .ok (.iload_n 2, 1) := by decide +kernel
theorem dX6_layWorth_90 : decode cX6_layWorth 90 = .ok (.iload_n 3, 1) := by decide +kernel
theorem dX6_layWorth_91 : decode cX6_layWorth 91 = .ok (.invokestatic 153, 3) := by decide +kernel
theorem dX6_layWorth_94 : decode cX6_layWorth 94 = .ok (.iastore, 1) := by decide +kernel
theorem dX6_layWorth_95 : decode cX6_layWorth 95 = .ok (.iinc 2 1, 3) := by decide +kernel
theorem dX6_layWorth_98 : decode cX6_layWorth 98 = .ok (.goto (-60), 3) := by decide +kernel
theorem dX6_layWorth_101 : decode cX6_layWorth 101 = .ok (.return_, 1) := by decide +kernel
theorem dX6_share_0 : decode cX6_share 0 = .ok (.aload_n 0, 1) := by decide +kernel
theorem dX6_share_1 : decode cX6_share 1 = .ok (.iload_n 1, 1) := by decide +kernel
theorem dX6_share_2 : decode cX6_share 2 = .ok (.invokevirtual 208, 3) := by decide +kernel
theorem dX6_share_5 : decode cX6_share 5 = .ok (.ifCond .ne 5, 3) := by decide +kernel
theorem dX6_share_8 : decode cX6_share 8 = .ok (.iconst (-1), 1) := by decide +kernel
theorem dX6_share_9 : decode cX6_share 9 = .ok (.ireturn, 1) := by decide +kernel
theorem dX6_share_10 : decode cX6_share 10 = .ok (.aload_n 0, 1) := by decide +kernel
theorem dX6_share_11 : decode cX6_share 11 = .ok (.getfield 13, 3) := by decide +kernel
theorem dX6_share_14 : decode cX6_share 14 = .ok (.bipush 83, 2) := by decide +kernel
theorem dX6_share_16 : decode cX6_share 16 = .ok (.iaload, 1) := by decide +kernel
theorem dX6_share_17 : decode cX6_share 17 = .ok (.istore_n 3, 1) := by decide +kernel
theorem dX6_share_18 : decode cX6_share 18 = .ok (.aload_n 0, 1) := by decide +kernel
theorem dX6_share_19 : decode cX6_share 19 = .ok (.invokevirtual 246, 3) := by decide +kernel
theorem dX6_share_22 : decode cX6_share 22 = .ok (.iconst 0, 1) := by decide +kernel
theorem dX6_share_23 : decode cX6_share 23 = .ok (.istore 4, 2) := by decide +kernel
theorem dX6_share_25 : decode cX6_share 25 = .ok (.iconst 0, 1) := by decide +kernel
theorem dX6_share_26 : decode cX6_share 26 = .ok (.istore 5, 2) := by decide +kernel
theorem dX6_share_28 : decode cX6_share 28 = .ok (.iload 5, 2) := by decide +kernel
theorem dX6_share_30 : decode cX6_share 30 = .ok (.iconst 1, 1) := by decide +kernel
theorem dX6_share_31 : decode cX6_share 31 = .ok (.iload_n 3, 1) := by decide +kernel
theorem dX6_share_32 : decode cX6_share 32 = .ok (.ishl, 1) := by decide +kernel
theorem dX6_share_33 : decode cX6_share 33 = .ok (.if_icmp .ge 65, 3) := by decide +kernel
theorem dX6_share_36 : decode cX6_share 36 = .ok (.iload 5, 2) := by decide +kernel
theorem dX6_share_38 : decode cX6_share 38 = .ok (.iload_n 1, 1) := by decide +kernel
theorem dX6_share_39 : decode cX6_share 39 = .ok (.invokestatic 122, 3) := by decide +kernel
theorem dX6_share_42 : decode cX6_share 42 = .ok (.ifCond .ne 50, 3) := by decide +kernel
theorem dX6_share_45 : decode cX6_share 45 = .ok (.iload 5, 2) := by decide +kernel
theorem dX6_share_47 : decode cX6_share 47 = .ok (.invokestatic 153, 3) := by decide +kernel
theorem dX6_share_50 : decode cX6_share 50 = .ok (.istore 6, 2) := by decide +kernel
theorem dX6_share_52 : decode cX6_share 52 = .ok (.iload 4, 2) := by decide +kernel
theorem dX6_share_54 : decode cX6_share 54 = .ok (.iload 6, 2) := by decide +kernel
theorem dX6_share_56 : decode cX6_share 56 = .ok (.invokestatic 249, 3) := by decide +kernel
theorem dX6_share_59 : decode cX6_share 59 = .ok (.iload_n 3, 1) := by decide +kernel
theorem dX6_share_60 : decode cX6_share 60 = .ok (.iconst 1, 1) := by decide +kernel
theorem dX6_share_61 : decode cX6_share 61 = .ok (.isub, 1) := by decide +kernel
theorem dX6_share_62 : decode cX6_share 62 = .ok (.iload 6, 2) := by decide +kernel
theorem dX6_share_64 : decode cX6_share 64 = .ok (.isub, 1) := by decide +kernel
theorem dX6_share_65 : decode cX6_share 65 = .ok (.invokestatic 249, 3) := by decide +kernel
theorem dX6_share_68 : decode cX6_share 68 = .ok (.imul, 1) := by decide +kernel
theorem dX6_share_69 : decode cX6_share 69 = .ok (.aload_n 0, 1) := by decide +kernel
theorem dX6_share_70 : decode cX6_share 70 = .ok (.getfield 41, 3) := by decide +kernel
theorem dX6_share_73 : decode cX6_share 73 = .ok (.iload 5, 2) := by decide +kernel
theorem dX6_share_75 : decode cX6_share 75 = .ok (.iconst 1, 1) := by decide +kernel
theorem dX6_share_76 : decode cX6_share 76 = .ok (.iload_n 1, 1) := by decide +kernel
theorem dX6_share_77 : decode cX6_share 77 = .ok (.ishl, 1) := by decide +kernel
theorem dX6_share_78 : decode cX6_share 78 = .ok (.ior, 1) := by decide +kernel
theorem dX6_share_79 : decode cX6_share 79 = .ok (.iaload, 1) := by decide +kernel
theorem dX6_share_80 : decode cX6_share 80 = .ok (.aload_n 0, 1) := by decide +kernel
theorem dX6_share_81 : decode cX6_share 81 = .ok (.getfield 41, 3) := by decide +kernel
theorem dX6_share_84 : decode cX6_share 84 = .ok (.iload 5, 2) := by decide +kernel
theorem dX6_share_86 : decode cX6_share 86 = .ok (.iaload, 1) := by decide +kernel
theorem dX6_share_87 : decode cX6_share 87 = .ok (.isub, 1) := by decide +kernel
theorem dX6_share_88 : decode cX6_share 88 = .ok (.imul, 1) := by decide +kernel
theorem dX6_share_89 : decode cX6_share 89 = .ok (.iadd, 1) := by decide +kernel
theorem dX6_share_90 : decode cX6_share 90 = .ok (.istore 4, 2) := by decide +kernel
theorem dX6_share_92 : decode cX6_share 92 = .ok (.iinc 5 1, 3) := by decide +kernel
theorem dX6_share_95 : decode cX6_share 95 = .ok (.goto (-67), 3) := by decide +kernel
theorem dX6_share_98 : decode cX6_share 98 = .ok (.iload 4, 2) := by decide +kernel
theorem dX6_share_100 : decode cX6_share 100 = .ok (.iload_n 3, 1) := by decide +kernel
theorem dX6_share_101 : decode cX6_share 101 = .ok (.invokestatic 249, 3) := by decide +kernel
theorem dX6_share_104 : decode cX6_share 104 = .ok (.iload_n 2, 1) := by decide +kernel
theorem dX6_share_105 : decode cX6_share 105 = .ok (.invokestatic 252, 3) := by decide +kernel
theorem dX6_share_108 : decode cX6_share 108 = .ok (.ireturn, 1) := by decide +kernel
theorem dX6_chance_0 : decode cX6_chance 0 = .ok (.iload_n 1, 1) := by decide +kernel
theorem dX6_chance_1 : decode cX6_chance 1 = .ok (.i2l, 1) := by decide +kernel
theorem dX6_chance_2 : decode cX6_chance 2 = .ok (.lconst 0, 1) := by decide +kernel
theorem dX6_chance_3 : decode cX6_chance 3 = .ok (.ldc2_w 244, 3) := by decide +kernel
theorem dX6_chance_6 : decode cX6_chance 6 = .ok (.invokestatic 64, 3) := by decide +kernel
theorem dX6_chance_9 : decode cX6_chance 9 = .ok (.ifCond .eq 15, 3) := by decide +kernel
theorem dX6_chance_12 : decode cX6_chance 12 = .ok (.iload_n 2, 1) := by decide +kernel
theorem dX6_chance_13 : decode cX6_chance 13 = .ok (.i2l, 1) := by decide +kernel
theorem dX6_chance_14 : decode cX6_chance 14 = .ok (.lconst 0, 1) := by decide +kernel
theorem dX6_chance_15 : decode cX6_chance 15 = .ok (.ldc2_w 256, 3) := by decide +kernel
theorem dX6_chance_18 : decode cX6_chance 18 = .ok (.invokestatic 64, 3) := by decide +kernel
theorem dX6_chance_21 : decode cX6_chance 21 = .ok (.ifCond .ne 6, 3) := by decide +kernel
theorem dX6_chance_24 : decode cX6_chance 24 = .ok (.bipush (-2), 2) := by decide +kernel
theorem dX6_chance_26 : decode cX6_chance 26 = .ok (.ireturn, 1) := by decide +kernel
theorem dX6_chance_27 : decode cX6_chance 27 = .ok (.aload_n 0, 1) := by decide +kernel
theorem dX6_chance_28 : decode cX6_chance 28 = .ok (.getfield 13, 3) := by decide +kernel
theorem dX6_chance_31 : decode cX6_chance 31 = .ok (.bipush 83, 2) := by decide +kernel
theorem dX6_chance_33 : decode cX6_chance 33 = .ok (.iaload, 1) := by decide +kernel
theorem dX6_chance_34 : decode cX6_chance 34 = .ok (.istore 4, 2) := by decide +kernel
theorem dX6_chance_36 : decode cX6_chance 36 = .ok (.aload_n 0, 1) := by decide +kernel
theorem dX6_chance_37 : decode cX6_chance 37 = .ok (.invokevirtual 246, 3) := by decide +kernel
theorem dX6_chance_40 : decode cX6_chance 40 = .ok (.iconst 0, 1) := by decide +kernel
theorem dX6_chance_41 : decode cX6_chance 41 = .ok (.istore 5, 2) := by decide +kernel
theorem dX6_chance_43 : decode cX6_chance 43 = .ok (.iconst 0, 1) := by decide +kernel
theorem dX6_chance_44 : decode cX6_chance 44 = .ok (.istore 6, 2) := by decide +kernel
theorem dX6_chance_46 : decode cX6_chance 46 = .ok (.iload 6, 2) := by decide +kernel
theorem dX6_chance_48 : decode cX6_chance 48 = .ok (.iconst 1, 1) := by decide +kernel
theorem dX6_chance_49 : decode cX6_chance 49 = .ok (.iload 4, 2) := by decide +kernel
theorem dX6_chance_51 : decode cX6_chance 51 = .ok (.ishl, 1) := by decide +kernel
theorem dX6_chance_52 : decode cX6_chance 52 = .ok (.if_icmp .ge 54, 3) := by decide +kernel
theorem dX6_chance_55 : decode cX6_chance 55 = .ok (.iload 5, 2) := by decide +kernel
theorem dX6_chance_57 : decode cX6_chance 57 = .ok (.aload_n 0, 1) := by decide +kernel
theorem dX6_chance_58 : decode cX6_chance 58 = .ok (.getfield 41, 3) := by decide +kernel
theorem dX6_chance_61 : decode cX6_chance 61 = .ok (.iload 6, 2) := by decide +kernel
theorem dX6_chance_63 : decode cX6_chance 63 = .ok (.iaload, 1) := by decide +kernel
theorem dX6_chance_64 : decode cX6_chance 64 = .ok (.iload_n 1, 1) := by decide +kernel
theorem dX6_chance_65 : decode cX6_chance 65 = .ok (.if_icmp .lt 31, 3) := by decide +kernel
theorem dX6_chance_68 : decode cX6_chance 68 = .ok (.bipush 10, 2) := by decide +kernel
theorem dX6_chance_70 : decode cX6_chance 70 = .ok (.iload_n 2, 1) := by decide +kernel
theorem dX6_chance_71 : decode cX6_chance 71 = .ok (.isub, 1) := by decide +kernel
theorem dX6_chance_72 : decode cX6_chance 72 = .ok (.iload 6, 2) := by decide +kernel
theorem dX6_chance_74 : decode cX6_chance 74 = .ok (.invokestatic 153, 3) := by decide +kernel
theorem dX6_chance_77 : decode cX6_chance 77 = .ok (.invokestatic 258, 3) := by decide +kernel
theorem dX6_chance_80 : decode cX6_chance 80 = .ok (.iload_n 2, 1) := by decide +kernel
theorem dX6_chance_81 : decode cX6_chance 81 = .ok (.iload 4, 2) := by decide +kernel
theorem dX6_chance_83 : decode cX6_chance 83 = .ok (.iload 6, 2) := by decide +kernel
theorem dX6_chance_85 : decode cX6_chance 85 = .ok (.invokestatic 153, 3) := by decide +kernel
theorem dX6_chance_88 : decode cX6_chance 88 = .ok (.isub, 1) := by decide +kernel
theorem dX6_chance_89 : decode cX6_chance 89 = .ok (.invokestatic 258, 3) := by decide +kernel
theorem dX6_chance_92 : decode cX6_chance 92 = .ok (.imul, 1) := by decide +kernel
theorem dX6_chance_93 : decode cX6_chance 93 = .ok (.goto 4, 3) := by decide +kernel
theorem dX6_chance_96 : decode cX6_chance 96 = .ok (.iconst 0, 1) := by decide +kernel
theorem dX6_chance_97 : decode cX6_chance 97 = .ok (.iadd, 1) := by decide +kernel
theorem dX6_chance_98 : decode cX6_chance 98 = .ok (.istore 5, 2) := by decide +kernel
theorem dX6_chance_100 : decode cX6_chance 100 = .ok (.iinc 6 1, 3) := by decide +kernel
theorem dX6_chance_103 : decode cX6_chance 103 = .ok (.goto (-57), 3) := by decide +kernel
theorem dX6_chance_106 : decode cX6_chance 106 = .ok (.iload 5, 2) := by decide +kernel
theorem dX6_chance_108 : decode cX6_chance 108 = .ok (.bipush 10, 2) := by decide +kernel
theorem dX6_chance_110 : decode cX6_chance 110 = .ok (.iload 4, 2) := by decide +kernel
theorem dX6_chance_112 : decode cX6_chance 112 = .ok (.invokestatic 258, 3) := by decide +kernel
theorem dX6_chance_115 : decode cX6_chance 115 = .ok (.iload_n 3, 1) := by decide +kernel
theorem dX6_chance_116 : decode cX6_chance 116 = .ok (.invokestatic 252, 3) := by decide +kernel
theorem dX6_chance_119 : decode cX6_chance 119 = .ok (.ireturn, 1) := by decide +kernel
theorem dX6_seed_0 : decode cX6_seed 0 = .ok (.aload_n 0, 1) := by decide +kernel
theorem dX6_seed_1 : decode cX6_seed 1 = .ok (.getfield 262, 3) := by decide +kernel
theorem dX6_seed_4 : decode cX6_seed 4 = .ok (.lstore_n 3, 1) := by decide +kernel
theorem dX6_seed_5 : decode cX6_seed 5 = .ok (.aload_n 0, 1) := by decide +kernel
theorem dX6_seed_6 : decode cX6_seed 6 = .ok (.lload_n 1, 1) := by decide +kernel
theorem dX6_seed_7 : decode cX6_seed 7 = .ok (.putfield 262, 3) := by decide +kernel
theorem dX6_seed_10 : decode cX6_seed 10 = .ok (.lload_n 3, 1) := by decide +kernel
theorem dX6_seed_11 : decode cX6_seed 11 = .ok (.lreturn, 1) := by decide +kernel
theorem dX6_drawn_0 : decode cX6_drawn 0 = .ok (.iload_n 1, 1) := by decide +kernel
theorem dX6_drawn_1 : decode cX6_drawn 1 = .ok (.i2l, 1) := by decide +kernel
theorem dX6_drawn_2 : decode cX6_drawn 2 = .ok (.lconst 1, 1) := by decide +kernel
theorem dX6_drawn_3 : decode cX6_drawn 3 = .ok (.ldc2_w 266, 3) := by decide +kernel
theorem dX6_drawn_6 : decode cX6_drawn 6 = .ok (.invokestatic 64, 3) := by decide +kernel
theorem dX6_drawn_9 : decode cX6_drawn 9 = .ok (.ifCond .ne 6, 3) := by decide +kernel
theorem dX6_drawn_12 : decode cX6_drawn 12 = .ok (.bipush (-2), 2) := by decide +kernel
theorem dX6_drawn_14 : decode cX6_drawn 14 = .ok (.ireturn, 1) := by decide +kernel
theorem dX6_drawn_15 : decode cX6_drawn 15 = .ok (.aload_n 0, 1) := by decide +kernel
theorem dX6_drawn_16 : decode cX6_drawn 16 = .ok (.getfield 13, 3) := by decide +kernel
theorem dX6_drawn_19 : decode cX6_drawn 19 = .ok (.aload_n 0, 1) := by decide +kernel
theorem dX6_drawn_20 : decode cX6_drawn 20 = .ok (.getfield 16, 3) := by decide +kernel
theorem dX6_drawn_23 : decode cX6_drawn 23 = .ok (.invokestatic 211, 3) := by decide +kernel
theorem dX6_drawn_26 : decode cX6_drawn 26 = .ok (.iconst 0, 1) := by decide +kernel
theorem dX6_drawn_27 : decode cX6_drawn 27 = .ok (.istore_n 2, 1) := by decide +kernel
theorem dX6_drawn_28 : decode cX6_drawn 28 = .ok (.iload_n 2, 1) := by decide +kernel
theorem dX6_drawn_29 : decode cX6_drawn 29 = .ok (.iload_n 1, 1) := by decide +kernel
theorem dX6_drawn_30 : decode cX6_drawn 30 = .ok (.if_icmp .ge 91, 3) := by decide +kernel
theorem dX6_drawn_33 : decode cX6_drawn 33 = .ok (.aload_n 0, 1) := by decide +kernel
theorem dX6_drawn_34 : decode cX6_drawn 34 = .ok (.aload_n 0, 1) := by decide +kernel
theorem dX6_drawn_35 : decode cX6_drawn 35 = .ok (.getfield 262, 3) := by decide +kernel
theorem dX6_drawn_38 : decode cX6_drawn 38 = .ok (.ldc2_w 268, 3) := by decide +kernel
theorem dX6_drawn_41 : decode cX6_drawn 41 = .ok (.lmul, 1) := by decide +kernel
theorem dX6_drawn_42 : decode cX6_drawn 42 = .ok (.ldc2_w 270, 3) := by decide +kernel
theorem dX6_drawn_45 : decode cX6_drawn 45 = .ok (.ladd, 1) := by decide +kernel
theorem dX6_drawn_46 : decode cX6_drawn 46 = .ok (.putfield 262, 3) := by decide +kernel
theorem dX6_drawn_49 : decode cX6_drawn 49 = .ok (.aload_n 0, 1) := by decide +kernel
theorem dX6_drawn_50 : decode cX6_drawn 50 = .ok (.getfield 262, 3) := by decide +kernel
theorem dX6_drawn_53 : decode cX6_drawn 53 = .ok (.bipush 33, 2) := by decide +kernel
theorem dX6_drawn_55 : decode cX6_drawn 55 = .ok (.lushr, 1) := by decide +kernel
theorem dX6_drawn_56 : decode cX6_drawn 56 = .ok (.l2i, 1) := by decide +kernel
theorem dX6_drawn_57 : decode cX6_drawn 57 = .ok (.istore_n 3, 1) := by decide +kernel
theorem dX6_drawn_58 : decode cX6_drawn 58 = .ok (.iload_n 3, 1) := by decide +kernel
theorem dX6_drawn_59 : decode cX6_drawn 59 = .ok (.bipush 8, 2) := by decide +kernel
theorem dX6_drawn_61 : decode cX6_drawn 61 = .ok (.irem, 1) := by decide +kernel
theorem dX6_drawn_62 : decode cX6_drawn 62 = .ok (.istore 4, 2) := by decide +kernel
theorem dX6_drawn_64 : decode cX6_drawn 64 = .ok (.iload 4, 2) := by decide +kernel
theorem dX6_drawn_66 : decode cX6_drawn 66 = .ok (.iconst 4, 1) := by decide +kernel
theorem dX6_drawn_67 : decode cX6_drawn 67 = .ok (.if_icmp .ge 12, 3) := by decide +kernel
theorem dX6_drawn_70 : decode cX6_drawn 70 = .ok (.iload_n 3, 1) := by decide +kernel
theorem dX6_drawn_71 : decode cX6_drawn 71 = .ok (.bipush 8, 2) := by decide +kernel
theorem dX6_drawn_73 : decode cX6_drawn 73 = .ok (.idiv, 1) := by decide +kernel
theorem dX6_drawn_74 : decode cX6_drawn 74 = .ok (.iconst 5, 1) := by decide +kernel
theorem dX6_drawn_75 : decode cX6_drawn 75 = .ok (.irem, 1) := by decide +kernel
theorem dX6_drawn_76 : decode cX6_drawn 76 = .ok (.goto 25, 3) := by decide +kernel
theorem dX6_drawn_79 : decode cX6_drawn 79 = .ok (.iload 4, 2) := by decide +kernel
theorem dX6_drawn_81 : decode cX6_drawn 81 = .ok (.bipush 6, 2) := by decide +kernel
theorem dX6_drawn_83 : decode cX6_drawn 83 = .ok (.if_icmp .ge 8, 3) := by decide +kernel
theorem dX6_drawn_86 : decode cX6_drawn 86 = .ok (.bipush 10, 2) := by decide +kernel
theorem dX6_drawn_88 : decode cX6_drawn 88 = .ok (.goto 13, 3) := by decide +kernel
theorem dX6_drawn_91 : decode cX6_drawn 91 = .ok (.bipush 20, 2) := by decide +kernel
theorem dX6_drawn_93 : decode cX6_drawn 93 = .ok (.iload_n 3, 1) := by decide +kernel
theorem dX6_drawn_94 : decode cX6_drawn 94 = .ok (.bipush 8, 2) := by decide +kernel
theorem dX6_drawn_96 : decode cX6_drawn 96 = .ok (.idiv, 1) := by decide +kernel
theorem dX6_drawn_97 : decode cX6_drawn 97 = .ok (.bipush 10, 2) := by decide +kernel
theorem dX6_drawn_99 : decode cX6_drawn 99 = .ok (.irem, 1) := by decide +kernel
theorem dX6_drawn_100 : decode cX6_drawn 100 = .ok (.iadd, 1) := by decide +kernel
theorem dX6_drawn_101 : decode cX6_drawn 101 = .ok (.istore 5, 2) := by decide +kernel
theorem dX6_drawn_103 : decode cX6_drawn 103 = .ok (.aload_n 0, 1) := by decide +kernel
theorem dX6_drawn_104 : decode cX6_drawn 104 = .ok (.aload_n 0, 1) := by decide +kernel
theorem dX6_drawn_105 : decode cX6_drawn 105 = .ok (.getfield 16, 3) := by decide +kernel
theorem dX6_drawn_108 : decode cX6_drawn 108 = .ok (.iload 5, 2) := by decide +kernel
theorem dX6_drawn_110 : decode cX6_drawn 110 = .ok (.invokevirtual 188, 3) := by decide +kernel
theorem dX6_drawn_113 : decode cX6_drawn 113 = .ok (.istore 6, 2) := by decide +kernel
theorem dX6_drawn_115 : decode cX6_drawn 115 = .ok (.iinc 2 1, 3) := by decide +kernel
theorem dX6_drawn_118 : decode cX6_drawn 118 = .ok (.goto (-90), 3) := by decide +kernel
theorem dX6_drawn_121 : decode cX6_drawn 121 = .ok (.iconst 0, 1) := by decide +kernel
theorem dX6_drawn_122 : decode cX6_drawn 122 = .ok (.istore_n 2, 1) := by decide +kernel
theorem dX6_drawn_123 : decode cX6_drawn 123 = .ok (.iconst 0, 1) := by decide +kernel
theorem dX6_drawn_124 : decode cX6_drawn 124 = .ok (.istore_n 3, 1) := by decide +kernel
theorem dX6_drawn_125 : decode cX6_drawn 125 = .ok (.iload_n 3, 1) := by decide +kernel
theorem dX6_drawn_126 : decode cX6_drawn 126 = .ok (.aload_n 0, 1) := by decide +kernel
theorem dX6_drawn_127 : decode cX6_drawn 127 = .ok (.getfield 16, 3) := by decide +kernel
theorem dX6_drawn_130 : decode cX6_drawn 130 = .ok (.bipush 83, 2) := by decide +kernel
theorem dX6_drawn_132 : decode cX6_drawn 132 = .ok (.iaload, 1) := by decide +kernel
theorem dX6_drawn_133 : decode cX6_drawn 133 = .ok (.if_icmp .ge 24, 3) := by decide +kernel
theorem dX6_drawn_136 : decode cX6_drawn 136 = .ok (.iload_n 2, 1) := by decide +kernel
theorem dX6_drawn_137 : decode cX6_drawn 137 = .ok (.aload_n 0, 1) := by decide +kernel
theorem dX6_drawn_138 : decode cX6_drawn 138 = .ok (.aload_n 0, 1) := by decide +kernel
theorem dX6_drawn_139 : decode cX6_drawn 139 = .ok (.getfield 16, 3) := by decide +kernel
theorem dX6_drawn_142 : decode cX6_drawn 142 = .ok (.iload_n 3, 1) := by decide +kernel
theorem dX6_drawn_143 : decode cX6_drawn 143 = .ok (.invokevirtual 144, 3) := by decide +kernel
theorem dX6_drawn_146 : decode cX6_drawn 146 = .ok (.invokestatic 153, 3) := by decide +kernel
theorem dX6_drawn_149 : decode cX6_drawn 149 = .ok (.iadd, 1) := by decide +kernel
theorem dX6_drawn_150 : decode cX6_drawn 150 = .ok (.istore_n 2, 1) := by decide +kernel
theorem dX6_drawn_151 : decode cX6_drawn 151 = .ok (.iinc 3 1, 3) := by decide +kernel
theorem dX6_drawn_154 : decode cX6_drawn 154 = .ok (.goto (-29), 3) := by decide +kernel
theorem dX6_drawn_157 : decode cX6_drawn 157 = .ok (.iload_n 2, 1) := by decide +kernel
theorem dX6_drawn_158 : decode cX6_drawn 158 = .ok (.ireturn, 1) := by decide +kernel
theorem dX6_keep_0 : decode cX6_keep 0 = .ok (.iload_n 1, 1) := by decide +kernel
theorem dX6_keep_1 : decode cX6_keep 1 = .ok (.i2l, 1) := by decide +kernel
theorem dX6_keep_2 : decode cX6_keep 2 = .ok (.lconst 0, 1) := by decide +kernel
theorem dX6_keep_3 : decode cX6_keep 3 = .ok (.lconst 1, 1) := by decide +kernel
theorem dX6_keep_4 : decode cX6_keep 4 = .ok (.invokestatic 64, 3) := by decide +kernel
theorem dX6_keep_7 : decode cX6_keep 7 = .ok (.ifCond .ne 5, 3) := by decide +kernel
theorem dX6_keep_10 : decode cX6_keep 10 = .ok (.iconst (-1), 1) := by decide +kernel
theorem dX6_keep_11 : decode cX6_keep 11 = .ok (.ireturn, 1) := by decide +kernel
theorem dX6_keep_12 : decode cX6_keep 12 = .ok (.aload_n 0, 1) := by decide +kernel
theorem dX6_keep_13 : decode cX6_keep 13 = .ok (.getfield 25, 3) := by decide +kernel
theorem dX6_keep_16 : decode cX6_keep 16 = .ok (.iload_n 1, 1) := by decide +kernel
theorem dX6_keep_17 : decode cX6_keep 17 = .ok (.iconst 1, 1) := by decide +kernel
theorem dX6_keep_18 : decode cX6_keep 18 = .ok (.bastore, 1) := by decide +kernel
theorem dX6_keep_19 : decode cX6_keep 19 = .ok (.iconst 0, 1) := by decide +kernel
theorem dX6_keep_20 : decode cX6_keep 20 = .ok (.istore_n 2, 1) := by decide +kernel
theorem dX6_keep_21 : decode cX6_keep 21 = .ok (.iload_n 2, 1) := by decide +kernel
theorem dX6_keep_22 : decode cX6_keep 22 = .ok (.sipush 214, 3) := by decide +kernel
theorem dX6_keep_25 : decode cX6_keep 25 = .ok (.if_icmp .ge 27, 3) := by decide +kernel
theorem dX6_keep_28 : decode cX6_keep 28 = .ok (.aload_n 0, 1) := by decide +kernel
theorem dX6_keep_29 : decode cX6_keep 29 = .ok (.getfield 22, 3) := by decide +kernel
theorem dX6_keep_32 : decode cX6_keep 32 = .ok (.sipush 214, 3) := by decide +kernel
theorem dX6_keep_35 : decode cX6_keep 35 = .ok (.iload_n 1, 1) := by decide +kernel
theorem dX6_keep_36 : decode cX6_keep 36 = .ok (.imul, 1) := by decide +kernel
theorem dX6_keep_37 : decode cX6_keep 37 = .ok (.iload_n 2, 1) := by decide +kernel
theorem dX6_keep_38 : decode cX6_keep 38 = .ok (.iadd, 1) := by decide +kernel
theorem dX6_keep_39 : decode cX6_keep 39 = .ok (.aload_n 0, 1) := by decide +kernel
theorem dX6_keep_40 : decode cX6_keep 40 = .ok (.getfield 13, 3) := by decide +kernel
theorem dX6_keep_43 : decode cX6_keep 43 = .ok (.iload_n 2, 1) := by decide +kernel
theorem dX6_keep_44 : decode cX6_keep 44 = .ok (.iaload, 1) := by decide +kernel
theorem dX6_keep_45 : decode cX6_keep 45 = .ok (.iastore, 1) := by decide +kernel
theorem dX6_keep_46 : decode cX6_keep 46 = .ok (.iinc 2 1, 3) := by decide +kernel
theorem dX6_keep_49 : decode cX6_keep 49 = .ok (.goto (-28), 3) := by decide +kernel
theorem dX6_keep_52 : decode cX6_keep 52 = .ok (.aload_n 0, 1) := by decide +kernel
theorem dX6_keep_53 : decode cX6_keep 53 = .ok (.getfield 13, 3) := by decide +kernel
theorem dX6_keep_56 : decode cX6_keep 56 = .ok (.bipush 82, 2) := by decide +kernel
theorem dX6_keep_58 : decode cX6_keep 58 = .ok (.iaload, 1) := by decide +kernel
theorem dX6_keep_59 : decode cX6_keep 59 = .ok (.ireturn, 1) := by decide +kernel
theorem dX6_again_0 : decode cX6_again 0 = .ok (.iload_n 1, 1) := by decide +kernel
theorem dX6_again_1 : decode cX6_again 1 = .ok (.i2l, 1) := by decide +kernel
theorem dX6_again_2 : decode cX6_again 2 = .ok (.lconst 0, 1) := by decide +kernel
theorem dX6_again_3 : decode cX6_again 3 = .ok (.lconst 1, 1) := by decide +kernel
theorem dX6_again_4 : decode cX6_again 4 = .ok (.invokestatic 64, 3) := by decide +kernel
theorem dX6_again_7 : decode cX6_again 7 = .ok (.ifCond .ne 5, 3) := by decide +kernel
theorem dX6_again_10 : decode cX6_again 10 = .ok (.iconst (-1), 1) := by decide +kernel
theorem dX6_again_11 : decode cX6_again 11 = .ok (.ireturn, 1) := by decide +kernel
theorem dX6_again_12 : decode cX6_again 12 = .ok (.aload_n 0, 1) := by decide +kernel
theorem dX6_again_13 : decode cX6_again 13 = .ok (.getfield 25, 3) := by decide +kernel
theorem dX6_again_16 : decode cX6_again 16 = .ok (.iload_n 1, 1) := by decide +kernel
theorem dX6_again_17 : decode cX6_again 17 = .ok (.baload, 1) := by decide +kernel
theorem dX6_again_18 : decode cX6_again 18 = .ok (.ifCond .ne 6, 3) := by decide +kernel
theorem dX6_again_21 : decode cX6_again 21 = .ok (.bipush (-3), 2) := by decide +kernel
theorem dX6_again_23 : decode cX6_again 23 = .ok (.ireturn, 1) := by decide +kernel
theorem dX6_again_24 : decode cX6_again 24 = .ok (.iconst 0, 1) := by decide +kernel
theorem dX6_again_25 : decode cX6_again 25 = .ok (.istore_n 2, 1) := by decide +kernel
theorem dX6_again_26 : decode cX6_again 26 = .ok (.iload_n 2, 1) := by decide +kernel
theorem dX6_again_27 : decode cX6_again 27 = .ok (.sipush 214, 3) := by decide +kernel
theorem dX6_again_30 : decode cX6_again 30 = .ok (.if_icmp .ge 27, 3) := by decide +kernel
theorem dX6_again_33 : decode cX6_again 33 = .ok (.aload_n 0, 1) := by decide +kernel
theorem dX6_again_34 : decode cX6_again 34 = .ok (.getfield 13, 3) := by decide +kernel
theorem dX6_again_37 : decode cX6_again 37 = .ok (.iload_n 2, 1) := by decide +kernel
theorem dX6_again_38 : decode cX6_again 38 = .ok (.aload_n 0, 1) := by decide +kernel
theorem dX6_again_39 : decode cX6_again 39 = .ok (.getfield 22, 3) := by decide +kernel
theorem dX6_again_42 : decode cX6_again 42 = .ok (.sipush 214, 3) := by decide +kernel
theorem dX6_again_45 : decode cX6_again 45 = .ok (.iload_n 1, 1) := by decide +kernel
theorem dX6_again_46 : decode cX6_again 46 = .ok (.imul, 1) := by decide +kernel
theorem dX6_again_47 : decode cX6_again 47 = .ok (.iload_n 2, 1) := by decide +kernel
theorem dX6_again_48 : decode cX6_again 48 = .ok (.iadd, 1) := by decide +kernel
theorem dX6_again_49 : decode cX6_again 49 = .ok (.iaload, 1) := by decide +kernel
theorem dX6_again_50 : decode cX6_again 50 = .ok (.iastore, 1) := by decide +kernel
theorem dX6_again_51 : decode cX6_again 51 = .ok (.iinc 2 1, 3) := by decide +kernel
theorem dX6_again_54 : decode cX6_again 54 = .ok (.goto (-28), 3) := by decide +kernel
theorem dX6_again_57 : decode cX6_again 57 = .ok (.aload_n 0, 1) := by decide +kernel
theorem dX6_again_58 : decode cX6_again 58 = .ok (.iconst 0, 1) := by decide +kernel
theorem dX6_again_59 : decode cX6_again 59 = .ok (.putfield 192, 3) := by decide +kernel
theorem dX6_again_62 : decode cX6_again 62 = .ok (.aload_n 0, 1) := by decide +kernel
theorem dX6_again_63 : decode cX6_again 63 = .ok (.getfield 13, 3) := by decide +kernel
theorem dX6_again_66 : decode cX6_again 66 = .ok (.bipush 82, 2) := by decide +kernel
theorem dX6_again_68 : decode cX6_again 68 = .ok (.iaload, 1) := by decide +kernel
theorem dX6_again_69 : decode cX6_again 69 = .ok (.ireturn, 1) := by decide +kernel
theorem dJ6_bitCount_0f7a4_0 : decode cJ6_bitCount_0f7a4 0 = .ok (.iload_n 0, 1) := by decide +kernel
theorem dJ6_bitCount_0f7a4_1 : decode cJ6_bitCount_0f7a4 1 = .ok (.iload_n 0, 1) := by decide +kernel
theorem dJ6_bitCount_0f7a4_2 : decode cJ6_bitCount_0f7a4 2 = .ok (.iconst 1, 1) := by decide +kernel
theorem dJ6_bitCount_0f7a4_3 : decode cJ6_bitCount_0f7a4 3 = .ok (.iushr, 1) := by decide +kernel
theorem dJ6_bitCount_0f7a4_4 : decode cJ6_bitCount_0f7a4 4 = .ok (.ldc_w 265, 3) := by decide +kernel
theorem dJ6_bitCount_0f7a4_7 : decode cJ6_bitCount_0f7a4 7 = .ok (.iand, 1) := by decide +kernel
theorem dJ6_bitCount_0f7a4_8 : decode cJ6_bitCount_0f7a4 8 = .ok (.isub, 1) := by decide +kernel
theorem dJ6_bitCount_0f7a4_9 : decode cJ6_bitCount_0f7a4 9 = .ok (.istore_n 0, 1) := by decide +kernel
theorem dJ6_bitCount_0f7a4_10 : decode cJ6_bitCount_0f7a4 10 = .ok (.iload_n 0, 1) := by decide +kernel
theorem dJ6_bitCount_0f7a4_11 : decode cJ6_bitCount_0f7a4 11 = .ok (.ldc_w 266, 3) := by decide +kernel
theorem dJ6_bitCount_0f7a4_14 : decode cJ6_bitCount_0f7a4 14 = .ok (.iand, 1) := by decide +kernel
theorem dJ6_bitCount_0f7a4_15 : decode cJ6_bitCount_0f7a4 15 = .ok (.iload_n 0, 1) := by decide +kernel
theorem dJ6_bitCount_0f7a4_16 : decode cJ6_bitCount_0f7a4 16 = .ok (.iconst 2, 1) := by decide +kernel
theorem dJ6_bitCount_0f7a4_17 : decode cJ6_bitCount_0f7a4 17 = .ok (.iushr, 1) := by decide +kernel
theorem dJ6_bitCount_0f7a4_18 : decode cJ6_bitCount_0f7a4 18 = .ok (.ldc_w 266, 3) := by decide +kernel
theorem dJ6_bitCount_0f7a4_21 : decode cJ6_bitCount_0f7a4 21 = .ok (.iand, 1) := by decide +kernel
theorem dJ6_bitCount_0f7a4_22 : decode cJ6_bitCount_0f7a4 22 = .ok (.iadd, 1) := by decide +kernel
theorem dJ6_bitCount_0f7a4_23 : decode cJ6_bitCount_0f7a4 23 = .ok (.istore_n 0, 1) := by decide +kernel
theorem dJ6_bitCount_0f7a4_24 : decode cJ6_bitCount_0f7a4 24 = .ok (.iload_n 0, 1) := by decide +kernel
theorem dJ6_bitCount_0f7a4_25 : decode cJ6_bitCount_0f7a4 25 = .ok (.iload_n 0, 1) := by decide +kernel
theorem dJ6_bitCount_0f7a4_26 : decode cJ6_bitCount_0f7a4 26 = .ok (.iconst 4, 1) := by decide +kernel
theorem dJ6_bitCount_0f7a4_27 : decode cJ6_bitCount_0f7a4 27 = .ok (.iushr, 1) := by decide +kernel
theorem dJ6_bitCount_0f7a4_28 : decode cJ6_bitCount_0f7a4 28 = .ok (.iadd, 1) := by decide +kernel
theorem dJ6_bitCount_0f7a4_29 : decode cJ6_bitCount_0f7a4 29 = .ok (.ldc_w 267, 3) := by decide +kernel
theorem dJ6_bitCount_0f7a4_32 : decode cJ6_bitCount_0f7a4 32 = .ok (.iand, 1) := by decide +kernel
theorem dJ6_bitCount_0f7a4_33 : decode cJ6_bitCount_0f7a4 33 = .ok (.istore_n 0, 1) := by decide +kernel
theorem dJ6_bitCount_0f7a4_34 : decode cJ6_bitCount_0f7a4 34 = .ok (.iload_n 0, 1) := by decide +kernel
theorem dJ6_bitCount_0f7a4_35 : decode cJ6_bitCount_0f7a4 35 = .ok (.iload_n 0, 1) := by decide +kernel
theorem dJ6_bitCount_0f7a4_36 : decode cJ6_bitCount_0f7a4 36 = .ok (.bipush 8, 2) := by decide +kernel
theorem dJ6_bitCount_0f7a4_38 : decode cJ6_bitCount_0f7a4 38 = .ok (.iushr, 1) := by decide +kernel
theorem dJ6_bitCount_0f7a4_39 : decode cJ6_bitCount_0f7a4 39 = .ok (.iadd, 1) := by decide +kernel
theorem dJ6_bitCount_0f7a4_40 : decode cJ6_bitCount_0f7a4 40 = .ok (.istore_n 0, 1) := by decide +kernel
theorem dJ6_bitCount_0f7a4_41 : decode cJ6_bitCount_0f7a4 41 = .ok (.iload_n 0, 1) := by decide +kernel
theorem dJ6_bitCount_0f7a4_42 : decode cJ6_bitCount_0f7a4 42 = .ok (.iload_n 0, 1) := by decide +kernel
theorem dJ6_bitCount_0f7a4_43 : decode cJ6_bitCount_0f7a4 43 = .ok (.bipush 16, 2) := by decide +kernel
theorem dJ6_bitCount_0f7a4_45 : decode cJ6_bitCount_0f7a4 45 = .ok (.iushr, 1) := by decide +kernel
theorem dJ6_bitCount_0f7a4_46 : decode cJ6_bitCount_0f7a4 46 = .ok (.iadd, 1) := by decide +kernel
theorem dJ6_bitCount_0f7a4_47 : decode cJ6_bitCount_0f7a4 47 = .ok (.istore_n 0, 1) := by decide +kernel
theorem dJ6_bitCount_0f7a4_48 : decode cJ6_bitCount_0f7a4 48 = .ok (.iload_n 0, 1) := by decide +kernel
theorem dJ6_bitCount_0f7a4_49 : decode cJ6_bitCount_0f7a4 49 = .ok (.bipush 63, 2) := by decide +kernel
theorem dJ6_bitCount_0f7a4_51 : decode cJ6_bitCount_0f7a4 51 = .ok (.iand, 1) := by decide +kernel
theorem dJ6_bitCount_0f7a4_52 : decode cJ6_bitCount_0f7a4 52 = .ok (.ireturn, 1) := by decide +kernel
theorem dJ9_max_7cf53_0 : decode cJ9_max_7cf53 0 = .ok (.iload_n 0, 1) := by decide +kernel
theorem dJ9_max_7cf53_1 : decode cJ9_max_7cf53 1 = .ok (.iload_n 1, 1) := by decide +kernel
theorem dJ9_max_7cf53_2 : decode cJ9_max_7cf53 2 = .ok (.if_icmp .lt 7, 3) := by decide +kernel
theorem dJ9_max_7cf53_5 : decode cJ9_max_7cf53 5 = .ok (.iload_n 0, 1) := by decide +kernel
theorem dJ9_max_7cf53_6 : decode cJ9_max_7cf53 6 = .ok (.goto 4, 3) := by decide +kernel
theorem dJ9_max_7cf53_9 : decode cJ9_max_7cf53 9 = .ok (.iload_n 1, 1) := by decide +kernel
theorem dJ9_max_7cf53_10 : decode cJ9_max_7cf53 10 = .ok (.ireturn, 1) := by decide +kernel
theorem dJ9_min_7cf53_0 : decode cJ9_min_7cf53 0 = .ok (.iload_n 0, 1) := by decide +kernel
theorem dJ9_min_7cf53_1 : decode cJ9_min_7cf53 1 = .ok (.iload_n 1, 1) := by decide +kernel
theorem dJ9_min_7cf53_2 : decode cJ9_min_7cf53 2 = .ok (.if_icmp .gt 7, 3) := by decide +kernel
theorem dJ9_min_7cf53_5 : decode cJ9_min_7cf53 5 = .ok (.iload_n 0, 1) := by decide +kernel
theorem dJ9_min_7cf53_6 : decode cJ9_min_7cf53 6 = .ok (.goto 4, 3) := by decide +kernel
theorem dJ9_min_7cf53_9 : decode cJ9_min_7cf53 9 = .ok (.iload_n 1, 1) := by decide +kernel
theorem dJ9_min_7cf53_10 : decode cJ9_min_7cf53 10 = .ok (.ireturn, 1) := by decide +kernel
theorem dL_law_0 : decode cL_law 0 = .ok (.new 7, 3) := by decide +kernel
theorem dL_law_3 : decode cL_law 3 = .ok (.dup, 1) := by decide +kernel
theorem dL_law_4 : decode cL_law 4 = .ok (.invokespecial 9, 3) := by decide +kernel
theorem dL_law_7 : decode cL_law 7 = .ok (.astore_n 1, 1) := by decide +kernel
theorem dL_law_8 : decode cL_law 8 = .ok (.new 10, 3) := by decide +kernel
theorem dL_law_11 : decode cL_law 11 = .ok (.dup, 1) := by decide +kernel
theorem dL_law_12 : decode cL_law 12 = .ok (.invokespecial 12, 3) := by decide +kernel
theorem dL_law_15 : decode cL_law 15 = .ok (.astore_n 2, 1) := by decide +kernel
theorem dL_law_16 : decode cL_law 16 = .ok (.iconst 0, 1) := by decide +kernel
theorem dL_law_17 : decode cL_law 17 = .ok (.istore_n 3, 1) := by decide +kernel
theorem dL_law_18 : decode cL_law 18 = .ok (.iload_n 3, 1) := by decide +kernel
theorem dL_law_19 : decode cL_law 19 = .ok (.aload_n 0, 1) := by decide +kernel
theorem dL_law_20 : decode cL_law 20 = .ok (.arraylength, 1) := by decide +kernel
theorem dL_law_21 : decode cL_law 21 = .ok (.iconst 4, 1) := by decide +kernel
theorem dL_law_22 : decode cL_law 22 = .ok (.isub, 1) := by decide +kernel
theorem dL_law_23 : decode cL_law 23 = .ok (.if_icmp .gt 986, 3) := by decide +kernel
theorem dL_law_26 : decode cL_law 26 = .ok (.aload_n 0, 1) := by decide +kernel
theorem dL_law_27 : decode cL_law 27 = .ok (.iload_n 3, 1) := by decide +kernel
theorem dL_law_28 : decode cL_law 28 = .ok (.iaload, 1) := by decide +kernel
theorem dL_law_29 : decode cL_law 29 = .ok (.bipush 31, 2) := by decide +kernel
theorem dL_law_31 : decode cL_law 31 = .ok (.iand, 1) := by decide +kernel
theorem dL_law_32 : decode cL_law 32 = .ok (.tableswitch 971 0 27 #[128, 151, 164, 177, 190, 213, 246, 279, 312, 345, 378, 437, 460, 473, 496, 559, 572, 585, 618, 681, 714, 727, 740, 789, 848, 902, 925, 948], 128) := by decide +kernel
theorem dL_law_160 : decode cL_law 160 = .ok (.aload_n 1, 1) := by decide +kernel
theorem dL_law_161 : decode cL_law 161 = .ok (.aload_n 0, 1) := by decide +kernel
theorem dL_law_162 : decode cL_law 162 = .ok (.iload_n 3, 1) := by decide +kernel
theorem dL_law_163 : decode cL_law 163 = .ok (.iconst 1, 1) := by decide +kernel
theorem dL_law_164 : decode cL_law 164 = .ok (.iadd, 1) := by decide +kernel
theorem dL_law_165 : decode cL_law 165 = .ok (.iaload, 1) := by decide +kernel
theorem dL_law_166 : decode cL_law 166 = .ok (.invokevirtual 13, 3) := by decide +kernel
theorem dL_law_169 : decode cL_law 169 = .ok (.aload_n 2, 1) := by decide +kernel
theorem dL_law_170 : decode cL_law 170 = .ok (.aload_n 0, 1) := by decide +kernel
theorem dL_law_171 : decode cL_law 171 = .ok (.iload_n 3, 1) := by decide +kernel
theorem dL_law_172 : decode cL_law 172 = .ok (.iconst 1, 1) := by decide +kernel
theorem dL_law_173 : decode cL_law 173 = .ok (.iadd, 1) := by decide +kernel
theorem dL_law_174 : decode cL_law 174 = .ok (.iaload, 1) := by decide +kernel
theorem dL_law_175 : decode cL_law 175 = .ok (.invokevirtual 17, 3) := by decide +kernel
theorem dL_law_178 : decode cL_law 178 = .ok (.if_icmp .eq 825, 3) := by decide +kernel
theorem dL_law_181 : decode cL_law 181 = .ok (.iconst 0, 1) := by decide +kernel
theorem dL_law_182 : decode cL_law 182 = .ok (.ireturn, 1) := by decide +kernel
theorem dL_law_183 : decode cL_law 183 = .ok (.aload_n 1, 1) := by decide +kernel
theorem dL_law_184 : decode cL_law 184 = .ok (.invokevirtual 18, 3) := by decide +kernel
theorem dL_law_187 : decode cL_law 187 = .ok (.aload_n 2, 1) := by decide +kernel
theorem dL_law_188 : decode cL_law 188 = .ok (.invokevirtual 22, 3) := by decide +kernel
theorem dL_law_191 : decode cL_law 191 = .ok (.if_icmp .eq 812, 3) := by decide +kernel
theorem dL_law_194 : decode cL_law 194 = .ok (.iconst 0, 1) := by decide +kernel
theorem dL_law_195 : decode cL_law 195 = .ok (.ireturn, 1) := by decide +kernel
theorem dL_law_196 : decode cL_law 196 = .ok (.aload_n 1, 1) := by decide +kernel
theorem dL_law_197 : decode cL_law 197 = .ok (.invokevirtual 23, 3) := by decide +kernel
theorem dL_law_200 : decode cL_law 200 = .ok (.aload_n 2, 1) := by decide +kernel
theorem dL_law_201 : decode cL_law 201 = .ok (.invokevirtual 26, 3) := by decide +kernel
theorem dL_law_204 : decode cL_law 204 = .ok (.if_icmp .eq 799, 3) := by decide +kernel
theorem dL_law_207 : decode cL_law 207 = .ok (.iconst 0, 1) := by decide +kernel
theorem dL_law_208 : decode cL_law 208 = .ok (.ireturn, 1) := by decide +kernel
theorem dL_law_209 : decode cL_law 209 = .ok (.aload_n 1, 1) := by decide +kernel
theorem dL_law_210 : decode cL_law 210 = .ok (.invokevirtual 27, 3) := by decide +kernel
theorem dL_law_213 : decode cL_law 213 = .ok (.aload_n 2, 1) := by decide +kernel
theorem dL_law_214 : decode cL_law 214 = .ok (.invokevirtual 30, 3) := by decide +kernel
theorem dL_law_217 : decode cL_law 217 = .ok (.if_icmp .eq 786, 3) := by decide +kernel
theorem dL_law_220 : decode cL_law 220 = .ok (.iconst 0, 1) := by decide +kernel
theorem dL_law_221 : decode cL_law 221 = .ok (.ireturn, 1) := by decide +kernel
theorem dL_law_222 : decode cL_law 222 = .ok (.aload_n 1, 1) := by decide +kernel
theorem dL_law_223 : decode cL_law 223 = .ok (.aload_n 0, 1) := by decide +kernel
theorem dL_law_224 : decode cL_law 224 = .ok (.iload_n 3, 1) := by decide +kernel
theorem dL_law_225 : decode cL_law 225 = .ok (.iconst 1, 1) := by decide +kernel
theorem dL_law_226 : decode cL_law 226 = .ok (.iadd, 1) := by decide +kernel
theorem dL_law_227 : decode cL_law 227 = .ok (.iaload, 1) := by decide +kernel
theorem dL_law_228 : decode cL_law 228 = .ok (.invokevirtual 31, 3) := by decide +kernel
theorem dL_law_231 : decode cL_law 231 = .ok (.aload_n 2, 1) := by decide +kernel
theorem dL_law_232 : decode cL_law 232 = .ok (.aload_n 0, 1) := by decide +kernel
theorem dL_law_233 : decode cL_law 233 = .ok (.iload_n 3, 1) := by decide +kernel
theorem dL_law_234 : decode cL_law 234 = .ok (.iconst 1, 1) := by decide +kernel
theorem dL_law_235 : decode cL_law 235 = .ok (.iadd, 1) := by decide +kernel
theorem dL_law_236 : decode cL_law 236 = .ok (.iaload, 1) := by decide +kernel
theorem dL_law_237 : decode cL_law 237 = .ok (.invokevirtual 34, 3) := by decide +kernel
theorem dL_law_240 : decode cL_law 240 = .ok (.if_icmp .eq 763, 3) := by decide +kernel
theorem dL_law_243 : decode cL_law 243 = .ok (.iconst 0, 1) := by decide +kernel
theorem dL_law_244 : decode cL_law 244 = .ok (.ireturn, 1) := by decide +kernel
theorem dL_law_245 : decode cL_law 245 = .ok (.aload_n 1, 1) := by decide +kernel
theorem dL_law_246 : decode cL_law 246 = .ok (.aload_n 0, 1) := by decide +kernel
theorem dL_law_247 : decode cL_law 247 = .ok (.iload_n 3, 1) := by decide +kernel
theorem dL_law_248 : decode cL_law 248 = .ok (.iconst 1, 1) := by decide +kernel
theorem dL_law_249 : decode cL_law 249 = .ok (.iadd, 1) := by decide +kernel
theorem dL_law_250 : decode cL_law 250 = .ok (.iaload, 1) := by decide +kernel
theorem dL_law_251 : decode cL_law 251 = .ok (.aload_n 0, 1) := by decide +kernel
theorem dL_law_252 : decode cL_law 252 = .ok (.iload_n 3, 1) := by decide +kernel
theorem dL_law_253 : decode cL_law 253 = .ok (.iconst 2, 1) := by decide +kernel
theorem dL_law_254 : decode cL_law 254 = .ok (.iadd, 1) := by decide +kernel
theorem dL_law_255 : decode cL_law 255 = .ok (.iaload, 1) := by decide +kernel
theorem dL_law_256 : decode cL_law 256 = .ok (.invokevirtual 35, 3) := by decide +kernel
theorem dL_law_259 : decode cL_law 259 = .ok (.aload_n 2, 1) := by decide +kernel
theorem dL_law_260 : decode cL_law 260 = .ok (.aload_n 0, 1) := by decide +kernel
theorem dL_law_261 : decode cL_law 261 = .ok (.iload_n 3, 1) := by decide +kernel
theorem dL_law_262 : decode cL_law 262 = .ok (.iconst 1, 1) := by decide +kernel
theorem dL_law_263 : decode cL_law 263 = .ok (.iadd, 1) := by decide +kernel
theorem dL_law_264 : decode cL_law 264 = .ok (.iaload, 1) := by decide +kernel
theorem dL_law_265 : decode cL_law 265 = .ok (.aload_n 0, 1) := by decide +kernel
theorem dL_law_266 : decode cL_law 266 = .ok (.iload_n 3, 1) := by decide +kernel
theorem dL_law_267 : decode cL_law 267 = .ok (.iconst 2, 1) := by decide +kernel
theorem dL_law_268 : decode cL_law 268 = .ok (.iadd, 1) := by decide +kernel
theorem dL_law_269 : decode cL_law 269 = .ok (.iaload, 1) := by decide +kernel
theorem dL_law_270 : decode cL_law 270 = .ok (.invokevirtual 39, 3) := by decide +kernel
theorem dL_law_273 : decode cL_law 273 = .ok (.if_icmp .eq 730, 3) := by decide +kernel
theorem dL_law_276 : decode cL_law 276 = .ok (.iconst 0, 1) := by decide +kernel
theorem dL_law_277 : decode cL_law 277 = .ok (.ireturn, 1) := by decide +kernel
theorem dL_law_278 : decode cL_law 278 = .ok (.aload_n 1, 1) := by decide +kernel
theorem dL_law_279 : decode cL_law 279 = .ok (.aload_n 0, 1) := by decide +kernel
theorem dL_law_280 : decode cL_law 280 = .ok (.iload_n 3, 1) := by decide +kernel
theorem dL_law_281 : decode cL_law 281 = .ok (.iconst 1, 1) := by decide +kernel
theorem dL_law_282 : decode cL_law 282 = .ok (.iadd, 1) := by decide +kernel
theorem dL_law_283 : decode cL_law 283 = .ok (.iaload, 1) := by decide +kernel
theorem dL_law_284 : decode cL_law 284 = .ok (.aload_n 0, 1) := by decide +kernel
theorem dL_law_285 : decode cL_law 285 = .ok (.iload_n 3, 1) := by decide +kernel
theorem dL_law_286 : decode cL_law 286 = .ok (.iconst 2, 1) := by decide +kernel
theorem dL_law_287 : decode cL_law 287 = .ok (.iadd, 1) := by decide +kernel
theorem dL_law_288 : decode cL_law 288 = .ok (.iaload, 1) := by decide +kernel
theorem dL_law_289 : decode cL_law 289 = .ok (.invokevirtual 40, 3) := by decide +kernel
theorem dL_law_292 : decode cL_law 292 = .ok (.aload_n 2, 1) := by decide +kernel
theorem dL_law_293 : decode cL_law 293 = .ok (.aload_n 0, 1) := by decide +kernel
theorem dL_law_294 : decode cL_law 294 = .ok (.iload_n 3, 1) := by decide +kernel
theorem dL_law_295 : decode cL_law 295 = .ok (.iconst 1, 1) := by decide +kernel
theorem dL_law_296 : decode cL_law 296 = .ok (.iadd, 1) := by decide +kernel
theorem dL_law_297 : decode cL_law 297 = .ok (.iaload, 1) := by decide +kernel
theorem dL_law_298 : decode cL_law 298 = .ok (.aload_n 0, 1) := by decide +kernel
theorem dL_law_299 : decode cL_law 299 = .ok (.iload_n 3, 1) := by decide +kernel
theorem dL_law_300 : decode cL_law 300 = .ok (.iconst 2, 1) := by decide +kernel
theorem dL_law_301 : decode cL_law 301 = .ok (.iadd, 1) := by decide +kernel
theorem dL_law_302 : decode cL_law 302 = .ok (.iaload, 1) := by decide +kernel
theorem dL_law_303 : decode cL_law 303 = .ok (.invokevirtual 43, 3) := by decide +kernel
theorem dL_law_306 : decode cL_law 306 = .ok (.if_icmp .eq 697, 3) := by decide +kernel
theorem dL_law_309 : decode cL_law 309 = .ok (.iconst 0, 1) := by decide +kernel
theorem dL_law_310 : decode cL_law 310 = .ok (.ireturn, 1) := by decide +kernel
theorem dL_law_311 : decode cL_law 311 = .ok (.aload_n 1, 1) := by decide +kernel
theorem dL_law_312 : decode cL_law 312 = .ok (.aload_n 0, 1) := by decide +kernel
theorem dL_law_313 : decode cL_law 313 = .ok (.iload_n 3, 1) := by decide +kernel
theorem dL_law_314 : decode cL_law 314 = .ok (.iconst 1, 1) := by decide +kernel
theorem dL_law_315 : decode cL_law 315 = .ok (.iadd, 1) := by decide +kernel
theorem dL_law_316 : decode cL_law 316 = .ok (.iaload, 1) := by decide +kernel
theorem dL_law_317 : decode cL_law 317 = .ok (.aload_n 0, 1) := by decide +kernel
theorem dL_law_318 : decode cL_law 318 = .ok (.iload_n 3, 1) := by decide +kernel
theorem dL_law_319 : decode cL_law 319 = .ok (.iconst 2, 1) := by decide +kernel
theorem dL_law_320 : decode cL_law 320 = .ok (.iadd, 1) := by decide +kernel
theorem dL_law_321 : decode cL_law 321 = .ok (.iaload, 1) := by decide +kernel
theorem dL_law_322 : decode cL_law 322 = .ok (.invokevirtual 44, 3) := by decide +kernel
theorem dL_law_325 : decode cL_law 325 = .ok (.aload_n 2, 1) := by decide +kernel
theorem dL_law_326 : decode cL_law 326 = .ok (.aload_n 0, 1) := by decide +kernel
theorem dL_law_327 : decode cL_law 327 = .ok (.iload_n 3, 1) := by decide +kernel
theorem dL_law_328 : decode cL_law 328 = .ok (.iconst 1, 1) := by decide +kernel
theorem dL_law_329 : decode cL_law 329 = .ok (.iadd, 1) := by decide +kernel
theorem dL_law_330 : decode cL_law 330 = .ok (.iaload, 1) := by decide +kernel
theorem dL_law_331 : decode cL_law 331 = .ok (.aload_n 0, 1) := by decide +kernel
theorem dL_law_332 : decode cL_law 332 = .ok (.iload_n 3, 1) := by decide +kernel
theorem dL_law_333 : decode cL_law 333 = .ok (.iconst 2, 1) := by decide +kernel
theorem dL_law_334 : decode cL_law 334 = .ok (.iadd, 1) := by decide +kernel
theorem dL_law_335 : decode cL_law 335 = .ok (.iaload, 1) := by decide +kernel
theorem dL_law_336 : decode cL_law 336 = .ok (.invokevirtual 47, 3) := by decide +kernel
theorem dL_law_339 : decode cL_law 339 = .ok (.if_icmp .eq 664, 3) := by decide +kernel
theorem dL_law_342 : decode cL_law 342 = .ok (.iconst 0, 1) := by decide +kernel
theorem dL_law_343 : decode cL_law 343 = .ok (.ireturn, 1) := by decide +kernel
theorem dL_law_344 : decode cL_law 344 = .ok (.aload_n 1, 1) := by decide +kernel
theorem dL_law_345 : decode cL_law 345 = .ok (.aload_n 0, 1) := by decide +kernel
theorem dL_law_346 : decode cL_law 346 = .ok (.iload_n 3, 1) := by decide +kernel
theorem dL_law_347 : decode cL_law 347 = .ok (.iconst 1, 1) := by decide +kernel
theorem dL_law_348 : decode cL_law 348 = .ok (.iadd, 1) := by decide +kernel
theorem dL_law_349 : decode cL_law 349 = .ok (.iaload, 1) := by decide +kernel
theorem dL_law_350 : decode cL_law 350 = .ok (.aload_n 0, 1) := by decide +kernel
theorem dL_law_351 : decode cL_law 351 = .ok (.iload_n 3, 1) := by decide +kernel
theorem dL_law_352 : decode cL_law 352 = .ok (.iconst 2, 1) := by decide +kernel
theorem dL_law_353 : decode cL_law 353 = .ok (.iadd, 1) := by decide +kernel
theorem dL_law_354 : decode cL_law 354 = .ok (.iaload, 1) := by decide +kernel
theorem dL_law_355 : decode cL_law 355 = .ok (.invokevirtual 48, 3) := by decide +kernel
theorem dL_law_358 : decode cL_law 358 = .ok (.aload_n 2, 1) := by decide +kernel
theorem dL_law_359 : decode cL_law 359 = .ok (.aload_n 0, 1) := by decide +kernel
theorem dL_law_360 : decode cL_law 360 = .ok (.iload_n 3, 1) := by decide +kernel
theorem dL_law_361 : decode cL_law 361 = .ok (.iconst 1, 1) := by decide +kernel
theorem dL_law_362 : decode cL_law 362 = .ok (.iadd, 1) := by decide +kernel
theorem dL_law_363 : decode cL_law 363 = .ok (.iaload, 1) := by decide +kernel
theorem dL_law_364 : decode cL_law 364 = .ok (.aload_n 0, 1) := by decide +kernel
theorem dL_law_365 : decode cL_law 365 = .ok (.iload_n 3, 1) := by decide +kernel
theorem dL_law_366 : decode cL_law 366 = .ok (.iconst 2, 1) := by decide +kernel
theorem dL_law_367 : decode cL_law 367 = .ok (.iadd, 1) := by decide +kernel
theorem dL_law_368 : decode cL_law 368 = .ok (.iaload, 1) := by decide +kernel
theorem dL_law_369 : decode cL_law 369 = .ok (.invokevirtual 51, 3) := by decide +kernel
theorem dL_law_372 : decode cL_law 372 = .ok (.if_icmp .eq 631, 3) := by decide +kernel
theorem dL_law_375 : decode cL_law 375 = .ok (.iconst 0, 1) := by decide +kernel
theorem dL_law_376 : decode cL_law 376 = .ok (.ireturn, 1) := by decide +kernel
theorem dL_law_377 : decode cL_law 377 = .ok (.aload_n 1, 1) := by decide +kernel
theorem dL_law_378 : decode cL_law 378 = .ok (.aload_n 0, 1) := by decide +kernel
theorem dL_law_379 : decode cL_law 379 = .ok (.iload_n 3, 1) := by decide +kernel
theorem dL_law_380 : decode cL_law 380 = .ok (.iconst 1, 1) := by decide +kernel
theorem dL_law_381 : decode cL_law 381 = .ok (.iadd, 1) := by decide +kernel
theorem dL_law_382 : decode cL_law 382 = .ok (.iaload, 1) := by decide +kernel
theorem dL_law_383 : decode cL_law 383 = .ok (.aload_n 0, 1) := by decide +kernel
theorem dL_law_384 : decode cL_law 384 = .ok (.iload_n 3, 1) := by decide +kernel
theorem dL_law_385 : decode cL_law 385 = .ok (.iconst 2, 1) := by decide +kernel
theorem dL_law_386 : decode cL_law 386 = .ok (.iadd, 1) := by decide +kernel
theorem dL_law_387 : decode cL_law 387 = .ok (.iaload, 1) := by decide +kernel
theorem dL_law_388 : decode cL_law 388 = .ok (.invokevirtual 52, 3) := by decide +kernel
theorem dL_law_391 : decode cL_law 391 = .ok (.aload_n 2, 1) := by decide +kernel
theorem dL_law_392 : decode cL_law 392 = .ok (.aload_n 0, 1) := by decide +kernel
theorem dL_law_393 : decode cL_law 393 = .ok (.iload_n 3, 1) := by decide +kernel
theorem dL_law_394 : decode cL_law 394 = .ok (.iconst 1, 1) := by decide +kernel
theorem dL_law_395 : decode cL_law 395 = .ok (.iadd, 1) := by decide +kernel
theorem dL_law_396 : decode cL_law 396 = .ok (.iaload, 1) := by decide +kernel
theorem dL_law_397 : decode cL_law 397 = .ok (.aload_n 0, 1) := by decide +kernel
theorem dL_law_398 : decode cL_law 398 = .ok (.iload_n 3, 1) := by decide +kernel
theorem dL_law_399 : decode cL_law 399 = .ok (.iconst 2, 1) := by decide +kernel
theorem dL_law_400 : decode cL_law 400 = .ok (.iadd, 1) := by decide +kernel
theorem dL_law_401 : decode cL_law 401 = .ok (.iaload, 1) := by decide +kernel
theorem dL_law_402 : decode cL_law 402 = .ok (.invokevirtual 55, 3) := by decide +kernel
theorem dL_law_405 : decode cL_law 405 = .ok (.if_icmp .eq 598, 3) := by decide +kernel
theorem dL_law_408 : decode cL_law 408 = .ok (.iconst 0, 1) := by decide +kernel
theorem dL_law_409 : decode cL_law 409 = .ok (.ireturn, 1) := by decide +kernel
theorem dL_law_410 : decode cL_law 410 = .ok (.aload_n 1, 1) := by decide +kernel
theorem dL_law_411 : decode cL_law 411 = .ok (.aload_n 0, 1) := by decide +kernel
theorem dL_law_412 : decode cL_law 412 = .ok (.iload_n 3, 1) := by decide +kernel
theorem dL_law_413 : decode cL_law 413 = .ok (.iconst 1, 1) := by decide +kernel
theorem dL_law_414 : decode cL_law 414 = .ok (.iadd, 1) := by decide +kernel
theorem dL_law_415 : decode cL_law 415 = .ok (.iaload, 1) := by decide +kernel
theorem dL_law_416 : decode cL_law 416 = .ok (.aload_n 0, 1) := by decide +kernel
theorem dL_law_417 : decode cL_law 417 = .ok (.iload_n 3, 1) := by decide +kernel
theorem dL_law_418 : decode cL_law 418 = .ok (.iconst 2, 1) := by decide +kernel
theorem dL_law_419 : decode cL_law 419 = .ok (.iadd, 1) := by decide +kernel
theorem dL_law_420 : decode cL_law 420 = .ok (.iaload, 1) := by decide +kernel
theorem dL_law_421 : decode cL_law 421 = .ok (.aload_n 0, 1) := by decide +kernel
theorem dL_law_422 : decode cL_law 422 = .ok (.iload_n 3, 1) := by decide +kernel
theorem dL_law_423 : decode cL_law 423 = .ok (.iconst 3, 1) := by decide +kernel
theorem dL_law_424 : decode cL_law 424 = .ok (.iadd, 1) := by decide +kernel
theorem dL_law_425 : decode cL_law 425 = .ok (.iaload, 1) := by decide +kernel
theorem dL_law_426 : decode cL_law 426 = .ok (.ifCond .eq 7, 3) := by decide +kernel
theorem dL_law_429 : decode cL_law 429 = .ok (.iconst 1, 1) := by decide +kernel
theorem dL_law_430 : decode cL_law 430 = .ok (.goto 4, 3) := by decide +kernel
theorem dL_law_433 : decode cL_law 433 = .ok (.iconst 0, 1) := by decide +kernel
theorem dL_law_434 : decode cL_law 434 = .ok (.invokevirtual 56, 3) := by decide +kernel
theorem dL_law_437 : decode cL_law 437 = .ok (.aload_n 2, 1) := by decide +kernel
theorem dL_law_438 : decode cL_law 438 = .ok (.aload_n 0, 1) := by decide +kernel
theorem dL_law_439 : decode cL_law 439 = .ok (.iload_n 3, 1) := by decide +kernel
theorem dL_law_440 : decode cL_law 440 = .ok (.iconst 1, 1) := by decide +kernel
theorem dL_law_441 : decode cL_law 441 = .ok (.iadd, 1) := by decide +kernel
theorem dL_law_442 : decode cL_law 442 = .ok (.iaload, 1) := by decide +kernel
theorem dL_law_443 : decode cL_law 443 = .ok (.aload_n 0, 1) := by decide +kernel
theorem dL_law_444 : decode cL_law 444 = .ok (.iload_n 3, 1) := by decide +kernel
theorem dL_law_445 : decode cL_law 445 = .ok (.iconst 2, 1) := by decide +kernel
theorem dL_law_446 : decode cL_law 446 = .ok (.iadd, 1) := by decide +kernel
theorem dL_law_447 : decode cL_law 447 = .ok (.iaload, 1) := by decide +kernel
theorem dL_law_448 : decode cL_law 448 = .ok (.aload_n 0, 1) := by decide +kernel
theorem dL_law_449 : decode cL_law 449 = .ok (.iload_n 3, 1) := by decide +kernel
theorem dL_law_450 : decode cL_law 450 = .ok (.iconst 3, 1) := by decide +kernel
theorem dL_law_451 : decode cL_law 451 = .ok (.iadd, 1) := by decide +kernel
theorem dL_law_452 : decode cL_law 452 = .ok (.iaload, 1) := by decide +kernel
theorem dL_law_453 : decode cL_law 453 = .ok (.ifCond .eq 7, 3) := by decide +kernel
theorem dL_law_456 : decode cL_law 456 = .ok (.iconst 1, 1) := by decide +kernel
theorem dL_law_457 : decode cL_law 457 = .ok (.goto 4, 3) := by decide +kernel
theorem dL_law_460 : decode cL_law 460 = .ok (.iconst 0, 1) := by decide +kernel
theorem dL_law_461 : decode cL_law 461 = .ok (.invokevirtual 60, 3) := by decide +kernel
theorem dL_law_464 : decode cL_law 464 = .ok (.if_icmp .eq 539, 3) := by decide +kernel
theorem dL_law_467 : decode cL_law 467 = .ok (.iconst 0, 1) := by decide +kernel
theorem dL_law_468 : decode cL_law 468 = .ok (.ireturn, 1) := by decide +kernel
theorem dL_law_469 : decode cL_law 469 = .ok (.aload_n 1, 1) := by decide +kernel
theorem dL_law_470 : decode cL_law 470 = .ok (.aload_n 0, 1) := by decide +kernel
theorem dL_law_471 : decode cL_law 471 = .ok (.iload_n 3, 1) := by decide +kernel
theorem dL_law_472 : decode cL_law 472 = .ok (.iconst 1, 1) := by decide +kernel
theorem dL_law_473 : decode cL_law 473 = .ok (.iadd, 1) := by decide +kernel
theorem dL_law_474 : decode cL_law 474 = .ok (.iaload, 1) := by decide +kernel
theorem dL_law_475 : decode cL_law 475 = .ok (.invokevirtual 61, 3) := by decide +kernel
theorem dL_law_478 : decode cL_law 478 = .ok (.aload_n 2, 1) := by decide +kernel
theorem dL_law_479 : decode cL_law 479 = .ok (.aload_n 0, 1) := by decide +kernel
theorem dL_law_480 : decode cL_law 480 = .ok (.iload_n 3, 1) := by decide +kernel
theorem dL_law_481 : decode cL_law 481 = .ok (.iconst 1, 1) := by decide +kernel
theorem dL_law_482 : decode cL_law 482 = .ok (.iadd, 1) := by decide +kernel
theorem dL_law_483 : decode cL_law 483 = .ok (.iaload, 1) := by decide +kernel
theorem dL_law_484 : decode cL_law 484 = .ok (.invokevirtual 64, 3) := by decide +kernel
theorem dL_law_487 : decode cL_law 487 = .ok (.if_icmp .eq 516, 3) := by decide +kernel
theorem dL_law_490 : decode cL_law 490 = .ok (.iconst 0, 1) := by decide +kernel
theorem dL_law_491 : decode cL_law 491 = .ok (.ireturn, 1) := by decide +kernel
theorem dL_law_492 : decode cL_law 492 = .ok (.aload_n 1, 1) := by decide +kernel
theorem dL_law_493 : decode cL_law 493 = .ok (.invokevirtual 65, 3) := by decide +kernel
theorem dL_law_496 : decode cL_law 496 = .ok (.aload_n 2, 1) := by decide +kernel
theorem dL_law_497 : decode cL_law 497 = .ok (.invokevirtual 68, 3) := by decide +kernel
theorem dL_law_500 : decode cL_law 500 = .ok (.if_icmp .eq 503, 3) := by decide +kernel
theorem dL_law_503 : decode cL_law 503 = .ok (.iconst 0, 1) := by decide +kernel
theorem dL_law_504 : decode cL_law 504 = .ok (.ireturn, 1) := by decide +kernel
theorem dL_law_505 : decode cL_law 505 = .ok (.aload_n 1, 1) := by decide +kernel
theorem dL_law_506 : decode cL_law 506 = .ok (.aload_n 0, 1) := by decide +kernel
theorem dL_law_507 : decode cL_law 507 = .ok (.iload_n 3, 1) := by decide +kernel
theorem dL_law_508 : decode cL_law 508 = .ok (.iconst 1, 1) := by decide +kernel
theorem dL_law_509 : decode cL_law 509 = .ok (.iadd, 1) := by decide +kernel
theorem dL_law_510 : decode cL_law 510 = .ok (.iaload, 1) := by decide +kernel
theorem dL_law_511 : decode cL_law 511 = .ok (.invokevirtual 69, 3) := by decide +kernel
theorem dL_law_514 : decode cL_law 514 = .ok (.aload_n 2, 1) := by decide +kernel
theorem dL_law_515 : decode cL_law 515 = .ok (.aload_n 0, 1) := by decide +kernel
theorem dL_law_516 : decode cL_law 516 = .ok (.iload_n 3, 1) := by decide +kernel
theorem dL_law_517 : decode cL_law 517 = .ok (.iconst 1, 1) := by decide +kernel
theorem dL_law_518 : decode cL_law 518 = .ok (.iadd, 1) := by decide +kernel
theorem dL_law_519 : decode cL_law 519 = .ok (.iaload, 1) := by decide +kernel
theorem dL_law_520 : decode cL_law 520 = .ok (.invokevirtual 72, 3) := by decide +kernel
theorem dL_law_523 : decode cL_law 523 = .ok (.if_icmp .eq 480, 3) := by decide +kernel
theorem dL_law_526 : decode cL_law 526 = .ok (.iconst 0, 1) := by decide +kernel
theorem dL_law_527 : decode cL_law 527 = .ok (.ireturn, 1) := by decide +kernel
theorem dL_law_528 : decode cL_law 528 = .ok (.aload_n 1, 1) := by decide +kernel
theorem dL_law_529 : decode cL_law 529 = .ok (.aload_n 0, 1) := by decide +kernel
theorem dL_law_530 : decode cL_law 530 = .ok (.iload_n 3, 1) := by decide +kernel
theorem dL_law_531 : decode cL_law 531 = .ok (.iconst 1, 1) := by decide +kernel
theorem dL_law_532 : decode cL_law 532 = .ok (.iadd, 1) := by decide +kernel
theorem dL_law_533 : decode cL_law 533 = .ok (.iaload, 1) := by decide +kernel
theorem dL_law_534 : decode cL_law 534 = .ok (.aload_n 0, 1) := by decide +kernel
theorem dL_law_535 : decode cL_law 535 = .ok (.iload_n 3, 1) := by decide +kernel
theorem dL_law_536 : decode cL_law 536 = .ok (.iconst 2, 1) := by decide +kernel
theorem dL_law_537 : decode cL_law 537 = .ok (.iadd, 1) := by decide +kernel
theorem dL_law_538 : decode cL_law 538 = .ok (.iaload, 1) := by decide +kernel
theorem dL_law_539 : decode cL_law 539 = .ok (.i2l, 1) := by decide +kernel
theorem dL_law_540 : decode cL_law 540 = .ok (.bipush 32, 2) := by decide +kernel
theorem dL_law_542 : decode cL_law 542 = .ok (.lshl, 1) := by decide +kernel
theorem dL_law_543 : decode cL_law 543 = .ok (.aload_n 0, 1) := by decide +kernel
theorem dL_law_544 : decode cL_law 544 = .ok (.iload_n 3, 1) := by decide +kernel
theorem dL_law_545 : decode cL_law 545 = .ok (.iconst 3, 1) := by decide +kernel
theorem dL_law_546 : decode cL_law 546 = .ok (.iadd, 1) := by decide +kernel
theorem dL_law_547 : decode cL_law 547 = .ok (.iaload, 1) := by decide +kernel
theorem dL_law_548 : decode cL_law 548 = .ok (.i2l, 1) := by decide +kernel
theorem dL_law_549 : decode cL_law 549 = .ok (.ldc2_w 73, 3) := by decide +kernel
theorem dL_law_552 : decode cL_law 552 = .ok (.land, 1) := by decide +kernel
theorem dL_law_553 : decode cL_law 553 = .ok (.lor, 1) := by decide +kernel
theorem dL_law_554 : decode cL_law 554 = .ok (.invokevirtual 75, 3) := by decide +kernel
theorem dL_law_557 : decode cL_law 557 = .ok (.aload_n 2, 1) := by decide +kernel
theorem dL_law_558 : decode cL_law 558 = .ok (.aload_n 0, 1) := by decide +kernel
theorem dL_law_559 : decode cL_law 559 = .ok (.iload_n 3, 1) := by decide +kernel
theorem dL_law_560 : decode cL_law 560 = .ok (.iconst 1, 1) := by decide +kernel
theorem dL_law_561 : decode cL_law 561 = .ok (.iadd, 1) := by decide +kernel
theorem dL_law_562 : decode cL_law 562 = .ok (.iaload, 1) := by decide +kernel
theorem dL_law_563 : decode cL_law 563 = .ok (.aload_n 0, 1) := by decide +kernel
theorem dL_law_564 : decode cL_law 564 = .ok (.iload_n 3, 1) := by decide +kernel
theorem dL_law_565 : decode cL_law 565 = .ok (.iconst 2, 1) := by decide +kernel
theorem dL_law_566 : decode cL_law 566 = .ok (.iadd, 1) := by decide +kernel
theorem dL_law_567 : decode cL_law 567 = .ok (.iaload, 1) := by decide +kernel
theorem dL_law_568 : decode cL_law 568 = .ok (.i2l, 1) := by decide +kernel
theorem dL_law_569 : decode cL_law 569 = .ok (.bipush 32, 2) := by decide +kernel
theorem dL_law_571 : decode cL_law 571 = .ok (.lshl, 1) := by decide +kernel
theorem dL_law_572 : decode cL_law 572 = .ok (.aload_n 0, 1) := by decide +kernel
theorem dL_law_573 : decode cL_law 573 = .ok (.iload_n 3, 1) := by decide +kernel
theorem dL_law_574 : decode cL_law 574 = .ok (.iconst 3, 1) := by decide +kernel
theorem dL_law_575 : decode cL_law 575 = .ok (.iadd, 1) := by decide +kernel
theorem dL_law_576 : decode cL_law 576 = .ok (.iaload, 1) := by decide +kernel
theorem dL_law_577 : decode cL_law 577 = .ok (.i2l, 1) := by decide +kernel
theorem dL_law_578 : decode cL_law 578 = .ok (.ldc2_w 73, 3) := by decide +kernel
theorem dL_law_581 : decode cL_law 581 = .ok (.land, 1) := by decide +kernel
theorem dL_law_582 : decode cL_law 582 = .ok (.lor, 1) := by decide +kernel
theorem dL_law_583 : decode cL_law 583 = .ok (.invokevirtual 79, 3) := by decide +kernel
theorem dL_law_586 : decode cL_law 586 = .ok (.if_icmp .eq 417, 3) := by decide +kernel
theorem dL_law_589 : decode cL_law 589 = .ok (.iconst 0, 1) := by decide +kernel
theorem dL_law_590 : decode cL_law 590 = .ok (.ireturn, 1) := by decide +kernel
theorem dL_law_591 : decode cL_law 591 = .ok (.aload_n 1, 1) := by decide +kernel
theorem dL_law_592 : decode cL_law 592 = .ok (.invokevirtual 80, 3) := by decide +kernel
theorem dL_law_595 : decode cL_law 595 = .ok (.aload_n 2, 1) := by decide +kernel
theorem dL_law_596 : decode cL_law 596 = .ok (.invokevirtual 83, 3) := by decide +kernel
theorem dL_law_599 : decode cL_law 599 = .ok (.if_icmp .eq 404, 3) := by decide +kernel
theorem dL_law_602 : decode cL_law 602 = .ok (.iconst 0, 1) := by decide +kernel
theorem dL_law_603 : decode cL_law 603 = .ok (.ireturn, 1) := by decide +kernel
theorem dL_law_604 : decode cL_law 604 = .ok (.aload_n 1, 1) := by decide +kernel
theorem dL_law_605 : decode cL_law 605 = .ok (.invokevirtual 84, 3) := by decide +kernel
theorem dL_law_608 : decode cL_law 608 = .ok (.aload_n 2, 1) := by decide +kernel
theorem dL_law_609 : decode cL_law 609 = .ok (.invokevirtual 87, 3) := by decide +kernel
theorem dL_law_612 : decode cL_law 612 = .ok (.if_icmp .eq 391, 3) := by decide +kernel
theorem dL_law_615 : decode cL_law 615 = .ok (.iconst 0, 1) := by decide +kernel
theorem dL_law_616 : decode cL_law 616 = .ok (.ireturn, 1) := by decide +kernel
theorem dL_law_617 : decode cL_law 617 = .ok (.aload_n 1, 1) := by decide +kernel
theorem dL_law_618 : decode cL_law 618 = .ok (.aload_n 0, 1) := by decide +kernel
theorem dL_law_619 : decode cL_law 619 = .ok (.iload_n 3, 1) := by decide +kernel
theorem dL_law_620 : decode cL_law 620 = .ok (.iconst 1, 1) := by decide +kernel
theorem dL_law_621 : decode cL_law 621 = .ok (.iadd, 1) := by decide +kernel
theorem dL_law_622 : decode cL_law 622 = .ok (.iaload, 1) := by decide +kernel
theorem dL_law_623 : decode cL_law 623 = .ok (.aload_n 0, 1) := by decide +kernel
theorem dL_law_624 : decode cL_law 624 = .ok (.iload_n 3, 1) := by decide +kernel
theorem dL_law_625 : decode cL_law 625 = .ok (.iconst 2, 1) := by decide +kernel
theorem dL_law_626 : decode cL_law 626 = .ok (.iadd, 1) := by decide +kernel
theorem dL_law_627 : decode cL_law 627 = .ok (.iaload, 1) := by decide +kernel
theorem dL_law_628 : decode cL_law 628 = .ok (.invokevirtual 88, 3) := by decide +kernel
theorem dL_law_631 : decode cL_law 631 = .ok (.aload_n 2, 1) := by decide +kernel
theorem dL_law_632 : decode cL_law 632 = .ok (.aload_n 0, 1) := by decide +kernel
theorem dL_law_633 : decode cL_law 633 = .ok (.iload_n 3, 1) := by decide +kernel
theorem dL_law_634 : decode cL_law 634 = .ok (.iconst 1, 1) := by decide +kernel
theorem dL_law_635 : decode cL_law 635 = .ok (.iadd, 1) := by decide +kernel
theorem dL_law_636 : decode cL_law 636 = .ok (.iaload, 1) := by decide +kernel
theorem dL_law_637 : decode cL_law 637 = .ok (.aload_n 0, 1) := by decide +kernel
theorem dL_law_638 : decode cL_law 638 = .ok (.iload_n 3, 1) := by decide +kernel
theorem dL_law_639 : decode cL_law 639 = .ok (.iconst 2, 1) := by decide +kernel
theorem dL_law_640 : decode cL_law 640 = .ok (.iadd, 1) := by decide +kernel
theorem dL_law_641 : decode cL_law 641 = .ok (.iaload, 1) := by decide +kernel
theorem dL_law_642 : decode cL_law 642 = .ok (.invokevirtual 91, 3) := by decide +kernel
theorem dL_law_645 : decode cL_law 645 = .ok (.if_icmp .eq 358, 3) := by decide +kernel
theorem dL_law_648 : decode cL_law 648 = .ok (.iconst 0, 1) := by decide +kernel
theorem dL_law_649 : decode cL_law 649 = .ok (.ireturn, 1) := by decide +kernel
theorem dL_law_650 : decode cL_law 650 = .ok (.aload_n 1, 1) := by decide +kernel
theorem dL_law_651 : decode cL_law 651 = .ok (.aload_n 0, 1) := by decide +kernel
theorem dL_law_652 : decode cL_law 652 = .ok (.iload_n 3, 1) := by decide +kernel
theorem dL_law_653 : decode cL_law 653 = .ok (.iconst 1, 1) := by decide +kernel
theorem dL_law_654 : decode cL_law 654 = .ok (.iadd, 1) := by decide +kernel
theorem dL_law_655 : decode cL_law 655 = .ok (.iaload, 1) := by decide +kernel
theorem dL_law_656 : decode cL_law 656 = .ok (.aload_n 0, 1) := by decide +kernel
theorem dL_law_657 : decode cL_law 657 = .ok (.iload_n 3, 1) := by decide +kernel
theorem dL_law_658 : decode cL_law 658 = .ok (.iconst 2, 1) := by decide +kernel
theorem dL_law_659 : decode cL_law 659 = .ok (.iadd, 1) := by decide +kernel
theorem dL_law_660 : decode cL_law 660 = .ok (.iaload, 1) := by decide +kernel
theorem dL_law_661 : decode cL_law 661 = .ok (.i2l, 1) := by decide +kernel
theorem dL_law_662 : decode cL_law 662 = .ok (.bipush 32, 2) := by decide +kernel
theorem dL_law_664 : decode cL_law 664 = .ok (.lshl, 1) := by decide +kernel
theorem dL_law_665 : decode cL_law 665 = .ok (.aload_n 0, 1) := by decide +kernel
theorem dL_law_666 : decode cL_law 666 = .ok (.iload_n 3, 1) := by decide +kernel
theorem dL_law_667 : decode cL_law 667 = .ok (.iconst 3, 1) := by decide +kernel
theorem dL_law_668 : decode cL_law 668 = .ok (.iadd, 1) := by decide +kernel
theorem dL_law_669 : decode cL_law 669 = .ok (.iaload, 1) := by decide +kernel
theorem dL_law_670 : decode cL_law 670 = .ok (.i2l, 1) := by decide +kernel
theorem dL_law_671 : decode cL_law 671 = .ok (.ldc2_w 73, 3) := by decide +kernel
theorem dL_law_674 : decode cL_law 674 = .ok (.land, 1) := by decide +kernel
theorem dL_law_675 : decode cL_law 675 = .ok (.lor, 1) := by decide +kernel
theorem dL_law_676 : decode cL_law 676 = .ok (.invokevirtual 92, 3) := by decide +kernel
theorem dL_law_679 : decode cL_law 679 = .ok (.aload_n 2, 1) := by decide +kernel
theorem dL_law_680 : decode cL_law 680 = .ok (.aload_n 0, 1) := by decide +kernel
theorem dL_law_681 : decode cL_law 681 = .ok (.iload_n 3, 1) := by decide +kernel
theorem dL_law_682 : decode cL_law 682 = .ok (.iconst 1, 1) := by decide +kernel
theorem dL_law_683 : decode cL_law 683 = .ok (.iadd, 1) := by decide +kernel
theorem dL_law_684 : decode cL_law 684 = .ok (.iaload, 1) := by decide +kernel
theorem dL_law_685 : decode cL_law 685 = .ok (.aload_n 0, 1) := by decide +kernel
theorem dL_law_686 : decode cL_law 686 = .ok (.iload_n 3, 1) := by decide +kernel
theorem dL_law_687 : decode cL_law 687 = .ok (.iconst 2, 1) := by decide +kernel
theorem dL_law_688 : decode cL_law 688 = .ok (.iadd, 1) := by decide +kernel
theorem dL_law_689 : decode cL_law 689 = .ok (.iaload, 1) := by decide +kernel
theorem dL_law_690 : decode cL_law 690 = .ok (.i2l, 1) := by decide +kernel
theorem dL_law_691 : decode cL_law 691 = .ok (.bipush 32, 2) := by decide +kernel
theorem dL_law_693 : decode cL_law 693 = .ok (.lshl, 1) := by decide +kernel
theorem dL_law_694 : decode cL_law 694 = .ok (.aload_n 0, 1) := by decide +kernel
theorem dL_law_695 : decode cL_law 695 = .ok (.iload_n 3, 1) := by decide +kernel
theorem dL_law_696 : decode cL_law 696 = .ok (.iconst 3, 1) := by decide +kernel
theorem dL_law_697 : decode cL_law 697 = .ok (.iadd, 1) := by decide +kernel
theorem dL_law_698 : decode cL_law 698 = .ok (.iaload, 1) := by decide +kernel
theorem dL_law_699 : decode cL_law 699 = .ok (.i2l, 1) := by decide +kernel
theorem dL_law_700 : decode cL_law 700 = .ok (.ldc2_w 73, 3) := by decide +kernel
theorem dL_law_703 : decode cL_law 703 = .ok (.land, 1) := by decide +kernel
theorem dL_law_704 : decode cL_law 704 = .ok (.lor, 1) := by decide +kernel
theorem dL_law_705 : decode cL_law 705 = .ok (.invokevirtual 95, 3) := by decide +kernel
theorem dL_law_708 : decode cL_law 708 = .ok (.if_icmp .eq 295, 3) := by decide +kernel
theorem dL_law_711 : decode cL_law 711 = .ok (.iconst 0, 1) := by decide +kernel
theorem dL_law_712 : decode cL_law 712 = .ok (.ireturn, 1) := by decide +kernel
theorem dL_law_713 : decode cL_law 713 = .ok (.aload_n 1, 1) := by decide +kernel
theorem dL_law_714 : decode cL_law 714 = .ok (.aload_n 0, 1) := by decide +kernel
theorem dL_law_715 : decode cL_law 715 = .ok (.iload_n 3, 1) := by decide +kernel
theorem dL_law_716 : decode cL_law 716 = .ok (.iconst 1, 1) := by decide +kernel
theorem dL_law_717 : decode cL_law 717 = .ok (.iadd, 1) := by decide +kernel
theorem dL_law_718 : decode cL_law 718 = .ok (.iaload, 1) := by decide +kernel
theorem dL_law_719 : decode cL_law 719 = .ok (.aload_n 0, 1) := by decide +kernel
theorem dL_law_720 : decode cL_law 720 = .ok (.iload_n 3, 1) := by decide +kernel
theorem dL_law_721 : decode cL_law 721 = .ok (.iconst 2, 1) := by decide +kernel
theorem dL_law_722 : decode cL_law 722 = .ok (.iadd, 1) := by decide +kernel
theorem dL_law_723 : decode cL_law 723 = .ok (.iaload, 1) := by decide +kernel
theorem dL_law_724 : decode cL_law 724 = .ok (.invokevirtual 96, 3) := by decide +kernel
theorem dL_law_727 : decode cL_law 727 = .ok (.aload_n 2, 1) := by decide +kernel
theorem dL_law_728 : decode cL_law 728 = .ok (.aload_n 0, 1) := by decide +kernel
theorem dL_law_729 : decode cL_law 729 = .ok (.iload_n 3, 1) := by decide +kernel
theorem dL_law_730 : decode cL_law 730 = .ok (.iconst 1, 1) := by decide +kernel
theorem dL_law_731 : decode cL_law 731 = .ok (.iadd, 1) := by decide +kernel
theorem dL_law_732 : decode cL_law 732 = .ok (.iaload, 1) := by decide +kernel
theorem dL_law_733 : decode cL_law 733 = .ok (.aload_n 0, 1) := by decide +kernel
theorem dL_law_734 : decode cL_law 734 = .ok (.iload_n 3, 1) := by decide +kernel
theorem dL_law_735 : decode cL_law 735 = .ok (.iconst 2, 1) := by decide +kernel
theorem dL_law_736 : decode cL_law 736 = .ok (.iadd, 1) := by decide +kernel
theorem dL_law_737 : decode cL_law 737 = .ok (.iaload, 1) := by decide +kernel
theorem dL_law_738 : decode cL_law 738 = .ok (.invokevirtual 99, 3) := by decide +kernel
theorem dL_law_741 : decode cL_law 741 = .ok (.if_icmp .eq 262, 3) := by decide +kernel
theorem dL_law_744 : decode cL_law 744 = .ok (.iconst 0, 1) := by decide +kernel
theorem dL_law_745 : decode cL_law 745 = .ok (.ireturn, 1) := by decide +kernel
theorem dL_law_746 : decode cL_law 746 = .ok (.aload_n 1, 1) := by decide +kernel
theorem dL_law_747 : decode cL_law 747 = .ok (.invokevirtual 100, 3) := by decide +kernel
theorem dL_law_750 : decode cL_law 750 = .ok (.aload_n 2, 1) := by decide +kernel
theorem dL_law_751 : decode cL_law 751 = .ok (.invokevirtual 103, 3) := by decide +kernel
theorem dL_law_754 : decode cL_law 754 = .ok (.if_icmp .eq 249, 3) := by decide +kernel
theorem dL_law_757 : decode cL_law 757 = .ok (.iconst 0, 1) := by decide +kernel
theorem dL_law_758 : decode cL_law 758 = .ok (.ireturn, 1) := by decide +kernel
theorem dL_law_759 : decode cL_law 759 = .ok (.aload_n 1, 1) := by decide +kernel
theorem dL_law_760 : decode cL_law 760 = .ok (.invokevirtual 104, 3) := by decide +kernel
theorem dL_law_763 : decode cL_law 763 = .ok (.aload_n 2, 1) := by decide +kernel
theorem dL_law_764 : decode cL_law 764 = .ok (.invokevirtual 107, 3) := by decide +kernel
theorem dL_law_767 : decode cL_law 767 = .ok (.if_icmp .eq 236, 3) := by decide +kernel
theorem dL_law_770 : decode cL_law 770 = .ok (.iconst 0, 1) := by decide +kernel
theorem dL_law_771 : decode cL_law 771 = .ok (.ireturn, 1) := by decide +kernel
theorem dL_law_772 : decode cL_law 772 = .ok (.aload_n 1, 1) := by decide +kernel
theorem dL_law_773 : decode cL_law 773 = .ok (.aload_n 0, 1) := by decide +kernel
theorem dL_law_774 : decode cL_law 774 = .ok (.iload_n 3, 1) := by decide +kernel
theorem dL_law_775 : decode cL_law 775 = .ok (.iconst 1, 1) := by decide +kernel
theorem dL_law_776 : decode cL_law 776 = .ok (.iadd, 1) := by decide +kernel
theorem dL_law_777 : decode cL_law 777 = .ok (.iaload, 1) := by decide +kernel
theorem dL_law_778 : decode cL_law 778 = .ok (.aload_n 0, 1) := by decide +kernel
theorem dL_law_779 : decode cL_law 779 = .ok (.iload_n 3, 1) := by decide +kernel
theorem dL_law_780 : decode cL_law 780 = .ok (.iconst 2, 1) := by decide +kernel
theorem dL_law_781 : decode cL_law 781 = .ok (.iadd, 1) := by decide +kernel
theorem dL_law_782 : decode cL_law 782 = .ok (.iaload, 1) := by decide +kernel
theorem dL_law_783 : decode cL_law 783 = .ok (.ifCond .eq 7, 3) := by decide +kernel
theorem dL_law_786 : decode cL_law 786 = .ok (.iconst 1, 1) := by decide +kernel
theorem dL_law_787 : decode cL_law 787 = .ok (.goto 4, 3) := by decide +kernel
theorem dL_law_790 : decode cL_law 790 = .ok (.iconst 0, 1) := by decide +kernel
theorem dL_law_791 : decode cL_law 791 = .ok (.invokevirtual 108, 3) := by decide +kernel
theorem dL_law_794 : decode cL_law 794 = .ok (.aload_n 2, 1) := by decide +kernel
theorem dL_law_795 : decode cL_law 795 = .ok (.aload_n 0, 1) := by decide +kernel
theorem dL_law_796 : decode cL_law 796 = .ok (.iload_n 3, 1) := by decide +kernel
theorem dL_law_797 : decode cL_law 797 = .ok (.iconst 1, 1) := by decide +kernel
theorem dL_law_798 : decode cL_law 798 = .ok (.iadd, 1) := by decide +kernel
theorem dL_law_799 : decode cL_law 799 = .ok (.iaload, 1) := by decide +kernel
theorem dL_law_800 : decode cL_law 800 = .ok (.aload_n 0, 1) := by decide +kernel
theorem dL_law_801 : decode cL_law 801 = .ok (.iload_n 3, 1) := by decide +kernel
theorem dL_law_802 : decode cL_law 802 = .ok (.iconst 2, 1) := by decide +kernel
theorem dL_law_803 : decode cL_law 803 = .ok (.iadd, 1) := by decide +kernel
theorem dL_law_804 : decode cL_law 804 = .ok (.iaload, 1) := by decide +kernel
theorem dL_law_805 : decode cL_law 805 = .ok (.ifCond .eq 7, 3) := by decide +kernel
theorem dL_law_808 : decode cL_law 808 = .ok (.iconst 1, 1) := by decide +kernel
theorem dL_law_809 : decode cL_law 809 = .ok (.goto 4, 3) := by decide +kernel
theorem dL_law_812 : decode cL_law 812 = .ok (.iconst 0, 1) := by decide +kernel
theorem dL_law_813 : decode cL_law 813 = .ok (.invokevirtual 112, 3) := by decide +kernel
theorem dL_law_816 : decode cL_law 816 = .ok (.if_icmp .eq 187, 3) := by decide +kernel
theorem dL_law_819 : decode cL_law 819 = .ok (.iconst 0, 1) := by decide +kernel
theorem dL_law_820 : decode cL_law 820 = .ok (.ireturn, 1) := by decide +kernel
theorem dL_law_821 : decode cL_law 821 = .ok (.aload_n 1, 1) := by decide +kernel
theorem dL_law_822 : decode cL_law 822 = .ok (.aload_n 0, 1) := by decide +kernel
theorem dL_law_823 : decode cL_law 823 = .ok (.iload_n 3, 1) := by decide +kernel
theorem dL_law_824 : decode cL_law 824 = .ok (.iconst 1, 1) := by decide +kernel
theorem dL_law_825 : decode cL_law 825 = .ok (.iadd, 1) := by decide +kernel
theorem dL_law_826 : decode cL_law 826 = .ok (.iaload, 1) := by decide +kernel
theorem dL_law_827 : decode cL_law 827 = .ok (.aload_n 0, 1) := by decide +kernel
theorem dL_law_828 : decode cL_law 828 = .ok (.iload_n 3, 1) := by decide +kernel
theorem dL_law_829 : decode cL_law 829 = .ok (.iconst 2, 1) := by decide +kernel
theorem dL_law_830 : decode cL_law 830 = .ok (.iadd, 1) := by decide +kernel
theorem dL_law_831 : decode cL_law 831 = .ok (.iaload, 1) := by decide +kernel
theorem dL_law_832 : decode cL_law 832 = .ok (.aload_n 0, 1) := by decide +kernel
theorem dL_law_833 : decode cL_law 833 = .ok (.iload_n 3, 1) := by decide +kernel
theorem dL_law_834 : decode cL_law 834 = .ok (.iconst 3, 1) := by decide +kernel
theorem dL_law_835 : decode cL_law 835 = .ok (.iadd, 1) := by decide +kernel
theorem dL_law_836 : decode cL_law 836 = .ok (.iaload, 1) := by decide +kernel
theorem dL_law_837 : decode cL_law 837 = .ok (.ifCond .eq 7, 3) := by decide +kernel
theorem dL_law_840 : decode cL_law 840 = .ok (.iconst 1, 1) := by decide +kernel
theorem dL_law_841 : decode cL_law 841 = .ok (.goto 4, 3) := by decide +kernel
theorem dL_law_844 : decode cL_law 844 = .ok (.iconst 0, 1) := by decide +kernel
theorem dL_law_845 : decode cL_law 845 = .ok (.invokevirtual 113, 3) := by decide +kernel
theorem dL_law_848 : decode cL_law 848 = .ok (.aload_n 2, 1) := by decide +kernel
theorem dL_law_849 : decode cL_law 849 = .ok (.aload_n 0, 1) := by decide +kernel
theorem dL_law_850 : decode cL_law 850 = .ok (.iload_n 3, 1) := by decide +kernel
theorem dL_law_851 : decode cL_law 851 = .ok (.iconst 1, 1) := by decide +kernel
theorem dL_law_852 : decode cL_law 852 = .ok (.iadd, 1) := by decide +kernel
theorem dL_law_853 : decode cL_law 853 = .ok (.iaload, 1) := by decide +kernel
theorem dL_law_854 : decode cL_law 854 = .ok (.aload_n 0, 1) := by decide +kernel
theorem dL_law_855 : decode cL_law 855 = .ok (.iload_n 3, 1) := by decide +kernel
theorem dL_law_856 : decode cL_law 856 = .ok (.iconst 2, 1) := by decide +kernel
theorem dL_law_857 : decode cL_law 857 = .ok (.iadd, 1) := by decide +kernel
theorem dL_law_858 : decode cL_law 858 = .ok (.iaload, 1) := by decide +kernel
theorem dL_law_859 : decode cL_law 859 = .ok (.aload_n 0, 1) := by decide +kernel
theorem dL_law_860 : decode cL_law 860 = .ok (.iload_n 3, 1) := by decide +kernel
theorem dL_law_861 : decode cL_law 861 = .ok (.iconst 3, 1) := by decide +kernel
theorem dL_law_862 : decode cL_law 862 = .ok (.iadd, 1) := by decide +kernel
theorem dL_law_863 : decode cL_law 863 = .ok (.iaload, 1) := by decide +kernel
theorem dL_law_864 : decode cL_law 864 = .ok (.ifCond .eq 7, 3) := by decide +kernel
theorem dL_law_867 : decode cL_law 867 = .ok (.iconst 1, 1) := by decide +kernel
theorem dL_law_868 : decode cL_law 868 = .ok (.goto 4, 3) := by decide +kernel
theorem dL_law_871 : decode cL_law 871 = .ok (.iconst 0, 1) := by decide +kernel
theorem dL_law_872 : decode cL_law 872 = .ok (.invokevirtual 116, 3) := by decide +kernel
theorem dL_law_875 : decode cL_law 875 = .ok (.if_icmp .eq 128, 3) := by decide +kernel
theorem dL_law_878 : decode cL_law 878 = .ok (.iconst 0, 1) := by decide +kernel
theorem dL_law_879 : decode cL_law 879 = .ok (.ireturn, 1) := by decide +kernel
theorem dL_law_880 : decode cL_law 880 = .ok (.aload_n 1, 1) := by decide +kernel
theorem dL_law_881 : decode cL_law 881 = .ok (.aload_n 0, 1) := by decide +kernel
theorem dL_law_882 : decode cL_law 882 = .ok (.iload_n 3, 1) := by decide +kernel
theorem dL_law_883 : decode cL_law 883 = .ok (.iconst 1, 1) := by decide +kernel
theorem dL_law_884 : decode cL_law 884 = .ok (.iadd, 1) := by decide +kernel
theorem dL_law_885 : decode cL_law 885 = .ok (.iaload, 1) := by decide +kernel
theorem dL_law_886 : decode cL_law 886 = .ok (.i2l, 1) := by decide +kernel
theorem dL_law_887 : decode cL_law 887 = .ok (.bipush 32, 2) := by decide +kernel
theorem dL_law_889 : decode cL_law 889 = .ok (.lshl, 1) := by decide +kernel
theorem dL_law_890 : decode cL_law 890 = .ok (.aload_n 0, 1) := by decide +kernel
theorem dL_law_891 : decode cL_law 891 = .ok (.iload_n 3, 1) := by decide +kernel
theorem dL_law_892 : decode cL_law 892 = .ok (.iconst 2, 1) := by decide +kernel
theorem dL_law_893 : decode cL_law 893 = .ok (.iadd, 1) := by decide +kernel
theorem dL_law_894 : decode cL_law 894 = .ok (.iaload, 1) := by decide +kernel
theorem dL_law_895 : decode cL_law 895 = .ok (.i2l, 1) := by decide +kernel
theorem dL_law_896 : decode cL_law 896 = .ok (.ldc2_w 73, 3) := by decide +kernel
theorem dL_law_899 : decode cL_law 899 = .ok (.land, 1) := by decide +kernel
theorem dL_law_900 : decode cL_law 900 = .ok (.lor, 1) := by decide +kernel
theorem dL_law_901 : decode cL_law 901 = .ok (.invokevirtual 117, 3) := by decide +kernel
theorem dL_law_904 : decode cL_law 904 = .ok (.aload_n 2, 1) := by decide +kernel
theorem dL_law_905 : decode cL_law 905 = .ok (.aload_n 0, 1) := by decide +kernel
theorem dL_law_906 : decode cL_law 906 = .ok (.iload_n 3, 1) := by decide +kernel
theorem dL_law_907 : decode cL_law 907 = .ok (.iconst 1, 1) := by decide +kernel
theorem dL_law_908 : decode cL_law 908 = .ok (.iadd, 1) := by decide +kernel
theorem dL_law_909 : decode cL_law 909 = .ok (.iaload, 1) := by decide +kernel
theorem dL_law_910 : decode cL_law 910 = .ok (.i2l, 1) := by decide +kernel
theorem dL_law_911 : decode cL_law 911 = .ok (.bipush 32, 2) := by decide +kernel
theorem dL_law_913 : decode cL_law 913 = .ok (.lshl, 1) := by decide +kernel
theorem dL_law_914 : decode cL_law 914 = .ok (.aload_n 0, 1) := by decide +kernel
theorem dL_law_915 : decode cL_law 915 = .ok (.iload_n 3, 1) := by decide +kernel
theorem dL_law_916 : decode cL_law 916 = .ok (.iconst 2, 1) := by decide +kernel
theorem dL_law_917 : decode cL_law 917 = .ok (.iadd, 1) := by decide +kernel
theorem dL_law_918 : decode cL_law 918 = .ok (.iaload, 1) := by decide +kernel
theorem dL_law_919 : decode cL_law 919 = .ok (.i2l, 1) := by decide +kernel
theorem dL_law_920 : decode cL_law 920 = .ok (.ldc2_w 73, 3) := by decide +kernel
theorem dL_law_923 : decode cL_law 923 = .ok (.land, 1) := by decide +kernel
theorem dL_law_924 : decode cL_law 924 = .ok (.lor, 1) := by decide +kernel
theorem dL_law_925 : decode cL_law 925 = .ok (.invokevirtual 121, 3) := by decide +kernel
theorem dL_law_928 : decode cL_law 928 = .ok (.lcmp, 1) := by decide +kernel
theorem dL_law_929 : decode cL_law 929 = .ok (.ifCond .eq 74, 3) := by decide +kernel
theorem dL_law_932 : decode cL_law 932 = .ok (.iconst 0, 1) := by decide +kernel
theorem dL_law_933 : decode cL_law 933 = .ok (.ireturn, 1) := by decide +kernel
theorem dL_law_934 : decode cL_law 934 = .ok (.aload_n 1, 1) := by decide +kernel
theorem dL_law_935 : decode cL_law 935 = .ok (.aload_n 0, 1) := by decide +kernel
theorem dL_law_936 : decode cL_law 936 = .ok (.iload_n 3, 1) := by decide +kernel
theorem dL_law_937 : decode cL_law 937 = .ok (.iconst 1, 1) := by decide +kernel
theorem dL_law_938 : decode cL_law 938 = .ok (.iadd, 1) := by decide +kernel
theorem dL_law_939 : decode cL_law 939 = .ok (.iaload, 1) := by decide +kernel
theorem dL_law_940 : decode cL_law 940 = .ok (.invokevirtual 122, 3) := by decide +kernel
theorem dL_law_943 : decode cL_law 943 = .ok (.aload_n 2, 1) := by decide +kernel
theorem dL_law_944 : decode cL_law 944 = .ok (.aload_n 0, 1) := by decide +kernel
theorem dL_law_945 : decode cL_law 945 = .ok (.iload_n 3, 1) := by decide +kernel
theorem dL_law_946 : decode cL_law 946 = .ok (.iconst 1, 1) := by decide +kernel
theorem dL_law_947 : decode cL_law 947 = .ok (.iadd, 1) := by decide +kernel
theorem dL_law_948 : decode cL_law 948 = .ok (.iaload, 1) := by decide +kernel
theorem dL_law_949 : decode cL_law 949 = .ok (.invokevirtual 125, 3) := by decide +kernel
theorem dL_law_952 : decode cL_law 952 = .ok (.if_icmp .eq 51, 3) := by decide +kernel
theorem dL_law_955 : decode cL_law 955 = .ok (.iconst 0, 1) := by decide +kernel
theorem dL_law_956 : decode cL_law 956 = .ok (.ireturn, 1) := by decide +kernel
theorem dL_law_957 : decode cL_law 957 = .ok (.aload_n 1, 1) := by decide +kernel
theorem dL_law_958 : decode cL_law 958 = .ok (.aload_n 0, 1) := by decide +kernel
theorem dL_law_959 : decode cL_law 959 = .ok (.iload_n 3, 1) := by decide +kernel
theorem dL_law_960 : decode cL_law 960 = .ok (.iconst 1, 1) := by decide +kernel
theorem dL_law_961 : decode cL_law 961 = .ok (.iadd, 1) := by decide +kernel
theorem dL_law_962 : decode cL_law 962 = .ok (.iaload, 1) := by decide +kernel
theorem dL_law_963 : decode cL_law 963 = .ok (.invokevirtual 126, 3) := by decide +kernel
theorem dL_law_966 : decode cL_law 966 = .ok (.aload_n 2, 1) := by decide +kernel
theorem dL_law_967 : decode cL_law 967 = .ok (.aload_n 0, 1) := by decide +kernel
theorem dL_law_968 : decode cL_law 968 = .ok (.iload_n 3, 1) := by decide +kernel
theorem dL_law_969 : decode cL_law 969 = .ok (.iconst 1, 1) := by decide +kernel
theorem dL_law_970 : decode cL_law 970 = .ok (.iadd, 1) := by decide +kernel
theorem dL_law_971 : decode cL_law 971 = .ok (.iaload, 1) := by decide +kernel
theorem dL_law_972 : decode cL_law 972 = .ok (.invokevirtual 129, 3) := by decide +kernel
theorem dL_law_975 : decode cL_law 975 = .ok (.if_icmp .eq 28, 3) := by decide +kernel
theorem dL_law_978 : decode cL_law 978 = .ok (.iconst 0, 1) := by decide +kernel
theorem dL_law_979 : decode cL_law 979 = .ok (.ireturn, 1) := by decide +kernel
theorem dL_law_980 : decode cL_law 980 = .ok (.aload_n 1, 1) := by decide +kernel
theorem dL_law_981 : decode cL_law 981 = .ok (.aload_n 0, 1) := by decide +kernel
theorem dL_law_982 : decode cL_law 982 = .ok (.iload_n 3, 1) := by decide +kernel
theorem dL_law_983 : decode cL_law 983 = .ok (.iconst 1, 1) := by decide +kernel
theorem dL_law_984 : decode cL_law 984 = .ok (.iadd, 1) := by decide +kernel
theorem dL_law_985 : decode cL_law 985 = .ok (.iaload, 1) := by decide +kernel
theorem dL_law_986 : decode cL_law 986 = .ok (.invokevirtual 130, 3) := by decide +kernel
theorem dL_law_989 : decode cL_law 989 = .ok (.aload_n 2, 1) := by decide +kernel
theorem dL_law_990 : decode cL_law 990 = .ok (.aload_n 0, 1) := by decide +kernel
theorem dL_law_991 : decode cL_law 991 = .ok (.iload_n 3, 1) := by decide +kernel
theorem dL_law_992 : decode cL_law 992 = .ok (.iconst 1, 1) := by decide +kernel
theorem dL_law_993 : decode cL_law 993 = .ok (.iadd, 1) := by decide +kernel
theorem dL_law_994 : decode cL_law 994 = .ok (.iaload, 1) := by decide +kernel
theorem dL_law_995 : decode cL_law 995 = .ok (.invokevirtual 133, 3) := by decide +kernel
theorem dL_law_998 : decode cL_law 998 = .ok (.if_icmp .eq 5, 3) := by decide +kernel
theorem dL_law_1001 : decode cL_law 1001 = .ok (.iconst 0, 1) := by decide +kernel
theorem dL_law_1002 : decode cL_law 1002 = .ok (.ireturn, 1) := by decide +kernel
theorem dL_law_1003 : decode cL_law 1003 = .ok (.iinc 3 4, 3) := by decide +kernel
theorem dL_law_1006 : decode cL_law 1006 = .ok (.goto (-988), 3) := by decide +kernel
theorem dL_law_1009 : decode cL_law 1009 = .ok (.iconst 1, 1) := by decide +kernel
theorem dL_law_1010 : decode cL_law 1010 = .ok (.ireturn, 1) := by decide +kernel
end
section
theorem gd_T {own : String} {i : Nat} {y : MethodName} {b : ByteArray} {n : Nat} {r : Option FieldType} (h1 : Cond.methodLink own i y ∈ wsG) (h2 : Cond.static y ∈ wsG) (h4 : Cond.initialized y.cls ∈ wsG) (h5 : Cond.code y b n r ∈ wsG) : GoodIn wsG (va_wsS own i y (.code y b n r :: wsG)) := by
  intro w hw
  rcases List.mem_append.mp hw with h | h
  · have hm : w ∈ wsG := by
      rcases List.mem_cons.mp h with h | h
      · rw [h]; exact h1
      rcases List.mem_cons.mp h with h | h
      · rw [h]; exact h2
      rcases List.mem_cons.mp h with h | h
      · rw [h]; exact h4
      cases h
    exact ⟨hm, wsG_good _ hm⟩
  · exact gd_ws h5 w h
/-! THE DATA MEMORY: what the cells hold, by the cell's number and the place in it; one long beside it -/
abbrev Dt : Type := (Nat → Nat → Int32) × Int64
abbrev z_ix (i : Int32) : Nat := i.toNatClampNeg
def z_sg (d : Dt) (k : Nat) (g : Nat → Int32) : Dt := (fun a => if a = k then g else d.1 a, d.2)
def z_st (d : Dt) (k j : Nat) (v : Int32) : Dt := z_sg d k (upd (d.1 k) j v)
def z_sl (d : Dt) (v : Int64) : Dt := (d.1, v)
def z_cp (d : Dt) (k0 sp k1 dp n : Nat) : Dt := z_sg d k1 (va_cpy (d.1 k0) (d.1 k1) sp dp n)
def z_in (i : Int32) (n : Nat) : Bool := decide (¬ (i < 0 ∨ n ≤ i.toNatClampNeg))
def z_gd {α : Type} (b : Bool) (x : Option α) : Option α := match b with
  | true => x
  | false => none
def z_br {α β : Type} (o : Option α) (k : α → Option β) : Option β := match o with
  | none => none
  | some a => k a
def z_bd {α β : Type} (o : Option (α × Dt)) (k : α → Dt → Option β) : Option β := match o with
  | none => none
  | some q => k q.1 q.2
def z_nm {α β : Type} (e : α) (k : α → β) : β := k e
theorem z_gdx {α : Type} {b : Bool} {x : Option α} {r : α} (h : z_gd b x = some r) : b = true ∧ x = some r := by
  cases b with
  | true => exact ⟨rfl, h⟩
  | false => cases h
theorem z_gi {α : Type} {i : Int32} {n : Nat} {x : Option α} {r : α} (h : z_gd (z_in i n) x = some r) : vp_in i n ∧ x = some r :=
  ⟨of_decide_eq_true (p := ¬ (i < 0 ∨ n ≤ i.toNatClampNeg)) (z_gdx h).1, (z_gdx h).2⟩
theorem z_gp {α : Type} {c : Prop} {_ : Decidable c} {x : Option α} {r : α} (h : z_gd (decide c) x = some r) : c ∧ x = some r :=
  ⟨of_decide_eq_true (z_gdx h).1, (z_gdx h).2⟩
theorem z_brx {α β : Type} {o : Option α} {k : α → Option β} {r : β} (h : z_br o k = some r) : ∃ a, o = some a ∧ k a = some r := by
  cases o with
  | none => cases h
  | some a => exact ⟨a, rfl, h⟩
theorem z_bdx {α β : Type} {o : Option (α × Dt)} {k : α → Dt → Option β} {r : β} (h : z_bd o k = some r) : ∃ a d, o = some (a, d) ∧ k a d = some r := by
  cases o with
  | none => cases h
  | some q => exact ⟨q.1, q.2, rfl, h⟩
theorem z_nmx {α β : Type} {e : α} {k : α → Option β} {r : β} (h : z_nm e k = some r) : ∃ v, v = e ∧ k v = some r := ⟨e, rfl, h⟩
theorem z_nma {α β : Type} {e v : α} {k : α → Option β} {r : β} (ev : v = e) (h : z_nm e k = some r) : k v = some r := by
  subst ev; exact h
theorem z_ifp {c : Prop} {i : Decidable c} {α : Type} {a b r : α} (hc : c) (h : (if c then a else b) = r) : a = r := by
  rw [if_pos hc] at h; exact h
theorem z_ifn {c : Prop} {i : Decidable c} {α : Type} {a b r : α} (hc : ¬ c) (h : (if c then a else b) = r) : b = r := by
  rw [if_neg hc] at h; exact h
theorem z_sm {α : Type} {a b : α} (h : some a = some b) : a = b := Option.some.inj h
/-! loops -/
def z_it {σ τ : Type} (f : σ → Option (σ ⊕ τ)) : Nat → σ → Option τ
  | 0, _ => none
  | n + 1, s => match f s with
    | none => none
    | some (.inl s') => z_it f n s'
    | some (.inr t) => some t
noncomputable def z_lp {σ τ : Type} (f : σ → Option (σ ⊕ τ)) (s : σ) : Option τ :=
  @dite _ (∃ t n, z_it f n s = some t) (Classical.propDecidable _) (fun h => some h.choose) (fun _ => none)
theorem z_it_det {σ τ : Type} {f : σ → Option (σ ⊕ τ)} : ∀ (n k : Nat) (s : σ) (t t' : τ), z_it f n s = some t → z_it f k s = some t' → t = t' := by
  intro n
  induction n with
  | zero => intro k s t t' h; cases h
  | succ n ih =>
    intro k s t t' h h'
    cases k with
    | zero => cases h'
    | succ k =>
      unfold z_it at h h'
      cases hf : f s with
      | none => rw [hf] at h; cases h
      | some q =>
        rw [hf] at h h'
        cases q with
        | inl s' => exact ih k s' t t' h h'
        | inr x => exact (Option.some.inj h).symm.trans (Option.some.inj h')
theorem z_lpx {σ τ : Type} {f : σ → Option (σ ⊕ τ)} {s : σ} {t : τ} (h : z_lp f s = some t) : ∃ n, z_it f n s = some t := by
  by_cases hc : ∃ t n, z_it f n s = some t
  · unfold z_lp at h
    rw [dif_pos hc] at h
    have h1 := hc.choose_spec
    rw [Option.some.inj h] at h1
    exact h1
  · unfold z_lp at h
    rw [dif_neg hc] at h
    cases h
theorem z_lp_of {σ τ : Type} {f : σ → Option (σ ⊕ τ)} {s : σ} {t : τ} {n : Nat} (h : z_it f n s = some t) : z_lp f s = some t := by
  have hc : ∃ t n, z_it f n s = some t := ⟨t, n, h⟩
  unfold z_lp
  rw [dif_pos hc]
  obtain ⟨k, h1⟩ := hc.choose_spec
  rw [z_it_det _ _ _ _ _ h1 h]
theorem z_lp_eq {σ τ : Type} (f : σ → Option (σ ⊕ τ)) (s : σ) : z_lp f s = match f s with
    | none => none
    | some (.inl s') => z_lp f s'
    | some (.inr t) => some t := by
  cases hf : f s with
  | none =>
    by_cases hc : ∃ t n, z_it f n s = some t
    · obtain ⟨t, n, h⟩ := hc
      cases n with
      | zero => cases h
      | succ n => unfold z_it at h; rw [hf] at h; cases h
    · unfold z_lp
      rw [dif_neg hc]
  | some q =>
    cases q with
    | inl s' =>
      show z_lp f s = z_lp f s'
      cases h' : z_lp f s' with
      | some t =>
        obtain ⟨n, h1⟩ := z_lpx h'
        exact z_lp_of (n := n + 1) (by unfold z_it; rw [hf]; exact h1)
      | none =>
        by_cases hc : ∃ t n, z_it f n s = some t
        · obtain ⟨t, n, h⟩ := hc
          cases n with
          | zero => cases h
          | succ n =>
            unfold z_it at h; rw [hf] at h
            rw [z_lp_of h] at h'; cases h'
        · unfold z_lp
          rw [dif_neg hc]
    | inr t => exact z_lp_of (n := 1) (by unfold z_it; rw [hf])
theorem z_itx {σ τ : Type} {f : σ → Option (σ ⊕ τ)} {n : Nat} {s : σ} {t : τ} (h : z_it f (n + 1) s = some t) : ∃ q, f s = some q ∧ (∀ s', q = .inl s' → z_it f n s' = some t) ∧ (∀ t', q = .inr t' → t' = t) := by
  unfold z_it at h
  cases hf : f s with
  | none => rw [hf] at h; cases h
  | some q =>
    rw [hf] at h
    refine ⟨q, rfl, fun s' e => ?_, fun t' e => ?_⟩
    · subst e; exact h
    · subst e; exact Option.some.inj h
theorem z_it0 {σ τ : Type} {f : σ → Option (σ ⊕ τ)} {s : σ} {t : τ} {P : Prop} (h : z_it f 0 s = some t) : P := by cases h
/-! worlds -/
def z_w (sh : Nat → (Nat → Int32) → Int64 → va_E) (N : Nat) (ad : Nat → Nat) (d : Dt) : va_W := (List.range N).map (fun k => (ad k, sh k (d.1 k) d.2))
theorem z_w_get {sh : Nat → (Nat → Int32) → Int64 → va_E} {N : Nat} {ad : Nat → Nat} {d : Dt} {k : Nat} (hk : k < N) : (z_w sh N ad d)[k]? = some (ad k, sh k (d.1 k) d.2) := by
  simp [z_w, hk]
theorem z_w_set {sh : Nat → (Nat → Int32) → Int64 → va_E} {N : Nat} {ad : Nat → Nat} {d : Dt} {k : Nat} (hk : k < N) (g : Nat → Int32) : (z_w sh N ad d).set k (ad k, sh k g d.2) = z_w sh N ad (z_sg d k g) := by
  apply List.ext_getElem?
  intro i
  by_cases hi : i = k
  · subst hi
    rw [List.getElem?_set_self (by simp [z_w, hk]), z_w_get hk]
    simp [z_sg]
  · rw [List.getElem?_set_ne (Ne.symm hi)]
    by_cases hN : i < N
    · rw [z_w_get hN, z_w_get hN]
      simp [z_sg, hi]
    · simp [z_w, hN]
theorem z_w_setl {sh : Nat → (Nat → Int32) → Int64 → va_E} {N : Nat} {ad : Nat → Nat} {d : Dt} (x : Int64) (hN : 0 < N) (hx : ∀ k, 0 < k → ∀ g a b, sh k g a = sh k g b) : (z_w sh N ad d).set 0 (ad 0, sh 0 (d.1 0) x) = z_w sh N ad (z_sl d x) := by
  apply List.ext_getElem?
  intro i
  by_cases hi : i = 0
  · subst hi
    rw [List.getElem?_set_self (by simp [z_w, hN]), z_w_get hN]
    simp [z_sl]
  · rw [List.getElem?_set_ne (Ne.symm hi)]
    by_cases hN : i < N
    · rw [z_w_get hN, z_w_get hN]
      simp only [z_sl]
      rw [hx i (by omega) _ d.2 x]
    · simp [z_w, hN]
/-- the classes of the arrays: int, boolean, char, Path, State -/
abbrev z_G : Type := ClassId × ClassId × ClassId × ClassId × ClassId
abbrev z_tys (G : z_G) : List (ClassId × FieldType) := [(G.1, .int), (G.2.1, .boolean), (G.2.2.1, .char), (G.2.2.2.1, .object "PathStream$Path"), (G.2.2.2.2, .object "PathStream$State")]
def z_Wd (D : va_G) (G : z_G) (ws : va_W) (U : State) : Prop := va_P D vwCl ws U.heap ∧ va_K D vwCl (z_tys G) U
abbrev z_rm (f n : Nat) : Room := { frames := f, cells := 0, slots := 0, locals := n }
/-- contracts: an int (a boolean is 0 or 1), a long, nothing -/
def z_Mi (l : Launch) (D : va_G) (G : z_G) (A : Nat → Prop) (w : Dt → va_W) (y : MethodName) (b : ByteArray) (n : Nat) (rm : Room) (d : Dt) (av : List Value) (r : Int32) (d' : Dt) : Prop :=
  Met l y (.code y b n (some .int) :: wsG) rm (va_Pc av (z_Wd D G (w d))) (va_Qi (fun r0 (_ : Unit) => r0 = r) (fun _ => z_Wd D G (w d')) A) 0 0 A
def z_Mz (l : Launch) (D : va_G) (G : z_G) (A : Nat → Prop) (w : Dt → va_W) (y : MethodName) (b : ByteArray) (n : Nat) (rm : Room) (d : Dt) (av : List Value) (r : Int32) (d' : Dt) : Prop :=
  Met l y (.code y b n (some .boolean) :: wsG) rm (va_Pc av (z_Wd D G (w d))) (va_Qi (fun r0 (_ : Unit) => r0 = r ∧ (r = 0 ∨ r = 1)) (fun _ => z_Wd D G (w d')) A) 0 0 A
def z_Ml (l : Launch) (D : va_G) (G : z_G) (A : Nat → Prop) (w : Dt → va_W) (y : MethodName) (b : ByteArray) (n : Nat) (rm : Room) (d : Dt) (av : List Value) (r : Int64) (d' : Dt) : Prop :=
  Met l y (.code y b n (some .long) :: wsG) rm (va_Pc av (z_Wd D G (w d))) (va_Ql (fun r0 (_ : Unit) => r0 = r) (fun _ => z_Wd D G (w d')) A) 0 0 A
def z_Mv (l : Launch) (D : va_G) (G : z_G) (A : Nat → Prop) (w : Dt → va_W) (y : MethodName) (b : ByteArray) (n : Nat) (rm : Room) (d : Dt) (av : List Value) (d' : Dt) : Prop :=
  Met l y (.code y b n none :: wsG) rm (va_Pc av (z_Wd D G (w d))) (va_Qv (fun (_ : Unit) => True) (fun _ => z_Wd D G (w d')) A) 0 0 A
theorem z_of {l : Launch} {D : va_G} {G : z_G} {A : Nat → Prop} {ws : va_W} {y : MethodName} {b : ByteArray} {n : Nat} {ret : Option FieldType} {rm : Room} {av : List Value} {Qc : Array Value → State → Outcome → State → Prop}
    (hy : plainName y.cls = true) (hn : (lg_sl av).length ≤ n)
    (body : ∀ (p : Program) (e : Env) (s : State) (m : MethodId) (below : List Frame) (meth : Method) (c : Code), p.tables.exec = Jvm.exec → c.code = b → meth.sig.returnType = ret → c.maxLocals = n → s.vm.findClass y.cls = some m.cls → meth.locks = false → (∀ w ∈ wsG, w.before av.toArray s = true) → va_K D vwCl (z_tys G) s → va_P D vwCl ws s.heap → ∀ ls : Array Slot, lv_has ls n (lv_args 0 av) → W p l e rm s m av.toArray below meth c s.heap [] 0 0 (MQ below Qc av.toArray s 0 0 A) (F0 m 0 ls [])) :
    Met l y (.code y b n ret :: wsG) rm (va_Pc av (z_Wd D G ws)) Qc 0 0 A := by
  refine Met.ofW (cc := b) (maxL := n) (ret := ret) hy rfl ?_
  intro p e s m args below meth c s₁ B hml hv
  obtain ⟨rfl, hP, hK⟩ := hv
  have hts0 := atoms_spec (ws := .code y b n ret :: wsG) B.pre
  rw [lg_entry_eq]
  exact body p e s m below meth c B.exec B.bytes B.returns hml (findClass_of_methodNamed B.named) B.notSynchronized (fun w h => hts0 w (List.mem_cons_of_mem _ h)) hK hP _ (lv_entry av hn)
section ZR
variable {p : Program} {l : Launch} {e : Env} {R : Room} {s : State} {m : MethodId} {args : Array Value} {below : List Frame} {meth : Method} {c : Code} {H : Heap} {locs : List Loc} {cells slots : Nat} {Q : State → Prop}
variable {cc : ByteArray} {pc : Nat} {ls : Array Slot} {rest : List Value} {D : va_G} {G : z_G} {A : Nat → Prop} {H0 : Heap} {w : Dt → va_W} {d d' : Dt}
theorem z_iret {v r : Int32} (hx : p.tables.exec = Jvm.exec) (hb : c.code = cc) (hr : meth.sig.returnType = some .int) (hlk : meth.locks = false) (hK : va_K D vwCl (z_tys G) s) (hP : va_P D vwCl (w d) H) (hS : va_S A s.heap H locs) (h : some (v, d) = some (r, d')) (hdg : decode cc pc = .ok (.ireturn, 1)) :
    W p l e R s m args below meth c H locs 0 0 (MQ below (va_Qi (fun r0 (_ : Unit) => r0 = r) (fun _ => z_Wd D G (w d')) A) args s 0 0 A) (F0 m pc ls [.int v]) := by
  cases h
  exact W.iret (v := v) hx hb hr (fun t ht hW => ⟨⟨v, (), rfl, rfl, by rw [ht]; exact hP, va_K.moved hW.alike hK⟩, hS.F ht⟩) hS.2.2 hdg
theorem z_nb {v : Int32} (h : v = 0 ∨ v = 1) : narrow .boolean (.int v) = .int v := by
  rcases h with rfl | rfl <;> rfl
theorem z_zret {v r : Int32} (hx : p.tables.exec = Jvm.exec) (hb : c.code = cc) (hr : meth.sig.returnType = some .boolean) (hlk : meth.locks = false) (hK : va_K D vwCl (z_tys G) s) (hP : va_P D vwCl (w d) H) (hS : va_S A s.heap H locs) (hz : v = 0 ∨ v = 1) (h : some (v, d) = some (r, d')) (hdg : decode cc pc = .ok (.ireturn, 1)) :
    W p l e R s m args below meth c H locs 0 0 (MQ below (va_Qi (fun r0 (_ : Unit) => r0 = r ∧ (r = 0 ∨ r = 1)) (fun _ => z_Wd D G (w d')) A) args s 0 0 A) (F0 m pc ls [.int v]) := by
  cases h
  exact W.zret (v := v) hx hb hr (z_nb hz) (fun t ht hW => ⟨⟨v, (), rfl, ⟨rfl, hz⟩, by rw [ht]; exact hP, va_K.moved hW.alike hK⟩, hS.F ht⟩) hS.2.2 hdg
theorem z_lret {v r : Int64} (hx : p.tables.exec = Jvm.exec) (hb : c.code = cc) (hr : meth.sig.returnType = some .long) (hlk : meth.locks = false) (hK : va_K D vwCl (z_tys G) s) (hP : va_P D vwCl (w d) H) (hS : va_S A s.heap H locs) (h : some (v, d) = some (r, d')) (hdg : decode cc pc = .ok (.lreturn, 1)) :
    W p l e R s m args below meth c H locs 0 0 (MQ below (va_Ql (fun r0 (_ : Unit) => r0 = r) (fun _ => z_Wd D G (w d')) A) args s 0 0 A) (F0 m pc ls [.long v]) := by
  cases h
  exact W.lret (v := v) hx hb hr (fun t ht hW => ⟨⟨v, (), rfl, rfl, by rw [ht]; exact hP, va_K.moved hW.alike hK⟩, hS.F ht⟩) hS.2.2 hdg
theorem z_vret (hx : p.tables.exec = Jvm.exec) (hb : c.code = cc) (hr : meth.sig.returnType = none) (hlk : meth.locks = false) (hK : va_K D vwCl (z_tys G) s) (hP : va_P D vwCl (w d) H) (hS : va_S A s.heap H locs) (h : some d = some d') (hdg : decode cc pc = .ok (.return_, 1)) :
    W p l e R s m args below meth c H locs 0 0 (MQ below (va_Qv (fun (_ : Unit) => True) (fun _ => z_Wd D G (w d')) A) args s 0 0 A) (F0 m pc ls []) := by
  cases h
  exact W.vret hx hb hr (fun t ht hW => ⟨⟨(), rfl, trivial, by rw [ht]; exact hP, va_K.moved hW.alike hK⟩, hS.F ht⟩) hS.2.2 hdg
/-- the same for methods that write nothing -/
theorem z_pair {α : Type} {v r : α} {d : Dt} (h : some v = some r) : some (v, d) = some (r, d) := by cases h; rfl
theorem z_fb {av : List Value} {ws : va_W} : FrameBlind (va_Pc av (z_Wd D G ws)) := fun a U g mk q => ⟨q.1, q.2.1, va_K.moved (u := U) (U := U.calling g mk a) (Vm.Alike.refl U.vm) q.2.2⟩
theorem z_pS {As : List Value} {ws : va_W} (hK : va_K D vwCl (z_tys G) s) (hP : va_P D vwCl ws H) : PreS s H (va_Pc As (z_Wd D G ws)) As := ⟨z_fb, fun U hU hW => ⟨rfl, by rw [hU]; exact hP, va_K.moved hW.alike hK⟩⟩
theorem z_pV {As : List Value} {ws : va_W} {a k ci : Nat} {q : vw_C} {fs : List Value} (hK : va_K D vwCl (z_tys G) s) (hP : va_P D vwCl ws H) (he : ws[k]? = some (a, .inr (ci, fs))) (hc : vwCl[ci]? = some q) : PreV s H q.1 a (va_Pc (.ref a :: As) (z_Wd D G ws)) As := ⟨z_fb, va_recv hK hP hc he, fun U hU hW => ⟨rfl, by rw [hU]; exact hP, va_K.moved hW.alike hK⟩⟩
variable {a : Array Value} {rs : List Value} {st0 : List Value}
/-- behind a call -/
theorem z_ki {r : Int32} (hr : va_Run p l e R s m args below meth c H locs cells slots 0 0 (F0 m pc ls st0) rest (va_Qi (fun r0 (_ : Unit) => r0 = r) (fun _ => z_Wd D G (w d')) A a) A) (hS : va_S A H0 H locs)
    (kk : ∀ (H1 : Heap) (locs1 : List Loc), va_P D vwCl (w d') H1 → va_S A H0 H1 locs1 → W p l e R s m args below meth c H1 locs1 cells slots Q (F0 m (pc + 3) ls (.int r :: rest))) : W p l e R s m args below meth c H locs cells slots Q (F0 m pc ls st0) :=
  va_calli hr hS (fun _ _ h => h) (fun _ h => h) (fun r0 u t H1 locs1 ht hvm hw hB hz hk hS1 => by
    have hw : r0 = r := hw
    subst hw
    exact kk H1 locs1 (by rw [← ht]; exact hB.1) hS1)
theorem z_kz {r : Int32} (hr : va_Run p l e R s m args below meth c H locs cells slots 0 0 (F0 m pc ls st0) rest (va_Qi (fun r0 (_ : Unit) => r0 = r ∧ (r = 0 ∨ r = 1)) (fun _ => z_Wd D G (w d')) A a) A) (hS : va_S A H0 H locs)
    (kk : ∀ (H1 : Heap) (locs1 : List Loc), (r = 0 ∨ r = 1) → va_P D vwCl (w d') H1 → va_S A H0 H1 locs1 → W p l e R s m args below meth c H1 locs1 cells slots Q (F0 m (pc + 3) ls (.int r :: rest))) : W p l e R s m args below meth c H locs cells slots Q (F0 m pc ls st0) :=
  va_calli hr hS (fun _ _ h => h) (fun _ h => h) (fun r0 u t H1 locs1 ht hvm hw hB hz hk hS1 => by
    have hw : r0 = r ∧ (r = 0 ∨ r = 1) := hw
    obtain ⟨rfl, hw⟩ := hw
    exact kk H1 locs1 hw (by rw [← ht]; exact hB.1) hS1)
theorem z_kl {r : Int64} (hr : va_Run p l e R s m args below meth c H locs cells slots 0 0 (F0 m pc ls st0) rest (va_Ql (fun r0 (_ : Unit) => r0 = r) (fun _ => z_Wd D G (w d')) A a) A) (hS : va_S A H0 H locs)
    (kk : ∀ (H1 : Heap) (locs1 : List Loc), va_P D vwCl (w d') H1 → va_S A H0 H1 locs1 → W p l e R s m args below meth c H1 locs1 cells slots Q (F0 m (pc + 3) ls (.long r :: rest))) : W p l e R s m args below meth c H locs cells slots Q (F0 m pc ls st0) :=
  va_calll hr hS (fun _ _ h => h) (fun _ h => h) (fun r0 u t H1 locs1 ht hvm hw hB hz hk hS1 => by
    have hw : r0 = r := hw
    subst hw
    exact kk H1 locs1 (by rw [← ht]; exact hB.1) hS1)
theorem z_kv (hr : va_Run p l e R s m args below meth c H locs cells slots 0 0 (F0 m pc ls st0) rest (va_Qv (fun (_ : Unit) => True) (fun _ => z_Wd D G (w d')) A a) A) (hS : va_S A H0 H locs)
    (kk : ∀ (H1 : Heap) (locs1 : List Loc), va_P D vwCl (w d') H1 → va_S A H0 H1 locs1 → W p l e R s m args below meth c H1 locs1 cells slots Q (F0 m (pc + 3) ls rest)) : W p l e R s m args below meth c H locs cells slots Q (F0 m pc ls st0) :=
  va_callv hr hS (fun _ _ h => h) (fun _ h => h) (fun u t H1 locs1 ht hvm hw hB hz hk hS1 => kk H1 locs1 (by rw [← ht]; exact hB.1) hS1)
/-- a call's run -/
theorem z_rV {own : String} {nL n index ci k a0 mL : Nat} {y : MethodName} {b : ByteArray} {ret : Option FieldType} {rm : Room} {As : List Value} {q : vw_C} {fs : List Value} {Qc : Array Value → State → Outcome → State → Prop} {free : Addr → Prop}
    (S : CallFix p m c cc nL s args wsG own) (hK : va_K D vwCl (z_tys G) s) (hP : va_P D vwCl (w d) H) (he : (w d)[k]? = some (a0, .inr (ci, fs))) (hc : vwCl[ci]? = some q)
    (hM : Met l y (.code y b mL ret :: wsG) rm (va_Pc (.ref a0 :: As) (z_Wd D G (w d))) Qc 0 0 free)
    (hG : GoodIn wsG (wsV own index q.1 y (.code y b mL ret :: wsG))) (hrm : rm.cells = 0 ∧ rm.slots = 0)
    (hd : y.cls = q.1 ∧ y.cls ≠ "java/lang/invoke/MethodHandle" ∧ y.cls ≠ "java/lang/invoke/VarHandle" ∧ (parseMethodDescriptor y.desc).map (fun d => d.parameters.length) = some n)
    (hR : rm.frames + 1 ≤ R.frames ∧ 8 + (mL + 11) + rm.locals ≤ R.locals) (hn : As.length = n) (hsz : ls.size = nL) (hst : st0 = As.reverse ++ .ref a0 :: rest) (hW : (rest.map fun v => v.category).sum ≤ 8) (hcl : cells ≤ R.cells ∧ slots ≤ R.slots) (hdg : decode cc pc = .ok (.invokevirtual index, 3)) :
    va_Run p l e R s m args below meth c H locs cells slots 0 0 (F0 m pc ls st0) rest (Qc (Value.ref a0 :: As).toArray) free :=
  va_runV (As := As) (rest := rest) S hM (cwV n S.2.2.2.2 hG rfl hrm.1 hrm.2 hd hR) (z_pV hK hP he hc) rfl hn hsz hst (lv_room hW) hdg hcl
theorem z_rS {own : String} {nL n index mL : Nat} {y : MethodName} {b : ByteArray} {ret : Option FieldType} {rm : Room} {As : List Value} {Qc : Array Value → State → Outcome → State → Prop} {free : Addr → Prop}
    (S : CallFix p m c cc nL s args wsG own) (hK : va_K D vwCl (z_tys G) s) (hP : va_P D vwCl (w d) H)
    (hM : Met l y (.code y b mL ret :: wsG) rm (va_Pc As (z_Wd D G (w d))) Qc 0 0 free)
    (hG : GoodIn wsG (va_wsS own index y (.code y b mL ret :: wsG))) (hrm : rm.cells = 0 ∧ rm.slots = 0)
    (hd : y.cls ≠ "java/lang/invoke/MethodHandle" ∧ y.cls ≠ "java/lang/invoke/VarHandle" ∧ (parseMethodDescriptor y.desc).map (fun d => d.parameters.length) = some n)
    (hR : rm.frames + 1 ≤ R.frames ∧ 8 + (mL + 11) + rm.locals ≤ R.locals) (hn : As.length = n) (hsz : ls.size = nL) (hst : st0 = As.reverse ++ rest) (hW : (rest.map fun v => v.category).sum ≤ 8) (hcl : cells ≤ R.cells ∧ slots ≤ R.slots) (hdg : decode cc pc = .ok (.invokestatic index, 3)) :
    va_Run p l e R s m args below meth c H locs cells slots 0 0 (F0 m pc ls st0) rest (Qc As.toArray) free :=
  va_runS (As := As) (rest := rest) S hM (va_cwS n S.2.2.2.2 hG rfl hrm.1 hrm.2 hd hR) (z_pS hK hP) rfl hn hsz hst (lv_room hW) hdg hcl
end ZR
end
section
/-! THE CLASS'S WORLD: 520 cells. 0 PathStream; 1, 29, 72 + 28 i: a State with its 27 cells; 57 before, 58 slots, 59 slotHolds, 60 Matcher, 65 TaskReader, 67 text .. -/
def so (k : Nat) : Nat := if k < 57 then (k - 1) % 28 else (k - 72) % 28
def arC (k : Nat) : Nat := if k = 0 ∨ 520 ≤ k then 0 else if 57 ≤ k ∧ k < 72 then (if 61 ≤ k ∧ k ≤ 64 then 20 else if k = 66 ∨ k = 70 then 4 else if k = 68 ∨ k = 69 then 6 else if k = 71 then 5 else 0)
  else if 2 ≤ so k ∧ so k ≤ 6 then 20 else if so k < 9 ∨ so k % 4 = 0 then 0 else if so k % 4 = 1 then 4 else 20
def shC (G : z_G) (ad : Nat → Nat) (k : Nat) (g : Nat → Int32) (x : Int64) : va_E :=
  if 0 < arC k then .inl (G.1, arC k, .inl g)
  else if k = 0 then .inr (5, [.ref (ad 1), .ref (ad 29), .ref (ad 57), .ref (ad 58), .ref (ad 59), .ref (ad 60), .ref (ad 65), .ref (ad 67), .ref (ad 68), .ref (ad 69), .ref (ad 70), .ref (ad 71), .int (g 12), .int (g 13), .int (g 14), .int (g 15), .long x])
  else if k = 57 then .inl (G.2.2.2.2, 14, .inr (.inr (.inr (.inr (fun j => some (ad (72 + 28 * j)))))))
  else if k = 58 then .inl (G.2.2.2.2, 2, .inr (.inr (.inr (.inr (fun j => some (ad (464 + 28 * j)))))))
  else if k = 59 then .inl (G.2.1, 2, .inl g)
  else if k = 60 then .inr (1, [.ref (ad 61), .ref (ad 62), .ref (ad 63), .ref (ad 64), .int (g 4), .int (g 5)])
  else if k = 65 then .inr (4, [.ref (ad 66), .int (g 1), .int (g 2)])
  else if k = 67 then .inl (G.2.2.1, 99, .inl g)
  else if so k = 0 then .inr (3, [.ref (ad (k + 1)), .ref (ad (k + 7)), .int (g 2)])
  else if so k = 1 then .inr (0, [.ref (ad (k + 1)), .ref (ad (k + 2)), .ref (ad (k + 3)), .ref (ad (k + 4)), .ref (ad (k + 5)), .int (g 5), .int (g 6), .int (g 7), .int (g 8)])
  else if so k = 7 then .inl (G.2.2.2.1, 5, .inr (.inr (.inr (.inr (fun j => some (ad (k + 1 + 4 * j)))))))
  else .inr (2, [.ref (ad (k + 1)), .ref (ad (k + 2)), .ref (ad (k + 3)), .int (g 3), .int (g 4), .int (g 5), .int (g 6)])
def WC (G : z_G) (ad : Nat → Nat) : Dt → va_W := z_w (shC G ad) 520 ad
def isSt (b : Nat) : Prop := b = 1 ∨ b = 29 ∨ (72 ≤ b ∧ b < 520 ∧ (b - 72) % 28 = 0)
def isEl (k : Nat) : Prop := k = 2 ∨ k = 30 ∨ (73 ≤ k ∧ k < 520 ∧ (k - 73) % 28 = 0)
def isPa (k : Nat) : Prop := (9 ≤ k ∧ k < 57 ∧ 8 ≤ (k - 1) % 28 ∧ ((k - 1) % 28) % 4 = 0) ∨ (72 ≤ k ∧ k < 520 ∧ 8 ≤ (k - 72) % 28 ∧ ((k - 72) % 28) % 4 = 0)
theorem st_1 : isSt 1 := Or.inl rfl
theorem st_29 : isSt 29 := Or.inr (Or.inl rfl)
theorem z_ixl {i : Int32} {n : Nat} (h : vp_in i n) : z_ix i < n := Nat.not_le.mp fun q => h (Or.inr q)
theorem st_bef {i : Int32} (h : vp_in i 14) : isSt (72 + 28 * z_ix i) := by
  have := z_ixl h
  unfold isSt; omega
theorem st_slo {i : Int32} (h : vp_in i 2) : isSt (464 + 28 * z_ix i) := by
  have := z_ixl h
  unfold isSt; omega
theorem el_st {b : Nat} (h : isSt b) : isEl (b + 1) := by unfold isSt at h; unfold isEl; omega
theorem pa_st {b : Nat} (h : isSt b) {i : Int32} (hi : vp_in i 5) : isPa (b + 8 + 4 * z_ix i) := by
  have := z_ixl hi
  unfold isSt at h; unfold isPa; omega
theorem pa_0 {b : Nat} (h : isSt b) : isPa (b + 8) := by unfold isSt at h; unfold isPa; omega
theorem ar_el1 {k : Nat} (h : isEl k) : arC (k + 1) = 20 := by
  unfold isEl at h; unfold arC so
  repeat' split
  all_goals omega
theorem ar_el2 {k : Nat} (h : isEl k) : arC (k + 2) = 20 := by
  unfold isEl at h; unfold arC so
  repeat' split
  all_goals omega
theorem ar_el3 {k : Nat} (h : isEl k) : arC (k + 3) = 20 := by
  unfold isEl at h; unfold arC so
  repeat' split
  all_goals omega
theorem ar_el4 {k : Nat} (h : isEl k) : arC (k + 4) = 20 := by
  unfold isEl at h; unfold arC so
  repeat' split
  all_goals omega
theorem ar_el5 {k : Nat} (h : isEl k) : arC (k + 5) = 20 := by
  unfold isEl at h; unfold arC so
  repeat' split
  all_goals omega
theorem ar_pa1 {k : Nat} (h : isPa k) : arC (k + 1) = 4 := by
  unfold isPa at h; unfold arC so
  repeat' split
  all_goals omega
theorem ar_pa2 {k : Nat} (h : isPa k) : arC (k + 2) = 20 := by
  unfold isPa at h; unfold arC so
  repeat' split
  all_goals omega
theorem ar_pa3 {k : Nat} (h : isPa k) : arC (k + 3) = 20 := by
  unfold isPa at h; unfold arC so
  repeat' split
  all_goals omega
theorem lt_el {k : Nat} (h : isEl k) : k < 520 := by unfold isEl at h; omega
theorem lt_st {k : Nat} (h : isSt k) : k < 520 := by unfold isSt at h; omega
theorem lt_pa {k : Nat} (h : isPa k) : k < 520 := by unfold isPa at h; omega
theorem z_ite1 {c : Prop} {i : Decidable c} {α : Type} {a b r : α} (hc : ¬ c) (h : b = r) : (if c then a else b) = r := by rw [if_neg hc]; exact h
theorem ar_k {k n : Nat} (h : arC k = n) (hn : 0 < n) : k < 520 := by
  unfold arC at h
  split at h
  · omega
  · omega
theorem sh_ar {G : z_G} {ad : Nat → Nat} {k n : Nat} {g : Nat → Int32} {x : Int64} (h : arC k = n) (hn : 0 < n) : shC G ad k g x = .inl (G.1, n, .inl g) := by
  unfold shC; rw [if_pos (by omega), h]
theorem wA {G : z_G} {ad : Nat → Nat} {d : Dt} {k n : Nat} (h : arC k = n) (hn : 0 < n) : (WC G ad d)[k]? = some (ad k, .inl (G.1, n, .inl (d.1 k))) := by
  unfold WC; rw [z_w_get (ar_k h hn), sh_ar h hn]
theorem sA {G : z_G} {ad : Nat → Nat} {d : Dt} {k n : Nat} (h : arC k = n) (hn : 0 < n) (g : Nat → Int32) : (WC G ad d).set k (ad k, .inl (G.1, n, .inl g)) = WC G ad (z_sg d k g) := by
  have := z_w_set (sh := shC G ad) (ad := ad) (d := d) (ar_k h hn) g
  rw [sh_ar h hn] at this
  exact this
theorem sh_X3 {G : z_G} {ad : Nat → Nat} {k : Nat} {g : Nat → Int32} {x : Int64} (h : isSt k) : shC G ad k g x = .inr (3, [.ref (ad (k + 1)), .ref (ad (k + 7)), .int (g 2)]) := by
  have ha : arC k = 0 := by
    unfold isSt at h; unfold arC so
    repeat' split
    all_goals omega
  unfold isSt at h; unfold shC
  refine z_ite1 (by omega) (z_ite1 (by omega) (z_ite1 (by omega) (z_ite1 (by omega) (z_ite1 (by omega) (z_ite1 (by omega) (z_ite1 (by omega) (z_ite1 (by omega) ?_)))))))
  exact if_pos (by unfold so; split <;> omega)
theorem sh_X0 {G : z_G} {ad : Nat → Nat} {k : Nat} {g : Nat → Int32} {x : Int64} (h : isEl k) : shC G ad k g x = .inr (0, [.ref (ad (k + 1)), .ref (ad (k + 2)), .ref (ad (k + 3)), .ref (ad (k + 4)), .ref (ad (k + 5)), .int (g 5), .int (g 6), .int (g 7), .int (g 8)]) := by
  have ha : arC k = 0 := by
    unfold isEl at h; unfold arC so
    repeat' split
    all_goals omega
  unfold isEl at h; unfold shC
  refine z_ite1 (by omega) (z_ite1 (by omega) (z_ite1 (by omega) (z_ite1 (by omega) (z_ite1 (by omega) (z_ite1 (by omega) (z_ite1 (by omega) (z_ite1 (by omega) ?_)))))))
  exact z_ite1 (by unfold so; split <;> omega) (if_pos (by unfold so; split <;> omega))
theorem sh_X2 {G : z_G} {ad : Nat → Nat} {k : Nat} {g : Nat → Int32} {x : Int64} (h : isPa k) : shC G ad k g x = .inr (2, [.ref (ad (k + 1)), .ref (ad (k + 2)), .ref (ad (k + 3)), .int (g 3), .int (g 4), .int (g 5), .int (g 6)]) := by
  have ha : arC k = 0 := by
    unfold isPa at h; unfold arC so
    repeat' split
    all_goals omega
  unfold isPa at h; unfold shC
  refine z_ite1 (by omega) (z_ite1 (by omega) (z_ite1 (by omega) (z_ite1 (by omega) (z_ite1 (by omega) (z_ite1 (by omega) (z_ite1 (by omega) (z_ite1 (by omega) ?_)))))))
  exact z_ite1 (by unfold so; split <;> omega) (z_ite1 (by unfold so; split <;> omega) (z_ite1 (by unfold so; split <;> omega) rfl))
theorem sh_X5 {G : z_G} {ad : Nat → Nat} {g : Nat → Int32} {x : Int64} : shC G ad 0 g x = .inr (5, [.ref (ad 1), .ref (ad 29), .ref (ad 57), .ref (ad 58), .ref (ad 59), .ref (ad 60), .ref (ad 65), .ref (ad 67), .ref (ad 68), .ref (ad 69), .ref (ad 70), .ref (ad 71), .int (g 12), .int (g 13), .int (g 14), .int (g 15), .long x]) := rfl
theorem sh_X1 {G : z_G} {ad : Nat → Nat} {g : Nat → Int32} {x : Int64} : shC G ad 60 g x = .inr (1, [.ref (ad 61), .ref (ad 62), .ref (ad 63), .ref (ad 64), .int (g 4), .int (g 5)]) := rfl
theorem sh_X4 {G : z_G} {ad : Nat → Nat} {g : Nat → Int32} {x : Int64} : shC G ad 65 g x = .inr (4, [.ref (ad 66), .int (g 1), .int (g 2)]) := rfl
theorem sh_pp {G : z_G} {ad : Nat → Nat} {k : Nat} {g : Nat → Int32} {x : Int64} (h : isSt k) : shC G ad (k + 7) g x = .inl (G.2.2.2.1, 5, .inr (.inr (.inr (.inr (fun j => some (ad (k + 7 + 1 + 4 * j))))))) := by
  have ha : arC (k + 7) = 0 := by
    unfold isSt at h; unfold arC so
    repeat' split
    all_goals omega
  unfold isSt at h; unfold shC
  refine z_ite1 (by omega) (z_ite1 (by omega) (z_ite1 (by omega) (z_ite1 (by omega) (z_ite1 (by omega) (z_ite1 (by omega) (z_ite1 (by omega) (z_ite1 (by omega) ?_)))))))
  exact z_ite1 (by unfold so; split <;> omega) (z_ite1 (by unfold so; split <;> omega) (if_pos (by unfold so; split <;> omega)))
theorem wPP {G : z_G} {ad : Nat → Nat} {d : Dt} {k : Nat} (h : isSt k) : (WC G ad d)[k + 7]? = some (ad (k + 7), .inl (G.2.2.2.1, 5, .inr (.inr (.inr (.inr (fun j => some (ad (k + 8 + 4 * j)))))))) := by
  unfold WC; rw [z_w_get (by unfold isSt at h; omega), sh_pp h]
theorem w57 {G : z_G} {ad : Nat → Nat} {d : Dt} : (WC G ad d)[57]? = some (ad 57, .inl (G.2.2.2.2, 14, .inr (.inr (.inr (.inr (fun j => some (ad (72 + 28 * j)))))))) := by
  unfold WC; rw [z_w_get (by decide)]; rfl
theorem w58 {G : z_G} {ad : Nat → Nat} {d : Dt} : (WC G ad d)[58]? = some (ad 58, .inl (G.2.2.2.2, 2, .inr (.inr (.inr (.inr (fun j => some (ad (464 + 28 * j)))))))) := by
  unfold WC; rw [z_w_get (by decide)]; rfl
theorem w59 {G : z_G} {ad : Nat → Nat} {d : Dt} : (WC G ad d)[59]? = some (ad 59, .inl (G.2.1, 2, .inl (d.1 59))) := by
  unfold WC; rw [z_w_get (by decide)]; rfl
theorem w67 {G : z_G} {ad : Nat → Nat} {d : Dt} : (WC G ad d)[67]? = some (ad 67, .inl (G.2.2.1, 99, .inl (d.1 67))) := by
  unfold WC; rw [z_w_get (by decide)]; rfl
theorem s59 {G : z_G} {ad : Nat → Nat} {d : Dt} (g : Nat → Int32) : (WC G ad d).set 59 (ad 59, .inl (G.2.1, 2, .inl g)) = WC G ad (z_sg d 59 g) := z_w_set (sh := shC G ad) (ad := ad) (d := d) (k := 59) (by decide) g
theorem s67 {G : z_G} {ad : Nat → Nat} {d : Dt} (g : Nat → Int32) : (WC G ad d).set 67 (ad 67, .inl (G.2.2.1, 99, .inl g)) = WC G ad (z_sg d 67 g) := z_w_set (sh := shC G ad) (ad := ad) (d := d) (k := 67) (by decide) g
theorem shC_l {G : z_G} {ad : Nat → Nat} : ∀ k, 0 < k → ∀ g a b, shC G ad k g a = shC G ad k g b := by
  intro k hk g a b
  unfold shC
  rw [if_neg (show ¬ k = 0 by omega), if_neg (show ¬ k = 0 by omega)]
/-! THE REFERENCE'S WORLD: 16 cells. 0 the object, 2 now, 3 trial .. -/
def arM (k : Nat) : Nat := if k = 1 then 99 else if k = 2 ∨ k = 3 then 214 else if k = 4 then 2996 else if k = 5 then 428 else if k = 7 ∨ k = 8 then 6 else if k = 9 ∨ k = 10 then 8 else if k = 11 then 32 else if k = 12 ∨ k = 13 then 5 else if k = 14 then 20 else if k = 15 then 99 else 0
def shM (G : z_G) (ad : Nat → Nat) (k : Nat) (g : Nat → Int32) (x : Int64) : va_E :=
  if 0 < arM k then .inl (G.1, arM k, .inl g)
  else if k = 6 then .inl (G.2.1, 2, .inl g)
  else .inr (6, [.ref (ad 1), .int (g 1), .ref (ad 2), .ref (ad 3), .ref (ad 4), .int (g 5), .int (g 6), .ref (ad 5), .ref (ad 6), .ref (ad 7), .ref (ad 8), .int (g 11), (if k = 0 then .long x else .long 0), .int (g 13), .ref (ad 9), .ref (ad 10), .ref (ad 11), .ref (ad 12), .int (g 18), .int (g 19), .ref (ad 13), .ref (ad 14), .int (g 22), .ref (ad 15), .int (g 24), .int (g 25)])
def WM (G : z_G) (ad : Nat → Nat) : Dt → va_W := z_w (shM G ad) 16 ad
theorem arM_k {k n : Nat} (h : arM k = n) (hn : 0 < n) : k < 16 := by
  unfold arM at h
  repeat' split at h
  all_goals omega
theorem shM_ar {G : z_G} {ad : Nat → Nat} {k n : Nat} {g : Nat → Int32} {x : Int64} (h : arM k = n) (hn : 0 < n) : shM G ad k g x = .inl (G.1, n, .inl g) := by
  unfold shM; rw [if_pos (by omega), h]
theorem wAM {G : z_G} {ad : Nat → Nat} {d : Dt} {k n : Nat} (h : arM k = n) (hn : 0 < n) : (WM G ad d)[k]? = some (ad k, .inl (G.1, n, .inl (d.1 k))) := by
  unfold WM; rw [z_w_get (arM_k h hn), shM_ar h hn]
theorem sAM {G : z_G} {ad : Nat → Nat} {d : Dt} {k n : Nat} (h : arM k = n) (hn : 0 < n) (g : Nat → Int32) : (WM G ad d).set k (ad k, .inl (G.1, n, .inl g)) = WM G ad (z_sg d k g) := by
  have := z_w_set (sh := shM G ad) (ad := ad) (d := d) (arM_k h hn) g
  rw [shM_ar h hn] at this
  exact this
theorem w6 {G : z_G} {ad : Nat → Nat} {d : Dt} : (WM G ad d)[6]? = some (ad 6, .inl (G.2.1, 2, .inl (d.1 6))) := by
  unfold WM; rw [z_w_get (by decide)]; rfl
theorem s6 {G : z_G} {ad : Nat → Nat} {d : Dt} (g : Nat → Int32) : (WM G ad d).set 6 (ad 6, .inl (G.2.1, 2, .inl g)) = WM G ad (z_sg d 6 g) := z_w_set (sh := shM G ad) (ad := ad) (d := d) (k := 6) (by decide) g
theorem shM_l {G : z_G} {ad : Nat → Nat} : ∀ k, 0 < k → ∀ g a b, shM G ad k g a = shM G ad k g b := by
  intro k hk g a b
  unfold shM
  rw [if_neg (show ¬ k = 0 by omega), if_neg (show ¬ k = 0 by omega)]
theorem sh_X6 {G : z_G} {ad : Nat → Nat} {g : Nat → Int32} {x : Int64} : shM G ad 0 g x = .inr (6, [.ref (ad 1), .int (g 1), .ref (ad 2), .ref (ad 3), .ref (ad 4), .int (g 5), .int (g 6), .ref (ad 5), .ref (ad 6), .ref (ad 7), .ref (ad 8), .int (g 11), .long x, .int (g 13), .ref (ad 9), .ref (ad 10), .ref (ad 11), .ref (ad 12), .int (g 18), .int (g 19), .ref (ad 13), .ref (ad 14), .int (g 22), .ref (ad 15), .int (g 24), .int (g 25)]) := rfl
theorem w_X0 {G : z_G} {ad : Nat → Nat} {d : Dt} {k : Nat} (h : isEl k) : (WC G ad d)[k]? = some (ad k, .inr (0, [.ref (ad (k + 1)), .ref (ad (k + 2)), .ref (ad (k + 3)), .ref (ad (k + 4)), .ref (ad (k + 5)), .int ((d.1 k) 5), .int ((d.1 k) 6), .int ((d.1 k) 7), .int ((d.1 k) 8)])) := by
  unfold WC; rw [z_w_get (lt_el h), (sh_X0 h)]
theorem w_X1 {G : z_G} {ad : Nat → Nat} {d : Dt}  : (WC G ad d)[60]? = some (ad 60, .inr (1, [.ref (ad 61), .ref (ad 62), .ref (ad 63), .ref (ad 64), .int ((d.1 60) 4), .int ((d.1 60) 5)])) := by
  unfold WC; rw [z_w_get (by decide), sh_X1]
theorem w_X2 {G : z_G} {ad : Nat → Nat} {d : Dt} {k : Nat} (h : isPa k) : (WC G ad d)[k]? = some (ad k, .inr (2, [.ref (ad (k + 1)), .ref (ad (k + 2)), .ref (ad (k + 3)), .int ((d.1 k) 3), .int ((d.1 k) 4), .int ((d.1 k) 5), .int ((d.1 k) 6)])) := by
  unfold WC; rw [z_w_get (lt_pa h), (sh_X2 h)]
theorem w_X3 {G : z_G} {ad : Nat → Nat} {d : Dt} {k : Nat} (h : isSt k) : (WC G ad d)[k]? = some (ad k, .inr (3, [.ref (ad (k + 1)), .ref (ad (k + 7)), .int ((d.1 k) 2)])) := by
  unfold WC; rw [z_w_get (lt_st h), (sh_X3 h)]
theorem w_X4 {G : z_G} {ad : Nat → Nat} {d : Dt}  : (WC G ad d)[65]? = some (ad 65, .inr (4, [.ref (ad 66), .int ((d.1 65) 1), .int ((d.1 65) 2)])) := by
  unfold WC; rw [z_w_get (by decide), sh_X4]
theorem w_X5 {G : z_G} {ad : Nat → Nat} {d : Dt}  : (WC G ad d)[0]? = some (ad 0, .inr (5, [.ref (ad 1), .ref (ad 29), .ref (ad 57), .ref (ad 58), .ref (ad 59), .ref (ad 60), .ref (ad 65), .ref (ad 67), .ref (ad 68), .ref (ad 69), .ref (ad 70), .ref (ad 71), .int ((d.1 0) 12), .int ((d.1 0) 13), .int ((d.1 0) 14), .int ((d.1 0) 15), .long d.2])) := by
  unfold WC; rw [z_w_get (by decide), sh_X5]
theorem w_X6 {G : z_G} {ad : Nat → Nat} {d : Dt}  : (WM G ad d)[0]? = some (ad 0, .inr (6, [.ref (ad 1), .int ((d.1 0) 1), .ref (ad 2), .ref (ad 3), .ref (ad 4), .int ((d.1 0) 5), .int ((d.1 0) 6), .ref (ad 5), .ref (ad 6), .ref (ad 7), .ref (ad 8), .int ((d.1 0) 11), .long d.2, .int ((d.1 0) 13), .ref (ad 9), .ref (ad 10), .ref (ad 11), .ref (ad 12), .int ((d.1 0) 18), .int ((d.1 0) 19), .ref (ad 13), .ref (ad 14), .int ((d.1 0) 22), .ref (ad 15), .int ((d.1 0) 24), .int ((d.1 0) 25)])) := by
  unfold WM; rw [z_w_get (by decide), sh_X6]
section ZF
variable {p : Program} {l : Launch} {e : Env} {R : Room} {s : State} {m : MethodId} {args : Array Value} {below : List Frame} {meth : Method} {c : Code} {H : Heap} {locs : List Loc} {cells slots : Nat} {Q : State → Prop}
variable {cc : ByteArray} {pc : Nat} {ls : Array Slot} {rest : List Value} {D : va_G} {G : z_G} {ad : Nat → Nat} {A : Nat → Prop} {H0 : Heap} {d : Dt} {own : String} {index : Nat}
theorem gt_X0_0 (hx : p.tables.exec = Jvm.exec) (hb : c.code = cc) (hts : ∀ w ∈ wsG, w.before args s = true) (hown : s.vm.findClass own = some m.cls) (hK : va_K D vwCl (z_tys G) s) (hP : va_P D vwCl (WC G ad d) H) {k : Nat} (h : isEl k) (hlink : (Cond.fieldLink own index "PathStream$Elements" "names" "[I").before args s = true) (hdg : decode cc pc = .ok (.getfield index, 3)) (kk : W p l e R s m args below meth c H locs cells slots Q (F0 m (pc + 3) ls (.ref (ad (k + 1)) :: rest))) : W p l e R s m args below meth c H locs cells slots Q (F0 m pc ls (.ref (ad k) :: rest)) :=
  va_get hx hb hts inX0 hown hK hP k (w_X0 h) rfl 0 (by decide) hlink (fun _ h => h) rfl hdg kk
theorem gt_X0_1 (hx : p.tables.exec = Jvm.exec) (hb : c.code = cc) (hts : ∀ w ∈ wsG, w.before args s = true) (hown : s.vm.findClass own = some m.cls) (hK : va_K D vwCl (z_tys G) s) (hP : va_P D vwCl (WC G ad d) H) {k : Nat} (h : isEl k) (hlink : (Cond.fieldLink own index "PathStream$Elements" "parents" "[I").before args s = true) (hdg : decode cc pc = .ok (.getfield index, 3)) (kk : W p l e R s m args below meth c H locs cells slots Q (F0 m (pc + 3) ls (.ref (ad (k + 2)) :: rest))) : W p l e R s m args below meth c H locs cells slots Q (F0 m pc ls (.ref (ad k) :: rest)) :=
  va_get hx hb hts inX0 hown hK hP k (w_X0 h) rfl 1 (by decide) hlink (fun _ h => h) rfl hdg kk
theorem gt_X0_2 (hx : p.tables.exec = Jvm.exec) (hb : c.code = cc) (hts : ∀ w ∈ wsG, w.before args s = true) (hown : s.vm.findClass own = some m.cls) (hK : va_K D vwCl (z_tys G) s) (hP : va_P D vwCl (WC G ad d) H) {k : Nat} (h : isEl k) (hlink : (Cond.fieldLink own index "PathStream$Elements" "depths" "[I").before args s = true) (hdg : decode cc pc = .ok (.getfield index, 3)) (kk : W p l e R s m args below meth c H locs cells slots Q (F0 m (pc + 3) ls (.ref (ad (k + 3)) :: rest))) : W p l e R s m args below meth c H locs cells slots Q (F0 m pc ls (.ref (ad k) :: rest)) :=
  va_get hx hb hts inX0 hown hK hP k (w_X0 h) rfl 2 (by decide) hlink (fun _ h => h) rfl hdg kk
theorem gt_X0_3 (hx : p.tables.exec = Jvm.exec) (hb : c.code = cc) (hts : ∀ w ∈ wsG, w.before args s = true) (hown : s.vm.findClass own = some m.cls) (hK : va_K D vwCl (z_tys G) s) (hP : va_P D vwCl (WC G ad d) H) {k : Nat} (h : isEl k) (hlink : (Cond.fieldLink own index "PathStream$Elements" "digitSets" "[I").before args s = true) (hdg : decode cc pc = .ok (.getfield index, 3)) (kk : W p l e R s m args below meth c H locs cells slots Q (F0 m (pc + 3) ls (.ref (ad (k + 4)) :: rest))) : W p l e R s m args below meth c H locs cells slots Q (F0 m pc ls (.ref (ad k) :: rest)) :=
  va_get hx hb hts inX0 hown hK hP k (w_X0 h) rfl 3 (by decide) hlink (fun _ h => h) rfl hdg kk
theorem gt_X0_4 (hx : p.tables.exec = Jvm.exec) (hb : c.code = cc) (hts : ∀ w ∈ wsG, w.before args s = true) (hown : s.vm.findClass own = some m.cls) (hK : va_K D vwCl (z_tys G) s) (hP : va_P D vwCl (WC G ad d) H) {k : Nat} (h : isEl k) (hlink : (Cond.fieldLink own index "PathStream$Elements" "childNames" "[I").before args s = true) (hdg : decode cc pc = .ok (.getfield index, 3)) (kk : W p l e R s m args below meth c H locs cells slots Q (F0 m (pc + 3) ls (.ref (ad (k + 5)) :: rest))) : W p l e R s m args below meth c H locs cells slots Q (F0 m pc ls (.ref (ad k) :: rest)) :=
  va_get hx hb hts inX0 hown hK hP k (w_X0 h) rfl 4 (by decide) hlink (fun _ h => h) rfl hdg kk
theorem gt_X0_5 (hx : p.tables.exec = Jvm.exec) (hb : c.code = cc) (hts : ∀ w ∈ wsG, w.before args s = true) (hown : s.vm.findClass own = some m.cls) (hK : va_K D vwCl (z_tys G) s) (hP : va_P D vwCl (WC G ad d) H) {k : Nat} (h : isEl k) (hlink : (Cond.fieldLink own index "PathStream$Elements" "openSet" "I").before args s = true) (hdg : decode cc pc = .ok (.getfield index, 3)) (kk : W p l e R s m args below meth c H locs cells slots Q (F0 m (pc + 3) ls (.int ((d.1 k) 5) :: rest))) : W p l e R s m args below meth c H locs cells slots Q (F0 m pc ls (.ref (ad k) :: rest)) :=
  va_get hx hb hts inX0 hown hK hP k (w_X0 h) rfl 5 (by decide) hlink (fun _ h => h) rfl hdg kk
theorem sp_X0_5 {k : Nat} (h : isEl k) {v : Int32} : (WC G ad d).set k (ad k, .inr (0, [.ref (ad (k + 1)), .ref (ad (k + 2)), .ref (ad (k + 3)), .ref (ad (k + 4)), .ref (ad (k + 5)), .int v, .int ((d.1 k) 6), .int ((d.1 k) 7), .int ((d.1 k) 8)])) = WC G ad (z_st d k 5 v) := by
  have := z_w_set (sh := shC G ad) (N := 520) (ad := ad) (d := d) (k := k) (lt_el h) (upd (d.1 k) 5 v)
  rw [(sh_X0 h)] at this
  exact this
theorem pt_X0_5 (hx : p.tables.exec = Jvm.exec) (hb : c.code = cc) (hts : ∀ w ∈ wsG, w.before args s = true) (hown : s.vm.findClass own = some m.cls) (hK : va_K D vwCl (z_tys G) s) (hP : va_P D vwCl (WC G ad d) H) (hI : ∀ d, va_D A (WC G ad d)) (hS : va_S A H0 H locs) {k : Nat} (h : isEl k) (hlink : (Cond.fieldLink own index "PathStream$Elements" "openSet" "I").before args s = true) (hdg : decode cc pc = .ok (.putfield index, 3)) {v : Int32} (kk : ∀ (H1 : Heap) (locs1 : List Loc) (d1 : Dt), d1 = z_st d k 5 v → va_P D vwCl (WC G ad d1) H1 → va_S A H0 H1 locs1 → W p l e R s m args below meth c H1 locs1 cells slots Q (F0 m (pc + 3) ls rest)) : W p l e R s m args below meth c H locs cells slots Q (F0 m pc ls (.int v :: .ref (ad k) :: rest)) :=
  va_put hx hb hts inX0 tyX0 tyX0_ok nmX0 hown hK hP (hI d) hS k (w_X0 h) rfl 5 (by decide) hlink (fun _ h => h) rfl (tyX0_ok 5 (by decide)) rfl rfl (by simp) hdg (fun H1 locs1 hP1 _ hS1 => kk H1 locs1 _ rfl ((sp_X0_5 h) ▸ hP1) hS1)
theorem gt_X0_6 (hx : p.tables.exec = Jvm.exec) (hb : c.code = cc) (hts : ∀ w ∈ wsG, w.before args s = true) (hown : s.vm.findClass own = some m.cls) (hK : va_K D vwCl (z_tys G) s) (hP : va_P D vwCl (WC G ad d) H) {k : Nat} (h : isEl k) (hlink : (Cond.fieldLink own index "PathStream$Elements" "count" "I").before args s = true) (hdg : decode cc pc = .ok (.getfield index, 3)) (kk : W p l e R s m args below meth c H locs cells slots Q (F0 m (pc + 3) ls (.int ((d.1 k) 6) :: rest))) : W p l e R s m args below meth c H locs cells slots Q (F0 m pc ls (.ref (ad k) :: rest)) :=
  va_get hx hb hts inX0 hown hK hP k (w_X0 h) rfl 6 (by decide) hlink (fun _ h => h) rfl hdg kk
theorem sp_X0_6 {k : Nat} (h : isEl k) {v : Int32} : (WC G ad d).set k (ad k, .inr (0, [.ref (ad (k + 1)), .ref (ad (k + 2)), .ref (ad (k + 3)), .ref (ad (k + 4)), .ref (ad (k + 5)), .int ((d.1 k) 5), .int v, .int ((d.1 k) 7), .int ((d.1 k) 8)])) = WC G ad (z_st d k 6 v) := by
  have := z_w_set (sh := shC G ad) (N := 520) (ad := ad) (d := d) (k := k) (lt_el h) (upd (d.1 k) 6 v)
  rw [(sh_X0 h)] at this
  exact this
theorem pt_X0_6 (hx : p.tables.exec = Jvm.exec) (hb : c.code = cc) (hts : ∀ w ∈ wsG, w.before args s = true) (hown : s.vm.findClass own = some m.cls) (hK : va_K D vwCl (z_tys G) s) (hP : va_P D vwCl (WC G ad d) H) (hI : ∀ d, va_D A (WC G ad d)) (hS : va_S A H0 H locs) {k : Nat} (h : isEl k) (hlink : (Cond.fieldLink own index "PathStream$Elements" "count" "I").before args s = true) (hdg : decode cc pc = .ok (.putfield index, 3)) {v : Int32} (kk : ∀ (H1 : Heap) (locs1 : List Loc) (d1 : Dt), d1 = z_st d k 6 v → va_P D vwCl (WC G ad d1) H1 → va_S A H0 H1 locs1 → W p l e R s m args below meth c H1 locs1 cells slots Q (F0 m (pc + 3) ls rest)) : W p l e R s m args below meth c H locs cells slots Q (F0 m pc ls (.int v :: .ref (ad k) :: rest)) :=
  va_put hx hb hts inX0 tyX0 tyX0_ok nmX0 hown hK hP (hI d) hS k (w_X0 h) rfl 6 (by decide) hlink (fun _ h => h) rfl (tyX0_ok 6 (by decide)) rfl rfl (by simp) hdg (fun H1 locs1 hP1 _ hS1 => kk H1 locs1 _ rfl ((sp_X0_6 h) ▸ hP1) hS1)
theorem gt_X0_7 (hx : p.tables.exec = Jvm.exec) (hb : c.code = cc) (hts : ∀ w ∈ wsG, w.before args s = true) (hown : s.vm.findClass own = some m.cls) (hK : va_K D vwCl (z_tys G) s) (hP : va_P D vwCl (WC G ad d) H) {k : Nat} (h : isEl k) (hlink : (Cond.fieldLink own index "PathStream$Elements" "current" "I").before args s = true) (hdg : decode cc pc = .ok (.getfield index, 3)) (kk : W p l e R s m args below meth c H locs cells slots Q (F0 m (pc + 3) ls (.int ((d.1 k) 7) :: rest))) : W p l e R s m args below meth c H locs cells slots Q (F0 m pc ls (.ref (ad k) :: rest)) :=
  va_get hx hb hts inX0 hown hK hP k (w_X0 h) rfl 7 (by decide) hlink (fun _ h => h) rfl hdg kk
theorem sp_X0_7 {k : Nat} (h : isEl k) {v : Int32} : (WC G ad d).set k (ad k, .inr (0, [.ref (ad (k + 1)), .ref (ad (k + 2)), .ref (ad (k + 3)), .ref (ad (k + 4)), .ref (ad (k + 5)), .int ((d.1 k) 5), .int ((d.1 k) 6), .int v, .int ((d.1 k) 8)])) = WC G ad (z_st d k 7 v) := by
  have := z_w_set (sh := shC G ad) (N := 520) (ad := ad) (d := d) (k := k) (lt_el h) (upd (d.1 k) 7 v)
  rw [(sh_X0 h)] at this
  exact this
theorem pt_X0_7 (hx : p.tables.exec = Jvm.exec) (hb : c.code = cc) (hts : ∀ w ∈ wsG, w.before args s = true) (hown : s.vm.findClass own = some m.cls) (hK : va_K D vwCl (z_tys G) s) (hP : va_P D vwCl (WC G ad d) H) (hI : ∀ d, va_D A (WC G ad d)) (hS : va_S A H0 H locs) {k : Nat} (h : isEl k) (hlink : (Cond.fieldLink own index "PathStream$Elements" "current" "I").before args s = true) (hdg : decode cc pc = .ok (.putfield index, 3)) {v : Int32} (kk : ∀ (H1 : Heap) (locs1 : List Loc) (d1 : Dt), d1 = z_st d k 7 v → va_P D vwCl (WC G ad d1) H1 → va_S A H0 H1 locs1 → W p l e R s m args below meth c H1 locs1 cells slots Q (F0 m (pc + 3) ls rest)) : W p l e R s m args below meth c H locs cells slots Q (F0 m pc ls (.int v :: .ref (ad k) :: rest)) :=
  va_put hx hb hts inX0 tyX0 tyX0_ok nmX0 hown hK hP (hI d) hS k (w_X0 h) rfl 7 (by decide) hlink (fun _ h => h) rfl (tyX0_ok 7 (by decide)) rfl rfl (by simp) hdg (fun H1 locs1 hP1 _ hS1 => kk H1 locs1 _ rfl ((sp_X0_7 h) ▸ hP1) hS1)
theorem gt_X0_8 (hx : p.tables.exec = Jvm.exec) (hb : c.code = cc) (hts : ∀ w ∈ wsG, w.before args s = true) (hown : s.vm.findClass own = some m.cls) (hK : va_K D vwCl (z_tys G) s) (hP : va_P D vwCl (WC G ad d) H) {k : Nat} (h : isEl k) (hlink : (Cond.fieldLink own index "PathStream$Elements" "clock" "I").before args s = true) (hdg : decode cc pc = .ok (.getfield index, 3)) (kk : W p l e R s m args below meth c H locs cells slots Q (F0 m (pc + 3) ls (.int ((d.1 k) 8) :: rest))) : W p l e R s m args below meth c H locs cells slots Q (F0 m pc ls (.ref (ad k) :: rest)) :=
  va_get hx hb hts inX0 hown hK hP k (w_X0 h) rfl 8 (by decide) hlink (fun _ h => h) rfl hdg kk
theorem sp_X0_8 {k : Nat} (h : isEl k) {v : Int32} : (WC G ad d).set k (ad k, .inr (0, [.ref (ad (k + 1)), .ref (ad (k + 2)), .ref (ad (k + 3)), .ref (ad (k + 4)), .ref (ad (k + 5)), .int ((d.1 k) 5), .int ((d.1 k) 6), .int ((d.1 k) 7), .int v])) = WC G ad (z_st d k 8 v) := by
  have := z_w_set (sh := shC G ad) (N := 520) (ad := ad) (d := d) (k := k) (lt_el h) (upd (d.1 k) 8 v)
  rw [(sh_X0 h)] at this
  exact this
theorem pt_X0_8 (hx : p.tables.exec = Jvm.exec) (hb : c.code = cc) (hts : ∀ w ∈ wsG, w.before args s = true) (hown : s.vm.findClass own = some m.cls) (hK : va_K D vwCl (z_tys G) s) (hP : va_P D vwCl (WC G ad d) H) (hI : ∀ d, va_D A (WC G ad d)) (hS : va_S A H0 H locs) {k : Nat} (h : isEl k) (hlink : (Cond.fieldLink own index "PathStream$Elements" "clock" "I").before args s = true) (hdg : decode cc pc = .ok (.putfield index, 3)) {v : Int32} (kk : ∀ (H1 : Heap) (locs1 : List Loc) (d1 : Dt), d1 = z_st d k 8 v → va_P D vwCl (WC G ad d1) H1 → va_S A H0 H1 locs1 → W p l e R s m args below meth c H1 locs1 cells slots Q (F0 m (pc + 3) ls rest)) : W p l e R s m args below meth c H locs cells slots Q (F0 m pc ls (.int v :: .ref (ad k) :: rest)) :=
  va_put hx hb hts inX0 tyX0 tyX0_ok nmX0 hown hK hP (hI d) hS k (w_X0 h) rfl 8 (by decide) hlink (fun _ h => h) rfl (tyX0_ok 8 (by decide)) rfl rfl (by simp) hdg (fun H1 locs1 hP1 _ hS1 => kk H1 locs1 _ rfl ((sp_X0_8 h) ▸ hP1) hS1)
theorem gt_X1_0 (hx : p.tables.exec = Jvm.exec) (hb : c.code = cc) (hts : ∀ w ∈ wsG, w.before args s = true) (hown : s.vm.findClass own = some m.cls) (hK : va_K D vwCl (z_tys G) s) (hP : va_P D vwCl (WC G ad d) H)  (hlink : (Cond.fieldLink own index "PathStream$Matcher" "sure" "[I").before args s = true) (hdg : decode cc pc = .ok (.getfield index, 3)) (kk : W p l e R s m args below meth c H locs cells slots Q (F0 m (pc + 3) ls (.ref (ad 61) :: rest))) : W p l e R s m args below meth c H locs cells slots Q (F0 m pc ls (.ref (ad 60) :: rest)) :=
  va_get hx hb hts inX1 hown hK hP 60 w_X1 rfl 0 (by decide) hlink (fun _ h => h) rfl hdg kk
theorem gt_X1_1 (hx : p.tables.exec = Jvm.exec) (hb : c.code = cc) (hts : ∀ w ∈ wsG, w.before args s = true) (hown : s.vm.findClass own = some m.cls) (hK : va_K D vwCl (z_tys G) s) (hP : va_P D vwCl (WC G ad d) H)  (hlink : (Cond.fieldLink own index "PathStream$Matcher" "possible" "[I").before args s = true) (hdg : decode cc pc = .ok (.getfield index, 3)) (kk : W p l e R s m args below meth c H locs cells slots Q (F0 m (pc + 3) ls (.ref (ad 62) :: rest))) : W p l e R s m args below meth c H locs cells slots Q (F0 m pc ls (.ref (ad 60) :: rest)) :=
  va_get hx hb hts inX1 hown hK hP 60 w_X1 rfl 1 (by decide) hlink (fun _ h => h) rfl hdg kk
theorem gt_X1_2 (hx : p.tables.exec = Jvm.exec) (hb : c.code = cc) (hts : ∀ w ∈ wsG, w.before args s = true) (hown : s.vm.findClass own = some m.cls) (hK : va_K D vwCl (z_tys G) s) (hP : va_P D vwCl (WC G ad d) H)  (hlink : (Cond.fieldLink own index "PathStream$Matcher" "sureAround" "[I").before args s = true) (hdg : decode cc pc = .ok (.getfield index, 3)) (kk : W p l e R s m args below meth c H locs cells slots Q (F0 m (pc + 3) ls (.ref (ad 63) :: rest))) : W p l e R s m args below meth c H locs cells slots Q (F0 m pc ls (.ref (ad 60) :: rest)) :=
  va_get hx hb hts inX1 hown hK hP 60 w_X1 rfl 2 (by decide) hlink (fun _ h => h) rfl hdg kk
theorem gt_X1_3 (hx : p.tables.exec = Jvm.exec) (hb : c.code = cc) (hts : ∀ w ∈ wsG, w.before args s = true) (hown : s.vm.findClass own = some m.cls) (hK : va_K D vwCl (z_tys G) s) (hP : va_P D vwCl (WC G ad d) H)  (hlink : (Cond.fieldLink own index "PathStream$Matcher" "possibleAround" "[I").before args s = true) (hdg : decode cc pc = .ok (.getfield index, 3)) (kk : W p l e R s m args below meth c H locs cells slots Q (F0 m (pc + 3) ls (.ref (ad 64) :: rest))) : W p l e R s m args below meth c H locs cells slots Q (F0 m pc ls (.ref (ad 60) :: rest)) :=
  va_get hx hb hts inX1 hown hK hP 60 w_X1 rfl 3 (by decide) hlink (fun _ h => h) rfl hdg kk
theorem gt_X1_4 (hx : p.tables.exec = Jvm.exec) (hb : c.code = cc) (hts : ∀ w ∈ wsG, w.before args s = true) (hown : s.vm.findClass own = some m.cls) (hK : va_K D vwCl (z_tys G) s) (hP : va_P D vwCl (WC G ad d) H)  (hlink : (Cond.fieldLink own index "PathStream$Matcher" "answers" "I").before args s = true) (hdg : decode cc pc = .ok (.getfield index, 3)) (kk : W p l e R s m args below meth c H locs cells slots Q (F0 m (pc + 3) ls (.int ((d.1 60) 4) :: rest))) : W p l e R s m args below meth c H locs cells slots Q (F0 m pc ls (.ref (ad 60) :: rest)) :=
  va_get hx hb hts inX1 hown hK hP 60 w_X1 rfl 4 (by decide) hlink (fun _ h => h) rfl hdg kk
theorem sp_X1_4  {v : Int32} : (WC G ad d).set 60 (ad 60, .inr (1, [.ref (ad 61), .ref (ad 62), .ref (ad 63), .ref (ad 64), .int v, .int ((d.1 60) 5)])) = WC G ad (z_st d 60 4 v) := by
  have := z_w_set (sh := shC G ad) (N := 520) (ad := ad) (d := d) (k := 60) (by decide) (upd (d.1 60) 4 v)
  rw [sh_X1] at this
  exact this
theorem pt_X1_4 (hx : p.tables.exec = Jvm.exec) (hb : c.code = cc) (hts : ∀ w ∈ wsG, w.before args s = true) (hown : s.vm.findClass own = some m.cls) (hK : va_K D vwCl (z_tys G) s) (hP : va_P D vwCl (WC G ad d) H) (hI : ∀ d, va_D A (WC G ad d)) (hS : va_S A H0 H locs)  (hlink : (Cond.fieldLink own index "PathStream$Matcher" "answers" "I").before args s = true) (hdg : decode cc pc = .ok (.putfield index, 3)) {v : Int32} (kk : ∀ (H1 : Heap) (locs1 : List Loc) (d1 : Dt), d1 = z_st d 60 4 v → va_P D vwCl (WC G ad d1) H1 → va_S A H0 H1 locs1 → W p l e R s m args below meth c H1 locs1 cells slots Q (F0 m (pc + 3) ls rest)) : W p l e R s m args below meth c H locs cells slots Q (F0 m pc ls (.int v :: .ref (ad 60) :: rest)) :=
  va_put hx hb hts inX1 tyX1 tyX1_ok nmX1 hown hK hP (hI d) hS 60 w_X1 rfl 4 (by decide) hlink (fun _ h => h) rfl (tyX1_ok 4 (by decide)) rfl rfl (by simp) hdg (fun H1 locs1 hP1 _ hS1 => kk H1 locs1 _ rfl (sp_X1_4 ▸ hP1) hS1)
theorem gt_X1_5 (hx : p.tables.exec = Jvm.exec) (hb : c.code = cc) (hts : ∀ w ∈ wsG, w.before args s = true) (hown : s.vm.findClass own = some m.cls) (hK : va_K D vwCl (z_tys G) s) (hP : va_P D vwCl (WC G ad d) H)  (hlink : (Cond.fieldLink own index "PathStream$Matcher" "doubts" "I").before args s = true) (hdg : decode cc pc = .ok (.getfield index, 3)) (kk : W p l e R s m args below meth c H locs cells slots Q (F0 m (pc + 3) ls (.int ((d.1 60) 5) :: rest))) : W p l e R s m args below meth c H locs cells slots Q (F0 m pc ls (.ref (ad 60) :: rest)) :=
  va_get hx hb hts inX1 hown hK hP 60 w_X1 rfl 5 (by decide) hlink (fun _ h => h) rfl hdg kk
theorem sp_X1_5  {v : Int32} : (WC G ad d).set 60 (ad 60, .inr (1, [.ref (ad 61), .ref (ad 62), .ref (ad 63), .ref (ad 64), .int ((d.1 60) 4), .int v])) = WC G ad (z_st d 60 5 v) := by
  have := z_w_set (sh := shC G ad) (N := 520) (ad := ad) (d := d) (k := 60) (by decide) (upd (d.1 60) 5 v)
  rw [sh_X1] at this
  exact this
theorem pt_X1_5 (hx : p.tables.exec = Jvm.exec) (hb : c.code = cc) (hts : ∀ w ∈ wsG, w.before args s = true) (hown : s.vm.findClass own = some m.cls) (hK : va_K D vwCl (z_tys G) s) (hP : va_P D vwCl (WC G ad d) H) (hI : ∀ d, va_D A (WC G ad d)) (hS : va_S A H0 H locs)  (hlink : (Cond.fieldLink own index "PathStream$Matcher" "doubts" "I").before args s = true) (hdg : decode cc pc = .ok (.putfield index, 3)) {v : Int32} (kk : ∀ (H1 : Heap) (locs1 : List Loc) (d1 : Dt), d1 = z_st d 60 5 v → va_P D vwCl (WC G ad d1) H1 → va_S A H0 H1 locs1 → W p l e R s m args below meth c H1 locs1 cells slots Q (F0 m (pc + 3) ls rest)) : W p l e R s m args below meth c H locs cells slots Q (F0 m pc ls (.int v :: .ref (ad 60) :: rest)) :=
  va_put hx hb hts inX1 tyX1 tyX1_ok nmX1 hown hK hP (hI d) hS 60 w_X1 rfl 5 (by decide) hlink (fun _ h => h) rfl (tyX1_ok 5 (by decide)) rfl rfl (by simp) hdg (fun H1 locs1 hP1 _ hS1 => kk H1 locs1 _ rfl (sp_X1_5 ▸ hP1) hS1)
theorem gt_X2_0 (hx : p.tables.exec = Jvm.exec) (hb : c.code = cc) (hts : ∀ w ∈ wsG, w.before args s = true) (hown : s.vm.findClass own = some m.cls) (hK : va_K D vwCl (z_tys G) s) (hP : va_P D vwCl (WC G ad d) H) {k : Nat} (h : isPa k) (hlink : (Cond.fieldLink own index "PathStream$Path" "steps" "[I").before args s = true) (hdg : decode cc pc = .ok (.getfield index, 3)) (kk : W p l e R s m args below meth c H locs cells slots Q (F0 m (pc + 3) ls (.ref (ad (k + 1)) :: rest))) : W p l e R s m args below meth c H locs cells slots Q (F0 m pc ls (.ref (ad k) :: rest)) :=
  va_get hx hb hts inX2 hown hK hP k (w_X2 h) rfl 0 (by decide) hlink (fun _ h => h) rfl hdg kk
theorem gt_X2_1 (hx : p.tables.exec = Jvm.exec) (hb : c.code = cc) (hts : ∀ w ∈ wsG, w.before args s = true) (hown : s.vm.findClass own = some m.cls) (hK : va_K D vwCl (z_tys G) s) (hP : va_P D vwCl (WC G ad d) H) {k : Nat} (h : isPa k) (hlink : (Cond.fieldLink own index "PathStream$Path" "outElements" "[I").before args s = true) (hdg : decode cc pc = .ok (.getfield index, 3)) (kk : W p l e R s m args below meth c H locs cells slots Q (F0 m (pc + 3) ls (.ref (ad (k + 2)) :: rest))) : W p l e R s m args below meth c H locs cells slots Q (F0 m pc ls (.ref (ad k) :: rest)) :=
  va_get hx hb hts inX2 hown hK hP k (w_X2 h) rfl 1 (by decide) hlink (fun _ h => h) rfl hdg kk
theorem gt_X2_2 (hx : p.tables.exec = Jvm.exec) (hb : c.code = cc) (hts : ∀ w ∈ wsG, w.before args s = true) (hown : s.vm.findClass own = some m.cls) (hK : va_K D vwCl (z_tys G) s) (hP : va_P D vwCl (WC G ad d) H) {k : Nat} (h : isPa k) (hlink : (Cond.fieldLink own index "PathStream$Path" "outTimes" "[I").before args s = true) (hdg : decode cc pc = .ok (.getfield index, 3)) (kk : W p l e R s m args below meth c H locs cells slots Q (F0 m (pc + 3) ls (.ref (ad (k + 3)) :: rest))) : W p l e R s m args below meth c H locs cells slots Q (F0 m pc ls (.ref (ad k) :: rest)) :=
  va_get hx hb hts inX2 hown hK hP k (w_X2 h) rfl 2 (by decide) hlink (fun _ h => h) rfl hdg kk
theorem gt_X2_3 (hx : p.tables.exec = Jvm.exec) (hb : c.code = cc) (hts : ∀ w ∈ wsG, w.before args s = true) (hown : s.vm.findClass own = some m.cls) (hK : va_K D vwCl (z_tys G) s) (hP : va_P D vwCl (WC G ad d) H) {k : Nat} (h : isPa k) (hlink : (Cond.fieldLink own index "PathStream$Path" "stepCount" "I").before args s = true) (hdg : decode cc pc = .ok (.getfield index, 3)) (kk : W p l e R s m args below meth c H locs cells slots Q (F0 m (pc + 3) ls (.int ((d.1 k) 3) :: rest))) : W p l e R s m args below meth c H locs cells slots Q (F0 m pc ls (.ref (ad k) :: rest)) :=
  va_get hx hb hts inX2 hown hK hP k (w_X2 h) rfl 3 (by decide) hlink (fun _ h => h) rfl hdg kk
theorem sp_X2_3 {k : Nat} (h : isPa k) {v : Int32} : (WC G ad d).set k (ad k, .inr (2, [.ref (ad (k + 1)), .ref (ad (k + 2)), .ref (ad (k + 3)), .int v, .int ((d.1 k) 4), .int ((d.1 k) 5), .int ((d.1 k) 6)])) = WC G ad (z_st d k 3 v) := by
  have := z_w_set (sh := shC G ad) (N := 520) (ad := ad) (d := d) (k := k) (lt_pa h) (upd (d.1 k) 3 v)
  rw [(sh_X2 h)] at this
  exact this
theorem pt_X2_3 (hx : p.tables.exec = Jvm.exec) (hb : c.code = cc) (hts : ∀ w ∈ wsG, w.before args s = true) (hown : s.vm.findClass own = some m.cls) (hK : va_K D vwCl (z_tys G) s) (hP : va_P D vwCl (WC G ad d) H) (hI : ∀ d, va_D A (WC G ad d)) (hS : va_S A H0 H locs) {k : Nat} (h : isPa k) (hlink : (Cond.fieldLink own index "PathStream$Path" "stepCount" "I").before args s = true) (hdg : decode cc pc = .ok (.putfield index, 3)) {v : Int32} (kk : ∀ (H1 : Heap) (locs1 : List Loc) (d1 : Dt), d1 = z_st d k 3 v → va_P D vwCl (WC G ad d1) H1 → va_S A H0 H1 locs1 → W p l e R s m args below meth c H1 locs1 cells slots Q (F0 m (pc + 3) ls rest)) : W p l e R s m args below meth c H locs cells slots Q (F0 m pc ls (.int v :: .ref (ad k) :: rest)) :=
  va_put hx hb hts inX2 tyX2 tyX2_ok nmX2 hown hK hP (hI d) hS k (w_X2 h) rfl 3 (by decide) hlink (fun _ h => h) rfl (tyX2_ok 3 (by decide)) rfl rfl (by simp) hdg (fun H1 locs1 hP1 _ hS1 => kk H1 locs1 _ rfl ((sp_X2_3 h) ▸ hP1) hS1)
theorem gt_X2_4 (hx : p.tables.exec = Jvm.exec) (hb : c.code = cc) (hts : ∀ w ∈ wsG, w.before args s = true) (hown : s.vm.findClass own = some m.cls) (hK : va_K D vwCl (z_tys G) s) (hP : va_P D vwCl (WC G ad d) H) {k : Nat} (h : isPa k) (hlink : (Cond.fieldLink own index "PathStream$Path" "outCount" "I").before args s = true) (hdg : decode cc pc = .ok (.getfield index, 3)) (kk : W p l e R s m args below meth c H locs cells slots Q (F0 m (pc + 3) ls (.int ((d.1 k) 4) :: rest))) : W p l e R s m args below meth c H locs cells slots Q (F0 m pc ls (.ref (ad k) :: rest)) :=
  va_get hx hb hts inX2 hown hK hP k (w_X2 h) rfl 4 (by decide) hlink (fun _ h => h) rfl hdg kk
theorem sp_X2_4 {k : Nat} (h : isPa k) {v : Int32} : (WC G ad d).set k (ad k, .inr (2, [.ref (ad (k + 1)), .ref (ad (k + 2)), .ref (ad (k + 3)), .int ((d.1 k) 3), .int v, .int ((d.1 k) 5), .int ((d.1 k) 6)])) = WC G ad (z_st d k 4 v) := by
  have := z_w_set (sh := shC G ad) (N := 520) (ad := ad) (d := d) (k := k) (lt_pa h) (upd (d.1 k) 4 v)
  rw [(sh_X2 h)] at this
  exact this
theorem pt_X2_4 (hx : p.tables.exec = Jvm.exec) (hb : c.code = cc) (hts : ∀ w ∈ wsG, w.before args s = true) (hown : s.vm.findClass own = some m.cls) (hK : va_K D vwCl (z_tys G) s) (hP : va_P D vwCl (WC G ad d) H) (hI : ∀ d, va_D A (WC G ad d)) (hS : va_S A H0 H locs) {k : Nat} (h : isPa k) (hlink : (Cond.fieldLink own index "PathStream$Path" "outCount" "I").before args s = true) (hdg : decode cc pc = .ok (.putfield index, 3)) {v : Int32} (kk : ∀ (H1 : Heap) (locs1 : List Loc) (d1 : Dt), d1 = z_st d k 4 v → va_P D vwCl (WC G ad d1) H1 → va_S A H0 H1 locs1 → W p l e R s m args below meth c H1 locs1 cells slots Q (F0 m (pc + 3) ls rest)) : W p l e R s m args below meth c H locs cells slots Q (F0 m pc ls (.int v :: .ref (ad k) :: rest)) :=
  va_put hx hb hts inX2 tyX2 tyX2_ok nmX2 hown hK hP (hI d) hS k (w_X2 h) rfl 4 (by decide) hlink (fun _ h => h) rfl (tyX2_ok 4 (by decide)) rfl rfl (by simp) hdg (fun H1 locs1 hP1 _ hS1 => kk H1 locs1 _ rfl ((sp_X2_4 h) ▸ hP1) hS1)
theorem gt_X2_5 (hx : p.tables.exec = Jvm.exec) (hb : c.code = cc) (hts : ∀ w ∈ wsG, w.before args s = true) (hown : s.vm.findClass own = some m.cls) (hK : va_K D vwCl (z_tys G) s) (hP : va_P D vwCl (WC G ad d) H) {k : Nat} (h : isPa k) (hlink : (Cond.fieldLink own index "PathStream$Path" "outSet" "I").before args s = true) (hdg : decode cc pc = .ok (.getfield index, 3)) (kk : W p l e R s m args below meth c H locs cells slots Q (F0 m (pc + 3) ls (.int ((d.1 k) 5) :: rest))) : W p l e R s m args below meth c H locs cells slots Q (F0 m pc ls (.ref (ad k) :: rest)) :=
  va_get hx hb hts inX2 hown hK hP k (w_X2 h) rfl 5 (by decide) hlink (fun _ h => h) rfl hdg kk
theorem sp_X2_5 {k : Nat} (h : isPa k) {v : Int32} : (WC G ad d).set k (ad k, .inr (2, [.ref (ad (k + 1)), .ref (ad (k + 2)), .ref (ad (k + 3)), .int ((d.1 k) 3), .int ((d.1 k) 4), .int v, .int ((d.1 k) 6)])) = WC G ad (z_st d k 5 v) := by
  have := z_w_set (sh := shC G ad) (N := 520) (ad := ad) (d := d) (k := k) (lt_pa h) (upd (d.1 k) 5 v)
  rw [(sh_X2 h)] at this
  exact this
theorem pt_X2_5 (hx : p.tables.exec = Jvm.exec) (hb : c.code = cc) (hts : ∀ w ∈ wsG, w.before args s = true) (hown : s.vm.findClass own = some m.cls) (hK : va_K D vwCl (z_tys G) s) (hP : va_P D vwCl (WC G ad d) H) (hI : ∀ d, va_D A (WC G ad d)) (hS : va_S A H0 H locs) {k : Nat} (h : isPa k) (hlink : (Cond.fieldLink own index "PathStream$Path" "outSet" "I").before args s = true) (hdg : decode cc pc = .ok (.putfield index, 3)) {v : Int32} (kk : ∀ (H1 : Heap) (locs1 : List Loc) (d1 : Dt), d1 = z_st d k 5 v → va_P D vwCl (WC G ad d1) H1 → va_S A H0 H1 locs1 → W p l e R s m args below meth c H1 locs1 cells slots Q (F0 m (pc + 3) ls rest)) : W p l e R s m args below meth c H locs cells slots Q (F0 m pc ls (.int v :: .ref (ad k) :: rest)) :=
  va_put hx hb hts inX2 tyX2 tyX2_ok nmX2 hown hK hP (hI d) hS k (w_X2 h) rfl 5 (by decide) hlink (fun _ h => h) rfl (tyX2_ok 5 (by decide)) rfl rfl (by simp) hdg (fun H1 locs1 hP1 _ hS1 => kk H1 locs1 _ rfl ((sp_X2_5 h) ▸ hP1) hS1)
theorem gt_X2_6 (hx : p.tables.exec = Jvm.exec) (hb : c.code = cc) (hts : ∀ w ∈ wsG, w.before args s = true) (hown : s.vm.findClass own = some m.cls) (hK : va_K D vwCl (z_tys G) s) (hP : va_P D vwCl (WC G ad d) H) {k : Nat} (h : isPa k) (hlink : (Cond.fieldLink own index "PathStream$Path" "peak" "I").before args s = true) (hdg : decode cc pc = .ok (.getfield index, 3)) (kk : W p l e R s m args below meth c H locs cells slots Q (F0 m (pc + 3) ls (.int ((d.1 k) 6) :: rest))) : W p l e R s m args below meth c H locs cells slots Q (F0 m pc ls (.ref (ad k) :: rest)) :=
  va_get hx hb hts inX2 hown hK hP k (w_X2 h) rfl 6 (by decide) hlink (fun _ h => h) rfl hdg kk
theorem sp_X2_6 {k : Nat} (h : isPa k) {v : Int32} : (WC G ad d).set k (ad k, .inr (2, [.ref (ad (k + 1)), .ref (ad (k + 2)), .ref (ad (k + 3)), .int ((d.1 k) 3), .int ((d.1 k) 4), .int ((d.1 k) 5), .int v])) = WC G ad (z_st d k 6 v) := by
  have := z_w_set (sh := shC G ad) (N := 520) (ad := ad) (d := d) (k := k) (lt_pa h) (upd (d.1 k) 6 v)
  rw [(sh_X2 h)] at this
  exact this
theorem pt_X2_6 (hx : p.tables.exec = Jvm.exec) (hb : c.code = cc) (hts : ∀ w ∈ wsG, w.before args s = true) (hown : s.vm.findClass own = some m.cls) (hK : va_K D vwCl (z_tys G) s) (hP : va_P D vwCl (WC G ad d) H) (hI : ∀ d, va_D A (WC G ad d)) (hS : va_S A H0 H locs) {k : Nat} (h : isPa k) (hlink : (Cond.fieldLink own index "PathStream$Path" "peak" "I").before args s = true) (hdg : decode cc pc = .ok (.putfield index, 3)) {v : Int32} (kk : ∀ (H1 : Heap) (locs1 : List Loc) (d1 : Dt), d1 = z_st d k 6 v → va_P D vwCl (WC G ad d1) H1 → va_S A H0 H1 locs1 → W p l e R s m args below meth c H1 locs1 cells slots Q (F0 m (pc + 3) ls rest)) : W p l e R s m args below meth c H locs cells slots Q (F0 m pc ls (.int v :: .ref (ad k) :: rest)) :=
  va_put hx hb hts inX2 tyX2 tyX2_ok nmX2 hown hK hP (hI d) hS k (w_X2 h) rfl 6 (by decide) hlink (fun _ h => h) rfl (tyX2_ok 6 (by decide)) rfl rfl (by simp) hdg (fun H1 locs1 hP1 _ hS1 => kk H1 locs1 _ rfl ((sp_X2_6 h) ▸ hP1) hS1)
theorem gt_X3_0 (hx : p.tables.exec = Jvm.exec) (hb : c.code = cc) (hts : ∀ w ∈ wsG, w.before args s = true) (hown : s.vm.findClass own = some m.cls) (hK : va_K D vwCl (z_tys G) s) (hP : va_P D vwCl (WC G ad d) H) {k : Nat} (h : isSt k) (hlink : (Cond.fieldLink own index "PathStream$State" "elements" "LPathStream$Elements;").before args s = true) (hdg : decode cc pc = .ok (.getfield index, 3)) (kk : W p l e R s m args below meth c H locs cells slots Q (F0 m (pc + 3) ls (.ref (ad (k + 1)) :: rest))) : W p l e R s m args below meth c H locs cells slots Q (F0 m pc ls (.ref (ad k) :: rest)) :=
  va_get hx hb hts inX3 hown hK hP k (w_X3 h) rfl 0 (by decide) hlink (fun _ h => h) rfl hdg kk
theorem gt_X3_1 (hx : p.tables.exec = Jvm.exec) (hb : c.code = cc) (hts : ∀ w ∈ wsG, w.before args s = true) (hown : s.vm.findClass own = some m.cls) (hK : va_K D vwCl (z_tys G) s) (hP : va_P D vwCl (WC G ad d) H) {k : Nat} (h : isSt k) (hlink : (Cond.fieldLink own index "PathStream$State" "paths" "[LPathStream$Path;").before args s = true) (hdg : decode cc pc = .ok (.getfield index, 3)) (kk : W p l e R s m args below meth c H locs cells slots Q (F0 m (pc + 3) ls (.ref (ad (k + 7)) :: rest))) : W p l e R s m args below meth c H locs cells slots Q (F0 m pc ls (.ref (ad k) :: rest)) :=
  va_get hx hb hts inX3 hown hK hP k (w_X3 h) rfl 1 (by decide) hlink (fun _ h => h) rfl hdg kk
theorem gt_X3_2 (hx : p.tables.exec = Jvm.exec) (hb : c.code = cc) (hts : ∀ w ∈ wsG, w.before args s = true) (hown : s.vm.findClass own = some m.cls) (hK : va_K D vwCl (z_tys G) s) (hP : va_P D vwCl (WC G ad d) H) {k : Nat} (h : isSt k) (hlink : (Cond.fieldLink own index "PathStream$State" "pathCount" "I").before args s = true) (hdg : decode cc pc = .ok (.getfield index, 3)) (kk : W p l e R s m args below meth c H locs cells slots Q (F0 m (pc + 3) ls (.int ((d.1 k) 2) :: rest))) : W p l e R s m args below meth c H locs cells slots Q (F0 m pc ls (.ref (ad k) :: rest)) :=
  va_get hx hb hts inX3 hown hK hP k (w_X3 h) rfl 2 (by decide) hlink (fun _ h => h) rfl hdg kk
theorem sp_X3_2 {k : Nat} (h : isSt k) {v : Int32} : (WC G ad d).set k (ad k, .inr (3, [.ref (ad (k + 1)), .ref (ad (k + 7)), .int v])) = WC G ad (z_st d k 2 v) := by
  have := z_w_set (sh := shC G ad) (N := 520) (ad := ad) (d := d) (k := k) (lt_st h) (upd (d.1 k) 2 v)
  rw [(sh_X3 h)] at this
  exact this
theorem pt_X3_2 (hx : p.tables.exec = Jvm.exec) (hb : c.code = cc) (hts : ∀ w ∈ wsG, w.before args s = true) (hown : s.vm.findClass own = some m.cls) (hK : va_K D vwCl (z_tys G) s) (hP : va_P D vwCl (WC G ad d) H) (hI : ∀ d, va_D A (WC G ad d)) (hS : va_S A H0 H locs) {k : Nat} (h : isSt k) (hlink : (Cond.fieldLink own index "PathStream$State" "pathCount" "I").before args s = true) (hdg : decode cc pc = .ok (.putfield index, 3)) {v : Int32} (kk : ∀ (H1 : Heap) (locs1 : List Loc) (d1 : Dt), d1 = z_st d k 2 v → va_P D vwCl (WC G ad d1) H1 → va_S A H0 H1 locs1 → W p l e R s m args below meth c H1 locs1 cells slots Q (F0 m (pc + 3) ls rest)) : W p l e R s m args below meth c H locs cells slots Q (F0 m pc ls (.int v :: .ref (ad k) :: rest)) :=
  va_put hx hb hts inX3 tyX3 tyX3_ok nmX3 hown hK hP (hI d) hS k (w_X3 h) rfl 2 (by decide) hlink (fun _ h => h) rfl (tyX3_ok 2 (by decide)) rfl rfl (by simp) hdg (fun H1 locs1 hP1 _ hS1 => kk H1 locs1 _ rfl ((sp_X3_2 h) ▸ hP1) hS1)
theorem gt_X4_0 (hx : p.tables.exec = Jvm.exec) (hb : c.code = cc) (hts : ∀ w ∈ wsG, w.before args s = true) (hown : s.vm.findClass own = some m.cls) (hK : va_K D vwCl (z_tys G) s) (hP : va_P D vwCl (WC G ad d) H)  (hlink : (Cond.fieldLink own index "PathStream$TaskReader" "steps" "[I").before args s = true) (hdg : decode cc pc = .ok (.getfield index, 3)) (kk : W p l e R s m args below meth c H locs cells slots Q (F0 m (pc + 3) ls (.ref (ad 66) :: rest))) : W p l e R s m args below meth c H locs cells slots Q (F0 m pc ls (.ref (ad 65) :: rest)) :=
  va_get hx hb hts inX4 hown hK hP 65 w_X4 rfl 0 (by decide) hlink (fun _ h => h) rfl hdg kk
theorem gt_X4_1 (hx : p.tables.exec = Jvm.exec) (hb : c.code = cc) (hts : ∀ w ∈ wsG, w.before args s = true) (hown : s.vm.findClass own = some m.cls) (hK : va_K D vwCl (z_tys G) s) (hP : va_P D vwCl (WC G ad d) H)  (hlink : (Cond.fieldLink own index "PathStream$TaskReader" "stepCount" "I").before args s = true) (hdg : decode cc pc = .ok (.getfield index, 3)) (kk : W p l e R s m args below meth c H locs cells slots Q (F0 m (pc + 3) ls (.int ((d.1 65) 1) :: rest))) : W p l e R s m args below meth c H locs cells slots Q (F0 m pc ls (.ref (ad 65) :: rest)) :=
  va_get hx hb hts inX4 hown hK hP 65 w_X4 rfl 1 (by decide) hlink (fun _ h => h) rfl hdg kk
theorem sp_X4_1  {v : Int32} : (WC G ad d).set 65 (ad 65, .inr (4, [.ref (ad 66), .int v, .int ((d.1 65) 2)])) = WC G ad (z_st d 65 1 v) := by
  have := z_w_set (sh := shC G ad) (N := 520) (ad := ad) (d := d) (k := 65) (by decide) (upd (d.1 65) 1 v)
  rw [sh_X4] at this
  exact this
theorem pt_X4_1 (hx : p.tables.exec = Jvm.exec) (hb : c.code = cc) (hts : ∀ w ∈ wsG, w.before args s = true) (hown : s.vm.findClass own = some m.cls) (hK : va_K D vwCl (z_tys G) s) (hP : va_P D vwCl (WC G ad d) H) (hI : ∀ d, va_D A (WC G ad d)) (hS : va_S A H0 H locs)  (hlink : (Cond.fieldLink own index "PathStream$TaskReader" "stepCount" "I").before args s = true) (hdg : decode cc pc = .ok (.putfield index, 3)) {v : Int32} (kk : ∀ (H1 : Heap) (locs1 : List Loc) (d1 : Dt), d1 = z_st d 65 1 v → va_P D vwCl (WC G ad d1) H1 → va_S A H0 H1 locs1 → W p l e R s m args below meth c H1 locs1 cells slots Q (F0 m (pc + 3) ls rest)) : W p l e R s m args below meth c H locs cells slots Q (F0 m pc ls (.int v :: .ref (ad 65) :: rest)) :=
  va_put hx hb hts inX4 tyX4 tyX4_ok nmX4 hown hK hP (hI d) hS 65 w_X4 rfl 1 (by decide) hlink (fun _ h => h) rfl (tyX4_ok 1 (by decide)) rfl rfl (by simp) hdg (fun H1 locs1 hP1 _ hS1 => kk H1 locs1 _ rfl (sp_X4_1 ▸ hP1) hS1)
theorem gt_X4_2 (hx : p.tables.exec = Jvm.exec) (hb : c.code = cc) (hts : ∀ w ∈ wsG, w.before args s = true) (hown : s.vm.findClass own = some m.cls) (hK : va_K D vwCl (z_tys G) s) (hP : va_P D vwCl (WC G ad d) H)  (hlink : (Cond.fieldLink own index "PathStream$TaskReader" "phase" "I").before args s = true) (hdg : decode cc pc = .ok (.getfield index, 3)) (kk : W p l e R s m args below meth c H locs cells slots Q (F0 m (pc + 3) ls (.int ((d.1 65) 2) :: rest))) : W p l e R s m args below meth c H locs cells slots Q (F0 m pc ls (.ref (ad 65) :: rest)) :=
  va_get hx hb hts inX4 hown hK hP 65 w_X4 rfl 2 (by decide) hlink (fun _ h => h) rfl hdg kk
theorem sp_X4_2  {v : Int32} : (WC G ad d).set 65 (ad 65, .inr (4, [.ref (ad 66), .int ((d.1 65) 1), .int v])) = WC G ad (z_st d 65 2 v) := by
  have := z_w_set (sh := shC G ad) (N := 520) (ad := ad) (d := d) (k := 65) (by decide) (upd (d.1 65) 2 v)
  rw [sh_X4] at this
  exact this
theorem pt_X4_2 (hx : p.tables.exec = Jvm.exec) (hb : c.code = cc) (hts : ∀ w ∈ wsG, w.before args s = true) (hown : s.vm.findClass own = some m.cls) (hK : va_K D vwCl (z_tys G) s) (hP : va_P D vwCl (WC G ad d) H) (hI : ∀ d, va_D A (WC G ad d)) (hS : va_S A H0 H locs)  (hlink : (Cond.fieldLink own index "PathStream$TaskReader" "phase" "I").before args s = true) (hdg : decode cc pc = .ok (.putfield index, 3)) {v : Int32} (kk : ∀ (H1 : Heap) (locs1 : List Loc) (d1 : Dt), d1 = z_st d 65 2 v → va_P D vwCl (WC G ad d1) H1 → va_S A H0 H1 locs1 → W p l e R s m args below meth c H1 locs1 cells slots Q (F0 m (pc + 3) ls rest)) : W p l e R s m args below meth c H locs cells slots Q (F0 m pc ls (.int v :: .ref (ad 65) :: rest)) :=
  va_put hx hb hts inX4 tyX4 tyX4_ok nmX4 hown hK hP (hI d) hS 65 w_X4 rfl 2 (by decide) hlink (fun _ h => h) rfl (tyX4_ok 2 (by decide)) rfl rfl (by simp) hdg (fun H1 locs1 hP1 _ hS1 => kk H1 locs1 _ rfl (sp_X4_2 ▸ hP1) hS1)
theorem gt_X5_0 (hx : p.tables.exec = Jvm.exec) (hb : c.code = cc) (hts : ∀ w ∈ wsG, w.before args s = true) (hown : s.vm.findClass own = some m.cls) (hK : va_K D vwCl (z_tys G) s) (hP : va_P D vwCl (WC G ad d) H)  (hlink : (Cond.fieldLink own index "PathStream" "now" "LPathStream$State;").before args s = true) (hdg : decode cc pc = .ok (.getfield index, 3)) (kk : W p l e R s m args below meth c H locs cells slots Q (F0 m (pc + 3) ls (.ref (ad 1) :: rest))) : W p l e R s m args below meth c H locs cells slots Q (F0 m pc ls (.ref (ad 0) :: rest)) :=
  va_get hx hb hts inX5 hown hK hP 0 w_X5 rfl 0 (by decide) hlink (fun _ h => h) rfl hdg kk
theorem gt_X5_1 (hx : p.tables.exec = Jvm.exec) (hb : c.code = cc) (hts : ∀ w ∈ wsG, w.before args s = true) (hown : s.vm.findClass own = some m.cls) (hK : va_K D vwCl (z_tys G) s) (hP : va_P D vwCl (WC G ad d) H)  (hlink : (Cond.fieldLink own index "PathStream" "trial" "LPathStream$State;").before args s = true) (hdg : decode cc pc = .ok (.getfield index, 3)) (kk : W p l e R s m args below meth c H locs cells slots Q (F0 m (pc + 3) ls (.ref (ad 29) :: rest))) : W p l e R s m args below meth c H locs cells slots Q (F0 m pc ls (.ref (ad 0) :: rest)) :=
  va_get hx hb hts inX5 hown hK hP 0 w_X5 rfl 1 (by decide) hlink (fun _ h => h) rfl hdg kk
theorem gt_X5_2 (hx : p.tables.exec = Jvm.exec) (hb : c.code = cc) (hts : ∀ w ∈ wsG, w.before args s = true) (hown : s.vm.findClass own = some m.cls) (hK : va_K D vwCl (z_tys G) s) (hP : va_P D vwCl (WC G ad d) H)  (hlink : (Cond.fieldLink own index "PathStream" "before" "[LPathStream$State;").before args s = true) (hdg : decode cc pc = .ok (.getfield index, 3)) (kk : W p l e R s m args below meth c H locs cells slots Q (F0 m (pc + 3) ls (.ref (ad 57) :: rest))) : W p l e R s m args below meth c H locs cells slots Q (F0 m pc ls (.ref (ad 0) :: rest)) :=
  va_get hx hb hts inX5 hown hK hP 0 w_X5 rfl 2 (by decide) hlink (fun _ h => h) rfl hdg kk
theorem gt_X5_3 (hx : p.tables.exec = Jvm.exec) (hb : c.code = cc) (hts : ∀ w ∈ wsG, w.before args s = true) (hown : s.vm.findClass own = some m.cls) (hK : va_K D vwCl (z_tys G) s) (hP : va_P D vwCl (WC G ad d) H)  (hlink : (Cond.fieldLink own index "PathStream" "slots" "[LPathStream$State;").before args s = true) (hdg : decode cc pc = .ok (.getfield index, 3)) (kk : W p l e R s m args below meth c H locs cells slots Q (F0 m (pc + 3) ls (.ref (ad 58) :: rest))) : W p l e R s m args below meth c H locs cells slots Q (F0 m pc ls (.ref (ad 0) :: rest)) :=
  va_get hx hb hts inX5 hown hK hP 0 w_X5 rfl 3 (by decide) hlink (fun _ h => h) rfl hdg kk
theorem gt_X5_4 (hx : p.tables.exec = Jvm.exec) (hb : c.code = cc) (hts : ∀ w ∈ wsG, w.before args s = true) (hown : s.vm.findClass own = some m.cls) (hK : va_K D vwCl (z_tys G) s) (hP : va_P D vwCl (WC G ad d) H)  (hlink : (Cond.fieldLink own index "PathStream" "slotHolds" "[Z").before args s = true) (hdg : decode cc pc = .ok (.getfield index, 3)) (kk : W p l e R s m args below meth c H locs cells slots Q (F0 m (pc + 3) ls (.ref (ad 59) :: rest))) : W p l e R s m args below meth c H locs cells slots Q (F0 m pc ls (.ref (ad 0) :: rest)) :=
  va_get hx hb hts inX5 hown hK hP 0 w_X5 rfl 4 (by decide) hlink (fun _ h => h) rfl hdg kk
theorem gt_X5_5 (hx : p.tables.exec = Jvm.exec) (hb : c.code = cc) (hts : ∀ w ∈ wsG, w.before args s = true) (hown : s.vm.findClass own = some m.cls) (hK : va_K D vwCl (z_tys G) s) (hP : va_P D vwCl (WC G ad d) H)  (hlink : (Cond.fieldLink own index "PathStream" "matcher" "LPathStream$Matcher;").before args s = true) (hdg : decode cc pc = .ok (.getfield index, 3)) (kk : W p l e R s m args below meth c H locs cells slots Q (F0 m (pc + 3) ls (.ref (ad 60) :: rest))) : W p l e R s m args below meth c H locs cells slots Q (F0 m pc ls (.ref (ad 0) :: rest)) :=
  va_get hx hb hts inX5 hown hK hP 0 w_X5 rfl 5 (by decide) hlink (fun _ h => h) rfl hdg kk
theorem gt_X5_6 (hx : p.tables.exec = Jvm.exec) (hb : c.code = cc) (hts : ∀ w ∈ wsG, w.before args s = true) (hown : s.vm.findClass own = some m.cls) (hK : va_K D vwCl (z_tys G) s) (hP : va_P D vwCl (WC G ad d) H)  (hlink : (Cond.fieldLink own index "PathStream" "reader" "LPathStream$TaskReader;").before args s = true) (hdg : decode cc pc = .ok (.getfield index, 3)) (kk : W p l e R s m args below meth c H locs cells slots Q (F0 m (pc + 3) ls (.ref (ad 65) :: rest))) : W p l e R s m args below meth c H locs cells slots Q (F0 m pc ls (.ref (ad 0) :: rest)) :=
  va_get hx hb hts inX5 hown hK hP 0 w_X5 rfl 6 (by decide) hlink (fun _ h => h) rfl hdg kk
theorem gt_X5_7 (hx : p.tables.exec = Jvm.exec) (hb : c.code = cc) (hts : ∀ w ∈ wsG, w.before args s = true) (hown : s.vm.findClass own = some m.cls) (hK : va_K D vwCl (z_tys G) s) (hP : va_P D vwCl (WC G ad d) H)  (hlink : (Cond.fieldLink own index "PathStream" "text" "[C").before args s = true) (hdg : decode cc pc = .ok (.getfield index, 3)) (kk : W p l e R s m args below meth c H locs cells slots Q (F0 m (pc + 3) ls (.ref (ad 67) :: rest))) : W p l e R s m args below meth c H locs cells slots Q (F0 m pc ls (.ref (ad 0) :: rest)) :=
  va_get hx hb hts inX5 hown hK hP 0 w_X5 rfl 7 (by decide) hlink (fun _ h => h) rfl hdg kk
theorem gt_X5_8 (hx : p.tables.exec = Jvm.exec) (hb : c.code = cc) (hts : ∀ w ∈ wsG, w.before args s = true) (hown : s.vm.findClass own = some m.cls) (hK : va_K D vwCl (z_tys G) s) (hP : va_P D vwCl (WC G ad d) H)  (hlink : (Cond.fieldLink own index "PathStream" "seenPaths" "[I").before args s = true) (hdg : decode cc pc = .ok (.getfield index, 3)) (kk : W p l e R s m args below meth c H locs cells slots Q (F0 m (pc + 3) ls (.ref (ad 68) :: rest))) : W p l e R s m args below meth c H locs cells slots Q (F0 m pc ls (.ref (ad 0) :: rest)) :=
  va_get hx hb hts inX5 hown hK hP 0 w_X5 rfl 8 (by decide) hlink (fun _ h => h) rfl hdg kk
theorem gt_X5_9 (hx : p.tables.exec = Jvm.exec) (hb : c.code = cc) (hts : ∀ w ∈ wsG, w.before args s = true) (hown : s.vm.findClass own = some m.cls) (hK : va_K D vwCl (z_tys G) s) (hP : va_P D vwCl (WC G ad d) H)  (hlink : (Cond.fieldLink own index "PathStream" "seenCounts" "[I").before args s = true) (hdg : decode cc pc = .ok (.getfield index, 3)) (kk : W p l e R s m args below meth c H locs cells slots Q (F0 m (pc + 3) ls (.ref (ad 69) :: rest))) : W p l e R s m args below meth c H locs cells slots Q (F0 m pc ls (.ref (ad 0) :: rest)) :=
  va_get hx hb hts inX5 hown hK hP 0 w_X5 rfl 9 (by decide) hlink (fun _ h => h) rfl hdg kk
theorem gt_X5_10 (hx : p.tables.exec = Jvm.exec) (hb : c.code = cc) (hts : ∀ w ∈ wsG, w.before args s = true) (hown : s.vm.findClass own = some m.cls) (hK : va_K D vwCl (z_tys G) s) (hP : va_P D vwCl (WC G ad d) H)  (hlink : (Cond.fieldLink own index "PathStream" "parts" "[I").before args s = true) (hdg : decode cc pc = .ok (.getfield index, 3)) (kk : W p l e R s m args below meth c H locs cells slots Q (F0 m (pc + 3) ls (.ref (ad 70) :: rest))) : W p l e R s m args below meth c H locs cells slots Q (F0 m pc ls (.ref (ad 0) :: rest)) :=
  va_get hx hb hts inX5 hown hK hP 0 w_X5 rfl 10 (by decide) hlink (fun _ h => h) rfl hdg kk
theorem gt_X5_11 (hx : p.tables.exec = Jvm.exec) (hb : c.code = cc) (hts : ∀ w ∈ wsG, w.before args s = true) (hown : s.vm.findClass own = some m.cls) (hK : va_K D vwCl (z_tys G) s) (hP : va_P D vwCl (WC G ad d) H)  (hlink : (Cond.fieldLink own index "PathStream" "answerSets" "[I").before args s = true) (hdg : decode cc pc = .ok (.getfield index, 3)) (kk : W p l e R s m args below meth c H locs cells slots Q (F0 m (pc + 3) ls (.ref (ad 71) :: rest))) : W p l e R s m args below meth c H locs cells slots Q (F0 m pc ls (.ref (ad 0) :: rest)) :=
  va_get hx hb hts inX5 hown hK hP 0 w_X5 rfl 11 (by decide) hlink (fun _ h => h) rfl hdg kk
theorem gt_X5_12 (hx : p.tables.exec = Jvm.exec) (hb : c.code = cc) (hts : ∀ w ∈ wsG, w.before args s = true) (hown : s.vm.findClass own = some m.cls) (hK : va_K D vwCl (z_tys G) s) (hP : va_P D vwCl (WC G ad d) H)  (hlink : (Cond.fieldLink own index "PathStream" "textLength" "I").before args s = true) (hdg : decode cc pc = .ok (.getfield index, 3)) (kk : W p l e R s m args below meth c H locs cells slots Q (F0 m (pc + 3) ls (.int ((d.1 0) 12) :: rest))) : W p l e R s m args below meth c H locs cells slots Q (F0 m pc ls (.ref (ad 0) :: rest)) :=
  va_get hx hb hts inX5 hown hK hP 0 w_X5 rfl 12 (by decide) hlink (fun _ h => h) rfl hdg kk
theorem sp_X5_12  {v : Int32} : (WC G ad d).set 0 (ad 0, .inr (5, [.ref (ad 1), .ref (ad 29), .ref (ad 57), .ref (ad 58), .ref (ad 59), .ref (ad 60), .ref (ad 65), .ref (ad 67), .ref (ad 68), .ref (ad 69), .ref (ad 70), .ref (ad 71), .int v, .int ((d.1 0) 13), .int ((d.1 0) 14), .int ((d.1 0) 15), .long d.2])) = WC G ad (z_st d 0 12 v) := by
  have := z_w_set (sh := shC G ad) (N := 520) (ad := ad) (d := d) (k := 0) (by decide) (upd (d.1 0) 12 v)
  rw [sh_X5] at this
  exact this
theorem pt_X5_12 (hx : p.tables.exec = Jvm.exec) (hb : c.code = cc) (hts : ∀ w ∈ wsG, w.before args s = true) (hown : s.vm.findClass own = some m.cls) (hK : va_K D vwCl (z_tys G) s) (hP : va_P D vwCl (WC G ad d) H) (hI : ∀ d, va_D A (WC G ad d)) (hS : va_S A H0 H locs)  (hlink : (Cond.fieldLink own index "PathStream" "textLength" "I").before args s = true) (hdg : decode cc pc = .ok (.putfield index, 3)) {v : Int32} (kk : ∀ (H1 : Heap) (locs1 : List Loc) (d1 : Dt), d1 = z_st d 0 12 v → va_P D vwCl (WC G ad d1) H1 → va_S A H0 H1 locs1 → W p l e R s m args below meth c H1 locs1 cells slots Q (F0 m (pc + 3) ls rest)) : W p l e R s m args below meth c H locs cells slots Q (F0 m pc ls (.int v :: .ref (ad 0) :: rest)) :=
  va_put hx hb hts inX5 tyX5 tyX5_ok nmX5 hown hK hP (hI d) hS 0 w_X5 rfl 12 (by decide) hlink (fun _ h => h) rfl (tyX5_ok 12 (by decide)) rfl rfl (by simp) hdg (fun H1 locs1 hP1 _ hS1 => kk H1 locs1 _ rfl (sp_X5_12 ▸ hP1) hS1)
theorem gt_X5_13 (hx : p.tables.exec = Jvm.exec) (hb : c.code = cc) (hts : ∀ w ∈ wsG, w.before args s = true) (hown : s.vm.findClass own = some m.cls) (hK : va_K D vwCl (z_tys G) s) (hP : va_P D vwCl (WC G ad d) H)  (hlink : (Cond.fieldLink own index "PathStream" "actions" "I").before args s = true) (hdg : decode cc pc = .ok (.getfield index, 3)) (kk : W p l e R s m args below meth c H locs cells slots Q (F0 m (pc + 3) ls (.int ((d.1 0) 13) :: rest))) : W p l e R s m args below meth c H locs cells slots Q (F0 m pc ls (.ref (ad 0) :: rest)) :=
  va_get hx hb hts inX5 hown hK hP 0 w_X5 rfl 13 (by decide) hlink (fun _ h => h) rfl hdg kk
theorem sp_X5_13  {v : Int32} : (WC G ad d).set 0 (ad 0, .inr (5, [.ref (ad 1), .ref (ad 29), .ref (ad 57), .ref (ad 58), .ref (ad 59), .ref (ad 60), .ref (ad 65), .ref (ad 67), .ref (ad 68), .ref (ad 69), .ref (ad 70), .ref (ad 71), .int ((d.1 0) 12), .int v, .int ((d.1 0) 14), .int ((d.1 0) 15), .long d.2])) = WC G ad (z_st d 0 13 v) := by
  have := z_w_set (sh := shC G ad) (N := 520) (ad := ad) (d := d) (k := 0) (by decide) (upd (d.1 0) 13 v)
  rw [sh_X5] at this
  exact this
theorem pt_X5_13 (hx : p.tables.exec = Jvm.exec) (hb : c.code = cc) (hts : ∀ w ∈ wsG, w.before args s = true) (hown : s.vm.findClass own = some m.cls) (hK : va_K D vwCl (z_tys G) s) (hP : va_P D vwCl (WC G ad d) H) (hI : ∀ d, va_D A (WC G ad d)) (hS : va_S A H0 H locs)  (hlink : (Cond.fieldLink own index "PathStream" "actions" "I").before args s = true) (hdg : decode cc pc = .ok (.putfield index, 3)) {v : Int32} (kk : ∀ (H1 : Heap) (locs1 : List Loc) (d1 : Dt), d1 = z_st d 0 13 v → va_P D vwCl (WC G ad d1) H1 → va_S A H0 H1 locs1 → W p l e R s m args below meth c H1 locs1 cells slots Q (F0 m (pc + 3) ls rest)) : W p l e R s m args below meth c H locs cells slots Q (F0 m pc ls (.int v :: .ref (ad 0) :: rest)) :=
  va_put hx hb hts inX5 tyX5 tyX5_ok nmX5 hown hK hP (hI d) hS 0 w_X5 rfl 13 (by decide) hlink (fun _ h => h) rfl (tyX5_ok 13 (by decide)) rfl rfl (by simp) hdg (fun H1 locs1 hP1 _ hS1 => kk H1 locs1 _ rfl (sp_X5_13 ▸ hP1) hS1)
theorem gt_X5_14 (hx : p.tables.exec = Jvm.exec) (hb : c.code = cc) (hts : ∀ w ∈ wsG, w.before args s = true) (hown : s.vm.findClass own = some m.cls) (hK : va_K D vwCl (z_tys G) s) (hP : va_P D vwCl (WC G ad d) H)  (hlink : (Cond.fieldLink own index "PathStream" "nextAction" "I").before args s = true) (hdg : decode cc pc = .ok (.getfield index, 3)) (kk : W p l e R s m args below meth c H locs cells slots Q (F0 m (pc + 3) ls (.int ((d.1 0) 14) :: rest))) : W p l e R s m args below meth c H locs cells slots Q (F0 m pc ls (.ref (ad 0) :: rest)) :=
  va_get hx hb hts inX5 hown hK hP 0 w_X5 rfl 14 (by decide) hlink (fun _ h => h) rfl hdg kk
theorem sp_X5_14  {v : Int32} : (WC G ad d).set 0 (ad 0, .inr (5, [.ref (ad 1), .ref (ad 29), .ref (ad 57), .ref (ad 58), .ref (ad 59), .ref (ad 60), .ref (ad 65), .ref (ad 67), .ref (ad 68), .ref (ad 69), .ref (ad 70), .ref (ad 71), .int ((d.1 0) 12), .int ((d.1 0) 13), .int v, .int ((d.1 0) 15), .long d.2])) = WC G ad (z_st d 0 14 v) := by
  have := z_w_set (sh := shC G ad) (N := 520) (ad := ad) (d := d) (k := 0) (by decide) (upd (d.1 0) 14 v)
  rw [sh_X5] at this
  exact this
theorem pt_X5_14 (hx : p.tables.exec = Jvm.exec) (hb : c.code = cc) (hts : ∀ w ∈ wsG, w.before args s = true) (hown : s.vm.findClass own = some m.cls) (hK : va_K D vwCl (z_tys G) s) (hP : va_P D vwCl (WC G ad d) H) (hI : ∀ d, va_D A (WC G ad d)) (hS : va_S A H0 H locs)  (hlink : (Cond.fieldLink own index "PathStream" "nextAction" "I").before args s = true) (hdg : decode cc pc = .ok (.putfield index, 3)) {v : Int32} (kk : ∀ (H1 : Heap) (locs1 : List Loc) (d1 : Dt), d1 = z_st d 0 14 v → va_P D vwCl (WC G ad d1) H1 → va_S A H0 H1 locs1 → W p l e R s m args below meth c H1 locs1 cells slots Q (F0 m (pc + 3) ls rest)) : W p l e R s m args below meth c H locs cells slots Q (F0 m pc ls (.int v :: .ref (ad 0) :: rest)) :=
  va_put hx hb hts inX5 tyX5 tyX5_ok nmX5 hown hK hP (hI d) hS 0 w_X5 rfl 14 (by decide) hlink (fun _ h => h) rfl (tyX5_ok 14 (by decide)) rfl rfl (by simp) hdg (fun H1 locs1 hP1 _ hS1 => kk H1 locs1 _ rfl (sp_X5_14 ▸ hP1) hS1)
theorem gt_X5_15 (hx : p.tables.exec = Jvm.exec) (hb : c.code = cc) (hts : ∀ w ∈ wsG, w.before args s = true) (hown : s.vm.findClass own = some m.cls) (hK : va_K D vwCl (z_tys G) s) (hP : va_P D vwCl (WC G ad d) H)  (hlink : (Cond.fieldLink own index "PathStream" "observations" "I").before args s = true) (hdg : decode cc pc = .ok (.getfield index, 3)) (kk : W p l e R s m args below meth c H locs cells slots Q (F0 m (pc + 3) ls (.int ((d.1 0) 15) :: rest))) : W p l e R s m args below meth c H locs cells slots Q (F0 m pc ls (.ref (ad 0) :: rest)) :=
  va_get hx hb hts inX5 hown hK hP 0 w_X5 rfl 15 (by decide) hlink (fun _ h => h) rfl hdg kk
theorem sp_X5_15  {v : Int32} : (WC G ad d).set 0 (ad 0, .inr (5, [.ref (ad 1), .ref (ad 29), .ref (ad 57), .ref (ad 58), .ref (ad 59), .ref (ad 60), .ref (ad 65), .ref (ad 67), .ref (ad 68), .ref (ad 69), .ref (ad 70), .ref (ad 71), .int ((d.1 0) 12), .int ((d.1 0) 13), .int ((d.1 0) 14), .int v, .long d.2])) = WC G ad (z_st d 0 15 v) := by
  have := z_w_set (sh := shC G ad) (N := 520) (ad := ad) (d := d) (k := 0) (by decide) (upd (d.1 0) 15 v)
  rw [sh_X5] at this
  exact this
theorem pt_X5_15 (hx : p.tables.exec = Jvm.exec) (hb : c.code = cc) (hts : ∀ w ∈ wsG, w.before args s = true) (hown : s.vm.findClass own = some m.cls) (hK : va_K D vwCl (z_tys G) s) (hP : va_P D vwCl (WC G ad d) H) (hI : ∀ d, va_D A (WC G ad d)) (hS : va_S A H0 H locs)  (hlink : (Cond.fieldLink own index "PathStream" "observations" "I").before args s = true) (hdg : decode cc pc = .ok (.putfield index, 3)) {v : Int32} (kk : ∀ (H1 : Heap) (locs1 : List Loc) (d1 : Dt), d1 = z_st d 0 15 v → va_P D vwCl (WC G ad d1) H1 → va_S A H0 H1 locs1 → W p l e R s m args below meth c H1 locs1 cells slots Q (F0 m (pc + 3) ls rest)) : W p l e R s m args below meth c H locs cells slots Q (F0 m pc ls (.int v :: .ref (ad 0) :: rest)) :=
  va_put hx hb hts inX5 tyX5 tyX5_ok nmX5 hown hK hP (hI d) hS 0 w_X5 rfl 15 (by decide) hlink (fun _ h => h) rfl (tyX5_ok 15 (by decide)) rfl rfl (by simp) hdg (fun H1 locs1 hP1 _ hS1 => kk H1 locs1 _ rfl (sp_X5_15 ▸ hP1) hS1)
theorem gt_X5_16 (hx : p.tables.exec = Jvm.exec) (hb : c.code = cc) (hts : ∀ w ∈ wsG, w.before args s = true) (hown : s.vm.findClass own = some m.cls) (hK : va_K D vwCl (z_tys G) s) (hP : va_P D vwCl (WC G ad d) H)  (hlink : (Cond.fieldLink own index "PathStream" "random" "J").before args s = true) (hdg : decode cc pc = .ok (.getfield index, 3)) (kk : W p l e R s m args below meth c H locs cells slots Q (F0 m (pc + 3) ls (.long d.2 :: rest))) : W p l e R s m args below meth c H locs cells slots Q (F0 m pc ls (.ref (ad 0) :: rest)) :=
  va_get hx hb hts inX5 hown hK hP 0 w_X5 rfl 16 (by decide) hlink (fun _ h => h) rfl hdg kk
theorem sp_X5_16  {v : Int64} : (WC G ad d).set 0 (ad 0, .inr (5, [.ref (ad 1), .ref (ad 29), .ref (ad 57), .ref (ad 58), .ref (ad 59), .ref (ad 60), .ref (ad 65), .ref (ad 67), .ref (ad 68), .ref (ad 69), .ref (ad 70), .ref (ad 71), .int ((d.1 0) 12), .int ((d.1 0) 13), .int ((d.1 0) 14), .int ((d.1 0) 15), .long v])) = WC G ad (z_sl d v) := by
  have := z_w_setl (sh := shC G ad) (N := 520) (ad := ad) (d := d) v (by decide) shC_l
  rw [sh_X5] at this
  exact this
theorem pt_X5_16 (hx : p.tables.exec = Jvm.exec) (hb : c.code = cc) (hts : ∀ w ∈ wsG, w.before args s = true) (hown : s.vm.findClass own = some m.cls) (hK : va_K D vwCl (z_tys G) s) (hP : va_P D vwCl (WC G ad d) H) (hI : ∀ d, va_D A (WC G ad d)) (hS : va_S A H0 H locs)  (hlink : (Cond.fieldLink own index "PathStream" "random" "J").before args s = true) (hdg : decode cc pc = .ok (.putfield index, 3)) {v : Int64} (kk : ∀ (H1 : Heap) (locs1 : List Loc) (d1 : Dt), d1 = z_sl d v → va_P D vwCl (WC G ad d1) H1 → va_S A H0 H1 locs1 → W p l e R s m args below meth c H1 locs1 cells slots Q (F0 m (pc + 3) ls rest)) : W p l e R s m args below meth c H locs cells slots Q (F0 m pc ls (.long v :: .ref (ad 0) :: rest)) :=
  va_put hx hb hts inX5 tyX5 tyX5_ok nmX5 hown hK hP (hI d) hS 0 w_X5 rfl 16 (by decide) hlink (fun _ h => h) rfl (tyX5_ok 16 (by decide)) rfl rfl (by simp) hdg (fun H1 locs1 hP1 _ hS1 => kk H1 locs1 _ rfl (sp_X5_16 ▸ hP1) hS1)
theorem gt_X6_0 (hx : p.tables.exec = Jvm.exec) (hb : c.code = cc) (hts : ∀ w ∈ wsG, w.before args s = true) (hown : s.vm.findClass own = some m.cls) (hK : va_K D vwCl (z_tys G) s) (hP : va_P D vwCl (WM G ad d) H)  (hlink : (Cond.fieldLink own index "PathStreamModel" "text" "[I").before args s = true) (hdg : decode cc pc = .ok (.getfield index, 3)) (kk : W p l e R s m args below meth c H locs cells slots Q (F0 m (pc + 3) ls (.ref (ad 1) :: rest))) : W p l e R s m args below meth c H locs cells slots Q (F0 m pc ls (.ref (ad 0) :: rest)) :=
  va_get hx hb hts inX6 hown hK hP 0 w_X6 rfl 0 (by decide) hlink (fun _ h => h) rfl hdg kk
theorem gt_X6_1 (hx : p.tables.exec = Jvm.exec) (hb : c.code = cc) (hts : ∀ w ∈ wsG, w.before args s = true) (hown : s.vm.findClass own = some m.cls) (hK : va_K D vwCl (z_tys G) s) (hP : va_P D vwCl (WM G ad d) H)  (hlink : (Cond.fieldLink own index "PathStreamModel" "length" "I").before args s = true) (hdg : decode cc pc = .ok (.getfield index, 3)) (kk : W p l e R s m args below meth c H locs cells slots Q (F0 m (pc + 3) ls (.int ((d.1 0) 1) :: rest))) : W p l e R s m args below meth c H locs cells slots Q (F0 m pc ls (.ref (ad 0) :: rest)) :=
  va_get hx hb hts inX6 hown hK hP 0 w_X6 rfl 1 (by decide) hlink (fun _ h => h) rfl hdg kk
theorem sp_X6_1  {v : Int32} : (WM G ad d).set 0 (ad 0, .inr (6, [.ref (ad 1), .int v, .ref (ad 2), .ref (ad 3), .ref (ad 4), .int ((d.1 0) 5), .int ((d.1 0) 6), .ref (ad 5), .ref (ad 6), .ref (ad 7), .ref (ad 8), .int ((d.1 0) 11), .long d.2, .int ((d.1 0) 13), .ref (ad 9), .ref (ad 10), .ref (ad 11), .ref (ad 12), .int ((d.1 0) 18), .int ((d.1 0) 19), .ref (ad 13), .ref (ad 14), .int ((d.1 0) 22), .ref (ad 15), .int ((d.1 0) 24), .int ((d.1 0) 25)])) = WM G ad (z_st d 0 1 v) := by
  have := z_w_set (sh := shM G ad) (N := 16) (ad := ad) (d := d) (k := 0) (by decide) (upd (d.1 0) 1 v)
  rw [sh_X6] at this
  exact this
theorem pt_X6_1 (hx : p.tables.exec = Jvm.exec) (hb : c.code = cc) (hts : ∀ w ∈ wsG, w.before args s = true) (hown : s.vm.findClass own = some m.cls) (hK : va_K D vwCl (z_tys G) s) (hP : va_P D vwCl (WM G ad d) H) (hI : ∀ d, va_D A (WM G ad d)) (hS : va_S A H0 H locs)  (hlink : (Cond.fieldLink own index "PathStreamModel" "length" "I").before args s = true) (hdg : decode cc pc = .ok (.putfield index, 3)) {v : Int32} (kk : ∀ (H1 : Heap) (locs1 : List Loc) (d1 : Dt), d1 = z_st d 0 1 v → va_P D vwCl (WM G ad d1) H1 → va_S A H0 H1 locs1 → W p l e R s m args below meth c H1 locs1 cells slots Q (F0 m (pc + 3) ls rest)) : W p l e R s m args below meth c H locs cells slots Q (F0 m pc ls (.int v :: .ref (ad 0) :: rest)) :=
  va_put hx hb hts inX6 tyX6 tyX6_ok nmX6 hown hK hP (hI d) hS 0 w_X6 rfl 1 (by decide) hlink (fun _ h => h) rfl (tyX6_ok 1 (by decide)) rfl rfl (by simp) hdg (fun H1 locs1 hP1 _ hS1 => kk H1 locs1 _ rfl (sp_X6_1 ▸ hP1) hS1)
theorem gt_X6_2 (hx : p.tables.exec = Jvm.exec) (hb : c.code = cc) (hts : ∀ w ∈ wsG, w.before args s = true) (hown : s.vm.findClass own = some m.cls) (hK : va_K D vwCl (z_tys G) s) (hP : va_P D vwCl (WM G ad d) H)  (hlink : (Cond.fieldLink own index "PathStreamModel" "now" "[I").before args s = true) (hdg : decode cc pc = .ok (.getfield index, 3)) (kk : W p l e R s m args below meth c H locs cells slots Q (F0 m (pc + 3) ls (.ref (ad 2) :: rest))) : W p l e R s m args below meth c H locs cells slots Q (F0 m pc ls (.ref (ad 0) :: rest)) :=
  va_get hx hb hts inX6 hown hK hP 0 w_X6 rfl 2 (by decide) hlink (fun _ h => h) rfl hdg kk
theorem gt_X6_3 (hx : p.tables.exec = Jvm.exec) (hb : c.code = cc) (hts : ∀ w ∈ wsG, w.before args s = true) (hown : s.vm.findClass own = some m.cls) (hK : va_K D vwCl (z_tys G) s) (hP : va_P D vwCl (WM G ad d) H)  (hlink : (Cond.fieldLink own index "PathStreamModel" "trial" "[I").before args s = true) (hdg : decode cc pc = .ok (.getfield index, 3)) (kk : W p l e R s m args below meth c H locs cells slots Q (F0 m (pc + 3) ls (.ref (ad 3) :: rest))) : W p l e R s m args below meth c H locs cells slots Q (F0 m pc ls (.ref (ad 0) :: rest)) :=
  va_get hx hb hts inX6 hown hK hP 0 w_X6 rfl 3 (by decide) hlink (fun _ h => h) rfl hdg kk
theorem gt_X6_4 (hx : p.tables.exec = Jvm.exec) (hb : c.code = cc) (hts : ∀ w ∈ wsG, w.before args s = true) (hown : s.vm.findClass own = some m.cls) (hK : va_K D vwCl (z_tys G) s) (hP : va_P D vwCl (WM G ad d) H)  (hlink : (Cond.fieldLink own index "PathStreamModel" "diary" "[I").before args s = true) (hdg : decode cc pc = .ok (.getfield index, 3)) (kk : W p l e R s m args below meth c H locs cells slots Q (F0 m (pc + 3) ls (.ref (ad 4) :: rest))) : W p l e R s m args below meth c H locs cells slots Q (F0 m pc ls (.ref (ad 0) :: rest)) :=
  va_get hx hb hts inX6 hown hK hP 0 w_X6 rfl 4 (by decide) hlink (fun _ h => h) rfl hdg kk
theorem gt_X6_5 (hx : p.tables.exec = Jvm.exec) (hb : c.code = cc) (hts : ∀ w ∈ wsG, w.before args s = true) (hown : s.vm.findClass own = some m.cls) (hK : va_K D vwCl (z_tys G) s) (hP : va_P D vwCl (WM G ad d) H)  (hlink : (Cond.fieldLink own index "PathStreamModel" "acts" "I").before args s = true) (hdg : decode cc pc = .ok (.getfield index, 3)) (kk : W p l e R s m args below meth c H locs cells slots Q (F0 m (pc + 3) ls (.int ((d.1 0) 5) :: rest))) : W p l e R s m args below meth c H locs cells slots Q (F0 m pc ls (.ref (ad 0) :: rest)) :=
  va_get hx hb hts inX6 hown hK hP 0 w_X6 rfl 5 (by decide) hlink (fun _ h => h) rfl hdg kk
theorem sp_X6_5  {v : Int32} : (WM G ad d).set 0 (ad 0, .inr (6, [.ref (ad 1), .int ((d.1 0) 1), .ref (ad 2), .ref (ad 3), .ref (ad 4), .int v, .int ((d.1 0) 6), .ref (ad 5), .ref (ad 6), .ref (ad 7), .ref (ad 8), .int ((d.1 0) 11), .long d.2, .int ((d.1 0) 13), .ref (ad 9), .ref (ad 10), .ref (ad 11), .ref (ad 12), .int ((d.1 0) 18), .int ((d.1 0) 19), .ref (ad 13), .ref (ad 14), .int ((d.1 0) 22), .ref (ad 15), .int ((d.1 0) 24), .int ((d.1 0) 25)])) = WM G ad (z_st d 0 5 v) := by
  have := z_w_set (sh := shM G ad) (N := 16) (ad := ad) (d := d) (k := 0) (by decide) (upd (d.1 0) 5 v)
  rw [sh_X6] at this
  exact this
theorem pt_X6_5 (hx : p.tables.exec = Jvm.exec) (hb : c.code = cc) (hts : ∀ w ∈ wsG, w.before args s = true) (hown : s.vm.findClass own = some m.cls) (hK : va_K D vwCl (z_tys G) s) (hP : va_P D vwCl (WM G ad d) H) (hI : ∀ d, va_D A (WM G ad d)) (hS : va_S A H0 H locs)  (hlink : (Cond.fieldLink own index "PathStreamModel" "acts" "I").before args s = true) (hdg : decode cc pc = .ok (.putfield index, 3)) {v : Int32} (kk : ∀ (H1 : Heap) (locs1 : List Loc) (d1 : Dt), d1 = z_st d 0 5 v → va_P D vwCl (WM G ad d1) H1 → va_S A H0 H1 locs1 → W p l e R s m args below meth c H1 locs1 cells slots Q (F0 m (pc + 3) ls rest)) : W p l e R s m args below meth c H locs cells slots Q (F0 m pc ls (.int v :: .ref (ad 0) :: rest)) :=
  va_put hx hb hts inX6 tyX6 tyX6_ok nmX6 hown hK hP (hI d) hS 0 w_X6 rfl 5 (by decide) hlink (fun _ h => h) rfl (tyX6_ok 5 (by decide)) rfl rfl (by simp) hdg (fun H1 locs1 hP1 _ hS1 => kk H1 locs1 _ rfl (sp_X6_5 ▸ hP1) hS1)
theorem gt_X6_6 (hx : p.tables.exec = Jvm.exec) (hb : c.code = cc) (hts : ∀ w ∈ wsG, w.before args s = true) (hown : s.vm.findClass own = some m.cls) (hK : va_K D vwCl (z_tys G) s) (hP : va_P D vwCl (WM G ad d) H)  (hlink : (Cond.fieldLink own index "PathStreamModel" "next" "I").before args s = true) (hdg : decode cc pc = .ok (.getfield index, 3)) (kk : W p l e R s m args below meth c H locs cells slots Q (F0 m (pc + 3) ls (.int ((d.1 0) 6) :: rest))) : W p l e R s m args below meth c H locs cells slots Q (F0 m pc ls (.ref (ad 0) :: rest)) :=
  va_get hx hb hts inX6 hown hK hP 0 w_X6 rfl 6 (by decide) hlink (fun _ h => h) rfl hdg kk
theorem sp_X6_6  {v : Int32} : (WM G ad d).set 0 (ad 0, .inr (6, [.ref (ad 1), .int ((d.1 0) 1), .ref (ad 2), .ref (ad 3), .ref (ad 4), .int ((d.1 0) 5), .int v, .ref (ad 5), .ref (ad 6), .ref (ad 7), .ref (ad 8), .int ((d.1 0) 11), .long d.2, .int ((d.1 0) 13), .ref (ad 9), .ref (ad 10), .ref (ad 11), .ref (ad 12), .int ((d.1 0) 18), .int ((d.1 0) 19), .ref (ad 13), .ref (ad 14), .int ((d.1 0) 22), .ref (ad 15), .int ((d.1 0) 24), .int ((d.1 0) 25)])) = WM G ad (z_st d 0 6 v) := by
  have := z_w_set (sh := shM G ad) (N := 16) (ad := ad) (d := d) (k := 0) (by decide) (upd (d.1 0) 6 v)
  rw [sh_X6] at this
  exact this
theorem pt_X6_6 (hx : p.tables.exec = Jvm.exec) (hb : c.code = cc) (hts : ∀ w ∈ wsG, w.before args s = true) (hown : s.vm.findClass own = some m.cls) (hK : va_K D vwCl (z_tys G) s) (hP : va_P D vwCl (WM G ad d) H) (hI : ∀ d, va_D A (WM G ad d)) (hS : va_S A H0 H locs)  (hlink : (Cond.fieldLink own index "PathStreamModel" "next" "I").before args s = true) (hdg : decode cc pc = .ok (.putfield index, 3)) {v : Int32} (kk : ∀ (H1 : Heap) (locs1 : List Loc) (d1 : Dt), d1 = z_st d 0 6 v → va_P D vwCl (WM G ad d1) H1 → va_S A H0 H1 locs1 → W p l e R s m args below meth c H1 locs1 cells slots Q (F0 m (pc + 3) ls rest)) : W p l e R s m args below meth c H locs cells slots Q (F0 m pc ls (.int v :: .ref (ad 0) :: rest)) :=
  va_put hx hb hts inX6 tyX6 tyX6_ok nmX6 hown hK hP (hI d) hS 0 w_X6 rfl 6 (by decide) hlink (fun _ h => h) rfl (tyX6_ok 6 (by decide)) rfl rfl (by simp) hdg (fun H1 locs1 hP1 _ hS1 => kk H1 locs1 _ rfl (sp_X6_6 ▸ hP1) hS1)
theorem gt_X6_7 (hx : p.tables.exec = Jvm.exec) (hb : c.code = cc) (hts : ∀ w ∈ wsG, w.before args s = true) (hown : s.vm.findClass own = some m.cls) (hK : va_K D vwCl (z_tys G) s) (hP : va_P D vwCl (WM G ad d) H)  (hlink : (Cond.fieldLink own index "PathStreamModel" "kept" "[I").before args s = true) (hdg : decode cc pc = .ok (.getfield index, 3)) (kk : W p l e R s m args below meth c H locs cells slots Q (F0 m (pc + 3) ls (.ref (ad 5) :: rest))) : W p l e R s m args below meth c H locs cells slots Q (F0 m pc ls (.ref (ad 0) :: rest)) :=
  va_get hx hb hts inX6 hown hK hP 0 w_X6 rfl 7 (by decide) hlink (fun _ h => h) rfl hdg kk
theorem gt_X6_8 (hx : p.tables.exec = Jvm.exec) (hb : c.code = cc) (hts : ∀ w ∈ wsG, w.before args s = true) (hown : s.vm.findClass own = some m.cls) (hK : va_K D vwCl (z_tys G) s) (hP : va_P D vwCl (WM G ad d) H)  (hlink : (Cond.fieldLink own index "PathStreamModel" "isKept" "[Z").before args s = true) (hdg : decode cc pc = .ok (.getfield index, 3)) (kk : W p l e R s m args below meth c H locs cells slots Q (F0 m (pc + 3) ls (.ref (ad 6) :: rest))) : W p l e R s m args below meth c H locs cells slots Q (F0 m pc ls (.ref (ad 0) :: rest)) :=
  va_get hx hb hts inX6 hown hK hP 0 w_X6 rfl 8 (by decide) hlink (fun _ h => h) rfl hdg kk
theorem gt_X6_9 (hx : p.tables.exec = Jvm.exec) (hb : c.code = cc) (hts : ∀ w ∈ wsG, w.before args s = true) (hown : s.vm.findClass own = some m.cls) (hK : va_K D vwCl (z_tys G) s) (hP : va_P D vwCl (WM G ad d) H)  (hlink : (Cond.fieldLink own index "PathStreamModel" "seenPath" "[I").before args s = true) (hdg : decode cc pc = .ok (.getfield index, 3)) (kk : W p l e R s m args below meth c H locs cells slots Q (F0 m (pc + 3) ls (.ref (ad 7) :: rest))) : W p l e R s m args below meth c H locs cells slots Q (F0 m pc ls (.ref (ad 0) :: rest)) :=
  va_get hx hb hts inX6 hown hK hP 0 w_X6 rfl 9 (by decide) hlink (fun _ h => h) rfl hdg kk
theorem gt_X6_10 (hx : p.tables.exec = Jvm.exec) (hb : c.code = cc) (hts : ∀ w ∈ wsG, w.before args s = true) (hown : s.vm.findClass own = some m.cls) (hK : va_K D vwCl (z_tys G) s) (hP : va_P D vwCl (WM G ad d) H)  (hlink : (Cond.fieldLink own index "PathStreamModel" "seenIs" "[I").before args s = true) (hdg : decode cc pc = .ok (.getfield index, 3)) (kk : W p l e R s m args below meth c H locs cells slots Q (F0 m (pc + 3) ls (.ref (ad 8) :: rest))) : W p l e R s m args below meth c H locs cells slots Q (F0 m pc ls (.ref (ad 0) :: rest)) :=
  va_get hx hb hts inX6 hown hK hP 0 w_X6 rfl 10 (by decide) hlink (fun _ h => h) rfl hdg kk
theorem gt_X6_11 (hx : p.tables.exec = Jvm.exec) (hb : c.code = cc) (hts : ∀ w ∈ wsG, w.before args s = true) (hown : s.vm.findClass own = some m.cls) (hK : va_K D vwCl (z_tys G) s) (hP : va_P D vwCl (WM G ad d) H)  (hlink : (Cond.fieldLink own index "PathStreamModel" "seen" "I").before args s = true) (hdg : decode cc pc = .ok (.getfield index, 3)) (kk : W p l e R s m args below meth c H locs cells slots Q (F0 m (pc + 3) ls (.int ((d.1 0) 11) :: rest))) : W p l e R s m args below meth c H locs cells slots Q (F0 m pc ls (.ref (ad 0) :: rest)) :=
  va_get hx hb hts inX6 hown hK hP 0 w_X6 rfl 11 (by decide) hlink (fun _ h => h) rfl hdg kk
theorem sp_X6_11  {v : Int32} : (WM G ad d).set 0 (ad 0, .inr (6, [.ref (ad 1), .int ((d.1 0) 1), .ref (ad 2), .ref (ad 3), .ref (ad 4), .int ((d.1 0) 5), .int ((d.1 0) 6), .ref (ad 5), .ref (ad 6), .ref (ad 7), .ref (ad 8), .int v, .long d.2, .int ((d.1 0) 13), .ref (ad 9), .ref (ad 10), .ref (ad 11), .ref (ad 12), .int ((d.1 0) 18), .int ((d.1 0) 19), .ref (ad 13), .ref (ad 14), .int ((d.1 0) 22), .ref (ad 15), .int ((d.1 0) 24), .int ((d.1 0) 25)])) = WM G ad (z_st d 0 11 v) := by
  have := z_w_set (sh := shM G ad) (N := 16) (ad := ad) (d := d) (k := 0) (by decide) (upd (d.1 0) 11 v)
  rw [sh_X6] at this
  exact this
theorem pt_X6_11 (hx : p.tables.exec = Jvm.exec) (hb : c.code = cc) (hts : ∀ w ∈ wsG, w.before args s = true) (hown : s.vm.findClass own = some m.cls) (hK : va_K D vwCl (z_tys G) s) (hP : va_P D vwCl (WM G ad d) H) (hI : ∀ d, va_D A (WM G ad d)) (hS : va_S A H0 H locs)  (hlink : (Cond.fieldLink own index "PathStreamModel" "seen" "I").before args s = true) (hdg : decode cc pc = .ok (.putfield index, 3)) {v : Int32} (kk : ∀ (H1 : Heap) (locs1 : List Loc) (d1 : Dt), d1 = z_st d 0 11 v → va_P D vwCl (WM G ad d1) H1 → va_S A H0 H1 locs1 → W p l e R s m args below meth c H1 locs1 cells slots Q (F0 m (pc + 3) ls rest)) : W p l e R s m args below meth c H locs cells slots Q (F0 m pc ls (.int v :: .ref (ad 0) :: rest)) :=
  va_put hx hb hts inX6 tyX6 tyX6_ok nmX6 hown hK hP (hI d) hS 0 w_X6 rfl 11 (by decide) hlink (fun _ h => h) rfl (tyX6_ok 11 (by decide)) rfl rfl (by simp) hdg (fun H1 locs1 hP1 _ hS1 => kk H1 locs1 _ rfl (sp_X6_11 ▸ hP1) hS1)
theorem gt_X6_12 (hx : p.tables.exec = Jvm.exec) (hb : c.code = cc) (hts : ∀ w ∈ wsG, w.before args s = true) (hown : s.vm.findClass own = some m.cls) (hK : va_K D vwCl (z_tys G) s) (hP : va_P D vwCl (WM G ad d) H)  (hlink : (Cond.fieldLink own index "PathStreamModel" "seed" "J").before args s = true) (hdg : decode cc pc = .ok (.getfield index, 3)) (kk : W p l e R s m args below meth c H locs cells slots Q (F0 m (pc + 3) ls (.long d.2 :: rest))) : W p l e R s m args below meth c H locs cells slots Q (F0 m pc ls (.ref (ad 0) :: rest)) :=
  va_get hx hb hts inX6 hown hK hP 0 w_X6 rfl 12 (by decide) hlink (fun _ h => h) rfl hdg kk
theorem sp_X6_12  {v : Int64} : (WM G ad d).set 0 (ad 0, .inr (6, [.ref (ad 1), .int ((d.1 0) 1), .ref (ad 2), .ref (ad 3), .ref (ad 4), .int ((d.1 0) 5), .int ((d.1 0) 6), .ref (ad 5), .ref (ad 6), .ref (ad 7), .ref (ad 8), .int ((d.1 0) 11), .long v, .int ((d.1 0) 13), .ref (ad 9), .ref (ad 10), .ref (ad 11), .ref (ad 12), .int ((d.1 0) 18), .int ((d.1 0) 19), .ref (ad 13), .ref (ad 14), .int ((d.1 0) 22), .ref (ad 15), .int ((d.1 0) 24), .int ((d.1 0) 25)])) = WM G ad (z_sl d v) := by
  have := z_w_setl (sh := shM G ad) (N := 16) (ad := ad) (d := d) v (by decide) shM_l
  rw [sh_X6] at this
  exact this
theorem pt_X6_12 (hx : p.tables.exec = Jvm.exec) (hb : c.code = cc) (hts : ∀ w ∈ wsG, w.before args s = true) (hown : s.vm.findClass own = some m.cls) (hK : va_K D vwCl (z_tys G) s) (hP : va_P D vwCl (WM G ad d) H) (hI : ∀ d, va_D A (WM G ad d)) (hS : va_S A H0 H locs)  (hlink : (Cond.fieldLink own index "PathStreamModel" "seed" "J").before args s = true) (hdg : decode cc pc = .ok (.putfield index, 3)) {v : Int64} (kk : ∀ (H1 : Heap) (locs1 : List Loc) (d1 : Dt), d1 = z_sl d v → va_P D vwCl (WM G ad d1) H1 → va_S A H0 H1 locs1 → W p l e R s m args below meth c H1 locs1 cells slots Q (F0 m (pc + 3) ls rest)) : W p l e R s m args below meth c H locs cells slots Q (F0 m pc ls (.long v :: .ref (ad 0) :: rest)) :=
  va_put hx hb hts inX6 tyX6 tyX6_ok nmX6 hown hK hP (hI d) hS 0 w_X6 rfl 12 (by decide) hlink (fun _ h => h) rfl (tyX6_ok 12 (by decide)) rfl rfl (by simp) hdg (fun H1 locs1 hP1 _ hS1 => kk H1 locs1 _ rfl (sp_X6_12 ▸ hP1) hS1)
theorem gt_X6_13 (hx : p.tables.exec = Jvm.exec) (hb : c.code = cc) (hts : ∀ w ∈ wsG, w.before args s = true) (hown : s.vm.findClass own = some m.cls) (hK : va_K D vwCl (z_tys G) s) (hP : va_P D vwCl (WM G ad d) H)  (hlink : (Cond.fieldLink own index "PathStreamModel" "otherTest" "I").before args s = true) (hdg : decode cc pc = .ok (.getfield index, 3)) (kk : W p l e R s m args below meth c H locs cells slots Q (F0 m (pc + 3) ls (.int ((d.1 0) 13) :: rest))) : W p l e R s m args below meth c H locs cells slots Q (F0 m pc ls (.ref (ad 0) :: rest)) :=
  va_get hx hb hts inX6 hown hK hP 0 w_X6 rfl 13 (by decide) hlink (fun _ h => h) rfl hdg kk
theorem sp_X6_13  {v : Int32} : (WM G ad d).set 0 (ad 0, .inr (6, [.ref (ad 1), .int ((d.1 0) 1), .ref (ad 2), .ref (ad 3), .ref (ad 4), .int ((d.1 0) 5), .int ((d.1 0) 6), .ref (ad 5), .ref (ad 6), .ref (ad 7), .ref (ad 8), .int ((d.1 0) 11), .long d.2, .int v, .ref (ad 9), .ref (ad 10), .ref (ad 11), .ref (ad 12), .int ((d.1 0) 18), .int ((d.1 0) 19), .ref (ad 13), .ref (ad 14), .int ((d.1 0) 22), .ref (ad 15), .int ((d.1 0) 24), .int ((d.1 0) 25)])) = WM G ad (z_st d 0 13 v) := by
  have := z_w_set (sh := shM G ad) (N := 16) (ad := ad) (d := d) (k := 0) (by decide) (upd (d.1 0) 13 v)
  rw [sh_X6] at this
  exact this
theorem pt_X6_13 (hx : p.tables.exec = Jvm.exec) (hb : c.code = cc) (hts : ∀ w ∈ wsG, w.before args s = true) (hown : s.vm.findClass own = some m.cls) (hK : va_K D vwCl (z_tys G) s) (hP : va_P D vwCl (WM G ad d) H) (hI : ∀ d, va_D A (WM G ad d)) (hS : va_S A H0 H locs)  (hlink : (Cond.fieldLink own index "PathStreamModel" "otherTest" "I").before args s = true) (hdg : decode cc pc = .ok (.putfield index, 3)) {v : Int32} (kk : ∀ (H1 : Heap) (locs1 : List Loc) (d1 : Dt), d1 = z_st d 0 13 v → va_P D vwCl (WM G ad d1) H1 → va_S A H0 H1 locs1 → W p l e R s m args below meth c H1 locs1 cells slots Q (F0 m (pc + 3) ls rest)) : W p l e R s m args below meth c H locs cells slots Q (F0 m pc ls (.int v :: .ref (ad 0) :: rest)) :=
  va_put hx hb hts inX6 tyX6 tyX6_ok nmX6 hown hK hP (hI d) hS 0 w_X6 rfl 13 (by decide) hlink (fun _ h => h) rfl (tyX6_ok 13 (by decide)) rfl rfl (by simp) hdg (fun H1 locs1 hP1 _ hS1 => kk H1 locs1 _ rfl (sp_X6_13 ▸ hP1) hS1)
theorem gt_X6_14 (hx : p.tables.exec = Jvm.exec) (hb : c.code = cc) (hts : ∀ w ∈ wsG, w.before args s = true) (hown : s.vm.findClass own = some m.cls) (hK : va_K D vwCl (z_tys G) s) (hP : va_P D vwCl (WM G ad d) H)  (hlink : (Cond.fieldLink own index "PathStreamModel" "way" "[I").before args s = true) (hdg : decode cc pc = .ok (.getfield index, 3)) (kk : W p l e R s m args below meth c H locs cells slots Q (F0 m (pc + 3) ls (.ref (ad 9) :: rest))) : W p l e R s m args below meth c H locs cells slots Q (F0 m pc ls (.ref (ad 0) :: rest)) :=
  va_get hx hb hts inX6 hown hK hP 0 w_X6 rfl 14 (by decide) hlink (fun _ h => h) rfl hdg kk
theorem gt_X6_15 (hx : p.tables.exec = Jvm.exec) (hb : c.code = cc) (hts : ∀ w ∈ wsG, w.before args s = true) (hown : s.vm.findClass own = some m.cls) (hK : va_K D vwCl (z_tys G) s) (hP : va_P D vwCl (WM G ad d) H)  (hlink : (Cond.fieldLink own index "PathStreamModel" "ended" "[I").before args s = true) (hdg : decode cc pc = .ok (.getfield index, 3)) (kk : W p l e R s m args below meth c H locs cells slots Q (F0 m (pc + 3) ls (.ref (ad 10) :: rest))) : W p l e R s m args below meth c H locs cells slots Q (F0 m pc ls (.ref (ad 0) :: rest)) :=
  va_get hx hb hts inX6 hown hK hP 0 w_X6 rfl 15 (by decide) hlink (fun _ h => h) rfl hdg kk
theorem gt_X6_16 (hx : p.tables.exec = Jvm.exec) (hb : c.code = cc) (hts : ∀ w ∈ wsG, w.before args s = true) (hown : s.vm.findClass own = some m.cls) (hK : va_K D vwCl (z_tys G) s) (hP : va_P D vwCl (WM G ad d) H)  (hlink : (Cond.fieldLink own index "PathStreamModel" "worth" "[I").before args s = true) (hdg : decode cc pc = .ok (.getfield index, 3)) (kk : W p l e R s m args below meth c H locs cells slots Q (F0 m (pc + 3) ls (.ref (ad 11) :: rest))) : W p l e R s m args below meth c H locs cells slots Q (F0 m pc ls (.ref (ad 0) :: rest)) :=
  va_get hx hb hts inX6 hown hK hP 0 w_X6 rfl 16 (by decide) hlink (fun _ h => h) rfl hdg kk
theorem gt_X6_17 (hx : p.tables.exec = Jvm.exec) (hb : c.code = cc) (hts : ∀ w ∈ wsG, w.before args s = true) (hown : s.vm.findClass own = some m.cls) (hK : va_K D vwCl (z_tys G) s) (hP : va_P D vwCl (WM G ad d) H)  (hlink : (Cond.fieldLink own index "PathStreamModel" "answers" "[I").before args s = true) (hdg : decode cc pc = .ok (.getfield index, 3)) (kk : W p l e R s m args below meth c H locs cells slots Q (F0 m (pc + 3) ls (.ref (ad 12) :: rest))) : W p l e R s m args below meth c H locs cells slots Q (F0 m pc ls (.ref (ad 0) :: rest)) :=
  va_get hx hb hts inX6 hown hK hP 0 w_X6 rfl 17 (by decide) hlink (fun _ h => h) rfl hdg kk
theorem gt_X6_18 (hx : p.tables.exec = Jvm.exec) (hb : c.code = cc) (hts : ∀ w ∈ wsG, w.before args s = true) (hown : s.vm.findClass own = some m.cls) (hK : va_K D vwCl (z_tys G) s) (hP : va_P D vwCl (WM G ad d) H)  (hlink : (Cond.fieldLink own index "PathStreamModel" "part" "I").before args s = true) (hdg : decode cc pc = .ok (.getfield index, 3)) (kk : W p l e R s m args below meth c H locs cells slots Q (F0 m (pc + 3) ls (.int ((d.1 0) 18) :: rest))) : W p l e R s m args below meth c H locs cells slots Q (F0 m pc ls (.ref (ad 0) :: rest)) :=
  va_get hx hb hts inX6 hown hK hP 0 w_X6 rfl 18 (by decide) hlink (fun _ h => h) rfl hdg kk
theorem sp_X6_18  {v : Int32} : (WM G ad d).set 0 (ad 0, .inr (6, [.ref (ad 1), .int ((d.1 0) 1), .ref (ad 2), .ref (ad 3), .ref (ad 4), .int ((d.1 0) 5), .int ((d.1 0) 6), .ref (ad 5), .ref (ad 6), .ref (ad 7), .ref (ad 8), .int ((d.1 0) 11), .long d.2, .int ((d.1 0) 13), .ref (ad 9), .ref (ad 10), .ref (ad 11), .ref (ad 12), .int v, .int ((d.1 0) 19), .ref (ad 13), .ref (ad 14), .int ((d.1 0) 22), .ref (ad 15), .int ((d.1 0) 24), .int ((d.1 0) 25)])) = WM G ad (z_st d 0 18 v) := by
  have := z_w_set (sh := shM G ad) (N := 16) (ad := ad) (d := d) (k := 0) (by decide) (upd (d.1 0) 18 v)
  rw [sh_X6] at this
  exact this
theorem pt_X6_18 (hx : p.tables.exec = Jvm.exec) (hb : c.code = cc) (hts : ∀ w ∈ wsG, w.before args s = true) (hown : s.vm.findClass own = some m.cls) (hK : va_K D vwCl (z_tys G) s) (hP : va_P D vwCl (WM G ad d) H) (hI : ∀ d, va_D A (WM G ad d)) (hS : va_S A H0 H locs)  (hlink : (Cond.fieldLink own index "PathStreamModel" "part" "I").before args s = true) (hdg : decode cc pc = .ok (.putfield index, 3)) {v : Int32} (kk : ∀ (H1 : Heap) (locs1 : List Loc) (d1 : Dt), d1 = z_st d 0 18 v → va_P D vwCl (WM G ad d1) H1 → va_S A H0 H1 locs1 → W p l e R s m args below meth c H1 locs1 cells slots Q (F0 m (pc + 3) ls rest)) : W p l e R s m args below meth c H locs cells slots Q (F0 m pc ls (.int v :: .ref (ad 0) :: rest)) :=
  va_put hx hb hts inX6 tyX6 tyX6_ok nmX6 hown hK hP (hI d) hS 0 w_X6 rfl 18 (by decide) hlink (fun _ h => h) rfl (tyX6_ok 18 (by decide)) rfl rfl (by simp) hdg (fun H1 locs1 hP1 _ hS1 => kk H1 locs1 _ rfl (sp_X6_18 ▸ hP1) hS1)
theorem gt_X6_19 (hx : p.tables.exec = Jvm.exec) (hb : c.code = cc) (hts : ∀ w ∈ wsG, w.before args s = true) (hown : s.vm.findClass own = some m.cls) (hK : va_K D vwCl (z_tys G) s) (hP : va_P D vwCl (WM G ad d) H)  (hlink : (Cond.fieldLink own index "PathStreamModel" "readPaths" "I").before args s = true) (hdg : decode cc pc = .ok (.getfield index, 3)) (kk : W p l e R s m args below meth c H locs cells slots Q (F0 m (pc + 3) ls (.int ((d.1 0) 19) :: rest))) : W p l e R s m args below meth c H locs cells slots Q (F0 m pc ls (.ref (ad 0) :: rest)) :=
  va_get hx hb hts inX6 hown hK hP 0 w_X6 rfl 19 (by decide) hlink (fun _ h => h) rfl hdg kk
theorem sp_X6_19  {v : Int32} : (WM G ad d).set 0 (ad 0, .inr (6, [.ref (ad 1), .int ((d.1 0) 1), .ref (ad 2), .ref (ad 3), .ref (ad 4), .int ((d.1 0) 5), .int ((d.1 0) 6), .ref (ad 5), .ref (ad 6), .ref (ad 7), .ref (ad 8), .int ((d.1 0) 11), .long d.2, .int ((d.1 0) 13), .ref (ad 9), .ref (ad 10), .ref (ad 11), .ref (ad 12), .int ((d.1 0) 18), .int v, .ref (ad 13), .ref (ad 14), .int ((d.1 0) 22), .ref (ad 15), .int ((d.1 0) 24), .int ((d.1 0) 25)])) = WM G ad (z_st d 0 19 v) := by
  have := z_w_set (sh := shM G ad) (N := 16) (ad := ad) (d := d) (k := 0) (by decide) (upd (d.1 0) 19 v)
  rw [sh_X6] at this
  exact this
theorem pt_X6_19 (hx : p.tables.exec = Jvm.exec) (hb : c.code = cc) (hts : ∀ w ∈ wsG, w.before args s = true) (hown : s.vm.findClass own = some m.cls) (hK : va_K D vwCl (z_tys G) s) (hP : va_P D vwCl (WM G ad d) H) (hI : ∀ d, va_D A (WM G ad d)) (hS : va_S A H0 H locs)  (hlink : (Cond.fieldLink own index "PathStreamModel" "readPaths" "I").before args s = true) (hdg : decode cc pc = .ok (.putfield index, 3)) {v : Int32} (kk : ∀ (H1 : Heap) (locs1 : List Loc) (d1 : Dt), d1 = z_st d 0 19 v → va_P D vwCl (WM G ad d1) H1 → va_S A H0 H1 locs1 → W p l e R s m args below meth c H1 locs1 cells slots Q (F0 m (pc + 3) ls rest)) : W p l e R s m args below meth c H locs cells slots Q (F0 m pc ls (.int v :: .ref (ad 0) :: rest)) :=
  va_put hx hb hts inX6 tyX6 tyX6_ok nmX6 hown hK hP (hI d) hS 0 w_X6 rfl 19 (by decide) hlink (fun _ h => h) rfl (tyX6_ok 19 (by decide)) rfl rfl (by simp) hdg (fun H1 locs1 hP1 _ hS1 => kk H1 locs1 _ rfl (sp_X6_19 ▸ hP1) hS1)
theorem gt_X6_20 (hx : p.tables.exec = Jvm.exec) (hb : c.code = cc) (hts : ∀ w ∈ wsG, w.before args s = true) (hown : s.vm.findClass own = some m.cls) (hK : va_K D vwCl (z_tys G) s) (hP : va_P D vwCl (WM G ad d) H)  (hlink : (Cond.fieldLink own index "PathStreamModel" "readLong" "[I").before args s = true) (hdg : decode cc pc = .ok (.getfield index, 3)) (kk : W p l e R s m args below meth c H locs cells slots Q (F0 m (pc + 3) ls (.ref (ad 13) :: rest))) : W p l e R s m args below meth c H locs cells slots Q (F0 m pc ls (.ref (ad 0) :: rest)) :=
  va_get hx hb hts inX6 hown hK hP 0 w_X6 rfl 20 (by decide) hlink (fun _ h => h) rfl hdg kk
theorem gt_X6_21 (hx : p.tables.exec = Jvm.exec) (hb : c.code = cc) (hts : ∀ w ∈ wsG, w.before args s = true) (hown : s.vm.findClass own = some m.cls) (hK : va_K D vwCl (z_tys G) s) (hP : va_P D vwCl (WM G ad d) H)  (hlink : (Cond.fieldLink own index "PathStreamModel" "readStep" "[I").before args s = true) (hdg : decode cc pc = .ok (.getfield index, 3)) (kk : W p l e R s m args below meth c H locs cells slots Q (F0 m (pc + 3) ls (.ref (ad 14) :: rest))) : W p l e R s m args below meth c H locs cells slots Q (F0 m pc ls (.ref (ad 0) :: rest)) :=
  va_get hx hb hts inX6 hown hK hP 0 w_X6 rfl 21 (by decide) hlink (fun _ h => h) rfl hdg kk
theorem gt_X6_22 (hx : p.tables.exec = Jvm.exec) (hb : c.code = cc) (hts : ∀ w ∈ wsG, w.before args s = true) (hown : s.vm.findClass own = some m.cls) (hK : va_K D vwCl (z_tys G) s) (hP : va_P D vwCl (WM G ad d) H)  (hlink : (Cond.fieldLink own index "PathStreamModel" "readEvents" "I").before args s = true) (hdg : decode cc pc = .ok (.getfield index, 3)) (kk : W p l e R s m args below meth c H locs cells slots Q (F0 m (pc + 3) ls (.int ((d.1 0) 22) :: rest))) : W p l e R s m args below meth c H locs cells slots Q (F0 m pc ls (.ref (ad 0) :: rest)) :=
  va_get hx hb hts inX6 hown hK hP 0 w_X6 rfl 22 (by decide) hlink (fun _ h => h) rfl hdg kk
theorem sp_X6_22  {v : Int32} : (WM G ad d).set 0 (ad 0, .inr (6, [.ref (ad 1), .int ((d.1 0) 1), .ref (ad 2), .ref (ad 3), .ref (ad 4), .int ((d.1 0) 5), .int ((d.1 0) 6), .ref (ad 5), .ref (ad 6), .ref (ad 7), .ref (ad 8), .int ((d.1 0) 11), .long d.2, .int ((d.1 0) 13), .ref (ad 9), .ref (ad 10), .ref (ad 11), .ref (ad 12), .int ((d.1 0) 18), .int ((d.1 0) 19), .ref (ad 13), .ref (ad 14), .int v, .ref (ad 15), .int ((d.1 0) 24), .int ((d.1 0) 25)])) = WM G ad (z_st d 0 22 v) := by
  have := z_w_set (sh := shM G ad) (N := 16) (ad := ad) (d := d) (k := 0) (by decide) (upd (d.1 0) 22 v)
  rw [sh_X6] at this
  exact this
theorem pt_X6_22 (hx : p.tables.exec = Jvm.exec) (hb : c.code = cc) (hts : ∀ w ∈ wsG, w.before args s = true) (hown : s.vm.findClass own = some m.cls) (hK : va_K D vwCl (z_tys G) s) (hP : va_P D vwCl (WM G ad d) H) (hI : ∀ d, va_D A (WM G ad d)) (hS : va_S A H0 H locs)  (hlink : (Cond.fieldLink own index "PathStreamModel" "readEvents" "I").before args s = true) (hdg : decode cc pc = .ok (.putfield index, 3)) {v : Int32} (kk : ∀ (H1 : Heap) (locs1 : List Loc) (d1 : Dt), d1 = z_st d 0 22 v → va_P D vwCl (WM G ad d1) H1 → va_S A H0 H1 locs1 → W p l e R s m args below meth c H1 locs1 cells slots Q (F0 m (pc + 3) ls rest)) : W p l e R s m args below meth c H locs cells slots Q (F0 m pc ls (.int v :: .ref (ad 0) :: rest)) :=
  va_put hx hb hts inX6 tyX6 tyX6_ok nmX6 hown hK hP (hI d) hS 0 w_X6 rfl 22 (by decide) hlink (fun _ h => h) rfl (tyX6_ok 22 (by decide)) rfl rfl (by simp) hdg (fun H1 locs1 hP1 _ hS1 => kk H1 locs1 _ rfl (sp_X6_22 ▸ hP1) hS1)
theorem gt_X6_23 (hx : p.tables.exec = Jvm.exec) (hb : c.code = cc) (hts : ∀ w ∈ wsG, w.before args s = true) (hown : s.vm.findClass own = some m.cls) (hK : va_K D vwCl (z_tys G) s) (hP : va_P D vwCl (WM G ad d) H)  (hlink : (Cond.fieldLink own index "PathStreamModel" "readEvent" "[I").before args s = true) (hdg : decode cc pc = .ok (.getfield index, 3)) (kk : W p l e R s m args below meth c H locs cells slots Q (F0 m (pc + 3) ls (.ref (ad 15) :: rest))) : W p l e R s m args below meth c H locs cells slots Q (F0 m pc ls (.ref (ad 0) :: rest)) :=
  va_get hx hb hts inX6 hown hK hP 0 w_X6 rfl 23 (by decide) hlink (fun _ h => h) rfl hdg kk
theorem gt_X6_24 (hx : p.tables.exec = Jvm.exec) (hb : c.code = cc) (hts : ∀ w ∈ wsG, w.before args s = true) (hown : s.vm.findClass own = some m.cls) (hK : va_K D vwCl (z_tys G) s) (hP : va_P D vwCl (WM G ad d) H)  (hlink : (Cond.fieldLink own index "PathStreamModel" "readDepth" "I").before args s = true) (hdg : decode cc pc = .ok (.getfield index, 3)) (kk : W p l e R s m args below meth c H locs cells slots Q (F0 m (pc + 3) ls (.int ((d.1 0) 24) :: rest))) : W p l e R s m args below meth c H locs cells slots Q (F0 m pc ls (.ref (ad 0) :: rest)) :=
  va_get hx hb hts inX6 hown hK hP 0 w_X6 rfl 24 (by decide) hlink (fun _ h => h) rfl hdg kk
theorem sp_X6_24  {v : Int32} : (WM G ad d).set 0 (ad 0, .inr (6, [.ref (ad 1), .int ((d.1 0) 1), .ref (ad 2), .ref (ad 3), .ref (ad 4), .int ((d.1 0) 5), .int ((d.1 0) 6), .ref (ad 5), .ref (ad 6), .ref (ad 7), .ref (ad 8), .int ((d.1 0) 11), .long d.2, .int ((d.1 0) 13), .ref (ad 9), .ref (ad 10), .ref (ad 11), .ref (ad 12), .int ((d.1 0) 18), .int ((d.1 0) 19), .ref (ad 13), .ref (ad 14), .int ((d.1 0) 22), .ref (ad 15), .int v, .int ((d.1 0) 25)])) = WM G ad (z_st d 0 24 v) := by
  have := z_w_set (sh := shM G ad) (N := 16) (ad := ad) (d := d) (k := 0) (by decide) (upd (d.1 0) 24 v)
  rw [sh_X6] at this
  exact this
theorem pt_X6_24 (hx : p.tables.exec = Jvm.exec) (hb : c.code = cc) (hts : ∀ w ∈ wsG, w.before args s = true) (hown : s.vm.findClass own = some m.cls) (hK : va_K D vwCl (z_tys G) s) (hP : va_P D vwCl (WM G ad d) H) (hI : ∀ d, va_D A (WM G ad d)) (hS : va_S A H0 H locs)  (hlink : (Cond.fieldLink own index "PathStreamModel" "readDepth" "I").before args s = true) (hdg : decode cc pc = .ok (.putfield index, 3)) {v : Int32} (kk : ∀ (H1 : Heap) (locs1 : List Loc) (d1 : Dt), d1 = z_st d 0 24 v → va_P D vwCl (WM G ad d1) H1 → va_S A H0 H1 locs1 → W p l e R s m args below meth c H1 locs1 cells slots Q (F0 m (pc + 3) ls rest)) : W p l e R s m args below meth c H locs cells slots Q (F0 m pc ls (.int v :: .ref (ad 0) :: rest)) :=
  va_put hx hb hts inX6 tyX6 tyX6_ok nmX6 hown hK hP (hI d) hS 0 w_X6 rfl 24 (by decide) hlink (fun _ h => h) rfl (tyX6_ok 24 (by decide)) rfl rfl (by simp) hdg (fun H1 locs1 hP1 _ hS1 => kk H1 locs1 _ rfl (sp_X6_24 ▸ hP1) hS1)
theorem gt_X6_25 (hx : p.tables.exec = Jvm.exec) (hb : c.code = cc) (hts : ∀ w ∈ wsG, w.before args s = true) (hown : s.vm.findClass own = some m.cls) (hK : va_K D vwCl (z_tys G) s) (hP : va_P D vwCl (WM G ad d) H)  (hlink : (Cond.fieldLink own index "PathStreamModel" "readElements" "I").before args s = true) (hdg : decode cc pc = .ok (.getfield index, 3)) (kk : W p l e R s m args below meth c H locs cells slots Q (F0 m (pc + 3) ls (.int ((d.1 0) 25) :: rest))) : W p l e R s m args below meth c H locs cells slots Q (F0 m pc ls (.ref (ad 0) :: rest)) :=
  va_get hx hb hts inX6 hown hK hP 0 w_X6 rfl 25 (by decide) hlink (fun _ h => h) rfl hdg kk
theorem sp_X6_25  {v : Int32} : (WM G ad d).set 0 (ad 0, .inr (6, [.ref (ad 1), .int ((d.1 0) 1), .ref (ad 2), .ref (ad 3), .ref (ad 4), .int ((d.1 0) 5), .int ((d.1 0) 6), .ref (ad 5), .ref (ad 6), .ref (ad 7), .ref (ad 8), .int ((d.1 0) 11), .long d.2, .int ((d.1 0) 13), .ref (ad 9), .ref (ad 10), .ref (ad 11), .ref (ad 12), .int ((d.1 0) 18), .int ((d.1 0) 19), .ref (ad 13), .ref (ad 14), .int ((d.1 0) 22), .ref (ad 15), .int ((d.1 0) 24), .int v])) = WM G ad (z_st d 0 25 v) := by
  have := z_w_set (sh := shM G ad) (N := 16) (ad := ad) (d := d) (k := 0) (by decide) (upd (d.1 0) 25 v)
  rw [sh_X6] at this
  exact this
theorem pt_X6_25 (hx : p.tables.exec = Jvm.exec) (hb : c.code = cc) (hts : ∀ w ∈ wsG, w.before args s = true) (hown : s.vm.findClass own = some m.cls) (hK : va_K D vwCl (z_tys G) s) (hP : va_P D vwCl (WM G ad d) H) (hI : ∀ d, va_D A (WM G ad d)) (hS : va_S A H0 H locs)  (hlink : (Cond.fieldLink own index "PathStreamModel" "readElements" "I").before args s = true) (hdg : decode cc pc = .ok (.putfield index, 3)) {v : Int32} (kk : ∀ (H1 : Heap) (locs1 : List Loc) (d1 : Dt), d1 = z_st d 0 25 v → va_P D vwCl (WM G ad d1) H1 → va_S A H0 H1 locs1 → W p l e R s m args below meth c H1 locs1 cells slots Q (F0 m (pc + 3) ls rest)) : W p l e R s m args below meth c H locs cells slots Q (F0 m pc ls (.int v :: .ref (ad 0) :: rest)) :=
  va_put hx hb hts inX6 tyX6 tyX6_ok nmX6 hown hK hP (hI d) hS 0 w_X6 rfl 25 (by decide) hlink (fun _ h => h) rfl (tyX6_ok 25 (by decide)) rfl rfl (by simp) hdg (fun H1 locs1 hP1 _ hS1 => kk H1 locs1 _ rfl (sp_X6_25 ▸ hP1) hS1)
theorem al_C (hx : p.tables.exec = Jvm.exec) (hb : c.code = cc) (hK : va_K D vwCl (z_tys G) s) (hP : va_P D vwCl (WC G ad d) H) {k n : Nat} (h : arC k = n) (hn : 0 < n) {i : Int32} (hi : vp_in i n) (hdg : decode cc pc = .ok (.iaload, 1)) (kk : W p l e R s m args below meth c H locs cells slots Q (F0 m (pc + 1) ls (.int (d.1 k (z_ix i)) :: rest))) : W p l e R s m args below meth c H locs cells slots Q (F0 m pc ls (.int i :: .ref (ad k) :: rest)) :=
  va_iald hx hb hK hP k 0 (wA h hn) rfl hi hdg kk
theorem as_C (hx : p.tables.exec = Jvm.exec) (hb : c.code = cc) (hK : va_K D vwCl (z_tys G) s) (hP : va_P D vwCl (WC G ad d) H) (hI : ∀ d, va_D A (WC G ad d)) (hS : va_S A H0 H locs) {k n : Nat} (h : arC k = n) (hn : 0 < n) {i : Int32} (hi : vp_in i n) (hdg : decode cc pc = .ok (.iastore, 1)) {v : Int32} (kk : ∀ (H1 : Heap) (locs1 : List Loc) (d1 : Dt), d1 = z_st d k (z_ix i) v → va_P D vwCl (WC G ad d1) H1 → va_S A H0 H1 locs1 → W p l e R s m args below meth c H1 locs1 cells slots Q (F0 m (pc + 1) ls rest)) : W p l e R s m args below meth c H locs cells slots Q (F0 m pc ls (.int v :: .int i :: .ref (ad k) :: rest)) :=
  va_iast hx hb hK hP (hI d) hS k 0 (wA h hn) rfl hi hdg (fun H1 locs1 hP1 _ hS1 => kk H1 locs1 _ rfl (sA h hn _ ▸ hP1) hS1)
theorem an_C (hx : p.tables.exec = Jvm.exec) (hb : c.code = cc) (hK : va_K D vwCl (z_tys G) s) (hP : va_P D vwCl (WC G ad d) H) {k n : Nat} (h : arC k = n) (hn : 0 < n) (hdg : decode cc pc = .ok (.arraylength, 1)) {v : Int32} (hv : Int32.ofNat n = v) (kk : W p l e R s m args below meth c H locs cells slots Q (F0 m (pc + 1) ls (.int v :: rest))) : W p l e R s m args below meth c H locs cells slots Q (F0 m pc ls (.ref (ad k) :: rest)) :=
  va_alen hx hb hK hP k 0 (wA h hn) rfl hv hdg kk
theorem al_M (hx : p.tables.exec = Jvm.exec) (hb : c.code = cc) (hK : va_K D vwCl (z_tys G) s) (hP : va_P D vwCl (WM G ad d) H) {k n : Nat} (h : arM k = n) (hn : 0 < n) {i : Int32} (hi : vp_in i n) (hdg : decode cc pc = .ok (.iaload, 1)) (kk : W p l e R s m args below meth c H locs cells slots Q (F0 m (pc + 1) ls (.int (d.1 k (z_ix i)) :: rest))) : W p l e R s m args below meth c H locs cells slots Q (F0 m pc ls (.int i :: .ref (ad k) :: rest)) :=
  va_iald hx hb hK hP k 0 (wAM h hn) rfl hi hdg kk
theorem as_M (hx : p.tables.exec = Jvm.exec) (hb : c.code = cc) (hK : va_K D vwCl (z_tys G) s) (hP : va_P D vwCl (WM G ad d) H) (hI : ∀ d, va_D A (WM G ad d)) (hS : va_S A H0 H locs) {k n : Nat} (h : arM k = n) (hn : 0 < n) {i : Int32} (hi : vp_in i n) (hdg : decode cc pc = .ok (.iastore, 1)) {v : Int32} (kk : ∀ (H1 : Heap) (locs1 : List Loc) (d1 : Dt), d1 = z_st d k (z_ix i) v → va_P D vwCl (WM G ad d1) H1 → va_S A H0 H1 locs1 → W p l e R s m args below meth c H1 locs1 cells slots Q (F0 m (pc + 1) ls rest)) : W p l e R s m args below meth c H locs cells slots Q (F0 m pc ls (.int v :: .int i :: .ref (ad k) :: rest)) :=
  va_iast hx hb hK hP (hI d) hS k 0 (wAM h hn) rfl hi hdg (fun H1 locs1 hP1 _ hS1 => kk H1 locs1 _ rfl (sAM h hn _ ▸ hP1) hS1)
theorem an_M (hx : p.tables.exec = Jvm.exec) (hb : c.code = cc) (hK : va_K D vwCl (z_tys G) s) (hP : va_P D vwCl (WM G ad d) H) {k n : Nat} (h : arM k = n) (hn : 0 < n) (hdg : decode cc pc = .ok (.arraylength, 1)) {v : Int32} (hv : Int32.ofNat n = v) (kk : W p l e R s m args below meth c H locs cells slots Q (F0 m (pc + 1) ls (.int v :: rest))) : W p l e R s m args below meth c H locs cells slots Q (F0 m pc ls (.ref (ad k) :: rest)) :=
  va_alen hx hb hK hP k 0 (wAM h hn) rfl hv hdg kk
theorem zl_C (hx : p.tables.exec = Jvm.exec) (hb : c.code = cc) (hK : va_K D vwCl (z_tys G) s) (hP : va_P D vwCl (WC G ad d) H) {i : Int32} (hi : vp_in i 2) (hdg : decode cc pc = .ok (.baload, 1)) (kk : W p l e R s m args below meth c H locs cells slots Q (F0 m (pc + 1) ls (.int (d.1 59 (z_ix i)) :: rest))) : W p l e R s m args below meth c H locs cells slots Q (F0 m pc ls (.int i :: .ref (ad 59) :: rest)) :=
  va_zald hx hb hK hP 59 1 w59 rfl hi hdg kk
theorem zs_C (hx : p.tables.exec = Jvm.exec) (hb : c.code = cc) (hK : va_K D vwCl (z_tys G) s) (hP : va_P D vwCl (WC G ad d) H) (hI : ∀ d, va_D A (WC G ad d)) (hS : va_S A H0 H locs) {i : Int32} (hi : vp_in i 2) (hdg : decode cc pc = .ok (.bastore, 1)) {v : Int32} (hv : vp_nar .boolean v = v) (kk : ∀ (H1 : Heap) (locs1 : List Loc) (d1 : Dt), d1 = z_st d 59 (z_ix i) v → va_P D vwCl (WC G ad d1) H1 → va_S A H0 H1 locs1 → W p l e R s m args below meth c H1 locs1 cells slots Q (F0 m (pc + 1) ls rest)) : W p l e R s m args below meth c H locs cells slots Q (F0 m pc ls (.int v :: .int i :: .ref (ad 59) :: rest)) :=
  va_zast hx hb hK hP (hI d) hS 59 1 w59 rfl hi hdg (fun H1 locs1 hP1 _ hS1 => kk H1 locs1 _ rfl (by rw [hv] at hP1; exact (s59 _ ▸ hP1)) hS1)
theorem zl_M (hx : p.tables.exec = Jvm.exec) (hb : c.code = cc) (hK : va_K D vwCl (z_tys G) s) (hP : va_P D vwCl (WM G ad d) H) {i : Int32} (hi : vp_in i 2) (hdg : decode cc pc = .ok (.baload, 1)) (kk : W p l e R s m args below meth c H locs cells slots Q (F0 m (pc + 1) ls (.int (d.1 6 (z_ix i)) :: rest))) : W p l e R s m args below meth c H locs cells slots Q (F0 m pc ls (.int i :: .ref (ad 6) :: rest)) :=
  va_zald hx hb hK hP 6 1 w6 rfl hi hdg kk
theorem zs_M (hx : p.tables.exec = Jvm.exec) (hb : c.code = cc) (hK : va_K D vwCl (z_tys G) s) (hP : va_P D vwCl (WM G ad d) H) (hI : ∀ d, va_D A (WM G ad d)) (hS : va_S A H0 H locs) {i : Int32} (hi : vp_in i 2) (hdg : decode cc pc = .ok (.bastore, 1)) {v : Int32} (hv : vp_nar .boolean v = v) (kk : ∀ (H1 : Heap) (locs1 : List Loc) (d1 : Dt), d1 = z_st d 6 (z_ix i) v → va_P D vwCl (WM G ad d1) H1 → va_S A H0 H1 locs1 → W p l e R s m args below meth c H1 locs1 cells slots Q (F0 m (pc + 1) ls rest)) : W p l e R s m args below meth c H locs cells slots Q (F0 m pc ls (.int v :: .int i :: .ref (ad 6) :: rest)) :=
  va_zast hx hb hK hP (hI d) hS 6 1 w6 rfl hi hdg (fun H1 locs1 hP1 _ hS1 => kk H1 locs1 _ rfl (by rw [hv] at hP1; exact (s6 _ ▸ hP1)) hS1)
theorem cl_C (hx : p.tables.exec = Jvm.exec) (hb : c.code = cc) (hK : va_K D vwCl (z_tys G) s) (hP : va_P D vwCl (WC G ad d) H) {i : Int32} (hi : vp_in i 99) (hdg : decode cc pc = .ok (.caload, 1)) (kk : W p l e R s m args below meth c H locs cells slots Q (F0 m (pc + 1) ls (.int (d.1 67 (z_ix i)) :: rest))) : W p l e R s m args below meth c H locs cells slots Q (F0 m pc ls (.int i :: .ref (ad 67) :: rest)) :=
  va_cald hx hb hK hP 67 2 w67 rfl hi hdg kk
theorem cs_C (hx : p.tables.exec = Jvm.exec) (hb : c.code = cc) (hK : va_K D vwCl (z_tys G) s) (hP : va_P D vwCl (WC G ad d) H) (hI : ∀ d, va_D A (WC G ad d)) (hS : va_S A H0 H locs) {i : Int32} (hi : vp_in i 99) (hdg : decode cc pc = .ok (.castore, 1)) {v : Int32} (kk : ∀ (H1 : Heap) (locs1 : List Loc) (d1 : Dt), d1 = z_st d 67 (z_ix i) (vp_nar .char v) → va_P D vwCl (WC G ad d1) H1 → va_S A H0 H1 locs1 → W p l e R s m args below meth c H1 locs1 cells slots Q (F0 m (pc + 1) ls rest)) : W p l e R s m args below meth c H locs cells slots Q (F0 m pc ls (.int v :: .int i :: .ref (ad 67) :: rest)) :=
  va_cast hx hb hK hP (hI d) hS 67 2 w67 rfl hi hdg (fun H1 locs1 hP1 _ hS1 => kk H1 locs1 _ rfl (s67 _ ▸ hP1) hS1)
theorem rl_P (hx : p.tables.exec = Jvm.exec) (hb : c.code = cc) (hK : va_K D vwCl (z_tys G) s) (hP : va_P D vwCl (WC G ad d) H) {k : Nat} (h : isSt k) {i : Int32} (hi : vp_in i 5) (hdg : decode cc pc = .ok (.aaload, 1)) (kk : W p l e R s m args below meth c H locs cells slots Q (F0 m (pc + 1) ls (.ref (ad (k + 8 + 4 * z_ix i)) :: rest))) : W p l e R s m args below meth c H locs cells slots Q (F0 m pc ls (.int i :: .ref (ad (k + 7)) :: rest)) :=
  va_aldq hx hb hK hP (k + 7) 3 (wPP h) rfl hi hdg kk
theorem rl_57 (hx : p.tables.exec = Jvm.exec) (hb : c.code = cc) (hK : va_K D vwCl (z_tys G) s) (hP : va_P D vwCl (WC G ad d) H) {i : Int32} (hi : vp_in i 14) (hdg : decode cc pc = .ok (.aaload, 1)) (kk : W p l e R s m args below meth c H locs cells slots Q (F0 m (pc + 1) ls (.ref (ad (72 + 28 * z_ix i)) :: rest))) : W p l e R s m args below meth c H locs cells slots Q (F0 m pc ls (.int i :: .ref (ad 57) :: rest)) :=
  va_aldq hx hb hK hP 57 4 w57 rfl hi hdg kk
theorem rl_58 (hx : p.tables.exec = Jvm.exec) (hb : c.code = cc) (hK : va_K D vwCl (z_tys G) s) (hP : va_P D vwCl (WC G ad d) H) {i : Int32} (hi : vp_in i 2) (hdg : decode cc pc = .ok (.aaload, 1)) (kk : W p l e R s m args below meth c H locs cells slots Q (F0 m (pc + 1) ls (.ref (ad (464 + 28 * z_ix i)) :: rest))) : W p l e R s m args below meth c H locs cells slots Q (F0 m pc ls (.int i :: .ref (ad 58) :: rest)) :=
  va_aldq hx hb hK hP 58 4 w58 rfl hi hdg kk
theorem ac_C (hx : p.tables.exec = Jvm.exec) (hb : c.code = cc) (hml : c.maxLocals = ls.size) (hown : s.vm.findClass own = some m.cls) (hts : ∀ w ∈ wsG, w.before args s = true) (hlk : Cond.methodLink own index arraycopyName ∈ wsG) (hK : va_K D vwCl (z_tys G) s) (hP : va_P D vwCl (WC G ad d) H) (hI : ∀ d, va_D A (WC G ad d)) (hS : va_S A H0 H locs) {k0 n0 k1 n1 : Nat} (h0 : arC k0 = n0) (hn0 : 0 < n0) (h1 : arC k1 = n1) (hn1 : 0 < n1) {n : Int32} (h3 : ¬ n < 0) (h4 : z_ix n ≤ n0) (h5 : z_ix n ≤ n1) (hfr : 1 ≤ R.frames) (hlo : (rest.map fun v => v.category).sum + (nativeFrameWords "java/lang/System" "arraycopy" 5 + 11) ≤ R.locals) (hdg : decode cc pc = .ok (.invokestatic index, 3))
    (kk : ∀ (H1 : Heap) (locs1 : List Loc) (d1 : Dt), d1 = z_cp d k0 0 k1 0 (z_ix n) → va_P D vwCl (WC G ad d1) H1 → va_S A H0 H1 locs1 → W p l e R s m args below meth c H1 locs1 cells slots Q (F0 m (pc + 3) ls rest)) : W p l e R s m args below meth c H locs cells slots Q (F0 m pc ls (.int n :: .int 0 :: .ref (ad k1) :: .int 0 :: .ref (ad k0) :: rest)) :=
  va_copyi hx hb hml hown (hts _ hlk) (hts _ wl_2_86) (hts _ wl_2_85) (hts _ wl_1_9) hK hP (hI d) hS k0 k1 0 0 (wA h0 hn0) (wA h1 hn1) rfl rfl rfl (by decide) (by decide) h3 (by simp [sb_cl0]; exact h4) (by simp [sb_cl0]; exact h5) (fun _ _ => rfl) hfr hlo hdg (fun H1 locs1 hP1 _ hS1 => kk H1 locs1 _ rfl (sA h1 hn1 _ ▸ hP1) hS1)
end ZF
end
section
theorem zz_end : True := trivial
end
