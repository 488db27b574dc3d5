section
-- ===== PART A: goes FIRST, ahead of the names: the tables' words, and 'selects' of the private methods out of them =====
/-- a private method of a class that the tables say can be made, by its rows of tables_1 -/
def lw_okq (q : MethodName × Nat) : Prop := (q.1.cls ≠ "java/lang/invoke/MethodHandle" ∧ q.1.cls ≠ "java/lang/invoke/VarHandle") ∧ Cond.instantiable q.1.cls q.2 ∈ tables_1 ∧ Cond.privateMethod q.1 ∈ tables_1 ∧ Cond.instanceMethod q.1 ∈ tables_1
theorem lw_p0 : lw_okq (⟨"TagBus", "record", "()V"⟩, 7) := ⟨⟨by decide +kernel, by decide +kernel⟩, List.mem_of_getElem? (i := 12) (by decide +kernel), List.mem_of_getElem? (i := 301) (by decide +kernel), List.mem_of_getElem? (i := 302) (by decide +kernel)⟩
theorem lw_p1 : lw_okq (⟨"TagBus", "putOne", "(IIII)I"⟩, 7) := ⟨⟨by decide +kernel, by decide +kernel⟩, List.mem_of_getElem? (i := 12) (by decide +kernel), List.mem_of_getElem? (i := 360) (by decide +kernel), List.mem_of_getElem? (i := 361) (by decide +kernel)⟩
theorem lw_p2 : lw_okq (⟨"TagBus$QuestionText", "readQuestion", "(LTagBus$Question;)Z"⟩, 5) := ⟨⟨by decide +kernel, by decide +kernel⟩, List.mem_of_getElem? (i := 234) (by decide +kernel), List.mem_of_getElem? (i := 390) (by decide +kernel), List.mem_of_getElem? (i := 391) (by decide +kernel)⟩
theorem lw_p3 : lw_okq (⟨"TagBus$QuestionText", "readNumber", "(I)I"⟩, 5) := ⟨⟨by decide +kernel, by decide +kernel⟩, List.mem_of_getElem? (i := 234) (by decide +kernel), List.mem_of_getElem? (i := 394) (by decide +kernel), List.mem_of_getElem? (i := 395) (by decide +kernel)⟩
theorem lw_p4 : lw_okq (⟨"TagBus$QuestionText", "digitAt", "(I)I"⟩, 5) := ⟨⟨by decide +kernel, by decide +kernel⟩, List.mem_of_getElem? (i := 234) (by decide +kernel), List.mem_of_getElem? (i := 398) (by decide +kernel), List.mem_of_getElem? (i := 399) (by decide +kernel)⟩
theorem lw_p5 : lw_okq (⟨"TagBus$QuestionText", "skip", "(C)Z"⟩, 5) := ⟨⟨by decide +kernel, by decide +kernel⟩, List.mem_of_getElem? (i := 234) (by decide +kernel), List.mem_of_getElem? (i := 403) (by decide +kernel), List.mem_of_getElem? (i := 404) (by decide +kernel)⟩
theorem lw_p6 : lw_okq (⟨"TagBus", "hasRoomForText", "()Z"⟩, 7) := ⟨⟨by decide +kernel, by decide +kernel⟩, List.mem_of_getElem? (i := 12) (by decide +kernel), List.mem_of_getElem? (i := 408) (by decide +kernel), List.mem_of_getElem? (i := 409) (by decide +kernel)⟩
theorem lw_p7 : lw_okq (⟨"TagBus$Bus", "finishQuestions", "()V"⟩, 15) := ⟨⟨by decide +kernel, by decide +kernel⟩, List.mem_of_getElem? (i := 20) (by decide +kernel), List.mem_of_getElem? (i := 448) (by decide +kernel), List.mem_of_getElem? (i := 449) (by decide +kernel)⟩
theorem lw_p8 : lw_okq (⟨"TagBus$Bus", "makeTrip", "()I"⟩, 15) := ⟨⟨by decide +kernel, by decide +kernel⟩, List.mem_of_getElem? (i := 20) (by decide +kernel), List.mem_of_getElem? (i := 457) (by decide +kernel), List.mem_of_getElem? (i := 458) (by decide +kernel)⟩
theorem lw_p9 : lw_okq (⟨"TagBus$Bus", "targetThatAnswers", "()I"⟩, 15) := ⟨⟨by decide +kernel, by decide +kernel⟩, List.mem_of_getElem? (i := 20) (by decide +kernel), List.mem_of_getElem? (i := 461) (by decide +kernel), List.mem_of_getElem? (i := 462) (by decide +kernel)⟩
theorem lw_p10 : lw_okq (⟨"TagBus$Bus", "masterThatSends", "()I"⟩, 15) := ⟨⟨by decide +kernel, by decide +kernel⟩, List.mem_of_getElem? (i := 20) (by decide +kernel), List.mem_of_getElem? (i := 473) (by decide +kernel), List.mem_of_getElem? (i := 474) (by decide +kernel)⟩
theorem lw_p11 : lw_okq (⟨"TagBus$Bus", "masterThatWaitedTooLong", "()I"⟩, 15) := ⟨⟨by decide +kernel, by decide +kernel⟩, List.mem_of_getElem? (i := 20) (by decide +kernel), List.mem_of_getElem? (i := 481) (by decide +kernel), List.mem_of_getElem? (i := 482) (by decide +kernel)⟩
theorem lw_p12 : lw_okq (⟨"TagBus$Bus", "maySend", "(LTagBus$Master;)Z"⟩, 15) := ⟨⟨by decide +kernel, by decide +kernel⟩, List.mem_of_getElem? (i := 20) (by decide +kernel), List.mem_of_getElem? (i := 485) (by decide +kernel), List.mem_of_getElem? (i := 486) (by decide +kernel)⟩
theorem lw_p13 : lw_okq (⟨"TagBus$Bus", "prefersAnswer", "()Z"⟩, 15) := ⟨⟨by decide +kernel, by decide +kernel⟩, List.mem_of_getElem? (i := 20) (by decide +kernel), List.mem_of_getElem? (i := 493) (by decide +kernel), List.mem_of_getElem? (i := 494) (by decide +kernel)⟩
theorem lw_p14 : lw_okq (⟨"TagBus$Bus", "sendAnswerOf", "(I)I"⟩, 15) := ⟨⟨by decide +kernel, by decide +kernel⟩, List.mem_of_getElem? (i := 20) (by decide +kernel), List.mem_of_getElem? (i := 497) (by decide +kernel), List.mem_of_getElem? (i := 498) (by decide +kernel)⟩
theorem lw_p15 : lw_okq (⟨"TagBus$Bus", "takeTagBack", "(LTagBus$Question;)V"⟩, 15) := ⟨⟨by decide +kernel, by decide +kernel⟩, List.mem_of_getElem? (i := 20) (by decide +kernel), List.mem_of_getElem? (i := 501) (by decide +kernel), List.mem_of_getElem? (i := 502) (by decide +kernel)⟩
def lw_privs_1 : List (MethodName × Nat) := [(⟨"TagBus", "record", "()V"⟩, 7), (⟨"TagBus", "putOne", "(IIII)I"⟩, 7), (⟨"TagBus$QuestionText", "readQuestion", "(LTagBus$Question;)Z"⟩, 5), (⟨"TagBus$QuestionText", "readNumber", "(I)I"⟩, 5), (⟨"TagBus$QuestionText", "digitAt", "(I)I"⟩, 5), (⟨"TagBus$QuestionText", "skip", "(C)Z"⟩, 5), (⟨"TagBus", "hasRoomForText", "()Z"⟩, 7), (⟨"TagBus$Bus", "finishQuestions", "()V"⟩, 15), (⟨"TagBus$Bus", "makeTrip", "()I"⟩, 15), (⟨"TagBus$Bus", "targetThatAnswers", "()I"⟩, 15), (⟨"TagBus$Bus", "masterThatSends", "()I"⟩, 15), (⟨"TagBus$Bus", "masterThatWaitedTooLong", "()I"⟩, 15), (⟨"TagBus$Bus", "maySend", "(LTagBus$Master;)Z"⟩, 15), (⟨"TagBus$Bus", "prefersAnswer", "()Z"⟩, 15), (⟨"TagBus$Bus", "sendAnswerOf", "(I)I"⟩, 15), (⟨"TagBus$Bus", "takeTagBack", "(LTagBus$Question;)V"⟩, 15)]
theorem lw_r1 : ∀ q ∈ lw_privs_1, lw_okq q := List.forall_mem_cons.mpr ⟨lw_p0, List.forall_mem_cons.mpr ⟨lw_p1, List.forall_mem_cons.mpr ⟨lw_p2, List.forall_mem_cons.mpr ⟨lw_p3, List.forall_mem_cons.mpr ⟨lw_p4, List.forall_mem_cons.mpr ⟨lw_p5, List.forall_mem_cons.mpr ⟨lw_p6, List.forall_mem_cons.mpr ⟨lw_p7, List.forall_mem_cons.mpr ⟨lw_p8, List.forall_mem_cons.mpr ⟨lw_p9, List.forall_mem_cons.mpr ⟨lw_p10, List.forall_mem_cons.mpr ⟨lw_p11, List.forall_mem_cons.mpr ⟨lw_p12, List.forall_mem_cons.mpr ⟨lw_p13, List.forall_mem_cons.mpr ⟨lw_p14, List.forall_mem_cons.mpr ⟨lw_p15, fun _ h => absurd h List.not_mem_nil⟩⟩⟩⟩⟩⟩⟩⟩⟩⟩⟩⟩⟩⟩⟩⟩
theorem lw_p16 : lw_okq (⟨"TagBus$Bus", "noteAnswer", "(LTagBus$Master;I)V"⟩, 15) := ⟨⟨by decide +kernel, by decide +kernel⟩, List.mem_of_getElem? (i := 20) (by decide +kernel), List.mem_of_getElem? (i := 505) (by decide +kernel), List.mem_of_getElem? (i := 506) (by decide +kernel)⟩
theorem lw_p17 : lw_okq (⟨"TagBus$Bus", "sendQuestionOf", "(I)I"⟩, 15) := ⟨⟨by decide +kernel, by decide +kernel⟩, List.mem_of_getElem? (i := 20) (by decide +kernel), List.mem_of_getElem? (i := 512) (by decide +kernel), List.mem_of_getElem? (i := 513) (by decide +kernel)⟩
theorem lw_p18 : lw_okq (⟨"TagBus$Bus", "refuse", "(LTagBus$Master;LTagBus$Question;)V"⟩, 15) := ⟨⟨by decide +kernel, by decide +kernel⟩, List.mem_of_getElem? (i := 20) (by decide +kernel), List.mem_of_getElem? (i := 520) (by decide +kernel), List.mem_of_getElem? (i := 521) (by decide +kernel)⟩
theorem lw_p19 : lw_okq (⟨"TagBus$Bus", "letIn", "(LTagBus$Master;LTagBus$Target;I)V"⟩, 15) := ⟨⟨by decide +kernel, by decide +kernel⟩, List.mem_of_getElem? (i := 20) (by decide +kernel), List.mem_of_getElem? (i := 524) (by decide +kernel), List.mem_of_getElem? (i := 525) (by decide +kernel)⟩
theorem lw_p20 : lw_okq (⟨"TagBus$Bus", "countWaits", "(I)V"⟩, 15) := ⟨⟨by decide +kernel, by decide +kernel⟩, List.mem_of_getElem? (i := 20) (by decide +kernel), List.mem_of_getElem? (i := 528) (by decide +kernel), List.mem_of_getElem? (i := 529) (by decide +kernel)⟩
theorem lw_p21 : lw_okq (⟨"TagBusModel", "isLentFrom", "(I)Z"⟩, 13) := ⟨⟨by decide +kernel, by decide +kernel⟩, List.mem_of_getElem? (i := 605) (by decide +kernel), List.mem_of_getElem? (i := 664) (by decide +kernel), List.mem_of_getElem? (i := 665) (by decide +kernel)⟩
theorem lw_p22 : lw_okq (⟨"TagBusModel", "change", "(II)I"⟩, 13) := ⟨⟨by decide +kernel, by decide +kernel⟩, List.mem_of_getElem? (i := 605) (by decide +kernel), List.mem_of_getElem? (i := 668) (by decide +kernel), List.mem_of_getElem? (i := 669) (by decide +kernel)⟩
theorem lw_p23 : lw_okq (⟨"TagBusModel", "know", "()V"⟩, 13) := ⟨⟨by decide +kernel, by decide +kernel⟩, List.mem_of_getElem? (i := 605) (by decide +kernel), List.mem_of_getElem? (i := 672) (by decide +kernel), List.mem_of_getElem? (i := 673) (by decide +kernel)⟩
theorem lw_p24 : lw_okq (⟨"TagBusModel", "isRoom", "(I)Z"⟩, 13) := ⟨⟨by decide +kernel, by decide +kernel⟩, List.mem_of_getElem? (i := 605) (by decide +kernel), List.mem_of_getElem? (i := 695) (by decide +kernel), List.mem_of_getElem? (i := 696) (by decide +kernel)⟩
theorem lw_p25 : lw_okq (⟨"TagBusModel", "put", "(IIII)I"⟩, 13) := ⟨⟨by decide +kernel, by decide +kernel⟩, List.mem_of_getElem? (i := 605) (by decide +kernel), List.mem_of_getElem? (i := 699) (by decide +kernel), List.mem_of_getElem? (i := 700) (by decide +kernel)⟩
theorem lw_p26 : lw_okq (⟨"TagBusModel", "go", "(Z)I"⟩, 13) := ⟨⟨by decide +kernel, by decide +kernel⟩, List.mem_of_getElem? (i := 605) (by decide +kernel), List.mem_of_getElem? (i := 718) (by decide +kernel), List.mem_of_getElem? (i := 719) (by decide +kernel)⟩
theorem lw_p27 : lw_okq (⟨"TagBusModel", "question", "()V"⟩, 13) := ⟨⟨by decide +kernel, by decide +kernel⟩, List.mem_of_getElem? (i := 605) (by decide +kernel), List.mem_of_getElem? (i := 722) (by decide +kernel), List.mem_of_getElem? (i := 723) (by decide +kernel)⟩
theorem lw_p28 : lw_okq (⟨"TagBusModel", "sign", "(II)I"⟩, 13) := ⟨⟨by decide +kernel, by decide +kernel⟩, List.mem_of_getElem? (i := 605) (by decide +kernel), List.mem_of_getElem? (i := 726) (by decide +kernel), List.mem_of_getElem? (i := 727) (by decide +kernel)⟩
theorem lw_p29 : lw_okq (⟨"TagBusModel", "number", "(I)I"⟩, 13) := ⟨⟨by decide +kernel, by decide +kernel⟩, List.mem_of_getElem? (i := 605) (by decide +kernel), List.mem_of_getElem? (i := 730) (by decide +kernel), List.mem_of_getElem? (i := 731) (by decide +kernel)⟩
theorem lw_p30 : lw_okq (⟨"TagBusModel", "tick", "()I"⟩, 13) := ⟨⟨by decide +kernel, by decide +kernel⟩, List.mem_of_getElem? (i := 605) (by decide +kernel), List.mem_of_getElem? (i := 746) (by decide +kernel), List.mem_of_getElem? (i := 747) (by decide +kernel)⟩
theorem lw_p31 : lw_okq (⟨"TagBusModel", "doAll", "()V"⟩, 13) := ⟨⟨by decide +kernel, by decide +kernel⟩, List.mem_of_getElem? (i := 605) (by decide +kernel), List.mem_of_getElem? (i := 750) (by decide +kernel), List.mem_of_getElem? (i := 751) (by decide +kernel)⟩
def lw_privs_2 : List (MethodName × Nat) := [(⟨"TagBus$Bus", "noteAnswer", "(LTagBus$Master;I)V"⟩, 15), (⟨"TagBus$Bus", "sendQuestionOf", "(I)I"⟩, 15), (⟨"TagBus$Bus", "refuse", "(LTagBus$Master;LTagBus$Question;)V"⟩, 15), (⟨"TagBus$Bus", "letIn", "(LTagBus$Master;LTagBus$Target;I)V"⟩, 15), (⟨"TagBus$Bus", "countWaits", "(I)V"⟩, 15), (⟨"TagBusModel", "isLentFrom", "(I)Z"⟩, 13), (⟨"TagBusModel", "change", "(II)I"⟩, 13), (⟨"TagBusModel", "know", "()V"⟩, 13), (⟨"TagBusModel", "isRoom", "(I)Z"⟩, 13), (⟨"TagBusModel", "put", "(IIII)I"⟩, 13), (⟨"TagBusModel", "go", "(Z)I"⟩, 13), (⟨"TagBusModel", "question", "()V"⟩, 13), (⟨"TagBusModel", "sign", "(II)I"⟩, 13), (⟨"TagBusModel", "number", "(I)I"⟩, 13), (⟨"TagBusModel", "tick", "()I"⟩, 13), (⟨"TagBusModel", "doAll", "()V"⟩, 13)]
theorem lw_r2 : ∀ q ∈ lw_privs_2, lw_okq q := List.forall_mem_cons.mpr ⟨lw_p16, List.forall_mem_cons.mpr ⟨lw_p17, List.forall_mem_cons.mpr ⟨lw_p18, List.forall_mem_cons.mpr ⟨lw_p19, List.forall_mem_cons.mpr ⟨lw_p20, List.forall_mem_cons.mpr ⟨lw_p21, List.forall_mem_cons.mpr ⟨lw_p22, List.forall_mem_cons.mpr ⟨lw_p23, List.forall_mem_cons.mpr ⟨lw_p24, List.forall_mem_cons.mpr ⟨lw_p25, List.forall_mem_cons.mpr ⟨lw_p26, List.forall_mem_cons.mpr ⟨lw_p27, List.forall_mem_cons.mpr ⟨lw_p28, List.forall_mem_cons.mpr ⟨lw_p29, List.forall_mem_cons.mpr ⟨lw_p30, List.forall_mem_cons.mpr ⟨lw_p31, fun _ h => absurd h List.not_mem_nil⟩⟩⟩⟩⟩⟩⟩⟩⟩⟩⟩⟩⟩⟩⟩⟩
theorem lw_p32 : lw_okq (⟨"TagBusModel", "targetThatGoes", "()I"⟩, 13) := ⟨⟨by decide +kernel, by decide +kernel⟩, List.mem_of_getElem? (i := 605) (by decide +kernel), List.mem_of_getElem? (i := 754) (by decide +kernel), List.mem_of_getElem? (i := 755) (by decide +kernel)⟩
theorem lw_p33 : lw_okq (⟨"TagBusModel", "answering", "(I)I"⟩, 13) := ⟨⟨by decide +kernel, by decide +kernel⟩, List.mem_of_getElem? (i := 605) (by decide +kernel), List.mem_of_getElem? (i := 758) (by decide +kernel), List.mem_of_getElem? (i := 759) (by decide +kernel)⟩
theorem lw_p34 : lw_okq (⟨"TagBusModel", "masterThatGoes", "()I"⟩, 13) := ⟨⟨by decide +kernel, by decide +kernel⟩, List.mem_of_getElem? (i := 605) (by decide +kernel), List.mem_of_getElem? (i := 762) (by decide +kernel), List.mem_of_getElem? (i := 763) (by decide +kernel)⟩
theorem lw_p35 : lw_okq (⟨"TagBusModel", "canSend", "(I)Z"⟩, 13) := ⟨⟨by decide +kernel, by decide +kernel⟩, List.mem_of_getElem? (i := 605) (by decide +kernel), List.mem_of_getElem? (i := 766) (by decide +kernel), List.mem_of_getElem? (i := 767) (by decide +kernel)⟩
theorem lw_p36 : lw_okq (⟨"TagBusModel", "freeTag", "()I"⟩, 13) := ⟨⟨by decide +kernel, by decide +kernel⟩, List.mem_of_getElem? (i := 605) (by decide +kernel), List.mem_of_getElem? (i := 770) (by decide +kernel), List.mem_of_getElem? (i := 771) (by decide +kernel)⟩
theorem lw_p37 : lw_okq (⟨"TagBusModel", "holds", "(I)I"⟩, 13) := ⟨⟨by decide +kernel, by decide +kernel⟩, List.mem_of_getElem? (i := 605) (by decide +kernel), List.mem_of_getElem? (i := 774) (by decide +kernel), List.mem_of_getElem? (i := 775) (by decide +kernel)⟩
theorem lw_p38 : lw_okq (⟨"TagBusModel", "answers", "(I)I"⟩, 13) := ⟨⟨by decide +kernel, by decide +kernel⟩, List.mem_of_getElem? (i := 605) (by decide +kernel), List.mem_of_getElem? (i := 778) (by decide +kernel), List.mem_of_getElem? (i := 779) (by decide +kernel)⟩
theorem lw_p39 : lw_okq (⟨"TagBusModel", "sends", "(I)I"⟩, 13) := ⟨⟨by decide +kernel, by decide +kernel⟩, List.mem_of_getElem? (i := 605) (by decide +kernel), List.mem_of_getElem? (i := 782) (by decide +kernel), List.mem_of_getElem? (i := 783) (by decide +kernel)⟩
theorem lw_p40 : lw_okq (⟨"TagBusModel", "isQuestion", "(I)Z"⟩, 13) := ⟨⟨by decide +kernel, by decide +kernel⟩, List.mem_of_getElem? (i := 605) (by decide +kernel), List.mem_of_getElem? (i := 802) (by decide +kernel), List.mem_of_getElem? (i := 803) (by decide +kernel)⟩
theorem lw_p41 : lw_okq (⟨"TagBusModel", "answered", "(IZ)I"⟩, 13) := ⟨⟨by decide +kernel, by decide +kernel⟩, List.mem_of_getElem? (i := 605) (by decide +kernel), List.mem_of_getElem? (i := 814) (by decide +kernel), List.mem_of_getElem? (i := 815) (by decide +kernel)⟩
theorem lw_p42 : lw_okq (⟨"TagBusModel", "doneIn", "(I)I"⟩, 13) := ⟨⟨by decide +kernel, by decide +kernel⟩, List.mem_of_getElem? (i := 605) (by decide +kernel), List.mem_of_getElem? (i := 826) (by decide +kernel), List.mem_of_getElem? (i := 827) (by decide +kernel)⟩
theorem lw_p43 : lw_okq (⟨"TagBusModel", "putAside", "()V"⟩, 13) := ⟨⟨by decide +kernel, by decide +kernel⟩, List.mem_of_getElem? (i := 605) (by decide +kernel), List.mem_of_getElem? (i := 838) (by decide +kernel), List.mem_of_getElem? (i := 839) (by decide +kernel)⟩
theorem lw_p44 : lw_okq (⟨"TagBusModel", "putBack", "()V"⟩, 13) := ⟨⟨by decide +kernel, by decide +kernel⟩, List.mem_of_getElem? (i := 605) (by decide +kernel), List.mem_of_getElem? (i := 842) (by decide +kernel), List.mem_of_getElem? (i := 843) (by decide +kernel)⟩
theorem lw_p45 : lw_okq (⟨"TagBusModel", "freeTags", "()I"⟩, 13) := ⟨⟨by decide +kernel, by decide +kernel⟩, List.mem_of_getElem? (i := 605) (by decide +kernel), List.mem_of_getElem? (i := 854) (by decide +kernel), List.mem_of_getElem? (i := 855) (by decide +kernel)⟩
def lw_privs_3 : List (MethodName × Nat) := [(⟨"TagBusModel", "targetThatGoes", "()I"⟩, 13), (⟨"TagBusModel", "answering", "(I)I"⟩, 13), (⟨"TagBusModel", "masterThatGoes", "()I"⟩, 13), (⟨"TagBusModel", "canSend", "(I)Z"⟩, 13), (⟨"TagBusModel", "freeTag", "()I"⟩, 13), (⟨"TagBusModel", "holds", "(I)I"⟩, 13), (⟨"TagBusModel", "answers", "(I)I"⟩, 13), (⟨"TagBusModel", "sends", "(I)I"⟩, 13), (⟨"TagBusModel", "isQuestion", "(I)Z"⟩, 13), (⟨"TagBusModel", "answered", "(IZ)I"⟩, 13), (⟨"TagBusModel", "doneIn", "(I)I"⟩, 13), (⟨"TagBusModel", "putAside", "()V"⟩, 13), (⟨"TagBusModel", "putBack", "()V"⟩, 13), (⟨"TagBusModel", "freeTags", "()I"⟩, 13)]
theorem lw_r3 : ∀ q ∈ lw_privs_3, lw_okq q := List.forall_mem_cons.mpr ⟨lw_p32, List.forall_mem_cons.mpr ⟨lw_p33, List.forall_mem_cons.mpr ⟨lw_p34, List.forall_mem_cons.mpr ⟨lw_p35, List.forall_mem_cons.mpr ⟨lw_p36, List.forall_mem_cons.mpr ⟨lw_p37, List.forall_mem_cons.mpr ⟨lw_p38, List.forall_mem_cons.mpr ⟨lw_p39, List.forall_mem_cons.mpr ⟨lw_p40, List.forall_mem_cons.mpr ⟨lw_p41, List.forall_mem_cons.mpr ⟨lw_p42, List.forall_mem_cons.mpr ⟨lw_p43, List.forall_mem_cons.mpr ⟨lw_p44, List.forall_mem_cons.mpr ⟨lw_p45, fun _ h => absurd h List.not_mem_nil⟩⟩⟩⟩⟩⟩⟩⟩⟩⟩⟩⟩⟩⟩
def lw_privs : List (MethodName × Nat) := lw_privs_1 ++ (lw_privs_2 ++ (lw_privs_3))
def lw_tbl : List Cond := k2_sels lw_privs ++ tables_1
theorem lw_privs_ok : ∀ q ∈ lw_privs, lw_okq q := by
  show ∀ q ∈ lw_privs_1 ++ (lw_privs_2 ++ (lw_privs_3)), lw_okq q
  exact List.forall_mem_append.mpr ⟨lw_r1, List.forall_mem_append.mpr ⟨lw_r2, lw_r3⟩⟩

def RX0 : String := "TagBus$Bus"
def TX0 : u_T := fun k => match k with
  | 0 => ("TagBus$Bus", "settings", "[I", true)
  | 1 => ("TagBus$Bus", "lentTo", "[I", true)
  | 2 => ("TagBus$Bus", "masters", "[LTagBus$Master;", true)
  | 3 => ("TagBus$Bus", "targets", "[LTagBus$Target;", true)
  | 4 => ("TagBus$Bus", "questions", "[LTagBus$Question;", true)
  | 5 => ("TagBus$Bus", "questionsSoFar", "I", false)
  | 6 => ("TagBus$Bus", "tick", "I", false)
  | 7 => ("TagBus$Bus", "latestTrip", "I", false)
  | 8 => ("TagBus$Bus", "turnOfMaster", "I", false)
  | 9 => ("TagBus$Bus", "turnOfTarget", "I", false)
  | 10 => ("TagBus$Bus", "answerTrips", "I", false)
  | 11 => ("TagBus$Bus", "questionTrips", "I", false)
  | 12 => ("TagBus$Bus", "refusedTrips", "I", false)
  | 13 => ("TagBus$Bus", "idleTicks", "I", false)
  | _ => ("TagBus$Bus", "overtakings", "I", false)
def tyX0 : Nat → FieldType := fun k => match k with
  | 0 => .array .int
  | 1 => .array .int
  | 2 => .array (.object "TagBus$Master")
  | 3 => .array (.object "TagBus$Target")
  | 4 => .array (.object "TagBus$Question")
  | 5 => .int
  | 6 => .int
  | 7 => .int
  | 8 => .int
  | 9 => .int
  | 10 => .int
  | 11 => .int
  | 12 => .int
  | 13 => .int
  | _ => .int
theorem nmX0 : ∀ a, a < 15 → ∀ b, b < 15 → a ≠ b → (TX0 a).2.1 ≠ (TX0 b).2.1 := by decide +kernel
theorem tyX0_ok : ∀ k, k < 15 → parseFieldDescriptor (TX0 k).2.2.1 = some (tyX0 k) := by decide +kernel
abbrev cX0_init : ByteArray := prog_2_method_1_code
def yX0_init : MethodName := ⟨RX0, "<init>", "()V"⟩
abbrev cX0_copyFrom : ByteArray := prog_2_method_2_code
def yX0_copyFrom : MethodName := ⟨RX0, "copyFrom", "(LTagBus$Bus;)V"⟩
abbrev cX0_masterAt : ByteArray := prog_2_method_3_code
def yX0_masterAt : MethodName := ⟨RX0, "masterAt", "(I)LTagBus$Master;"⟩
abbrev cX0_targetAt : ByteArray := prog_2_method_4_code
def yX0_targetAt : MethodName := ⟨RX0, "targetAt", "(I)LTagBus$Target;"⟩
abbrev cX0_questionAt : ByteArray := prog_2_method_5_code
def yX0_questionAt : MethodName := ⟨RX0, "questionAt", "(I)LTagBus$Question;"⟩
abbrev cX0_highestLentTag : ByteArray := prog_2_method_6_code
def yX0_highestLentTag : MethodName := ⟨RX0, "highestLentTag", "()I"⟩
abbrev cX0_freeTags : ByteArray := prog_2_method_7_code
def yX0_freeTags : MethodName := ⟨RX0, "freeTags", "()I"⟩
abbrev cX0_lowestFreeTag : ByteArray := prog_2_method_8_code
def yX0_lowestFreeTag : MethodName := ⟨RX0, "lowestFreeTag", "()I"⟩
abbrev cX0_put : ByteArray := prog_2_method_9_code
def yX0_put : MethodName := ⟨RX0, "put", "(IIII)I"⟩
abbrev cX0_takeLastOf : ByteArray := prog_2_method_10_code
def yX0_takeLastOf : MethodName := ⟨RX0, "takeLastOf", "(LTagBus$Master;)I"⟩
abbrev cX0_doneIn : ByteArray := prog_2_method_11_code
def yX0_doneIn : MethodName := ⟨RX0, "doneIn", "(LTagBus$Target;)I"⟩
abbrev cX0_isOutOfPatience : ByteArray := prog_2_method_12_code
def yX0_isOutOfPatience : MethodName := ⟨RX0, "isOutOfPatience", "(LTagBus$Master;)Z"⟩
abbrev cX0_passTick : ByteArray := prog_2_method_13_code
def yX0_passTick : MethodName := ⟨RX0, "passTick", "()I"⟩
abbrev cX0_finishQuestions : ByteArray := prog_2_method_14_code
def yX0_finishQuestions : MethodName := ⟨RX0, "finishQuestions", "()V"⟩
abbrev cX0_makeTrip : ByteArray := prog_2_method_15_code
def yX0_makeTrip : MethodName := ⟨RX0, "makeTrip", "()I"⟩
abbrev cX0_prefersAnswer : ByteArray := prog_2_method_16_code
def yX0_prefersAnswer : MethodName := ⟨RX0, "prefersAnswer", "()Z"⟩
abbrev cX0_targetThatAnswers : ByteArray := prog_2_method_17_code
def yX0_targetThatAnswers : MethodName := ⟨RX0, "targetThatAnswers", "()I"⟩
abbrev cX0_placeOfAnswer : ByteArray := prog_2_method_18_code
def yX0_placeOfAnswer : MethodName := ⟨RX0, "placeOfAnswer", "(LTagBus$Target;)I"⟩
abbrev cX0_masterThatSends : ByteArray := prog_2_method_19_code
def yX0_masterThatSends : MethodName := ⟨RX0, "masterThatSends", "()I"⟩
abbrev cX0_masterThatWaitedTooLong : ByteArray := prog_2_method_20_code
def yX0_masterThatWaitedTooLong : MethodName := ⟨RX0, "masterThatWaitedTooLong", "()I"⟩
abbrev cX0_maySend : ByteArray := prog_2_method_21_code
def yX0_maySend : MethodName := ⟨RX0, "maySend", "(LTagBus$Master;)Z"⟩
abbrev cX0_sendQuestionOf : ByteArray := prog_2_method_22_code
def yX0_sendQuestionOf : MethodName := ⟨RX0, "sendQuestionOf", "(I)I"⟩
abbrev cX0_refuse : ByteArray := prog_2_method_23_code
def yX0_refuse : MethodName := ⟨RX0, "refuse", "(LTagBus$Master;LTagBus$Question;)V"⟩
abbrev cX0_letIn : ByteArray := prog_2_method_24_code
def yX0_letIn : MethodName := ⟨RX0, "letIn", "(LTagBus$Master;LTagBus$Target;I)V"⟩
abbrev cX0_sendAnswerOf : ByteArray := prog_2_method_25_code
def yX0_sendAnswerOf : MethodName := ⟨RX0, "sendAnswerOf", "(I)I"⟩
abbrev cX0_takeTagBack : ByteArray := prog_2_method_26_code
def yX0_takeTagBack : MethodName := ⟨RX0, "takeTagBack", "(LTagBus$Question;)V"⟩
abbrev cX0_noteAnswer : ByteArray := prog_2_method_27_code
def yX0_noteAnswer : MethodName := ⟨RX0, "noteAnswer", "(LTagBus$Master;I)V"⟩
abbrev cX0_countWaits : ByteArray := prog_2_method_28_code
def yX0_countWaits : MethodName := ⟨RX0, "countWaits", "(I)V"⟩
def RX1 : String := "TagBus$Line"
def TX1 : u_T := fun k => match k with
  | 0 => ("TagBus$Line", "numbers", "[I", true)
  | _ => ("TagBus$Line", "length", "I", false)
def tyX1 : Nat → FieldType := fun k => match k with
  | 0 => .array .int
  | _ => .int
theorem nmX1 : ∀ a, a < 2 → ∀ b, b < 2 → a ≠ b → (TX1 a).2.1 ≠ (TX1 b).2.1 := by decide +kernel
theorem tyX1_ok : ∀ k, k < 2 → parseFieldDescriptor (TX1 k).2.2.1 = some (tyX1 k) := by decide +kernel
abbrev cX1_init : ByteArray := prog_3_method_1_code
def yX1_init : MethodName := ⟨RX1, "<init>", "()V"⟩
abbrev cX1_at : ByteArray := prog_3_method_2_code
def yX1_at : MethodName := ⟨RX1, "at", "(I)I"⟩
abbrev cX1_append : ByteArray := prog_3_method_3_code
def yX1_append : MethodName := ⟨RX1, "append", "(I)V"⟩
abbrev cX1_removeAt : ByteArray := prog_3_method_4_code
def yX1_removeAt : MethodName := ⟨RX1, "removeAt", "(I)V"⟩
abbrev cX1_copyFrom : ByteArray := prog_3_method_5_code
def yX1_copyFrom : MethodName := ⟨RX1, "copyFrom", "(LTagBus$Line;)V"⟩
def RX2 : String := "TagBus$Master"
def TX2 : u_T := fun k => match k with
  | 0 => ("TagBus$Master", "row", "LTagBus$Line;", true)
  | 1 => ("TagBus$Master", "share", "I", false)
  | 2 => ("TagBus$Master", "holds", "I", false)
  | 3 => ("TagBus$Master", "refusals", "I", false)
  | 4 => ("TagBus$Master", "notBefore", "I", false)
  | 5 => ("TagBus$Master", "waited", "I", false)
  | 6 => ("TagBus$Master", "answered", "I", false)
  | _ => ("TagBus$Master", "longest", "I", false)
def tyX2 : Nat → FieldType := fun k => match k with
  | 0 => .object "TagBus$Line"
  | 1 => .int
  | 2 => .int
  | 3 => .int
  | 4 => .int
  | 5 => .int
  | 6 => .int
  | _ => .int
theorem nmX2 : ∀ a, a < 8 → ∀ b, b < 8 → a ≠ b → (TX2 a).2.1 ≠ (TX2 b).2.1 := by decide +kernel
theorem tyX2_ok : ∀ k, k < 8 → parseFieldDescriptor (TX2 k).2.2.1 = some (tyX2 k) := by decide +kernel
abbrev cX2_init : ByteArray := prog_4_method_1_code
def yX2_init : MethodName := ⟨RX2, "<init>", "()V"⟩
abbrev cX2_copyFrom : ByteArray := prog_4_method_2_code
def yX2_copyFrom : MethodName := ⟨RX2, "copyFrom", "(LTagBus$Master;)V"⟩
def RX3 : String := "TagBus$Question"
def TX3 : u_T := fun k => match k with
  | 0 => ("TagBus$Question", "master", "I", false)
  | 1 => ("TagBus$Question", "target", "I", false)
  | 2 => ("TagBus$Question", "address", "I", false)
  | 3 => ("TagBus$Question", "written", "I", false)
  | 4 => ("TagBus$Question", "where", "I", false)
  | 5 => ("TagBus$Question", "tag", "I", false)
  | 6 => ("TagBus$Question", "answer", "I", false)
  | 7 => ("TagBus$Question", "putAt", "I", false)
  | 8 => ("TagBus$Question", "doneAt", "I", false)
  | 9 => ("TagBus$Question", "took", "I", false)
  | _ => ("TagBus$Question", "refusals", "I", false)
def tyX3 : Nat → FieldType := fun k => match k with
  | 0 => .int
  | 1 => .int
  | 2 => .int
  | 3 => .int
  | 4 => .int
  | 5 => .int
  | 6 => .int
  | 7 => .int
  | 8 => .int
  | 9 => .int
  | _ => .int
theorem nmX3 : ∀ a, a < 11 → ∀ b, b < 11 → a ≠ b → (TX3 a).2.1 ≠ (TX3 b).2.1 := by decide +kernel
theorem tyX3_ok : ∀ k, k < 11 → parseFieldDescriptor (TX3 k).2.2.1 = some (tyX3 k) := by decide +kernel
abbrev cX3_init : ByteArray := prog_5_method_1_code
def yX3_init : MethodName := ⟨RX3, "<init>", "()V"⟩
abbrev cX3_begin : ByteArray := prog_5_method_2_code
def yX3_begin : MethodName := ⟨RX3, "begin", "(IIIII)V"⟩
abbrev cX3_copyFrom : ByteArray := prog_5_method_3_code
def yX3_copyFrom : MethodName := ⟨RX3, "copyFrom", "(LTagBus$Question;)V"⟩
def RX4 : String := "TagBus$QuestionText"
def TX4 : u_T := fun k => match k with
  | 0 => ("TagBus$QuestionText", "signs", "[C", true)
  | 1 => ("TagBus$QuestionText", "length", "I", false)
  | 2 => ("TagBus$QuestionText", "questions", "[LTagBus$Question;", true)
  | 3 => ("TagBus$QuestionText", "found", "I", false)
  | _ => ("TagBus$QuestionText", "at", "I", false)
def tyX4 : Nat → FieldType := fun k => match k with
  | 0 => .array .char
  | 1 => .int
  | 2 => .array (.object "TagBus$Question")
  | 3 => .int
  | _ => .int
theorem nmX4 : ∀ a, a < 5 → ∀ b, b < 5 → a ≠ b → (TX4 a).2.1 ≠ (TX4 b).2.1 := by decide +kernel
theorem tyX4_ok : ∀ k, k < 5 → parseFieldDescriptor (TX4 k).2.2.1 = some (tyX4 k) := by decide +kernel
abbrev cX4_init : ByteArray := prog_6_method_1_code
def yX4_init : MethodName := ⟨RX4, "<init>", "()V"⟩
abbrev cX4_append : ByteArray := prog_6_method_2_code
def yX4_append : MethodName := ⟨RX4, "append", "(C)Z"⟩
abbrev cX4_questionAt : ByteArray := prog_6_method_3_code
def yX4_questionAt : MethodName := ⟨RX4, "questionAt", "(I)LTagBus$Question;"⟩
abbrev cX4_foundOf : ByteArray := prog_6_method_4_code
def yX4_foundOf : MethodName := ⟨RX4, "foundOf", "(I)I"⟩
abbrev cX4_findFault : ByteArray := prog_6_method_5_code
def yX4_findFault : MethodName := ⟨RX4, "findFault", "()I"⟩
abbrev cX4_readQuestion : ByteArray := prog_6_method_6_code
def yX4_readQuestion : MethodName := ⟨RX4, "readQuestion", "(LTagBus$Question;)Z"⟩
abbrev cX4_skip : ByteArray := prog_6_method_7_code
def yX4_skip : MethodName := ⟨RX4, "skip", "(C)Z"⟩
abbrev cX4_readNumber : ByteArray := prog_6_method_8_code
def yX4_readNumber : MethodName := ⟨RX4, "readNumber", "(I)I"⟩
abbrev cX4_digitAt : ByteArray := prog_6_method_9_code
def yX4_digitAt : MethodName := ⟨RX4, "digitAt", "(I)I"⟩
def RX5 : String := "TagBus$Target"
def TX5 : u_T := fun k => match k with
  | 0 => ("TagBus$Target", "cells", "[I", true)
  | 1 => ("TagBus$Target", "numbers", "[I", true)
  | _ => ("TagBus$Target", "inside", "LTagBus$Line;", true)
def tyX5 : Nat → FieldType := fun k => match k with
  | 0 => .array .int
  | 1 => .array .int
  | _ => .object "TagBus$Line"
theorem nmX5 : ∀ a, a < 3 → ∀ b, b < 3 → a ≠ b → (TX5 a).2.1 ≠ (TX5 b).2.1 := by decide +kernel
theorem tyX5_ok : ∀ k, k < 3 → parseFieldDescriptor (TX5 k).2.2.1 = some (tyX5 k) := by decide +kernel
abbrev cX5_init : ByteArray := prog_7_method_1_code
def yX5_init : MethodName := ⟨RX5, "<init>", "()V"⟩
abbrev cX5_isFull : ByteArray := prog_7_method_2_code
def yX5_isFull : MethodName := ⟨RX5, "isFull", "()Z"⟩
abbrev cX5_useCell : ByteArray := prog_7_method_3_code
def yX5_useCell : MethodName := ⟨RX5, "useCell", "(II)I"⟩
abbrev cX5_copyFrom : ByteArray := prog_7_method_4_code
def yX5_copyFrom : MethodName := ⟨RX5, "copyFrom", "(LTagBus$Target;)V"⟩
def RX6 : String := "TagBus"
def TX6 : u_T := fun k => match k with
  | 0 => ("TagBus", "bus", "LTagBus$Bus;", true)
  | 1 => ("TagBus", "trial", "LTagBus$Bus;", true)
  | 2 => ("TagBus", "snapshot", "LTagBus$Bus;", true)
  | 3 => ("TagBus", "hasSnapshot", "Z", false)
  | 4 => ("TagBus", "past", "[LTagBus$Bus;", true)
  | 5 => ("TagBus", "pastCount", "I", false)
  | _ => ("TagBus", "text", "LTagBus$QuestionText;", true)
def tyX6 : Nat → FieldType := fun k => match k with
  | 0 => .object "TagBus$Bus"
  | 1 => .object "TagBus$Bus"
  | 2 => .object "TagBus$Bus"
  | 3 => .boolean
  | 4 => .array (.object "TagBus$Bus")
  | 5 => .int
  | _ => .object "TagBus$QuestionText"
theorem nmX6 : ∀ a, a < 7 → ∀ b, b < 7 → a ≠ b → (TX6 a).2.1 ≠ (TX6 b).2.1 := by decide +kernel
theorem tyX6_ok : ∀ k, k < 7 → parseFieldDescriptor (TX6 k).2.2.1 = some (tyX6 k) := by decide +kernel
abbrev cX6_init : ByteArray := prog_1_method_1_code
def yX6_init : MethodName := ⟨RX6, "<init>", "()V"⟩
abbrev cX6_set : ByteArray := prog_1_method_2_code
def yX6_set : MethodName := ⟨RX6, "set", "(II)I"⟩
abbrev cX6_setShare : ByteArray := prog_1_method_3_code
def yX6_setShare : MethodName := ⟨RX6, "setShare", "(II)I"⟩
abbrev cX6_setTarget : ByteArray := prog_1_method_4_code
def yX6_setTarget : MethodName := ⟨RX6, "setTarget", "(III)I"⟩
abbrev cX6_setCell : ByteArray := prog_1_method_5_code
def yX6_setCell : MethodName := ⟨RX6, "setCell", "(III)I"⟩
abbrev cX6_read : ByteArray := prog_1_method_6_code
def yX6_read : MethodName := ⟨RX6, "read", "(III)I"⟩
abbrev cX6_write : ByteArray := prog_1_method_7_code
def yX6_write : MethodName := ⟨RX6, "write", "(IIII)I"⟩
abbrev cX6_ask : ByteArray := prog_1_method_8_code
def yX6_ask : MethodName := ⟨RX6, "ask", "()I"⟩
abbrev cX6_withdraw : ByteArray := prog_1_method_9_code
def yX6_withdraw : MethodName := ⟨RX6, "withdraw", "(I)I"⟩
abbrev cX6_pass : ByteArray := prog_1_method_10_code
def yX6_pass : MethodName := ⟨RX6, "pass", "(I)I"⟩
abbrev cX6_type : ByteArray := prog_1_method_11_code
def yX6_type : MethodName := ⟨RX6, "type", "(C)I"⟩
abbrev cX6_clearText : ByteArray := prog_1_method_12_code
def yX6_clearText : MethodName := ⟨RX6, "clearText", "()I"⟩
abbrev cX6_undo : ByteArray := prog_1_method_13_code
def yX6_undo : MethodName := ⟨RX6, "undo", "()I"⟩
abbrev cX6_keep : ByteArray := prog_1_method_14_code
def yX6_keep : MethodName := ⟨RX6, "keep", "()I"⟩
abbrev cX6_restore : ByteArray := prog_1_method_15_code
def yX6_restore : MethodName := ⟨RX6, "restore", "()I"⟩
abbrev cX6_question : ByteArray := prog_1_method_16_code
def yX6_question : MethodName := ⟨RX6, "question", "(II)I"⟩
abbrev cX6_tag : ByteArray := prog_1_method_17_code
def yX6_tag : MethodName := ⟨RX6, "tag", "(I)I"⟩
abbrev cX6_master : ByteArray := prog_1_method_18_code
def yX6_master : MethodName := ⟨RX6, "master", "(II)I"⟩
abbrev cX6_row : ByteArray := prog_1_method_19_code
def yX6_row : MethodName := ⟨RX6, "row", "(II)I"⟩
abbrev cX6_target : ByteArray := prog_1_method_20_code
def yX6_target : MethodName := ⟨RX6, "target", "(II)I"⟩
abbrev cX6_cell : ByteArray := prog_1_method_21_code
def yX6_cell : MethodName := ⟨RX6, "cell", "(II)I"⟩
abbrev cX6_next : ByteArray := prog_1_method_22_code
def yX6_next : MethodName := ⟨RX6, "next", "(I)I"⟩
abbrev cX6_answeredIn : ByteArray := prog_1_method_23_code
def yX6_answeredIn : MethodName := ⟨RX6, "answeredIn", "(I)I"⟩
abbrev cX6_count : ByteArray := prog_1_method_24_code
def yX6_count : MethodName := ⟨RX6, "count", "(I)I"⟩
abbrev cX6_isIndex : ByteArray := prog_1_method_25_code
def yX6_isIndex : MethodName := ⟨RX6, "isIndex", "(II)Z"⟩
abbrev cX6_isBetween : ByteArray := prog_1_method_26_code
def yX6_isBetween : MethodName := ⟨RX6, "isBetween", "(III)Z"⟩
abbrev cX6_putOne : ByteArray := prog_1_method_27_code
def yX6_putOne : MethodName := ⟨RX6, "putOne", "(IIII)I"⟩
abbrev cX6_hasRoomForText : ByteArray := prog_1_method_28_code
def yX6_hasRoomForText : MethodName := ⟨RX6, "hasRoomForText", "()Z"⟩
abbrev cX6_record : ByteArray := prog_1_method_29_code
def yX6_record : MethodName := ⟨RX6, "record", "()V"⟩
def RX7 : String := "TagBusModel"
def TX7 : u_T := fun k => match k with
  | 0 => ("TagBusModel", "s", "[I", true)
  | 1 => ("TagBusModel", "aside", "[I", true)
  | 2 => ("TagBusModel", "before", "[I", true)
  | 3 => ("TagBusModel", "known", "I", false)
  | 4 => ("TagBusModel", "kept", "[I", true)
  | 5 => ("TagBusModel", "isKept", "Z", false)
  | 6 => ("TagBusModel", "text", "[I", true)
  | 7 => ("TagBusModel", "typed", "I", false)
  | 8 => ("TagBusModel", "at", "I", false)
  | 9 => ("TagBusModel", "isWrong", "Z", false)
  | 10 => ("TagBusModel", "asks", "[I", true)
  | 11 => ("TagBusModel", "counts", "[I", true)
  | _ => ("TagBusModel", "tripOf", "I", false)
def tyX7 : Nat → FieldType := fun k => match k with
  | 0 => .array .int
  | 1 => .array .int
  | 2 => .array .int
  | 3 => .int
  | 4 => .array .int
  | 5 => .boolean
  | 6 => .array .int
  | 7 => .int
  | 8 => .int
  | 9 => .boolean
  | 10 => .array .int
  | 11 => .array .int
  | _ => .int
theorem nmX7 : ∀ a, a < 13 → ∀ b, b < 13 → a ≠ b → (TX7 a).2.1 ≠ (TX7 b).2.1 := by decide +kernel
theorem tyX7_ok : ∀ k, k < 13 → parseFieldDescriptor (TX7 k).2.2.1 = some (tyX7 k) := by decide +kernel
abbrev cX7_init : ByteArray := prog_9_method_1_code
def yX7_init : MethodName := ⟨RX7, "<init>", "()V"⟩
abbrev cX7_in : ByteArray := prog_9_method_3_code
def yX7_in : MethodName := ⟨RX7, "in", "(III)Z"⟩
abbrev cX7_isPort : ByteArray := prog_9_method_4_code
def yX7_isPort : MethodName := ⟨RX7, "isPort", "(I)Z"⟩
abbrev cX7_ofMaster : ByteArray := prog_9_method_5_code
def yX7_ofMaster : MethodName := ⟨RX7, "ofMaster", "(II)I"⟩
abbrev cX7_ofTarget : ByteArray := prog_9_method_6_code
def yX7_ofTarget : MethodName := ⟨RX7, "ofTarget", "(II)I"⟩
abbrev cX7_of : ByteArray := prog_9_method_7_code
def yX7_of : MethodName := ⟨RX7, "of", "(II)I"⟩
abbrev cX7_know : ByteArray := prog_9_method_8_code
def yX7_know : MethodName := ⟨RX7, "know", "()V"⟩
abbrev cX7_change : ByteArray := prog_9_method_9_code
def yX7_change : MethodName := ⟨RX7, "change", "(II)I"⟩
abbrev cX7_isLentFrom : ByteArray := prog_9_method_10_code
def yX7_isLentFrom : MethodName := ⟨RX7, "isLentFrom", "(I)Z"⟩
abbrev cX7_set : ByteArray := prog_9_method_11_code
def yX7_set : MethodName := ⟨RX7, "set", "(II)I"⟩
abbrev cX7_setShare : ByteArray := prog_9_method_12_code
def yX7_setShare : MethodName := ⟨RX7, "setShare", "(II)I"⟩
abbrev cX7_setTarget : ByteArray := prog_9_method_13_code
def yX7_setTarget : MethodName := ⟨RX7, "setTarget", "(III)I"⟩
abbrev cX7_setCell : ByteArray := prog_9_method_14_code
def yX7_setCell : MethodName := ⟨RX7, "setCell", "(III)I"⟩
abbrev cX7_isRoom : ByteArray := prog_9_method_15_code
def yX7_isRoom : MethodName := ⟨RX7, "isRoom", "(I)Z"⟩
abbrev cX7_put : ByteArray := prog_9_method_16_code
def yX7_put : MethodName := ⟨RX7, "put", "(IIII)I"⟩
abbrev cX7_read : ByteArray := prog_9_method_17_code
def yX7_read : MethodName := ⟨RX7, "read", "(III)I"⟩
abbrev cX7_write : ByteArray := prog_9_method_18_code
def yX7_write : MethodName := ⟨RX7, "write", "(IIII)I"⟩
abbrev cX7_withdraw : ByteArray := prog_9_method_19_code
def yX7_withdraw : MethodName := ⟨RX7, "withdraw", "(I)I"⟩
abbrev cX7_sign : ByteArray := prog_9_method_20_code
def yX7_sign : MethodName := ⟨RX7, "sign", "(II)I"⟩
abbrev cX7_number : ByteArray := prog_9_method_21_code
def yX7_number : MethodName := ⟨RX7, "number", "(I)I"⟩
abbrev cX7_question : ByteArray := prog_9_method_22_code
def yX7_question : MethodName := ⟨RX7, "question", "()V"⟩
abbrev cX7_go : ByteArray := prog_9_method_23_code
def yX7_go : MethodName := ⟨RX7, "go", "(Z)I"⟩
abbrev cX7_ask : ByteArray := prog_9_method_24_code
def yX7_ask : MethodName := ⟨RX7, "ask", "()I"⟩
abbrev cX7_type : ByteArray := prog_9_method_25_code
def yX7_type : MethodName := ⟨RX7, "type", "(C)I"⟩
abbrev cX7_clearText : ByteArray := prog_9_method_26_code
def yX7_clearText : MethodName := ⟨RX7, "clearText", "()I"⟩
abbrev cX7_freeTag : ByteArray := prog_9_method_27_code
def yX7_freeTag : MethodName := ⟨RX7, "freeTag", "()I"⟩
abbrev cX7_holds : ByteArray := prog_9_method_28_code
def yX7_holds : MethodName := ⟨RX7, "holds", "(I)I"⟩
abbrev cX7_doAll : ByteArray := prog_9_method_29_code
def yX7_doAll : MethodName := ⟨RX7, "doAll", "()V"⟩
abbrev cX7_answering : ByteArray := prog_9_method_30_code
def yX7_answering : MethodName := ⟨RX7, "answering", "(I)I"⟩
abbrev cX7_targetThatGoes : ByteArray := prog_9_method_31_code
def yX7_targetThatGoes : MethodName := ⟨RX7, "targetThatGoes", "()I"⟩
abbrev cX7_canSend : ByteArray := prog_9_method_32_code
def yX7_canSend : MethodName := ⟨RX7, "canSend", "(I)Z"⟩
abbrev cX7_masterThatGoes : ByteArray := prog_9_method_33_code
def yX7_masterThatGoes : MethodName := ⟨RX7, "masterThatGoes", "()I"⟩
abbrev cX7_answers : ByteArray := prog_9_method_34_code
def yX7_answers : MethodName := ⟨RX7, "answers", "(I)I"⟩
abbrev cX7_sends : ByteArray := prog_9_method_35_code
def yX7_sends : MethodName := ⟨RX7, "sends", "(I)I"⟩
abbrev cX7_tick : ByteArray := prog_9_method_36_code
def yX7_tick : MethodName := ⟨RX7, "tick", "()I"⟩
abbrev cX7_pass : ByteArray := prog_9_method_37_code
def yX7_pass : MethodName := ⟨RX7, "pass", "(I)I"⟩
abbrev cX7_undo : ByteArray := prog_9_method_38_code
def yX7_undo : MethodName := ⟨RX7, "undo", "()I"⟩
abbrev cX7_keep : ByteArray := prog_9_method_39_code
def yX7_keep : MethodName := ⟨RX7, "keep", "()I"⟩
abbrev cX7_restore : ByteArray := prog_9_method_40_code
def yX7_restore : MethodName := ⟨RX7, "restore", "()I"⟩
abbrev cX7_isQuestion : ByteArray := prog_9_method_41_code
def yX7_isQuestion : MethodName := ⟨RX7, "isQuestion", "(I)Z"⟩
abbrev cX7_question_ : ByteArray := prog_9_method_42_code
def yX7_question_ : MethodName := ⟨RX7, "question", "(II)I"⟩
abbrev cX7_tag : ByteArray := prog_9_method_43_code
def yX7_tag : MethodName := ⟨RX7, "tag", "(I)I"⟩
abbrev cX7_answered : ByteArray := prog_9_method_44_code
def yX7_answered : MethodName := ⟨RX7, "answered", "(IZ)I"⟩
abbrev cX7_master : ByteArray := prog_9_method_45_code
def yX7_master : MethodName := ⟨RX7, "master", "(II)I"⟩
abbrev cX7_row : ByteArray := prog_9_method_46_code
def yX7_row : MethodName := ⟨RX7, "row", "(II)I"⟩
abbrev cX7_doneIn : ByteArray := prog_9_method_47_code
def yX7_doneIn : MethodName := ⟨RX7, "doneIn", "(I)I"⟩
abbrev cX7_target : ByteArray := prog_9_method_48_code
def yX7_target : MethodName := ⟨RX7, "target", "(II)I"⟩
abbrev cX7_cell : ByteArray := prog_9_method_49_code
def yX7_cell : MethodName := ⟨RX7, "cell", "(II)I"⟩
abbrev cX7_putAside : ByteArray := prog_9_method_50_code
def yX7_putAside : MethodName := ⟨RX7, "putAside", "()V"⟩
abbrev cX7_putBack : ByteArray := prog_9_method_51_code
def yX7_putBack : MethodName := ⟨RX7, "putBack", "()V"⟩
abbrev cX7_next : ByteArray := prog_9_method_52_code
def yX7_next : MethodName := ⟨RX7, "next", "(I)I"⟩
abbrev cX7_answeredIn : ByteArray := prog_9_method_53_code
def yX7_answeredIn : MethodName := ⟨RX7, "answeredIn", "(I)I"⟩
abbrev cX7_freeTags : ByteArray := prog_9_method_54_code
def yX7_freeTags : MethodName := ⟨RX7, "freeTags", "()I"⟩
abbrev cX7_count : ByteArray := prog_9_method_55_code
def yX7_count : MethodName := ⟨RX7, "count", "(I)I"⟩
def RL : String := "TagBusLaw"
abbrev cL_law : ByteArray := code
abbrev vwCl : List vw_C := [(RX0, TX0, 15), (RX1, TX1, 2), (RX2, TX2, 8), (RX3, TX3, 11), (RX4, TX4, 5), (RX5, TX5, 3), (RX6, TX6, 7), (RX7, TX7, 13)]
/-- the words of the tables that stay good in every later state -/
def Gt : List Cond := lw_tbl.filter goodWord
theorem gt_mem {w : Cond} (i : Nat) (h : lw_tbl[i]? = some w) (g : goodWord w = true) : w ∈ Gt := List.mem_filter.mpr ⟨List.mem_of_getElem? h, g⟩
theorem gt_tbl {w : Cond} (h : w ∈ Gt) : w ∈ lw_tbl := (List.mem_filter.mp h).1
theorem gt_good {ws : List Cond} {c : Cond} (hc : c ∈ Gt) {c' : Cond} : GoodIn (c' :: Gt) (c :: Gt) := fun w hw => by
  rcases List.mem_cons.mp hw with rfl | h
  · exact ⟨List.mem_cons_of_mem _ hc, good_of_word (List.mem_filter.mp hc).2⟩
  · exact ⟨List.mem_cons_of_mem _ h, good_of_word (List.mem_filter.mp h).2⟩
theorem kls_LEAST_SETTING : (Cond.laysStatic "TagBus" "LEAST_SETTING" "[I") ∈ lw_tbl := List.mem_of_getElem? (i := 333) (by decide +kernel)
theorem kls_MOST_SETTING : (Cond.laysStatic "TagBus" "MOST_SETTING" "[I") ∈ lw_tbl := List.mem_of_getElem? (i := 338) (by decide +kernel)
theorem kls_LEAST_OF_TARGET : (Cond.laysStatic "TagBus" "LEAST_OF_TARGET" "[I") ∈ lw_tbl := List.mem_of_getElem? (i := 394) (by decide +kernel)
theorem kls_MOST_OF_TARGET : (Cond.laysStatic "TagBus" "MOST_OF_TARGET" "[I") ∈ lw_tbl := List.mem_of_getElem? (i := 396) (by decide +kernel)
set_option maxRecDepth 20000 in
theorem kse_X6_record : (Cond.selects RX6 yX6_record yX6_record) ∈ Gt := gt_mem 0 rfl rfl
set_option maxRecDepth 20000 in
theorem kse_X6_putOne : (Cond.selects RX6 yX6_putOne yX6_putOne) ∈ Gt := gt_mem 1 rfl rfl
set_option maxRecDepth 20000 in
theorem kse_X4_readQuestion : (Cond.selects RX4 yX4_readQuestion yX4_readQuestion) ∈ Gt := gt_mem 2 rfl rfl
set_option maxRecDepth 20000 in
theorem kse_X4_readNumber : (Cond.selects RX4 yX4_readNumber yX4_readNumber) ∈ Gt := gt_mem 3 rfl rfl
set_option maxRecDepth 20000 in
theorem kse_X4_digitAt : (Cond.selects RX4 yX4_digitAt yX4_digitAt) ∈ Gt := gt_mem 4 rfl rfl
set_option maxRecDepth 20000 in
theorem kse_X4_skip : (Cond.selects RX4 yX4_skip yX4_skip) ∈ Gt := gt_mem 5 rfl rfl
set_option maxRecDepth 20000 in
theorem kse_X6_hasRoomForText : (Cond.selects RX6 yX6_hasRoomForText yX6_hasRoomForText) ∈ Gt := gt_mem 6 rfl rfl
set_option maxRecDepth 20000 in
theorem kse_X0_finishQuestions : (Cond.selects RX0 yX0_finishQuestions yX0_finishQuestions) ∈ Gt := gt_mem 7 rfl rfl
set_option maxRecDepth 20000 in
theorem kse_X0_makeTrip : (Cond.selects RX0 yX0_makeTrip yX0_makeTrip) ∈ Gt := gt_mem 8 rfl rfl
set_option maxRecDepth 20000 in
theorem kse_X0_targetThatAnswers : (Cond.selects RX0 yX0_targetThatAnswers yX0_targetThatAnswers) ∈ Gt := gt_mem 9 rfl rfl
set_option maxRecDepth 20000 in
theorem kse_X0_masterThatSends : (Cond.selects RX0 yX0_masterThatSends yX0_masterThatSends) ∈ Gt := gt_mem 10 rfl rfl
set_option maxRecDepth 20000 in
theorem kse_X0_masterThatWaitedTooLong : (Cond.selects RX0 yX0_masterThatWaitedTooLong yX0_masterThatWaitedTooLong) ∈ Gt := gt_mem 11 rfl rfl
set_option maxRecDepth 20000 in
theorem kse_X0_maySend : (Cond.selects RX0 yX0_maySend yX0_maySend) ∈ Gt := gt_mem 12 rfl rfl
set_option maxRecDepth 20000 in
theorem kse_X0_prefersAnswer : (Cond.selects RX0 yX0_prefersAnswer yX0_prefersAnswer) ∈ Gt := gt_mem 13 rfl rfl
set_option maxRecDepth 20000 in
theorem kse_X0_sendAnswerOf : (Cond.selects RX0 yX0_sendAnswerOf yX0_sendAnswerOf) ∈ Gt := gt_mem 14 rfl rfl
set_option maxRecDepth 20000 in
theorem kse_X0_takeTagBack : (Cond.selects RX0 yX0_takeTagBack yX0_takeTagBack) ∈ Gt := gt_mem 15 rfl rfl
set_option maxRecDepth 20000 in
theorem kse_X0_noteAnswer : (Cond.selects RX0 yX0_noteAnswer yX0_noteAnswer) ∈ Gt := gt_mem 16 rfl rfl
set_option maxRecDepth 20000 in
theorem kse_X0_sendQuestionOf : (Cond.selects RX0 yX0_sendQuestionOf yX0_sendQuestionOf) ∈ Gt := gt_mem 17 rfl rfl
set_option maxRecDepth 20000 in
theorem kse_X0_refuse : (Cond.selects RX0 yX0_refuse yX0_refuse) ∈ Gt := gt_mem 18 rfl rfl
set_option maxRecDepth 20000 in
theorem kse_X0_letIn : (Cond.selects RX0 yX0_letIn yX0_letIn) ∈ Gt := gt_mem 19 rfl rfl
set_option maxRecDepth 20000 in
theorem kse_X0_countWaits : (Cond.selects RX0 yX0_countWaits yX0_countWaits) ∈ Gt := gt_mem 20 rfl rfl
set_option maxRecDepth 20000 in
theorem kse_X7_isLentFrom : (Cond.selects RX7 yX7_isLentFrom yX7_isLentFrom) ∈ Gt := gt_mem 21 rfl rfl
set_option maxRecDepth 20000 in
theorem kse_X7_change : (Cond.selects RX7 yX7_change yX7_change) ∈ Gt := gt_mem 22 rfl rfl
set_option maxRecDepth 20000 in
theorem kse_X7_know : (Cond.selects RX7 yX7_know yX7_know) ∈ Gt := gt_mem 23 rfl rfl
set_option maxRecDepth 20000 in
theorem kse_X7_isRoom : (Cond.selects RX7 yX7_isRoom yX7_isRoom) ∈ Gt := gt_mem 24 rfl rfl
set_option maxRecDepth 20000 in
theorem kse_X7_put : (Cond.selects RX7 yX7_put yX7_put) ∈ Gt := gt_mem 25 rfl rfl
set_option maxRecDepth 20000 in
theorem kse_X7_go : (Cond.selects RX7 yX7_go yX7_go) ∈ Gt := gt_mem 26 rfl rfl
set_option maxRecDepth 20000 in
theorem kse_X7_question : (Cond.selects RX7 yX7_question yX7_question) ∈ Gt := gt_mem 27 rfl rfl
set_option maxRecDepth 20000 in
theorem kse_X7_sign : (Cond.selects RX7 yX7_sign yX7_sign) ∈ Gt := gt_mem 28 rfl rfl
set_option maxRecDepth 20000 in
theorem kse_X7_number : (Cond.selects RX7 yX7_number yX7_number) ∈ Gt := gt_mem 29 rfl rfl
set_option maxRecDepth 20000 in
theorem kse_X7_tick : (Cond.selects RX7 yX7_tick yX7_tick) ∈ Gt := gt_mem 30 rfl rfl
set_option maxRecDepth 20000 in
theorem kse_X7_doAll : (Cond.selects RX7 yX7_doAll yX7_doAll) ∈ Gt := gt_mem 31 rfl rfl
set_option maxRecDepth 20000 in
theorem kse_X7_targetThatGoes : (Cond.selects RX7 yX7_targetThatGoes yX7_targetThatGoes) ∈ Gt := gt_mem 32 rfl rfl
set_option maxRecDepth 20000 in
theorem kse_X7_answering : (Cond.selects RX7 yX7_answering yX7_answering) ∈ Gt := gt_mem 33 rfl rfl
set_option maxRecDepth 20000 in
theorem kse_X7_masterThatGoes : (Cond.selects RX7 yX7_masterThatGoes yX7_masterThatGoes) ∈ Gt := gt_mem 34 rfl rfl
set_option maxRecDepth 20000 in
theorem kse_X7_canSend : (Cond.selects RX7 yX7_canSend yX7_canSend) ∈ Gt := gt_mem 35 rfl rfl
set_option maxRecDepth 20000 in
theorem kse_X7_freeTag : (Cond.selects RX7 yX7_freeTag yX7_freeTag) ∈ Gt := gt_mem 36 rfl rfl
set_option maxRecDepth 20000 in
theorem kse_X7_holds : (Cond.selects RX7 yX7_holds yX7_holds) ∈ Gt := gt_mem 37 rfl rfl
set_option maxRecDepth 20000 in
theorem kse_X7_answers : (Cond.selects RX7 yX7_answers yX7_answers) ∈ Gt := gt_mem 38 rfl rfl
set_option maxRecDepth 20000 in
theorem kse_X7_sends : (Cond.selects RX7 yX7_sends yX7_sends) ∈ Gt := gt_mem 39 rfl rfl
set_option maxRecDepth 20000 in
theorem kse_X7_isQuestion : (Cond.selects RX7 yX7_isQuestion yX7_isQuestion) ∈ Gt := gt_mem 40 rfl rfl
set_option maxRecDepth 20000 in
theorem kse_X7_answered : (Cond.selects RX7 yX7_answered yX7_answered) ∈ Gt := gt_mem 41 rfl rfl
set_option maxRecDepth 20000 in
theorem kse_X7_doneIn : (Cond.selects RX7 yX7_doneIn yX7_doneIn) ∈ Gt := gt_mem 42 rfl rfl
set_option maxRecDepth 20000 in
theorem kse_X7_putAside : (Cond.selects RX7 yX7_putAside yX7_putAside) ∈ Gt := gt_mem 43 rfl rfl
set_option maxRecDepth 20000 in
theorem kse_X7_putBack : (Cond.selects RX7 yX7_putBack yX7_putBack) ∈ Gt := gt_mem 44 rfl rfl
set_option maxRecDepth 20000 in
theorem kse_X7_freeTags : (Cond.selects RX7 yX7_freeTags yX7_freeTags) ∈ Gt := gt_mem 45 rfl rfl
set_option maxRecDepth 20000 in
theorem kin_L : (Cond.initialized RL) ∈ Gt := gt_mem 46 rfl rfl
set_option maxRecDepth 20000 in
theorem kin_X6 : (Cond.initialized RX6) ∈ Gt := gt_mem 47 rfl rfl
set_option maxRecDepth 20000 in
theorem kin_X0 : (Cond.initialized RX0) ∈ Gt := gt_mem 48 rfl rfl
set_option maxRecDepth 20000 in
theorem kin_X2 : (Cond.initialized RX2) ∈ Gt := gt_mem 49 rfl rfl
set_option maxRecDepth 20000 in
theorem kin_X1 : (Cond.initialized RX1) ∈ Gt := gt_mem 50 rfl rfl
set_option maxRecDepth 20000 in
theorem kin_X5 : (Cond.initialized RX5) ∈ Gt := gt_mem 51 rfl rfl
set_option maxRecDepth 20000 in
theorem kin_X3 : (Cond.initialized RX3) ∈ Gt := gt_mem 52 rfl rfl
set_option maxRecDepth 20000 in
theorem kin_X4 : (Cond.initialized RX4) ∈ Gt := gt_mem 53 rfl rfl
set_option maxRecDepth 20000 in
theorem kin_X7 : (Cond.initialized RX7) ∈ Gt := gt_mem 54 rfl rfl
set_option maxRecDepth 20000 in
theorem kin_System : (Cond.initialized "java/lang/System") ∈ Gt := gt_mem 55 rfl rfl
set_option maxRecDepth 20000 in
theorem kin_Math : (Cond.initialized "java/lang/Math") ∈ Gt := gt_mem 56 rfl rfl
set_option maxRecDepth 20000 in
theorem kcl_L_7 : (Cond.classLink RL 7 RX6) ∈ Gt := gt_mem 57 rfl rfl
set_option maxRecDepth 20000 in
theorem kia_X6 : (Cond.instantiable RX6 7) ∈ Gt := gt_mem 58 rfl rfl
set_option maxRecDepth 20000 in
theorem kml_L_9 : (Cond.methodLink RL 9 yX6_init) ∈ Gt := gt_mem 59 rfl rfl
set_option maxRecDepth 20000 in
theorem kim_X6_init : (Cond.instanceMethod yX6_init) ∈ Gt := gt_mem 60 rfl rfl
set_option maxRecDepth 20000 in
theorem kco_X6_init : (Cond.code yX6_init cX6_init 2 none) ∈ Gt := gt_mem 61 rfl rfl
set_option maxRecDepth 20000 in
theorem kml_X6_1 : (Cond.methodLink RX6 1 Lib.objectInit) ∈ Gt := gt_mem 62 rfl rfl
set_option maxRecDepth 20000 in
theorem kim_Lib_objectInit : (Cond.instanceMethod Lib.objectInit) ∈ Gt := gt_mem 63 rfl rfl
set_option maxRecDepth 20000 in
theorem kco_objectInit : (Cond.code Lib.objectInit ⟨#[0xb1]⟩ 1 none) ∈ Gt := gt_mem 64 rfl rfl
set_option maxRecDepth 20000 in
theorem kcl_X6_7 : (Cond.classLink RX6 7 RX0) ∈ Gt := gt_mem 65 rfl rfl
set_option maxRecDepth 20000 in
theorem kia_X0 : (Cond.instantiable RX0 15) ∈ Gt := gt_mem 66 rfl rfl
set_option maxRecDepth 20000 in
theorem kml_X6_9 : (Cond.methodLink RX6 9 yX0_init) ∈ Gt := gt_mem 67 rfl rfl
set_option maxRecDepth 20000 in
theorem kim_X0_init : (Cond.instanceMethod yX0_init) ∈ Gt := gt_mem 68 rfl rfl
set_option maxRecDepth 20000 in
theorem kco_X0_init : (Cond.code yX0_init cX0_init 2 none) ∈ Gt := gt_mem 69 rfl rfl
set_option maxRecDepth 20000 in
theorem kml_X0_3 : (Cond.methodLink RX0 3 Lib.objectInit) ∈ Gt := gt_mem 70 rfl rfl
set_option maxRecDepth 20000 in
theorem kcl_X0_18 : (Cond.classLink RX0 18 RX2) ∈ Gt := gt_mem 71 rfl rfl
set_option maxRecDepth 20000 in
theorem kcl_X0_24 : (Cond.classLink RX0 24 RX5) ∈ Gt := gt_mem 73 rfl rfl
set_option maxRecDepth 20000 in
theorem kcl_X0_30 : (Cond.classLink RX0 30 RX3) ∈ Gt := gt_mem 75 rfl rfl
set_option maxRecDepth 20000 in
theorem kia_X2 : (Cond.instantiable RX2 8) ∈ Gt := gt_mem 77 rfl rfl
set_option maxRecDepth 20000 in
theorem kim_X2_init : (Cond.instanceMethod yX2_init) ∈ Gt := gt_mem 79 rfl rfl
set_option maxRecDepth 20000 in
theorem kco_X2_init : (Cond.code yX2_init cX2_init 1 none) ∈ Gt := gt_mem 80 rfl rfl
set_option maxRecDepth 20000 in
theorem kml_X2_3 : (Cond.methodLink RX2 3 Lib.objectInit) ∈ Gt := gt_mem 81 rfl rfl
set_option maxRecDepth 20000 in
theorem kcl_X2_9 : (Cond.classLink RX2 9 RX1) ∈ Gt := gt_mem 82 rfl rfl
set_option maxRecDepth 20000 in
theorem kia_X1 : (Cond.instantiable RX1 2) ∈ Gt := gt_mem 83 rfl rfl
set_option maxRecDepth 20000 in
theorem kim_X1_init : (Cond.instanceMethod yX1_init) ∈ Gt := gt_mem 85 rfl rfl
set_option maxRecDepth 20000 in
theorem kco_X1_init : (Cond.code yX1_init cX1_init 1 none) ∈ Gt := gt_mem 86 rfl rfl
set_option maxRecDepth 20000 in
theorem kml_X1_3 : (Cond.methodLink RX1 3 Lib.objectInit) ∈ Gt := gt_mem 87 rfl rfl
set_option maxRecDepth 20000 in
theorem kfl_X1_9 : (Cond.fieldLink RX1 9 "TagBus$Line" "numbers" "[I") ∈ Gt := gt_mem 88 rfl rfl
set_option maxRecDepth 20000 in
theorem kfl_X1_15 : (Cond.fieldLink RX1 15 "TagBus$Line" "length" "I") ∈ Gt := gt_mem 89 rfl rfl
set_option maxRecDepth 20000 in
theorem kfl_X5_25 : (Cond.fieldLink RX5 25 "TagBus$Line" "length" "I") ∈ Gt := gt_mem 90 rfl rfl
set_option maxRecDepth 20000 in
theorem kfl_X6_125 : (Cond.fieldLink RX6 125 "TagBus$Line" "length" "I") ∈ Gt := gt_mem 91 rfl rfl
set_option maxRecDepth 20000 in
theorem kfl_X0_108 : (Cond.fieldLink RX0 108 "TagBus$Line" "length" "I") ∈ Gt := gt_mem 92 rfl rfl
set_option maxRecDepth 20000 in
theorem kac_int : (Cond.arrayClass Jvm.ClassFile.FieldType.int) ∈ Gt := gt_mem 98 rfl rfl
set_option maxRecDepth 20000 in
theorem kfl_X2_12 : (Cond.fieldLink RX2 12 "TagBus$Master" "row" "LTagBus$Line;") ∈ Gt := gt_mem 99 rfl rfl
set_option maxRecDepth 20000 in
theorem kfl_X6_121 : (Cond.fieldLink RX6 121 "TagBus$Master" "row" "LTagBus$Line;") ∈ Gt := gt_mem 100 rfl rfl
set_option maxRecDepth 20000 in
theorem kfl_X0_98 : (Cond.fieldLink RX0 98 "TagBus$Master" "row" "LTagBus$Line;") ∈ Gt := gt_mem 101 rfl rfl
set_option maxRecDepth 20000 in
theorem kfl_X2_18 : (Cond.fieldLink RX2 18 "TagBus$Master" "share" "I") ∈ Gt := gt_mem 102 rfl rfl
set_option maxRecDepth 20000 in
theorem kfl_X6_62 : (Cond.fieldLink RX6 62 "TagBus$Master" "share" "I") ∈ Gt := gt_mem 103 rfl rfl
set_option maxRecDepth 20000 in
theorem kfl_X0_211 : (Cond.fieldLink RX0 211 "TagBus$Master" "share" "I") ∈ Gt := gt_mem 104 rfl rfl
set_option maxRecDepth 20000 in
theorem kfl_X2_29 : (Cond.fieldLink RX2 29 "TagBus$Master" "holds" "I") ∈ Gt := gt_mem 105 rfl rfl
set_option maxRecDepth 20000 in
theorem kfl_X6_175 : (Cond.fieldLink RX6 175 "TagBus$Master" "holds" "I") ∈ Gt := gt_mem 106 rfl rfl
set_option maxRecDepth 20000 in
theorem kfl_X0_208 : (Cond.fieldLink RX0 208 "TagBus$Master" "holds" "I") ∈ Gt := gt_mem 107 rfl rfl
set_option maxRecDepth 20000 in
theorem kfl_X2_32 : (Cond.fieldLink RX2 32 "TagBus$Master" "refusals" "I") ∈ Gt := gt_mem 108 rfl rfl
set_option maxRecDepth 20000 in
theorem kfl_X6_178 : (Cond.fieldLink RX6 178 "TagBus$Master" "refusals" "I") ∈ Gt := gt_mem 109 rfl rfl
set_option maxRecDepth 20000 in
theorem kfl_X0_231 : (Cond.fieldLink RX0 231 "TagBus$Master" "refusals" "I") ∈ Gt := gt_mem 110 rfl rfl
set_option maxRecDepth 20000 in
theorem kfl_X2_35 : (Cond.fieldLink RX2 35 "TagBus$Master" "notBefore" "I") ∈ Gt := gt_mem 111 rfl rfl
set_option maxRecDepth 20000 in
theorem kfl_X6_179 : (Cond.fieldLink RX6 179 "TagBus$Master" "notBefore" "I") ∈ Gt := gt_mem 112 rfl rfl
set_option maxRecDepth 20000 in
theorem kfl_X0_205 : (Cond.fieldLink RX0 205 "TagBus$Master" "notBefore" "I") ∈ Gt := gt_mem 113 rfl rfl
set_option maxRecDepth 20000 in
theorem kfl_X2_38 : (Cond.fieldLink RX2 38 "TagBus$Master" "waited" "I") ∈ Gt := gt_mem 114 rfl rfl
set_option maxRecDepth 20000 in
theorem kfl_X0_118 : (Cond.fieldLink RX0 118 "TagBus$Master" "waited" "I") ∈ Gt := gt_mem 115 rfl rfl
set_option maxRecDepth 20000 in
theorem kfl_X6_188 : (Cond.fieldLink RX6 188 "TagBus$Master" "waited" "I") ∈ Gt := gt_mem 116 rfl rfl
set_option maxRecDepth 20000 in
theorem kfl_X2_41 : (Cond.fieldLink RX2 41 "TagBus$Master" "answered" "I") ∈ Gt := gt_mem 117 rfl rfl
set_option maxRecDepth 20000 in
theorem kfl_X6_191 : (Cond.fieldLink RX6 191 "TagBus$Master" "answered" "I") ∈ Gt := gt_mem 118 rfl rfl
set_option maxRecDepth 20000 in
theorem kfl_X0_248 : (Cond.fieldLink RX0 248 "TagBus$Master" "answered" "I") ∈ Gt := gt_mem 119 rfl rfl
set_option maxRecDepth 20000 in
theorem kfl_X2_22 : (Cond.fieldLink RX2 22 "TagBus$Master" "longest" "I") ∈ Gt := gt_mem 120 rfl rfl
set_option maxRecDepth 20000 in
theorem kfl_X6_194 : (Cond.fieldLink RX6 194 "TagBus$Master" "longest" "I") ∈ Gt := gt_mem 121 rfl rfl
set_option maxRecDepth 20000 in
theorem kfl_X0_251 : (Cond.fieldLink RX0 251 "TagBus$Master" "longest" "I") ∈ Gt := gt_mem 122 rfl rfl
set_option maxRecDepth 20000 in
theorem kia_X5 : (Cond.instantiable RX5 3) ∈ Gt := gt_mem 140 rfl rfl
set_option maxRecDepth 20000 in
theorem kim_X5_init : (Cond.instanceMethod yX5_init) ∈ Gt := gt_mem 142 rfl rfl
set_option maxRecDepth 20000 in
theorem kco_X5_init : (Cond.code yX5_init cX5_init 1 none) ∈ Gt := gt_mem 143 rfl rfl
set_option maxRecDepth 20000 in
theorem kml_X5_3 : (Cond.methodLink RX5 3 Lib.objectInit) ∈ Gt := gt_mem 144 rfl rfl
set_option maxRecDepth 20000 in
theorem kcl_X5_18 : (Cond.classLink RX5 18 RX1) ∈ Gt := gt_mem 145 rfl rfl
set_option maxRecDepth 20000 in
theorem kfl_X5_9 : (Cond.fieldLink RX5 9 "TagBus$Target" "cells" "[I") ∈ Gt := gt_mem 147 rfl rfl
set_option maxRecDepth 20000 in
theorem kfl_X6_83 : (Cond.fieldLink RX6 83 "TagBus$Target" "cells" "[I") ∈ Gt := gt_mem 148 rfl rfl
set_option maxRecDepth 20000 in
theorem kfl_X5_15 : (Cond.fieldLink RX5 15 "TagBus$Target" "numbers" "[I") ∈ Gt := gt_mem 149 rfl rfl
set_option maxRecDepth 20000 in
theorem kfl_X6_78 : (Cond.fieldLink RX6 78 "TagBus$Target" "numbers" "[I") ∈ Gt := gt_mem 150 rfl rfl
set_option maxRecDepth 20000 in
theorem kfl_X0_184 : (Cond.fieldLink RX0 184 "TagBus$Target" "numbers" "[I") ∈ Gt := gt_mem 151 rfl rfl
set_option maxRecDepth 20000 in
theorem kfl_X5_21 : (Cond.fieldLink RX5 21 "TagBus$Target" "inside" "LTagBus$Line;") ∈ Gt := gt_mem 152 rfl rfl
set_option maxRecDepth 20000 in
theorem kfl_X0_128 : (Cond.fieldLink RX0 128 "TagBus$Target" "inside" "LTagBus$Line;") ∈ Gt := gt_mem 153 rfl rfl
set_option maxRecDepth 20000 in
theorem kfl_X6_205 : (Cond.fieldLink RX6 205 "TagBus$Target" "inside" "LTagBus$Line;") ∈ Gt := gt_mem 154 rfl rfl
set_option maxRecDepth 20000 in
theorem kia_X3 : (Cond.instantiable RX3 11) ∈ Gt := gt_mem 162 rfl rfl
set_option maxRecDepth 20000 in
theorem kim_X3_init : (Cond.instanceMethod yX3_init) ∈ Gt := gt_mem 164 rfl rfl
set_option maxRecDepth 20000 in
theorem kco_X3_init : (Cond.code yX3_init cX3_init 1 none) ∈ Gt := gt_mem 165 rfl rfl
set_option maxRecDepth 20000 in
theorem kml_X3_3 : (Cond.methodLink RX3 3 Lib.objectInit) ∈ Gt := gt_mem 166 rfl rfl
set_option maxRecDepth 20000 in
theorem kfl_X3_9 : (Cond.fieldLink RX3 9 "TagBus$Question" "master" "I") ∈ Gt := gt_mem 167 rfl rfl
set_option maxRecDepth 20000 in
theorem kfl_X4_33 : (Cond.fieldLink RX4 33 "TagBus$Question" "master" "I") ∈ Gt := gt_mem 168 rfl rfl
set_option maxRecDepth 20000 in
theorem kfl_X6_104 : (Cond.fieldLink RX6 104 "TagBus$Question" "master" "I") ∈ Gt := gt_mem 169 rfl rfl
set_option maxRecDepth 20000 in
theorem kfl_X0_138 : (Cond.fieldLink RX0 138 "TagBus$Question" "master" "I") ∈ Gt := gt_mem 170 rfl rfl
set_option maxRecDepth 20000 in
theorem kfl_X3_15 : (Cond.fieldLink RX3 15 "TagBus$Question" "target" "I") ∈ Gt := gt_mem 171 rfl rfl
set_option maxRecDepth 20000 in
theorem kfl_X6_109 : (Cond.fieldLink RX6 109 "TagBus$Question" "target" "I") ∈ Gt := gt_mem 172 rfl rfl
set_option maxRecDepth 20000 in
theorem kfl_X0_214 : (Cond.fieldLink RX0 214 "TagBus$Question" "target" "I") ∈ Gt := gt_mem 173 rfl rfl
set_option maxRecDepth 20000 in
theorem kfl_X3_18 : (Cond.fieldLink RX3 18 "TagBus$Question" "address" "I") ∈ Gt := gt_mem 174 rfl rfl
set_option maxRecDepth 20000 in
theorem kfl_X6_112 : (Cond.fieldLink RX6 112 "TagBus$Question" "address" "I") ∈ Gt := gt_mem 175 rfl rfl
set_option maxRecDepth 20000 in
theorem kfl_X0_147 : (Cond.fieldLink RX0 147 "TagBus$Question" "address" "I") ∈ Gt := gt_mem 176 rfl rfl
set_option maxRecDepth 20000 in
theorem kfl_X3_21 : (Cond.fieldLink RX3 21 "TagBus$Question" "written" "I") ∈ Gt := gt_mem 177 rfl rfl
set_option maxRecDepth 20000 in
theorem kfl_X6_115 : (Cond.fieldLink RX6 115 "TagBus$Question" "written" "I") ∈ Gt := gt_mem 178 rfl rfl
set_option maxRecDepth 20000 in
theorem kfl_X0_150 : (Cond.fieldLink RX0 150 "TagBus$Question" "written" "I") ∈ Gt := gt_mem 179 rfl rfl
set_option maxRecDepth 20000 in
theorem kfl_X3_24 : (Cond.fieldLink RX3 24 "TagBus$Question" "where" "I") ∈ Gt := gt_mem 180 rfl rfl
set_option maxRecDepth 20000 in
theorem kfl_X0_125 : (Cond.fieldLink RX0 125 "TagBus$Question" "where" "I") ∈ Gt := gt_mem 181 rfl rfl
set_option maxRecDepth 20000 in
theorem kfl_X6_157 : (Cond.fieldLink RX6 157 "TagBus$Question" "where" "I") ∈ Gt := gt_mem 182 rfl rfl
set_option maxRecDepth 20000 in
theorem kfl_X3_27 : (Cond.fieldLink RX3 27 "TagBus$Question" "tag" "I") ∈ Gt := gt_mem 183 rfl rfl
set_option maxRecDepth 20000 in
theorem kfl_X6_160 : (Cond.fieldLink RX6 160 "TagBus$Question" "tag" "I") ∈ Gt := gt_mem 184 rfl rfl
set_option maxRecDepth 20000 in
theorem kfl_X0_232 : (Cond.fieldLink RX0 232 "TagBus$Question" "tag" "I") ∈ Gt := gt_mem 185 rfl rfl
set_option maxRecDepth 20000 in
theorem kfl_X3_30 : (Cond.fieldLink RX3 30 "TagBus$Question" "answer" "I") ∈ Gt := gt_mem 186 rfl rfl
set_option maxRecDepth 20000 in
theorem kfl_X0_157 : (Cond.fieldLink RX0 157 "TagBus$Question" "answer" "I") ∈ Gt := gt_mem 187 rfl rfl
set_option maxRecDepth 20000 in
theorem kfl_X6_163 : (Cond.fieldLink RX6 163 "TagBus$Question" "answer" "I") ∈ Gt := gt_mem 188 rfl rfl
set_option maxRecDepth 20000 in
theorem kfl_X3_33 : (Cond.fieldLink RX3 33 "TagBus$Question" "putAt" "I") ∈ Gt := gt_mem 189 rfl rfl
set_option maxRecDepth 20000 in
theorem kfl_X0_238 : (Cond.fieldLink RX0 238 "TagBus$Question" "putAt" "I") ∈ Gt := gt_mem 190 rfl rfl
set_option maxRecDepth 20000 in
theorem kfl_X3_36 : (Cond.fieldLink RX3 36 "TagBus$Question" "doneAt" "I") ∈ Gt := gt_mem 191 rfl rfl
set_option maxRecDepth 20000 in
theorem kfl_X0_144 : (Cond.fieldLink RX0 144 "TagBus$Question" "doneAt" "I") ∈ Gt := gt_mem 192 rfl rfl
set_option maxRecDepth 20000 in
theorem kfl_X3_39 : (Cond.fieldLink RX3 39 "TagBus$Question" "took" "I") ∈ Gt := gt_mem 193 rfl rfl
set_option maxRecDepth 20000 in
theorem kfl_X6_166 : (Cond.fieldLink RX6 166 "TagBus$Question" "took" "I") ∈ Gt := gt_mem 194 rfl rfl
set_option maxRecDepth 20000 in
theorem kfl_X0_241 : (Cond.fieldLink RX0 241 "TagBus$Question" "took" "I") ∈ Gt := gt_mem 195 rfl rfl
set_option maxRecDepth 20000 in
theorem kfl_X3_42 : (Cond.fieldLink RX3 42 "TagBus$Question" "refusals" "I") ∈ Gt := gt_mem 196 rfl rfl
set_option maxRecDepth 20000 in
theorem kfl_X6_169 : (Cond.fieldLink RX6 169 "TagBus$Question" "refusals" "I") ∈ Gt := gt_mem 197 rfl rfl
set_option maxRecDepth 20000 in
theorem kfl_X0_228 : (Cond.fieldLink RX0 228 "TagBus$Question" "refusals" "I") ∈ Gt := gt_mem 198 rfl rfl
set_option maxRecDepth 20000 in
theorem kfl_X0_9 : (Cond.fieldLink RX0 9 "TagBus$Bus" "settings" "[I") ∈ Gt := gt_mem 222 rfl rfl
set_option maxRecDepth 20000 in
theorem kfl_X6_52 : (Cond.fieldLink RX6 52 "TagBus$Bus" "settings" "[I") ∈ Gt := gt_mem 223 rfl rfl
set_option maxRecDepth 20000 in
theorem kfl_X0_15 : (Cond.fieldLink RX0 15 "TagBus$Bus" "lentTo" "[I") ∈ Gt := gt_mem 224 rfl rfl
set_option maxRecDepth 20000 in
theorem kfl_X6_172 : (Cond.fieldLink RX6 172 "TagBus$Bus" "lentTo" "[I") ∈ Gt := gt_mem 225 rfl rfl
set_option maxRecDepth 20000 in
theorem kfl_X0_20 : (Cond.fieldLink RX0 20 "TagBus$Bus" "masters" "[LTagBus$Master;") ∈ Gt := gt_mem 226 rfl rfl
set_option maxRecDepth 20000 in
theorem kfl_X0_26 : (Cond.fieldLink RX0 26 "TagBus$Bus" "targets" "[LTagBus$Target;") ∈ Gt := gt_mem 227 rfl rfl
set_option maxRecDepth 20000 in
theorem kfl_X0_32 : (Cond.fieldLink RX0 32 "TagBus$Bus" "questions" "[LTagBus$Question;") ∈ Gt := gt_mem 228 rfl rfl
set_option maxRecDepth 20000 in
theorem kfl_X0_56 : (Cond.fieldLink RX0 56 "TagBus$Bus" "questionsSoFar" "I") ∈ Gt := gt_mem 229 rfl rfl
set_option maxRecDepth 20000 in
theorem kfl_X6_218 : (Cond.fieldLink RX6 218 "TagBus$Bus" "questionsSoFar" "I") ∈ Gt := gt_mem 230 rfl rfl
set_option maxRecDepth 20000 in
theorem kfl_X0_62 : (Cond.fieldLink RX0 62 "TagBus$Bus" "tick" "I") ∈ Gt := gt_mem 231 rfl rfl
set_option maxRecDepth 20000 in
theorem kfl_X6_134 : (Cond.fieldLink RX6 134 "TagBus$Bus" "tick" "I") ∈ Gt := gt_mem 232 rfl rfl
set_option maxRecDepth 20000 in
theorem kfl_X0_36 : (Cond.fieldLink RX0 36 "TagBus$Bus" "latestTrip" "I") ∈ Gt := gt_mem 233 rfl rfl
set_option maxRecDepth 20000 in
theorem kfl_X6_215 : (Cond.fieldLink RX6 215 "TagBus$Bus" "latestTrip" "I") ∈ Gt := gt_mem 234 rfl rfl
set_option maxRecDepth 20000 in
theorem kfl_X0_65 : (Cond.fieldLink RX0 65 "TagBus$Bus" "turnOfMaster" "I") ∈ Gt := gt_mem 235 rfl rfl
set_option maxRecDepth 20000 in
theorem kfl_X0_68 : (Cond.fieldLink RX0 68 "TagBus$Bus" "turnOfTarget" "I") ∈ Gt := gt_mem 236 rfl rfl
set_option maxRecDepth 20000 in
theorem kfl_X0_71 : (Cond.fieldLink RX0 71 "TagBus$Bus" "answerTrips" "I") ∈ Gt := gt_mem 237 rfl rfl
set_option maxRecDepth 20000 in
theorem kfl_X6_224 : (Cond.fieldLink RX6 224 "TagBus$Bus" "answerTrips" "I") ∈ Gt := gt_mem 238 rfl rfl
set_option maxRecDepth 20000 in
theorem kfl_X0_74 : (Cond.fieldLink RX0 74 "TagBus$Bus" "questionTrips" "I") ∈ Gt := gt_mem 239 rfl rfl
set_option maxRecDepth 20000 in
theorem kfl_X6_227 : (Cond.fieldLink RX6 227 "TagBus$Bus" "questionTrips" "I") ∈ Gt := gt_mem 240 rfl rfl
set_option maxRecDepth 20000 in
theorem kfl_X0_77 : (Cond.fieldLink RX0 77 "TagBus$Bus" "refusedTrips" "I") ∈ Gt := gt_mem 241 rfl rfl
set_option maxRecDepth 20000 in
theorem kfl_X6_230 : (Cond.fieldLink RX6 230 "TagBus$Bus" "refusedTrips" "I") ∈ Gt := gt_mem 242 rfl rfl
set_option maxRecDepth 20000 in
theorem kfl_X0_80 : (Cond.fieldLink RX0 80 "TagBus$Bus" "idleTicks" "I") ∈ Gt := gt_mem 243 rfl rfl
set_option maxRecDepth 20000 in
theorem kfl_X6_233 : (Cond.fieldLink RX6 233 "TagBus$Bus" "idleTicks" "I") ∈ Gt := gt_mem 244 rfl rfl
set_option maxRecDepth 20000 in
theorem kfl_X0_83 : (Cond.fieldLink RX0 83 "TagBus$Bus" "overtakings" "I") ∈ Gt := gt_mem 245 rfl rfl
set_option maxRecDepth 20000 in
theorem kfl_X6_236 : (Cond.fieldLink RX6 236 "TagBus$Bus" "overtakings" "I") ∈ Gt := gt_mem 246 rfl rfl
set_option maxRecDepth 20000 in
theorem kcl_X6_26 : (Cond.classLink RX6 26 RX4) ∈ Gt := gt_mem 279 rfl rfl
set_option maxRecDepth 20000 in
theorem kia_X4 : (Cond.instantiable RX4 5) ∈ Gt := gt_mem 280 rfl rfl
set_option maxRecDepth 20000 in
theorem kml_X6_28 : (Cond.methodLink RX6 28 yX4_init) ∈ Gt := gt_mem 281 rfl rfl
set_option maxRecDepth 20000 in
theorem kim_X4_init : (Cond.instanceMethod yX4_init) ∈ Gt := gt_mem 282 rfl rfl
set_option maxRecDepth 20000 in
theorem kco_X4_init : (Cond.code yX4_init cX4_init 2 none) ∈ Gt := gt_mem 283 rfl rfl
set_option maxRecDepth 20000 in
theorem kml_X4_3 : (Cond.methodLink RX4 3 Lib.objectInit) ∈ Gt := gt_mem 284 rfl rfl
set_option maxRecDepth 20000 in
theorem kcl_X4_15 : (Cond.classLink RX4 15 RX3) ∈ Gt := gt_mem 285 rfl rfl
set_option maxRecDepth 20000 in
theorem kfl_X4_9 : (Cond.fieldLink RX4 9 "TagBus$QuestionText" "signs" "[C") ∈ Gt := gt_mem 287 rfl rfl
set_option maxRecDepth 20000 in
theorem kfl_X4_22 : (Cond.fieldLink RX4 22 "TagBus$QuestionText" "length" "I") ∈ Gt := gt_mem 288 rfl rfl
set_option maxRecDepth 20000 in
theorem kfl_X6_144 : (Cond.fieldLink RX6 144 "TagBus$QuestionText" "length" "I") ∈ Gt := gt_mem 289 rfl rfl
set_option maxRecDepth 20000 in
theorem kfl_X4_17 : (Cond.fieldLink RX4 17 "TagBus$QuestionText" "questions" "[LTagBus$Question;") ∈ Gt := gt_mem 290 rfl rfl
set_option maxRecDepth 20000 in
theorem kfl_X4_30 : (Cond.fieldLink RX4 30 "TagBus$QuestionText" "found" "I") ∈ Gt := gt_mem 291 rfl rfl
set_option maxRecDepth 20000 in
theorem kfl_X6_97 : (Cond.fieldLink RX6 97 "TagBus$QuestionText" "found" "I") ∈ Gt := gt_mem 292 rfl rfl
set_option maxRecDepth 20000 in
theorem kfl_X4_36 : (Cond.fieldLink RX4 36 "TagBus$QuestionText" "at" "I") ∈ Gt := gt_mem 293 rfl rfl
set_option maxRecDepth 20000 in
theorem kac_char : (Cond.arrayClass Jvm.ClassFile.FieldType.char) ∈ Gt := gt_mem 305 rfl rfl
set_option maxRecDepth 20000 in
theorem kfl_X6_10 : (Cond.fieldLink RX6 10 "TagBus" "bus" "LTagBus$Bus;") ∈ Gt := gt_mem 306 rfl rfl
set_option maxRecDepth 20000 in
theorem kfl_X6_16 : (Cond.fieldLink RX6 16 "TagBus" "trial" "LTagBus$Bus;") ∈ Gt := gt_mem 307 rfl rfl
set_option maxRecDepth 20000 in
theorem kfl_X6_19 : (Cond.fieldLink RX6 19 "TagBus" "snapshot" "LTagBus$Bus;") ∈ Gt := gt_mem 308 rfl rfl
set_option maxRecDepth 20000 in
theorem kfl_X6_152 : (Cond.fieldLink RX6 152 "TagBus" "hasSnapshot" "Z") ∈ Gt := gt_mem 309 rfl rfl
set_option maxRecDepth 20000 in
theorem kfl_X6_22 : (Cond.fieldLink RX6 22 "TagBus" "past" "[LTagBus$Bus;") ∈ Gt := gt_mem 310 rfl rfl
set_option maxRecDepth 20000 in
theorem kfl_X6_145 : (Cond.fieldLink RX6 145 "TagBus" "pastCount" "I") ∈ Gt := gt_mem 311 rfl rfl
set_option maxRecDepth 20000 in
theorem kfl_X6_29 : (Cond.fieldLink RX6 29 "TagBus" "text" "LTagBus$QuestionText;") ∈ Gt := gt_mem 312 rfl rfl
set_option maxRecDepth 20000 in
theorem kml_L_13 : (Cond.methodLink RL 13 yX6_set) ∈ Gt := gt_mem 328 rfl rfl
set_option maxRecDepth 20000 in
theorem kim_X6_set : (Cond.instanceMethod yX6_set) ∈ Gt := gt_mem 329 rfl rfl
set_option maxRecDepth 20000 in
theorem kse_X6_set : (Cond.selects RX6 yX6_set yX6_set) ∈ Gt := gt_mem 330 rfl rfl
set_option maxRecDepth 20000 in
theorem kco_X6_set : (Cond.code yX6_set cX6_set 4 (some Jvm.ClassFile.FieldType.int)) ∈ Gt := gt_mem 331 rfl rfl
set_option maxRecDepth 20000 in
theorem kfl_X6_33 : (Cond.fieldLink RX6 33 "TagBus" "LEAST_SETTING" "[I") ∈ Gt := gt_mem 332 rfl rfl
set_option maxRecDepth 20000 in
theorem kml_X6_37 : (Cond.methodLink RX6 37 yX6_isIndex) ∈ Gt := gt_mem 334 rfl rfl
set_option maxRecDepth 20000 in
theorem kst_X6_isIndex : (Cond.static yX6_isIndex) ∈ Gt := gt_mem 335 rfl rfl
set_option maxRecDepth 20000 in
theorem kco_X6_isIndex : (Cond.code yX6_isIndex cX6_isIndex 2 (some Jvm.ClassFile.FieldType.boolean)) ∈ Gt := gt_mem 336 rfl rfl
set_option maxRecDepth 20000 in
theorem kfl_X6_41 : (Cond.fieldLink RX6 41 "TagBus" "MOST_SETTING" "[I") ∈ Gt := gt_mem 337 rfl rfl
set_option maxRecDepth 20000 in
theorem kml_X6_44 : (Cond.methodLink RX6 44 yX6_isBetween) ∈ Gt := gt_mem 339 rfl rfl
set_option maxRecDepth 20000 in
theorem kst_X6_isBetween : (Cond.static yX6_isBetween) ∈ Gt := gt_mem 340 rfl rfl
set_option maxRecDepth 20000 in
theorem kco_X6_isBetween : (Cond.code yX6_isBetween cX6_isBetween 3 (some Jvm.ClassFile.FieldType.boolean)) ∈ Gt := gt_mem 341 rfl rfl
set_option maxRecDepth 20000 in
theorem kml_X6_48 : (Cond.methodLink RX6 48 yX0_highestLentTag) ∈ Gt := gt_mem 342 rfl rfl
set_option maxRecDepth 20000 in
theorem kim_X0_highestLentTag : (Cond.instanceMethod yX0_highestLentTag) ∈ Gt := gt_mem 343 rfl rfl
set_option maxRecDepth 20000 in
theorem kse_X0_highestLentTag : (Cond.selects RX0 yX0_highestLentTag yX0_highestLentTag) ∈ Gt := gt_mem 344 rfl rfl
set_option maxRecDepth 20000 in
theorem kco_X0_highestLentTag : (Cond.code yX0_highestLentTag cX0_highestLentTag 3 (some Jvm.ClassFile.FieldType.int)) ∈ Gt := gt_mem 345 rfl rfl
set_option maxRecDepth 20000 in
theorem kml_X6_55 : (Cond.methodLink RX6 55 yX6_record) ∈ Gt := gt_mem 346 rfl rfl
set_option maxRecDepth 20000 in
theorem kim_X6_record : (Cond.instanceMethod yX6_record) ∈ Gt := gt_mem 348 rfl rfl
set_option maxRecDepth 20000 in
theorem kco_X6_record : (Cond.code yX6_record cX6_record 3 none) ∈ Gt := gt_mem 349 rfl rfl
set_option maxRecDepth 20000 in
theorem kml_X6_148 : (Cond.methodLink RX6 148 yX0_copyFrom) ∈ Gt := gt_mem 350 rfl rfl
set_option maxRecDepth 20000 in
theorem kim_X0_copyFrom : (Cond.instanceMethod yX0_copyFrom) ∈ Gt := gt_mem 351 rfl rfl
set_option maxRecDepth 20000 in
theorem kse_X0_copyFrom : (Cond.selects RX0 yX0_copyFrom yX0_copyFrom) ∈ Gt := gt_mem 352 rfl rfl
set_option maxRecDepth 20000 in
theorem kco_X0_copyFrom : (Cond.code yX0_copyFrom cX0_copyFrom 3 none) ∈ Gt := gt_mem 353 rfl rfl
set_option maxRecDepth 20000 in
theorem kml_X0_43 : (Cond.methodLink RX0 43 arraycopyName) ∈ Gt := gt_mem 354 rfl rfl
set_option maxRecDepth 20000 in
theorem kst_arraycopyName : (Cond.static arraycopyName) ∈ Gt := gt_mem 355 rfl rfl
set_option maxRecDepth 20000 in
theorem kna_arraycopyName : (Cond.native arraycopyName) ∈ Gt := gt_mem 356 rfl rfl
set_option maxRecDepth 20000 in
theorem kml_X0_49 : (Cond.methodLink RX0 49 yX2_copyFrom) ∈ Gt := gt_mem 357 rfl rfl
set_option maxRecDepth 20000 in
theorem kim_X2_copyFrom : (Cond.instanceMethod yX2_copyFrom) ∈ Gt := gt_mem 358 rfl rfl
set_option maxRecDepth 20000 in
theorem kse_X2_copyFrom : (Cond.selects RX2 yX2_copyFrom yX2_copyFrom) ∈ Gt := gt_mem 359 rfl rfl
set_option maxRecDepth 20000 in
theorem kco_X2_copyFrom : (Cond.code yX2_copyFrom cX2_copyFrom 2 none) ∈ Gt := gt_mem 360 rfl rfl
set_option maxRecDepth 20000 in
theorem kml_X2_25 : (Cond.methodLink RX2 25 yX1_copyFrom) ∈ Gt := gt_mem 361 rfl rfl
set_option maxRecDepth 20000 in
theorem kim_X1_copyFrom : (Cond.instanceMethod yX1_copyFrom) ∈ Gt := gt_mem 362 rfl rfl
set_option maxRecDepth 20000 in
theorem kse_X1_copyFrom : (Cond.selects RX1 yX1_copyFrom yX1_copyFrom) ∈ Gt := gt_mem 363 rfl rfl
set_option maxRecDepth 20000 in
theorem kco_X1_copyFrom : (Cond.code yX1_copyFrom cX1_copyFrom 2 none) ∈ Gt := gt_mem 364 rfl rfl
set_option maxRecDepth 20000 in
theorem kml_X1_23 : (Cond.methodLink RX1 23 arraycopyName) ∈ Gt := gt_mem 365 rfl rfl
set_option maxRecDepth 20000 in
theorem kml_X0_53 : (Cond.methodLink RX0 53 yX5_copyFrom) ∈ Gt := gt_mem 366 rfl rfl
set_option maxRecDepth 20000 in
theorem kim_X5_copyFrom : (Cond.instanceMethod yX5_copyFrom) ∈ Gt := gt_mem 367 rfl rfl
set_option maxRecDepth 20000 in
theorem kse_X5_copyFrom : (Cond.selects RX5 yX5_copyFrom yX5_copyFrom) ∈ Gt := gt_mem 368 rfl rfl
set_option maxRecDepth 20000 in
theorem kco_X5_copyFrom : (Cond.code yX5_copyFrom cX5_copyFrom 2 none) ∈ Gt := gt_mem 369 rfl rfl
set_option maxRecDepth 20000 in
theorem kml_X5_33 : (Cond.methodLink RX5 33 arraycopyName) ∈ Gt := gt_mem 370 rfl rfl
set_option maxRecDepth 20000 in
theorem kml_X5_39 : (Cond.methodLink RX5 39 yX1_copyFrom) ∈ Gt := gt_mem 371 rfl rfl
set_option maxRecDepth 20000 in
theorem kml_X0_59 : (Cond.methodLink RX0 59 yX3_copyFrom) ∈ Gt := gt_mem 372 rfl rfl
set_option maxRecDepth 20000 in
theorem kim_X3_copyFrom : (Cond.instanceMethod yX3_copyFrom) ∈ Gt := gt_mem 373 rfl rfl
set_option maxRecDepth 20000 in
theorem kse_X3_copyFrom : (Cond.selects RX3 yX3_copyFrom yX3_copyFrom) ∈ Gt := gt_mem 374 rfl rfl
set_option maxRecDepth 20000 in
theorem kco_X3_copyFrom : (Cond.code yX3_copyFrom cX3_copyFrom 2 none) ∈ Gt := gt_mem 375 rfl rfl
set_option maxRecDepth 20000 in
theorem kml_L_18 : (Cond.methodLink RL 18 yX6_setShare) ∈ Gt := gt_mem 376 rfl rfl
set_option maxRecDepth 20000 in
theorem kim_X6_setShare : (Cond.instanceMethod yX6_setShare) ∈ Gt := gt_mem 377 rfl rfl
set_option maxRecDepth 20000 in
theorem kse_X6_setShare : (Cond.selects RX6 yX6_setShare yX6_setShare) ∈ Gt := gt_mem 378 rfl rfl
set_option maxRecDepth 20000 in
theorem kco_X6_setShare : (Cond.code yX6_setShare cX6_setShare 5 (some Jvm.ClassFile.FieldType.int)) ∈ Gt := gt_mem 379 rfl rfl
set_option maxRecDepth 20000 in
theorem kml_X6_58 : (Cond.methodLink RX6 58 yX0_masterAt) ∈ Gt := gt_mem 380 rfl rfl
set_option maxRecDepth 20000 in
theorem kim_X0_masterAt : (Cond.instanceMethod yX0_masterAt) ∈ Gt := gt_mem 381 rfl rfl
set_option maxRecDepth 20000 in
theorem kse_X0_masterAt : (Cond.selects RX0 yX0_masterAt yX0_masterAt) ∈ Gt := gt_mem 382 rfl rfl
set_option maxRecDepth 20000 in
theorem kco_X0_masterAt : (Cond.code yX0_masterAt cX0_masterAt 2 (some (Jvm.ClassFile.FieldType.object "TagBus$Master"))) ∈ Gt := gt_mem 383 rfl rfl
set_option maxRecDepth 20000 in
theorem kml_L_22 : (Cond.methodLink RL 22 yX6_setTarget) ∈ Gt := gt_mem 385 rfl rfl
set_option maxRecDepth 20000 in
theorem kim_X6_setTarget : (Cond.instanceMethod yX6_setTarget) ∈ Gt := gt_mem 386 rfl rfl
set_option maxRecDepth 20000 in
theorem kse_X6_setTarget : (Cond.selects RX6 yX6_setTarget yX6_setTarget) ∈ Gt := gt_mem 387 rfl rfl
set_option maxRecDepth 20000 in
theorem kco_X6_setTarget : (Cond.code yX6_setTarget cX6_setTarget 6 (some Jvm.ClassFile.FieldType.int)) ∈ Gt := gt_mem 388 rfl rfl
set_option maxRecDepth 20000 in
theorem kml_X6_68 : (Cond.methodLink RX6 68 yX0_targetAt) ∈ Gt := gt_mem 389 rfl rfl
set_option maxRecDepth 20000 in
theorem kim_X0_targetAt : (Cond.instanceMethod yX0_targetAt) ∈ Gt := gt_mem 390 rfl rfl
set_option maxRecDepth 20000 in
theorem kse_X0_targetAt : (Cond.selects RX0 yX0_targetAt yX0_targetAt) ∈ Gt := gt_mem 391 rfl rfl
set_option maxRecDepth 20000 in
theorem kco_X0_targetAt : (Cond.code yX0_targetAt cX0_targetAt 2 (some (Jvm.ClassFile.FieldType.object "TagBus$Target"))) ∈ Gt := gt_mem 392 rfl rfl
set_option maxRecDepth 20000 in
theorem kfl_X6_72 : (Cond.fieldLink RX6 72 "TagBus" "LEAST_OF_TARGET" "[I") ∈ Gt := gt_mem 393 rfl rfl
set_option maxRecDepth 20000 in
theorem kfl_X6_75 : (Cond.fieldLink RX6 75 "TagBus" "MOST_OF_TARGET" "[I") ∈ Gt := gt_mem 395 rfl rfl
set_option maxRecDepth 20000 in
theorem kml_L_27 : (Cond.methodLink RL 27 yX6_setCell) ∈ Gt := gt_mem 397 rfl rfl
set_option maxRecDepth 20000 in
theorem kim_X6_setCell : (Cond.instanceMethod yX6_setCell) ∈ Gt := gt_mem 398 rfl rfl
set_option maxRecDepth 20000 in
theorem kse_X6_setCell : (Cond.selects RX6 yX6_setCell yX6_setCell) ∈ Gt := gt_mem 399 rfl rfl
set_option maxRecDepth 20000 in
theorem kco_X6_setCell : (Cond.code yX6_setCell cX6_setCell 6 (some Jvm.ClassFile.FieldType.int)) ∈ Gt := gt_mem 400 rfl rfl
set_option maxRecDepth 20000 in
theorem kml_L_31 : (Cond.methodLink RL 31 yX6_read) ∈ Gt := gt_mem 401 rfl rfl
set_option maxRecDepth 20000 in
theorem kim_X6_read : (Cond.instanceMethod yX6_read) ∈ Gt := gt_mem 402 rfl rfl
set_option maxRecDepth 20000 in
theorem kse_X6_read : (Cond.selects RX6 yX6_read yX6_read) ∈ Gt := gt_mem 403 rfl rfl
set_option maxRecDepth 20000 in
theorem kco_X6_read : (Cond.code yX6_read cX6_read 4 (some Jvm.ClassFile.FieldType.int)) ∈ Gt := gt_mem 404 rfl rfl
set_option maxRecDepth 20000 in
theorem kml_X6_86 : (Cond.methodLink RX6 86 yX6_putOne) ∈ Gt := gt_mem 405 rfl rfl
set_option maxRecDepth 20000 in
theorem kim_X6_putOne : (Cond.instanceMethod yX6_putOne) ∈ Gt := gt_mem 407 rfl rfl
set_option maxRecDepth 20000 in
theorem kco_X6_putOne : (Cond.code yX6_putOne cX6_putOne 6 (some Jvm.ClassFile.FieldType.int)) ∈ Gt := gt_mem 408 rfl rfl
set_option maxRecDepth 20000 in
theorem kml_X6_118 : (Cond.methodLink RX6 118 yX0_put) ∈ Gt := gt_mem 409 rfl rfl
set_option maxRecDepth 20000 in
theorem kim_X0_put : (Cond.instanceMethod yX0_put) ∈ Gt := gt_mem 410 rfl rfl
set_option maxRecDepth 20000 in
theorem kse_X0_put : (Cond.selects RX0 yX0_put yX0_put) ∈ Gt := gt_mem 411 rfl rfl
set_option maxRecDepth 20000 in
theorem kco_X0_put : (Cond.code yX0_put cX0_put 7 (some Jvm.ClassFile.FieldType.int)) ∈ Gt := gt_mem 412 rfl rfl
set_option maxRecDepth 20000 in
theorem kml_X0_90 : (Cond.methodLink RX0 90 yX0_masterAt) ∈ Gt := gt_mem 413 rfl rfl
set_option maxRecDepth 20000 in
theorem kml_X0_94 : (Cond.methodLink RX0 94 yX3_begin) ∈ Gt := gt_mem 414 rfl rfl
set_option maxRecDepth 20000 in
theorem kim_X3_begin : (Cond.instanceMethod yX3_begin) ∈ Gt := gt_mem 415 rfl rfl
set_option maxRecDepth 20000 in
theorem kse_X3_begin : (Cond.selects RX3 yX3_begin yX3_begin) ∈ Gt := gt_mem 416 rfl rfl
set_option maxRecDepth 20000 in
theorem kco_X3_begin : (Cond.code yX3_begin cX3_begin 6 none) ∈ Gt := gt_mem 417 rfl rfl
set_option maxRecDepth 20000 in
theorem kml_X0_102 : (Cond.methodLink RX0 102 yX1_append) ∈ Gt := gt_mem 418 rfl rfl
set_option maxRecDepth 20000 in
theorem kim_X1_append : (Cond.instanceMethod yX1_append) ∈ Gt := gt_mem 419 rfl rfl
set_option maxRecDepth 20000 in
theorem kse_X1_append : (Cond.selects RX1 yX1_append yX1_append) ∈ Gt := gt_mem 420 rfl rfl
set_option maxRecDepth 20000 in
theorem kco_X1_append : (Cond.code yX1_append cX1_append 2 none) ∈ Gt := gt_mem 421 rfl rfl
set_option maxRecDepth 20000 in
theorem kml_L_35 : (Cond.methodLink RL 35 yX6_write) ∈ Gt := gt_mem 423 rfl rfl
set_option maxRecDepth 20000 in
theorem kim_X6_write : (Cond.instanceMethod yX6_write) ∈ Gt := gt_mem 424 rfl rfl
set_option maxRecDepth 20000 in
theorem kse_X6_write : (Cond.selects RX6 yX6_write yX6_write) ∈ Gt := gt_mem 425 rfl rfl
set_option maxRecDepth 20000 in
theorem kco_X6_write : (Cond.code yX6_write cX6_write 5 (some Jvm.ClassFile.FieldType.int)) ∈ Gt := gt_mem 426 rfl rfl
set_option maxRecDepth 20000 in
theorem kml_L_40 : (Cond.methodLink RL 40 yX6_ask) ∈ Gt := gt_mem 427 rfl rfl
set_option maxRecDepth 20000 in
theorem kim_X6_ask : (Cond.instanceMethod yX6_ask) ∈ Gt := gt_mem 428 rfl rfl
set_option maxRecDepth 20000 in
theorem kse_X6_ask : (Cond.selects RX6 yX6_ask yX6_ask) ∈ Gt := gt_mem 429 rfl rfl
set_option maxRecDepth 20000 in
theorem kco_X6_ask : (Cond.code yX6_ask cX6_ask 4 (some Jvm.ClassFile.FieldType.int)) ∈ Gt := gt_mem 430 rfl rfl
set_option maxRecDepth 20000 in
theorem kml_X6_90 : (Cond.methodLink RX6 90 yX4_findFault) ∈ Gt := gt_mem 431 rfl rfl
set_option maxRecDepth 20000 in
theorem kim_X4_findFault : (Cond.instanceMethod yX4_findFault) ∈ Gt := gt_mem 432 rfl rfl
set_option maxRecDepth 20000 in
theorem kse_X4_findFault : (Cond.selects RX4 yX4_findFault yX4_findFault) ∈ Gt := gt_mem 433 rfl rfl
set_option maxRecDepth 20000 in
theorem kco_X4_findFault : (Cond.code yX4_findFault cX4_findFault 2 (some Jvm.ClassFile.FieldType.int)) ∈ Gt := gt_mem 434 rfl rfl
set_option maxRecDepth 20000 in
theorem kml_X4_39 : (Cond.methodLink RX4 39 yX4_readQuestion) ∈ Gt := gt_mem 435 rfl rfl
set_option maxRecDepth 20000 in
theorem kim_X4_readQuestion : (Cond.instanceMethod yX4_readQuestion) ∈ Gt := gt_mem 437 rfl rfl
set_option maxRecDepth 20000 in
theorem kco_X4_readQuestion : (Cond.code yX4_readQuestion cX4_readQuestion 7 (some Jvm.ClassFile.FieldType.boolean)) ∈ Gt := gt_mem 438 rfl rfl
set_option maxRecDepth 20000 in
theorem kml_X4_47 : (Cond.methodLink RX4 47 yX4_readNumber) ∈ Gt := gt_mem 439 rfl rfl
set_option maxRecDepth 20000 in
theorem kim_X4_readNumber : (Cond.instanceMethod yX4_readNumber) ∈ Gt := gt_mem 441 rfl rfl
set_option maxRecDepth 20000 in
theorem kco_X4_readNumber : (Cond.code yX4_readNumber cX4_readNumber 4 (some Jvm.ClassFile.FieldType.int)) ∈ Gt := gt_mem 442 rfl rfl
set_option maxRecDepth 20000 in
theorem kml_X4_55 : (Cond.methodLink RX4 55 yX4_digitAt) ∈ Gt := gt_mem 443 rfl rfl
set_option maxRecDepth 20000 in
theorem kim_X4_digitAt : (Cond.instanceMethod yX4_digitAt) ∈ Gt := gt_mem 445 rfl rfl
set_option maxRecDepth 20000 in
theorem kco_X4_digitAt : (Cond.code yX4_digitAt cX4_digitAt 3 (some Jvm.ClassFile.FieldType.int)) ∈ Gt := gt_mem 446 rfl rfl
set_option maxRecDepth 20000 in
theorem kml_X4_43 : (Cond.methodLink RX4 43 yX4_skip) ∈ Gt := gt_mem 448 rfl rfl
set_option maxRecDepth 20000 in
theorem kim_X4_skip : (Cond.instanceMethod yX4_skip) ∈ Gt := gt_mem 450 rfl rfl
set_option maxRecDepth 20000 in
theorem kco_X4_skip : (Cond.code yX4_skip cX4_skip 2 (some Jvm.ClassFile.FieldType.boolean)) ∈ Gt := gt_mem 451 rfl rfl
set_option maxRecDepth 20000 in
theorem kml_X4_51 : (Cond.methodLink RX4 51 yX3_begin) ∈ Gt := gt_mem 452 rfl rfl
set_option maxRecDepth 20000 in
theorem kml_X6_93 : (Cond.methodLink RX6 93 yX6_hasRoomForText) ∈ Gt := gt_mem 453 rfl rfl
set_option maxRecDepth 20000 in
theorem kim_X6_hasRoomForText : (Cond.instanceMethod yX6_hasRoomForText) ∈ Gt := gt_mem 455 rfl rfl
set_option maxRecDepth 20000 in
theorem kco_X6_hasRoomForText : (Cond.code yX6_hasRoomForText cX6_hasRoomForText 3 (some Jvm.ClassFile.FieldType.boolean)) ∈ Gt := gt_mem 456 rfl rfl
set_option maxRecDepth 20000 in
theorem kml_X6_239 : (Cond.methodLink RX6 239 yX4_foundOf) ∈ Gt := gt_mem 457 rfl rfl
set_option maxRecDepth 20000 in
theorem kim_X4_foundOf : (Cond.instanceMethod yX4_foundOf) ∈ Gt := gt_mem 458 rfl rfl
set_option maxRecDepth 20000 in
theorem kse_X4_foundOf : (Cond.selects RX4 yX4_foundOf yX4_foundOf) ∈ Gt := gt_mem 459 rfl rfl
set_option maxRecDepth 20000 in
theorem kco_X4_foundOf : (Cond.code yX4_foundOf cX4_foundOf 4 (some Jvm.ClassFile.FieldType.int)) ∈ Gt := gt_mem 460 rfl rfl
set_option maxRecDepth 20000 in
theorem kml_X6_100 : (Cond.methodLink RX6 100 yX4_questionAt) ∈ Gt := gt_mem 461 rfl rfl
set_option maxRecDepth 20000 in
theorem kim_X4_questionAt : (Cond.instanceMethod yX4_questionAt) ∈ Gt := gt_mem 462 rfl rfl
set_option maxRecDepth 20000 in
theorem kse_X4_questionAt : (Cond.selects RX4 yX4_questionAt yX4_questionAt) ∈ Gt := gt_mem 463 rfl rfl
set_option maxRecDepth 20000 in
theorem kco_X4_questionAt : (Cond.code yX4_questionAt cX4_questionAt 2 (some (Jvm.ClassFile.FieldType.object "TagBus$Question"))) ∈ Gt := gt_mem 464 rfl rfl
set_option maxRecDepth 20000 in
theorem kml_L_45 : (Cond.methodLink RL 45 yX6_withdraw) ∈ Gt := gt_mem 465 rfl rfl
set_option maxRecDepth 20000 in
theorem kim_X6_withdraw : (Cond.instanceMethod yX6_withdraw) ∈ Gt := gt_mem 466 rfl rfl
set_option maxRecDepth 20000 in
theorem kse_X6_withdraw : (Cond.selects RX6 yX6_withdraw yX6_withdraw) ∈ Gt := gt_mem 467 rfl rfl
set_option maxRecDepth 20000 in
theorem kco_X6_withdraw : (Cond.code yX6_withdraw cX6_withdraw 3 (some Jvm.ClassFile.FieldType.int)) ∈ Gt := gt_mem 468 rfl rfl
set_option maxRecDepth 20000 in
theorem kml_X6_130 : (Cond.methodLink RX6 130 yX0_takeLastOf) ∈ Gt := gt_mem 469 rfl rfl
set_option maxRecDepth 20000 in
theorem kim_X0_takeLastOf : (Cond.instanceMethod yX0_takeLastOf) ∈ Gt := gt_mem 470 rfl rfl
set_option maxRecDepth 20000 in
theorem kse_X0_takeLastOf : (Cond.selects RX0 yX0_takeLastOf yX0_takeLastOf) ∈ Gt := gt_mem 471 rfl rfl
set_option maxRecDepth 20000 in
theorem kco_X0_takeLastOf : (Cond.code yX0_takeLastOf cX0_takeLastOf 5 (some Jvm.ClassFile.FieldType.int)) ∈ Gt := gt_mem 472 rfl rfl
set_option maxRecDepth 20000 in
theorem kml_X0_111 : (Cond.methodLink RX0 111 yX1_at) ∈ Gt := gt_mem 473 rfl rfl
set_option maxRecDepth 20000 in
theorem kim_X1_at : (Cond.instanceMethod yX1_at) ∈ Gt := gt_mem 474 rfl rfl
set_option maxRecDepth 20000 in
theorem kse_X1_at : (Cond.selects RX1 yX1_at yX1_at) ∈ Gt := gt_mem 475 rfl rfl
set_option maxRecDepth 20000 in
theorem kco_X1_at : (Cond.code yX1_at cX1_at 2 (some Jvm.ClassFile.FieldType.int)) ∈ Gt := gt_mem 476 rfl rfl
set_option maxRecDepth 20000 in
theorem kml_X0_115 : (Cond.methodLink RX0 115 yX1_removeAt) ∈ Gt := gt_mem 477 rfl rfl
set_option maxRecDepth 20000 in
theorem kim_X1_removeAt : (Cond.instanceMethod yX1_removeAt) ∈ Gt := gt_mem 478 rfl rfl
set_option maxRecDepth 20000 in
theorem kse_X1_removeAt : (Cond.selects RX1 yX1_removeAt yX1_removeAt) ∈ Gt := gt_mem 479 rfl rfl
set_option maxRecDepth 20000 in
theorem kco_X1_removeAt : (Cond.code yX1_removeAt cX1_removeAt 3 none) ∈ Gt := gt_mem 480 rfl rfl
set_option maxRecDepth 20000 in
theorem kml_X0_121 : (Cond.methodLink RX0 121 yX0_questionAt) ∈ Gt := gt_mem 481 rfl rfl
set_option maxRecDepth 20000 in
theorem kim_X0_questionAt : (Cond.instanceMethod yX0_questionAt) ∈ Gt := gt_mem 482 rfl rfl
set_option maxRecDepth 20000 in
theorem kse_X0_questionAt : (Cond.selects RX0 yX0_questionAt yX0_questionAt) ∈ Gt := gt_mem 483 rfl rfl
set_option maxRecDepth 20000 in
theorem kco_X0_questionAt : (Cond.code yX0_questionAt cX0_questionAt 2 (some (Jvm.ClassFile.FieldType.object "TagBus$Question"))) ∈ Gt := gt_mem 484 rfl rfl
set_option maxRecDepth 20000 in
theorem kml_L_50 : (Cond.methodLink RL 50 yX6_pass) ∈ Gt := gt_mem 485 rfl rfl
set_option maxRecDepth 20000 in
theorem kim_X6_pass : (Cond.instanceMethod yX6_pass) ∈ Gt := gt_mem 486 rfl rfl
set_option maxRecDepth 20000 in
theorem kse_X6_pass : (Cond.selects RX6 yX6_pass yX6_pass) ∈ Gt := gt_mem 487 rfl rfl
set_option maxRecDepth 20000 in
theorem kco_X6_pass : (Cond.code yX6_pass cX6_pass 4 (some Jvm.ClassFile.FieldType.int)) ∈ Gt := gt_mem 488 rfl rfl
set_option maxRecDepth 20000 in
theorem kml_X6_137 : (Cond.methodLink RX6 137 yX0_passTick) ∈ Gt := gt_mem 489 rfl rfl
set_option maxRecDepth 20000 in
theorem kim_X0_passTick : (Cond.instanceMethod yX0_passTick) ∈ Gt := gt_mem 490 rfl rfl
set_option maxRecDepth 20000 in
theorem kse_X0_passTick : (Cond.selects RX0 yX0_passTick yX0_passTick) ∈ Gt := gt_mem 491 rfl rfl
set_option maxRecDepth 20000 in
theorem kco_X0_passTick : (Cond.code yX0_passTick cX0_passTick 3 (some Jvm.ClassFile.FieldType.int)) ∈ Gt := gt_mem 492 rfl rfl
set_option maxRecDepth 20000 in
theorem kml_X0_131 : (Cond.methodLink RX0 131 yX0_finishQuestions) ∈ Gt := gt_mem 493 rfl rfl
set_option maxRecDepth 20000 in
theorem kim_X0_finishQuestions : (Cond.instanceMethod yX0_finishQuestions) ∈ Gt := gt_mem 495 rfl rfl
set_option maxRecDepth 20000 in
theorem kco_X0_finishQuestions : (Cond.code yX0_finishQuestions cX0_finishQuestions 7 none) ∈ Gt := gt_mem 496 rfl rfl
set_option maxRecDepth 20000 in
theorem kml_X0_153 : (Cond.methodLink RX0 153 yX5_useCell) ∈ Gt := gt_mem 497 rfl rfl
set_option maxRecDepth 20000 in
theorem kim_X5_useCell : (Cond.instanceMethod yX5_useCell) ∈ Gt := gt_mem 498 rfl rfl
set_option maxRecDepth 20000 in
theorem kse_X5_useCell : (Cond.selects RX5 yX5_useCell yX5_useCell) ∈ Gt := gt_mem 499 rfl rfl
set_option maxRecDepth 20000 in
theorem kco_X5_useCell : (Cond.code yX5_useCell cX5_useCell 4 (some Jvm.ClassFile.FieldType.int)) ∈ Gt := gt_mem 500 rfl rfl
set_option maxRecDepth 20000 in
theorem kml_X0_134 : (Cond.methodLink RX0 134 yX0_makeTrip) ∈ Gt := gt_mem 502 rfl rfl
set_option maxRecDepth 20000 in
theorem kim_X0_makeTrip : (Cond.instanceMethod yX0_makeTrip) ∈ Gt := gt_mem 504 rfl rfl
set_option maxRecDepth 20000 in
theorem kco_X0_makeTrip : (Cond.code yX0_makeTrip cX0_makeTrip 3 (some Jvm.ClassFile.FieldType.int)) ∈ Gt := gt_mem 505 rfl rfl
set_option maxRecDepth 20000 in
theorem kml_X0_160 : (Cond.methodLink RX0 160 yX0_targetThatAnswers) ∈ Gt := gt_mem 506 rfl rfl
set_option maxRecDepth 20000 in
theorem kim_X0_targetThatAnswers : (Cond.instanceMethod yX0_targetThatAnswers) ∈ Gt := gt_mem 508 rfl rfl
set_option maxRecDepth 20000 in
theorem kco_X0_targetThatAnswers : (Cond.code yX0_targetThatAnswers cX0_targetThatAnswers 4 (some Jvm.ClassFile.FieldType.int)) ∈ Gt := gt_mem 509 rfl rfl
set_option maxRecDepth 20000 in
theorem kml_X0_176 : (Cond.methodLink RX0 176 yX0_targetAt) ∈ Gt := gt_mem 510 rfl rfl
set_option maxRecDepth 20000 in
theorem kml_X0_180 : (Cond.methodLink RX0 180 yX0_placeOfAnswer) ∈ Gt := gt_mem 511 rfl rfl
set_option maxRecDepth 20000 in
theorem kim_X0_placeOfAnswer : (Cond.instanceMethod yX0_placeOfAnswer) ∈ Gt := gt_mem 512 rfl rfl
set_option maxRecDepth 20000 in
theorem kse_X0_placeOfAnswer : (Cond.selects RX0 yX0_placeOfAnswer yX0_placeOfAnswer) ∈ Gt := gt_mem 513 rfl rfl
set_option maxRecDepth 20000 in
theorem kco_X0_placeOfAnswer : (Cond.code yX0_placeOfAnswer cX0_placeOfAnswer 8 (some Jvm.ClassFile.FieldType.int)) ∈ Gt := gt_mem 514 rfl rfl
set_option maxRecDepth 20000 in
theorem kml_X0_187 : (Cond.methodLink RX0 187 Lib.Math.min.name) ∈ Gt := gt_mem 515 rfl rfl
set_option maxRecDepth 20000 in
theorem kst_Lib_Math_min_name : (Cond.static Lib.Math.min.name) ∈ Gt := gt_mem 516 rfl rfl
set_option maxRecDepth 20000 in
theorem kco_Lib_Math_min_name : (Cond.code Lib.Math.min.name Lib.Math.min.code 2 (some Jvm.ClassFile.FieldType.int)) ∈ Gt := gt_mem 517 rfl rfl
set_option maxRecDepth 20000 in
theorem kml_X0_163 : (Cond.methodLink RX0 163 yX0_masterThatSends) ∈ Gt := gt_mem 518 rfl rfl
set_option maxRecDepth 20000 in
theorem kim_X0_masterThatSends : (Cond.instanceMethod yX0_masterThatSends) ∈ Gt := gt_mem 520 rfl rfl
set_option maxRecDepth 20000 in
theorem kco_X0_masterThatSends : (Cond.code yX0_masterThatSends cX0_masterThatSends 5 (some Jvm.ClassFile.FieldType.int)) ∈ Gt := gt_mem 521 rfl rfl
set_option maxRecDepth 20000 in
theorem kml_X0_192 : (Cond.methodLink RX0 192 yX0_lowestFreeTag) ∈ Gt := gt_mem 522 rfl rfl
set_option maxRecDepth 20000 in
theorem kim_X0_lowestFreeTag : (Cond.instanceMethod yX0_lowestFreeTag) ∈ Gt := gt_mem 523 rfl rfl
set_option maxRecDepth 20000 in
theorem kse_X0_lowestFreeTag : (Cond.selects RX0 yX0_lowestFreeTag yX0_lowestFreeTag) ∈ Gt := gt_mem 524 rfl rfl
set_option maxRecDepth 20000 in
theorem kco_X0_lowestFreeTag : (Cond.code yX0_lowestFreeTag cX0_lowestFreeTag 2 (some Jvm.ClassFile.FieldType.int)) ∈ Gt := gt_mem 525 rfl rfl
set_option maxRecDepth 20000 in
theorem kml_X0_195 : (Cond.methodLink RX0 195 yX0_masterThatWaitedTooLong) ∈ Gt := gt_mem 526 rfl rfl
set_option maxRecDepth 20000 in
theorem kim_X0_masterThatWaitedTooLong : (Cond.instanceMethod yX0_masterThatWaitedTooLong) ∈ Gt := gt_mem 528 rfl rfl
set_option maxRecDepth 20000 in
theorem kco_X0_masterThatWaitedTooLong : (Cond.code yX0_masterThatWaitedTooLong cX0_masterThatWaitedTooLong 5 (some Jvm.ClassFile.FieldType.int)) ∈ Gt := gt_mem 529 rfl rfl
set_option maxRecDepth 20000 in
theorem kml_X0_198 : (Cond.methodLink RX0 198 yX0_maySend) ∈ Gt := gt_mem 530 rfl rfl
set_option maxRecDepth 20000 in
theorem kim_X0_maySend : (Cond.instanceMethod yX0_maySend) ∈ Gt := gt_mem 532 rfl rfl
set_option maxRecDepth 20000 in
theorem kco_X0_maySend : (Cond.code yX0_maySend cX0_maySend 2 (some Jvm.ClassFile.FieldType.boolean)) ∈ Gt := gt_mem 533 rfl rfl
set_option maxRecDepth 20000 in
theorem kml_X0_202 : (Cond.methodLink RX0 202 yX0_isOutOfPatience) ∈ Gt := gt_mem 534 rfl rfl
set_option maxRecDepth 20000 in
theorem kim_X0_isOutOfPatience : (Cond.instanceMethod yX0_isOutOfPatience) ∈ Gt := gt_mem 535 rfl rfl
set_option maxRecDepth 20000 in
theorem kse_X0_isOutOfPatience : (Cond.selects RX0 yX0_isOutOfPatience yX0_isOutOfPatience) ∈ Gt := gt_mem 536 rfl rfl
set_option maxRecDepth 20000 in
theorem kco_X0_isOutOfPatience : (Cond.code yX0_isOutOfPatience cX0_isOutOfPatience 2 (some Jvm.ClassFile.FieldType.boolean)) ∈ Gt := gt_mem 537 rfl rfl
set_option maxRecDepth 20000 in
theorem kml_X0_166 : (Cond.methodLink RX0 166 yX0_prefersAnswer) ∈ Gt := gt_mem 538 rfl rfl
set_option maxRecDepth 20000 in
theorem kim_X0_prefersAnswer : (Cond.instanceMethod yX0_prefersAnswer) ∈ Gt := gt_mem 540 rfl rfl
set_option maxRecDepth 20000 in
theorem kco_X0_prefersAnswer : (Cond.code yX0_prefersAnswer cX0_prefersAnswer 2 (some Jvm.ClassFile.FieldType.boolean)) ∈ Gt := gt_mem 541 rfl rfl
set_option maxRecDepth 20000 in
theorem kml_X0_170 : (Cond.methodLink RX0 170 yX0_sendAnswerOf) ∈ Gt := gt_mem 542 rfl rfl
set_option maxRecDepth 20000 in
theorem kim_X0_sendAnswerOf : (Cond.instanceMethod yX0_sendAnswerOf) ∈ Gt := gt_mem 544 rfl rfl
set_option maxRecDepth 20000 in
theorem kco_X0_sendAnswerOf : (Cond.code yX0_sendAnswerOf cX0_sendAnswerOf 6 (some Jvm.ClassFile.FieldType.int)) ∈ Gt := gt_mem 545 rfl rfl
set_option maxRecDepth 20000 in
theorem kml_X0_235 : (Cond.methodLink RX0 235 yX0_takeTagBack) ∈ Gt := gt_mem 546 rfl rfl
set_option maxRecDepth 20000 in
theorem kim_X0_takeTagBack : (Cond.instanceMethod yX0_takeTagBack) ∈ Gt := gt_mem 548 rfl rfl
set_option maxRecDepth 20000 in
theorem kco_X0_takeTagBack : (Cond.code yX0_takeTagBack cX0_takeTagBack 2 none) ∈ Gt := gt_mem 549 rfl rfl
set_option maxRecDepth 20000 in
theorem kml_X0_244 : (Cond.methodLink RX0 244 yX0_noteAnswer) ∈ Gt := gt_mem 550 rfl rfl
set_option maxRecDepth 20000 in
theorem kim_X0_noteAnswer : (Cond.instanceMethod yX0_noteAnswer) ∈ Gt := gt_mem 552 rfl rfl
set_option maxRecDepth 20000 in
theorem kco_X0_noteAnswer : (Cond.code yX0_noteAnswer cX0_noteAnswer 3 none) ∈ Gt := gt_mem 553 rfl rfl
set_option maxRecDepth 20000 in
theorem kml_X0_254 : (Cond.methodLink RX0 254 Lib.Math.max.name) ∈ Gt := gt_mem 554 rfl rfl
set_option maxRecDepth 20000 in
theorem kst_Lib_Math_max_name : (Cond.static Lib.Math.max.name) ∈ Gt := gt_mem 555 rfl rfl
set_option maxRecDepth 20000 in
theorem kco_Lib_Math_max_name : (Cond.code Lib.Math.max.name Lib.Math.max.code 2 (some Jvm.ClassFile.FieldType.int)) ∈ Gt := gt_mem 556 rfl rfl
set_option maxRecDepth 20000 in
theorem kml_X0_173 : (Cond.methodLink RX0 173 yX0_sendQuestionOf) ∈ Gt := gt_mem 557 rfl rfl
set_option maxRecDepth 20000 in
theorem kim_X0_sendQuestionOf : (Cond.instanceMethod yX0_sendQuestionOf) ∈ Gt := gt_mem 559 rfl rfl
set_option maxRecDepth 20000 in
theorem kco_X0_sendQuestionOf : (Cond.code yX0_sendQuestionOf cX0_sendQuestionOf 6 (some Jvm.ClassFile.FieldType.int)) ∈ Gt := gt_mem 560 rfl rfl
set_option maxRecDepth 20000 in
theorem kml_X0_217 : (Cond.methodLink RX0 217 yX5_isFull) ∈ Gt := gt_mem 561 rfl rfl
set_option maxRecDepth 20000 in
theorem kim_X5_isFull : (Cond.instanceMethod yX5_isFull) ∈ Gt := gt_mem 562 rfl rfl
set_option maxRecDepth 20000 in
theorem kse_X5_isFull : (Cond.selects RX5 yX5_isFull yX5_isFull) ∈ Gt := gt_mem 563 rfl rfl
set_option maxRecDepth 20000 in
theorem kco_X5_isFull : (Cond.code yX5_isFull cX5_isFull 1 (some Jvm.ClassFile.FieldType.boolean)) ∈ Gt := gt_mem 564 rfl rfl
set_option maxRecDepth 20000 in
theorem kml_X0_220 : (Cond.methodLink RX0 220 yX0_refuse) ∈ Gt := gt_mem 565 rfl rfl
set_option maxRecDepth 20000 in
theorem kim_X0_refuse : (Cond.instanceMethod yX0_refuse) ∈ Gt := gt_mem 567 rfl rfl
set_option maxRecDepth 20000 in
theorem kco_X0_refuse : (Cond.code yX0_refuse cX0_refuse 4 none) ∈ Gt := gt_mem 568 rfl rfl
set_option maxRecDepth 20000 in
theorem kml_X0_224 : (Cond.methodLink RX0 224 yX0_letIn) ∈ Gt := gt_mem 569 rfl rfl
set_option maxRecDepth 20000 in
theorem kim_X0_letIn : (Cond.instanceMethod yX0_letIn) ∈ Gt := gt_mem 571 rfl rfl
set_option maxRecDepth 20000 in
theorem kco_X0_letIn : (Cond.code yX0_letIn cX0_letIn 6 none) ∈ Gt := gt_mem 572 rfl rfl
set_option maxRecDepth 20000 in
theorem kml_X0_141 : (Cond.methodLink RX0 141 yX0_countWaits) ∈ Gt := gt_mem 573 rfl rfl
set_option maxRecDepth 20000 in
theorem kim_X0_countWaits : (Cond.instanceMethod yX0_countWaits) ∈ Gt := gt_mem 575 rfl rfl
set_option maxRecDepth 20000 in
theorem kco_X0_countWaits : (Cond.code yX0_countWaits cX0_countWaits 4 none) ∈ Gt := gt_mem 576 rfl rfl
set_option maxRecDepth 20000 in
theorem kml_L_54 : (Cond.methodLink RL 54 yX6_type) ∈ Gt := gt_mem 577 rfl rfl
set_option maxRecDepth 20000 in
theorem kim_X6_type : (Cond.instanceMethod yX6_type) ∈ Gt := gt_mem 578 rfl rfl
set_option maxRecDepth 20000 in
theorem kse_X6_type : (Cond.selects RX6 yX6_type yX6_type) ∈ Gt := gt_mem 579 rfl rfl
set_option maxRecDepth 20000 in
theorem kco_X6_type : (Cond.code yX6_type cX6_type 2 (some Jvm.ClassFile.FieldType.int)) ∈ Gt := gt_mem 580 rfl rfl
set_option maxRecDepth 20000 in
theorem kml_X6_140 : (Cond.methodLink RX6 140 yX4_append) ∈ Gt := gt_mem 581 rfl rfl
set_option maxRecDepth 20000 in
theorem kim_X4_append : (Cond.instanceMethod yX4_append) ∈ Gt := gt_mem 582 rfl rfl
set_option maxRecDepth 20000 in
theorem kse_X4_append : (Cond.selects RX4 yX4_append yX4_append) ∈ Gt := gt_mem 583 rfl rfl
set_option maxRecDepth 20000 in
theorem kco_X4_append : (Cond.code yX4_append cX4_append 2 (some Jvm.ClassFile.FieldType.boolean)) ∈ Gt := gt_mem 584 rfl rfl
set_option maxRecDepth 20000 in
theorem kml_L_59 : (Cond.methodLink RL 59 yX6_clearText) ∈ Gt := gt_mem 585 rfl rfl
set_option maxRecDepth 20000 in
theorem kim_X6_clearText : (Cond.instanceMethod yX6_clearText) ∈ Gt := gt_mem 586 rfl rfl
set_option maxRecDepth 20000 in
theorem kse_X6_clearText : (Cond.selects RX6 yX6_clearText yX6_clearText) ∈ Gt := gt_mem 587 rfl rfl
set_option maxRecDepth 20000 in
theorem kco_X6_clearText : (Cond.code yX6_clearText cX6_clearText 2 (some Jvm.ClassFile.FieldType.int)) ∈ Gt := gt_mem 588 rfl rfl
set_option maxRecDepth 20000 in
theorem kml_L_63 : (Cond.methodLink RL 63 yX6_undo) ∈ Gt := gt_mem 589 rfl rfl
set_option maxRecDepth 20000 in
theorem kim_X6_undo : (Cond.instanceMethod yX6_undo) ∈ Gt := gt_mem 590 rfl rfl
set_option maxRecDepth 20000 in
theorem kse_X6_undo : (Cond.selects RX6 yX6_undo yX6_undo) ∈ Gt := gt_mem 591 rfl rfl
set_option maxRecDepth 20000 in
theorem kco_X6_undo : (Cond.code yX6_undo cX6_undo 2 (some Jvm.ClassFile.FieldType.int)) ∈ Gt := gt_mem 592 rfl rfl
set_option maxRecDepth 20000 in
theorem kml_L_67 : (Cond.methodLink RL 67 yX6_keep) ∈ Gt := gt_mem 593 rfl rfl
set_option maxRecDepth 20000 in
theorem kim_X6_keep : (Cond.instanceMethod yX6_keep) ∈ Gt := gt_mem 594 rfl rfl
set_option maxRecDepth 20000 in
theorem kse_X6_keep : (Cond.selects RX6 yX6_keep yX6_keep) ∈ Gt := gt_mem 595 rfl rfl
set_option maxRecDepth 20000 in
theorem kco_X6_keep : (Cond.code yX6_keep cX6_keep 1 (some Jvm.ClassFile.FieldType.int)) ∈ Gt := gt_mem 596 rfl rfl
set_option maxRecDepth 20000 in
theorem kml_L_71 : (Cond.methodLink RL 71 yX6_restore) ∈ Gt := gt_mem 597 rfl rfl
set_option maxRecDepth 20000 in
theorem kim_X6_restore : (Cond.instanceMethod yX6_restore) ∈ Gt := gt_mem 598 rfl rfl
set_option maxRecDepth 20000 in
theorem kse_X6_restore : (Cond.selects RX6 yX6_restore yX6_restore) ∈ Gt := gt_mem 599 rfl rfl
set_option maxRecDepth 20000 in
theorem kco_X6_restore : (Cond.code yX6_restore cX6_restore 1 (some Jvm.ClassFile.FieldType.int)) ∈ Gt := gt_mem 600 rfl rfl
set_option maxRecDepth 20000 in
theorem kml_L_75 : (Cond.methodLink RL 75 yX6_question) ∈ Gt := gt_mem 601 rfl rfl
set_option maxRecDepth 20000 in
theorem kim_X6_question : (Cond.instanceMethod yX6_question) ∈ Gt := gt_mem 602 rfl rfl
set_option maxRecDepth 20000 in
theorem kse_X6_question : (Cond.selects RX6 yX6_question yX6_question) ∈ Gt := gt_mem 603 rfl rfl
set_option maxRecDepth 20000 in
theorem kco_X6_question : (Cond.code yX6_question cX6_question 4 (some Jvm.ClassFile.FieldType.int)) ∈ Gt := gt_mem 604 rfl rfl
set_option maxRecDepth 20000 in
theorem kml_X6_156 : (Cond.methodLink RX6 156 yX0_questionAt) ∈ Gt := gt_mem 605 rfl rfl
set_option maxRecDepth 20000 in
theorem kml_L_79 : (Cond.methodLink RL 79 yX6_tag) ∈ Gt := gt_mem 606 rfl rfl
set_option maxRecDepth 20000 in
theorem kim_X6_tag : (Cond.instanceMethod yX6_tag) ∈ Gt := gt_mem 607 rfl rfl
set_option maxRecDepth 20000 in
theorem kse_X6_tag : (Cond.selects RX6 yX6_tag yX6_tag) ∈ Gt := gt_mem 608 rfl rfl
set_option maxRecDepth 20000 in
theorem kco_X6_tag : (Cond.code yX6_tag cX6_tag 2 (some Jvm.ClassFile.FieldType.int)) ∈ Gt := gt_mem 609 rfl rfl
set_option maxRecDepth 20000 in
theorem kml_L_83 : (Cond.methodLink RL 83 yX6_master) ∈ Gt := gt_mem 610 rfl rfl
set_option maxRecDepth 20000 in
theorem kim_X6_master : (Cond.instanceMethod yX6_master) ∈ Gt := gt_mem 611 rfl rfl
set_option maxRecDepth 20000 in
theorem kse_X6_master : (Cond.selects RX6 yX6_master yX6_master) ∈ Gt := gt_mem 612 rfl rfl
set_option maxRecDepth 20000 in
theorem kco_X6_master : (Cond.code yX6_master cX6_master 4 (some Jvm.ClassFile.FieldType.int)) ∈ Gt := gt_mem 613 rfl rfl
set_option maxRecDepth 20000 in
theorem kml_X6_182 : (Cond.methodLink RX6 182 Lib.Math.max.name) ∈ Gt := gt_mem 614 rfl rfl
set_option maxRecDepth 20000 in
theorem kml_X6_197 : (Cond.methodLink RX6 197 yX0_isOutOfPatience) ∈ Gt := gt_mem 615 rfl rfl
set_option maxRecDepth 20000 in
theorem kml_L_87 : (Cond.methodLink RL 87 yX6_row) ∈ Gt := gt_mem 616 rfl rfl
set_option maxRecDepth 20000 in
theorem kim_X6_row : (Cond.instanceMethod yX6_row) ∈ Gt := gt_mem 617 rfl rfl
set_option maxRecDepth 20000 in
theorem kse_X6_row : (Cond.selects RX6 yX6_row yX6_row) ∈ Gt := gt_mem 618 rfl rfl
set_option maxRecDepth 20000 in
theorem kco_X6_row : (Cond.code yX6_row cX6_row 4 (some Jvm.ClassFile.FieldType.int)) ∈ Gt := gt_mem 619 rfl rfl
set_option maxRecDepth 20000 in
theorem kml_X6_201 : (Cond.methodLink RX6 201 yX1_at) ∈ Gt := gt_mem 620 rfl rfl
set_option maxRecDepth 20000 in
theorem kml_L_91 : (Cond.methodLink RL 91 yX6_target) ∈ Gt := gt_mem 621 rfl rfl
set_option maxRecDepth 20000 in
theorem kim_X6_target : (Cond.instanceMethod yX6_target) ∈ Gt := gt_mem 622 rfl rfl
set_option maxRecDepth 20000 in
theorem kse_X6_target : (Cond.selects RX6 yX6_target yX6_target) ∈ Gt := gt_mem 623 rfl rfl
set_option maxRecDepth 20000 in
theorem kco_X6_target : (Cond.code yX6_target cX6_target 4 (some Jvm.ClassFile.FieldType.int)) ∈ Gt := gt_mem 624 rfl rfl
set_option maxRecDepth 20000 in
theorem kml_X6_208 : (Cond.methodLink RX6 208 yX0_doneIn) ∈ Gt := gt_mem 625 rfl rfl
set_option maxRecDepth 20000 in
theorem kim_X0_doneIn : (Cond.instanceMethod yX0_doneIn) ∈ Gt := gt_mem 626 rfl rfl
set_option maxRecDepth 20000 in
theorem kse_X0_doneIn : (Cond.selects RX0 yX0_doneIn yX0_doneIn) ∈ Gt := gt_mem 627 rfl rfl
set_option maxRecDepth 20000 in
theorem kco_X0_doneIn : (Cond.code yX0_doneIn cX0_doneIn 5 (some Jvm.ClassFile.FieldType.int)) ∈ Gt := gt_mem 628 rfl rfl
set_option maxRecDepth 20000 in
theorem kml_X6_212 : (Cond.methodLink RX6 212 yX0_placeOfAnswer) ∈ Gt := gt_mem 629 rfl rfl
set_option maxRecDepth 20000 in
theorem kml_L_95 : (Cond.methodLink RL 95 yX6_cell) ∈ Gt := gt_mem 630 rfl rfl
set_option maxRecDepth 20000 in
theorem kim_X6_cell : (Cond.instanceMethod yX6_cell) ∈ Gt := gt_mem 631 rfl rfl
set_option maxRecDepth 20000 in
theorem kse_X6_cell : (Cond.selects RX6 yX6_cell yX6_cell) ∈ Gt := gt_mem 632 rfl rfl
set_option maxRecDepth 20000 in
theorem kco_X6_cell : (Cond.code yX6_cell cX6_cell 4 (some Jvm.ClassFile.FieldType.int)) ∈ Gt := gt_mem 633 rfl rfl
set_option maxRecDepth 20000 in
theorem kml_L_99 : (Cond.methodLink RL 99 yX6_next) ∈ Gt := gt_mem 634 rfl rfl
set_option maxRecDepth 20000 in
theorem kim_X6_next : (Cond.instanceMethod yX6_next) ∈ Gt := gt_mem 635 rfl rfl
set_option maxRecDepth 20000 in
theorem kse_X6_next : (Cond.selects RX6 yX6_next yX6_next) ∈ Gt := gt_mem 636 rfl rfl
set_option maxRecDepth 20000 in
theorem kco_X6_next : (Cond.code yX6_next cX6_next 3 (some Jvm.ClassFile.FieldType.int)) ∈ Gt := gt_mem 637 rfl rfl
set_option maxRecDepth 20000 in
theorem kml_L_103 : (Cond.methodLink RL 103 yX6_answeredIn) ∈ Gt := gt_mem 638 rfl rfl
set_option maxRecDepth 20000 in
theorem kim_X6_answeredIn : (Cond.instanceMethod yX6_answeredIn) ∈ Gt := gt_mem 639 rfl rfl
set_option maxRecDepth 20000 in
theorem kse_X6_answeredIn : (Cond.selects RX6 yX6_answeredIn yX6_answeredIn) ∈ Gt := gt_mem 640 rfl rfl
set_option maxRecDepth 20000 in
theorem kco_X6_answeredIn : (Cond.code yX6_answeredIn cX6_answeredIn 4 (some Jvm.ClassFile.FieldType.int)) ∈ Gt := gt_mem 641 rfl rfl
set_option maxRecDepth 20000 in
theorem kml_L_107 : (Cond.methodLink RL 107 yX6_count) ∈ Gt := gt_mem 642 rfl rfl
set_option maxRecDepth 20000 in
theorem kim_X6_count : (Cond.instanceMethod yX6_count) ∈ Gt := gt_mem 643 rfl rfl
set_option maxRecDepth 20000 in
theorem kse_X6_count : (Cond.selects RX6 yX6_count yX6_count) ∈ Gt := gt_mem 644 rfl rfl
set_option maxRecDepth 20000 in
theorem kco_X6_count : (Cond.code yX6_count cX6_count 2 (some Jvm.ClassFile.FieldType.int)) ∈ Gt := gt_mem 645 rfl rfl
set_option maxRecDepth 20000 in
theorem kml_X6_221 : (Cond.methodLink RX6 221 yX0_freeTags) ∈ Gt := gt_mem 646 rfl rfl
set_option maxRecDepth 20000 in
theorem kim_X0_freeTags : (Cond.instanceMethod yX0_freeTags) ∈ Gt := gt_mem 647 rfl rfl
set_option maxRecDepth 20000 in
theorem kse_X0_freeTags : (Cond.selects RX0 yX0_freeTags yX0_freeTags) ∈ Gt := gt_mem 648 rfl rfl
set_option maxRecDepth 20000 in
theorem kco_X0_freeTags : (Cond.code yX0_freeTags cX0_freeTags 3 (some Jvm.ClassFile.FieldType.int)) ∈ Gt := gt_mem 649 rfl rfl
set_option maxRecDepth 20000 in
theorem kcl_L_10 : (Cond.classLink RL 10 RX7) ∈ Gt := gt_mem 650 rfl rfl
set_option maxRecDepth 20000 in
theorem kia_X7 : (Cond.instantiable RX7 13) ∈ Gt := gt_mem 651 rfl rfl
set_option maxRecDepth 20000 in
theorem kml_L_12 : (Cond.methodLink RL 12 yX7_init) ∈ Gt := gt_mem 652 rfl rfl
set_option maxRecDepth 20000 in
theorem kim_X7_init : (Cond.instanceMethod yX7_init) ∈ Gt := gt_mem 653 rfl rfl
set_option maxRecDepth 20000 in
theorem kco_X7_init : (Cond.code yX7_init cX7_init 2 none) ∈ Gt := gt_mem 654 rfl rfl
set_option maxRecDepth 20000 in
theorem kml_X7_1 : (Cond.methodLink RX7 1 Lib.objectInit) ∈ Gt := gt_mem 655 rfl rfl
set_option maxRecDepth 20000 in
theorem kml_X7_31 : (Cond.methodLink RX7 31 yX7_ofMaster) ∈ Gt := gt_mem 656 rfl rfl
set_option maxRecDepth 20000 in
theorem kst_X7_ofMaster : (Cond.static yX7_ofMaster) ∈ Gt := gt_mem 657 rfl rfl
set_option maxRecDepth 20000 in
theorem kco_X7_ofMaster : (Cond.code yX7_ofMaster cX7_ofMaster 2 (some Jvm.ClassFile.FieldType.int)) ∈ Gt := gt_mem 658 rfl rfl
set_option maxRecDepth 20000 in
theorem kml_X7_35 : (Cond.methodLink RX7 35 yX7_ofTarget) ∈ Gt := gt_mem 659 rfl rfl
set_option maxRecDepth 20000 in
theorem kst_X7_ofTarget : (Cond.static yX7_ofTarget) ∈ Gt := gt_mem 660 rfl rfl
set_option maxRecDepth 20000 in
theorem kco_X7_ofTarget : (Cond.code yX7_ofTarget cX7_ofTarget 2 (some Jvm.ClassFile.FieldType.int)) ∈ Gt := gt_mem 661 rfl rfl
set_option maxRecDepth 20000 in
theorem kfl_X7_7 : (Cond.fieldLink RX7 7 "TagBusModel" "s" "[I") ∈ Gt := gt_mem 662 rfl rfl
set_option maxRecDepth 20000 in
theorem kfl_X7_13 : (Cond.fieldLink RX7 13 "TagBusModel" "aside" "[I") ∈ Gt := gt_mem 663 rfl rfl
set_option maxRecDepth 20000 in
theorem kfl_X7_16 : (Cond.fieldLink RX7 16 "TagBusModel" "before" "[I") ∈ Gt := gt_mem 664 rfl rfl
set_option maxRecDepth 20000 in
theorem kfl_X7_42 : (Cond.fieldLink RX7 42 "TagBusModel" "known" "I") ∈ Gt := gt_mem 665 rfl rfl
set_option maxRecDepth 20000 in
theorem kfl_X7_19 : (Cond.fieldLink RX7 19 "TagBusModel" "kept" "[I") ∈ Gt := gt_mem 666 rfl rfl
set_option maxRecDepth 20000 in
theorem kfl_X7_127 : (Cond.fieldLink RX7 127 "TagBusModel" "isKept" "Z") ∈ Gt := gt_mem 667 rfl rfl
set_option maxRecDepth 20000 in
theorem kfl_X7_22 : (Cond.fieldLink RX7 22 "TagBusModel" "text" "[I") ∈ Gt := gt_mem 668 rfl rfl
set_option maxRecDepth 20000 in
theorem kfl_X7_72 : (Cond.fieldLink RX7 72 "TagBusModel" "typed" "I") ∈ Gt := gt_mem 669 rfl rfl
set_option maxRecDepth 20000 in
theorem kfl_X7_69 : (Cond.fieldLink RX7 69 "TagBusModel" "at" "I") ∈ Gt := gt_mem 670 rfl rfl
set_option maxRecDepth 20000 in
theorem kfl_X7_75 : (Cond.fieldLink RX7 75 "TagBusModel" "isWrong" "Z") ∈ Gt := gt_mem 671 rfl rfl
set_option maxRecDepth 20000 in
theorem kfl_X7_25 : (Cond.fieldLink RX7 25 "TagBusModel" "asks" "[I") ∈ Gt := gt_mem 672 rfl rfl
set_option maxRecDepth 20000 in
theorem kfl_X7_28 : (Cond.fieldLink RX7 28 "TagBusModel" "counts" "[I") ∈ Gt := gt_mem 673 rfl rfl
set_option maxRecDepth 20000 in
theorem kfl_X7_106 : (Cond.fieldLink RX7 106 "TagBusModel" "tripOf" "I") ∈ Gt := gt_mem 674 rfl rfl
set_option maxRecDepth 20000 in
theorem kml_L_17 : (Cond.methodLink RL 17 yX7_set) ∈ Gt := gt_mem 702 rfl rfl
set_option maxRecDepth 20000 in
theorem kim_X7_set : (Cond.instanceMethod yX7_set) ∈ Gt := gt_mem 703 rfl rfl
set_option maxRecDepth 20000 in
theorem kse_X7_set : (Cond.selects RX7 yX7_set yX7_set) ∈ Gt := gt_mem 704 rfl rfl
set_option maxRecDepth 20000 in
theorem kco_X7_set : (Cond.code yX7_set cX7_set 3 (some Jvm.ClassFile.FieldType.int)) ∈ Gt := gt_mem 705 rfl rfl
set_option maxRecDepth 20000 in
theorem kml_X7_38 : (Cond.methodLink RX7 38 yX7_in) ∈ Gt := gt_mem 706 rfl rfl
set_option maxRecDepth 20000 in
theorem kst_X7_in : (Cond.static yX7_in) ∈ Gt := gt_mem 707 rfl rfl
set_option maxRecDepth 20000 in
theorem kco_X7_in : (Cond.code yX7_in cX7_in 3 (some Jvm.ClassFile.FieldType.boolean)) ∈ Gt := gt_mem 708 rfl rfl
set_option maxRecDepth 20000 in
theorem kml_X7_49 : (Cond.methodLink RX7 49 yX7_isLentFrom) ∈ Gt := gt_mem 709 rfl rfl
set_option maxRecDepth 20000 in
theorem kim_X7_isLentFrom : (Cond.instanceMethod yX7_isLentFrom) ∈ Gt := gt_mem 711 rfl rfl
set_option maxRecDepth 20000 in
theorem kco_X7_isLentFrom : (Cond.code yX7_isLentFrom cX7_isLentFrom 4 (some Jvm.ClassFile.FieldType.boolean)) ∈ Gt := gt_mem 712 rfl rfl
set_option maxRecDepth 20000 in
theorem kml_X7_53 : (Cond.methodLink RX7 53 yX7_change) ∈ Gt := gt_mem 713 rfl rfl
set_option maxRecDepth 20000 in
theorem kim_X7_change : (Cond.instanceMethod yX7_change) ∈ Gt := gt_mem 715 rfl rfl
set_option maxRecDepth 20000 in
theorem kco_X7_change : (Cond.code yX7_change cX7_change 4 (some Jvm.ClassFile.FieldType.int)) ∈ Gt := gt_mem 716 rfl rfl
set_option maxRecDepth 20000 in
theorem kml_X7_46 : (Cond.methodLink RX7 46 yX7_know) ∈ Gt := gt_mem 717 rfl rfl
set_option maxRecDepth 20000 in
theorem kim_X7_know : (Cond.instanceMethod yX7_know) ∈ Gt := gt_mem 719 rfl rfl
set_option maxRecDepth 20000 in
theorem kco_X7_know : (Cond.code yX7_know cX7_know 2 none) ∈ Gt := gt_mem 720 rfl rfl
set_option maxRecDepth 20000 in
theorem kml_L_21 : (Cond.methodLink RL 21 yX7_setShare) ∈ Gt := gt_mem 721 rfl rfl
set_option maxRecDepth 20000 in
theorem kim_X7_setShare : (Cond.instanceMethod yX7_setShare) ∈ Gt := gt_mem 722 rfl rfl
set_option maxRecDepth 20000 in
theorem kse_X7_setShare : (Cond.selects RX7 yX7_setShare yX7_setShare) ∈ Gt := gt_mem 723 rfl rfl
set_option maxRecDepth 20000 in
theorem kco_X7_setShare : (Cond.code yX7_setShare cX7_setShare 3 (some Jvm.ClassFile.FieldType.int)) ∈ Gt := gt_mem 724 rfl rfl
set_option maxRecDepth 20000 in
theorem kml_X7_56 : (Cond.methodLink RX7 56 yX7_isPort) ∈ Gt := gt_mem 725 rfl rfl
set_option maxRecDepth 20000 in
theorem kst_X7_isPort : (Cond.static yX7_isPort) ∈ Gt := gt_mem 726 rfl rfl
set_option maxRecDepth 20000 in
theorem kco_X7_isPort : (Cond.code yX7_isPort cX7_isPort 1 (some Jvm.ClassFile.FieldType.boolean)) ∈ Gt := gt_mem 727 rfl rfl
set_option maxRecDepth 20000 in
theorem kml_L_26 : (Cond.methodLink RL 26 yX7_setTarget) ∈ Gt := gt_mem 728 rfl rfl
set_option maxRecDepth 20000 in
theorem kim_X7_setTarget : (Cond.instanceMethod yX7_setTarget) ∈ Gt := gt_mem 729 rfl rfl
set_option maxRecDepth 20000 in
theorem kse_X7_setTarget : (Cond.selects RX7 yX7_setTarget yX7_setTarget) ∈ Gt := gt_mem 730 rfl rfl
set_option maxRecDepth 20000 in
theorem kco_X7_setTarget : (Cond.code yX7_setTarget cX7_setTarget 4 (some Jvm.ClassFile.FieldType.int)) ∈ Gt := gt_mem 731 rfl rfl
set_option maxRecDepth 20000 in
theorem kml_L_30 : (Cond.methodLink RL 30 yX7_setCell) ∈ Gt := gt_mem 732 rfl rfl
set_option maxRecDepth 20000 in
theorem kim_X7_setCell : (Cond.instanceMethod yX7_setCell) ∈ Gt := gt_mem 733 rfl rfl
set_option maxRecDepth 20000 in
theorem kse_X7_setCell : (Cond.selects RX7 yX7_setCell yX7_setCell) ∈ Gt := gt_mem 734 rfl rfl
set_option maxRecDepth 20000 in
theorem kco_X7_setCell : (Cond.code yX7_setCell cX7_setCell 4 (some Jvm.ClassFile.FieldType.int)) ∈ Gt := gt_mem 735 rfl rfl
set_option maxRecDepth 20000 in
theorem kml_L_34 : (Cond.methodLink RL 34 yX7_read) ∈ Gt := gt_mem 736 rfl rfl
set_option maxRecDepth 20000 in
theorem kim_X7_read : (Cond.instanceMethod yX7_read) ∈ Gt := gt_mem 737 rfl rfl
set_option maxRecDepth 20000 in
theorem kse_X7_read : (Cond.selects RX7 yX7_read yX7_read) ∈ Gt := gt_mem 738 rfl rfl
set_option maxRecDepth 20000 in
theorem kco_X7_read : (Cond.code yX7_read cX7_read 4 (some Jvm.ClassFile.FieldType.int)) ∈ Gt := gt_mem 739 rfl rfl
set_option maxRecDepth 20000 in
theorem kml_X7_62 : (Cond.methodLink RX7 62 yX7_isRoom) ∈ Gt := gt_mem 740 rfl rfl
set_option maxRecDepth 20000 in
theorem kim_X7_isRoom : (Cond.instanceMethod yX7_isRoom) ∈ Gt := gt_mem 742 rfl rfl
set_option maxRecDepth 20000 in
theorem kco_X7_isRoom : (Cond.code yX7_isRoom cX7_isRoom 2 (some Jvm.ClassFile.FieldType.boolean)) ∈ Gt := gt_mem 743 rfl rfl
set_option maxRecDepth 20000 in
theorem kml_X7_65 : (Cond.methodLink RX7 65 yX7_put) ∈ Gt := gt_mem 744 rfl rfl
set_option maxRecDepth 20000 in
theorem kim_X7_put : (Cond.instanceMethod yX7_put) ∈ Gt := gt_mem 746 rfl rfl
set_option maxRecDepth 20000 in
theorem kco_X7_put : (Cond.code yX7_put cX7_put 6 (some Jvm.ClassFile.FieldType.int)) ∈ Gt := gt_mem 747 rfl rfl
set_option maxRecDepth 20000 in
theorem kml_X7_59 : (Cond.methodLink RX7 59 yX7_of) ∈ Gt := gt_mem 748 rfl rfl
set_option maxRecDepth 20000 in
theorem kst_X7_of : (Cond.static yX7_of) ∈ Gt := gt_mem 749 rfl rfl
set_option maxRecDepth 20000 in
theorem kco_X7_of : (Cond.code yX7_of cX7_of 2 (some Jvm.ClassFile.FieldType.int)) ∈ Gt := gt_mem 750 rfl rfl
set_option maxRecDepth 20000 in
theorem kml_L_39 : (Cond.methodLink RL 39 yX7_write) ∈ Gt := gt_mem 751 rfl rfl
set_option maxRecDepth 20000 in
theorem kim_X7_write : (Cond.instanceMethod yX7_write) ∈ Gt := gt_mem 752 rfl rfl
set_option maxRecDepth 20000 in
theorem kse_X7_write : (Cond.selects RX7 yX7_write yX7_write) ∈ Gt := gt_mem 753 rfl rfl
set_option maxRecDepth 20000 in
theorem kco_X7_write : (Cond.code yX7_write cX7_write 5 (some Jvm.ClassFile.FieldType.int)) ∈ Gt := gt_mem 754 rfl rfl
set_option maxRecDepth 20000 in
theorem kml_L_49 : (Cond.methodLink RL 49 yX7_withdraw) ∈ Gt := gt_mem 755 rfl rfl
set_option maxRecDepth 20000 in
theorem kim_X7_withdraw : (Cond.instanceMethod yX7_withdraw) ∈ Gt := gt_mem 756 rfl rfl
set_option maxRecDepth 20000 in
theorem kse_X7_withdraw : (Cond.selects RX7 yX7_withdraw yX7_withdraw) ∈ Gt := gt_mem 757 rfl rfl
set_option maxRecDepth 20000 in
theorem kco_X7_withdraw : (Cond.code yX7_withdraw cX7_withdraw 4 (some Jvm.ClassFile.FieldType.int)) ∈ Gt := gt_mem 758 rfl rfl
set_option maxRecDepth 20000 in
theorem kml_L_44 : (Cond.methodLink RL 44 yX7_ask) ∈ Gt := gt_mem 759 rfl rfl
set_option maxRecDepth 20000 in
theorem kim_X7_ask : (Cond.instanceMethod yX7_ask) ∈ Gt := gt_mem 760 rfl rfl
set_option maxRecDepth 20000 in
theorem kse_X7_ask : (Cond.selects RX7 yX7_ask yX7_ask) ∈ Gt := gt_mem 761 rfl rfl
set_option maxRecDepth 20000 in
theorem kco_X7_ask : (Cond.code yX7_ask cX7_ask 4 (some Jvm.ClassFile.FieldType.int)) ∈ Gt := gt_mem 762 rfl rfl
set_option maxRecDepth 20000 in
theorem kml_X7_89 : (Cond.methodLink RX7 89 yX7_go) ∈ Gt := gt_mem 763 rfl rfl
set_option maxRecDepth 20000 in
theorem kim_X7_go : (Cond.instanceMethod yX7_go) ∈ Gt := gt_mem 765 rfl rfl
set_option maxRecDepth 20000 in
theorem kco_X7_go : (Cond.code yX7_go cX7_go 5 (some Jvm.ClassFile.FieldType.int)) ∈ Gt := gt_mem 766 rfl rfl
set_option maxRecDepth 20000 in
theorem kml_X7_86 : (Cond.methodLink RX7 86 yX7_question) ∈ Gt := gt_mem 767 rfl rfl
set_option maxRecDepth 20000 in
theorem kim_X7_question : (Cond.instanceMethod yX7_question) ∈ Gt := gt_mem 769 rfl rfl
set_option maxRecDepth 20000 in
theorem kco_X7_question : (Cond.code yX7_question cX7_question 5 none) ∈ Gt := gt_mem 770 rfl rfl
set_option maxRecDepth 20000 in
theorem kml_X7_79 : (Cond.methodLink RX7 79 yX7_sign) ∈ Gt := gt_mem 771 rfl rfl
set_option maxRecDepth 20000 in
theorem kim_X7_sign : (Cond.instanceMethod yX7_sign) ∈ Gt := gt_mem 773 rfl rfl
set_option maxRecDepth 20000 in
theorem kco_X7_sign : (Cond.code yX7_sign cX7_sign 4 (some Jvm.ClassFile.FieldType.int)) ∈ Gt := gt_mem 774 rfl rfl
set_option maxRecDepth 20000 in
theorem kml_X7_82 : (Cond.methodLink RX7 82 yX7_number) ∈ Gt := gt_mem 775 rfl rfl
set_option maxRecDepth 20000 in
theorem kim_X7_number : (Cond.instanceMethod yX7_number) ∈ Gt := gt_mem 777 rfl rfl
set_option maxRecDepth 20000 in
theorem kco_X7_number : (Cond.code yX7_number cX7_number 4 (some Jvm.ClassFile.FieldType.int)) ∈ Gt := gt_mem 778 rfl rfl
set_option maxRecDepth 20000 in
theorem kml_L_58 : (Cond.methodLink RL 58 yX7_type) ∈ Gt := gt_mem 779 rfl rfl
set_option maxRecDepth 20000 in
theorem kim_X7_type : (Cond.instanceMethod yX7_type) ∈ Gt := gt_mem 780 rfl rfl
set_option maxRecDepth 20000 in
theorem kse_X7_type : (Cond.selects RX7 yX7_type yX7_type) ∈ Gt := gt_mem 781 rfl rfl
set_option maxRecDepth 20000 in
theorem kco_X7_type : (Cond.code yX7_type cX7_type 2 (some Jvm.ClassFile.FieldType.int)) ∈ Gt := gt_mem 782 rfl rfl
set_option maxRecDepth 20000 in
theorem kml_L_62 : (Cond.methodLink RL 62 yX7_clearText) ∈ Gt := gt_mem 783 rfl rfl
set_option maxRecDepth 20000 in
theorem kim_X7_clearText : (Cond.instanceMethod yX7_clearText) ∈ Gt := gt_mem 784 rfl rfl
set_option maxRecDepth 20000 in
theorem kse_X7_clearText : (Cond.selects RX7 yX7_clearText yX7_clearText) ∈ Gt := gt_mem 785 rfl rfl
set_option maxRecDepth 20000 in
theorem kco_X7_clearText : (Cond.code yX7_clearText cX7_clearText 2 (some Jvm.ClassFile.FieldType.int)) ∈ Gt := gt_mem 786 rfl rfl
set_option maxRecDepth 20000 in
theorem kml_L_53 : (Cond.methodLink RL 53 yX7_pass) ∈ Gt := gt_mem 787 rfl rfl
set_option maxRecDepth 20000 in
theorem kim_X7_pass : (Cond.instanceMethod yX7_pass) ∈ Gt := gt_mem 788 rfl rfl
set_option maxRecDepth 20000 in
theorem kse_X7_pass : (Cond.selects RX7 yX7_pass yX7_pass) ∈ Gt := gt_mem 789 rfl rfl
set_option maxRecDepth 20000 in
theorem kco_X7_pass : (Cond.code yX7_pass cX7_pass 4 (some Jvm.ClassFile.FieldType.int)) ∈ Gt := gt_mem 790 rfl rfl
set_option maxRecDepth 20000 in
theorem kml_X7_124 : (Cond.methodLink RX7 124 yX7_tick) ∈ Gt := gt_mem 791 rfl rfl
set_option maxRecDepth 20000 in
theorem kim_X7_tick : (Cond.instanceMethod yX7_tick) ∈ Gt := gt_mem 793 rfl rfl
set_option maxRecDepth 20000 in
theorem kco_X7_tick : (Cond.code yX7_tick cX7_tick 8 (some Jvm.ClassFile.FieldType.int)) ∈ Gt := gt_mem 794 rfl rfl
set_option maxRecDepth 20000 in
theorem kml_X7_109 : (Cond.methodLink RX7 109 yX7_doAll) ∈ Gt := gt_mem 795 rfl rfl
set_option maxRecDepth 20000 in
theorem kim_X7_doAll : (Cond.instanceMethod yX7_doAll) ∈ Gt := gt_mem 797 rfl rfl
set_option maxRecDepth 20000 in
theorem kco_X7_doAll : (Cond.code yX7_doAll cX7_doAll 5 none) ∈ Gt := gt_mem 798 rfl rfl
set_option maxRecDepth 20000 in
theorem kml_X7_112 : (Cond.methodLink RX7 112 yX7_targetThatGoes) ∈ Gt := gt_mem 799 rfl rfl
set_option maxRecDepth 20000 in
theorem kim_X7_targetThatGoes : (Cond.instanceMethod yX7_targetThatGoes) ∈ Gt := gt_mem 801 rfl rfl
set_option maxRecDepth 20000 in
theorem kco_X7_targetThatGoes : (Cond.code yX7_targetThatGoes cX7_targetThatGoes 3 (some Jvm.ClassFile.FieldType.int)) ∈ Gt := gt_mem 802 rfl rfl
set_option maxRecDepth 20000 in
theorem kml_X7_93 : (Cond.methodLink RX7 93 yX7_answering) ∈ Gt := gt_mem 803 rfl rfl
set_option maxRecDepth 20000 in
theorem kim_X7_answering : (Cond.instanceMethod yX7_answering) ∈ Gt := gt_mem 805 rfl rfl
set_option maxRecDepth 20000 in
theorem kco_X7_answering : (Cond.code yX7_answering cX7_answering 7 (some Jvm.ClassFile.FieldType.int)) ∈ Gt := gt_mem 806 rfl rfl
set_option maxRecDepth 20000 in
theorem kml_X7_115 : (Cond.methodLink RX7 115 yX7_masterThatGoes) ∈ Gt := gt_mem 807 rfl rfl
set_option maxRecDepth 20000 in
theorem kim_X7_masterThatGoes : (Cond.instanceMethod yX7_masterThatGoes) ∈ Gt := gt_mem 809 rfl rfl
set_option maxRecDepth 20000 in
theorem kco_X7_masterThatGoes : (Cond.code yX7_masterThatGoes cX7_masterThatGoes 4 (some Jvm.ClassFile.FieldType.int)) ∈ Gt := gt_mem 810 rfl rfl
set_option maxRecDepth 20000 in
theorem kml_X7_103 : (Cond.methodLink RX7 103 yX7_canSend) ∈ Gt := gt_mem 811 rfl rfl
set_option maxRecDepth 20000 in
theorem kim_X7_canSend : (Cond.instanceMethod yX7_canSend) ∈ Gt := gt_mem 813 rfl rfl
set_option maxRecDepth 20000 in
theorem kco_X7_canSend : (Cond.code yX7_canSend cX7_canSend 2 (some Jvm.ClassFile.FieldType.boolean)) ∈ Gt := gt_mem 814 rfl rfl
set_option maxRecDepth 20000 in
theorem kml_X7_96 : (Cond.methodLink RX7 96 yX7_freeTag) ∈ Gt := gt_mem 815 rfl rfl
set_option maxRecDepth 20000 in
theorem kim_X7_freeTag : (Cond.instanceMethod yX7_freeTag) ∈ Gt := gt_mem 817 rfl rfl
set_option maxRecDepth 20000 in
theorem kco_X7_freeTag : (Cond.code yX7_freeTag cX7_freeTag 2 (some Jvm.ClassFile.FieldType.int)) ∈ Gt := gt_mem 818 rfl rfl
set_option maxRecDepth 20000 in
theorem kml_X7_100 : (Cond.methodLink RX7 100 yX7_holds) ∈ Gt := gt_mem 819 rfl rfl
set_option maxRecDepth 20000 in
theorem kim_X7_holds : (Cond.instanceMethod yX7_holds) ∈ Gt := gt_mem 821 rfl rfl
set_option maxRecDepth 20000 in
theorem kco_X7_holds : (Cond.code yX7_holds cX7_holds 4 (some Jvm.ClassFile.FieldType.int)) ∈ Gt := gt_mem 822 rfl rfl
set_option maxRecDepth 20000 in
theorem kml_X7_118 : (Cond.methodLink RX7 118 yX7_answers) ∈ Gt := gt_mem 823 rfl rfl
set_option maxRecDepth 20000 in
theorem kim_X7_answers : (Cond.instanceMethod yX7_answers) ∈ Gt := gt_mem 825 rfl rfl
set_option maxRecDepth 20000 in
theorem kco_X7_answers : (Cond.code yX7_answers cX7_answers 5 (some Jvm.ClassFile.FieldType.int)) ∈ Gt := gt_mem 826 rfl rfl
set_option maxRecDepth 20000 in
theorem kml_X7_121 : (Cond.methodLink RX7 121 yX7_sends) ∈ Gt := gt_mem 827 rfl rfl
set_option maxRecDepth 20000 in
theorem kim_X7_sends : (Cond.instanceMethod yX7_sends) ∈ Gt := gt_mem 829 rfl rfl
set_option maxRecDepth 20000 in
theorem kco_X7_sends : (Cond.code yX7_sends cX7_sends 6 (some Jvm.ClassFile.FieldType.int)) ∈ Gt := gt_mem 830 rfl rfl
set_option maxRecDepth 20000 in
theorem kml_L_66 : (Cond.methodLink RL 66 yX7_undo) ∈ Gt := gt_mem 831 rfl rfl
set_option maxRecDepth 20000 in
theorem kim_X7_undo : (Cond.instanceMethod yX7_undo) ∈ Gt := gt_mem 832 rfl rfl
set_option maxRecDepth 20000 in
theorem kse_X7_undo : (Cond.selects RX7 yX7_undo yX7_undo) ∈ Gt := gt_mem 833 rfl rfl
set_option maxRecDepth 20000 in
theorem kco_X7_undo : (Cond.code yX7_undo cX7_undo 2 (some Jvm.ClassFile.FieldType.int)) ∈ Gt := gt_mem 834 rfl rfl
set_option maxRecDepth 20000 in
theorem kml_L_70 : (Cond.methodLink RL 70 yX7_keep) ∈ Gt := gt_mem 835 rfl rfl
set_option maxRecDepth 20000 in
theorem kim_X7_keep : (Cond.instanceMethod yX7_keep) ∈ Gt := gt_mem 836 rfl rfl
set_option maxRecDepth 20000 in
theorem kse_X7_keep : (Cond.selects RX7 yX7_keep yX7_keep) ∈ Gt := gt_mem 837 rfl rfl
set_option maxRecDepth 20000 in
theorem kco_X7_keep : (Cond.code yX7_keep cX7_keep 2 (some Jvm.ClassFile.FieldType.int)) ∈ Gt := gt_mem 838 rfl rfl
set_option maxRecDepth 20000 in
theorem kml_L_74 : (Cond.methodLink RL 74 yX7_restore) ∈ Gt := gt_mem 839 rfl rfl
set_option maxRecDepth 20000 in
theorem kim_X7_restore : (Cond.instanceMethod yX7_restore) ∈ Gt := gt_mem 840 rfl rfl
set_option maxRecDepth 20000 in
theorem kse_X7_restore : (Cond.selects RX7 yX7_restore yX7_restore) ∈ Gt := gt_mem 841 rfl rfl
set_option maxRecDepth 20000 in
theorem kco_X7_restore : (Cond.code yX7_restore cX7_restore 2 (some Jvm.ClassFile.FieldType.int)) ∈ Gt := gt_mem 842 rfl rfl
set_option maxRecDepth 20000 in
theorem kml_L_78 : (Cond.methodLink RL 78 yX7_question_) ∈ Gt := gt_mem 843 rfl rfl
set_option maxRecDepth 20000 in
theorem kim_X7_question_ : (Cond.instanceMethod yX7_question_) ∈ Gt := gt_mem 844 rfl rfl
set_option maxRecDepth 20000 in
theorem kse_X7_question_ : (Cond.selects RX7 yX7_question_ yX7_question_) ∈ Gt := gt_mem 845 rfl rfl
set_option maxRecDepth 20000 in
theorem kco_X7_question_ : (Cond.code yX7_question_ cX7_question_ 3 (some Jvm.ClassFile.FieldType.int)) ∈ Gt := gt_mem 846 rfl rfl
set_option maxRecDepth 20000 in
theorem kml_X7_130 : (Cond.methodLink RX7 130 yX7_isQuestion) ∈ Gt := gt_mem 847 rfl rfl
set_option maxRecDepth 20000 in
theorem kim_X7_isQuestion : (Cond.instanceMethod yX7_isQuestion) ∈ Gt := gt_mem 849 rfl rfl
set_option maxRecDepth 20000 in
theorem kco_X7_isQuestion : (Cond.code yX7_isQuestion cX7_isQuestion 2 (some Jvm.ClassFile.FieldType.boolean)) ∈ Gt := gt_mem 850 rfl rfl
set_option maxRecDepth 20000 in
theorem kml_L_82 : (Cond.methodLink RL 82 yX7_tag) ∈ Gt := gt_mem 851 rfl rfl
set_option maxRecDepth 20000 in
theorem kim_X7_tag : (Cond.instanceMethod yX7_tag) ∈ Gt := gt_mem 852 rfl rfl
set_option maxRecDepth 20000 in
theorem kse_X7_tag : (Cond.selects RX7 yX7_tag yX7_tag) ∈ Gt := gt_mem 853 rfl rfl
set_option maxRecDepth 20000 in
theorem kco_X7_tag : (Cond.code yX7_tag cX7_tag 2 (some Jvm.ClassFile.FieldType.int)) ∈ Gt := gt_mem 854 rfl rfl
set_option maxRecDepth 20000 in
theorem kml_L_86 : (Cond.methodLink RL 86 yX7_master) ∈ Gt := gt_mem 855 rfl rfl
set_option maxRecDepth 20000 in
theorem kim_X7_master : (Cond.instanceMethod yX7_master) ∈ Gt := gt_mem 856 rfl rfl
set_option maxRecDepth 20000 in
theorem kse_X7_master : (Cond.selects RX7 yX7_master yX7_master) ∈ Gt := gt_mem 857 rfl rfl
set_option maxRecDepth 20000 in
theorem kco_X7_master : (Cond.code yX7_master cX7_master 5 (some Jvm.ClassFile.FieldType.int)) ∈ Gt := gt_mem 858 rfl rfl
set_option maxRecDepth 20000 in
theorem kml_X7_133 : (Cond.methodLink RX7 133 yX7_answered) ∈ Gt := gt_mem 859 rfl rfl
set_option maxRecDepth 20000 in
theorem kim_X7_answered : (Cond.instanceMethod yX7_answered) ∈ Gt := gt_mem 861 rfl rfl
set_option maxRecDepth 20000 in
theorem kco_X7_answered : (Cond.code yX7_answered cX7_answered 6 (some Jvm.ClassFile.FieldType.int)) ∈ Gt := gt_mem 862 rfl rfl
set_option maxRecDepth 20000 in
theorem kml_L_90 : (Cond.methodLink RL 90 yX7_row) ∈ Gt := gt_mem 863 rfl rfl
set_option maxRecDepth 20000 in
theorem kim_X7_row : (Cond.instanceMethod yX7_row) ∈ Gt := gt_mem 864 rfl rfl
set_option maxRecDepth 20000 in
theorem kse_X7_row : (Cond.selects RX7 yX7_row yX7_row) ∈ Gt := gt_mem 865 rfl rfl
set_option maxRecDepth 20000 in
theorem kco_X7_row : (Cond.code yX7_row cX7_row 3 (some Jvm.ClassFile.FieldType.int)) ∈ Gt := gt_mem 866 rfl rfl
set_option maxRecDepth 20000 in
theorem kml_L_94 : (Cond.methodLink RL 94 yX7_target) ∈ Gt := gt_mem 867 rfl rfl
set_option maxRecDepth 20000 in
theorem kim_X7_target : (Cond.instanceMethod yX7_target) ∈ Gt := gt_mem 868 rfl rfl
set_option maxRecDepth 20000 in
theorem kse_X7_target : (Cond.selects RX7 yX7_target yX7_target) ∈ Gt := gt_mem 869 rfl rfl
set_option maxRecDepth 20000 in
theorem kco_X7_target : (Cond.code yX7_target cX7_target 4 (some Jvm.ClassFile.FieldType.int)) ∈ Gt := gt_mem 870 rfl rfl
set_option maxRecDepth 20000 in
theorem kml_X7_137 : (Cond.methodLink RX7 137 yX7_doneIn) ∈ Gt := gt_mem 871 rfl rfl
set_option maxRecDepth 20000 in
theorem kim_X7_doneIn : (Cond.instanceMethod yX7_doneIn) ∈ Gt := gt_mem 873 rfl rfl
set_option maxRecDepth 20000 in
theorem kco_X7_doneIn : (Cond.code yX7_doneIn cX7_doneIn 4 (some Jvm.ClassFile.FieldType.int)) ∈ Gt := gt_mem 874 rfl rfl
set_option maxRecDepth 20000 in
theorem kml_L_98 : (Cond.methodLink RL 98 yX7_cell) ∈ Gt := gt_mem 875 rfl rfl
set_option maxRecDepth 20000 in
theorem kim_X7_cell : (Cond.instanceMethod yX7_cell) ∈ Gt := gt_mem 876 rfl rfl
set_option maxRecDepth 20000 in
theorem kse_X7_cell : (Cond.selects RX7 yX7_cell yX7_cell) ∈ Gt := gt_mem 877 rfl rfl
set_option maxRecDepth 20000 in
theorem kco_X7_cell : (Cond.code yX7_cell cX7_cell 3 (some Jvm.ClassFile.FieldType.int)) ∈ Gt := gt_mem 878 rfl rfl
set_option maxRecDepth 20000 in
theorem kml_L_102 : (Cond.methodLink RL 102 yX7_next) ∈ Gt := gt_mem 879 rfl rfl
set_option maxRecDepth 20000 in
theorem kim_X7_next : (Cond.instanceMethod yX7_next) ∈ Gt := gt_mem 880 rfl rfl
set_option maxRecDepth 20000 in
theorem kse_X7_next : (Cond.selects RX7 yX7_next yX7_next) ∈ Gt := gt_mem 881 rfl rfl
set_option maxRecDepth 20000 in
theorem kco_X7_next : (Cond.code yX7_next cX7_next 3 (some Jvm.ClassFile.FieldType.int)) ∈ Gt := gt_mem 882 rfl rfl
set_option maxRecDepth 20000 in
theorem kml_X7_140 : (Cond.methodLink RX7 140 yX7_putAside) ∈ Gt := gt_mem 883 rfl rfl
set_option maxRecDepth 20000 in
theorem kim_X7_putAside : (Cond.instanceMethod yX7_putAside) ∈ Gt := gt_mem 885 rfl rfl
set_option maxRecDepth 20000 in
theorem kco_X7_putAside : (Cond.code yX7_putAside cX7_putAside 2 none) ∈ Gt := gt_mem 886 rfl rfl
set_option maxRecDepth 20000 in
theorem kml_X7_143 : (Cond.methodLink RX7 143 yX7_putBack) ∈ Gt := gt_mem 887 rfl rfl
set_option maxRecDepth 20000 in
theorem kim_X7_putBack : (Cond.instanceMethod yX7_putBack) ∈ Gt := gt_mem 889 rfl rfl
set_option maxRecDepth 20000 in
theorem kco_X7_putBack : (Cond.code yX7_putBack cX7_putBack 2 none) ∈ Gt := gt_mem 890 rfl rfl
set_option maxRecDepth 20000 in
theorem kml_L_106 : (Cond.methodLink RL 106 yX7_answeredIn) ∈ Gt := gt_mem 891 rfl rfl
set_option maxRecDepth 20000 in
theorem kim_X7_answeredIn : (Cond.instanceMethod yX7_answeredIn) ∈ Gt := gt_mem 892 rfl rfl
set_option maxRecDepth 20000 in
theorem kse_X7_answeredIn : (Cond.selects RX7 yX7_answeredIn yX7_answeredIn) ∈ Gt := gt_mem 893 rfl rfl
set_option maxRecDepth 20000 in
theorem kco_X7_answeredIn : (Cond.code yX7_answeredIn cX7_answeredIn 4 (some Jvm.ClassFile.FieldType.int)) ∈ Gt := gt_mem 894 rfl rfl
set_option maxRecDepth 20000 in
theorem kml_L_110 : (Cond.methodLink RL 110 yX7_count) ∈ Gt := gt_mem 895 rfl rfl
set_option maxRecDepth 20000 in
theorem kim_X7_count : (Cond.instanceMethod yX7_count) ∈ Gt := gt_mem 896 rfl rfl
set_option maxRecDepth 20000 in
theorem kse_X7_count : (Cond.selects RX7 yX7_count yX7_count) ∈ Gt := gt_mem 897 rfl rfl
set_option maxRecDepth 20000 in
theorem kco_X7_count : (Cond.code yX7_count cX7_count 2 (some Jvm.ClassFile.FieldType.int)) ∈ Gt := gt_mem 898 rfl rfl
set_option maxRecDepth 20000 in
theorem kml_X7_146 : (Cond.methodLink RX7 146 yX7_freeTags) ∈ Gt := gt_mem 899 rfl rfl
set_option maxRecDepth 20000 in
theorem kim_X7_freeTags : (Cond.instanceMethod yX7_freeTags) ∈ Gt := gt_mem 901 rfl rfl
set_option maxRecDepth 20000 in
theorem kco_X7_freeTags : (Cond.code yX7_freeTags cX7_freeTags 3 (some Jvm.ClassFile.FieldType.int)) ∈ Gt := gt_mem 902 rfl rfl
set_option maxRecDepth 20000 in
theorem inG0 : ∀ w ∈ u_ws RX0 TX0 15, w ∈ Gt := by decide +kernel
set_option maxRecDepth 20000 in
theorem inG1 : ∀ w ∈ u_ws RX1 TX1 2, w ∈ Gt := by decide +kernel
set_option maxRecDepth 20000 in
theorem inG2 : ∀ w ∈ u_ws RX2 TX2 8, w ∈ Gt := by decide +kernel
set_option maxRecDepth 20000 in
theorem inG3 : ∀ w ∈ u_ws RX3 TX3 11, w ∈ Gt := by decide +kernel
set_option maxRecDepth 20000 in
theorem inG4 : ∀ w ∈ u_ws RX4 TX4 5, w ∈ Gt := by decide +kernel
set_option maxRecDepth 20000 in
theorem inG5 : ∀ w ∈ u_ws RX5 TX5 3, w ∈ Gt := by decide +kernel
set_option maxRecDepth 20000 in
theorem inG6 : ∀ w ∈ u_ws RX6 TX6 7, w ∈ Gt := by decide +kernel
set_option maxRecDepth 20000 in
theorem inG7 : ∀ w ∈ u_ws RX7 TX7 13, w ∈ Gt := by decide +kernel
def nestM : List (String × Nat × MethodName × String) := [(RX0, 40, yX2_init, "TagBus"), (RX2, 11, yX1_init, "TagBus"), (RX0, 41, yX5_init, "TagBus"), (RX5, 20, yX1_init, "TagBus"), (RX0, 42, yX3_init, "TagBus"), (RX4, 21, yX3_init, "TagBus"), (RX0, 86, yX6_isIndex, "TagBus"), (RX1, 19, yX6_isIndex, "TagBus"), (RX4, 26, yX6_isIndex, "TagBus"), (RX5, 29, yX6_isIndex, "TagBus")]
set_option maxRecDepth 20000 in
theorem nestM_tbl : ∀ q ∈ nestM, Cond.methodLinkNest q.1 q.2.1 q.2.2.1 q.2.2.2 ∈ lw_tbl := by decide +kernel
theorem knm_X0_40 : (RX0, 40, yX2_init, "TagBus") ∈ nestM := List.mem_of_getElem? (i := 0) rfl
theorem knm_X2_11 : (RX2, 11, yX1_init, "TagBus") ∈ nestM := List.mem_of_getElem? (i := 1) rfl
theorem knm_X0_41 : (RX0, 41, yX5_init, "TagBus") ∈ nestM := List.mem_of_getElem? (i := 2) rfl
theorem knm_X5_20 : (RX5, 20, yX1_init, "TagBus") ∈ nestM := List.mem_of_getElem? (i := 3) rfl
theorem knm_X0_42 : (RX0, 42, yX3_init, "TagBus") ∈ nestM := List.mem_of_getElem? (i := 4) rfl
theorem knm_X4_21 : (RX4, 21, yX3_init, "TagBus") ∈ nestM := List.mem_of_getElem? (i := 5) rfl
theorem knm_X0_86 : (RX0, 86, yX6_isIndex, "TagBus") ∈ nestM := List.mem_of_getElem? (i := 6) rfl
theorem knm_X1_19 : (RX1, 19, yX6_isIndex, "TagBus") ∈ nestM := List.mem_of_getElem? (i := 7) rfl
theorem knm_X4_26 : (RX4, 26, yX6_isIndex, "TagBus") ∈ nestM := List.mem_of_getElem? (i := 8) rfl
theorem knm_X5_29 : (RX5, 29, yX6_isIndex, "TagBus") ∈ nestM := List.mem_of_getElem? (i := 9) rfl
theorem kao_Master : Cond.arrayOver (.object "TagBus$Master") ∈ lw_tbl := List.mem_of_getElem? (i := 72) (by decide +kernel)
theorem kao_Target : Cond.arrayOver (.object "TagBus$Target") ∈ lw_tbl := List.mem_of_getElem? (i := 74) (by decide +kernel)
theorem kao_Question : Cond.arrayOver (.object "TagBus$Question") ∈ lw_tbl := List.mem_of_getElem? (i := 76) (by decide +kernel)
theorem kao_Bus : Cond.arrayOver (.object "TagBus$Bus") ∈ lw_tbl := List.mem_of_getElem? (i := 278) (by decide +kernel)
end
