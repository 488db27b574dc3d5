section
-- ===== PART A: goes FIRST, ahead of the names: the tables' words, and 'selects' of the private methods out of them =====
/-- a private method of a class that the tables say can be made, by its rows of tables_1 -/
def lw_okq (q : MethodName × Nat) : Prop := (q.1.cls ≠ "java/lang/invoke/MethodHandle" ∧ q.1.cls ≠ "java/lang/invoke/VarHandle") ∧ Cond.instantiable q.1.cls q.2 ∈ tables_1 ∧ Cond.privateMethod q.1 ∈ tables_1 ∧ Cond.instanceMethod q.1 ∈ tables_1
theorem lw_p0 : lw_okq (⟨"TagBus", "record", "()V"⟩, 7) := ⟨⟨by decide +kernel, by decide +kernel⟩, List.mem_of_getElem? (i := 12) (by decide +kernel), List.mem_of_getElem? (i := 301) (by decide +kernel), List.mem_of_getElem? (i := 302) (by decide +kernel)⟩
theorem lw_p1 : lw_okq (⟨"TagBus", "putOne", "(IIII)I"⟩, 7) := ⟨⟨by decide +kernel, by decide +kernel⟩, List.mem_of_getElem? (i := 12) (by decide +kernel), List.mem_of_getElem? (i := 360) (by decide +kernel), List.mem_of_getElem? (i := 361) (by decide +kernel)⟩
theorem lw_p2 : lw_okq (⟨"TagBus$QuestionText", "readQuestion", "(LTagBus$Question;)Z"⟩, 5) := ⟨⟨by decide +kernel, by decide +kernel⟩, List.mem_of_getElem? (i := 234) (by decide +kernel), List.mem_of_getElem? (i := 390) (by decide +kernel), List.mem_of_getElem? (i := 391) (by decide +kernel)⟩
theorem lw_p3 : lw_okq (⟨"TagBus$QuestionText", "readNumber", "(I)I"⟩, 5) := ⟨⟨by decide +kernel, by decide +kernel⟩, List.mem_of_getElem? (i := 234) (by decide +kernel), List.mem_of_getElem? (i := 394) (by decide +kernel), List.mem_of_getElem? (i := 395) (by decide +kernel)⟩
theorem lw_p4 : lw_okq (⟨"TagBus$QuestionText", "digitAt", "(I)I"⟩, 5) := ⟨⟨by decide +kernel, by decide +kernel⟩, List.mem_of_getElem? (i := 234) (by decide +kernel), List.mem_of_getElem? (i := 398) (by decide +kernel), List.mem_of_getElem? (i := 399) (by decide +kernel)⟩
theorem lw_p5 : lw_okq (⟨"TagBus$QuestionText", "skip", "(C)Z"⟩, 5) := ⟨⟨by decide +kernel, by decide +kernel⟩, List.mem_of_getElem? (i := 234) (by decide +kernel), List.mem_of_getElem? (i := 403) (by decide +kernel), List.mem_of_getElem? (i := 404) (by decide +kernel)⟩
theorem lw_p6 : lw_okq (⟨"TagBus", "hasRoomForText", "()Z"⟩, 7) := ⟨⟨by decide +kernel, by decide +kernel⟩, List.mem_of_getElem? (i := 12) (by decide +kernel), List.mem_of_getElem? (i := 408) (by decide +kernel), List.mem_of_getElem? (i := 409) (by decide +kernel)⟩
theorem lw_p7 : lw_okq (⟨"TagBus$Bus", "finishQuestions", "()V"⟩, 15) := ⟨⟨by decide +kernel, by decide +kernel⟩, List.mem_of_getElem? (i := 20) (by decide +kernel), List.mem_of_getElem? (i := 448) (by decide +kernel), List.mem_of_getElem? (i := 449) (by decide +kernel)⟩
theorem lw_p8 : lw_okq (⟨"TagBus$Bus", "makeTrip", "()I"⟩, 15) := ⟨⟨by decide +kernel, by decide +kernel⟩, List.mem_of_getElem? (i := 20) (by decide +kernel), List.mem_of_getElem? (i := 457) (by decide +kernel), List.mem_of_getElem? (i := 458) (by decide +kernel)⟩
theorem lw_p9 : lw_okq (⟨"TagBus$Bus", "targetThatAnswers", "()I"⟩, 15) := ⟨⟨by decide +kernel, by decide +kernel⟩, List.mem_of_getElem? (i := 20) (by decide +kernel), List.mem_of_getElem? (i := 461) (by decide +kernel), List.mem_of_getElem? (i := 462) (by decide +kernel)⟩
theorem lw_p10 : lw_okq (⟨"TagBus$Bus", "masterThatSends", "()I"⟩, 15) := ⟨⟨by decide +kernel, by decide +kernel⟩, List.mem_of_getElem? (i := 20) (by decide +kernel), List.mem_of_getElem? (i := 473) (by decide +kernel), List.mem_of_getElem? (i := 474) (by decide +kernel)⟩
theorem lw_p11 : lw_okq (⟨"TagBus$Bus", "masterThatWaitedTooLong", "()I"⟩, 15) := ⟨⟨by decide +kernel, by decide +kernel⟩, List.mem_of_getElem? (i := 20) (by decide +kernel), List.mem_of_getElem? (i := 481) (by decide +kernel), List.mem_of_getElem? (i := 482) (by decide +kernel)⟩
theorem lw_p12 : lw_okq (⟨"TagBus$Bus", "maySend", "(LTagBus$Master;)Z"⟩, 15) := ⟨⟨by decide +kernel, by decide +kernel⟩, List.mem_of_getElem? (i := 20) (by decide +kernel), List.mem_of_getElem? (i := 485) (by decide +kernel), List.mem_of_getElem? (i := 486) (by decide +kernel)⟩
theorem lw_p13 : lw_okq (⟨"TagBus$Bus", "prefersAnswer", "()Z"⟩, 15) := ⟨⟨by decide +kernel, by decide +kernel⟩, List.mem_of_getElem? (i := 20) (by decide +kernel), List.mem_of_getElem? (i := 493) (by decide +kernel), List.mem_of_getElem? (i := 494) (by decide +kernel)⟩
theorem lw_p14 : lw_okq (⟨"TagBus$Bus", "sendAnswerOf", "(I)I"⟩, 15) := ⟨⟨by decide +kernel, by decide +kernel⟩, List.mem_of_getElem? (i := 20) (by decide +kernel), List.mem_of_getElem? (i := 497) (by decide +kernel), List.mem_of_getElem? (i := 498) (by decide +kernel)⟩
theorem lw_p15 : lw_okq (⟨"TagBus$Bus", "takeTagBack", "(LTagBus$Question;)V"⟩, 15) := ⟨⟨by decide +kernel, by decide +kernel⟩, List.mem_of_getElem? (i := 20) (by decide +kernel), List.mem_of_getElem? (i := 501) (by decide +kernel), List.mem_of_getElem? (i := 502) (by decide +kernel)⟩
def lw_privs_1 : List (MethodName × Nat) := [(⟨"TagBus", "record", "()V"⟩, 7), (⟨"TagBus", "putOne", "(IIII)I"⟩, 7), (⟨"TagBus$QuestionText", "readQuestion", "(LTagBus$Question;)Z"⟩, 5), (⟨"TagBus$QuestionText", "readNumber", "(I)I"⟩, 5), (⟨"TagBus$QuestionText", "digitAt", "(I)I"⟩, 5), (⟨"TagBus$QuestionText", "skip", "(C)Z"⟩, 5), (⟨"TagBus", "hasRoomForText", "()Z"⟩, 7), (⟨"TagBus$Bus", "finishQuestions", "()V"⟩, 15), (⟨"TagBus$Bus", "makeTrip", "()I"⟩, 15), (⟨"TagBus$Bus", "targetThatAnswers", "()I"⟩, 15), (⟨"TagBus$Bus", "masterThatSends", "()I"⟩, 15), (⟨"TagBus$Bus", "masterThatWaitedTooLong", "()I"⟩, 15), (⟨"TagBus$Bus", "maySend", "(LTagBus$Master;)Z"⟩, 15), (⟨"TagBus$Bus", "prefersAnswer", "()Z"⟩, 15), (⟨"TagBus$Bus", "sendAnswerOf", "(I)I"⟩, 15), (⟨"TagBus$Bus", "takeTagBack", "(LTagBus$Question;)V"⟩, 15)]
theorem lw_r1 : ∀ q ∈ lw_privs_1, lw_okq q := List.forall_mem_cons.mpr ⟨lw_p0, List.forall_mem_cons.mpr ⟨lw_p1, List.forall_mem_cons.mpr ⟨lw_p2, List.forall_mem_cons.mpr ⟨lw_p3, List.forall_mem_cons.mpr ⟨lw_p4, List.forall_mem_cons.mpr ⟨lw_p5, List.forall_mem_cons.mpr ⟨lw_p6, List.forall_mem_cons.mpr ⟨lw_p7, List.forall_mem_cons.mpr ⟨lw_p8, List.forall_mem_cons.mpr ⟨lw_p9, List.forall_mem_cons.mpr ⟨lw_p10, List.forall_mem_cons.mpr ⟨lw_p11, List.forall_mem_cons.mpr ⟨lw_p12, List.forall_mem_cons.mpr ⟨lw_p13, List.forall_mem_cons.mpr ⟨lw_p14, List.forall_mem_cons.mpr ⟨lw_p15, fun _ h => absurd h List.not_mem_nil⟩⟩⟩⟩⟩⟩⟩⟩⟩⟩⟩⟩⟩⟩⟩⟩
theorem lw_p16 : lw_okq (⟨"TagBus$Bus", "noteAnswer", "(LTagBus$Master;I)V"⟩, 15) := ⟨⟨by decide +kernel, by decide +kernel⟩, List.mem_of_getElem? (i := 20) (by decide +kernel), List.mem_of_getElem? (i := 505) (by decide +kernel), List.mem_of_getElem? (i := 506) (by decide +kernel)⟩
theorem lw_p17 : lw_okq (⟨"TagBus$Bus", "sendQuestionOf", "(I)I"⟩, 15) := ⟨⟨by decide +kernel, by decide +kernel⟩, List.mem_of_getElem? (i := 20) (by decide +kernel), List.mem_of_getElem? (i := 512) (by decide +kernel), List.mem_of_getElem? (i := 513) (by decide +kernel)⟩
theorem lw_p18 : lw_okq (⟨"TagBus$Bus", "refuse", "(LTagBus$Master;LTagBus$Question;)V"⟩, 15) := ⟨⟨by decide +kernel, by decide +kernel⟩, List.mem_of_getElem? (i := 20) (by decide +kernel), List.mem_of_getElem? (i := 520) (by decide +kernel), List.mem_of_getElem? (i := 521) (by decide +kernel)⟩
theorem lw_p19 : lw_okq (⟨"TagBus$Bus", "letIn", "(LTagBus$Master;LTagBus$Target;I)V"⟩, 15) := ⟨⟨by decide +kernel, by decide +kernel⟩, List.mem_of_getElem? (i := 20) (by decide +kernel), List.mem_of_getElem? (i := 524) (by decide +kernel), List.mem_of_getElem? (i := 525) (by decide +kernel)⟩
theorem lw_p20 : lw_okq (⟨"TagBus$Bus", "countWaits", "(I)V"⟩, 15) := ⟨⟨by decide +kernel, by decide +kernel⟩, List.mem_of_getElem? (i := 20) (by decide +kernel), List.mem_of_getElem? (i := 528) (by decide +kernel), List.mem_of_getElem? (i := 529) (by decide +kernel)⟩
theorem lw_p21 : lw_okq (⟨"TagBusModel", "isLentFrom", "(I)Z"⟩, 13) := ⟨⟨by decide +kernel, by decide +kernel⟩, List.mem_of_getElem? (i := 605) (by decide +kernel), List.mem_of_getElem? (i := 664) (by decide +kernel), List.mem_of_getElem? (i := 665) (by decide +kernel)⟩
theorem lw_p22 : lw_okq (⟨"TagBusModel", "change", "(II)I"⟩, 13) := ⟨⟨by decide +kernel, by decide +kernel⟩, List.mem_of_getElem? (i := 605) (by decide +kernel), List.mem_of_getElem? (i := 668) (by decide +kernel), List.mem_of_getElem? (i := 669) (by decide +kernel)⟩
theorem lw_p23 : lw_okq (⟨"TagBusModel", "know", "()V"⟩, 13) := ⟨⟨by decide +kernel, by decide +kernel⟩, List.mem_of_getElem? (i := 605) (by decide +kernel), List.mem_of_getElem? (i := 672) (by decide +kernel), List.mem_of_getElem? (i := 673) (by decide +kernel)⟩
theorem lw_p24 : lw_okq (⟨"TagBusModel", "isRoom", "(I)Z"⟩, 13) := ⟨⟨by decide +kernel, by decide +kernel⟩, List.mem_of_getElem? (i := 605) (by decide +kernel), List.mem_of_getElem? (i := 695) (by decide +kernel), List.mem_of_getElem? (i := 696) (by decide +kernel)⟩
theorem lw_p25 : lw_okq (⟨"TagBusModel", "put", "(IIII)I"⟩, 13) := ⟨⟨by decide +kernel, by decide +kernel⟩, List.mem_of_getElem? (i := 605) (by decide +kernel), List.mem_of_getElem? (i := 699) (by decide +kernel), List.mem_of_getElem? (i := 700) (by decide +kernel)⟩
theorem lw_p26 : lw_okq (⟨"TagBusModel", "go", "(Z)I"⟩, 13) := ⟨⟨by decide +kernel, by decide +kernel⟩, List.mem_of_getElem? (i := 605) (by decide +kernel), List.mem_of_getElem? (i := 718) (by decide +kernel), List.mem_of_getElem? (i := 719) (by decide +kernel)⟩
theorem lw_p27 : lw_okq (⟨"TagBusModel", "question", "()V"⟩, 13) := ⟨⟨by decide +kernel, by decide +kernel⟩, List.mem_of_getElem? (i := 605) (by decide +kernel), List.mem_of_getElem? (i := 722) (by decide +kernel), List.mem_of_getElem? (i := 723) (by decide +kernel)⟩
theorem lw_p28 : lw_okq (⟨"TagBusModel", "sign", "(II)I"⟩, 13) := ⟨⟨by decide +kernel, by decide +kernel⟩, List.mem_of_getElem? (i := 605) (by decide +kernel), List.mem_of_getElem? (i := 726) (by decide +kernel), List.mem_of_getElem? (i := 727) (by decide +kernel)⟩
theorem lw_p29 : lw_okq (⟨"TagBusModel", "number", "(I)I"⟩, 13) := ⟨⟨by decide +kernel, by decide +kernel⟩, List.mem_of_getElem? (i := 605) (by decide +kernel), List.mem_of_getElem? (i := 730) (by decide +kernel), List.mem_of_getElem? (i := 731) (by decide +kernel)⟩
theorem lw_p30 : lw_okq (⟨"TagBusModel", "tick", "()I"⟩, 13) := ⟨⟨by decide +kernel, by decide +kernel⟩, List.mem_of_getElem? (i := 605) (by decide +kernel), List.mem_of_getElem? (i := 746) (by decide +kernel), List.mem_of_getElem? (i := 747) (by decide +kernel)⟩
theorem lw_p31 : lw_okq (⟨"TagBusModel", "doAll", "()V"⟩, 13) := ⟨⟨by decide +kernel, by decide +kernel⟩, List.mem_of_getElem? (i := 605) (by decide +kernel), List.mem_of_getElem? (i := 750) (by decide +kernel), List.mem_of_getElem? (i := 751) (by decide +kernel)⟩
def lw_privs_2 : List (MethodName × Nat) := [(⟨"TagBus$Bus", "noteAnswer", "(LTagBus$Master;I)V"⟩, 15), (⟨"TagBus$Bus", "sendQuestionOf", "(I)I"⟩, 15), (⟨"TagBus$Bus", "refuse", "(LTagBus$Master;LTagBus$Question;)V"⟩, 15), (⟨"TagBus$Bus", "letIn", "(LTagBus$Master;LTagBus$Target;I)V"⟩, 15), (⟨"TagBus$Bus", "countWaits", "(I)V"⟩, 15), (⟨"TagBusModel", "isLentFrom", "(I)Z"⟩, 13), (⟨"TagBusModel", "change", "(II)I"⟩, 13), (⟨"TagBusModel", "know", "()V"⟩, 13), (⟨"TagBusModel", "isRoom", "(I)Z"⟩, 13), (⟨"TagBusModel", "put", "(IIII)I"⟩, 13), (⟨"TagBusModel", "go", "(Z)I"⟩, 13), (⟨"TagBusModel", "question", "()V"⟩, 13), (⟨"TagBusModel", "sign", "(II)I"⟩, 13), (⟨"TagBusModel", "number", "(I)I"⟩, 13), (⟨"TagBusModel", "tick", "()I"⟩, 13), (⟨"TagBusModel", "doAll", "()V"⟩, 13)]
theorem lw_r2 : ∀ q ∈ lw_privs_2, lw_okq q := List.forall_mem_cons.mpr ⟨lw_p16, List.forall_mem_cons.mpr ⟨lw_p17, List.forall_mem_cons.mpr ⟨lw_p18, List.forall_mem_cons.mpr ⟨lw_p19, List.forall_mem_cons.mpr ⟨lw_p20, List.forall_mem_cons.mpr ⟨lw_p21, List.forall_mem_cons.mpr ⟨lw_p22, List.forall_mem_cons.mpr ⟨lw_p23, List.forall_mem_cons.mpr ⟨lw_p24, List.forall_mem_cons.mpr ⟨lw_p25, List.forall_mem_cons.mpr ⟨lw_p26, List.forall_mem_cons.mpr ⟨lw_p27, List.forall_mem_cons.mpr ⟨lw_p28, List.forall_mem_cons.mpr ⟨lw_p29, List.forall_mem_cons.mpr ⟨lw_p30, List.forall_mem_cons.mpr ⟨lw_p31, fun _ h => absurd h List.not_mem_nil⟩⟩⟩⟩⟩⟩⟩⟩⟩⟩⟩⟩⟩⟩⟩⟩
theorem lw_p32 : lw_okq (⟨"TagBusModel", "targetThatGoes", "()I"⟩, 13) := ⟨⟨by decide +kernel, by decide +kernel⟩, List.mem_of_getElem? (i := 605) (by decide +kernel), List.mem_of_getElem? (i := 754) (by decide +kernel), List.mem_of_getElem? (i := 755) (by decide +kernel)⟩
theorem lw_p33 : lw_okq (⟨"TagBusModel", "answering", "(I)I"⟩, 13) := ⟨⟨by decide +kernel, by decide +kernel⟩, List.mem_of_getElem? (i := 605) (by decide +kernel), List.mem_of_getElem? (i := 758) (by decide +kernel), List.mem_of_getElem? (i := 759) (by decide +kernel)⟩
theorem lw_p34 : lw_okq (⟨"TagBusModel", "masterThatGoes", "()I"⟩, 13) := ⟨⟨by decide +kernel, by decide +kernel⟩, List.mem_of_getElem? (i := 605) (by decide +kernel), List.mem_of_getElem? (i := 762) (by decide +kernel), List.mem_of_getElem? (i := 763) (by decide +kernel)⟩
theorem lw_p35 : lw_okq (⟨"TagBusModel", "canSend", "(I)Z"⟩, 13) := ⟨⟨by decide +kernel, by decide +kernel⟩, List.mem_of_getElem? (i := 605) (by decide +kernel), List.mem_of_getElem? (i := 766) (by decide +kernel), List.mem_of_getElem? (i := 767) (by decide +kernel)⟩
theorem lw_p36 : lw_okq (⟨"TagBusModel", "freeTag", "()I"⟩, 13) := ⟨⟨by decide +kernel, by decide +kernel⟩, List.mem_of_getElem? (i := 605) (by decide +kernel), List.mem_of_getElem? (i := 770) (by decide +kernel), List.mem_of_getElem? (i := 771) (by decide +kernel)⟩
theorem lw_p37 : lw_okq (⟨"TagBusModel", "holds", "(I)I"⟩, 13) := ⟨⟨by decide +kernel, by decide +kernel⟩, List.mem_of_getElem? (i := 605) (by decide +kernel), List.mem_of_getElem? (i := 774) (by decide +kernel), List.mem_of_getElem? (i := 775) (by decide +kernel)⟩
theorem lw_p38 : lw_okq (⟨"TagBusModel", "answers", "(I)I"⟩, 13) := ⟨⟨by decide +kernel, by decide +kernel⟩, List.mem_of_getElem? (i := 605) (by decide +kernel), List.mem_of_getElem? (i := 778) (by decide +kernel), List.mem_of_getElem? (i := 779) (by decide +kernel)⟩
theorem lw_p39 : lw_okq (⟨"TagBusModel", "sends", "(I)I"⟩, 13) := ⟨⟨by decide +kernel, by decide +kernel⟩, List.mem_of_getElem? (i := 605) (by decide +kernel), List.mem_of_getElem? (i := 782) (by decide +kernel), List.mem_of_getElem? (i := 783) (by decide +kernel)⟩
theorem lw_p40 : lw_okq (⟨"TagBusModel", "isQuestion", "(I)Z"⟩, 13) := ⟨⟨by decide +kernel, by decide +kernel⟩, List.mem_of_getElem? (i := 605) (by decide +kernel), List.mem_of_getElem? (i := 802) (by decide +kernel), List.mem_of_getElem? (i := 803) (by decide +kernel)⟩
theorem lw_p41 : lw_okq (⟨"TagBusModel", "answered", "(IZ)I"⟩, 13) := ⟨⟨by decide +kernel, by decide +kernel⟩, List.mem_of_getElem? (i := 605) (by decide +kernel), List.mem_of_getElem? (i := 814) (by decide +kernel), List.mem_of_getElem? (i := 815) (by decide +kernel)⟩
theorem lw_p42 : lw_okq (⟨"TagBusModel", "doneIn", "(I)I"⟩, 13) := ⟨⟨by decide +kernel, by decide +kernel⟩, List.mem_of_getElem? (i := 605) (by decide +kernel), List.mem_of_getElem? (i := 826) (by decide +kernel), List.mem_of_getElem? (i := 827) (by decide +kernel)⟩
theorem lw_p43 : lw_okq (⟨"TagBusModel", "putAside", "()V"⟩, 13) := ⟨⟨by decide +kernel, by decide +kernel⟩, List.mem_of_getElem? (i := 605) (by decide +kernel), List.mem_of_getElem? (i := 838) (by decide +kernel), List.mem_of_getElem? (i := 839) (by decide +kernel)⟩
theorem lw_p44 : lw_okq (⟨"TagBusModel", "putBack", "()V"⟩, 13) := ⟨⟨by decide +kernel, by decide +kernel⟩, List.mem_of_getElem? (i := 605) (by decide +kernel), List.mem_of_getElem? (i := 842) (by decide +kernel), List.mem_of_getElem? (i := 843) (by decide +kernel)⟩
theorem lw_p45 : lw_okq (⟨"TagBusModel", "freeTags", "()I"⟩, 13) := ⟨⟨by decide +kernel, by decide +kernel⟩, List.mem_of_getElem? (i := 605) (by decide +kernel), List.mem_of_getElem? (i := 854) (by decide +kernel), List.mem_of_getElem? (i := 855) (by decide +kernel)⟩
def lw_privs_3 : List (MethodName × Nat) := [(⟨"TagBusModel", "targetThatGoes", "()I"⟩, 13), (⟨"TagBusModel", "answering", "(I)I"⟩, 13), (⟨"TagBusModel", "masterThatGoes", "()I"⟩, 13), (⟨"TagBusModel", "canSend", "(I)Z"⟩, 13), (⟨"TagBusModel", "freeTag", "()I"⟩, 13), (⟨"TagBusModel", "holds", "(I)I"⟩, 13), (⟨"TagBusModel", "answers", "(I)I"⟩, 13), (⟨"TagBusModel", "sends", "(I)I"⟩, 13), (⟨"TagBusModel", "isQuestion", "(I)Z"⟩, 13), (⟨"TagBusModel", "answered", "(IZ)I"⟩, 13), (⟨"TagBusModel", "doneIn", "(I)I"⟩, 13), (⟨"TagBusModel", "putAside", "()V"⟩, 13), (⟨"TagBusModel", "putBack", "()V"⟩, 13), (⟨"TagBusModel", "freeTags", "()I"⟩, 13)]
theorem lw_r3 : ∀ q ∈ lw_privs_3, lw_okq q := List.forall_mem_cons.mpr ⟨lw_p32, List.forall_mem_cons.mpr ⟨lw_p33, List.forall_mem_cons.mpr ⟨lw_p34, List.forall_mem_cons.mpr ⟨lw_p35, List.forall_mem_cons.mpr ⟨lw_p36, List.forall_mem_cons.mpr ⟨lw_p37, List.forall_mem_cons.mpr ⟨lw_p38, List.forall_mem_cons.mpr ⟨lw_p39, List.forall_mem_cons.mpr ⟨lw_p40, List.forall_mem_cons.mpr ⟨lw_p41, List.forall_mem_cons.mpr ⟨lw_p42, List.forall_mem_cons.mpr ⟨lw_p43, List.forall_mem_cons.mpr ⟨lw_p44, List.forall_mem_cons.mpr ⟨lw_p45, fun _ h => absurd h List.not_mem_nil⟩⟩⟩⟩⟩⟩⟩⟩⟩⟩⟩⟩⟩⟩
def lw_privs : List (MethodName × Nat) := lw_privs_1 ++ (lw_privs_2 ++ (lw_privs_3))
def lw_tbl : List Cond := k2_sels lw_privs ++ tables_1
theorem lw_privs_ok : ∀ q ∈ lw_privs, lw_okq q := by
  show ∀ q ∈ lw_privs_1 ++ (lw_privs_2 ++ (lw_privs_3)), lw_okq q
  exact List.forall_mem_append.mpr ⟨lw_r1, List.forall_mem_append.mpr ⟨lw_r2, lw_r3⟩⟩

def RX0 : String := "TagBus$Bus"
def TX0 : u_T := fun k => match k with
  | 0 => ("TagBus$Bus", "settings", "[I", true)
  | 1 => ("TagBus$Bus", "lentTo", "[I", true)
  | 2 => ("TagBus$Bus", "masters", "[LTagBus$Master;", true)
  | 3 => ("TagBus$Bus", "targets", "[LTagBus$Target;", true)
  | 4 => ("TagBus$Bus", "questions", "[LTagBus$Question;", true)
  | 5 => ("TagBus$Bus", "questionsSoFar", "I", false)
  | 6 => ("TagBus$Bus", "tick", "I", false)
  | 7 => ("TagBus$Bus", "latestTrip", "I", false)
  | 8 => ("TagBus$Bus", "turnOfMaster", "I", false)
  | 9 => ("TagBus$Bus", "turnOfTarget", "I", false)
  | 10 => ("TagBus$Bus", "answerTrips", "I", false)
  | 11 => ("TagBus$Bus", "questionTrips", "I", false)
  | 12 => ("TagBus$Bus", "refusedTrips", "I", false)
  | 13 => ("TagBus$Bus", "idleTicks", "I", false)
  | _ => ("TagBus$Bus", "overtakings", "I", false)
def tyX0 : Nat → FieldType := fun k => match k with
  | 0 => .array .int
  | 1 => .array .int
  | 2 => .array (.object "TagBus$Master")
  | 3 => .array (.object "TagBus$Target")
  | 4 => .array (.object "TagBus$Question")
  | 5 => .int
  | 6 => .int
  | 7 => .int
  | 8 => .int
  | 9 => .int
  | 10 => .int
  | 11 => .int
  | 12 => .int
  | 13 => .int
  | _ => .int
theorem nmX0 : ∀ a, a < 15 → ∀ b, b < 15 → a ≠ b → (TX0 a).2.1 ≠ (TX0 b).2.1 := by decide +kernel
theorem tyX0_ok : ∀ k, k < 15 → parseFieldDescriptor (TX0 k).2.2.1 = some (tyX0 k) := by decide +kernel
abbrev cX0_init : ByteArray := prog_2_method_1_code
def yX0_init : MethodName := ⟨RX0, "<init>", "()V"⟩
abbrev cX0_copyFrom : ByteArray := prog_2_method_2_code
def yX0_copyFrom : MethodName := ⟨RX0, "copyFrom", "(LTagBus$Bus;)V"⟩
abbrev cX0_masterAt : ByteArray := prog_2_method_3_code
def yX0_masterAt : MethodName := ⟨RX0, "masterAt", "(I)LTagBus$Master;"⟩
abbrev cX0_targetAt : ByteArray := prog_2_method_4_code
def yX0_targetAt : MethodName := ⟨RX0, "targetAt", "(I)LTagBus$Target;"⟩
abbrev cX0_questionAt : ByteArray := prog_2_method_5_code
def yX0_questionAt : MethodName := ⟨RX0, "questionAt", "(I)LTagBus$Question;"⟩
abbrev cX0_highestLentTag : ByteArray := prog_2_method_6_code
def yX0_highestLentTag : MethodName := ⟨RX0, "highestLentTag", "()I"⟩
abbrev cX0_freeTags : ByteArray := prog_2_method_7_code
def yX0_freeTags : MethodName := ⟨RX0, "freeTags", "()I"⟩
abbrev cX0_lowestFreeTag : ByteArray := prog_2_method_8_code
def yX0_lowestFreeTag : MethodName := ⟨RX0, "lowestFreeTag", "()I"⟩
abbrev cX0_put : ByteArray := prog_2_method_9_code
def yX0_put : MethodName := ⟨RX0, "put", "(IIII)I"⟩
abbrev cX0_takeLastOf : ByteArray := prog_2_method_10_code
def yX0_takeLastOf : MethodName := ⟨RX0, "takeLastOf", "(LTagBus$Master;)I"⟩
abbrev cX0_doneIn : ByteArray := prog_2_method_11_code
def yX0_doneIn : MethodName := ⟨RX0, "doneIn", "(LTagBus$Target;)I"⟩
abbrev cX0_isOutOfPatience : ByteArray := prog_2_method_12_code
def yX0_isOutOfPatience : MethodName := ⟨RX0, "isOutOfPatience", "(LTagBus$Master;)Z"⟩
abbrev cX0_passTick : ByteArray := prog_2_method_13_code
def yX0_passTick : MethodName := ⟨RX0, "passTick", "()I"⟩
abbrev cX0_finishQuestions : ByteArray := prog_2_method_14_code
def yX0_finishQuestions : MethodName := ⟨RX0, "finishQuestions", "()V"⟩
abbrev cX0_makeTrip : ByteArray := prog_2_method_15_code
def yX0_makeTrip : MethodName := ⟨RX0, "makeTrip", "()I"⟩
abbrev cX0_prefersAnswer : ByteArray := prog_2_method_16_code
def yX0_prefersAnswer : MethodName := ⟨RX0, "prefersAnswer", "()Z"⟩
abbrev cX0_targetThatAnswers : ByteArray := prog_2_method_17_code
def yX0_targetThatAnswers : MethodName := ⟨RX0, "targetThatAnswers", "()I"⟩
abbrev cX0_placeOfAnswer : ByteArray := prog_2_method_18_code
def yX0_placeOfAnswer : MethodName := ⟨RX0, "placeOfAnswer", "(LTagBus$Target;)I"⟩
abbrev cX0_masterThatSends : ByteArray := prog_2_method_19_code
def yX0_masterThatSends : MethodName := ⟨RX0, "masterThatSends", "()I"⟩
abbrev cX0_masterThatWaitedTooLong : ByteArray := prog_2_method_20_code
def yX0_masterThatWaitedTooLong : MethodName := ⟨RX0, "masterThatWaitedTooLong", "()I"⟩
abbrev cX0_maySend : ByteArray := prog_2_method_21_code
def yX0_maySend : MethodName := ⟨RX0, "maySend", "(LTagBus$Master;)Z"⟩
abbrev cX0_sendQuestionOf : ByteArray := prog_2_method_22_code
def yX0_sendQuestionOf : MethodName := ⟨RX0, "sendQuestionOf", "(I)I"⟩
abbrev cX0_refuse : ByteArray := prog_2_method_23_code
def yX0_refuse : MethodName := ⟨RX0, "refuse", "(LTagBus$Master;LTagBus$Question;)V"⟩
abbrev cX0_letIn : ByteArray := prog_2_method_24_code
def yX0_letIn : MethodName := ⟨RX0, "letIn", "(LTagBus$Master;LTagBus$Target;I)V"⟩
abbrev cX0_sendAnswerOf : ByteArray := prog_2_method_25_code
def yX0_sendAnswerOf : MethodName := ⟨RX0, "sendAnswerOf", "(I)I"⟩
abbrev cX0_takeTagBack : ByteArray := prog_2_method_26_code
def yX0_takeTagBack : MethodName := ⟨RX0, "takeTagBack", "(LTagBus$Question;)V"⟩
abbrev cX0_noteAnswer : ByteArray := prog_2_method_27_code
def yX0_noteAnswer : MethodName := ⟨RX0, "noteAnswer", "(LTagBus$Master;I)V"⟩
abbrev cX0_countWaits : ByteArray := prog_2_method_28_code
def yX0_countWaits : MethodName := ⟨RX0, "countWaits", "(I)V"⟩
def RX1 : String := "TagBus$Line"
def TX1 : u_T := fun k => match k with
  | 0 => ("TagBus$Line", "numbers", "[I", true)
  | _ => ("TagBus$Line", "length", "I", false)
def tyX1 : Nat → FieldType := fun k => match k with
  | 0 => .array .int
  | _ => .int
theorem nmX1 : ∀ a, a < 2 → ∀ b, b < 2 → a ≠ b → (TX1 a).2.1 ≠ (TX1 b).2.1 := by decide +kernel
theorem tyX1_ok : ∀ k, k < 2 → parseFieldDescriptor (TX1 k).2.2.1 = some (tyX1 k) := by decide +kernel
abbrev cX1_init : ByteArray := prog_3_method_1_code
def yX1_init : MethodName := ⟨RX1, "<init>", "()V"⟩
abbrev cX1_at : ByteArray := prog_3_method_2_code
def yX1_at : MethodName := ⟨RX1, "at", "(I)I"⟩
abbrev cX1_append : ByteArray := prog_3_method_3_code
def yX1_append : MethodName := ⟨RX1, "append", "(I)V"⟩
abbrev cX1_removeAt : ByteArray := prog_3_method_4_code
def yX1_removeAt : MethodName := ⟨RX1, "removeAt", "(I)V"⟩
abbrev cX1_copyFrom : ByteArray := prog_3_method_5_code
def yX1_copyFrom : MethodName := ⟨RX1, "copyFrom", "(LTagBus$Line;)V"⟩
def RX2 : String := "TagBus$Master"
def TX2 : u_T := fun k => match k with
  | 0 => ("TagBus$Master", "row", "LTagBus$Line;", true)
  | 1 => ("TagBus$Master", "share", "I", false)
  | 2 => ("TagBus$Master", "holds", "I", false)
  | 3 => ("TagBus$Master", "refusals", "I", false)
  | 4 => ("TagBus$Master", "notBefore", "I", false)
  | 5 => ("TagBus$Master", "waited", "I", false)
  | 6 => ("TagBus$Master", "answered", "I", false)
  | _ => ("TagBus$Master", "longest", "I", false)
def tyX2 : Nat → FieldType := fun k => match k with
  | 0 => .object "TagBus$Line"
  | 1 => .int
  | 2 => .int
  | 3 => .int
  | 4 => .int
  | 5 => .int
  | 6 => .int
  | _ => .int
theorem nmX2 : ∀ a, a < 8 → ∀ b, b < 8 → a ≠ b → (TX2 a).2.1 ≠ (TX2 b).2.1 := by decide +kernel
theorem tyX2_ok : ∀ k, k < 8 → parseFieldDescriptor (TX2 k).2.2.1 = some (tyX2 k) := by decide +kernel
abbrev cX2_init : ByteArray := prog_4_method_1_code
def yX2_init : MethodName := ⟨RX2, "<init>", "()V"⟩
abbrev cX2_copyFrom : ByteArray := prog_4_method_2_code
def yX2_copyFrom : MethodName := ⟨RX2, "copyFrom", "(LTagBus$Master;)V"⟩
def RX3 : String := "TagBus$Question"
def TX3 : u_T := fun k => match k with
  | 0 => ("TagBus$Question", "master", "I", false)
  | 1 => ("TagBus$Question", "target", "I", false)
  | 2 => ("TagBus$Question", "address", "I", false)
  | 3 => ("TagBus$Question", "written", "I", false)
  | 4 => ("TagBus$Question", "where", "I", false)
  | 5 => ("TagBus$Question", "tag", "I", false)
  | 6 => ("TagBus$Question", "answer", "I", false)
  | 7 => ("TagBus$Question", "putAt", "I", false)
  | 8 => ("TagBus$Question", "doneAt", "I", false)
  | 9 => ("TagBus$Question", "took", "I", false)
  | _ => ("TagBus$Question", "refusals", "I", false)
def tyX3 : Nat → FieldType := fun k => match k with
  | 0 => .int
  | 1 => .int
  | 2 => .int
  | 3 => .int
  | 4 => .int
  | 5 => .int
  | 6 => .int
  | 7 => .int
  | 8 => .int
  | 9 => .int
  | _ => .int
theorem nmX3 : ∀ a, a < 11 → ∀ b, b < 11 → a ≠ b → (TX3 a).2.1 ≠ (TX3 b).2.1 := by decide +kernel
theorem tyX3_ok : ∀ k, k < 11 → parseFieldDescriptor (TX3 k).2.2.1 = some (tyX3 k) := by decide +kernel
abbrev cX3_init : ByteArray := prog_5_method_1_code
def yX3_init : MethodName := ⟨RX3, "<init>", "()V"⟩
abbrev cX3_begin : ByteArray := prog_5_method_2_code
def yX3_begin : MethodName := ⟨RX3, "begin", "(IIIII)V"⟩
abbrev cX3_copyFrom : ByteArray := prog_5_method_3_code
def yX3_copyFrom : MethodName := ⟨RX3, "copyFrom", "(LTagBus$Question;)V"⟩
def RX4 : String := "TagBus$QuestionText"
def TX4 : u_T := fun k => match k with
  | 0 => ("TagBus$QuestionText", "signs", "[C", true)
  | 1 => ("TagBus$QuestionText", "length", "I", false)
  | 2 => ("TagBus$QuestionText", "questions", "[LTagBus$Question;", true)
  | 3 => ("TagBus$QuestionText", "found", "I", false)
  | _ => ("TagBus$QuestionText", "at", "I", false)
def tyX4 : Nat → FieldType := fun k => match k with
  | 0 => .array .char
  | 1 => .int
  | 2 => .array (.object "TagBus$Question")
  | 3 => .int
  | _ => .int
theorem nmX4 : ∀ a, a < 5 → ∀ b, b < 5 → a ≠ b → (TX4 a).2.1 ≠ (TX4 b).2.1 := by decide +kernel
theorem tyX4_ok : ∀ k, k < 5 → parseFieldDescriptor (TX4 k).2.2.1 = some (tyX4 k) := by decide +kernel
abbrev cX4_init : ByteArray := prog_6_method_1_code
def yX4_init : MethodName := ⟨RX4, "<init>", "()V"⟩
abbrev cX4_append : ByteArray := prog_6_method_2_code
def yX4_append : MethodName := ⟨RX4, "append", "(C)Z"⟩
abbrev cX4_questionAt : ByteArray := prog_6_method_3_code
def yX4_questionAt : MethodName := ⟨RX4, "questionAt", "(I)LTagBus$Question;"⟩
abbrev cX4_foundOf : ByteArray := prog_6_method_4_code
def yX4_foundOf : MethodName := ⟨RX4, "foundOf", "(I)I"⟩
abbrev cX4_findFault : ByteArray := prog_6_method_5_code
def yX4_findFault : MethodName := ⟨RX4, "findFault", "()I"⟩
abbrev cX4_readQuestion : ByteArray := prog_6_method_6_code
def yX4_readQuestion : MethodName := ⟨RX4, "readQuestion", "(LTagBus$Question;)Z"⟩
abbrev cX4_skip : ByteArray := prog_6_method_7_code
def yX4_skip : MethodName := ⟨RX4, "skip", "(C)Z"⟩
abbrev cX4_readNumber : ByteArray := prog_6_method_8_code
def yX4_readNumber : MethodName := ⟨RX4, "readNumber", "(I)I"⟩
abbrev cX4_digitAt : ByteArray := prog_6_method_9_code
def yX4_digitAt : MethodName := ⟨RX4, "digitAt", "(I)I"⟩
def RX5 : String := "TagBus$Target"
def TX5 : u_T := fun k => match k with
  | 0 => ("TagBus$Target", "cells", "[I", true)
  | 1 => ("TagBus$Target", "numbers", "[I", true)
  | _ => ("TagBus$Target", "inside", "LTagBus$Line;", true)
def tyX5 : Nat → FieldType := fun k => match k with
  | 0 => .array .int
  | 1 => .array .int
  | _ => .object "TagBus$Line"
theorem nmX5 : ∀ a, a < 3 → ∀ b, b < 3 → a ≠ b → (TX5 a).2.1 ≠ (TX5 b).2.1 := by decide +kernel
theorem tyX5_ok : ∀ k, k < 3 → parseFieldDescriptor (TX5 k).2.2.1 = some (tyX5 k) := by decide +kernel
abbrev cX5_init : ByteArray := prog_7_method_1_code
def yX5_init : MethodName := ⟨RX5, "<init>", "()V"⟩
abbrev cX5_isFull : ByteArray := prog_7_method_2_code
def yX5_isFull : MethodName := ⟨RX5, "isFull", "()Z"⟩
abbrev cX5_useCell : ByteArray := prog_7_method_3_code
def yX5_useCell : MethodName := ⟨RX5, "useCell", "(II)I"⟩
abbrev cX5_copyFrom : ByteArray := prog_7_method_4_code
def yX5_copyFrom : MethodName := ⟨RX5, "copyFrom", "(LTagBus$Target;)V"⟩
def RX6 : String := "TagBus"
def TX6 : u_T := fun k => match k with
  | 0 => ("TagBus", "bus", "LTagBus$Bus;", true)
  | 1 => ("TagBus", "trial", "LTagBus$Bus;", true)
  | 2 => ("TagBus", "snapshot", "LTagBus$Bus;", true)
  | 3 => ("TagBus", "hasSnapshot", "Z", false)
  | 4 => ("TagBus", "past", "[LTagBus$Bus;", true)
  | 5 => ("TagBus", "pastCount", "I", false)
  | _ => ("TagBus", "text", "LTagBus$QuestionText;", true)
def tyX6 : Nat → FieldType := fun k => match k with
  | 0 => .object "TagBus$Bus"
  | 1 => .object "TagBus$Bus"
  | 2 => .object "TagBus$Bus"
  | 3 => .boolean
  | 4 => .array (.object "TagBus$Bus")
  | 5 => .int
  | _ => .object "TagBus$QuestionText"
theorem nmX6 : ∀ a, a < 7 → ∀ b, b < 7 → a ≠ b → (TX6 a).2.1 ≠ (TX6 b).2.1 := by decide +kernel
theorem tyX6_ok : ∀ k, k < 7 → parseFieldDescriptor (TX6 k).2.2.1 = some (tyX6 k) := by decide +kernel
abbrev cX6_init : ByteArray := prog_1_method_1_code
def yX6_init : MethodName := ⟨RX6, "<init>", "()V"⟩
abbrev cX6_set : ByteArray := prog_1_method_2_code
def yX6_set : MethodName := ⟨RX6, "set", "(II)I"⟩
abbrev cX6_setShare : ByteArray := prog_1_method_3_code
def yX6_setShare : MethodName := ⟨RX6, "setShare", "(II)I"⟩
abbrev cX6_setTarget : ByteArray := prog_1_method_4_code
def yX6_setTarget : MethodName := ⟨RX6, "setTarget", "(III)I"⟩
abbrev cX6_setCell : ByteArray := prog_1_method_5_code
def yX6_setCell : MethodName := ⟨RX6, "setCell", "(III)I"⟩
abbrev cX6_read : ByteArray := prog_1_method_6_code
def yX6_read : MethodName := ⟨RX6, "read", "(III)I"⟩
abbrev cX6_write : ByteArray := prog_1_method_7_code
def yX6_write : MethodName := ⟨RX6, "write", "(IIII)I"⟩
abbrev cX6_ask : ByteArray := prog_1_method_8_code
def yX6_ask : MethodName := ⟨RX6, "ask", "()I"⟩
abbrev cX6_withdraw : ByteArray := prog_1_method_9_code
def yX6_withdraw : MethodName := ⟨RX6, "withdraw", "(I)I"⟩
abbrev cX6_pass : ByteArray := prog_1_method_10_code
def yX6_pass : MethodName := ⟨RX6, "pass", "(I)I"⟩
abbrev cX6_type : ByteArray := prog_1_method_11_code
def yX6_type : MethodName := ⟨RX6, "type", "(C)I"⟩
abbrev cX6_clearText : ByteArray := prog_1_method_12_code
def yX6_clearText : MethodName := ⟨RX6, "clearText", "()I"⟩
abbrev cX6_undo : ByteArray := prog_1_method_13_code
def yX6_undo : MethodName := ⟨RX6, "undo", "()I"⟩
abbrev cX6_keep : ByteArray := prog_1_method_14_code
def yX6_keep : MethodName := ⟨RX6, "keep", "()I"⟩
abbrev cX6_restore : ByteArray := prog_1_method_15_code
def yX6_restore : MethodName := ⟨RX6, "restore", "()I"⟩
abbrev cX6_question : ByteArray := prog_1_method_16_code
def yX6_question : MethodName := ⟨RX6, "question", "(II)I"⟩
abbrev cX6_tag : ByteArray := prog_1_method_17_code
def yX6_tag : MethodName := ⟨RX6, "tag", "(I)I"⟩
abbrev cX6_master : ByteArray := prog_1_method_18_code
def yX6_master : MethodName := ⟨RX6, "master", "(II)I"⟩
abbrev cX6_row : ByteArray := prog_1_method_19_code
def yX6_row : MethodName := ⟨RX6, "row", "(II)I"⟩
abbrev cX6_target : ByteArray := prog_1_method_20_code
def yX6_target : MethodName := ⟨RX6, "target", "(II)I"⟩
abbrev cX6_cell : ByteArray := prog_1_method_21_code
def yX6_cell : MethodName := ⟨RX6, "cell", "(II)I"⟩
abbrev cX6_next : ByteArray := prog_1_method_22_code
def yX6_next : MethodName := ⟨RX6, "next", "(I)I"⟩
abbrev cX6_answeredIn : ByteArray := prog_1_method_23_code
def yX6_answeredIn : MethodName := ⟨RX6, "answeredIn", "(I)I"⟩
abbrev cX6_count : ByteArray := prog_1_method_24_code
def yX6_count : MethodName := ⟨RX6, "count", "(I)I"⟩
abbrev cX6_isIndex : ByteArray := prog_1_method_25_code
def yX6_isIndex : MethodName := ⟨RX6, "isIndex", "(II)Z"⟩
abbrev cX6_isBetween : ByteArray := prog_1_method_26_code
def yX6_isBetween : MethodName := ⟨RX6, "isBetween", "(III)Z"⟩
abbrev cX6_putOne : ByteArray := prog_1_method_27_code
def yX6_putOne : MethodName := ⟨RX6, "putOne", "(IIII)I"⟩
abbrev cX6_hasRoomForText : ByteArray := prog_1_method_28_code
def yX6_hasRoomForText : MethodName := ⟨RX6, "hasRoomForText", "()Z"⟩
abbrev cX6_record : ByteArray := prog_1_method_29_code
def yX6_record : MethodName := ⟨RX6, "record", "()V"⟩
def RX7 : String := "TagBusModel"
def TX7 : u_T := fun k => match k with
  | 0 => ("TagBusModel", "s", "[I", true)
  | 1 => ("TagBusModel", "aside", "[I", true)
  | 2 => ("TagBusModel", "before", "[I", true)
  | 3 => ("TagBusModel", "known", "I", false)
  | 4 => ("TagBusModel", "kept", "[I", true)
  | 5 => ("TagBusModel", "isKept", "Z", false)
  | 6 => ("TagBusModel", "text", "[I", true)
  | 7 => ("TagBusModel", "typed", "I", false)
  | 8 => ("TagBusModel", "at", "I", false)
  | 9 => ("TagBusModel", "isWrong", "Z", false)
  | 10 => ("TagBusModel", "asks", "[I", true)
  | 11 => ("TagBusModel", "counts", "[I", true)
  | _ => ("TagBusModel", "tripOf", "I", false)
def tyX7 : Nat → FieldType := fun k => match k with
  | 0 => .array .int
  | 1 => .array .int
  | 2 => .array .int
  | 3 => .int
  | 4 => .array .int
  | 5 => .boolean
  | 6 => .array .int
  | 7 => .int
  | 8 => .int
  | 9 => .boolean
  | 10 => .array .int
  | 11 => .array .int
  | _ => .int
theorem nmX7 : ∀ a, a < 13 → ∀ b, b < 13 → a ≠ b → (TX7 a).2.1 ≠ (TX7 b).2.1 := by decide +kernel
theorem tyX7_ok : ∀ k, k < 13 → parseFieldDescriptor (TX7 k).2.2.1 = some (tyX7 k) := by decide +kernel
abbrev cX7_init : ByteArray := prog_9_method_1_code
def yX7_init : MethodName := ⟨RX7, "<init>", "()V"⟩
abbrev cX7_in : ByteArray := prog_9_method_3_code
def yX7_in : MethodName := ⟨RX7, "in", "(III)Z"⟩
abbrev cX7_isPort : ByteArray := prog_9_method_4_code
def yX7_isPort : MethodName := ⟨RX7, "isPort", "(I)Z"⟩
abbrev cX7_ofMaster : ByteArray := prog_9_method_5_code
def yX7_ofMaster : MethodName := ⟨RX7, "ofMaster", "(II)I"⟩
abbrev cX7_ofTarget : ByteArray := prog_9_method_6_code
def yX7_ofTarget : MethodName := ⟨RX7, "ofTarget", "(II)I"⟩
abbrev cX7_of : ByteArray := prog_9_method_7_code
def yX7_of : MethodName := ⟨RX7, "of", "(II)I"⟩
abbrev cX7_know : ByteArray := prog_9_method_8_code
def yX7_know : MethodName := ⟨RX7, "know", "()V"⟩
abbrev cX7_change : ByteArray := prog_9_method_9_code
def yX7_change : MethodName := ⟨RX7, "change", "(II)I"⟩
abbrev cX7_isLentFrom : ByteArray := prog_9_method_10_code
def yX7_isLentFrom : MethodName := ⟨RX7, "isLentFrom", "(I)Z"⟩
abbrev cX7_set : ByteArray := prog_9_method_11_code
def yX7_set : MethodName := ⟨RX7, "set", "(II)I"⟩
abbrev cX7_setShare : ByteArray := prog_9_method_12_code
def yX7_setShare : MethodName := ⟨RX7, "setShare", "(II)I"⟩
abbrev cX7_setTarget : ByteArray := prog_9_method_13_code
def yX7_setTarget : MethodName := ⟨RX7, "setTarget", "(III)I"⟩
abbrev cX7_setCell : ByteArray := prog_9_method_14_code
def yX7_setCell : MethodName := ⟨RX7, "setCell", "(III)I"⟩
abbrev cX7_isRoom : ByteArray := prog_9_method_15_code
def yX7_isRoom : MethodName := ⟨RX7, "isRoom", "(I)Z"⟩
abbrev cX7_put : ByteArray := prog_9_method_16_code
def yX7_put : MethodName := ⟨RX7, "put", "(IIII)I"⟩
abbrev cX7_read : ByteArray := prog_9_method_17_code
def yX7_read : MethodName := ⟨RX7, "read", "(III)I"⟩
abbrev cX7_write : ByteArray := prog_9_method_18_code
def yX7_write : MethodName := ⟨RX7, "write", "(IIII)I"⟩
abbrev cX7_withdraw : ByteArray := prog_9_method_19_code
def yX7_withdraw : MethodName := ⟨RX7, "withdraw", "(I)I"⟩
abbrev cX7_sign : ByteArray := prog_9_method_20_code
def yX7_sign : MethodName := ⟨RX7, "sign", "(II)I"⟩
abbrev cX7_number : ByteArray := prog_9_method_21_code
def yX7_number : MethodName := ⟨RX7, "number", "(I)I"⟩
abbrev cX7_question : ByteArray := prog_9_method_22_code
def yX7_question : MethodName := ⟨RX7, "question", "()V"⟩
abbrev cX7_go : ByteArray := prog_9_method_23_code
def yX7_go : MethodName := ⟨RX7, "go", "(Z)I"⟩
abbrev cX7_ask : ByteArray := prog_9_method_24_code
def yX7_ask : MethodName := ⟨RX7, "ask", "()I"⟩
abbrev cX7_type : ByteArray := prog_9_method_25_code
def yX7_type : MethodName := ⟨RX7, "type", "(C)I"⟩
abbrev cX7_clearText : ByteArray := prog_9_method_26_code
def yX7_clearText : MethodName := ⟨RX7, "clearText", "()I"⟩
abbrev cX7_freeTag : ByteArray := prog_9_method_27_code
def yX7_freeTag : MethodName := ⟨RX7, "freeTag", "()I"⟩
abbrev cX7_holds : ByteArray := prog_9_method_28_code
def yX7_holds : MethodName := ⟨RX7, "holds", "(I)I"⟩
abbrev cX7_doAll : ByteArray := prog_9_method_29_code
def yX7_doAll : MethodName := ⟨RX7, "doAll", "()V"⟩
abbrev cX7_answering : ByteArray := prog_9_method_30_code
def yX7_answering : MethodName := ⟨RX7, "answering", "(I)I"⟩
abbrev cX7_targetThatGoes : ByteArray := prog_9_method_31_code
def yX7_targetThatGoes : MethodName := ⟨RX7, "targetThatGoes", "()I"⟩
abbrev cX7_canSend : ByteArray := prog_9_method_32_code
def yX7_canSend : MethodName := ⟨RX7, "canSend", "(I)Z"⟩
abbrev cX7_masterThatGoes : ByteArray := prog_9_method_33_code
def yX7_masterThatGoes : MethodName := ⟨RX7, "masterThatGoes", "()I"⟩
abbrev cX7_answers : ByteArray := prog_9_method_34_code
def yX7_answers : MethodName := ⟨RX7, "answers", "(I)I"⟩
abbrev cX7_sends : ByteArray := prog_9_method_35_code
def yX7_sends : MethodName := ⟨RX7, "sends", "(I)I"⟩
abbrev cX7_tick : ByteArray := prog_9_method_36_code
def yX7_tick : MethodName := ⟨RX7, "tick", "()I"⟩
abbrev cX7_pass : ByteArray := prog_9_method_37_code
def yX7_pass : MethodName := ⟨RX7, "pass", "(I)I"⟩
abbrev cX7_undo : ByteArray := prog_9_method_38_code
def yX7_undo : MethodName := ⟨RX7, "undo", "()I"⟩
abbrev cX7_keep : ByteArray := prog_9_method_39_code
def yX7_keep : MethodName := ⟨RX7, "keep", "()I"⟩
abbrev cX7_restore : ByteArray := prog_9_method_40_code
def yX7_restore : MethodName := ⟨RX7, "restore", "()I"⟩
abbrev cX7_isQuestion : ByteArray := prog_9_method_41_code
def yX7_isQuestion : MethodName := ⟨RX7, "isQuestion", "(I)Z"⟩
abbrev cX7_question_ : ByteArray := prog_9_method_42_code
def yX7_question_ : MethodName := ⟨RX7, "question", "(II)I"⟩
abbrev cX7_tag : ByteArray := prog_9_method_43_code
def yX7_tag : MethodName := ⟨RX7, "tag", "(I)I"⟩
abbrev cX7_answered : ByteArray := prog_9_method_44_code
def yX7_answered : MethodName := ⟨RX7, "answered", "(IZ)I"⟩
abbrev cX7_master : ByteArray := prog_9_method_45_code
def yX7_master : MethodName := ⟨RX7, "master", "(II)I"⟩
abbrev cX7_row : ByteArray := prog_9_method_46_code
def yX7_row : MethodName := ⟨RX7, "row", "(II)I"⟩
abbrev cX7_doneIn : ByteArray := prog_9_method_47_code
def yX7_doneIn : MethodName := ⟨RX7, "doneIn", "(I)I"⟩
abbrev cX7_target : ByteArray := prog_9_method_48_code
def yX7_target : MethodName := ⟨RX7, "target", "(II)I"⟩
abbrev cX7_cell : ByteArray := prog_9_method_49_code
def yX7_cell : MethodName := ⟨RX7, "cell", "(II)I"⟩
abbrev cX7_putAside : ByteArray := prog_9_method_50_code
def yX7_putAside : MethodName := ⟨RX7, "putAside", "()V"⟩
abbrev cX7_putBack : ByteArray := prog_9_method_51_code
def yX7_putBack : MethodName := ⟨RX7, "putBack", "()V"⟩
abbrev cX7_next : ByteArray := prog_9_method_52_code
def yX7_next : MethodName := ⟨RX7, "next", "(I)I"⟩
abbrev cX7_answeredIn : ByteArray := prog_9_method_53_code
def yX7_answeredIn : MethodName := ⟨RX7, "answeredIn", "(I)I"⟩
abbrev cX7_freeTags : ByteArray := prog_9_method_54_code
def yX7_freeTags : MethodName := ⟨RX7, "freeTags", "()I"⟩
abbrev cX7_count : ByteArray := prog_9_method_55_code
def yX7_count : MethodName := ⟨RX7, "count", "(I)I"⟩
def RL : String := "TagBusLaw"
abbrev cL_law : ByteArray := code
abbrev vwCl : List vw_C := [(RX0, TX0, 15), (RX1, TX1, 2), (RX2, TX2, 8), (RX3, TX3, 11), (RX4, TX4, 5), (RX5, TX5, 3), (RX6, TX6, 7), (RX7, TX7, 13)]
/-- the words of the tables that stay good in every later state -/
def Gt : List Cond := lw_tbl.filter goodWord
theorem gt_mem {w : Cond} (i : Nat) (h : lw_tbl[i]? = some w) (g : goodWord w = true) : w ∈ Gt := List.mem_filter.mpr ⟨List.mem_of_getElem? h, g⟩
theorem gt_tbl {w : Cond} (h : w ∈ Gt) : w ∈ lw_tbl := (List.mem_filter.mp h).1
theorem gt_good {ws : List Cond} {c : Cond} (hc : c ∈ Gt) {c' : Cond} : GoodIn (c' :: Gt) (c :: Gt) := fun w hw => by
  rcases List.mem_cons.mp hw with rfl | h
  · exact ⟨List.mem_cons_of_mem _ hc, good_of_word (List.mem_filter.mp hc).2⟩
  · exact ⟨List.mem_cons_of_mem _ h, good_of_word (List.mem_filter.mp h).2⟩
theorem kls_LEAST_SETTING : (Cond.laysStatic "TagBus" "LEAST_SETTING" "[I") ∈ lw_tbl := List.mem_of_getElem? (i := 333) (by decide +kernel)
theorem kls_MOST_SETTING : (Cond.laysStatic "TagBus" "MOST_SETTING" "[I") ∈ lw_tbl := List.mem_of_getElem? (i := 338) (by decide +kernel)
theorem kls_LEAST_OF_TARGET : (Cond.laysStatic "TagBus" "LEAST_OF_TARGET" "[I") ∈ lw_tbl := List.mem_of_getElem? (i := 394) (by decide +kernel)
theorem kls_MOST_OF_TARGET : (Cond.laysStatic "TagBus" "MOST_OF_TARGET" "[I") ∈ lw_tbl := List.mem_of_getElem? (i := 396) (by decide +kernel)
set_option maxRecDepth 20000 in
theorem kse_X6_record : (Cond.selects RX6 yX6_record yX6_record) ∈ Gt := gt_mem 0 rfl rfl
set_option maxRecDepth 20000 in
theorem kse_X6_putOne : (Cond.selects RX6 yX6_putOne yX6_putOne) ∈ Gt := gt_mem 1 rfl rfl
set_option maxRecDepth 20000 in
theorem kse_X4_readQuestion : (Cond.selects RX4 yX4_readQuestion yX4_readQuestion) ∈ Gt := gt_mem 2 rfl rfl
set_option maxRecDepth 20000 in
theorem kse_X4_readNumber : (Cond.selects RX4 yX4_readNumber yX4_readNumber) ∈ Gt := gt_mem 3 rfl rfl
set_option maxRecDepth 20000 in
theorem kse_X4_digitAt : (Cond.selects RX4 yX4_digitAt yX4_digitAt) ∈ Gt := gt_mem 4 rfl rfl
set_option maxRecDepth 20000 in
theorem kse_X4_skip : (Cond.selects RX4 yX4_skip yX4_skip) ∈ Gt := gt_mem 5 rfl rfl
set_option maxRecDepth 20000 in
theorem kse_X6_hasRoomForText : (Cond.selects RX6 yX6_hasRoomForText yX6_hasRoomForText) ∈ Gt := gt_mem 6 rfl rfl
set_option maxRecDepth 20000 in
theorem kse_X0_finishQuestions : (Cond.selects RX0 yX0_finishQuestions yX0_finishQuestions) ∈ Gt := gt_mem 7 rfl rfl
set_option maxRecDepth 20000 in
theorem kse_X0_makeTrip : (Cond.selects RX0 yX0_makeTrip yX0_makeTrip) ∈ Gt := gt_mem 8 rfl rfl
set_option maxRecDepth 20000 in
theorem kse_X0_targetThatAnswers : (Cond.selects RX0 yX0_targetThatAnswers yX0_targetThatAnswers) ∈ Gt := gt_mem 9 rfl rfl
set_option maxRecDepth 20000 in
theorem kse_X0_masterThatSends : (Cond.selects RX0 yX0_masterThatSends yX0_masterThatSends) ∈ Gt := gt_mem 10 rfl rfl
set_option maxRecDepth 20000 in
theorem kse_X0_masterThatWaitedTooLong : (Cond.selects RX0 yX0_masterThatWaitedTooLong yX0_masterThatWaitedTooLong) ∈ Gt := gt_mem 11 rfl rfl
set_option maxRecDepth 20000 in
theorem kse_X0_maySend : (Cond.selects RX0 yX0_maySend yX0_maySend) ∈ Gt := gt_mem 12 rfl rfl
set_option maxRecDepth 20000 in
theorem kse_X0_prefersAnswer : (Cond.selects RX0 yX0_prefersAnswer yX0_prefersAnswer) ∈ Gt := gt_mem 13 rfl rfl
set_option maxRecDepth 20000 in
theorem kse_X0_sendAnswerOf : (Cond.selects RX0 yX0_sendAnswerOf yX0_sendAnswerOf) ∈ Gt := gt_mem 14 rfl rfl
set_option maxRecDepth 20000 in
theorem kse_X0_takeTagBack : (Cond.selects RX0 yX0_takeTagBack yX0_takeTagBack) ∈ Gt := gt_mem 15 rfl rfl
set_option maxRecDepth 20000 in
theorem kse_X0_noteAnswer : (Cond.selects RX0 yX0_noteAnswer yX0_noteAnswer) ∈ Gt := gt_mem 16 rfl rfl
set_option maxRecDepth 20000 in
theorem kse_X0_sendQuestionOf : (Cond.selects RX0 yX0_sendQuestionOf yX0_sendQuestionOf) ∈ Gt := gt_mem 17 rfl rfl
set_option maxRecDepth 20000 in
theorem kse_X0_refuse : (Cond.selects RX0 yX0_refuse yX0_refuse) ∈ Gt := gt_mem 18 rfl rfl
set_option maxRecDepth 20000 in
theorem kse_X0_letIn : (Cond.selects RX0 yX0_letIn yX0_letIn) ∈ Gt := gt_mem 19 rfl rfl
set_option maxRecDepth 20000 in
theorem kse_X0_countWaits : (Cond.selects RX0 yX0_countWaits yX0_countWaits) ∈ Gt := gt_mem 20 rfl rfl
set_option maxRecDepth 20000 in
theorem kse_X7_isLentFrom : (Cond.selects RX7 yX7_isLentFrom yX7_isLentFrom) ∈ Gt := gt_mem 21 rfl rfl
set_option maxRecDepth 20000 in
theorem kse_X7_change : (Cond.selects RX7 yX7_change yX7_change) ∈ Gt := gt_mem 22 rfl rfl
set_option maxRecDepth 20000 in
theorem kse_X7_know : (Cond.selects RX7 yX7_know yX7_know) ∈ Gt := gt_mem 23 rfl rfl
set_option maxRecDepth 20000 in
theorem kse_X7_isRoom : (Cond.selects RX7 yX7_isRoom yX7_isRoom) ∈ Gt := gt_mem 24 rfl rfl
set_option maxRecDepth 20000 in
theorem kse_X7_put : (Cond.selects RX7 yX7_put yX7_put) ∈ Gt := gt_mem 25 rfl rfl
set_option maxRecDepth 20000 in
theorem kse_X7_go : (Cond.selects RX7 yX7_go yX7_go) ∈ Gt := gt_mem 26 rfl rfl
set_option maxRecDepth 20000 in
theorem kse_X7_question : (Cond.selects RX7 yX7_question yX7_question) ∈ Gt := gt_mem 27 rfl rfl
set_option maxRecDepth 20000 in
theorem kse_X7_sign : (Cond.selects RX7 yX7_sign yX7_sign) ∈ Gt := gt_mem 28 rfl rfl
set_option maxRecDepth 20000 in
theorem kse_X7_number : (Cond.selects RX7 yX7_number yX7_number) ∈ Gt := gt_mem 29 rfl rfl
set_option maxRecDepth 20000 in
theorem kse_X7_tick : (Cond.selects RX7 yX7_tick yX7_tick) ∈ Gt := gt_mem 30 rfl rfl
set_option maxRecDepth 20000 in
theorem kse_X7_doAll : (Cond.selects RX7 yX7_doAll yX7_doAll) ∈ Gt := gt_mem 31 rfl rfl
set_option maxRecDepth 20000 in
theorem kse_X7_targetThatGoes : (Cond.selects RX7 yX7_targetThatGoes yX7_targetThatGoes) ∈ Gt := gt_mem 32 rfl rfl
set_option maxRecDepth 20000 in
theorem kse_X7_answering : (Cond.selects RX7 yX7_answering yX7_answering) ∈ Gt := gt_mem 33 rfl rfl
set_option maxRecDepth 20000 in
theorem kse_X7_masterThatGoes : (Cond.selects RX7 yX7_masterThatGoes yX7_masterThatGoes) ∈ Gt := gt_mem 34 rfl rfl
set_option maxRecDepth 20000 in
theorem kse_X7_canSend : (Cond.selects RX7 yX7_canSend yX7_canSend) ∈ Gt := gt_mem 35 rfl rfl
set_option maxRecDepth 20000 in
theorem kse_X7_freeTag : (Cond.selects RX7 yX7_freeTag yX7_freeTag) ∈ Gt := gt_mem 36 rfl rfl
set_option maxRecDepth 20000 in
theorem kse_X7_holds : (Cond.selects RX7 yX7_holds yX7_holds) ∈ Gt := gt_mem 37 rfl rfl
set_option maxRecDepth 20000 in
theorem kse_X7_answers : (Cond.selects RX7 yX7_answers yX7_answers) ∈ Gt := gt_mem 38 rfl rfl
set_option maxRecDepth 20000 in
theorem kse_X7_sends : (Cond.selects RX7 yX7_sends yX7_sends) ∈ Gt := gt_mem 39 rfl rfl
set_option maxRecDepth 20000 in
theorem kse_X7_isQuestion : (Cond.selects RX7 yX7_isQuestion yX7_isQuestion) ∈ Gt := gt_mem 40 rfl rfl
set_option maxRecDepth 20000 in
theorem kse_X7_answered : (Cond.selects RX7 yX7_answered yX7_answered) ∈ Gt := gt_mem 41 rfl rfl
set_option maxRecDepth 20000 in
theorem kse_X7_doneIn : (Cond.selects RX7 yX7_doneIn yX7_doneIn) ∈ Gt := gt_mem 42 rfl rfl
set_option maxRecDepth 20000 in
theorem kse_X7_putAside : (Cond.selects RX7 yX7_putAside yX7_putAside) ∈ Gt := gt_mem 43 rfl rfl
set_option maxRecDepth 20000 in
theorem kse_X7_putBack : (Cond.selects RX7 yX7_putBack yX7_putBack) ∈ Gt := gt_mem 44 rfl rfl
set_option maxRecDepth 20000 in
theorem kse_X7_freeTags : (Cond.selects RX7 yX7_freeTags yX7_freeTags) ∈ Gt := gt_mem 45 rfl rfl
set_option maxRecDepth 20000 in
theorem kin_L : (Cond.initialized RL) ∈ Gt := gt_mem 46 rfl rfl
set_option maxRecDepth 20000 in
theorem kin_X6 : (Cond.initialized RX6) ∈ Gt := gt_mem 47 rfl rfl
set_option maxRecDepth 20000 in
theorem kin_X0 : (Cond.initialized RX0) ∈ Gt := gt_mem 48 rfl rfl
set_option maxRecDepth 20000 in
theorem kin_X2 : (Cond.initialized RX2) ∈ Gt := gt_mem 49 rfl rfl
set_option maxRecDepth 20000 in
theorem kin_X1 : (Cond.initialized RX1) ∈ Gt := gt_mem 50 rfl rfl
set_option maxRecDepth 20000 in
theorem kin_X5 : (Cond.initialized RX5) ∈ Gt := gt_mem 51 rfl rfl
set_option maxRecDepth 20000 in
theorem kin_X3 : (Cond.initialized RX3) ∈ Gt := gt_mem 52 rfl rfl
set_option maxRecDepth 20000 in
theorem kin_X4 : (Cond.initialized RX4) ∈ Gt := gt_mem 53 rfl rfl
set_option maxRecDepth 20000 in
theorem kin_X7 : (Cond.initialized RX7) ∈ Gt := gt_mem 54 rfl rfl
set_option maxRecDepth 20000 in
theorem kin_System : (Cond.initialized "java/lang/System") ∈ Gt := gt_mem 55 rfl rfl
set_option maxRecDepth 20000 in
theorem kin_Math : (Cond.initialized "java/lang/Math") ∈ Gt := gt_mem 56 rfl rfl
set_option maxRecDepth 20000 in
theorem kcl_L_7 : (Cond.classLink RL 7 RX6) ∈ Gt := gt_mem 57 rfl rfl
set_option maxRecDepth 20000 in
theorem kia_X6 : (Cond.instantiable RX6 7) ∈ Gt := gt_mem 58 rfl rfl
set_option maxRecDepth 20000 in
theorem kml_L_9 : (Cond.methodLink RL 9 yX6_init) ∈ Gt := gt_mem 59 rfl rfl
set_option maxRecDepth 20000 in
theorem kim_X6_init : (Cond.instanceMethod yX6_init) ∈ Gt := gt_mem 60 rfl rfl
set_option maxRecDepth 20000 in
theorem kco_X6_init : (Cond.code yX6_init cX6_init 2 none) ∈ Gt := gt_mem 61 rfl rfl
set_option maxRecDepth 20000 in
theorem kml_X6_1 : (Cond.methodLink RX6 1 Lib.objectInit) ∈ Gt := gt_mem 62 rfl rfl
set_option maxRecDepth 20000 in
theorem kim_Lib_objectInit : (Cond.instanceMethod Lib.objectInit) ∈ Gt := gt_mem 63 rfl rfl
set_option maxRecDepth 20000 in
theorem kco_objectInit : (Cond.code Lib.objectInit ⟨#[0xb1]⟩ 1 none) ∈ Gt := gt_mem 64 rfl rfl
set_option maxRecDepth 20000 in
theorem kcl_X6_7 : (Cond.classLink RX6 7 RX0) ∈ Gt := gt_mem 65 rfl rfl
set_option maxRecDepth 20000 in
theorem kia_X0 : (Cond.instantiable RX0 15) ∈ Gt := gt_mem 66 rfl rfl
set_option maxRecDepth 20000 in
theorem kml_X6_9 : (Cond.methodLink RX6 9 yX0_init) ∈ Gt := gt_mem 67 rfl rfl
set_option maxRecDepth 20000 in
theorem kim_X0_init : (Cond.instanceMethod yX0_init) ∈ Gt := gt_mem 68 rfl rfl
set_option maxRecDepth 20000 in
theorem kco_X0_init : (Cond.code yX0_init cX0_init 2 none) ∈ Gt := gt_mem 69 rfl rfl
set_option maxRecDepth 20000 in
theorem kml_X0_3 : (Cond.methodLink RX0 3 Lib.objectInit) ∈ Gt := gt_mem 70 rfl rfl
set_option maxRecDepth 20000 in
theorem kcl_X0_18 : (Cond.classLink RX0 18 RX2) ∈ Gt := gt_mem 71 rfl rfl
set_option maxRecDepth 20000 in
theorem kcl_X0_24 : (Cond.classLink RX0 24 RX5) ∈ Gt := gt_mem 73 rfl rfl
set_option maxRecDepth 20000 in
theorem kcl_X0_30 : (Cond.classLink RX0 30 RX3) ∈ Gt := gt_mem 75 rfl rfl
set_option maxRecDepth 20000 in
theorem kia_X2 : (Cond.instantiable RX2 8) ∈ Gt := gt_mem 77 rfl rfl
set_option maxRecDepth 20000 in
theorem kim_X2_init : (Cond.instanceMethod yX2_init) ∈ Gt := gt_mem 79 rfl rfl
set_option maxRecDepth 20000 in
theorem kco_X2_init : (Cond.code yX2_init cX2_init 1 none) ∈ Gt := gt_mem 80 rfl rfl
set_option maxRecDepth 20000 in
theorem kml_X2_3 : (Cond.methodLink RX2 3 Lib.objectInit) ∈ Gt := gt_mem 81 rfl rfl
set_option maxRecDepth 20000 in
theorem kcl_X2_9 : (Cond.classLink RX2 9 RX1) ∈ Gt := gt_mem 82 rfl rfl
set_option maxRecDepth 20000 in
theorem kia_X1 : (Cond.instantiable RX1 2) ∈ Gt := gt_mem 83 rfl rfl
set_option maxRecDepth 20000 in
theorem kim_X1_init : (Cond.instanceMethod yX1_init) ∈ Gt := gt_mem 85 rfl rfl
set_option maxRecDepth 20000 in
theorem kco_X1_init : (Cond.code yX1_init cX1_init 1 none) ∈ Gt := gt_mem 86 rfl rfl
set_option maxRecDepth 20000 in
theorem kml_X1_3 : (Cond.methodLink RX1 3 Lib.objectInit) ∈ Gt := gt_mem 87 rfl rfl
set_option maxRecDepth 20000 in
theorem kfl_X1_9 : (Cond.fieldLink RX1 9 "TagBus$Line" "numbers" "[I") ∈ Gt := gt_mem 88 rfl rfl
set_option maxRecDepth 20000 in
theorem kfl_X1_15 : (Cond.fieldLink RX1 15 "TagBus$Line" "length" "I") ∈ Gt := gt_mem 89 rfl rfl
set_option maxRecDepth 20000 in
theorem kfl_X5_25 : (Cond.fieldLink RX5 25 "TagBus$Line" "length" "I") ∈ Gt := gt_mem 90 rfl rfl
set_option maxRecDepth 20000 in
theorem kfl_X6_125 : (Cond.fieldLink RX6 125 "TagBus$Line" "length" "I") ∈ Gt := gt_mem 91 rfl rfl
set_option maxRecDepth 20000 in
theorem kfl_X0_108 : (Cond.fieldLink RX0 108 "TagBus$Line" "length" "I") ∈ Gt := gt_mem 92 rfl rfl
set_option maxRecDepth 20000 in
theorem kac_int : (Cond.arrayClass Jvm.ClassFile.FieldType.int) ∈ Gt := gt_mem 98 rfl rfl
set_option maxRecDepth 20000 in
theorem kfl_X2_12 : (Cond.fieldLink RX2 12 "TagBus$Master" "row" "LTagBus$Line;") ∈ Gt := gt_mem 99 rfl rfl
set_option maxRecDepth 20000 in
theorem kfl_X6_121 : (Cond.fieldLink RX6 121 "TagBus$Master" "row" "LTagBus$Line;") ∈ Gt := gt_mem 100 rfl rfl
set_option maxRecDepth 20000 in
theorem kfl_X0_98 : (Cond.fieldLink RX0 98 "TagBus$Master" "row" "LTagBus$Line;") ∈ Gt := gt_mem 101 rfl rfl
set_option maxRecDepth 20000 in
theorem kfl_X2_18 : (Cond.fieldLink RX2 18 "TagBus$Master" "share" "I") ∈ Gt := gt_mem 102 rfl rfl
set_option maxRecDepth 20000 in
theorem kfl_X6_62 : (Cond.fieldLink RX6 62 "TagBus$Master" "share" "I") ∈ Gt := gt_mem 103 rfl rfl
set_option maxRecDepth 20000 in
theorem kfl_X0_211 : (Cond.fieldLink RX0 211 "TagBus$Master" "share" "I") ∈ Gt := gt_mem 104 rfl rfl
set_option maxRecDepth 20000 in
theorem kfl_X2_29 : (Cond.fieldLink RX2 29 "TagBus$Master" "holds" "I") ∈ Gt := gt_mem 105 rfl rfl
set_option maxRecDepth 20000 in
theorem kfl_X6_175 : (Cond.fieldLink RX6 175 "TagBus$Master" "holds" "I") ∈ Gt := gt_mem 106 rfl rfl
set_option maxRecDepth 20000 in
theorem kfl_X0_208 : (Cond.fieldLink RX0 208 "TagBus$Master" "holds" "I") ∈ Gt := gt_mem 107 rfl rfl
set_option maxRecDepth 20000 in
theorem kfl_X2_32 : (Cond.fieldLink RX2 32 "TagBus$Master" "refusals" "I") ∈ Gt := gt_mem 108 rfl rfl
set_option maxRecDepth 20000 in
theorem kfl_X6_178 : (Cond.fieldLink RX6 178 "TagBus$Master" "refusals" "I") ∈ Gt := gt_mem 109 rfl rfl
set_option maxRecDepth 20000 in
theorem kfl_X0_231 : (Cond.fieldLink RX0 231 "TagBus$Master" "refusals" "I") ∈ Gt := gt_mem 110 rfl rfl
set_option maxRecDepth 20000 in
theorem kfl_X2_35 : (Cond.fieldLink RX2 35 "TagBus$Master" "notBefore" "I") ∈ Gt := gt_mem 111 rfl rfl
set_option maxRecDepth 20000 in
theorem kfl_X6_179 : (Cond.fieldLink RX6 179 "TagBus$Master" "notBefore" "I") ∈ Gt := gt_mem 112 rfl rfl
set_option maxRecDepth 20000 in
theorem kfl_X0_205 : (Cond.fieldLink RX0 205 "TagBus$Master" "notBefore" "I") ∈ Gt := gt_mem 113 rfl rfl
set_option maxRecDepth 20000 in
theorem kfl_X2_38 : (Cond.fieldLink RX2 38 "TagBus$Master" "waited" "I") ∈ Gt := gt_mem 114 rfl rfl
set_option maxRecDepth 20000 in
theorem kfl_X0_118 : (Cond.fieldLink RX0 118 "TagBus$Master" "waited" "I") ∈ Gt := gt_mem 115 rfl rfl
set_option maxRecDepth 20000 in
theorem kfl_X6_188 : (Cond.fieldLink RX6 188 "TagBus$Master" "waited" "I") ∈ Gt := gt_mem 116 rfl rfl
set_option maxRecDepth 20000 in
theorem kfl_X2_41 : (Cond.fieldLink RX2 41 "TagBus$Master" "answered" "I") ∈ Gt := gt_mem 117 rfl rfl
set_option maxRecDepth 20000 in
theorem kfl_X6_191 : (Cond.fieldLink RX6 191 "TagBus$Master" "answered" "I") ∈ Gt := gt_mem 118 rfl rfl
set_option maxRecDepth 20000 in
theorem kfl_X0_248 : (Cond.fieldLink RX0 248 "TagBus$Master" "answered" "I") ∈ Gt := gt_mem 119 rfl rfl
set_option maxRecDepth 20000 in
theorem kfl_X2_22 : (Cond.fieldLink RX2 22 "TagBus$Master" "longest" "I") ∈ Gt := gt_mem 120 rfl rfl
set_option maxRecDepth 20000 in
theorem kfl_X6_194 : (Cond.fieldLink RX6 194 "TagBus$Master" "longest" "I") ∈ Gt := gt_mem 121 rfl rfl
set_option maxRecDepth 20000 in
theorem kfl_X0_251 : (Cond.fieldLink RX0 251 "TagBus$Master" "longest" "I") ∈ Gt := gt_mem 122 rfl rfl
set_option maxRecDepth 20000 in
theorem kia_X5 : (Cond.instantiable RX5 3) ∈ Gt := gt_mem 140 rfl rfl
set_option maxRecDepth 20000 in
theorem kim_X5_init : (Cond.instanceMethod yX5_init) ∈ Gt := gt_mem 142 rfl rfl
set_option maxRecDepth 20000 in
theorem kco_X5_init : (Cond.code yX5_init cX5_init 1 none) ∈ Gt := gt_mem 143 rfl rfl
set_option maxRecDepth 20000 in
theorem kml_X5_3 : (Cond.methodLink RX5 3 Lib.objectInit) ∈ Gt := gt_mem 144 rfl rfl
set_option maxRecDepth 20000 in
theorem kcl_X5_18 : (Cond.classLink RX5 18 RX1) ∈ Gt := gt_mem 145 rfl rfl
set_option maxRecDepth 20000 in
theorem kfl_X5_9 : (Cond.fieldLink RX5 9 "TagBus$Target" "cells" "[I") ∈ Gt := gt_mem 147 rfl rfl
set_option maxRecDepth 20000 in
theorem kfl_X6_83 : (Cond.fieldLink RX6 83 "TagBus$Target" "cells" "[I") ∈ Gt := gt_mem 148 rfl rfl
set_option maxRecDepth 20000 in
theorem kfl_X5_15 : (Cond.fieldLink RX5 15 "TagBus$Target" "numbers" "[I") ∈ Gt := gt_mem 149 rfl rfl
set_option maxRecDepth 20000 in
theorem kfl_X6_78 : (Cond.fieldLink RX6 78 "TagBus$Target" "numbers" "[I") ∈ Gt := gt_mem 150 rfl rfl
set_option maxRecDepth 20000 in
theorem kfl_X0_184 : (Cond.fieldLink RX0 184 "TagBus$Target" "numbers" "[I") ∈ Gt := gt_mem 151 rfl rfl
set_option maxRecDepth 20000 in
theorem kfl_X5_21 : (Cond.fieldLink RX5 21 "TagBus$Target" "inside" "LTagBus$Line;") ∈ Gt := gt_mem 152 rfl rfl
set_option maxRecDepth 20000 in
theorem kfl_X0_128 : (Cond.fieldLink RX0 128 "TagBus$Target" "inside" "LTagBus$Line;") ∈ Gt := gt_mem 153 rfl rfl
set_option maxRecDepth 20000 in
theorem kfl_X6_205 : (Cond.fieldLink RX6 205 "TagBus$Target" "inside" "LTagBus$Line;") ∈ Gt := gt_mem 154 rfl rfl
set_option maxRecDepth 20000 in
theorem kia_X3 : (Cond.instantiable RX3 11) ∈ Gt := gt_mem 162 rfl rfl
set_option maxRecDepth 20000 in
theorem kim_X3_init : (Cond.instanceMethod yX3_init) ∈ Gt := gt_mem 164 rfl rfl
set_option maxRecDepth 20000 in
theorem kco_X3_init : (Cond.code yX3_init cX3_init 1 none) ∈ Gt := gt_mem 165 rfl rfl
set_option maxRecDepth 20000 in
theorem kml_X3_3 : (Cond.methodLink RX3 3 Lib.objectInit) ∈ Gt := gt_mem 166 rfl rfl
set_option maxRecDepth 20000 in
theorem kfl_X3_9 : (Cond.fieldLink RX3 9 "TagBus$Question" "master" "I") ∈ Gt := gt_mem 167 rfl rfl
set_option maxRecDepth 20000 in
theorem kfl_X4_33 : (Cond.fieldLink RX4 33 "TagBus$Question" "master" "I") ∈ Gt := gt_mem 168 rfl rfl
set_option maxRecDepth 20000 in
theorem kfl_X6_104 : (Cond.fieldLink RX6 104 "TagBus$Question" "master" "I") ∈ Gt := gt_mem 169 rfl rfl
set_option maxRecDepth 20000 in
theorem kfl_X0_138 : (Cond.fieldLink RX0 138 "TagBus$Question" "master" "I") ∈ Gt := gt_mem 170 rfl rfl
set_option maxRecDepth 20000 in
theorem kfl_X3_15 : (Cond.fieldLink RX3 15 "TagBus$Question" "target" "I") ∈ Gt := gt_mem 171 rfl rfl
set_option maxRecDepth 20000 in
theorem kfl_X6_109 : (Cond.fieldLink RX6 109 "TagBus$Question" "target" "I") ∈ Gt := gt_mem 172 rfl rfl
set_option maxRecDepth 20000 in
theorem kfl_X0_214 : (Cond.fieldLink RX0 214 "TagBus$Question" "target" "I") ∈ Gt := gt_mem 173 rfl rfl
set_option maxRecDepth 20000 in
theorem kfl_X3_18 : (Cond.fieldLink RX3 18 "TagBus$Question" "address" "I") ∈ Gt := gt_mem 174 rfl rfl
set_option maxRecDepth 20000 in
theorem kfl_X6_112 : (Cond.fieldLink RX6 112 "TagBus$Question" "address" "I") ∈ Gt := gt_mem 175 rfl rfl
set_option maxRecDepth 20000 in
theorem kfl_X0_147 : (Cond.fieldLink RX0 147 "TagBus$Question" "address" "I") ∈ Gt := gt_mem 176 rfl rfl
set_option maxRecDepth 20000 in
theorem kfl_X3_21 : (Cond.fieldLink RX3 21 "TagBus$Question" "written" "I") ∈ Gt := gt_mem 177 rfl rfl
set_option maxRecDepth 20000 in
theorem kfl_X6_115 : (Cond.fieldLink RX6 115 "TagBus$Question" "written" "I") ∈ Gt := gt_mem 178 rfl rfl
set_option maxRecDepth 20000 in
theorem kfl_X0_150 : (Cond.fieldLink RX0 150 "TagBus$Question" "written" "I") ∈ Gt := gt_mem 179 rfl rfl
set_option maxRecDepth 20000 in
theorem kfl_X3_24 : (Cond.fieldLink RX3 24 "TagBus$Question" "where" "I") ∈ Gt := gt_mem 180 rfl rfl
set_option maxRecDepth 20000 in
theorem kfl_X0_125 : (Cond.fieldLink RX0 125 "TagBus$Question" "where" "I") ∈ Gt := gt_mem 181 rfl rfl
set_option maxRecDepth 20000 in
theorem kfl_X6_157 : (Cond.fieldLink RX6 157 "TagBus$Question" "where" "I") ∈ Gt := gt_mem 182 rfl rfl
set_option maxRecDepth 20000 in
theorem kfl_X3_27 : (Cond.fieldLink RX3 27 "TagBus$Question" "tag" "I") ∈ Gt := gt_mem 183 rfl rfl
set_option maxRecDepth 20000 in
theorem kfl_X6_160 : (Cond.fieldLink RX6 160 "TagBus$Question" "tag" "I") ∈ Gt := gt_mem 184 rfl rfl
set_option maxRecDepth 20000 in
theorem kfl_X0_232 : (Cond.fieldLink RX0 232 "TagBus$Question" "tag" "I") ∈ Gt := gt_mem 185 rfl rfl
set_option maxRecDepth 20000 in
theorem kfl_X3_30 : (Cond.fieldLink RX3 30 "TagBus$Question" "answer" "I") ∈ Gt := gt_mem 186 rfl rfl
set_option maxRecDepth 20000 in
theorem kfl_X0_157 : (Cond.fieldLink RX0 157 "TagBus$Question" "answer" "I") ∈ Gt := gt_mem 187 rfl rfl
set_option maxRecDepth 20000 in
theorem kfl_X6_163 : (Cond.fieldLink RX6 163 "TagBus$Question" "answer" "I") ∈ Gt := gt_mem 188 rfl rfl
set_option maxRecDepth 20000 in
theorem kfl_X3_33 : (Cond.fieldLink RX3 33 "TagBus$Question" "putAt" "I") ∈ Gt := gt_mem 189 rfl rfl
set_option maxRecDepth 20000 in
theorem kfl_X0_238 : (Cond.fieldLink RX0 238 "TagBus$Question" "putAt" "I") ∈ Gt := gt_mem 190 rfl rfl
set_option maxRecDepth 20000 in
theorem kfl_X3_36 : (Cond.fieldLink RX3 36 "TagBus$Question" "doneAt" "I") ∈ Gt := gt_mem 191 rfl rfl
set_option maxRecDepth 20000 in
theorem kfl_X0_144 : (Cond.fieldLink RX0 144 "TagBus$Question" "doneAt" "I") ∈ Gt := gt_mem 192 rfl rfl
set_option maxRecDepth 20000 in
theorem kfl_X3_39 : (Cond.fieldLink RX3 39 "TagBus$Question" "took" "I") ∈ Gt := gt_mem 193 rfl rfl
set_option maxRecDepth 20000 in
theorem kfl_X6_166 : (Cond.fieldLink RX6 166 "TagBus$Question" "took" "I") ∈ Gt := gt_mem 194 rfl rfl
set_option maxRecDepth 20000 in
theorem kfl_X0_241 : (Cond.fieldLink RX0 241 "TagBus$Question" "took" "I") ∈ Gt := gt_mem 195 rfl rfl
set_option maxRecDepth 20000 in
theorem kfl_X3_42 : (Cond.fieldLink RX3 42 "TagBus$Question" "refusals" "I") ∈ Gt := gt_mem 196 rfl rfl
set_option maxRecDepth 20000 in
theorem kfl_X6_169 : (Cond.fieldLink RX6 169 "TagBus$Question" "refusals" "I") ∈ Gt := gt_mem 197 rfl rfl
set_option maxRecDepth 20000 in
theorem kfl_X0_228 : (Cond.fieldLink RX0 228 "TagBus$Question" "refusals" "I") ∈ Gt := gt_mem 198 rfl rfl
set_option maxRecDepth 20000 in
theorem kfl_X0_9 : (Cond.fieldLink RX0 9 "TagBus$Bus" "settings" "[I") ∈ Gt := gt_mem 222 rfl rfl
set_option maxRecDepth 20000 in
theorem kfl_X6_52 : (Cond.fieldLink RX6 52 "TagBus$Bus" "settings" "[I") ∈ Gt := gt_mem 223 rfl rfl
set_option maxRecDepth 20000 in
theorem kfl_X0_15 : (Cond.fieldLink RX0 15 "TagBus$Bus" "lentTo" "[I") ∈ Gt := gt_mem 224 rfl rfl
set_option maxRecDepth 20000 in
theorem kfl_X6_172 : (Cond.fieldLink RX6 172 "TagBus$Bus" "lentTo" "[I") ∈ Gt := gt_mem 225 rfl rfl
set_option maxRecDepth 20000 in
theorem kfl_X0_20 : (Cond.fieldLink RX0 20 "TagBus$Bus" "masters" "[LTagBus$Master;") ∈ Gt := gt_mem 226 rfl rfl
set_option maxRecDepth 20000 in
theorem kfl_X0_26 : (Cond.fieldLink RX0 26 "TagBus$Bus" "targets" "[LTagBus$Target;") ∈ Gt := gt_mem 227 rfl rfl
set_option maxRecDepth 20000 in
theorem kfl_X0_32 : (Cond.fieldLink RX0 32 "TagBus$Bus" "questions" "[LTagBus$Question;") ∈ Gt := gt_mem 228 rfl rfl
set_option maxRecDepth 20000 in
theorem kfl_X0_56 : (Cond.fieldLink RX0 56 "TagBus$Bus" "questionsSoFar" "I") ∈ Gt := gt_mem 229 rfl rfl
set_option maxRecDepth 20000 in
theorem kfl_X6_218 : (Cond.fieldLink RX6 218 "TagBus$Bus" "questionsSoFar" "I") ∈ Gt := gt_mem 230 rfl rfl
set_option maxRecDepth 20000 in
theorem kfl_X0_62 : (Cond.fieldLink RX0 62 "TagBus$Bus" "tick" "I") ∈ Gt := gt_mem 231 rfl rfl
set_option maxRecDepth 20000 in
theorem kfl_X6_134 : (Cond.fieldLink RX6 134 "TagBus$Bus" "tick" "I") ∈ Gt := gt_mem 232 rfl rfl
set_option maxRecDepth 20000 in
theorem kfl_X0_36 : (Cond.fieldLink RX0 36 "TagBus$Bus" "latestTrip" "I") ∈ Gt := gt_mem 233 rfl rfl
set_option maxRecDepth 20000 in
theorem kfl_X6_215 : (Cond.fieldLink RX6 215 "TagBus$Bus" "latestTrip" "I") ∈ Gt := gt_mem 234 rfl rfl
set_option maxRecDepth 20000 in
theorem kfl_X0_65 : (Cond.fieldLink RX0 65 "TagBus$Bus" "turnOfMaster" "I") ∈ Gt := gt_mem 235 rfl rfl
set_option maxRecDepth 20000 in
theorem kfl_X0_68 : (Cond.fieldLink RX0 68 "TagBus$Bus" "turnOfTarget" "I") ∈ Gt := gt_mem 236 rfl rfl
set_option maxRecDepth 20000 in
theorem kfl_X0_71 : (Cond.fieldLink RX0 71 "TagBus$Bus" "answerTrips" "I") ∈ Gt := gt_mem 237 rfl rfl
set_option maxRecDepth 20000 in
theorem kfl_X6_224 : (Cond.fieldLink RX6 224 "TagBus$Bus" "answerTrips" "I") ∈ Gt := gt_mem 238 rfl rfl
set_option maxRecDepth 20000 in
theorem kfl_X0_74 : (Cond.fieldLink RX0 74 "TagBus$Bus" "questionTrips" "I") ∈ Gt := gt_mem 239 rfl rfl
set_option maxRecDepth 20000 in
theorem kfl_X6_227 : (Cond.fieldLink RX6 227 "TagBus$Bus" "questionTrips" "I") ∈ Gt := gt_mem 240 rfl rfl
set_option maxRecDepth 20000 in
theorem kfl_X0_77 : (Cond.fieldLink RX0 77 "TagBus$Bus" "refusedTrips" "I") ∈ Gt := gt_mem 241 rfl rfl
set_option maxRecDepth 20000 in
theorem kfl_X6_230 : (Cond.fieldLink RX6 230 "TagBus$Bus" "refusedTrips" "I") ∈ Gt := gt_mem 242 rfl rfl
set_option maxRecDepth 20000 in
theorem kfl_X0_80 : (Cond.fieldLink RX0 80 "TagBus$Bus" "idleTicks" "I") ∈ Gt := gt_mem 243 rfl rfl
set_option maxRecDepth 20000 in
theorem kfl_X6_233 : (Cond.fieldLink RX6 233 "TagBus$Bus" "idleTicks" "I") ∈ Gt := gt_mem 244 rfl rfl
set_option maxRecDepth 20000 in
theorem kfl_X0_83 : (Cond.fieldLink RX0 83 "TagBus$Bus" "overtakings" "I") ∈ Gt := gt_mem 245 rfl rfl
set_option maxRecDepth 20000 in
theorem kfl_X6_236 : (Cond.fieldLink RX6 236 "TagBus$Bus" "overtakings" "I") ∈ Gt := gt_mem 246 rfl rfl
set_option maxRecDepth 20000 in
theorem kcl_X6_26 : (Cond.classLink RX6 26 RX4) ∈ Gt := gt_mem 279 rfl rfl
set_option maxRecDepth 20000 in
theorem kia_X4 : (Cond.instantiable RX4 5) ∈ Gt := gt_mem 280 rfl rfl
set_option maxRecDepth 20000 in
theorem kml_X6_28 : (Cond.methodLink RX6 28 yX4_init) ∈ Gt := gt_mem 281 rfl rfl
set_option maxRecDepth 20000 in
theorem kim_X4_init : (Cond.instanceMethod yX4_init) ∈ Gt := gt_mem 282 rfl rfl
set_option maxRecDepth 20000 in
theorem kco_X4_init : (Cond.code yX4_init cX4_init 2 none) ∈ Gt := gt_mem 283 rfl rfl
set_option maxRecDepth 20000 in
theorem kml_X4_3 : (Cond.methodLink RX4 3 Lib.objectInit) ∈ Gt := gt_mem 284 rfl rfl
set_option maxRecDepth 20000 in
theorem kcl_X4_15 : (Cond.classLink RX4 15 RX3) ∈ Gt := gt_mem 285 rfl rfl
set_option maxRecDepth 20000 in
theorem kfl_X4_9 : (Cond.fieldLink RX4 9 "TagBus$QuestionText" "signs" "[C") ∈ Gt := gt_mem 287 rfl rfl
set_option maxRecDepth 20000 in
theorem kfl_X4_22 : (Cond.fieldLink RX4 22 "TagBus$QuestionText" "length" "I") ∈ Gt := gt_mem 288 rfl rfl
set_option maxRecDepth 20000 in
theorem kfl_X6_144 : (Cond.fieldLink RX6 144 "TagBus$QuestionText" "length" "I") ∈ Gt := gt_mem 289 rfl rfl
set_option maxRecDepth 20000 in
theorem kfl_X4_17 : (Cond.fieldLink RX4 17 "TagBus$QuestionText" "questions" "[LTagBus$Question;") ∈ Gt := gt_mem 290 rfl rfl
set_option maxRecDepth 20000 in
theorem kfl_X4_30 : (Cond.fieldLink RX4 30 "TagBus$QuestionText" "found" "I") ∈ Gt := gt_mem 291 rfl rfl
set_option maxRecDepth 20000 in
theorem kfl_X6_97 : (Cond.fieldLink RX6 97 "TagBus$QuestionText" "found" "I") ∈ Gt := gt_mem 292 rfl rfl
set_option maxRecDepth 20000 in
theorem kfl_X4_36 : (Cond.fieldLink RX4 36 "TagBus$QuestionText" "at" "I") ∈ Gt := gt_mem 293 rfl rfl
set_option maxRecDepth 20000 in
theorem kac_char : (Cond.arrayClass Jvm.ClassFile.FieldType.char) ∈ Gt := gt_mem 305 rfl rfl
set_option maxRecDepth 20000 in
theorem kfl_X6_10 : (Cond.fieldLink RX6 10 "TagBus" "bus" "LTagBus$Bus;") ∈ Gt := gt_mem 306 rfl rfl
set_option maxRecDepth 20000 in
theorem kfl_X6_16 : (Cond.fieldLink RX6 16 "TagBus" "trial" "LTagBus$Bus;") ∈ Gt := gt_mem 307 rfl rfl
set_option maxRecDepth 20000 in
theorem kfl_X6_19 : (Cond.fieldLink RX6 19 "TagBus" "snapshot" "LTagBus$Bus;") ∈ Gt := gt_mem 308 rfl rfl
set_option maxRecDepth 20000 in
theorem kfl_X6_152 : (Cond.fieldLink RX6 152 "TagBus" "hasSnapshot" "Z") ∈ Gt := gt_mem 309 rfl rfl
set_option maxRecDepth 20000 in
theorem kfl_X6_22 : (Cond.fieldLink RX6 22 "TagBus" "past" "[LTagBus$Bus;") ∈ Gt := gt_mem 310 rfl rfl
set_option maxRecDepth 20000 in
theorem kfl_X6_145 : (Cond.fieldLink RX6 145 "TagBus" "pastCount" "I") ∈ Gt := gt_mem 311 rfl rfl
set_option maxRecDepth 20000 in
theorem kfl_X6_29 : (Cond.fieldLink RX6 29 "TagBus" "text" "LTagBus$QuestionText;") ∈ Gt := gt_mem 312 rfl rfl
set_option maxRecDepth 20000 in
theorem kml_L_13 : (Cond.methodLink RL 13 yX6_set) ∈ Gt := gt_mem 328 rfl rfl
set_option maxRecDepth 20000 in
theorem kim_X6_set : (Cond.instanceMethod yX6_set) ∈ Gt := gt_mem 329 rfl rfl
set_option maxRecDepth 20000 in
theorem kse_X6_set : (Cond.selects RX6 yX6_set yX6_set) ∈ Gt := gt_mem 330 rfl rfl
set_option maxRecDepth 20000 in
theorem kco_X6_set : (Cond.code yX6_set cX6_set 4 (some Jvm.ClassFile.FieldType.int)) ∈ Gt := gt_mem 331 rfl rfl
set_option maxRecDepth 20000 in
theorem kfl_X6_33 : (Cond.fieldLink RX6 33 "TagBus" "LEAST_SETTING" "[I") ∈ Gt := gt_mem 332 rfl rfl
set_option maxRecDepth 20000 in
theorem kml_X6_37 : (Cond.methodLink RX6 37 yX6_isIndex) ∈ Gt := gt_mem 334 rfl rfl
set_option maxRecDepth 20000 in
theorem kst_X6_isIndex : (Cond.static yX6_isIndex) ∈ Gt := gt_mem 335 rfl rfl
set_option maxRecDepth 20000 in
theorem kco_X6_isIndex : (Cond.code yX6_isIndex cX6_isIndex 2 (some Jvm.ClassFile.FieldType.boolean)) ∈ Gt := gt_mem 336 rfl rfl
set_option maxRecDepth 20000 in
theorem kfl_X6_41 : (Cond.fieldLink RX6 41 "TagBus" "MOST_SETTING" "[I") ∈ Gt := gt_mem 337 rfl rfl
set_option maxRecDepth 20000 in
theorem kml_X6_44 : (Cond.methodLink RX6 44 yX6_isBetween) ∈ Gt := gt_mem 339 rfl rfl
set_option maxRecDepth 20000 in
theorem kst_X6_isBetween : (Cond.static yX6_isBetween) ∈ Gt := gt_mem 340 rfl rfl
set_option maxRecDepth 20000 in
theorem kco_X6_isBetween : (Cond.code yX6_isBetween cX6_isBetween 3 (some Jvm.ClassFile.FieldType.boolean)) ∈ Gt := gt_mem 341 rfl rfl
set_option maxRecDepth 20000 in
theorem kml_X6_48 : (Cond.methodLink RX6 48 yX0_highestLentTag) ∈ Gt := gt_mem 342 rfl rfl
set_option maxRecDepth 20000 in
theorem kim_X0_highestLentTag : (Cond.instanceMethod yX0_highestLentTag) ∈ Gt := gt_mem 343 rfl rfl
set_option maxRecDepth 20000 in
theorem kse_X0_highestLentTag : (Cond.selects RX0 yX0_highestLentTag yX0_highestLentTag) ∈ Gt := gt_mem 344 rfl rfl
set_option maxRecDepth 20000 in
theorem kco_X0_highestLentTag : (Cond.code yX0_highestLentTag cX0_highestLentTag 3 (some Jvm.ClassFile.FieldType.int)) ∈ Gt := gt_mem 345 rfl rfl
set_option maxRecDepth 20000 in
theorem kml_X6_55 : (Cond.methodLink RX6 55 yX6_record) ∈ Gt := gt_mem 346 rfl rfl
set_option maxRecDepth 20000 in
theorem kim_X6_record : (Cond.instanceMethod yX6_record) ∈ Gt := gt_mem 348 rfl rfl
set_option maxRecDepth 20000 in
theorem kco_X6_record : (Cond.code yX6_record cX6_record 3 none) ∈ Gt := gt_mem 349 rfl rfl
set_option maxRecDepth 20000 in
theorem kml_X6_148 : (Cond.methodLink RX6 148 yX0_copyFrom) ∈ Gt := gt_mem 350 rfl rfl
set_option maxRecDepth 20000 in
theorem kim_X0_copyFrom : (Cond.instanceMethod yX0_copyFrom) ∈ Gt := gt_mem 351 rfl rfl
set_option maxRecDepth 20000 in
theorem kse_X0_copyFrom : (Cond.selects RX0 yX0_copyFrom yX0_copyFrom) ∈ Gt := gt_mem 352 rfl rfl
set_option maxRecDepth 20000 in
theorem kco_X0_copyFrom : (Cond.code yX0_copyFrom cX0_copyFrom 3 none) ∈ Gt := gt_mem 353 rfl rfl
set_option maxRecDepth 20000 in
theorem kml_X0_43 : (Cond.methodLink RX0 43 arraycopyName) ∈ Gt := gt_mem 354 rfl rfl
set_option maxRecDepth 20000 in
theorem kst_arraycopyName : (Cond.static arraycopyName) ∈ Gt := gt_mem 355 rfl rfl
set_option maxRecDepth 20000 in
theorem kna_arraycopyName : (Cond.native arraycopyName) ∈ Gt := gt_mem 356 rfl rfl
set_option maxRecDepth 20000 in
theorem kml_X0_49 : (Cond.methodLink RX0 49 yX2_copyFrom) ∈ Gt := gt_mem 357 rfl rfl
set_option maxRecDepth 20000 in
theorem kim_X2_copyFrom : (Cond.instanceMethod yX2_copyFrom) ∈ Gt := gt_mem 358 rfl rfl
set_option maxRecDepth 20000 in
theorem kse_X2_copyFrom : (Cond.selects RX2 yX2_copyFrom yX2_copyFrom) ∈ Gt := gt_mem 359 rfl rfl
set_option maxRecDepth 20000 in
theorem kco_X2_copyFrom : (Cond.code yX2_copyFrom cX2_copyFrom 2 none) ∈ Gt := gt_mem 360 rfl rfl
set_option maxRecDepth 20000 in
theorem kml_X2_25 : (Cond.methodLink RX2 25 yX1_copyFrom) ∈ Gt := gt_mem 361 rfl rfl
set_option maxRecDepth 20000 in
theorem kim_X1_copyFrom : (Cond.instanceMethod yX1_copyFrom) ∈ Gt := gt_mem 362 rfl rfl
set_option maxRecDepth 20000 in
theorem kse_X1_copyFrom : (Cond.selects RX1 yX1_copyFrom yX1_copyFrom) ∈ Gt := gt_mem 363 rfl rfl
set_option maxRecDepth 20000 in
theorem kco_X1_copyFrom : (Cond.code yX1_copyFrom cX1_copyFrom 2 none) ∈ Gt := gt_mem 364 rfl rfl
set_option maxRecDepth 20000 in
theorem kml_X1_23 : (Cond.methodLink RX1 23 arraycopyName) ∈ Gt := gt_mem 365 rfl rfl
set_option maxRecDepth 20000 in
theorem kml_X0_53 : (Cond.methodLink RX0 53 yX5_copyFrom) ∈ Gt := gt_mem 366 rfl rfl
set_option maxRecDepth 20000 in
theorem kim_X5_copyFrom : (Cond.instanceMethod yX5_copyFrom) ∈ Gt := gt_mem 367 rfl rfl
set_option maxRecDepth 20000 in
theorem kse_X5_copyFrom : (Cond.selects RX5 yX5_copyFrom yX5_copyFrom) ∈ Gt := gt_mem 368 rfl rfl
set_option maxRecDepth 20000 in
theorem kco_X5_copyFrom : (Cond.code yX5_copyFrom cX5_copyFrom 2 none) ∈ Gt := gt_mem 369 rfl rfl
set_option maxRecDepth 20000 in
theorem kml_X5_33 : (Cond.methodLink RX5 33 arraycopyName) ∈ Gt := gt_mem 370 rfl rfl
set_option maxRecDepth 20000 in
theorem kml_X5_39 : (Cond.methodLink RX5 39 yX1_copyFrom) ∈ Gt := gt_mem 371 rfl rfl
set_option maxRecDepth 20000 in
theorem kml_X0_59 : (Cond.methodLink RX0 59 yX3_copyFrom) ∈ Gt := gt_mem 372 rfl rfl
set_option maxRecDepth 20000 in
theorem kim_X3_copyFrom : (Cond.instanceMethod yX3_copyFrom) ∈ Gt := gt_mem 373 rfl rfl
set_option maxRecDepth 20000 in
theorem kse_X3_copyFrom : (Cond.selects RX3 yX3_copyFrom yX3_copyFrom) ∈ Gt := gt_mem 374 rfl rfl
set_option maxRecDepth 20000 in
theorem kco_X3_copyFrom : (Cond.code yX3_copyFrom cX3_copyFrom 2 none) ∈ Gt := gt_mem 375 rfl rfl
set_option maxRecDepth 20000 in
theorem kml_L_18 : (Cond.methodLink RL 18 yX6_setShare) ∈ Gt := gt_mem 376 rfl rfl
set_option maxRecDepth 20000 in
theorem kim_X6_setShare : (Cond.instanceMethod yX6_setShare) ∈ Gt := gt_mem 377 rfl rfl
set_option maxRecDepth 20000 in
theorem kse_X6_setShare : (Cond.selects RX6 yX6_setShare yX6_setShare) ∈ Gt := gt_mem 378 rfl rfl
set_option maxRecDepth 20000 in
theorem kco_X6_setShare : (Cond.code yX6_setShare cX6_setShare 5 (some Jvm.ClassFile.FieldType.int)) ∈ Gt := gt_mem 379 rfl rfl
set_option maxRecDepth 20000 in
theorem kml_X6_58 : (Cond.methodLink RX6 58 yX0_masterAt) ∈ Gt := gt_mem 380 rfl rfl
set_option maxRecDepth 20000 in
theorem kim_X0_masterAt : (Cond.instanceMethod yX0_masterAt) ∈ Gt := gt_mem 381 rfl rfl
set_option maxRecDepth 20000 in
theorem kse_X0_masterAt : (Cond.selects RX0 yX0_masterAt yX0_masterAt) ∈ Gt := gt_mem 382 rfl rfl
set_option maxRecDepth 20000 in
theorem kco_X0_masterAt : (Cond.code yX0_masterAt cX0_masterAt 2 (some (Jvm.ClassFile.FieldType.object "TagBus$Master"))) ∈ Gt := gt_mem 383 rfl rfl
set_option maxRecDepth 20000 in
theorem kml_L_22 : (Cond.methodLink RL 22 yX6_setTarget) ∈ Gt := gt_mem 385 rfl rfl
set_option maxRecDepth 20000 in
theorem kim_X6_setTarget : (Cond.instanceMethod yX6_setTarget) ∈ Gt := gt_mem 386 rfl rfl
set_option maxRecDepth 20000 in
theorem kse_X6_setTarget : (Cond.selects RX6 yX6_setTarget yX6_setTarget) ∈ Gt := gt_mem 387 rfl rfl
set_option maxRecDepth 20000 in
theorem kco_X6_setTarget : (Cond.code yX6_setTarget cX6_setTarget 6 (some Jvm.ClassFile.FieldType.int)) ∈ Gt := gt_mem 388 rfl rfl
set_option maxRecDepth 20000 in
theorem kml_X6_68 : (Cond.methodLink RX6 68 yX0_targetAt) ∈ Gt := gt_mem 389 rfl rfl
set_option maxRecDepth 20000 in
theorem kim_X0_targetAt : (Cond.instanceMethod yX0_targetAt) ∈ Gt := gt_mem 390 rfl rfl
set_option maxRecDepth 20000 in
theorem kse_X0_targetAt : (Cond.selects RX0 yX0_targetAt yX0_targetAt) ∈ Gt := gt_mem 391 rfl rfl
set_option maxRecDepth 20000 in
theorem kco_X0_targetAt : (Cond.code yX0_targetAt cX0_targetAt 2 (some (Jvm.ClassFile.FieldType.object "TagBus$Target"))) ∈ Gt := gt_mem 392 rfl rfl
set_option maxRecDepth 20000 in
theorem kfl_X6_72 : (Cond.fieldLink RX6 72 "TagBus" "LEAST_OF_TARGET" "[I") ∈ Gt := gt_mem 393 rfl rfl
set_option maxRecDepth 20000 in
theorem kfl_X6_75 : (Cond.fieldLink RX6 75 "TagBus" "MOST_OF_TARGET" "[I") ∈ Gt := gt_mem 395 rfl rfl
set_option maxRecDepth 20000 in
theorem kml_L_27 : (Cond.methodLink RL 27 yX6_setCell) ∈ Gt := gt_mem 397 rfl rfl
set_option maxRecDepth 20000 in
theorem kim_X6_setCell : (Cond.instanceMethod yX6_setCell) ∈ Gt := gt_mem 398 rfl rfl
set_option maxRecDepth 20000 in
theorem kse_X6_setCell : (Cond.selects RX6 yX6_setCell yX6_setCell) ∈ Gt := gt_mem 399 rfl rfl
set_option maxRecDepth 20000 in
theorem kco_X6_setCell : (Cond.code yX6_setCell cX6_setCell 6 (some Jvm.ClassFile.FieldType.int)) ∈ Gt := gt_mem 400 rfl rfl
set_option maxRecDepth 20000 in
theorem kml_L_31 : (Cond.methodLink RL 31 yX6_read) ∈ Gt := gt_mem 401 rfl rfl
set_option maxRecDepth 20000 in
theorem kim_X6_read : (Cond.instanceMethod yX6_read) ∈ Gt := gt_mem 402 rfl rfl
set_option maxRecDepth 20000 in
theorem kse_X6_read : (Cond.selects RX6 yX6_read yX6_read) ∈ Gt := gt_mem 403 rfl rfl
set_option maxRecDepth 20000 in
theorem kco_X6_read : (Cond.code yX6_read cX6_read 4 (some Jvm.ClassFile.FieldType.int)) ∈ Gt := gt_mem 404 rfl rfl
set_option maxRecDepth 20000 in
theorem kml_X6_86 : (Cond.methodLink RX6 86 yX6_putOne) ∈ Gt := gt_mem 405 rfl rfl
set_option maxRecDepth 20000 in
theorem kim_X6_putOne : (Cond.instanceMethod yX6_putOne) ∈ Gt := gt_mem 407 rfl rfl
set_option maxRecDepth 20000 in
theorem kco_X6_putOne : (Cond.code yX6_putOne cX6_putOne 6 (some Jvm.ClassFile.FieldType.int)) ∈ Gt := gt_mem 408 rfl rfl
set_option maxRecDepth 20000 in
theorem kml_X6_118 : (Cond.methodLink RX6 118 yX0_put) ∈ Gt := gt_mem 409 rfl rfl
set_option maxRecDepth 20000 in
theorem kim_X0_put : (Cond.instanceMethod yX0_put) ∈ Gt := gt_mem 410 rfl rfl
set_option maxRecDepth 20000 in
theorem kse_X0_put : (Cond.selects RX0 yX0_put yX0_put) ∈ Gt := gt_mem 411 rfl rfl
set_option maxRecDepth 20000 in
theorem kco_X0_put : (Cond.code yX0_put cX0_put 7 (some Jvm.ClassFile.FieldType.int)) ∈ Gt := gt_mem 412 rfl rfl
set_option maxRecDepth 20000 in
theorem kml_X0_90 : (Cond.methodLink RX0 90 yX0_masterAt) ∈ Gt := gt_mem 413 rfl rfl
set_option maxRecDepth 20000 in
theorem kml_X0_94 : (Cond.methodLink RX0 94 yX3_begin) ∈ Gt := gt_mem 414 rfl rfl
set_option maxRecDepth 20000 in
theorem kim_X3_begin : (Cond.instanceMethod yX3_begin) ∈ Gt := gt_mem 415 rfl rfl
set_option maxRecDepth 20000 in
theorem kse_X3_begin : (Cond.selects RX3 yX3_begin yX3_begin) ∈ Gt := gt_mem 416 rfl rfl
set_option maxRecDepth 20000 in
theorem kco_X3_begin : (Cond.code yX3_begin cX3_begin 6 none) ∈ Gt := gt_mem 417 rfl rfl
set_option maxRecDepth 20000 in
theorem kml_X0_102 : (Cond.methodLink RX0 102 yX1_append) ∈ Gt := gt_mem 418 rfl rfl
set_option maxRecDepth 20000 in
theorem kim_X1_append : (Cond.instanceMethod yX1_append) ∈ Gt := gt_mem 419 rfl rfl
set_option maxRecDepth 20000 in
theorem kse_X1_append : (Cond.selects RX1 yX1_append yX1_append) ∈ Gt := gt_mem 420 rfl rfl
set_option maxRecDepth 20000 in
theorem kco_X1_append : (Cond.code yX1_append cX1_append 2 none) ∈ Gt := gt_mem 421 rfl rfl
set_option maxRecDepth 20000 in
theorem kml_L_35 : (Cond.methodLink RL 35 yX6_write) ∈ Gt := gt_mem 423 rfl rfl
set_option maxRecDepth 20000 in
theorem kim_X6_write : (Cond.instanceMethod yX6_write) ∈ Gt := gt_mem 424 rfl rfl
set_option maxRecDepth 20000 in
theorem kse_X6_write : (Cond.selects RX6 yX6_write yX6_write) ∈ Gt := gt_mem 425 rfl rfl
set_option maxRecDepth 20000 in
theorem kco_X6_write : (Cond.code yX6_write cX6_write 5 (some Jvm.ClassFile.FieldType.int)) ∈ Gt := gt_mem 426 rfl rfl
set_option maxRecDepth 20000 in
theorem kml_L_40 : (Cond.methodLink RL 40 yX6_ask) ∈ Gt := gt_mem 427 rfl rfl
set_option maxRecDepth 20000 in
theorem kim_X6_ask : (Cond.instanceMethod yX6_ask) ∈ Gt := gt_mem 428 rfl rfl
set_option maxRecDepth 20000 in
theorem kse_X6_ask : (Cond.selects RX6 yX6_ask yX6_ask) ∈ Gt := gt_mem 429 rfl rfl
set_option maxRecDepth 20000 in
theorem kco_X6_ask : (Cond.code yX6_ask cX6_ask 4 (some Jvm.ClassFile.FieldType.int)) ∈ Gt := gt_mem 430 rfl rfl
set_option maxRecDepth 20000 in
theorem kml_X6_90 : (Cond.methodLink RX6 90 yX4_findFault) ∈ Gt := gt_mem 431 rfl rfl
set_option maxRecDepth 20000 in
theorem kim_X4_findFault : (Cond.instanceMethod yX4_findFault) ∈ Gt := gt_mem 432 rfl rfl
set_option maxRecDepth 20000 in
theorem kse_X4_findFault : (Cond.selects RX4 yX4_findFault yX4_findFault) ∈ Gt := gt_mem 433 rfl rfl
set_option maxRecDepth 20000 in
theorem kco_X4_findFault : (Cond.code yX4_findFault cX4_findFault 2 (some Jvm.ClassFile.FieldType.int)) ∈ Gt := gt_mem 434 rfl rfl
set_option maxRecDepth 20000 in
theorem kml_X4_39 : (Cond.methodLink RX4 39 yX4_readQuestion) ∈ Gt := gt_mem 435 rfl rfl
set_option maxRecDepth 20000 in
theorem kim_X4_readQuestion : (Cond.instanceMethod yX4_readQuestion) ∈ Gt := gt_mem 437 rfl rfl
set_option maxRecDepth 20000 in
theorem kco_X4_readQuestion : (Cond.code yX4_readQuestion cX4_readQuestion 7 (some Jvm.ClassFile.FieldType.boolean)) ∈ Gt := gt_mem 438 rfl rfl
set_option maxRecDepth 20000 in
theorem kml_X4_47 : (Cond.methodLink RX4 47 yX4_readNumber) ∈ Gt := gt_mem 439 rfl rfl
set_option maxRecDepth 20000 in
theorem kim_X4_readNumber : (Cond.instanceMethod yX4_readNumber) ∈ Gt := gt_mem 441 rfl rfl
set_option maxRecDepth 20000 in
theorem kco_X4_readNumber : (Cond.code yX4_readNumber cX4_readNumber 4 (some Jvm.ClassFile.FieldType.int)) ∈ Gt := gt_mem 442 rfl rfl
set_option maxRecDepth 20000 in
theorem kml_X4_55 : (Cond.methodLink RX4 55 yX4_digitAt) ∈ Gt := gt_mem 443 rfl rfl
set_option maxRecDepth 20000 in
theorem kim_X4_digitAt : (Cond.instanceMethod yX4_digitAt) ∈ Gt := gt_mem 445 rfl rfl
set_option maxRecDepth 20000 in
theorem kco_X4_digitAt : (Cond.code yX4_digitAt cX4_digitAt 3 (some Jvm.ClassFile.FieldType.int)) ∈ Gt := gt_mem 446 rfl rfl
set_option maxRecDepth 20000 in
theorem kml_X4_43 : (Cond.methodLink RX4 43 yX4_skip) ∈ Gt := gt_mem 448 rfl rfl
set_option maxRecDepth 20000 in
theorem kim_X4_skip : (Cond.instanceMethod yX4_skip) ∈ Gt := gt_mem 450 rfl rfl
set_option maxRecDepth 20000 in
theorem kco_X4_skip : (Cond.code yX4_skip cX4_skip 2 (some Jvm.ClassFile.FieldType.boolean)) ∈ Gt := gt_mem 451 rfl rfl
set_option maxRecDepth 20000 in
theorem kml_X4_51 : (Cond.methodLink RX4 51 yX3_begin) ∈ Gt := gt_mem 452 rfl rfl
set_option maxRecDepth 20000 in
theorem kml_X6_93 : (Cond.methodLink RX6 93 yX6_hasRoomForText) ∈ Gt := gt_mem 453 rfl rfl
set_option maxRecDepth 20000 in
theorem kim_X6_hasRoomForText : (Cond.instanceMethod yX6_hasRoomForText) ∈ Gt := gt_mem 455 rfl rfl
set_option maxRecDepth 20000 in
theorem kco_X6_hasRoomForText : (Cond.code yX6_hasRoomForText cX6_hasRoomForText 3 (some Jvm.ClassFile.FieldType.boolean)) ∈ Gt := gt_mem 456 rfl rfl
set_option maxRecDepth 20000 in
theorem kml_X6_239 : (Cond.methodLink RX6 239 yX4_foundOf) ∈ Gt := gt_mem 457 rfl rfl
set_option maxRecDepth 20000 in
theorem kim_X4_foundOf : (Cond.instanceMethod yX4_foundOf) ∈ Gt := gt_mem 458 rfl rfl
set_option maxRecDepth 20000 in
theorem kse_X4_foundOf : (Cond.selects RX4 yX4_foundOf yX4_foundOf) ∈ Gt := gt_mem 459 rfl rfl
set_option maxRecDepth 20000 in
theorem kco_X4_foundOf : (Cond.code yX4_foundOf cX4_foundOf 4 (some Jvm.ClassFile.FieldType.int)) ∈ Gt := gt_mem 460 rfl rfl
set_option maxRecDepth 20000 in
theorem kml_X6_100 : (Cond.methodLink RX6 100 yX4_questionAt) ∈ Gt := gt_mem 461 rfl rfl
set_option maxRecDepth 20000 in
theorem kim_X4_questionAt : (Cond.instanceMethod yX4_questionAt) ∈ Gt := gt_mem 462 rfl rfl
set_option maxRecDepth 20000 in
theorem kse_X4_questionAt : (Cond.selects RX4 yX4_questionAt yX4_questionAt) ∈ Gt := gt_mem 463 rfl rfl
set_option maxRecDepth 20000 in
theorem kco_X4_questionAt : (Cond.code yX4_questionAt cX4_questionAt 2 (some (Jvm.ClassFile.FieldType.object "TagBus$Question"))) ∈ Gt := gt_mem 464 rfl rfl
set_option maxRecDepth 20000 in
theorem kml_L_45 : (Cond.methodLink RL 45 yX6_withdraw) ∈ Gt := gt_mem 465 rfl rfl
set_option maxRecDepth 20000 in
theorem kim_X6_withdraw : (Cond.instanceMethod yX6_withdraw) ∈ Gt := gt_mem 466 rfl rfl
set_option maxRecDepth 20000 in
theorem kse_X6_withdraw : (Cond.selects RX6 yX6_withdraw yX6_withdraw) ∈ Gt := gt_mem 467 rfl rfl
set_option maxRecDepth 20000 in
theorem kco_X6_withdraw : (Cond.code yX6_withdraw cX6_withdraw 3 (some Jvm.ClassFile.FieldType.int)) ∈ Gt := gt_mem 468 rfl rfl
set_option maxRecDepth 20000 in
theorem kml_X6_130 : (Cond.methodLink RX6 130 yX0_takeLastOf) ∈ Gt := gt_mem 469 rfl rfl
set_option maxRecDepth 20000 in
theorem kim_X0_takeLastOf : (Cond.instanceMethod yX0_takeLastOf) ∈ Gt := gt_mem 470 rfl rfl
set_option maxRecDepth 20000 in
theorem kse_X0_takeLastOf : (Cond.selects RX0 yX0_takeLastOf yX0_takeLastOf) ∈ Gt := gt_mem 471 rfl rfl
set_option maxRecDepth 20000 in
theorem kco_X0_takeLastOf : (Cond.code yX0_takeLastOf cX0_takeLastOf 5 (some Jvm.ClassFile.FieldType.int)) ∈ Gt := gt_mem 472 rfl rfl
set_option maxRecDepth 20000 in
theorem kml_X0_111 : (Cond.methodLink RX0 111 yX1_at) ∈ Gt := gt_mem 473 rfl rfl
set_option maxRecDepth 20000 in
theorem kim_X1_at : (Cond.instanceMethod yX1_at) ∈ Gt := gt_mem 474 rfl rfl
set_option maxRecDepth 20000 in
theorem kse_X1_at : (Cond.selects RX1 yX1_at yX1_at) ∈ Gt := gt_mem 475 rfl rfl
set_option maxRecDepth 20000 in
theorem kco_X1_at : (Cond.code yX1_at cX1_at 2 (some Jvm.ClassFile.FieldType.int)) ∈ Gt := gt_mem 476 rfl rfl
set_option maxRecDepth 20000 in
theorem kml_X0_115 : (Cond.methodLink RX0 115 yX1_removeAt) ∈ Gt := gt_mem 477 rfl rfl
set_option maxRecDepth 20000 in
theorem kim_X1_removeAt : (Cond.instanceMethod yX1_removeAt) ∈ Gt := gt_mem 478 rfl rfl
set_option maxRecDepth 20000 in
theorem kse_X1_removeAt : (Cond.selects RX1 yX1_removeAt yX1_removeAt) ∈ Gt := gt_mem 479 rfl rfl
set_option maxRecDepth 20000 in
theorem kco_X1_removeAt : (Cond.code yX1_removeAt cX1_removeAt 3 none) ∈ Gt := gt_mem 480 rfl rfl
set_option maxRecDepth 20000 in
theorem kml_X0_121 : (Cond.methodLink RX0 121 yX0_questionAt) ∈ Gt := gt_mem 481 rfl rfl
set_option maxRecDepth 20000 in
theorem kim_X0_questionAt : (Cond.instanceMethod yX0_questionAt) ∈ Gt := gt_mem 482 rfl rfl
set_option maxRecDepth 20000 in
theorem kse_X0_questionAt : (Cond.selects RX0 yX0_questionAt yX0_questionAt) ∈ Gt := gt_mem 483 rfl rfl
set_option maxRecDepth 20000 in
theorem kco_X0_questionAt : (Cond.code yX0_questionAt cX0_questionAt 2 (some (Jvm.ClassFile.FieldType.object "TagBus$Question"))) ∈ Gt := gt_mem 484 rfl rfl
set_option maxRecDepth 20000 in
theorem kml_L_50 : (Cond.methodLink RL 50 yX6_pass) ∈ Gt := gt_mem 485 rfl rfl
set_option maxRecDepth 20000 in
theorem kim_X6_pass : (Cond.instanceMethod yX6_pass) ∈ Gt := gt_mem 486 rfl rfl
set_option maxRecDepth 20000 in
theorem kse_X6_pass : (Cond.selects RX6 yX6_pass yX6_pass) ∈ Gt := gt_mem 487 rfl rfl
set_option maxRecDepth 20000 in
theorem kco_X6_pass : (Cond.code yX6_pass cX6_pass 4 (some Jvm.ClassFile.FieldType.int)) ∈ Gt := gt_mem 488 rfl rfl
set_option maxRecDepth 20000 in
theorem kml_X6_137 : (Cond.methodLink RX6 137 yX0_passTick) ∈ Gt := gt_mem 489 rfl rfl
set_option maxRecDepth 20000 in
theorem kim_X0_passTick : (Cond.instanceMethod yX0_passTick) ∈ Gt := gt_mem 490 rfl rfl
set_option maxRecDepth 20000 in
theorem kse_X0_passTick : (Cond.selects RX0 yX0_passTick yX0_passTick) ∈ Gt := gt_mem 491 rfl rfl
set_option maxRecDepth 20000 in
theorem kco_X0_passTick : (Cond.code yX0_passTick cX0_passTick 3 (some Jvm.ClassFile.FieldType.int)) ∈ Gt := gt_mem 492 rfl rfl
set_option maxRecDepth 20000 in
theorem kml_X0_131 : (Cond.methodLink RX0 131 yX0_finishQuestions) ∈ Gt := gt_mem 493 rfl rfl
set_option maxRecDepth 20000 in
theorem kim_X0_finishQuestions : (Cond.instanceMethod yX0_finishQuestions) ∈ Gt := gt_mem 495 rfl rfl
set_option maxRecDepth 20000 in
theorem kco_X0_finishQuestions : (Cond.code yX0_finishQuestions cX0_finishQuestions 7 none) ∈ Gt := gt_mem 496 rfl rfl
set_option maxRecDepth 20000 in
theorem kml_X0_153 : (Cond.methodLink RX0 153 yX5_useCell) ∈ Gt := gt_mem 497 rfl rfl
set_option maxRecDepth 20000 in
theorem kim_X5_useCell : (Cond.instanceMethod yX5_useCell) ∈ Gt := gt_mem 498 rfl rfl
set_option maxRecDepth 20000 in
theorem kse_X5_useCell : (Cond.selects RX5 yX5_useCell yX5_useCell) ∈ Gt := gt_mem 499 rfl rfl
set_option maxRecDepth 20000 in
theorem kco_X5_useCell : (Cond.code yX5_useCell cX5_useCell 4 (some Jvm.ClassFile.FieldType.int)) ∈ Gt := gt_mem 500 rfl rfl
set_option maxRecDepth 20000 in
theorem kml_X0_134 : (Cond.methodLink RX0 134 yX0_makeTrip) ∈ Gt := gt_mem 502 rfl rfl
set_option maxRecDepth 20000 in
theorem kim_X0_makeTrip : (Cond.instanceMethod yX0_makeTrip) ∈ Gt := gt_mem 504 rfl rfl
set_option maxRecDepth 20000 in
theorem kco_X0_makeTrip : (Cond.code yX0_makeTrip cX0_makeTrip 3 (some Jvm.ClassFile.FieldType.int)) ∈ Gt := gt_mem 505 rfl rfl
set_option maxRecDepth 20000 in
theorem kml_X0_160 : (Cond.methodLink RX0 160 yX0_targetThatAnswers) ∈ Gt := gt_mem 506 rfl rfl
set_option maxRecDepth 20000 in
theorem kim_X0_targetThatAnswers : (Cond.instanceMethod yX0_targetThatAnswers) ∈ Gt := gt_mem 508 rfl rfl
set_option maxRecDepth 20000 in
theorem kco_X0_targetThatAnswers : (Cond.code yX0_targetThatAnswers cX0_targetThatAnswers 4 (some Jvm.ClassFile.FieldType.int)) ∈ Gt := gt_mem 509 rfl rfl
set_option maxRecDepth 20000 in
theorem kml_X0_176 : (Cond.methodLink RX0 176 yX0_targetAt) ∈ Gt := gt_mem 510 rfl rfl
set_option maxRecDepth 20000 in
theorem kml_X0_180 : (Cond.methodLink RX0 180 yX0_placeOfAnswer) ∈ Gt := gt_mem 511 rfl rfl
set_option maxRecDepth 20000 in
theorem kim_X0_placeOfAnswer : (Cond.instanceMethod yX0_placeOfAnswer) ∈ Gt := gt_mem 512 rfl rfl
set_option maxRecDepth 20000 in
theorem kse_X0_placeOfAnswer : (Cond.selects RX0 yX0_placeOfAnswer yX0_placeOfAnswer) ∈ Gt := gt_mem 513 rfl rfl
set_option maxRecDepth 20000 in
theorem kco_X0_placeOfAnswer : (Cond.code yX0_placeOfAnswer cX0_placeOfAnswer 8 (some Jvm.ClassFile.FieldType.int)) ∈ Gt := gt_mem 514 rfl rfl
set_option maxRecDepth 20000 in
theorem kml_X0_187 : (Cond.methodLink RX0 187 Lib.Math.min.name) ∈ Gt := gt_mem 515 rfl rfl
set_option maxRecDepth 20000 in
theorem kst_Lib_Math_min_name : (Cond.static Lib.Math.min.name) ∈ Gt := gt_mem 516 rfl rfl
set_option maxRecDepth 20000 in
theorem kco_Lib_Math_min_name : (Cond.code Lib.Math.min.name Lib.Math.min.code 2 (some Jvm.ClassFile.FieldType.int)) ∈ Gt := gt_mem 517 rfl rfl
set_option maxRecDepth 20000 in
theorem kml_X0_163 : (Cond.methodLink RX0 163 yX0_masterThatSends) ∈ Gt := gt_mem 518 rfl rfl
set_option maxRecDepth 20000 in
theorem kim_X0_masterThatSends : (Cond.instanceMethod yX0_masterThatSends) ∈ Gt := gt_mem 520 rfl rfl
set_option maxRecDepth 20000 in
theorem kco_X0_masterThatSends : (Cond.code yX0_masterThatSends cX0_masterThatSends 5 (some Jvm.ClassFile.FieldType.int)) ∈ Gt := gt_mem 521 rfl rfl
set_option maxRecDepth 20000 in
theorem kml_X0_192 : (Cond.methodLink RX0 192 yX0_lowestFreeTag) ∈ Gt := gt_mem 522 rfl rfl
set_option maxRecDepth 20000 in
theorem kim_X0_lowestFreeTag : (Cond.instanceMethod yX0_lowestFreeTag) ∈ Gt := gt_mem 523 rfl rfl
set_option maxRecDepth 20000 in
theorem kse_X0_lowestFreeTag : (Cond.selects RX0 yX0_lowestFreeTag yX0_lowestFreeTag) ∈ Gt := gt_mem 524 rfl rfl
set_option maxRecDepth 20000 in
theorem kco_X0_lowestFreeTag : (Cond.code yX0_lowestFreeTag cX0_lowestFreeTag 2 (some Jvm.ClassFile.FieldType.int)) ∈ Gt := gt_mem 525 rfl rfl
set_option maxRecDepth 20000 in
theorem kml_X0_195 : (Cond.methodLink RX0 195 yX0_masterThatWaitedTooLong) ∈ Gt := gt_mem 526 rfl rfl
set_option maxRecDepth 20000 in
theorem kim_X0_masterThatWaitedTooLong : (Cond.instanceMethod yX0_masterThatWaitedTooLong) ∈ Gt := gt_mem 528 rfl rfl
set_option maxRecDepth 20000 in
theorem kco_X0_masterThatWaitedTooLong : (Cond.code yX0_masterThatWaitedTooLong cX0_masterThatWaitedTooLong 5 (some Jvm.ClassFile.FieldType.int)) ∈ Gt := gt_mem 529 rfl rfl
set_option maxRecDepth 20000 in
theorem kml_X0_198 : (Cond.methodLink RX0 198 yX0_maySend) ∈ Gt := gt_mem 530 rfl rfl
set_option maxRecDepth 20000 in
theorem kim_X0_maySend : (Cond.instanceMethod yX0_maySend) ∈ Gt := gt_mem 532 rfl rfl
set_option maxRecDepth 20000 in
theorem kco_X0_maySend : (Cond.code yX0_maySend cX0_maySend 2 (some Jvm.ClassFile.FieldType.boolean)) ∈ Gt := gt_mem 533 rfl rfl
set_option maxRecDepth 20000 in
theorem kml_X0_202 : (Cond.methodLink RX0 202 yX0_isOutOfPatience) ∈ Gt := gt_mem 534 rfl rfl
set_option maxRecDepth 20000 in
theorem kim_X0_isOutOfPatience : (Cond.instanceMethod yX0_isOutOfPatience) ∈ Gt := gt_mem 535 rfl rfl
set_option maxRecDepth 20000 in
theorem kse_X0_isOutOfPatience : (Cond.selects RX0 yX0_isOutOfPatience yX0_isOutOfPatience) ∈ Gt := gt_mem 536 rfl rfl
set_option maxRecDepth 20000 in
theorem kco_X0_isOutOfPatience : (Cond.code yX0_isOutOfPatience cX0_isOutOfPatience 2 (some Jvm.ClassFile.FieldType.boolean)) ∈ Gt := gt_mem 537 rfl rfl
set_option maxRecDepth 20000 in
theorem kml_X0_166 : (Cond.methodLink RX0 166 yX0_prefersAnswer) ∈ Gt := gt_mem 538 rfl rfl
set_option maxRecDepth 20000 in
theorem kim_X0_prefersAnswer : (Cond.instanceMethod yX0_prefersAnswer) ∈ Gt := gt_mem 540 rfl rfl
set_option maxRecDepth 20000 in
theorem kco_X0_prefersAnswer : (Cond.code yX0_prefersAnswer cX0_prefersAnswer 2 (some Jvm.ClassFile.FieldType.boolean)) ∈ Gt := gt_mem 541 rfl rfl
set_option maxRecDepth 20000 in
theorem kml_X0_170 : (Cond.methodLink RX0 170 yX0_sendAnswerOf) ∈ Gt := gt_mem 542 rfl rfl
set_option maxRecDepth 20000 in
theorem kim_X0_sendAnswerOf : (Cond.instanceMethod yX0_sendAnswerOf) ∈ Gt := gt_mem 544 rfl rfl
set_option maxRecDepth 20000 in
theorem kco_X0_sendAnswerOf : (Cond.code yX0_sendAnswerOf cX0_sendAnswerOf 6 (some Jvm.ClassFile.FieldType.int)) ∈ Gt := gt_mem 545 rfl rfl
set_option maxRecDepth 20000 in
theorem kml_X0_235 : (Cond.methodLink RX0 235 yX0_takeTagBack) ∈ Gt := gt_mem 546 rfl rfl
set_option maxRecDepth 20000 in
theorem kim_X0_takeTagBack : (Cond.instanceMethod yX0_takeTagBack) ∈ Gt := gt_mem 548 rfl rfl
set_option maxRecDepth 20000 in
theorem kco_X0_takeTagBack : (Cond.code yX0_takeTagBack cX0_takeTagBack 2 none) ∈ Gt := gt_mem 549 rfl rfl
set_option maxRecDepth 20000 in
theorem kml_X0_244 : (Cond.methodLink RX0 244 yX0_noteAnswer) ∈ Gt := gt_mem 550 rfl rfl
set_option maxRecDepth 20000 in
theorem kim_X0_noteAnswer : (Cond.instanceMethod yX0_noteAnswer) ∈ Gt := gt_mem 552 rfl rfl
set_option maxRecDepth 20000 in
theorem kco_X0_noteAnswer : (Cond.code yX0_noteAnswer cX0_noteAnswer 3 none) ∈ Gt := gt_mem 553 rfl rfl
set_option maxRecDepth 20000 in
theorem kml_X0_254 : (Cond.methodLink RX0 254 Lib.Math.max.name) ∈ Gt := gt_mem 554 rfl rfl
set_option maxRecDepth 20000 in
theorem kst_Lib_Math_max_name : (Cond.static Lib.Math.max.name) ∈ Gt := gt_mem 555 rfl rfl
set_option maxRecDepth 20000 in
theorem kco_Lib_Math_max_name : (Cond.code Lib.Math.max.name Lib.Math.max.code 2 (some Jvm.ClassFile.FieldType.int)) ∈ Gt := gt_mem 556 rfl rfl
set_option maxRecDepth 20000 in
theorem kml_X0_173 : (Cond.methodLink RX0 173 yX0_sendQuestionOf) ∈ Gt := gt_mem 557 rfl rfl
set_option maxRecDepth 20000 in
theorem kim_X0_sendQuestionOf : (Cond.instanceMethod yX0_sendQuestionOf) ∈ Gt := gt_mem 559 rfl rfl
set_option maxRecDepth 20000 in
theorem kco_X0_sendQuestionOf : (Cond.code yX0_sendQuestionOf cX0_sendQuestionOf 6 (some Jvm.ClassFile.FieldType.int)) ∈ Gt := gt_mem 560 rfl rfl
set_option maxRecDepth 20000 in
theorem kml_X0_217 : (Cond.methodLink RX0 217 yX5_isFull) ∈ Gt := gt_mem 561 rfl rfl
set_option maxRecDepth 20000 in
theorem kim_X5_isFull : (Cond.instanceMethod yX5_isFull) ∈ Gt := gt_mem 562 rfl rfl
set_option maxRecDepth 20000 in
theorem kse_X5_isFull : (Cond.selects RX5 yX5_isFull yX5_isFull) ∈ Gt := gt_mem 563 rfl rfl
set_option maxRecDepth 20000 in
theorem kco_X5_isFull : (Cond.code yX5_isFull cX5_isFull 1 (some Jvm.ClassFile.FieldType.boolean)) ∈ Gt := gt_mem 564 rfl rfl
set_option maxRecDepth 20000 in
theorem kml_X0_220 : (Cond.methodLink RX0 220 yX0_refuse) ∈ Gt := gt_mem 565 rfl rfl
set_option maxRecDepth 20000 in
theorem kim_X0_refuse : (Cond.instanceMethod yX0_refuse) ∈ Gt := gt_mem 567 rfl rfl
set_option maxRecDepth 20000 in
theorem kco_X0_refuse : (Cond.code yX0_refuse cX0_refuse 4 none) ∈ Gt := gt_mem 568 rfl rfl
set_option maxRecDepth 20000 in
theorem kml_X0_224 : (Cond.methodLink RX0 224 yX0_letIn) ∈ Gt := gt_mem 569 rfl rfl
set_option maxRecDepth 20000 in
theorem kim_X0_letIn : (Cond.instanceMethod yX0_letIn) ∈ Gt := gt_mem 571 rfl rfl
set_option maxRecDepth 20000 in
theorem kco_X0_letIn : (Cond.code yX0_letIn cX0_letIn 6 none) ∈ Gt := gt_mem 572 rfl rfl
set_option maxRecDepth 20000 in
theorem kml_X0_141 : (Cond.methodLink RX0 141 yX0_countWaits) ∈ Gt := gt_mem 573 rfl rfl
set_option maxRecDepth 20000 in
theorem kim_X0_countWaits : (Cond.instanceMethod yX0_countWaits) ∈ Gt := gt_mem 575 rfl rfl
set_option maxRecDepth 20000 in
theorem kco_X0_countWaits : (Cond.code yX0_countWaits cX0_countWaits 4 none) ∈ Gt := gt_mem 576 rfl rfl
set_option maxRecDepth 20000 in
theorem kml_L_54 : (Cond.methodLink RL 54 yX6_type) ∈ Gt := gt_mem 577 rfl rfl
set_option maxRecDepth 20000 in
theorem kim_X6_type : (Cond.instanceMethod yX6_type) ∈ Gt := gt_mem 578 rfl rfl
set_option maxRecDepth 20000 in
theorem kse_X6_type : (Cond.selects RX6 yX6_type yX6_type) ∈ Gt := gt_mem 579 rfl rfl
set_option maxRecDepth 20000 in
theorem kco_X6_type : (Cond.code yX6_type cX6_type 2 (some Jvm.ClassFile.FieldType.int)) ∈ Gt := gt_mem 580 rfl rfl
set_option maxRecDepth 20000 in
theorem kml_X6_140 : (Cond.methodLink RX6 140 yX4_append) ∈ Gt := gt_mem 581 rfl rfl
set_option maxRecDepth 20000 in
theorem kim_X4_append : (Cond.instanceMethod yX4_append) ∈ Gt := gt_mem 582 rfl rfl
set_option maxRecDepth 20000 in
theorem kse_X4_append : (Cond.selects RX4 yX4_append yX4_append) ∈ Gt := gt_mem 583 rfl rfl
set_option maxRecDepth 20000 in
theorem kco_X4_append : (Cond.code yX4_append cX4_append 2 (some Jvm.ClassFile.FieldType.boolean)) ∈ Gt := gt_mem 584 rfl rfl
set_option maxRecDepth 20000 in
theorem kml_L_59 : (Cond.methodLink RL 59 yX6_clearText) ∈ Gt := gt_mem 585 rfl rfl
set_option maxRecDepth 20000 in
theorem kim_X6_clearText : (Cond.instanceMethod yX6_clearText) ∈ Gt := gt_mem 586 rfl rfl
set_option maxRecDepth 20000 in
theorem kse_X6_clearText : (Cond.selects RX6 yX6_clearText yX6_clearText) ∈ Gt := gt_mem 587 rfl rfl
set_option maxRecDepth 20000 in
theorem kco_X6_clearText : (Cond.code yX6_clearText cX6_clearText 2 (some Jvm.ClassFile.FieldType.int)) ∈ Gt := gt_mem 588 rfl rfl
set_option maxRecDepth 20000 in
theorem kml_L_63 : (Cond.methodLink RL 63 yX6_undo) ∈ Gt := gt_mem 589 rfl rfl
set_option maxRecDepth 20000 in
theorem kim_X6_undo : (Cond.instanceMethod yX6_undo) ∈ Gt := gt_mem 590 rfl rfl
set_option maxRecDepth 20000 in
theorem kse_X6_undo : (Cond.selects RX6 yX6_undo yX6_undo) ∈ Gt := gt_mem 591 rfl rfl
set_option maxRecDepth 20000 in
theorem kco_X6_undo : (Cond.code yX6_undo cX6_undo 2 (some Jvm.ClassFile.FieldType.int)) ∈ Gt := gt_mem 592 rfl rfl
set_option maxRecDepth 20000 in
theorem kml_L_67 : (Cond.methodLink RL 67 yX6_keep) ∈ Gt := gt_mem 593 rfl rfl
set_option maxRecDepth 20000 in
theorem kim_X6_keep : (Cond.instanceMethod yX6_keep) ∈ Gt := gt_mem 594 rfl rfl
set_option maxRecDepth 20000 in
theorem kse_X6_keep : (Cond.selects RX6 yX6_keep yX6_keep) ∈ Gt := gt_mem 595 rfl rfl
set_option maxRecDepth 20000 in
theorem kco_X6_keep : (Cond.code yX6_keep cX6_keep 1 (some Jvm.ClassFile.FieldType.int)) ∈ Gt := gt_mem 596 rfl rfl
set_option maxRecDepth 20000 in
theorem kml_L_71 : (Cond.methodLink RL 71 yX6_restore) ∈ Gt := gt_mem 597 rfl rfl
set_option maxRecDepth 20000 in
theorem kim_X6_restore : (Cond.instanceMethod yX6_restore) ∈ Gt := gt_mem 598 rfl rfl
set_option maxRecDepth 20000 in
theorem kse_X6_restore : (Cond.selects RX6 yX6_restore yX6_restore) ∈ Gt := gt_mem 599 rfl rfl
set_option maxRecDepth 20000 in
theorem kco_X6_restore : (Cond.code yX6_restore cX6_restore 1 (some Jvm.ClassFile.FieldType.int)) ∈ Gt := gt_mem 600 rfl rfl
set_option maxRecDepth 20000 in
theorem kml_L_75 : (Cond.methodLink RL 75 yX6_question) ∈ Gt := gt_mem 601 rfl rfl
set_option maxRecDepth 20000 in
theorem kim_X6_question : (Cond.instanceMethod yX6_question) ∈ Gt := gt_mem 602 rfl rfl
set_option maxRecDepth 20000 in
theorem kse_X6_question : (Cond.selects RX6 yX6_question yX6_question) ∈ Gt := gt_mem 603 rfl rfl
set_option maxRecDepth 20000 in
theorem kco_X6_question : (Cond.code yX6_question cX6_question 4 (some Jvm.ClassFile.FieldType.int)) ∈ Gt := gt_mem 604 rfl rfl
set_option maxRecDepth 20000 in
theorem kml_X6_156 : (Cond.methodLink RX6 156 yX0_questionAt) ∈ Gt := gt_mem 605 rfl rfl
set_option maxRecDepth 20000 in
theorem kml_L_79 : (Cond.methodLink RL 79 yX6_tag) ∈ Gt := gt_mem 606 rfl rfl
set_option maxRecDepth 20000 in
theorem kim_X6_tag : (Cond.instanceMethod yX6_tag) ∈ Gt := gt_mem 607 rfl rfl
set_option maxRecDepth 20000 in
theorem kse_X6_tag : (Cond.selects RX6 yX6_tag yX6_tag) ∈ Gt := gt_mem 608 rfl rfl
set_option maxRecDepth 20000 in
theorem kco_X6_tag : (Cond.code yX6_tag cX6_tag 2 (some Jvm.ClassFile.FieldType.int)) ∈ Gt := gt_mem 609 rfl rfl
set_option maxRecDepth 20000 in
theorem kml_L_83 : (Cond.methodLink RL 83 yX6_master) ∈ Gt := gt_mem 610 rfl rfl
set_option maxRecDepth 20000 in
theorem kim_X6_master : (Cond.instanceMethod yX6_master) ∈ Gt := gt_mem 611 rfl rfl
set_option maxRecDepth 20000 in
theorem kse_X6_master : (Cond.selects RX6 yX6_master yX6_master) ∈ Gt := gt_mem 612 rfl rfl
set_option maxRecDepth 20000 in
theorem kco_X6_master : (Cond.code yX6_master cX6_master 4 (some Jvm.ClassFile.FieldType.int)) ∈ Gt := gt_mem 613 rfl rfl
set_option maxRecDepth 20000 in
theorem kml_X6_182 : (Cond.methodLink RX6 182 Lib.Math.max.name) ∈ Gt := gt_mem 614 rfl rfl
set_option maxRecDepth 20000 in
theorem kml_X6_197 : (Cond.methodLink RX6 197 yX0_isOutOfPatience) ∈ Gt := gt_mem 615 rfl rfl
set_option maxRecDepth 20000 in
theorem kml_L_87 : (Cond.methodLink RL 87 yX6_row) ∈ Gt := gt_mem 616 rfl rfl
set_option maxRecDepth 20000 in
theorem kim_X6_row : (Cond.instanceMethod yX6_row) ∈ Gt := gt_mem 617 rfl rfl
set_option maxRecDepth 20000 in
theorem kse_X6_row : (Cond.selects RX6 yX6_row yX6_row) ∈ Gt := gt_mem 618 rfl rfl
set_option maxRecDepth 20000 in
theorem kco_X6_row : (Cond.code yX6_row cX6_row 4 (some Jvm.ClassFile.FieldType.int)) ∈ Gt := gt_mem 619 rfl rfl
set_option maxRecDepth 20000 in
theorem kml_X6_201 : (Cond.methodLink RX6 201 yX1_at) ∈ Gt := gt_mem 620 rfl rfl
set_option maxRecDepth 20000 in
theorem kml_L_91 : (Cond.methodLink RL 91 yX6_target) ∈ Gt := gt_mem 621 rfl rfl
set_option maxRecDepth 20000 in
theorem kim_X6_target : (Cond.instanceMethod yX6_target) ∈ Gt := gt_mem 622 rfl rfl
set_option maxRecDepth 20000 in
theorem kse_X6_target : (Cond.selects RX6 yX6_target yX6_target) ∈ Gt := gt_mem 623 rfl rfl
set_option maxRecDepth 20000 in
theorem kco_X6_target : (Cond.code yX6_target cX6_target 4 (some Jvm.ClassFile.FieldType.int)) ∈ Gt := gt_mem 624 rfl rfl
set_option maxRecDepth 20000 in
theorem kml_X6_208 : (Cond.methodLink RX6 208 yX0_doneIn) ∈ Gt := gt_mem 625 rfl rfl
set_option maxRecDepth 20000 in
theorem kim_X0_doneIn : (Cond.instanceMethod yX0_doneIn) ∈ Gt := gt_mem 626 rfl rfl
set_option maxRecDepth 20000 in
theorem kse_X0_doneIn : (Cond.selects RX0 yX0_doneIn yX0_doneIn) ∈ Gt := gt_mem 627 rfl rfl
set_option maxRecDepth 20000 in
theorem kco_X0_doneIn : (Cond.code yX0_doneIn cX0_doneIn 5 (some Jvm.ClassFile.FieldType.int)) ∈ Gt := gt_mem 628 rfl rfl
set_option maxRecDepth 20000 in
theorem kml_X6_212 : (Cond.methodLink RX6 212 yX0_placeOfAnswer) ∈ Gt := gt_mem 629 rfl rfl
set_option maxRecDepth 20000 in
theorem kml_L_95 : (Cond.methodLink RL 95 yX6_cell) ∈ Gt := gt_mem 630 rfl rfl
set_option maxRecDepth 20000 in
theorem kim_X6_cell : (Cond.instanceMethod yX6_cell) ∈ Gt := gt_mem 631 rfl rfl
set_option maxRecDepth 20000 in
theorem kse_X6_cell : (Cond.selects RX6 yX6_cell yX6_cell) ∈ Gt := gt_mem 632 rfl rfl
set_option maxRecDepth 20000 in
theorem kco_X6_cell : (Cond.code yX6_cell cX6_cell 4 (some Jvm.ClassFile.FieldType.int)) ∈ Gt := gt_mem 633 rfl rfl
set_option maxRecDepth 20000 in
theorem kml_L_99 : (Cond.methodLink RL 99 yX6_next) ∈ Gt := gt_mem 634 rfl rfl
set_option maxRecDepth 20000 in
theorem kim_X6_next : (Cond.instanceMethod yX6_next) ∈ Gt := gt_mem 635 rfl rfl
set_option maxRecDepth 20000 in
theorem kse_X6_next : (Cond.selects RX6 yX6_next yX6_next) ∈ Gt := gt_mem 636 rfl rfl
set_option maxRecDepth 20000 in
theorem kco_X6_next : (Cond.code yX6_next cX6_next 3 (some Jvm.ClassFile.FieldType.int)) ∈ Gt := gt_mem 637 rfl rfl
set_option maxRecDepth 20000 in
theorem kml_L_103 : (Cond.methodLink RL 103 yX6_answeredIn) ∈ Gt := gt_mem 638 rfl rfl
set_option maxRecDepth 20000 in
theorem kim_X6_answeredIn : (Cond.instanceMethod yX6_answeredIn) ∈ Gt := gt_mem 639 rfl rfl
set_option maxRecDepth 20000 in
theorem kse_X6_answeredIn : (Cond.selects RX6 yX6_answeredIn yX6_answeredIn) ∈ Gt := gt_mem 640 rfl rfl
set_option maxRecDepth 20000 in
theorem kco_X6_answeredIn : (Cond.code yX6_answeredIn cX6_answeredIn 4 (some Jvm.ClassFile.FieldType.int)) ∈ Gt := gt_mem 641 rfl rfl
set_option maxRecDepth 20000 in
theorem kml_L_107 : (Cond.methodLink RL 107 yX6_count) ∈ Gt := gt_mem 642 rfl rfl
set_option maxRecDepth 20000 in
theorem kim_X6_count : (Cond.instanceMethod yX6_count) ∈ Gt := gt_mem 643 rfl rfl
set_option maxRecDepth 20000 in
theorem kse_X6_count : (Cond.selects RX6 yX6_count yX6_count) ∈ Gt := gt_mem 644 rfl rfl
set_option maxRecDepth 20000 in
theorem kco_X6_count : (Cond.code yX6_count cX6_count 2 (some Jvm.ClassFile.FieldType.int)) ∈ Gt := gt_mem 645 rfl rfl
set_option maxRecDepth 20000 in
theorem kml_X6_221 : (Cond.methodLink RX6 221 yX0_freeTags) ∈ Gt := gt_mem 646 rfl rfl
set_option maxRecDepth 20000 in
theorem kim_X0_freeTags : (Cond.instanceMethod yX0_freeTags) ∈ Gt := gt_mem 647 rfl rfl
set_option maxRecDepth 20000 in
theorem kse_X0_freeTags : (Cond.selects RX0 yX0_freeTags yX0_freeTags) ∈ Gt := gt_mem 648 rfl rfl
set_option maxRecDepth 20000 in
theorem kco_X0_freeTags : (Cond.code yX0_freeTags cX0_freeTags 3 (some Jvm.ClassFile.FieldType.int)) ∈ Gt := gt_mem 649 rfl rfl
set_option maxRecDepth 20000 in
theorem kcl_L_10 : (Cond.classLink RL 10 RX7) ∈ Gt := gt_mem 650 rfl rfl
set_option maxRecDepth 20000 in
theorem kia_X7 : (Cond.instantiable RX7 13) ∈ Gt := gt_mem 651 rfl rfl
set_option maxRecDepth 20000 in
theorem kml_L_12 : (Cond.methodLink RL 12 yX7_init) ∈ Gt := gt_mem 652 rfl rfl
set_option maxRecDepth 20000 in
theorem kim_X7_init : (Cond.instanceMethod yX7_init) ∈ Gt := gt_mem 653 rfl rfl
set_option maxRecDepth 20000 in
theorem kco_X7_init : (Cond.code yX7_init cX7_init 2 none) ∈ Gt := gt_mem 654 rfl rfl
set_option maxRecDepth 20000 in
theorem kml_X7_1 : (Cond.methodLink RX7 1 Lib.objectInit) ∈ Gt := gt_mem 655 rfl rfl
set_option maxRecDepth 20000 in
theorem kml_X7_31 : (Cond.methodLink RX7 31 yX7_ofMaster) ∈ Gt := gt_mem 656 rfl rfl
set_option maxRecDepth 20000 in
theorem kst_X7_ofMaster : (Cond.static yX7_ofMaster) ∈ Gt := gt_mem 657 rfl rfl
set_option maxRecDepth 20000 in
theorem kco_X7_ofMaster : (Cond.code yX7_ofMaster cX7_ofMaster 2 (some Jvm.ClassFile.FieldType.int)) ∈ Gt := gt_mem 658 rfl rfl
set_option maxRecDepth 20000 in
theorem kml_X7_35 : (Cond.methodLink RX7 35 yX7_ofTarget) ∈ Gt := gt_mem 659 rfl rfl
set_option maxRecDepth 20000 in
theorem kst_X7_ofTarget : (Cond.static yX7_ofTarget) ∈ Gt := gt_mem 660 rfl rfl
set_option maxRecDepth 20000 in
theorem kco_X7_ofTarget : (Cond.code yX7_ofTarget cX7_ofTarget 2 (some Jvm.ClassFile.FieldType.int)) ∈ Gt := gt_mem 661 rfl rfl
set_option maxRecDepth 20000 in
theorem kfl_X7_7 : (Cond.fieldLink RX7 7 "TagBusModel" "s" "[I") ∈ Gt := gt_mem 662 rfl rfl
set_option maxRecDepth 20000 in
theorem kfl_X7_13 : (Cond.fieldLink RX7 13 "TagBusModel" "aside" "[I") ∈ Gt := gt_mem 663 rfl rfl
set_option maxRecDepth 20000 in
theorem kfl_X7_16 : (Cond.fieldLink RX7 16 "TagBusModel" "before" "[I") ∈ Gt := gt_mem 664 rfl rfl
set_option maxRecDepth 20000 in
theorem kfl_X7_42 : (Cond.fieldLink RX7 42 "TagBusModel" "known" "I") ∈ Gt := gt_mem 665 rfl rfl
set_option maxRecDepth 20000 in
theorem kfl_X7_19 : (Cond.fieldLink RX7 19 "TagBusModel" "kept" "[I") ∈ Gt := gt_mem 666 rfl rfl
set_option maxRecDepth 20000 in
theorem kfl_X7_127 : (Cond.fieldLink RX7 127 "TagBusModel" "isKept" "Z") ∈ Gt := gt_mem 667 rfl rfl
set_option maxRecDepth 20000 in
theorem kfl_X7_22 : (Cond.fieldLink RX7 22 "TagBusModel" "text" "[I") ∈ Gt := gt_mem 668 rfl rfl
set_option maxRecDepth 20000 in
theorem kfl_X7_72 : (Cond.fieldLink RX7 72 "TagBusModel" "typed" "I") ∈ Gt := gt_mem 669 rfl rfl
set_option maxRecDepth 20000 in
theorem kfl_X7_69 : (Cond.fieldLink RX7 69 "TagBusModel" "at" "I") ∈ Gt := gt_mem 670 rfl rfl
set_option maxRecDepth 20000 in
theorem kfl_X7_75 : (Cond.fieldLink RX7 75 "TagBusModel" "isWrong" "Z") ∈ Gt := gt_mem 671 rfl rfl
set_option maxRecDepth 20000 in
theorem kfl_X7_25 : (Cond.fieldLink RX7 25 "TagBusModel" "asks" "[I") ∈ Gt := gt_mem 672 rfl rfl
set_option maxRecDepth 20000 in
theorem kfl_X7_28 : (Cond.fieldLink RX7 28 "TagBusModel" "counts" "[I") ∈ Gt := gt_mem 673 rfl rfl
set_option maxRecDepth 20000 in
theorem kfl_X7_106 : (Cond.fieldLink RX7 106 "TagBusModel" "tripOf" "I") ∈ Gt := gt_mem 674 rfl rfl
set_option maxRecDepth 20000 in
theorem kml_L_17 : (Cond.methodLink RL 17 yX7_set) ∈ Gt := gt_mem 702 rfl rfl
set_option maxRecDepth 20000 in
theorem kim_X7_set : (Cond.instanceMethod yX7_set) ∈ Gt := gt_mem 703 rfl rfl
set_option maxRecDepth 20000 in
theorem kse_X7_set : (Cond.selects RX7 yX7_set yX7_set) ∈ Gt := gt_mem 704 rfl rfl
set_option maxRecDepth 20000 in
theorem kco_X7_set : (Cond.code yX7_set cX7_set 3 (some Jvm.ClassFile.FieldType.int)) ∈ Gt := gt_mem 705 rfl rfl
set_option maxRecDepth 20000 in
theorem kml_X7_38 : (Cond.methodLink RX7 38 yX7_in) ∈ Gt := gt_mem 706 rfl rfl
set_option maxRecDepth 20000 in
theorem kst_X7_in : (Cond.static yX7_in) ∈ Gt := gt_mem 707 rfl rfl
set_option maxRecDepth 20000 in
theorem kco_X7_in : (Cond.code yX7_in cX7_in 3 (some Jvm.ClassFile.FieldType.boolean)) ∈ Gt := gt_mem 708 rfl rfl
set_option maxRecDepth 20000 in
theorem kml_X7_49 : (Cond.methodLink RX7 49 yX7_isLentFrom) ∈ Gt := gt_mem 709 rfl rfl
set_option maxRecDepth 20000 in
theorem kim_X7_isLentFrom : (Cond.instanceMethod yX7_isLentFrom) ∈ Gt := gt_mem 711 rfl rfl
set_option maxRecDepth 20000 in
theorem kco_X7_isLentFrom : (Cond.code yX7_isLentFrom cX7_isLentFrom 4 (some Jvm.ClassFile.FieldType.boolean)) ∈ Gt := gt_mem 712 rfl rfl
set_option maxRecDepth 20000 in
theorem kml_X7_53 : (Cond.methodLink RX7 53 yX7_change) ∈ Gt := gt_mem 713 rfl rfl
set_option maxRecDepth 20000 in
theorem kim_X7_change : (Cond.instanceMethod yX7_change) ∈ Gt := gt_mem 715 rfl rfl
set_option maxRecDepth 20000 in
theorem kco_X7_change : (Cond.code yX7_change cX7_change 4 (some Jvm.ClassFile.FieldType.int)) ∈ Gt := gt_mem 716 rfl rfl
set_option maxRecDepth 20000 in
theorem kml_X7_46 : (Cond.methodLink RX7 46 yX7_know) ∈ Gt := gt_mem 717 rfl rfl
set_option maxRecDepth 20000 in
theorem kim_X7_know : (Cond.instanceMethod yX7_know) ∈ Gt := gt_mem 719 rfl rfl
set_option maxRecDepth 20000 in
theorem kco_X7_know : (Cond.code yX7_know cX7_know 2 none) ∈ Gt := gt_mem 720 rfl rfl
set_option maxRecDepth 20000 in
theorem kml_L_21 : (Cond.methodLink RL 21 yX7_setShare) ∈ Gt := gt_mem 721 rfl rfl
set_option maxRecDepth 20000 in
theorem kim_X7_setShare : (Cond.instanceMethod yX7_setShare) ∈ Gt := gt_mem 722 rfl rfl
set_option maxRecDepth 20000 in
theorem kse_X7_setShare : (Cond.selects RX7 yX7_setShare yX7_setShare) ∈ Gt := gt_mem 723 rfl rfl
set_option maxRecDepth 20000 in
theorem kco_X7_setShare : (Cond.code yX7_setShare cX7_setShare 3 (some Jvm.ClassFile.FieldType.int)) ∈ Gt := gt_mem 724 rfl rfl
set_option maxRecDepth 20000 in
theorem kml_X7_56 : (Cond.methodLink RX7 56 yX7_isPort) ∈ Gt := gt_mem 725 rfl rfl
set_option maxRecDepth 20000 in
theorem kst_X7_isPort : (Cond.static yX7_isPort) ∈ Gt := gt_mem 726 rfl rfl
set_option maxRecDepth 20000 in
theorem kco_X7_isPort : (Cond.code yX7_isPort cX7_isPort 1 (some Jvm.ClassFile.FieldType.boolean)) ∈ Gt := gt_mem 727 rfl rfl
set_option maxRecDepth 20000 in
theorem kml_L_26 : (Cond.methodLink RL 26 yX7_setTarget) ∈ Gt := gt_mem 728 rfl rfl
set_option maxRecDepth 20000 in
theorem kim_X7_setTarget : (Cond.instanceMethod yX7_setTarget) ∈ Gt := gt_mem 729 rfl rfl
set_option maxRecDepth 20000 in
theorem kse_X7_setTarget : (Cond.selects RX7 yX7_setTarget yX7_setTarget) ∈ Gt := gt_mem 730 rfl rfl
set_option maxRecDepth 20000 in
theorem kco_X7_setTarget : (Cond.code yX7_setTarget cX7_setTarget 4 (some Jvm.ClassFile.FieldType.int)) ∈ Gt := gt_mem 731 rfl rfl
set_option maxRecDepth 20000 in
theorem kml_L_30 : (Cond.methodLink RL 30 yX7_setCell) ∈ Gt := gt_mem 732 rfl rfl
set_option maxRecDepth 20000 in
theorem kim_X7_setCell : (Cond.instanceMethod yX7_setCell) ∈ Gt := gt_mem 733 rfl rfl
set_option maxRecDepth 20000 in
theorem kse_X7_setCell : (Cond.selects RX7 yX7_setCell yX7_setCell) ∈ Gt := gt_mem 734 rfl rfl
set_option maxRecDepth 20000 in
theorem kco_X7_setCell : (Cond.code yX7_setCell cX7_setCell 4 (some Jvm.ClassFile.FieldType.int)) ∈ Gt := gt_mem 735 rfl rfl
set_option maxRecDepth 20000 in
theorem kml_L_34 : (Cond.methodLink RL 34 yX7_read) ∈ Gt := gt_mem 736 rfl rfl
set_option maxRecDepth 20000 in
theorem kim_X7_read : (Cond.instanceMethod yX7_read) ∈ Gt := gt_mem 737 rfl rfl
set_option maxRecDepth 20000 in
theorem kse_X7_read : (Cond.selects RX7 yX7_read yX7_read) ∈ Gt := gt_mem 738 rfl rfl
set_option maxRecDepth 20000 in
theorem kco_X7_read : (Cond.code yX7_read cX7_read 4 (some Jvm.ClassFile.FieldType.int)) ∈ Gt := gt_mem 739 rfl rfl
set_option maxRecDepth 20000 in
theorem kml_X7_62 : (Cond.methodLink RX7 62 yX7_isRoom) ∈ Gt := gt_mem 740 rfl rfl
set_option maxRecDepth 20000 in
theorem kim_X7_isRoom : (Cond.instanceMethod yX7_isRoom) ∈ Gt := gt_mem 742 rfl rfl
set_option maxRecDepth 20000 in
theorem kco_X7_isRoom : (Cond.code yX7_isRoom cX7_isRoom 2 (some Jvm.ClassFile.FieldType.boolean)) ∈ Gt := gt_mem 743 rfl rfl
set_option maxRecDepth 20000 in
theorem kml_X7_65 : (Cond.methodLink RX7 65 yX7_put) ∈ Gt := gt_mem 744 rfl rfl
set_option maxRecDepth 20000 in
theorem kim_X7_put : (Cond.instanceMethod yX7_put) ∈ Gt := gt_mem 746 rfl rfl
set_option maxRecDepth 20000 in
theorem kco_X7_put : (Cond.code yX7_put cX7_put 6 (some Jvm.ClassFile.FieldType.int)) ∈ Gt := gt_mem 747 rfl rfl
set_option maxRecDepth 20000 in
theorem kml_X7_59 : (Cond.methodLink RX7 59 yX7_of) ∈ Gt := gt_mem 748 rfl rfl
set_option maxRecDepth 20000 in
theorem kst_X7_of : (Cond.static yX7_of) ∈ Gt := gt_mem 749 rfl rfl
set_option maxRecDepth 20000 in
theorem kco_X7_of : (Cond.code yX7_of cX7_of 2 (some Jvm.ClassFile.FieldType.int)) ∈ Gt := gt_mem 750 rfl rfl
set_option maxRecDepth 20000 in
theorem kml_L_39 : (Cond.methodLink RL 39 yX7_write) ∈ Gt := gt_mem 751 rfl rfl
set_option maxRecDepth 20000 in
theorem kim_X7_write : (Cond.instanceMethod yX7_write) ∈ Gt := gt_mem 752 rfl rfl
set_option maxRecDepth 20000 in
theorem kse_X7_write : (Cond.selects RX7 yX7_write yX7_write) ∈ Gt := gt_mem 753 rfl rfl
set_option maxRecDepth 20000 in
theorem kco_X7_write : (Cond.code yX7_write cX7_write 5 (some Jvm.ClassFile.FieldType.int)) ∈ Gt := gt_mem 754 rfl rfl
set_option maxRecDepth 20000 in
theorem kml_L_49 : (Cond.methodLink RL 49 yX7_withdraw) ∈ Gt := gt_mem 755 rfl rfl
set_option maxRecDepth 20000 in
theorem kim_X7_withdraw : (Cond.instanceMethod yX7_withdraw) ∈ Gt := gt_mem 756 rfl rfl
set_option maxRecDepth 20000 in
theorem kse_X7_withdraw : (Cond.selects RX7 yX7_withdraw yX7_withdraw) ∈ Gt := gt_mem 757 rfl rfl
set_option maxRecDepth 20000 in
theorem kco_X7_withdraw : (Cond.code yX7_withdraw cX7_withdraw 4 (some Jvm.ClassFile.FieldType.int)) ∈ Gt := gt_mem 758 rfl rfl
set_option maxRecDepth 20000 in
theorem kml_L_44 : (Cond.methodLink RL 44 yX7_ask) ∈ Gt := gt_mem 759 rfl rfl
set_option maxRecDepth 20000 in
theorem kim_X7_ask : (Cond.instanceMethod yX7_ask) ∈ Gt := gt_mem 760 rfl rfl
set_option maxRecDepth 20000 in
theorem kse_X7_ask : (Cond.selects RX7 yX7_ask yX7_ask) ∈ Gt := gt_mem 761 rfl rfl
set_option maxRecDepth 20000 in
theorem kco_X7_ask : (Cond.code yX7_ask cX7_ask 4 (some Jvm.ClassFile.FieldType.int)) ∈ Gt := gt_mem 762 rfl rfl
set_option maxRecDepth 20000 in
theorem kml_X7_89 : (Cond.methodLink RX7 89 yX7_go) ∈ Gt := gt_mem 763 rfl rfl
set_option maxRecDepth 20000 in
theorem kim_X7_go : (Cond.instanceMethod yX7_go) ∈ Gt := gt_mem 765 rfl rfl
set_option maxRecDepth 20000 in
theorem kco_X7_go : (Cond.code yX7_go cX7_go 5 (some Jvm.ClassFile.FieldType.int)) ∈ Gt := gt_mem 766 rfl rfl
set_option maxRecDepth 20000 in
theorem kml_X7_86 : (Cond.methodLink RX7 86 yX7_question) ∈ Gt := gt_mem 767 rfl rfl
set_option maxRecDepth 20000 in
theorem kim_X7_question : (Cond.instanceMethod yX7_question) ∈ Gt := gt_mem 769 rfl rfl
set_option maxRecDepth 20000 in
theorem kco_X7_question : (Cond.code yX7_question cX7_question 5 none) ∈ Gt := gt_mem 770 rfl rfl
set_option maxRecDepth 20000 in
theorem kml_X7_79 : (Cond.methodLink RX7 79 yX7_sign) ∈ Gt := gt_mem 771 rfl rfl
set_option maxRecDepth 20000 in
theorem kim_X7_sign : (Cond.instanceMethod yX7_sign) ∈ Gt := gt_mem 773 rfl rfl
set_option maxRecDepth 20000 in
theorem kco_X7_sign : (Cond.code yX7_sign cX7_sign 4 (some Jvm.ClassFile.FieldType.int)) ∈ Gt := gt_mem 774 rfl rfl
set_option maxRecDepth 20000 in
theorem kml_X7_82 : (Cond.methodLink RX7 82 yX7_number) ∈ Gt := gt_mem 775 rfl rfl
set_option maxRecDepth 20000 in
theorem kim_X7_number : (Cond.instanceMethod yX7_number) ∈ Gt := gt_mem 777 rfl rfl
set_option maxRecDepth 20000 in
theorem kco_X7_number : (Cond.code yX7_number cX7_number 4 (some Jvm.ClassFile.FieldType.int)) ∈ Gt := gt_mem 778 rfl rfl
set_option maxRecDepth 20000 in
theorem kml_L_58 : (Cond.methodLink RL 58 yX7_type) ∈ Gt := gt_mem 779 rfl rfl
set_option maxRecDepth 20000 in
theorem kim_X7_type : (Cond.instanceMethod yX7_type) ∈ Gt := gt_mem 780 rfl rfl
set_option maxRecDepth 20000 in
theorem kse_X7_type : (Cond.selects RX7 yX7_type yX7_type) ∈ Gt := gt_mem 781 rfl rfl
set_option maxRecDepth 20000 in
theorem kco_X7_type : (Cond.code yX7_type cX7_type 2 (some Jvm.ClassFile.FieldType.int)) ∈ Gt := gt_mem 782 rfl rfl
set_option maxRecDepth 20000 in
theorem kml_L_62 : (Cond.methodLink RL 62 yX7_clearText) ∈ Gt := gt_mem 783 rfl rfl
set_option maxRecDepth 20000 in
theorem kim_X7_clearText : (Cond.instanceMethod yX7_clearText) ∈ Gt := gt_mem 784 rfl rfl
set_option maxRecDepth 20000 in
theorem kse_X7_clearText : (Cond.selects RX7 yX7_clearText yX7_clearText) ∈ Gt := gt_mem 785 rfl rfl
set_option maxRecDepth 20000 in
theorem kco_X7_clearText : (Cond.code yX7_clearText cX7_clearText 2 (some Jvm.ClassFile.FieldType.int)) ∈ Gt := gt_mem 786 rfl rfl
set_option maxRecDepth 20000 in
theorem kml_L_53 : (Cond.methodLink RL 53 yX7_pass) ∈ Gt := gt_mem 787 rfl rfl
set_option maxRecDepth 20000 in
theorem kim_X7_pass : (Cond.instanceMethod yX7_pass) ∈ Gt := gt_mem 788 rfl rfl
set_option maxRecDepth 20000 in
theorem kse_X7_pass : (Cond.selects RX7 yX7_pass yX7_pass) ∈ Gt := gt_mem 789 rfl rfl
set_option maxRecDepth 20000 in
theorem kco_X7_pass : (Cond.code yX7_pass cX7_pass 4 (some Jvm.ClassFile.FieldType.int)) ∈ Gt := gt_mem 790 rfl rfl
set_option maxRecDepth 20000 in
theorem kml_X7_124 : (Cond.methodLink RX7 124 yX7_tick) ∈ Gt := gt_mem 791 rfl rfl
set_option maxRecDepth 20000 in
theorem kim_X7_tick : (Cond.instanceMethod yX7_tick) ∈ Gt := gt_mem 793 rfl rfl
set_option maxRecDepth 20000 in
theorem kco_X7_tick : (Cond.code yX7_tick cX7_tick 8 (some Jvm.ClassFile.FieldType.int)) ∈ Gt := gt_mem 794 rfl rfl
set_option maxRecDepth 20000 in
theorem kml_X7_109 : (Cond.methodLink RX7 109 yX7_doAll) ∈ Gt := gt_mem 795 rfl rfl
set_option maxRecDepth 20000 in
theorem kim_X7_doAll : (Cond.instanceMethod yX7_doAll) ∈ Gt := gt_mem 797 rfl rfl
set_option maxRecDepth 20000 in
theorem kco_X7_doAll : (Cond.code yX7_doAll cX7_doAll 5 none) ∈ Gt := gt_mem 798 rfl rfl
set_option maxRecDepth 20000 in
theorem kml_X7_112 : (Cond.methodLink RX7 112 yX7_targetThatGoes) ∈ Gt := gt_mem 799 rfl rfl
set_option maxRecDepth 20000 in
theorem kim_X7_targetThatGoes : (Cond.instanceMethod yX7_targetThatGoes) ∈ Gt := gt_mem 801 rfl rfl
set_option maxRecDepth 20000 in
theorem kco_X7_targetThatGoes : (Cond.code yX7_targetThatGoes cX7_targetThatGoes 3 (some Jvm.ClassFile.FieldType.int)) ∈ Gt := gt_mem 802 rfl rfl
set_option maxRecDepth 20000 in
theorem kml_X7_93 : (Cond.methodLink RX7 93 yX7_answering) ∈ Gt := gt_mem 803 rfl rfl
set_option maxRecDepth 20000 in
theorem kim_X7_answering : (Cond.instanceMethod yX7_answering) ∈ Gt := gt_mem 805 rfl rfl
set_option maxRecDepth 20000 in
theorem kco_X7_answering : (Cond.code yX7_answering cX7_answering 7 (some Jvm.ClassFile.FieldType.int)) ∈ Gt := gt_mem 806 rfl rfl
set_option maxRecDepth 20000 in
theorem kml_X7_115 : (Cond.methodLink RX7 115 yX7_masterThatGoes) ∈ Gt := gt_mem 807 rfl rfl
set_option maxRecDepth 20000 in
theorem kim_X7_masterThatGoes : (Cond.instanceMethod yX7_masterThatGoes) ∈ Gt := gt_mem 809 rfl rfl
set_option maxRecDepth 20000 in
theorem kco_X7_masterThatGoes : (Cond.code yX7_masterThatGoes cX7_masterThatGoes 4 (some Jvm.ClassFile.FieldType.int)) ∈ Gt := gt_mem 810 rfl rfl
set_option maxRecDepth 20000 in
theorem kml_X7_103 : (Cond.methodLink RX7 103 yX7_canSend) ∈ Gt := gt_mem 811 rfl rfl
set_option maxRecDepth 20000 in
theorem kim_X7_canSend : (Cond.instanceMethod yX7_canSend) ∈ Gt := gt_mem 813 rfl rfl
set_option maxRecDepth 20000 in
theorem kco_X7_canSend : (Cond.code yX7_canSend cX7_canSend 2 (some Jvm.ClassFile.FieldType.boolean)) ∈ Gt := gt_mem 814 rfl rfl
set_option maxRecDepth 20000 in
theorem kml_X7_96 : (Cond.methodLink RX7 96 yX7_freeTag) ∈ Gt := gt_mem 815 rfl rfl
set_option maxRecDepth 20000 in
theorem kim_X7_freeTag : (Cond.instanceMethod yX7_freeTag) ∈ Gt := gt_mem 817 rfl rfl
set_option maxRecDepth 20000 in
theorem kco_X7_freeTag : (Cond.code yX7_freeTag cX7_freeTag 2 (some Jvm.ClassFile.FieldType.int)) ∈ Gt := gt_mem 818 rfl rfl
set_option maxRecDepth 20000 in
theorem kml_X7_100 : (Cond.methodLink RX7 100 yX7_holds) ∈ Gt := gt_mem 819 rfl rfl
set_option maxRecDepth 20000 in
theorem kim_X7_holds : (Cond.instanceMethod yX7_holds) ∈ Gt := gt_mem 821 rfl rfl
set_option maxRecDepth 20000 in
theorem kco_X7_holds : (Cond.code yX7_holds cX7_holds 4 (some Jvm.ClassFile.FieldType.int)) ∈ Gt := gt_mem 822 rfl rfl
set_option maxRecDepth 20000 in
theorem kml_X7_118 : (Cond.methodLink RX7 118 yX7_answers) ∈ Gt := gt_mem 823 rfl rfl
set_option maxRecDepth 20000 in
theorem kim_X7_answers : (Cond.instanceMethod yX7_answers) ∈ Gt := gt_mem 825 rfl rfl
set_option maxRecDepth 20000 in
theorem kco_X7_answers : (Cond.code yX7_answers cX7_answers 5 (some Jvm.ClassFile.FieldType.int)) ∈ Gt := gt_mem 826 rfl rfl
set_option maxRecDepth 20000 in
theorem kml_X7_121 : (Cond.methodLink RX7 121 yX7_sends) ∈ Gt := gt_mem 827 rfl rfl
set_option maxRecDepth 20000 in
theorem kim_X7_sends : (Cond.instanceMethod yX7_sends) ∈ Gt := gt_mem 829 rfl rfl
set_option maxRecDepth 20000 in
theorem kco_X7_sends : (Cond.code yX7_sends cX7_sends 6 (some Jvm.ClassFile.FieldType.int)) ∈ Gt := gt_mem 830 rfl rfl
set_option maxRecDepth 20000 in
theorem kml_L_66 : (Cond.methodLink RL 66 yX7_undo) ∈ Gt := gt_mem 831 rfl rfl
set_option maxRecDepth 20000 in
theorem kim_X7_undo : (Cond.instanceMethod yX7_undo) ∈ Gt := gt_mem 832 rfl rfl
set_option maxRecDepth 20000 in
theorem kse_X7_undo : (Cond.selects RX7 yX7_undo yX7_undo) ∈ Gt := gt_mem 833 rfl rfl
set_option maxRecDepth 20000 in
theorem kco_X7_undo : (Cond.code yX7_undo cX7_undo 2 (some Jvm.ClassFile.FieldType.int)) ∈ Gt := gt_mem 834 rfl rfl
set_option maxRecDepth 20000 in
theorem kml_L_70 : (Cond.methodLink RL 70 yX7_keep) ∈ Gt := gt_mem 835 rfl rfl
set_option maxRecDepth 20000 in
theorem kim_X7_keep : (Cond.instanceMethod yX7_keep) ∈ Gt := gt_mem 836 rfl rfl
set_option maxRecDepth 20000 in
theorem kse_X7_keep : (Cond.selects RX7 yX7_keep yX7_keep) ∈ Gt := gt_mem 837 rfl rfl
set_option maxRecDepth 20000 in
theorem kco_X7_keep : (Cond.code yX7_keep cX7_keep 2 (some Jvm.ClassFile.FieldType.int)) ∈ Gt := gt_mem 838 rfl rfl
set_option maxRecDepth 20000 in
theorem kml_L_74 : (Cond.methodLink RL 74 yX7_restore) ∈ Gt := gt_mem 839 rfl rfl
set_option maxRecDepth 20000 in
theorem kim_X7_restore : (Cond.instanceMethod yX7_restore) ∈ Gt := gt_mem 840 rfl rfl
set_option maxRecDepth 20000 in
theorem kse_X7_restore : (Cond.selects RX7 yX7_restore yX7_restore) ∈ Gt := gt_mem 841 rfl rfl
set_option maxRecDepth 20000 in
theorem kco_X7_restore : (Cond.code yX7_restore cX7_restore 2 (some Jvm.ClassFile.FieldType.int)) ∈ Gt := gt_mem 842 rfl rfl
set_option maxRecDepth 20000 in
theorem kml_L_78 : (Cond.methodLink RL 78 yX7_question_) ∈ Gt := gt_mem 843 rfl rfl
set_option maxRecDepth 20000 in
theorem kim_X7_question_ : (Cond.instanceMethod yX7_question_) ∈ Gt := gt_mem 844 rfl rfl
set_option maxRecDepth 20000 in
theorem kse_X7_question_ : (Cond.selects RX7 yX7_question_ yX7_question_) ∈ Gt := gt_mem 845 rfl rfl
set_option maxRecDepth 20000 in
theorem kco_X7_question_ : (Cond.code yX7_question_ cX7_question_ 3 (some Jvm.ClassFile.FieldType.int)) ∈ Gt := gt_mem 846 rfl rfl
set_option maxRecDepth 20000 in
theorem kml_X7_130 : (Cond.methodLink RX7 130 yX7_isQuestion) ∈ Gt := gt_mem 847 rfl rfl
set_option maxRecDepth 20000 in
theorem kim_X7_isQuestion : (Cond.instanceMethod yX7_isQuestion) ∈ Gt := gt_mem 849 rfl rfl
set_option maxRecDepth 20000 in
theorem kco_X7_isQuestion : (Cond.code yX7_isQuestion cX7_isQuestion 2 (some Jvm.ClassFile.FieldType.boolean)) ∈ Gt := gt_mem 850 rfl rfl
set_option maxRecDepth 20000 in
theorem kml_L_82 : (Cond.methodLink RL 82 yX7_tag) ∈ Gt := gt_mem 851 rfl rfl
set_option maxRecDepth 20000 in
theorem kim_X7_tag : (Cond.instanceMethod yX7_tag) ∈ Gt := gt_mem 852 rfl rfl
set_option maxRecDepth 20000 in
theorem kse_X7_tag : (Cond.selects RX7 yX7_tag yX7_tag) ∈ Gt := gt_mem 853 rfl rfl
set_option maxRecDepth 20000 in
theorem kco_X7_tag : (Cond.code yX7_tag cX7_tag 2 (some Jvm.ClassFile.FieldType.int)) ∈ Gt := gt_mem 854 rfl rfl
set_option maxRecDepth 20000 in
theorem kml_L_86 : (Cond.methodLink RL 86 yX7_master) ∈ Gt := gt_mem 855 rfl rfl
set_option maxRecDepth 20000 in
theorem kim_X7_master : (Cond.instanceMethod yX7_master) ∈ Gt := gt_mem 856 rfl rfl
set_option maxRecDepth 20000 in
theorem kse_X7_master : (Cond.selects RX7 yX7_master yX7_master) ∈ Gt := gt_mem 857 rfl rfl
set_option maxRecDepth 20000 in
theorem kco_X7_master : (Cond.code yX7_master cX7_master 5 (some Jvm.ClassFile.FieldType.int)) ∈ Gt := gt_mem 858 rfl rfl
set_option maxRecDepth 20000 in
theorem kml_X7_133 : (Cond.methodLink RX7 133 yX7_answered) ∈ Gt := gt_mem 859 rfl rfl
set_option maxRecDepth 20000 in
theorem kim_X7_answered : (Cond.instanceMethod yX7_answered) ∈ Gt := gt_mem 861 rfl rfl
set_option maxRecDepth 20000 in
theorem kco_X7_answered : (Cond.code yX7_answered cX7_answered 6 (some Jvm.ClassFile.FieldType.int)) ∈ Gt := gt_mem 862 rfl rfl
set_option maxRecDepth 20000 in
theorem kml_L_90 : (Cond.methodLink RL 90 yX7_row) ∈ Gt := gt_mem 863 rfl rfl
set_option maxRecDepth 20000 in
theorem kim_X7_row : (Cond.instanceMethod yX7_row) ∈ Gt := gt_mem 864 rfl rfl
set_option maxRecDepth 20000 in
theorem kse_X7_row : (Cond.selects RX7 yX7_row yX7_row) ∈ Gt := gt_mem 865 rfl rfl
set_option maxRecDepth 20000 in
theorem kco_X7_row : (Cond.code yX7_row cX7_row 3 (some Jvm.ClassFile.FieldType.int)) ∈ Gt := gt_mem 866 rfl rfl
set_option maxRecDepth 20000 in
theorem kml_L_94 : (Cond.methodLink RL 94 yX7_target) ∈ Gt := gt_mem 867 rfl rfl
set_option maxRecDepth 20000 in
theorem kim_X7_target : (Cond.instanceMethod yX7_target) ∈ Gt := gt_mem 868 rfl rfl
set_option maxRecDepth 20000 in
theorem kse_X7_target : (Cond.selects RX7 yX7_target yX7_target) ∈ Gt := gt_mem 869 rfl rfl
set_option maxRecDepth 20000 in
theorem kco_X7_target : (Cond.code yX7_target cX7_target 4 (some Jvm.ClassFile.FieldType.int)) ∈ Gt := gt_mem 870 rfl rfl
set_option maxRecDepth 20000 in
theorem kml_X7_137 : (Cond.methodLink RX7 137 yX7_doneIn) ∈ Gt := gt_mem 871 rfl rfl
set_option maxRecDepth 20000 in
theorem kim_X7_doneIn : (Cond.instanceMethod yX7_doneIn) ∈ Gt := gt_mem 873 rfl rfl
set_option maxRecDepth 20000 in
theorem kco_X7_doneIn : (Cond.code yX7_doneIn cX7_doneIn 4 (some Jvm.ClassFile.FieldType.int)) ∈ Gt := gt_mem 874 rfl rfl
set_option maxRecDepth 20000 in
theorem kml_L_98 : (Cond.methodLink RL 98 yX7_cell) ∈ Gt := gt_mem 875 rfl rfl
set_option maxRecDepth 20000 in
theorem kim_X7_cell : (Cond.instanceMethod yX7_cell) ∈ Gt := gt_mem 876 rfl rfl
set_option maxRecDepth 20000 in
theorem kse_X7_cell : (Cond.selects RX7 yX7_cell yX7_cell) ∈ Gt := gt_mem 877 rfl rfl
set_option maxRecDepth 20000 in
theorem kco_X7_cell : (Cond.code yX7_cell cX7_cell 3 (some Jvm.ClassFile.FieldType.int)) ∈ Gt := gt_mem 878 rfl rfl
set_option maxRecDepth 20000 in
theorem kml_L_102 : (Cond.methodLink RL 102 yX7_next) ∈ Gt := gt_mem 879 rfl rfl
set_option maxRecDepth 20000 in
theorem kim_X7_next : (Cond.instanceMethod yX7_next) ∈ Gt := gt_mem 880 rfl rfl
set_option maxRecDepth 20000 in
theorem kse_X7_next : (Cond.selects RX7 yX7_next yX7_next) ∈ Gt := gt_mem 881 rfl rfl
set_option maxRecDepth 20000 in
theorem kco_X7_next : (Cond.code yX7_next cX7_next 3 (some Jvm.ClassFile.FieldType.int)) ∈ Gt := gt_mem 882 rfl rfl
set_option maxRecDepth 20000 in
theorem kml_X7_140 : (Cond.methodLink RX7 140 yX7_putAside) ∈ Gt := gt_mem 883 rfl rfl
set_option maxRecDepth 20000 in
theorem kim_X7_putAside : (Cond.instanceMethod yX7_putAside) ∈ Gt := gt_mem 885 rfl rfl
set_option maxRecDepth 20000 in
theorem kco_X7_putAside : (Cond.code yX7_putAside cX7_putAside 2 none) ∈ Gt := gt_mem 886 rfl rfl
set_option maxRecDepth 20000 in
theorem kml_X7_143 : (Cond.methodLink RX7 143 yX7_putBack) ∈ Gt := gt_mem 887 rfl rfl
set_option maxRecDepth 20000 in
theorem kim_X7_putBack : (Cond.instanceMethod yX7_putBack) ∈ Gt := gt_mem 889 rfl rfl
set_option maxRecDepth 20000 in
theorem kco_X7_putBack : (Cond.code yX7_putBack cX7_putBack 2 none) ∈ Gt := gt_mem 890 rfl rfl
set_option maxRecDepth 20000 in
theorem kml_L_106 : (Cond.methodLink RL 106 yX7_answeredIn) ∈ Gt := gt_mem 891 rfl rfl
set_option maxRecDepth 20000 in
theorem kim_X7_answeredIn : (Cond.instanceMethod yX7_answeredIn) ∈ Gt := gt_mem 892 rfl rfl
set_option maxRecDepth 20000 in
theorem kse_X7_answeredIn : (Cond.selects RX7 yX7_answeredIn yX7_answeredIn) ∈ Gt := gt_mem 893 rfl rfl
set_option maxRecDepth 20000 in
theorem kco_X7_answeredIn : (Cond.code yX7_answeredIn cX7_answeredIn 4 (some Jvm.ClassFile.FieldType.int)) ∈ Gt := gt_mem 894 rfl rfl
set_option maxRecDepth 20000 in
theorem kml_L_110 : (Cond.methodLink RL 110 yX7_count) ∈ Gt := gt_mem 895 rfl rfl
set_option maxRecDepth 20000 in
theorem kim_X7_count : (Cond.instanceMethod yX7_count) ∈ Gt := gt_mem 896 rfl rfl
set_option maxRecDepth 20000 in
theorem kse_X7_count : (Cond.selects RX7 yX7_count yX7_count) ∈ Gt := gt_mem 897 rfl rfl
set_option maxRecDepth 20000 in
theorem kco_X7_count : (Cond.code yX7_count cX7_count 2 (some Jvm.ClassFile.FieldType.int)) ∈ Gt := gt_mem 898 rfl rfl
set_option maxRecDepth 20000 in
theorem kml_X7_146 : (Cond.methodLink RX7 146 yX7_freeTags) ∈ Gt := gt_mem 899 rfl rfl
set_option maxRecDepth 20000 in
theorem kim_X7_freeTags : (Cond.instanceMethod yX7_freeTags) ∈ Gt := gt_mem 901 rfl rfl
set_option maxRecDepth 20000 in
theorem kco_X7_freeTags : (Cond.code yX7_freeTags cX7_freeTags 3 (some Jvm.ClassFile.FieldType.int)) ∈ Gt := gt_mem 902 rfl rfl
set_option maxRecDepth 20000 in
theorem inG0 : ∀ w ∈ u_ws RX0 TX0 15, w ∈ Gt := by decide +kernel
set_option maxRecDepth 20000 in
theorem inG1 : ∀ w ∈ u_ws RX1 TX1 2, w ∈ Gt := by decide +kernel
set_option maxRecDepth 20000 in
theorem inG2 : ∀ w ∈ u_ws RX2 TX2 8, w ∈ Gt := by decide +kernel
set_option maxRecDepth 20000 in
theorem inG3 : ∀ w ∈ u_ws RX3 TX3 11, w ∈ Gt := by decide +kernel
set_option maxRecDepth 20000 in
theorem inG4 : ∀ w ∈ u_ws RX4 TX4 5, w ∈ Gt := by decide +kernel
set_option maxRecDepth 20000 in
theorem inG5 : ∀ w ∈ u_ws RX5 TX5 3, w ∈ Gt := by decide +kernel
set_option maxRecDepth 20000 in
theorem inG6 : ∀ w ∈ u_ws RX6 TX6 7, w ∈ Gt := by decide +kernel
set_option maxRecDepth 20000 in
theorem inG7 : ∀ w ∈ u_ws RX7 TX7 13, w ∈ Gt := by decide +kernel
def nestM : List (String × Nat × MethodName × String) := [(RX0, 40, yX2_init, "TagBus"), (RX2, 11, yX1_init, "TagBus"), (RX0, 41, yX5_init, "TagBus"), (RX5, 20, yX1_init, "TagBus"), (RX0, 42, yX3_init, "TagBus"), (RX4, 21, yX3_init, "TagBus"), (RX0, 86, yX6_isIndex, "TagBus"), (RX1, 19, yX6_isIndex, "TagBus"), (RX4, 26, yX6_isIndex, "TagBus"), (RX5, 29, yX6_isIndex, "TagBus")]
set_option maxRecDepth 20000 in
theorem nestM_tbl : ∀ q ∈ nestM, Cond.methodLinkNest q.1 q.2.1 q.2.2.1 q.2.2.2 ∈ lw_tbl := by decide +kernel
theorem knm_X0_40 : (RX0, 40, yX2_init, "TagBus") ∈ nestM := List.mem_of_getElem? (i := 0) rfl
theorem knm_X2_11 : (RX2, 11, yX1_init, "TagBus") ∈ nestM := List.mem_of_getElem? (i := 1) rfl
theorem knm_X0_41 : (RX0, 41, yX5_init, "TagBus") ∈ nestM := List.mem_of_getElem? (i := 2) rfl
theorem knm_X5_20 : (RX5, 20, yX1_init, "TagBus") ∈ nestM := List.mem_of_getElem? (i := 3) rfl
theorem knm_X0_42 : (RX0, 42, yX3_init, "TagBus") ∈ nestM := List.mem_of_getElem? (i := 4) rfl
theorem knm_X4_21 : (RX4, 21, yX3_init, "TagBus") ∈ nestM := List.mem_of_getElem? (i := 5) rfl
theorem knm_X0_86 : (RX0, 86, yX6_isIndex, "TagBus") ∈ nestM := List.mem_of_getElem? (i := 6) rfl
theorem knm_X1_19 : (RX1, 19, yX6_isIndex, "TagBus") ∈ nestM := List.mem_of_getElem? (i := 7) rfl
theorem knm_X4_26 : (RX4, 26, yX6_isIndex, "TagBus") ∈ nestM := List.mem_of_getElem? (i := 8) rfl
theorem knm_X5_29 : (RX5, 29, yX6_isIndex, "TagBus") ∈ nestM := List.mem_of_getElem? (i := 9) rfl
theorem kao_Master : Cond.arrayOver (.object "TagBus$Master") ∈ lw_tbl := List.mem_of_getElem? (i := 72) (by decide +kernel)
theorem kao_Target : Cond.arrayOver (.object "TagBus$Target") ∈ lw_tbl := List.mem_of_getElem? (i := 74) (by decide +kernel)
theorem kao_Question : Cond.arrayOver (.object "TagBus$Question") ∈ lw_tbl := List.mem_of_getElem? (i := 76) (by decide +kernel)
theorem kao_Bus : Cond.arrayOver (.object "TagBus$Bus") ∈ lw_tbl := List.mem_of_getElem? (i := 278) (by decide +kernel)
end
section
theorem dX0_init_0 : decode cX0_init 0 = .ok (.aload_n 0, 1) := by decide +kernel
theorem dX0_init_1 : decode cX0_init 1 = .ok (.invokespecial 3, 3) := by decide +kernel
theorem dX0_init_4 : decode cX0_init 4 = .ok (.aload_n 0, 1) := by decide +kernel
theorem dX0_init_5 : decode cX0_init 5 = .ok (.iconst 3, 1) := by decide +kernel
theorem dX0_init_6 : decode cX0_init 6 = .ok (.newarray .int, 2) := by decide +kernel
theorem dX0_init_8 : decode cX0_init 8 = .ok (.dup, 1) := by decide +kernel
theorem dX0_init_9 : decode cX0_init 9 = .ok (.iconst 0, 1) := by decide +kernel
theorem dX0_init_10 : decode cX0_init 10 = .ok (.iconst 4, 1) := by decide +kernel
theorem dX0_init_11 : decode cX0_init 11 = .ok (.iastore, 1) := by decide +kernel
theorem dX0_init_12 : decode cX0_init 12 = .ok (.dup, 1) := by decide +kernel
theorem dX0_init_13 : decode cX0_init 13 = .ok (.iconst 1, 1) := by decide +kernel
theorem dX0_init_14 : decode cX0_init 14 = .ok (.iconst 0, 1) := by decide +kernel
theorem dX0_init_15 : decode cX0_init 15 = .ok (.iastore, 1) := by decide +kernel
theorem dX0_init_16 : decode cX0_init 16 = .ok (.dup, 1) := by decide +kernel
theorem dX0_init_17 : decode cX0_init 17 = .ok (.iconst 2, 1) := by decide +kernel
theorem dX0_init_18 : decode cX0_init 18 = .ok (.bipush 12, 2) := by decide +kernel
theorem dX0_init_20 : decode cX0_init 20 = .ok (.iastore, 1) := by decide +kernel
theorem dX0_init_21 : decode cX0_init 21 = .ok (.putfield 9, 3) := by decide +kernel
theorem dX0_init_24 : decode cX0_init 24 = .ok (.aload_n 0, 1) := by decide +kernel
theorem dX0_init_25 : decode cX0_init 25 = .ok (.bipush 8, 2) := by decide +kernel
theorem dX0_init_27 : decode cX0_init 27 = .ok (.newarray .int, 2) := by decide +kernel
theorem dX0_init_29 : decode cX0_init 29 = .ok (.putfield 15, 3) := by decide +kernel
theorem dX0_init_32 : decode cX0_init 32 = .ok (.aload_n 0, 1) := by decide +kernel
theorem dX0_init_33 : decode cX0_init 33 = .ok (.iconst 4, 1) := by decide +kernel
theorem dX0_init_34 : decode cX0_init 34 = .ok (.anewarray 18, 3) := by decide +kernel
theorem dX0_init_37 : decode cX0_init 37 = .ok (.putfield 20, 3) := by decide +kernel
theorem dX0_init_40 : decode cX0_init 40 = .ok (.aload_n 0, 1) := by decide +kernel
theorem dX0_init_41 : decode cX0_init 41 = .ok (.iconst 4, 1) := by decide +kernel
theorem dX0_init_42 : decode cX0_init 42 = .ok (.anewarray 24, 3) := by decide +kernel
theorem dX0_init_45 : decode cX0_init 45 = .ok (.putfield 26, 3) := by decide +kernel
theorem dX0_init_48 : decode cX0_init 48 = .ok (.aload_n 0, 1) := by decide +kernel
theorem dX0_init_49 : decode cX0_init 49 = .ok (.sipush 200, 3) := by decide +kernel
theorem dX0_init_52 : decode cX0_init 52 = .ok (.anewarray 30, 3) := by decide +kernel
theorem dX0_init_55 : decode cX0_init 55 = .ok (.putfield 32, 3) := by decide +kernel
theorem dX0_init_58 : decode cX0_init 58 = .ok (.aload_n 0, 1) := by decide +kernel
theorem dX0_init_59 : decode cX0_init 59 = .ok (.bipush (-5), 2) := by decide +kernel
theorem dX0_init_61 : decode cX0_init 61 = .ok (.putfield 36, 3) := by decide +kernel
theorem dX0_init_64 : decode cX0_init 64 = .ok (.iconst 0, 1) := by decide +kernel
theorem dX0_init_65 : decode cX0_init 65 = .ok (.istore_n 1, 1) := by decide +kernel
theorem dX0_init_66 : decode cX0_init 66 = .ok (.iload_n 1, 1) := by decide +kernel
theorem dX0_init_67 : decode cX0_init 67 = .ok (.bipush 8, 2) := by decide +kernel
theorem dX0_init_69 : decode cX0_init 69 = .ok (.if_icmp .ge 17, 3) := by decide +kernel
theorem dX0_init_72 : decode cX0_init 72 = .ok (.aload_n 0, 1) := by decide +kernel
theorem dX0_init_73 : decode cX0_init 73 = .ok (.getfield 15, 3) := by decide +kernel
theorem dX0_init_76 : decode cX0_init 76 = .ok (.iload_n 1, 1) := by decide +kernel
theorem dX0_init_77 : decode cX0_init 77 = .ok (.bipush (-5), 2) := by decide +kernel
theorem dX0_init_79 : decode cX0_init 79 = .ok (.iastore, 1) := by decide +kernel
theorem dX0_init_80 : decode cX0_init 80 = .ok (.iinc 1 1, 3) := by decide +kernel
theorem dX0_init_83 : decode cX0_init 83 = .ok (.goto (-17), 3) := by decide +kernel
theorem dX0_init_86 : decode cX0_init 86 = .ok (.iconst 0, 1) := by decide +kernel
theorem dX0_init_87 : decode cX0_init 87 = .ok (.istore_n 1, 1) := by decide +kernel
theorem dX0_init_88 : decode cX0_init 88 = .ok (.iload_n 1, 1) := by decide +kernel
theorem dX0_init_89 : decode cX0_init 89 = .ok (.iconst 4, 1) := by decide +kernel
theorem dX0_init_90 : decode cX0_init 90 = .ok (.if_icmp .ge 22, 3) := by decide +kernel
theorem dX0_init_93 : decode cX0_init 93 = .ok (.aload_n 0, 1) := by decide +kernel
theorem dX0_init_94 : decode cX0_init 94 = .ok (.getfield 20, 3) := by decide +kernel
theorem dX0_init_97 : decode cX0_init 97 = .ok (.iload_n 1, 1) := by decide +kernel
theorem dX0_init_98 : decode cX0_init 98 = .ok (.new 18, 3) := by decide +kernel
theorem dX0_init_101 : decode cX0_init 101 = .ok (.dup, 1) := by decide +kernel
theorem dX0_init_102 : decode cX0_init 102 = .ok (.invokespecial 40, 3) := by decide +kernel
theorem dX0_init_105 : decode cX0_init 105 = .ok (.aastore, 1) := by decide +kernel
theorem dX0_init_106 : decode cX0_init 106 = .ok (.iinc 1 1, 3) := by decide +kernel
theorem dX0_init_109 : decode cX0_init 109 = .ok (.goto (-21), 3) := by decide +kernel
theorem dX0_init_112 : decode cX0_init 112 = .ok (.iconst 0, 1) := by decide +kernel
theorem dX0_init_113 : decode cX0_init 113 = .ok (.istore_n 1, 1) := by decide +kernel
theorem dX0_init_114 : decode cX0_init 114 = .ok (.iload_n 1, 1) := by decide +kernel
theorem dX0_init_115 : decode cX0_init 115 = .ok (.iconst 4, 1) := by decide +kernel
theorem dX0_init_116 : decode cX0_init 116 = .ok (.if_icmp .ge 22, 3) := by decide +kernel
theorem dX0_init_119 : decode cX0_init 119 = .ok (.aload_n 0, 1) := by decide +kernel
theorem dX0_init_120 : decode cX0_init 120 = .ok (.getfield 26, 3) := by decide +kernel
theorem dX0_init_123 : decode cX0_init 123 = .ok (.iload_n 1, 1) := by decide +kernel
theorem dX0_init_124 : decode cX0_init 124 = .ok (.new 24, 3) := by decide +kernel
theorem dX0_init_127 : decode cX0_init 127 = .ok (.dup, 1) := by decide +kernel
theorem dX0_init_128 : decode cX0_init 128 = .ok (.invokespecial 41, 3) := by decide +kernel
theorem dX0_init_131 : decode cX0_init 131 = .ok (.aastore, 1) := by decide +kernel
theorem dX0_init_132 : decode cX0_init 132 = .ok (.iinc 1 1, 3) := by decide +kernel
theorem dX0_init_135 : decode cX0_init 135 = .ok (.goto (-21), 3) := by decide +kernel
theorem dX0_init_138 : decode cX0_init 138 = .ok (.iconst 0, 1) := by decide +kernel
theorem dX0_init_139 : decode cX0_init 139 = .ok (.istore_n 1, 1) := by decide +kernel
theorem dX0_init_140 : decode cX0_init 140 = .ok (.iload_n 1, 1) := by decide +kernel
theorem dX0_init_141 : decode cX0_init 141 = .ok (.sipush 200, 3) := by decide +kernel
theorem dX0_init_144 : decode cX0_init 144 = .ok (.if_icmp .ge 22, 3) := by decide +kernel
theorem dX0_init_147 : decode cX0_init 147 = .ok (.aload_n 0, 1) := by decide +kernel
theorem dX0_init_148 : decode cX0_init 148 = .ok (.getfield 32, 3) := by decide +kernel
theorem dX0_init_151 : decode cX0_init 151 = .ok (.iload_n 1, 1) := by decide +kernel
theorem dX0_init_152 : decode cX0_init 152 = .ok (.new 30, 3) := by decide +kernel
theorem dX0_init_155 : decode cX0_init 155 = .ok (.dup, 1) := by decide +kernel
theorem dX0_init_156 : decode cX0_init 156 = .ok (.invokespecial 42, 3) := by decide +kernel
theorem dX0_init_159 : decode cX0_init 159 = .ok (.aastore, 1) := by decide +kernel
theorem dX0_init_160 : decode cX0_init 160 = .ok (.iinc 1 1, 3) := by decide +kernel
theorem dX0_init_163 : decode cX0_init 163 = .ok (.goto (-23), 3) := by decide +kernel
theorem dX0_init_166 : decode cX0_init 166 = .ok (.return_, 1) := by decide +kernel
theorem dX0_copyFrom_0 : decode cX0_copyFrom 0 = .ok (.aload_n 1, 1) := by decide +kernel
theorem dX0_copyFrom_1 : decode cX0_copyFrom 1 = .ok (.getfield 9, 3) := by decide +kernel
theorem dX0_copyFrom_4 : decode cX0_copyFrom 4 = .ok (.iconst 0, 1) := by decide +kernel
theorem dX0_copyFrom_5 : decode cX0_copyFrom 5 = .ok (.aload_n 0, 1) := by decide +kernel
theorem dX0_copyFrom_6 : decode cX0_copyFrom 6 = .ok (.getfield 9, 3) := by decide +kernel
theorem dX0_copyFrom_9 : decode cX0_copyFrom 9 = .ok (.iconst 0, 1) := by decide +kernel
theorem dX0_copyFrom_10 : decode cX0_copyFrom 10 = .ok (.aload_n 0, 1) := by decide +kernel
theorem dX0_copyFrom_11 : decode cX0_copyFrom 11 = .ok (.getfield 9, 3) := by decide +kernel
theorem dX0_copyFrom_14 : decode cX0_copyFrom 14 = .ok (.arraylength, 1) := by decide +kernel
theorem dX0_copyFrom_15 : decode cX0_copyFrom 15 = .ok (.invokestatic 43, 3) := by decide +kernel
theorem dX0_copyFrom_18 : decode cX0_copyFrom 18 = .ok (.aload_n 1, 1) := by decide +kernel
theorem dX0_copyFrom_19 : decode cX0_copyFrom 19 = .ok (.getfield 15, 3) := by decide +kernel
theorem dX0_copyFrom_22 : decode cX0_copyFrom 22 = .ok (.iconst 0, 1) := by decide +kernel
theorem dX0_copyFrom_23 : decode cX0_copyFrom 23 = .ok (.aload_n 0, 1) := by decide +kernel
theorem dX0_copyFrom_24 : decode cX0_copyFrom 24 = .ok (.getfield 15, 3) := by decide +kernel
theorem dX0_copyFrom_27 : decode cX0_copyFrom 27 = .ok (.iconst 0, 1) := by decide +kernel
theorem dX0_copyFrom_28 : decode cX0_copyFrom 28 = .ok (.bipush 8, 2) := by decide +kernel
theorem dX0_copyFrom_30 : decode cX0_copyFrom 30 = .ok (.invokestatic 43, 3) := by decide +kernel
theorem dX0_copyFrom_33 : decode cX0_copyFrom 33 = .ok (.iconst 0, 1) := by decide +kernel
theorem dX0_copyFrom_34 : decode cX0_copyFrom 34 = .ok (.istore_n 2, 1) := by decide +kernel
theorem dX0_copyFrom_35 : decode cX0_copyFrom 35 = .ok (.iload_n 2, 1) := by decide +kernel
theorem dX0_copyFrom_36 : decode cX0_copyFrom 36 = .ok (.iconst 4, 1) := by decide +kernel
theorem dX0_copyFrom_37 : decode cX0_copyFrom 37 = .ok (.if_icmp .ge 24, 3) := by decide +kernel
theorem dX0_copyFrom_40 : decode cX0_copyFrom 40 = .ok (.aload_n 0, 1) := by decide +kernel
theorem dX0_copyFrom_41 : decode cX0_copyFrom 41 = .ok (.getfield 20, 3) := by decide +kernel
theorem dX0_copyFrom_44 : decode cX0_copyFrom 44 = .ok (.iload_n 2, 1) := by decide +kernel
theorem dX0_copyFrom_45 : decode cX0_copyFrom 45 = .ok (.aaload, 1) := by decide +kernel
theorem dX0_copyFrom_46 : decode cX0_copyFrom 46 = .ok (.aload_n 1, 1) := by decide +kernel
theorem dX0_copyFrom_47 : decode cX0_copyFrom 47 = .ok (.getfield 20, 3) := by decide +kernel
theorem dX0_copyFrom_50 : decode cX0_copyFrom 50 = .ok (.iload_n 2, 1) := by decide +kernel
theorem dX0_copyFrom_51 : decode cX0_copyFrom 51 = .ok (.aaload, 1) := by decide +kernel
theorem dX0_copyFrom_52 : decode cX0_copyFrom 52 = .ok (.invokevirtual 49, 3) := by decide +kernel
theorem dX0_copyFrom_55 : decode cX0_copyFrom 55 = .ok (.iinc 2 1, 3) := by decide +kernel
theorem dX0_copyFrom_58 : decode cX0_copyFrom 58 = .ok (.goto (-23), 3) := by decide +kernel
theorem dX0_copyFrom_61 : decode cX0_copyFrom 61 = .ok (.iconst 0, 1) := by decide +kernel
theorem dX0_copyFrom_62 : decode cX0_copyFrom 62 = .ok (.istore_n 2, 1) := by decide +kernel
theorem dX0_copyFrom_63 : decode cX0_copyFrom 63 = .ok (.iload_n 2, 1) := by decide +kernel
theorem dX0_copyFrom_64 : decode cX0_copyFrom 64 = .ok (.iconst 4, 1) := by decide +kernel
theorem dX0_copyFrom_65 : decode cX0_copyFrom 65 = .ok (.if_icmp .ge 24, 3) := by decide +kernel
theorem dX0_copyFrom_68 : decode cX0_copyFrom 68 = .ok (.aload_n 0, 1) := by decide +kernel
theorem dX0_copyFrom_69 : decode cX0_copyFrom 69 = .ok (.getfield 26, 3) := by decide +kernel
theorem dX0_copyFrom_72 : decode cX0_copyFrom 72 = .ok (.iload_n 2, 1) := by decide +kernel
theorem dX0_copyFrom_73 : decode cX0_copyFrom 73 = .ok (.aaload, 1) := by decide +kernel
theorem dX0_copyFrom_74 : decode cX0_copyFrom 74 = .ok (.aload_n 1, 1) := by decide +kernel
theorem dX0_copyFrom_75 : decode cX0_copyFrom 75 = .ok (.getfield 26, 3) := by decide +kernel
theorem dX0_copyFrom_78 : decode cX0_copyFrom 78 = .ok (.iload_n 2, 1) := by decide +kernel
theorem dX0_copyFrom_79 : decode cX0_copyFrom 79 = .ok (.aaload, 1) := by decide +kernel
theorem dX0_copyFrom_80 : decode cX0_copyFrom 80 = .ok (.invokevirtual 53, 3) := by decide +kernel
theorem dX0_copyFrom_83 : decode cX0_copyFrom 83 = .ok (.iinc 2 1, 3) := by decide +kernel
theorem dX0_copyFrom_86 : decode cX0_copyFrom 86 = .ok (.goto (-23), 3) := by decide +kernel
theorem dX0_copyFrom_89 : decode cX0_copyFrom 89 = .ok (.iconst 0, 1) := by decide +kernel
theorem dX0_copyFrom_90 : decode cX0_copyFrom 90 = .ok (.istore_n 2, 1) := by decide +kernel
theorem dX0_copyFrom_91 : decode cX0_copyFrom 91 = .ok (.iload_n 2, 1) := by decide +kernel
theorem dX0_copyFrom_92 : decode cX0_copyFrom 92 = .ok (.aload_n 1, 1) := by decide +kernel
theorem dX0_copyFrom_93 : decode cX0_copyFrom 93 = .ok (.getfield 56, 3) := by decide +kernel
theorem dX0_copyFrom_96 : decode cX0_copyFrom 96 = .ok (.if_icmp .ge 31, 3) := by decide +kernel
theorem dX0_copyFrom_99 : decode cX0_copyFrom 99 = .ok (.iload_n 2, 1) := by decide +kernel
theorem dX0_copyFrom_100 : decode cX0_copyFrom 100 = .ok (.sipush 200, 3) := by decide +kernel
theorem dX0_copyFrom_103 : decode cX0_copyFrom 103 = .ok (.if_icmp .ge 24, 3) := by decide +kernel
theorem dX0_copyFrom_106 : decode cX0_copyFrom 106 = .ok (.aload_n 0, 1) := by decide +kernel
theorem dX0_copyFrom_107 : decode cX0_copyFrom 107 = .ok (.getfield 32, 3) := by decide +kernel
theorem dX0_copyFrom_110 : decode cX0_copyFrom 110 = .ok (.iload_n 2, 1) := by decide +kernel
theorem dX0_copyFrom_111 : decode cX0_copyFrom 111 = .ok (.aaload, 1) := by decide +kernel
theorem dX0_copyFrom_112 : decode cX0_copyFrom 112 = .ok (.aload_n 1, 1) := by decide +kernel
theorem dX0_copyFrom_113 : decode cX0_copyFrom 113 = .ok (.getfield 32, 3) := by decide +kernel
theorem dX0_copyFrom_116 : decode cX0_copyFrom 116 = .ok (.iload_n 2, 1) := by decide +kernel
theorem dX0_copyFrom_117 : decode cX0_copyFrom 117 = .ok (.aaload, 1) := by decide +kernel
theorem dX0_copyFrom_118 : decode cX0_copyFrom 118 = .ok (.invokevirtual 59, 3) := by decide +kernel
theorem dX0_copyFrom_121 : decode cX0_copyFrom 121 = .ok (.iinc 2 1, 3) := by decide +kernel
theorem dX0_copyFrom_124 : decode cX0_copyFrom 124 = .ok (.goto (-33), 3) := by decide +kernel
theorem dX0_copyFrom_127 : decode cX0_copyFrom 127 = .ok (.aload_n 0, 1) := by decide +kernel
theorem dX0_copyFrom_128 : decode cX0_copyFrom 128 = .ok (.aload_n 1, 1) := by decide +kernel
theorem dX0_copyFrom_129 : decode cX0_copyFrom 129 = .ok (.getfield 56, 3) := by decide +kernel
theorem dX0_copyFrom_132 : decode cX0_copyFrom 132 = .ok (.putfield 56, 3) := by decide +kernel
theorem dX0_copyFrom_135 : decode cX0_copyFrom 135 = .ok (.aload_n 0, 1) := by decide +kernel
theorem dX0_copyFrom_136 : decode cX0_copyFrom 136 = .ok (.aload_n 1, 1) := by decide +kernel
theorem dX0_copyFrom_137 : decode cX0_copyFrom 137 = .ok (.getfield 62, 3) := by decide +kernel
theorem dX0_copyFrom_140 : decode cX0_copyFrom 140 = .ok (.putfield 62, 3) := by decide +kernel
theorem dX0_copyFrom_143 : decode cX0_copyFrom 143 = .ok (.aload_n 0, 1) := by decide +kernel
theorem dX0_copyFrom_144 : decode cX0_copyFrom 144 = .ok (.aload_n 1, 1) := by decide +kernel
theorem dX0_copyFrom_145 : decode cX0_copyFrom 145 = .ok (.getfield 36, 3) := by decide +kernel
theorem dX0_copyFrom_148 : decode cX0_copyFrom 148 = .ok (.putfield 36, 3) := by decide +kernel
theorem dX0_copyFrom_151 : decode cX0_copyFrom 151 = .ok (.aload_n 0, 1) := by decide +kernel
theorem dX0_copyFrom_152 : decode cX0_copyFrom 152 = .ok (.aload_n 1, 1) := by decide +kernel
theorem dX0_copyFrom_153 : decode cX0_copyFrom 153 = .ok (.getfield 65, 3) := by decide +kernel
theorem dX0_copyFrom_156 : decode cX0_copyFrom 156 = .ok (.putfield 65, 3) := by decide +kernel
theorem dX0_copyFrom_159 : decode cX0_copyFrom 159 = .ok (.aload_n 0, 1) := by decide +kernel
theorem dX0_copyFrom_160 : decode cX0_copyFrom 160 = .ok (.aload_n 1, 1) := by decide +kernel
theorem dX0_copyFrom_161 : decode cX0_copyFrom 161 = .ok (.getfield 68, 3) := by decide +kernel
theorem dX0_copyFrom_164 : decode cX0_copyFrom 164 = .ok (.putfield 68, 3) := by decide +kernel
theorem dX0_copyFrom_167 : decode cX0_copyFrom 167 = .ok (.aload_n 0, 1) := by decide +kernel
theorem dX0_copyFrom_168 : decode cX0_copyFrom 168 = .ok (.aload_n 1, 1) := by decide +kernel
theorem dX0_copyFrom_169 : decode cX0_copyFrom 169 = .ok (.getfield 71, 3) := by decide +kernel
theorem dX0_copyFrom_172 : decode cX0_copyFrom 172 = .ok (.putfield 71, 3) := by decide +kernel
theorem dX0_copyFrom_175 : decode cX0_copyFrom 175 = .ok (.aload_n 0, 1) := by decide +kernel
theorem dX0_copyFrom_176 : decode cX0_copyFrom 176 = .ok (.aload_n 1, 1) := by decide +kernel
theorem dX0_copyFrom_177 : decode cX0_copyFrom 177 = .ok (.getfield 74, 3) := by decide +kernel
theorem dX0_copyFrom_180 : decode cX0_copyFrom 180 = .ok (.putfield 74, 3) := by decide +kernel
theorem dX0_copyFrom_183 : decode cX0_copyFrom 183 = .ok (.aload_n 0, 1) := by decide +kernel
theorem dX0_copyFrom_184 : decode cX0_copyFrom 184 = .ok (.aload_n 1, 1) := by decide +kernel
theorem dX0_copyFrom_185 : decode cX0_copyFrom 185 = .ok (.getfield 77, 3) := by decide +kernel
theorem dX0_copyFrom_188 : decode cX0_copyFrom 188 = .ok (.putfield 77, 3) := by decide +kernel
theorem dX0_copyFrom_191 : decode cX0_copyFrom 191 = .ok (.aload_n 0, 1) := by decide +kernel
theorem dX0_copyFrom_192 : decode cX0_copyFrom 192 = .ok (.aload_n 1, 1) := by decide +kernel
theorem dX0_copyFrom_193 : decode cX0_copyFrom 193 = .ok (.getfield 80, 3) := by decide +kernel
theorem dX0_copyFrom_196 : decode cX0_copyFrom 196 = .ok (.putfield 80, 3) := by decide +kernel
theorem dX0_copyFrom_199 : decode cX0_copyFrom 199 = .ok (.aload_n 0, 1) := by decide +kernel
theorem dX0_copyFrom_200 : decode cX0_copyFrom 200 = .ok (.aload_n 1, 1) := by decide +kernel
theorem dX0_copyFrom_201 : decode cX0_copyFrom 201 = .ok (.getfield 83, 3) := by decide +kernel
theorem dX0_copyFrom_204 : decode cX0_copyFrom 204 = .ok (.putfield 83, 3) := by decide +kernel
theorem dX0_copyFrom_207 : decode cX0_copyFrom 207 = .ok (.return_, 1) := by decide +kernel
theorem dX0_masterAt_0 : decode cX0_masterAt 0 = .ok (.iload_n 1, 1) := by decide +kernel
theorem dX0_masterAt_1 : decode cX0_masterAt 1 = .ok (.iconst 4, 1) := by decide +kernel
theorem dX0_masterAt_2 : decode cX0_masterAt 2 = .ok (.invokestatic 86, 3) := by decide +kernel
theorem dX0_masterAt_5 : decode cX0_masterAt 5 = .ok (.ifCond .eq 12, 3) := by decide +kernel
theorem dX0_masterAt_8 : decode cX0_masterAt 8 = .ok (.aload_n 0, 1) := by decide +kernel
theorem dX0_masterAt_9 : decode cX0_masterAt 9 = .ok (.getfield 20, 3) := by decide +kernel
theorem dX0_masterAt_12 : decode cX0_masterAt 12 = .ok (.iload_n 1, 1) := by decide +kernel
theorem dX0_masterAt_13 : decode cX0_masterAt 13 = .ok (.aaload, 1) := by decide +kernel
theorem dX0_masterAt_14 : decode cX0_masterAt 14 = .ok (.goto 4, 3) := by decide +kernel
theorem dX0_masterAt_17 : decode cX0_masterAt 17 = .ok (.aconst_null, 1) := by decide +kernel
theorem dX0_masterAt_18 : decode cX0_masterAt 18 = .ok (.areturn, 1) := by decide +kernel
theorem dX0_targetAt_0 : decode cX0_targetAt 0 = .ok (.iload_n 1, 1) := by decide +kernel
theorem dX0_targetAt_1 : decode cX0_targetAt 1 = .ok (.iconst 4, 1) := by decide +kernel
theorem dX0_targetAt_2 : decode cX0_targetAt 2 = .ok (.invokestatic 86, 3) := by decide +kernel
theorem dX0_targetAt_5 : decode cX0_targetAt 5 = .ok (.ifCond .eq 12, 3) := by decide +kernel
theorem dX0_targetAt_8 : decode cX0_targetAt 8 = .ok (.aload_n 0, 1) := by decide +kernel
theorem dX0_targetAt_9 : decode cX0_targetAt 9 = .ok (.getfield 26, 3) := by decide +kernel
theorem dX0_targetAt_12 : decode cX0_targetAt 12 = .ok (.iload_n 1, 1) := by decide +kernel
theorem dX0_targetAt_13 : decode cX0_targetAt 13 = .ok (.aaload, 1) := by decide +kernel
theorem dX0_targetAt_14 : decode cX0_targetAt 14 = .ok (.goto 4, 3) := by decide +kernel
theorem dX0_targetAt_17 : decode cX0_targetAt 17 = .ok (.aconst_null, 1) := by decide +kernel
theorem dX0_targetAt_18 : decode cX0_targetAt 18 = .ok (.areturn, 1) := by decide +kernel
theorem dX0_questionAt_0 : decode cX0_questionAt 0 = .ok (.iload_n 1, 1) := by decide +kernel
theorem dX0_questionAt_1 : decode cX0_questionAt 1 = .ok (.aload_n 0, 1) := by decide +kernel
theorem dX0_questionAt_2 : decode cX0_questionAt 2 = .ok (.getfield 56, 3) := by decide +kernel
theorem dX0_questionAt_5 : decode cX0_questionAt 5 = .ok (.invokestatic 86, 3) := by decide +kernel
theorem dX0_questionAt_8 : decode cX0_questionAt 8 = .ok (.ifCond .eq 22, 3) := by decide +kernel
theorem dX0_questionAt_11 : decode cX0_questionAt 11 = .ok (.iload_n 1, 1) := by decide +kernel
theorem dX0_questionAt_12 : decode cX0_questionAt 12 = .ok (.sipush 200, 3) := by decide +kernel
theorem dX0_questionAt_15 : decode cX0_questionAt 15 = .ok (.invokestatic 86, 3) := by decide +kernel
theorem dX0_questionAt_18 : decode cX0_questionAt 18 = .ok (.ifCond .eq 12, 3) := by decide +kernel
theorem dX0_questionAt_21 : decode cX0_questionAt 21 = .ok (.aload_n 0, 1) := by decide +kernel
theorem dX0_questionAt_22 : decode cX0_questionAt 22 = .ok (.getfield 32, 3) := by decide +kernel
theorem dX0_questionAt_25 : decode cX0_questionAt 25 = .ok (.iload_n 1, 1) := by decide +kernel
theorem dX0_questionAt_26 : decode cX0_questionAt 26 = .ok (.aaload, 1) := by decide +kernel
theorem dX0_questionAt_27 : decode cX0_questionAt 27 = .ok (.goto 4, 3) := by decide +kernel
theorem dX0_questionAt_30 : decode cX0_questionAt 30 = .ok (.aconst_null, 1) := by decide +kernel
theorem dX0_questionAt_31 : decode cX0_questionAt 31 = .ok (.areturn, 1) := by decide +kernel
theorem dX0_highestLentTag_0 : decode cX0_highestLentTag 0 = .ok (.bipush (-5), 2) := by decide +kernel
theorem dX0_highestLentTag_2 : decode cX0_highestLentTag 2 = .ok (.istore_n 1, 1) := by decide +kernel
theorem dX0_highestLentTag_3 : decode cX0_highestLentTag 3 = .ok (.iconst 0, 1) := by decide +kernel
theorem dX0_highestLentTag_4 : decode cX0_highestLentTag 4 = .ok (.istore_n 2, 1) := by decide +kernel
theorem dX0_highestLentTag_5 : decode cX0_highestLentTag 5 = .ok (.iload_n 2, 1) := by decide +kernel
theorem dX0_highestLentTag_6 : decode cX0_highestLentTag 6 = .ok (.bipush 8, 2) := by decide +kernel
theorem dX0_highestLentTag_8 : decode cX0_highestLentTag 8 = .ok (.if_icmp .ge 22, 3) := by decide +kernel
theorem dX0_highestLentTag_11 : decode cX0_highestLentTag 11 = .ok (.aload_n 0, 1) := by decide +kernel
theorem dX0_highestLentTag_12 : decode cX0_highestLentTag 12 = .ok (.getfield 15, 3) := by decide +kernel
theorem dX0_highestLentTag_15 : decode cX0_highestLentTag 15 = .ok (.iload_n 2, 1) := by decide +kernel
theorem dX0_highestLentTag_16 : decode cX0_highestLentTag 16 = .ok (.iaload, 1) := by decide +kernel
theorem dX0_highestLentTag_17 : decode cX0_highestLentTag 17 = .ok (.bipush (-5), 2) := by decide +kernel
theorem dX0_highestLentTag_19 : decode cX0_highestLentTag 19 = .ok (.if_icmp .eq 5, 3) := by decide +kernel
theorem dX0_highestLentTag_22 : decode cX0_highestLentTag 22 = .ok (.iload_n 2, 1) := by decide +kernel
theorem dX0_highestLentTag_23 : decode cX0_highestLentTag 23 = .ok (.istore_n 1, 1) := by decide +kernel
theorem dX0_highestLentTag_24 : decode cX0_highestLentTag 24 = .ok (.iinc 2 1, 3) := by decide +kernel
theorem dX0_highestLentTag_27 : decode cX0_highestLentTag 27 = .ok (.goto (-22), 3) := by decide +kernel
theorem dX0_highestLentTag_30 : decode cX0_highestLentTag 30 = .ok (.iload_n 1, 1) := by decide +kernel
theorem dX0_highestLentTag_31 : decode cX0_highestLentTag 31 = .ok (.ireturn, 1) := by decide +kernel
theorem dX0_freeTags_0 : decode cX0_freeTags 0 = .ok (.iconst 0, 1) := by decide +kernel
theorem dX0_freeTags_1 : decode cX0_freeTags 1 = .ok (.istore_n 1, 1) := by decide +kernel
theorem dX0_freeTags_2 : decode cX0_freeTags 2 = .ok (.iconst 0, 1) := by decide +kernel
theorem dX0_freeTags_3 : decode cX0_freeTags 3 = .ok (.istore_n 2, 1) := by decide +kernel
theorem dX0_freeTags_4 : decode cX0_freeTags 4 = .ok (.iload_n 2, 1) := by decide +kernel
theorem dX0_freeTags_5 : decode cX0_freeTags 5 = .ok (.aload_n 0, 1) := by decide +kernel
theorem dX0_freeTags_6 : decode cX0_freeTags 6 = .ok (.getfield 9, 3) := by decide +kernel
theorem dX0_freeTags_9 : decode cX0_freeTags 9 = .ok (.iconst 0, 1) := by decide +kernel
theorem dX0_freeTags_10 : decode cX0_freeTags 10 = .ok (.iaload, 1) := by decide +kernel
theorem dX0_freeTags_11 : decode cX0_freeTags 11 = .ok (.if_icmp .ge 29, 3) := by decide +kernel
theorem dX0_freeTags_14 : decode cX0_freeTags 14 = .ok (.iload_n 2, 1) := by decide +kernel
theorem dX0_freeTags_15 : decode cX0_freeTags 15 = .ok (.bipush 8, 2) := by decide +kernel
theorem dX0_freeTags_17 : decode cX0_freeTags 17 = .ok (.if_icmp .ge 23, 3) := by decide +kernel
theorem dX0_freeTags_20 : decode cX0_freeTags 20 = .ok (.aload_n 0, 1) := by decide +kernel
theorem dX0_freeTags_21 : decode cX0_freeTags 21 = .ok (.getfield 15, 3) := by decide +kernel
theorem dX0_freeTags_24 : decode cX0_freeTags 24 = .ok (.iload_n 2, 1) := by decide +kernel
theorem dX0_freeTags_25 : decode cX0_freeTags 25 = .ok (.iaload, 1) := by decide +kernel
theorem dX0_freeTags_26 : decode cX0_freeTags 26 = .ok (.bipush (-5), 2) := by decide +kernel
theorem dX0_freeTags_28 : decode cX0_freeTags 28 = .ok (.if_icmp .ne 6, 3) := by decide +kernel
theorem dX0_freeTags_31 : decode cX0_freeTags 31 = .ok (.iinc 1 1, 3) := by decide +kernel
theorem dX0_freeTags_34 : decode cX0_freeTags 34 = .ok (.iinc 2 1, 3) := by decide +kernel
theorem dX0_freeTags_37 : decode cX0_freeTags 37 = .ok (.goto (-33), 3) := by decide +kernel
theorem dX0_freeTags_40 : decode cX0_freeTags 40 = .ok (.iload_n 1, 1) := by decide +kernel
theorem dX0_freeTags_41 : decode cX0_freeTags 41 = .ok (.ireturn, 1) := by decide +kernel
theorem dX0_lowestFreeTag_0 : decode cX0_lowestFreeTag 0 = .ok (.iconst 0, 1) := by decide +kernel
theorem dX0_lowestFreeTag_1 : decode cX0_lowestFreeTag 1 = .ok (.istore_n 1, 1) := by decide +kernel
theorem dX0_lowestFreeTag_2 : decode cX0_lowestFreeTag 2 = .ok (.iload_n 1, 1) := by decide +kernel
theorem dX0_lowestFreeTag_3 : decode cX0_lowestFreeTag 3 = .ok (.aload_n 0, 1) := by decide +kernel
theorem dX0_lowestFreeTag_4 : decode cX0_lowestFreeTag 4 = .ok (.getfield 9, 3) := by decide +kernel
theorem dX0_lowestFreeTag_7 : decode cX0_lowestFreeTag 7 = .ok (.iconst 0, 1) := by decide +kernel
theorem dX0_lowestFreeTag_8 : decode cX0_lowestFreeTag 8 = .ok (.iaload, 1) := by decide +kernel
theorem dX0_lowestFreeTag_9 : decode cX0_lowestFreeTag 9 = .ok (.if_icmp .ge 28, 3) := by decide +kernel
theorem dX0_lowestFreeTag_12 : decode cX0_lowestFreeTag 12 = .ok (.iload_n 1, 1) := by decide +kernel
theorem dX0_lowestFreeTag_13 : decode cX0_lowestFreeTag 13 = .ok (.bipush 8, 2) := by decide +kernel
theorem dX0_lowestFreeTag_15 : decode cX0_lowestFreeTag 15 = .ok (.if_icmp .ge 22, 3) := by decide +kernel
theorem dX0_lowestFreeTag_18 : decode cX0_lowestFreeTag 18 = .ok (.aload_n 0, 1) := by decide +kernel
theorem dX0_lowestFreeTag_19 : decode cX0_lowestFreeTag 19 = .ok (.getfield 15, 3) := by decide +kernel
theorem dX0_lowestFreeTag_22 : decode cX0_lowestFreeTag 22 = .ok (.iload_n 1, 1) := by decide +kernel
theorem dX0_lowestFreeTag_23 : decode cX0_lowestFreeTag 23 = .ok (.iaload, 1) := by decide +kernel
theorem dX0_lowestFreeTag_24 : decode cX0_lowestFreeTag 24 = .ok (.bipush (-5), 2) := by decide +kernel
theorem dX0_lowestFreeTag_26 : decode cX0_lowestFreeTag 26 = .ok (.if_icmp .ne 5, 3) := by decide +kernel
theorem dX0_lowestFreeTag_29 : decode cX0_lowestFreeTag 29 = .ok (.iload_n 1, 1) := by decide +kernel
theorem dX0_lowestFreeTag_30 : decode cX0_lowestFreeTag 30 = .ok (.ireturn, 1) := by decide +kernel
theorem dX0_lowestFreeTag_31 : decode cX0_lowestFreeTag 31 = .ok (.iinc 1 1, 3) := by decide +kernel
theorem dX0_lowestFreeTag_34 : decode cX0_lowestFreeTag 34 = .ok (.goto (-32), 3) := by decide +kernel
theorem dX0_lowestFreeTag_37 : decode cX0_lowestFreeTag 37 = .ok (.bipush (-5), 2) := by decide +kernel
theorem dX0_lowestFreeTag_39 : decode cX0_lowestFreeTag 39 = .ok (.ireturn, 1) := by decide +kernel
theorem dX0_put_0 : decode cX0_put 0 = .ok (.aload_n 0, 1) := by decide +kernel
theorem dX0_put_1 : decode cX0_put 1 = .ok (.iload_n 1, 1) := by decide +kernel
theorem dX0_put_2 : decode cX0_put 2 = .ok (.invokevirtual 90, 3) := by decide +kernel
theorem dX0_put_5 : decode cX0_put 5 = .ok (.astore 5, 2) := by decide +kernel
theorem dX0_put_7 : decode cX0_put 7 = .ok (.aload 5, 2) := by decide +kernel
theorem dX0_put_9 : decode cX0_put 9 = .ok (.ifnull 16, 3) := by decide +kernel
theorem dX0_put_12 : decode cX0_put 12 = .ok (.aload_n 0, 1) := by decide +kernel
theorem dX0_put_13 : decode cX0_put 13 = .ok (.getfield 56, 3) := by decide +kernel
theorem dX0_put_16 : decode cX0_put 16 = .ok (.sipush 200, 3) := by decide +kernel
theorem dX0_put_19 : decode cX0_put 19 = .ok (.invokestatic 86, 3) := by decide +kernel
theorem dX0_put_22 : decode cX0_put 22 = .ok (.ifCond .ne 6, 3) := by decide +kernel
theorem dX0_put_25 : decode cX0_put 25 = .ok (.bipush (-5), 2) := by decide +kernel
theorem dX0_put_27 : decode cX0_put 27 = .ok (.ireturn, 1) := by decide +kernel
theorem dX0_put_28 : decode cX0_put 28 = .ok (.aload_n 0, 1) := by decide +kernel
theorem dX0_put_29 : decode cX0_put 29 = .ok (.getfield 56, 3) := by decide +kernel
theorem dX0_put_32 : decode cX0_put 32 = .ok (.istore 6, 2) := by decide +kernel
theorem dX0_put_34 : decode cX0_put 34 = .ok (.aload_n 0, 1) := by decide +kernel
theorem dX0_put_35 : decode cX0_put 35 = .ok (.getfield 32, 3) := by decide +kernel
theorem dX0_put_38 : decode cX0_put 38 = .ok (.iload 6, 2) := by decide +kernel
theorem dX0_put_40 : decode cX0_put 40 = .ok (.aaload, 1) := by decide +kernel
theorem dX0_put_41 : decode cX0_put 41 = .ok (.iload_n 1, 1) := by decide +kernel
theorem dX0_put_42 : decode cX0_put 42 = .ok (.iload_n 2, 1) := by decide +kernel
theorem dX0_put_43 : decode cX0_put 43 = .ok (.iload_n 3, 1) := by decide +kernel
theorem dX0_put_44 : decode cX0_put 44 = .ok (.iload 4, 2) := by decide +kernel
theorem dX0_put_46 : decode cX0_put 46 = .ok (.aload_n 0, 1) := by decide +kernel
theorem dX0_put_47 : decode cX0_put 47 = .ok (.getfield 62, 3) := by decide +kernel
theorem dX0_put_50 : decode cX0_put 50 = .ok (.invokevirtual 94, 3) := by decide +kernel
theorem dX0_put_53 : decode cX0_put 53 = .ok (.aload_n 0, 1) := by decide +kernel
theorem dX0_put_54 : decode cX0_put 54 = .ok (.dup, 1) := by decide +kernel
theorem dX0_put_55 : decode cX0_put 55 = .ok (.getfield 56, 3) := by decide +kernel
theorem dX0_put_58 : decode cX0_put 58 = .ok (.iconst 1, 1) := by decide +kernel
theorem dX0_put_59 : decode cX0_put 59 = .ok (.iadd, 1) := by decide +kernel
theorem dX0_put_60 : decode cX0_put 60 = .ok (.putfield 56, 3) := by decide +kernel
theorem dX0_put_63 : decode cX0_put 63 = .ok (.aload 5, 2) := by decide +kernel
theorem dX0_put_65 : decode cX0_put 65 = .ok (.getfield 98, 3) := by decide +kernel
theorem dX0_put_68 : decode cX0_put 68 = .ok (.iload 6, 2) := by decide +kernel
theorem dX0_put_70 : decode cX0_put 70 = .ok (.invokevirtual 102, 3) := by decide +kernel
theorem dX0_put_73 : decode cX0_put 73 = .ok (.iload 6, 2) := by decide +kernel
theorem dX0_put_75 : decode cX0_put 75 = .ok (.ireturn, 1) := by decide +kernel
theorem dX0_takeLastOf_0 : decode cX0_takeLastOf 0 = .ok (.aload_n 1, 1) := by decide +kernel
theorem dX0_takeLastOf_1 : decode cX0_takeLastOf 1 = .ok (.getfield 98, 3) := by decide +kernel
theorem dX0_takeLastOf_4 : decode cX0_takeLastOf 4 = .ok (.getfield 108, 3) := by decide +kernel
theorem dX0_takeLastOf_7 : decode cX0_takeLastOf 7 = .ok (.iconst 1, 1) := by decide +kernel
theorem dX0_takeLastOf_8 : decode cX0_takeLastOf 8 = .ok (.isub, 1) := by decide +kernel
theorem dX0_takeLastOf_9 : decode cX0_takeLastOf 9 = .ok (.istore_n 2, 1) := by decide +kernel
theorem dX0_takeLastOf_10 : decode cX0_takeLastOf 10 = .ok (.aload_n 1, 1) := by decide +kernel
theorem dX0_takeLastOf_11 : decode cX0_takeLastOf 11 = .ok (.getfield 98, 3) := by decide +kernel
theorem dX0_takeLastOf_14 : decode cX0_takeLastOf 14 = .ok (.iload_n 2, 1) := by decide +kernel
theorem dX0_takeLastOf_15 : decode cX0_takeLastOf 15 = .ok (.invokevirtual 111, 3) := by decide +kernel
theorem dX0_takeLastOf_18 : decode cX0_takeLastOf 18 = .ok (.istore_n 3, 1) := by decide +kernel
theorem dX0_takeLastOf_19 : decode cX0_takeLastOf 19 = .ok (.aload_n 1, 1) := by decide +kernel
theorem dX0_takeLastOf_20 : decode cX0_takeLastOf 20 = .ok (.getfield 98, 3) := by decide +kernel
theorem dX0_takeLastOf_23 : decode cX0_takeLastOf 23 = .ok (.iload_n 2, 1) := by decide +kernel
theorem dX0_takeLastOf_24 : decode cX0_takeLastOf 24 = .ok (.invokevirtual 115, 3) := by decide +kernel
theorem dX0_takeLastOf_27 : decode cX0_takeLastOf 27 = .ok (.aload_n 1, 1) := by decide +kernel
theorem dX0_takeLastOf_28 : decode cX0_takeLastOf 28 = .ok (.getfield 98, 3) := by decide +kernel
theorem dX0_takeLastOf_31 : decode cX0_takeLastOf 31 = .ok (.getfield 108, 3) := by decide +kernel
theorem dX0_takeLastOf_34 : decode cX0_takeLastOf 34 = .ok (.ifCond .ne 8, 3) := by decide +kernel
theorem dX0_takeLastOf_37 : decode cX0_takeLastOf 37 = .ok (.aload_n 1, 1) := by decide +kernel
theorem dX0_takeLastOf_38 : decode cX0_takeLastOf 38 = .ok (.iconst 0, 1) := by decide +kernel
theorem dX0_takeLastOf_39 : decode cX0_takeLastOf 39 = .ok (.putfield 118, 3) := by decide +kernel
theorem dX0_takeLastOf_42 : decode cX0_takeLastOf 42 = .ok (.aload_n 0, 1) := by decide +kernel
theorem dX0_takeLastOf_43 : decode cX0_takeLastOf 43 = .ok (.iload_n 3, 1) := by decide +kernel
theorem dX0_takeLastOf_44 : decode cX0_takeLastOf 44 = .ok (.invokevirtual 121, 3) := by decide +kernel
theorem dX0_takeLastOf_47 : decode cX0_takeLastOf 47 = .ok (.astore 4, 2) := by decide +kernel
theorem dX0_takeLastOf_49 : decode cX0_takeLastOf 49 = .ok (.aload 4, 2) := by decide +kernel
theorem dX0_takeLastOf_51 : decode cX0_takeLastOf 51 = .ok (.ifnull 9, 3) := by decide +kernel
theorem dX0_takeLastOf_54 : decode cX0_takeLastOf 54 = .ok (.aload 4, 2) := by decide +kernel
theorem dX0_takeLastOf_56 : decode cX0_takeLastOf 56 = .ok (.iconst 4, 1) := by decide +kernel
theorem dX0_takeLastOf_57 : decode cX0_takeLastOf 57 = .ok (.putfield 125, 3) := by decide +kernel
theorem dX0_takeLastOf_60 : decode cX0_takeLastOf 60 = .ok (.iload_n 3, 1) := by decide +kernel
theorem dX0_takeLastOf_61 : decode cX0_takeLastOf 61 = .ok (.ireturn, 1) := by decide +kernel
theorem dX0_doneIn_0 : decode cX0_doneIn 0 = .ok (.iconst 0, 1) := by decide +kernel
theorem dX0_doneIn_1 : decode cX0_doneIn 1 = .ok (.istore_n 2, 1) := by decide +kernel
theorem dX0_doneIn_2 : decode cX0_doneIn 2 = .ok (.iconst 0, 1) := by decide +kernel
theorem dX0_doneIn_3 : decode cX0_doneIn 3 = .ok (.istore_n 3, 1) := by decide +kernel
theorem dX0_doneIn_4 : decode cX0_doneIn 4 = .ok (.iload_n 3, 1) := by decide +kernel
theorem dX0_doneIn_5 : decode cX0_doneIn 5 = .ok (.aload_n 1, 1) := by decide +kernel
theorem dX0_doneIn_6 : decode cX0_doneIn 6 = .ok (.getfield 128, 3) := by decide +kernel
theorem dX0_doneIn_9 : decode cX0_doneIn 9 = .ok (.getfield 108, 3) := by decide +kernel
theorem dX0_doneIn_12 : decode cX0_doneIn 12 = .ok (.if_icmp .ge 40, 3) := by decide +kernel
theorem dX0_doneIn_15 : decode cX0_doneIn 15 = .ok (.aload_n 0, 1) := by decide +kernel
theorem dX0_doneIn_16 : decode cX0_doneIn 16 = .ok (.aload_n 1, 1) := by decide +kernel
theorem dX0_doneIn_17 : decode cX0_doneIn 17 = .ok (.getfield 128, 3) := by decide +kernel
theorem dX0_doneIn_20 : decode cX0_doneIn 20 = .ok (.iload_n 3, 1) := by decide +kernel
theorem dX0_doneIn_21 : decode cX0_doneIn 21 = .ok (.invokevirtual 111, 3) := by decide +kernel
theorem dX0_doneIn_24 : decode cX0_doneIn 24 = .ok (.invokevirtual 121, 3) := by decide +kernel
theorem dX0_doneIn_27 : decode cX0_doneIn 27 = .ok (.astore 4, 2) := by decide +kernel
theorem dX0_doneIn_29 : decode cX0_doneIn 29 = .ok (.aload 4, 2) := by decide +kernel
theorem dX0_doneIn_31 : decode cX0_doneIn 31 = .ok (.ifnull 15, 3) := by decide +kernel
theorem dX0_doneIn_34 : decode cX0_doneIn 34 = .ok (.aload 4, 2) := by decide +kernel
theorem dX0_doneIn_36 : decode cX0_doneIn 36 = .ok (.getfield 125, 3) := by decide +kernel
theorem dX0_doneIn_39 : decode cX0_doneIn 39 = .ok (.iconst 2, 1) := by decide +kernel
theorem dX0_doneIn_40 : decode cX0_doneIn 40 = .ok (.if_icmp .ne 6, 3) := by decide +kernel
theorem dX0_doneIn_43 : decode cX0_doneIn 43 = .ok (.iinc 2 1, 3) := by decide +kernel
theorem dX0_doneIn_46 : decode cX0_doneIn 46 = .ok (.iinc 3 1, 3) := by decide +kernel
theorem dX0_doneIn_49 : decode cX0_doneIn 49 = .ok (.goto (-45), 3) := by decide +kernel
theorem dX0_doneIn_52 : decode cX0_doneIn 52 = .ok (.iload_n 2, 1) := by decide +kernel
theorem dX0_doneIn_53 : decode cX0_doneIn 53 = .ok (.ireturn, 1) := by decide +kernel
theorem dX0_isOutOfPatience_0 : decode cX0_isOutOfPatience 0 = .ok (.aload_n 1, 1) := by decide +kernel
theorem dX0_isOutOfPatience_1 : decode cX0_isOutOfPatience 1 = .ok (.getfield 118, 3) := by decide +kernel
theorem dX0_isOutOfPatience_4 : decode cX0_isOutOfPatience 4 = .ok (.aload_n 0, 1) := by decide +kernel
theorem dX0_isOutOfPatience_5 : decode cX0_isOutOfPatience 5 = .ok (.getfield 9, 3) := by decide +kernel
theorem dX0_isOutOfPatience_8 : decode cX0_isOutOfPatience 8 = .ok (.iconst 2, 1) := by decide +kernel
theorem dX0_isOutOfPatience_9 : decode cX0_isOutOfPatience 9 = .ok (.iaload, 1) := by decide +kernel
theorem dX0_isOutOfPatience_10 : decode cX0_isOutOfPatience 10 = .ok (.if_icmp .lt 7, 3) := by decide +kernel
theorem dX0_isOutOfPatience_13 : decode cX0_isOutOfPatience 13 = .ok (.iconst 1, 1) := by decide +kernel
theorem dX0_isOutOfPatience_14 : decode cX0_isOutOfPatience 14 = .ok (.goto 4, 3) := by decide +kernel
theorem dX0_isOutOfPatience_17 : decode cX0_isOutOfPatience 17 = .ok (.iconst 0, 1) := by decide +kernel
theorem dX0_isOutOfPatience_18 : decode cX0_isOutOfPatience 18 = .ok (.ireturn, 1) := by decide +kernel
theorem dX0_passTick_0 : decode cX0_passTick 0 = .ok (.aload_n 0, 1) := by decide +kernel
theorem dX0_passTick_1 : decode cX0_passTick 1 = .ok (.invokevirtual 131, 3) := by decide +kernel
theorem dX0_passTick_4 : decode cX0_passTick 4 = .ok (.aload_n 0, 1) := by decide +kernel
theorem dX0_passTick_5 : decode cX0_passTick 5 = .ok (.invokevirtual 134, 3) := by decide +kernel
theorem dX0_passTick_8 : decode cX0_passTick 8 = .ok (.istore_n 1, 1) := by decide +kernel
theorem dX0_passTick_9 : decode cX0_passTick 9 = .ok (.iload_n 1, 1) := by decide +kernel
theorem dX0_passTick_10 : decode cX0_passTick 10 = .ok (.bipush (-5), 2) := by decide +kernel
theorem dX0_passTick_12 : decode cX0_passTick 12 = .ok (.if_icmp .ne 13, 3) := by decide +kernel
theorem dX0_passTick_15 : decode cX0_passTick 15 = .ok (.aload_n 0, 1) := by decide +kernel
theorem dX0_passTick_16 : decode cX0_passTick 16 = .ok (.dup, 1) := by decide +kernel
theorem dX0_passTick_17 : decode cX0_passTick 17 = .ok (.getfield 80, 3) := by decide +kernel
theorem dX0_passTick_20 : decode cX0_passTick 20 = .ok (.iconst 1, 1) := by decide +kernel
theorem dX0_passTick_21 : decode cX0_passTick 21 = .ok (.iadd, 1) := by decide +kernel
theorem dX0_passTick_22 : decode cX0_passTick 22 = .ok (.putfield 80, 3) := by decide +kernel
theorem dX0_passTick_25 : decode cX0_passTick 25 = .ok (.aload_n 0, 1) := by decide +kernel
theorem dX0_passTick_26 : decode cX0_passTick 26 = .ok (.getfield 36, 3) := by decide +kernel
theorem dX0_passTick_29 : decode cX0_passTick 29 = .ok (.ifCond .ne 11, 3) := by decide +kernel
theorem dX0_passTick_32 : decode cX0_passTick 32 = .ok (.aload_n 0, 1) := by decide +kernel
theorem dX0_passTick_33 : decode cX0_passTick 33 = .ok (.iload_n 1, 1) := by decide +kernel
theorem dX0_passTick_34 : decode cX0_passTick 34 = .ok (.invokevirtual 121, 3) := by decide +kernel
theorem dX0_passTick_37 : decode cX0_passTick 37 = .ok (.goto 4, 3) := by decide +kernel
theorem dX0_passTick_40 : decode cX0_passTick 40 = .ok (.aconst_null, 1) := by decide +kernel
theorem dX0_passTick_41 : decode cX0_passTick 41 = .ok (.astore_n 2, 1) := by decide +kernel
theorem dX0_passTick_42 : decode cX0_passTick 42 = .ok (.aload_n 0, 1) := by decide +kernel
theorem dX0_passTick_43 : decode cX0_passTick 43 = .ok (.aload_n 2, 1) := by decide +kernel
theorem dX0_passTick_44 : decode cX0_passTick 44 = .ok (.ifnonnull 8, 3) := by decide +kernel
theorem dX0_passTick_47 : decode cX0_passTick 47 = .ok (.bipush (-5), 2) := by decide +kernel
theorem dX0_passTick_49 : decode cX0_passTick 49 = .ok (.goto 7, 3) := by decide +kernel
theorem dX0_passTick_52 : decode cX0_passTick 52 = .ok (.aload_n 2, 1) := by decide +kernel
theorem dX0_passTick_53 : decode cX0_passTick 53 = .ok (.getfield 138, 3) := by decide +kernel
theorem dX0_passTick_56 : decode cX0_passTick 56 = .ok (.invokevirtual 141, 3) := by decide +kernel
theorem dX0_passTick_59 : decode cX0_passTick 59 = .ok (.aload_n 0, 1) := by decide +kernel
theorem dX0_passTick_60 : decode cX0_passTick 60 = .ok (.dup, 1) := by decide +kernel
theorem dX0_passTick_61 : decode cX0_passTick 61 = .ok (.getfield 62, 3) := by decide +kernel
theorem dX0_passTick_64 : decode cX0_passTick 64 = .ok (.iconst 1, 1) := by decide +kernel
theorem dX0_passTick_65 : decode cX0_passTick 65 = .ok (.iadd, 1) := by decide +kernel
theorem dX0_passTick_66 : decode cX0_passTick 66 = .ok (.putfield 62, 3) := by decide +kernel
theorem dX0_passTick_69 : decode cX0_passTick 69 = .ok (.iload_n 1, 1) := by decide +kernel
theorem dX0_passTick_70 : decode cX0_passTick 70 = .ok (.ireturn, 1) := by decide +kernel
theorem dX0_finishQuestions_0 : decode cX0_finishQuestions 0 = .ok (.aload_n 0, 1) := by decide +kernel
theorem dX0_finishQuestions_1 : decode cX0_finishQuestions 1 = .ok (.getfield 26, 3) := by decide +kernel
theorem dX0_finishQuestions_4 : decode cX0_finishQuestions 4 = .ok (.astore_n 1, 1) := by decide +kernel
theorem dX0_finishQuestions_5 : decode cX0_finishQuestions 5 = .ok (.aload_n 1, 1) := by decide +kernel
theorem dX0_finishQuestions_6 : decode cX0_finishQuestions 6 = .ok (.arraylength, 1) := by decide +kernel
theorem dX0_finishQuestions_7 : decode cX0_finishQuestions 7 = .ok (.istore_n 2, 1) := by decide +kernel
theorem dX0_finishQuestions_8 : decode cX0_finishQuestions 8 = .ok (.iconst 0, 1) := by decide +kernel
theorem dX0_finishQuestions_9 : decode cX0_finishQuestions 9 = .ok (.istore_n 3, 1) := by decide +kernel
theorem dX0_finishQuestions_10 : decode cX0_finishQuestions 10 = .ok (.iload_n 3, 1) := by decide +kernel
theorem dX0_finishQuestions_11 : decode cX0_finishQuestions 11 = .ok (.iload_n 2, 1) := by decide +kernel
theorem dX0_finishQuestions_12 : decode cX0_finishQuestions 12 = .ok (.if_icmp .ge 104, 3) := by decide +kernel
theorem dX0_finishQuestions_15 : decode cX0_finishQuestions 15 = .ok (.aload_n 1, 1) := by decide +kernel
theorem dX0_finishQuestions_16 : decode cX0_finishQuestions 16 = .ok (.iload_n 3, 1) := by decide +kernel
theorem dX0_finishQuestions_17 : decode cX0_finishQuestions 17 = .ok (.aaload, 1) := by decide +kernel
theorem dX0_finishQuestions_18 : decode cX0_finishQuestions 18 = .ok (.astore 4, 2) := by decide +kernel
theorem dX0_finishQuestions_20 : decode cX0_finishQuestions 20 = .ok (.iconst 0, 1) := by decide +kernel
theorem dX0_finishQuestions_21 : decode cX0_finishQuestions 21 = .ok (.istore 5, 2) := by decide +kernel
theorem dX0_finishQuestions_23 : decode cX0_finishQuestions 23 = .ok (.iload 5, 2) := by decide +kernel
theorem dX0_finishQuestions_25 : decode cX0_finishQuestions 25 = .ok (.aload 4, 2) := by decide +kernel
theorem dX0_finishQuestions_27 : decode cX0_finishQuestions 27 = .ok (.getfield 128, 3) := by decide +kernel
theorem dX0_finishQuestions_30 : decode cX0_finishQuestions 30 = .ok (.getfield 108, 3) := by decide +kernel
theorem dX0_finishQuestions_33 : decode cX0_finishQuestions 33 = .ok (.if_icmp .ge 77, 3) := by decide +kernel
theorem dX0_finishQuestions_36 : decode cX0_finishQuestions 36 = .ok (.aload_n 0, 1) := by decide +kernel
theorem dX0_finishQuestions_37 : decode cX0_finishQuestions 37 = .ok (.aload 4, 2) := by decide +kernel
theorem dX0_finishQuestions_39 : decode cX0_finishQuestions 39 = .ok (.getfield 128, 3) := by decide +kernel
theorem dX0_finishQuestions_42 : decode cX0_finishQuestions 42 = .ok (.iload 5, 2) := by decide +kernel
theorem dX0_finishQuestions_44 : decode cX0_finishQuestions 44 = .ok (.invokevirtual 111, 3) := by decide +kernel
theorem dX0_finishQuestions_47 : decode cX0_finishQuestions 47 = .ok (.invokevirtual 121, 3) := by decide +kernel
theorem dX0_finishQuestions_50 : decode cX0_finishQuestions 50 = .ok (.astore 6, 2) := by decide +kernel
theorem dX0_finishQuestions_52 : decode cX0_finishQuestions 52 = .ok (.aload 6, 2) := by decide +kernel
theorem dX0_finishQuestions_54 : decode cX0_finishQuestions 54 = .ok (.ifnull 50, 3) := by decide +kernel
theorem dX0_finishQuestions_57 : decode cX0_finishQuestions 57 = .ok (.aload 6, 2) := by decide +kernel
theorem dX0_finishQuestions_59 : decode cX0_finishQuestions 59 = .ok (.getfield 125, 3) := by decide +kernel
theorem dX0_finishQuestions_62 : decode cX0_finishQuestions 62 = .ok (.iconst 1, 1) := by decide +kernel
theorem dX0_finishQuestions_63 : decode cX0_finishQuestions 63 = .ok (.if_icmp .ne 41, 3) := by decide +kernel
theorem dX0_finishQuestions_66 : decode cX0_finishQuestions 66 = .ok (.aload 6, 2) := by decide +kernel
theorem dX0_finishQuestions_68 : decode cX0_finishQuestions 68 = .ok (.getfield 144, 3) := by decide +kernel
theorem dX0_finishQuestions_71 : decode cX0_finishQuestions 71 = .ok (.aload_n 0, 1) := by decide +kernel
theorem dX0_finishQuestions_72 : decode cX0_finishQuestions 72 = .ok (.getfield 62, 3) := by decide +kernel
theorem dX0_finishQuestions_75 : decode cX0_finishQuestions 75 = .ok (.if_icmp .ne 29, 3) := by decide +kernel
theorem dX0_finishQuestions_78 : decode cX0_finishQuestions 78 = .ok (.aload 6, 2) := by decide +kernel
theorem dX0_finishQuestions_80 : decode cX0_finishQuestions 80 = .ok (.aload 4, 2) := by decide +kernel
theorem dX0_finishQuestions_82 : decode cX0_finishQuestions 82 = .ok (.aload 6, 2) := by decide +kernel
theorem dX0_finishQuestions_84 : decode cX0_finishQuestions 84 = .ok (.getfield 147, 3) := by decide +kernel
theorem dX0_finishQuestions_87 : decode cX0_finishQuestions 87 = .ok (.aload 6, 2) := by decide +kernel
theorem dX0_finishQuestions_89 : decode cX0_finishQuestions 89 = .ok (.getfield 150, 3) := by decide +kernel
theorem dX0_finishQuestions_92 : decode cX0_finishQuestions 92 = .ok (.invokevirtual 153, 3) := by decide +kernel
theorem dX0_finishQuestions_95 : decode cX0_finishQuestions 95 = .ok (.putfield 157, 3) := by decide +kernel
theorem dX0_finishQuestions_98 : decode cX0_finishQuestions 98 = .ok (.aload 6, 2) := by decide +kernel
theorem dX0_finishQuestions_100 : decode cX0_finishQuestions 100 = .ok (.iconst 2, 1) := by decide +kernel
theorem dX0_finishQuestions_101 : decode cX0_finishQuestions 101 = .ok (.putfield 125, 3) := by decide +kernel
theorem dX0_finishQuestions_104 : decode cX0_finishQuestions 104 = .ok (.iinc 5 1, 3) := by decide +kernel
theorem dX0_finishQuestions_107 : decode cX0_finishQuestions 107 = .ok (.goto (-84), 3) := by decide +kernel
theorem dX0_finishQuestions_110 : decode cX0_finishQuestions 110 = .ok (.iinc 3 1, 3) := by decide +kernel
theorem dX0_finishQuestions_113 : decode cX0_finishQuestions 113 = .ok (.goto (-103), 3) := by decide +kernel
theorem dX0_finishQuestions_116 : decode cX0_finishQuestions 116 = .ok (.return_, 1) := by decide +kernel
theorem dX0_makeTrip_0 : decode cX0_makeTrip 0 = .ok (.aload_n 0, 1) := by decide +kernel
theorem dX0_makeTrip_1 : decode cX0_makeTrip 1 = .ok (.invokevirtual 160, 3) := by decide +kernel
theorem dX0_makeTrip_4 : decode cX0_makeTrip 4 = .ok (.istore_n 1, 1) := by decide +kernel
theorem dX0_makeTrip_5 : decode cX0_makeTrip 5 = .ok (.aload_n 0, 1) := by decide +kernel
theorem dX0_makeTrip_6 : decode cX0_makeTrip 6 = .ok (.invokevirtual 163, 3) := by decide +kernel
theorem dX0_makeTrip_9 : decode cX0_makeTrip 9 = .ok (.istore_n 2, 1) := by decide +kernel
theorem dX0_makeTrip_10 : decode cX0_makeTrip 10 = .ok (.iload_n 1, 1) := by decide +kernel
theorem dX0_makeTrip_11 : decode cX0_makeTrip 11 = .ok (.bipush (-5), 2) := by decide +kernel
theorem dX0_makeTrip_13 : decode cX0_makeTrip 13 = .ok (.if_icmp .eq 22, 3) := by decide +kernel
theorem dX0_makeTrip_16 : decode cX0_makeTrip 16 = .ok (.iload_n 2, 1) := by decide +kernel
theorem dX0_makeTrip_17 : decode cX0_makeTrip 17 = .ok (.bipush (-5), 2) := by decide +kernel
theorem dX0_makeTrip_19 : decode cX0_makeTrip 19 = .ok (.if_icmp .eq 10, 3) := by decide +kernel
theorem dX0_makeTrip_22 : decode cX0_makeTrip 22 = .ok (.aload_n 0, 1) := by decide +kernel
theorem dX0_makeTrip_23 : decode cX0_makeTrip 23 = .ok (.invokevirtual 166, 3) := by decide +kernel
theorem dX0_makeTrip_26 : decode cX0_makeTrip 26 = .ok (.ifCond .eq 9, 3) := by decide +kernel
theorem dX0_makeTrip_29 : decode cX0_makeTrip 29 = .ok (.aload_n 0, 1) := by decide +kernel
theorem dX0_makeTrip_30 : decode cX0_makeTrip 30 = .ok (.iload_n 1, 1) := by decide +kernel
theorem dX0_makeTrip_31 : decode cX0_makeTrip 31 = .ok (.invokevirtual 170, 3) := by decide +kernel
theorem dX0_makeTrip_34 : decode cX0_makeTrip 34 = .ok (.ireturn, 1) := by decide +kernel
theorem dX0_makeTrip_35 : decode cX0_makeTrip 35 = .ok (.iload_n 2, 1) := by decide +kernel
theorem dX0_makeTrip_36 : decode cX0_makeTrip 36 = .ok (.bipush (-5), 2) := by decide +kernel
theorem dX0_makeTrip_38 : decode cX0_makeTrip 38 = .ok (.if_icmp .ne 8, 3) := by decide +kernel
theorem dX0_makeTrip_41 : decode cX0_makeTrip 41 = .ok (.bipush (-5), 2) := by decide +kernel
theorem dX0_makeTrip_43 : decode cX0_makeTrip 43 = .ok (.goto 8, 3) := by decide +kernel
theorem dX0_makeTrip_46 : decode cX0_makeTrip 46 = .ok (.aload_n 0, 1) := by decide +kernel
theorem dX0_makeTrip_47 : decode cX0_makeTrip 47 = .ok (.iload_n 2, 1) := by decide +kernel
theorem dX0_makeTrip_48 : decode cX0_makeTrip 48 = .ok (.invokevirtual 173, 3) := by decide +kernel
theorem dX0_makeTrip_51 : decode cX0_makeTrip 51 = .ok (.ireturn, 1) := by decide +kernel
theorem dX0_prefersAnswer_0 : decode cX0_prefersAnswer 0 = .ok (.aload_n 0, 1) := by decide +kernel
theorem dX0_prefersAnswer_1 : decode cX0_prefersAnswer 1 = .ok (.getfield 9, 3) := by decide +kernel
theorem dX0_prefersAnswer_4 : decode cX0_prefersAnswer 4 = .ok (.iconst 1, 1) := by decide +kernel
theorem dX0_prefersAnswer_5 : decode cX0_prefersAnswer 5 = .ok (.iaload, 1) := by decide +kernel
theorem dX0_prefersAnswer_6 : decode cX0_prefersAnswer 6 = .ok (.istore_n 1, 1) := by decide +kernel
theorem dX0_prefersAnswer_7 : decode cX0_prefersAnswer 7 = .ok (.iload_n 1, 1) := by decide +kernel
theorem dX0_prefersAnswer_8 : decode cX0_prefersAnswer 8 = .ok (.ifCond .eq 8, 3) := by decide +kernel
theorem dX0_prefersAnswer_11 : decode cX0_prefersAnswer 11 = .ok (.iload_n 1, 1) := by decide +kernel
theorem dX0_prefersAnswer_12 : decode cX0_prefersAnswer 12 = .ok (.iconst 1, 1) := by decide +kernel
theorem dX0_prefersAnswer_13 : decode cX0_prefersAnswer 13 = .ok (.if_icmp .ne 13, 3) := by decide +kernel
theorem dX0_prefersAnswer_16 : decode cX0_prefersAnswer 16 = .ok (.iload_n 1, 1) := by decide +kernel
theorem dX0_prefersAnswer_17 : decode cX0_prefersAnswer 17 = .ok (.ifCond .ne 7, 3) := by decide +kernel
theorem dX0_prefersAnswer_20 : decode cX0_prefersAnswer 20 = .ok (.iconst 1, 1) := by decide +kernel
theorem dX0_prefersAnswer_21 : decode cX0_prefersAnswer 21 = .ok (.goto 4, 3) := by decide +kernel
theorem dX0_prefersAnswer_24 : decode cX0_prefersAnswer 24 = .ok (.iconst 0, 1) := by decide +kernel
theorem dX0_prefersAnswer_25 : decode cX0_prefersAnswer 25 = .ok (.ireturn, 1) := by decide +kernel
theorem dX0_prefersAnswer_26 : decode cX0_prefersAnswer 26 = .ok (.aload_n 0, 1) := by decide +kernel
theorem dX0_prefersAnswer_27 : decode cX0_prefersAnswer 27 = .ok (.getfield 36, 3) := by decide +kernel
theorem dX0_prefersAnswer_30 : decode cX0_prefersAnswer 30 = .ok (.ifCond .eq 11, 3) := by decide +kernel
theorem dX0_prefersAnswer_33 : decode cX0_prefersAnswer 33 = .ok (.aload_n 0, 1) := by decide +kernel
theorem dX0_prefersAnswer_34 : decode cX0_prefersAnswer 34 = .ok (.getfield 36, 3) := by decide +kernel
theorem dX0_prefersAnswer_37 : decode cX0_prefersAnswer 37 = .ok (.iconst 2, 1) := by decide +kernel
theorem dX0_prefersAnswer_38 : decode cX0_prefersAnswer 38 = .ok (.if_icmp .ne 7, 3) := by decide +kernel
theorem dX0_prefersAnswer_41 : decode cX0_prefersAnswer 41 = .ok (.iconst 1, 1) := by decide +kernel
theorem dX0_prefersAnswer_42 : decode cX0_prefersAnswer 42 = .ok (.goto 4, 3) := by decide +kernel
theorem dX0_prefersAnswer_45 : decode cX0_prefersAnswer 45 = .ok (.iconst 0, 1) := by decide +kernel
theorem dX0_prefersAnswer_46 : decode cX0_prefersAnswer 46 = .ok (.ireturn, 1) := by decide +kernel
theorem dX0_targetThatAnswers_0 : decode cX0_targetThatAnswers 0 = .ok (.iconst 0, 1) := by decide +kernel
theorem dX0_targetThatAnswers_1 : decode cX0_targetThatAnswers 1 = .ok (.istore_n 1, 1) := by decide +kernel
theorem dX0_targetThatAnswers_2 : decode cX0_targetThatAnswers 2 = .ok (.iload_n 1, 1) := by decide +kernel
theorem dX0_targetThatAnswers_3 : decode cX0_targetThatAnswers 3 = .ok (.iconst 4, 1) := by decide +kernel
theorem dX0_targetThatAnswers_4 : decode cX0_targetThatAnswers 4 = .ok (.if_icmp .ge 40, 3) := by decide +kernel
theorem dX0_targetThatAnswers_7 : decode cX0_targetThatAnswers 7 = .ok (.aload_n 0, 1) := by decide +kernel
theorem dX0_targetThatAnswers_8 : decode cX0_targetThatAnswers 8 = .ok (.getfield 68, 3) := by decide +kernel
theorem dX0_targetThatAnswers_11 : decode cX0_targetThatAnswers 11 = .ok (.iload_n 1, 1) := by decide +kernel
theorem dX0_targetThatAnswers_12 : decode cX0_targetThatAnswers 12 = .ok (.iadd, 1) := by decide +kernel
theorem dX0_targetThatAnswers_13 : decode cX0_targetThatAnswers 13 = .ok (.iconst 4, 1) := by decide +kernel
theorem dX0_targetThatAnswers_14 : decode cX0_targetThatAnswers 14 = .ok (.irem, 1) := by decide +kernel
theorem dX0_targetThatAnswers_15 : decode cX0_targetThatAnswers 15 = .ok (.istore_n 2, 1) := by decide +kernel
theorem dX0_targetThatAnswers_16 : decode cX0_targetThatAnswers 16 = .ok (.aload_n 0, 1) := by decide +kernel
theorem dX0_targetThatAnswers_17 : decode cX0_targetThatAnswers 17 = .ok (.iload_n 2, 1) := by decide +kernel
theorem dX0_targetThatAnswers_18 : decode cX0_targetThatAnswers 18 = .ok (.invokevirtual 176, 3) := by decide +kernel
theorem dX0_targetThatAnswers_21 : decode cX0_targetThatAnswers 21 = .ok (.astore_n 3, 1) := by decide +kernel
theorem dX0_targetThatAnswers_22 : decode cX0_targetThatAnswers 22 = .ok (.aload_n 3, 1) := by decide +kernel
theorem dX0_targetThatAnswers_23 : decode cX0_targetThatAnswers 23 = .ok (.ifnull 15, 3) := by decide +kernel
theorem dX0_targetThatAnswers_26 : decode cX0_targetThatAnswers 26 = .ok (.aload_n 0, 1) := by decide +kernel
theorem dX0_targetThatAnswers_27 : decode cX0_targetThatAnswers 27 = .ok (.aload_n 3, 1) := by decide +kernel
theorem dX0_targetThatAnswers_28 : decode cX0_targetThatAnswers 28 = .ok (.invokevirtual 180, 3) := by decide +kernel
theorem dX0_targetThatAnswers_31 : decode cX0_targetThatAnswers 31 = .ok (.bipush (-5), 2) := by decide +kernel
theorem dX0_targetThatAnswers_33 : decode cX0_targetThatAnswers 33 = .ok (.if_icmp .eq 5, 3) := by decide +kernel
theorem dX0_targetThatAnswers_36 : decode cX0_targetThatAnswers 36 = .ok (.iload_n 2, 1) := by decide +kernel
theorem dX0_targetThatAnswers_37 : decode cX0_targetThatAnswers 37 = .ok (.ireturn, 1) := by decide +kernel
theorem dX0_targetThatAnswers_38 : decode cX0_targetThatAnswers 38 = .ok (.iinc 1 1, 3) := by decide +kernel
theorem dX0_targetThatAnswers_41 : decode cX0_targetThatAnswers 41 = .ok (.goto (-39), 3) := by decide +kernel
theorem dX0_targetThatAnswers_44 : decode cX0_targetThatAnswers 44 = .ok (.bipush (-5), 2) := by decide +kernel
theorem dX0_targetThatAnswers_46 : decode cX0_targetThatAnswers 46 = .ok (.ireturn, 1) := by decide +kernel
theorem dX0_placeOfAnswer_0 : decode cX0_placeOfAnswer 0 = .ok (.aload_n 1, 1) := by decide +kernel
theorem dX0_placeOfAnswer_1 : decode cX0_placeOfAnswer 1 = .ok (.getfield 184, 3) := by decide +kernel
theorem dX0_placeOfAnswer_4 : decode cX0_placeOfAnswer 4 = .ok (.iconst 2, 1) := by decide +kernel
theorem dX0_placeOfAnswer_5 : decode cX0_placeOfAnswer 5 = .ok (.iaload, 1) := by decide +kernel
theorem dX0_placeOfAnswer_6 : decode cX0_placeOfAnswer 6 = .ok (.ifCond .ne 7, 3) := by decide +kernel
theorem dX0_placeOfAnswer_9 : decode cX0_placeOfAnswer 9 = .ok (.iconst 1, 1) := by decide +kernel
theorem dX0_placeOfAnswer_10 : decode cX0_placeOfAnswer 10 = .ok (.goto 4, 3) := by decide +kernel
theorem dX0_placeOfAnswer_13 : decode cX0_placeOfAnswer 13 = .ok (.iconst 0, 1) := by decide +kernel
theorem dX0_placeOfAnswer_14 : decode cX0_placeOfAnswer 14 = .ok (.istore_n 2, 1) := by decide +kernel
theorem dX0_placeOfAnswer_15 : decode cX0_placeOfAnswer 15 = .ok (.iload_n 2, 1) := by decide +kernel
theorem dX0_placeOfAnswer_16 : decode cX0_placeOfAnswer 16 = .ok (.ifCond .eq 17, 3) := by decide +kernel
theorem dX0_placeOfAnswer_19 : decode cX0_placeOfAnswer 19 = .ok (.iconst 1, 1) := by decide +kernel
theorem dX0_placeOfAnswer_20 : decode cX0_placeOfAnswer 20 = .ok (.aload_n 1, 1) := by decide +kernel
theorem dX0_placeOfAnswer_21 : decode cX0_placeOfAnswer 21 = .ok (.getfield 128, 3) := by decide +kernel
theorem dX0_placeOfAnswer_24 : decode cX0_placeOfAnswer 24 = .ok (.getfield 108, 3) := by decide +kernel
theorem dX0_placeOfAnswer_27 : decode cX0_placeOfAnswer 27 = .ok (.invokestatic 187, 3) := by decide +kernel
theorem dX0_placeOfAnswer_30 : decode cX0_placeOfAnswer 30 = .ok (.goto 10, 3) := by decide +kernel
theorem dX0_placeOfAnswer_33 : decode cX0_placeOfAnswer 33 = .ok (.aload_n 1, 1) := by decide +kernel
theorem dX0_placeOfAnswer_34 : decode cX0_placeOfAnswer 34 = .ok (.getfield 128, 3) := by decide +kernel
theorem dX0_placeOfAnswer_37 : decode cX0_placeOfAnswer 37 = .ok (.getfield 108, 3) := by decide +kernel
theorem dX0_placeOfAnswer_40 : decode cX0_placeOfAnswer 40 = .ok (.istore_n 3, 1) := by decide +kernel
theorem dX0_placeOfAnswer_41 : decode cX0_placeOfAnswer 41 = .ok (.bipush (-5), 2) := by decide +kernel
theorem dX0_placeOfAnswer_43 : decode cX0_placeOfAnswer 43 = .ok (.istore 4, 2) := by decide +kernel
theorem dX0_placeOfAnswer_45 : decode cX0_placeOfAnswer 45 = .ok (.iconst 0, 1) := by decide +kernel
theorem dX0_placeOfAnswer_46 : decode cX0_placeOfAnswer 46 = .ok (.istore 5, 2) := by decide +kernel
theorem dX0_placeOfAnswer_48 : decode cX0_placeOfAnswer 48 = .ok (.iconst 0, 1) := by decide +kernel
theorem dX0_placeOfAnswer_49 : decode cX0_placeOfAnswer 49 = .ok (.istore 6, 2) := by decide +kernel
theorem dX0_placeOfAnswer_51 : decode cX0_placeOfAnswer 51 = .ok (.iload 6, 2) := by decide +kernel
theorem dX0_placeOfAnswer_53 : decode cX0_placeOfAnswer 53 = .ok (.iload_n 3, 1) := by decide +kernel
theorem dX0_placeOfAnswer_54 : decode cX0_placeOfAnswer 54 = .ok (.if_icmp .ge 66, 3) := by decide +kernel
theorem dX0_placeOfAnswer_57 : decode cX0_placeOfAnswer 57 = .ok (.aload_n 0, 1) := by decide +kernel
theorem dX0_placeOfAnswer_58 : decode cX0_placeOfAnswer 58 = .ok (.aload_n 1, 1) := by decide +kernel
theorem dX0_placeOfAnswer_59 : decode cX0_placeOfAnswer 59 = .ok (.getfield 128, 3) := by decide +kernel
theorem dX0_placeOfAnswer_62 : decode cX0_placeOfAnswer 62 = .ok (.iload 6, 2) := by decide +kernel
theorem dX0_placeOfAnswer_64 : decode cX0_placeOfAnswer 64 = .ok (.invokevirtual 111, 3) := by decide +kernel
theorem dX0_placeOfAnswer_67 : decode cX0_placeOfAnswer 67 = .ok (.invokevirtual 121, 3) := by decide +kernel
theorem dX0_placeOfAnswer_70 : decode cX0_placeOfAnswer 70 = .ok (.astore 7, 2) := by decide +kernel
theorem dX0_placeOfAnswer_72 : decode cX0_placeOfAnswer 72 = .ok (.aload 7, 2) := by decide +kernel
theorem dX0_placeOfAnswer_74 : decode cX0_placeOfAnswer 74 = .ok (.ifnull 40, 3) := by decide +kernel
theorem dX0_placeOfAnswer_77 : decode cX0_placeOfAnswer 77 = .ok (.aload 7, 2) := by decide +kernel
theorem dX0_placeOfAnswer_79 : decode cX0_placeOfAnswer 79 = .ok (.getfield 125, 3) := by decide +kernel
theorem dX0_placeOfAnswer_82 : decode cX0_placeOfAnswer 82 = .ok (.iconst 2, 1) := by decide +kernel
theorem dX0_placeOfAnswer_83 : decode cX0_placeOfAnswer 83 = .ok (.if_icmp .ne 31, 3) := by decide +kernel
theorem dX0_placeOfAnswer_86 : decode cX0_placeOfAnswer 86 = .ok (.iload 4, 2) := by decide +kernel
theorem dX0_placeOfAnswer_88 : decode cX0_placeOfAnswer 88 = .ok (.bipush (-5), 2) := by decide +kernel
theorem dX0_placeOfAnswer_90 : decode cX0_placeOfAnswer 90 = .ok (.if_icmp .eq 13, 3) := by decide +kernel
theorem dX0_placeOfAnswer_93 : decode cX0_placeOfAnswer 93 = .ok (.aload 7, 2) := by decide +kernel
theorem dX0_placeOfAnswer_95 : decode cX0_placeOfAnswer 95 = .ok (.getfield 144, 3) := by decide +kernel
theorem dX0_placeOfAnswer_98 : decode cX0_placeOfAnswer 98 = .ok (.iload 5, 2) := by decide +kernel
theorem dX0_placeOfAnswer_100 : decode cX0_placeOfAnswer 100 = .ok (.if_icmp .ge 14, 3) := by decide +kernel
theorem dX0_placeOfAnswer_103 : decode cX0_placeOfAnswer 103 = .ok (.iload 6, 2) := by decide +kernel
theorem dX0_placeOfAnswer_105 : decode cX0_placeOfAnswer 105 = .ok (.istore 4, 2) := by decide +kernel
theorem dX0_placeOfAnswer_107 : decode cX0_placeOfAnswer 107 = .ok (.aload 7, 2) := by decide +kernel
theorem dX0_placeOfAnswer_109 : decode cX0_placeOfAnswer 109 = .ok (.getfield 144, 3) := by decide +kernel
theorem dX0_placeOfAnswer_112 : decode cX0_placeOfAnswer 112 = .ok (.istore 5, 2) := by decide +kernel
theorem dX0_placeOfAnswer_114 : decode cX0_placeOfAnswer 114 = .ok (.iinc 6 1, 3) := by decide +kernel
theorem dX0_placeOfAnswer_117 : decode cX0_placeOfAnswer 117 = .ok (.goto (-66), 3) := by decide +kernel
theorem dX0_placeOfAnswer_120 : decode cX0_placeOfAnswer 120 = .ok (.iload 4, 2) := by decide +kernel
theorem dX0_placeOfAnswer_122 : decode cX0_placeOfAnswer 122 = .ok (.ireturn, 1) := by decide +kernel
theorem dX0_masterThatSends_0 : decode cX0_masterThatSends 0 = .ok (.aload_n 0, 1) := by decide +kernel
theorem dX0_masterThatSends_1 : decode cX0_masterThatSends 1 = .ok (.invokevirtual 192, 3) := by decide +kernel
theorem dX0_masterThatSends_4 : decode cX0_masterThatSends 4 = .ok (.bipush (-5), 2) := by decide +kernel
theorem dX0_masterThatSends_6 : decode cX0_masterThatSends 6 = .ok (.if_icmp .ne 6, 3) := by decide +kernel
theorem dX0_masterThatSends_9 : decode cX0_masterThatSends 9 = .ok (.bipush (-5), 2) := by decide +kernel
theorem dX0_masterThatSends_11 : decode cX0_masterThatSends 11 = .ok (.ireturn, 1) := by decide +kernel
theorem dX0_masterThatSends_12 : decode cX0_masterThatSends 12 = .ok (.aload_n 0, 1) := by decide +kernel
theorem dX0_masterThatSends_13 : decode cX0_masterThatSends 13 = .ok (.invokevirtual 195, 3) := by decide +kernel
theorem dX0_masterThatSends_16 : decode cX0_masterThatSends 16 = .ok (.istore_n 1, 1) := by decide +kernel
theorem dX0_masterThatSends_17 : decode cX0_masterThatSends 17 = .ok (.iload_n 1, 1) := by decide +kernel
theorem dX0_masterThatSends_18 : decode cX0_masterThatSends 18 = .ok (.bipush (-5), 2) := by decide +kernel
theorem dX0_masterThatSends_20 : decode cX0_masterThatSends 20 = .ok (.if_icmp .eq 5, 3) := by decide +kernel
theorem dX0_masterThatSends_23 : decode cX0_masterThatSends 23 = .ok (.iload_n 1, 1) := by decide +kernel
theorem dX0_masterThatSends_24 : decode cX0_masterThatSends 24 = .ok (.ireturn, 1) := by decide +kernel
theorem dX0_masterThatSends_25 : decode cX0_masterThatSends 25 = .ok (.iconst 0, 1) := by decide +kernel
theorem dX0_masterThatSends_26 : decode cX0_masterThatSends 26 = .ok (.istore_n 2, 1) := by decide +kernel
theorem dX0_masterThatSends_27 : decode cX0_masterThatSends 27 = .ok (.iload_n 2, 1) := by decide +kernel
theorem dX0_masterThatSends_28 : decode cX0_masterThatSends 28 = .ok (.iconst 4, 1) := by decide +kernel
theorem dX0_masterThatSends_29 : decode cX0_masterThatSends 29 = .ok (.if_icmp .ge 41, 3) := by decide +kernel
theorem dX0_masterThatSends_32 : decode cX0_masterThatSends 32 = .ok (.aload_n 0, 1) := by decide +kernel
theorem dX0_masterThatSends_33 : decode cX0_masterThatSends 33 = .ok (.getfield 65, 3) := by decide +kernel
theorem dX0_masterThatSends_36 : decode cX0_masterThatSends 36 = .ok (.iload_n 2, 1) := by decide +kernel
theorem dX0_masterThatSends_37 : decode cX0_masterThatSends 37 = .ok (.iadd, 1) := by decide +kernel
theorem dX0_masterThatSends_38 : decode cX0_masterThatSends 38 = .ok (.iconst 4, 1) := by decide +kernel
theorem dX0_masterThatSends_39 : decode cX0_masterThatSends 39 = .ok (.irem, 1) := by decide +kernel
theorem dX0_masterThatSends_40 : decode cX0_masterThatSends 40 = .ok (.istore_n 3, 1) := by decide +kernel
theorem dX0_masterThatSends_41 : decode cX0_masterThatSends 41 = .ok (.aload_n 0, 1) := by decide +kernel
theorem dX0_masterThatSends_42 : decode cX0_masterThatSends 42 = .ok (.iload_n 3, 1) := by decide +kernel
theorem dX0_masterThatSends_43 : decode cX0_masterThatSends 43 = .ok (.invokevirtual 90, 3) := by decide +kernel
theorem dX0_masterThatSends_46 : decode cX0_masterThatSends 46 = .ok (.astore 4, 2) := by decide +kernel
theorem dX0_masterThatSends_48 : decode cX0_masterThatSends 48 = .ok (.aload 4, 2) := by decide +kernel
theorem dX0_masterThatSends_50 : decode cX0_masterThatSends 50 = .ok (.ifnull 14, 3) := by decide +kernel
theorem dX0_masterThatSends_53 : decode cX0_masterThatSends 53 = .ok (.aload_n 0, 1) := by decide +kernel
theorem dX0_masterThatSends_54 : decode cX0_masterThatSends 54 = .ok (.aload 4, 2) := by decide +kernel
theorem dX0_masterThatSends_56 : decode cX0_masterThatSends 56 = .ok (.invokevirtual 198, 3) := by decide +kernel
theorem dX0_masterThatSends_59 : decode cX0_masterThatSends 59 = .ok (.ifCond .eq 5, 3) := by decide +kernel
theorem dX0_masterThatSends_62 : decode cX0_masterThatSends 62 = .ok (.iload_n 3, 1) := by decide +kernel
theorem dX0_masterThatSends_63 : decode cX0_masterThatSends 63 = .ok (.ireturn, 1) := by decide +kernel
theorem dX0_masterThatSends_64 : decode cX0_masterThatSends 64 = .ok (.iinc 2 1, 3) := by decide +kernel
theorem dX0_masterThatSends_67 : decode cX0_masterThatSends 67 = .ok (.goto (-40), 3) := by decide +kernel
theorem dX0_masterThatSends_70 : decode cX0_masterThatSends 70 = .ok (.bipush (-5), 2) := by decide +kernel
theorem dX0_masterThatSends_72 : decode cX0_masterThatSends 72 = .ok (.ireturn, 1) := by decide +kernel
theorem dX0_masterThatWaitedTooLong_0 : decode cX0_masterThatWaitedTooLong 0 = .ok (.bipush (-5), 2) := by decide +kernel
theorem dX0_masterThatWaitedTooLong_2 : decode cX0_masterThatWaitedTooLong 2 = .ok (.istore_n 1, 1) := by decide +kernel
theorem dX0_masterThatWaitedTooLong_3 : decode cX0_masterThatWaitedTooLong 3 = .ok (.iconst 0, 1) := by decide +kernel
theorem dX0_masterThatWaitedTooLong_4 : decode cX0_masterThatWaitedTooLong 4 = .ok (.istore_n 2, 1) := by decide +kernel
theorem dX0_masterThatWaitedTooLong_5 : decode cX0_masterThatWaitedTooLong 5 = .ok (.iconst 0, 1) := by decide +kernel
theorem dX0_masterThatWaitedTooLong_6 : decode cX0_masterThatWaitedTooLong 6 = .ok (.istore_n 3, 1) := by decide +kernel
theorem dX0_masterThatWaitedTooLong_7 : decode cX0_masterThatWaitedTooLong 7 = .ok (.iload_n 3, 1) := by decide +kernel
theorem dX0_masterThatWaitedTooLong_8 : decode cX0_masterThatWaitedTooLong 8 = .ok (.iconst 4, 1) := by decide +kernel
theorem dX0_masterThatWaitedTooLong_9 : decode cX0_masterThatWaitedTooLong 9 = .ok (.if_icmp .ge 62, 3) := by decide +kernel
theorem dX0_masterThatWaitedTooLong_12 : decode cX0_masterThatWaitedTooLong 12 = .ok (.aload_n 0, 1) := by decide +kernel
theorem dX0_masterThatWaitedTooLong_13 : decode cX0_masterThatWaitedTooLong 13 = .ok (.iload_n 3, 1) := by decide +kernel
theorem dX0_masterThatWaitedTooLong_14 : decode cX0_masterThatWaitedTooLong 14 = .ok (.invokevirtual 90, 3) := by decide +kernel
theorem dX0_masterThatWaitedTooLong_17 : decode cX0_masterThatWaitedTooLong 17 = .ok (.astore 4, 2) := by decide +kernel
theorem dX0_masterThatWaitedTooLong_19 : decode cX0_masterThatWaitedTooLong 19 = .ok (.aload 4, 2) := by decide +kernel
theorem dX0_masterThatWaitedTooLong_21 : decode cX0_masterThatWaitedTooLong 21 = .ok (.ifnull 44, 3) := by decide +kernel
theorem dX0_masterThatWaitedTooLong_24 : decode cX0_masterThatWaitedTooLong 24 = .ok (.aload_n 0, 1) := by decide +kernel
theorem dX0_masterThatWaitedTooLong_25 : decode cX0_masterThatWaitedTooLong 25 = .ok (.aload 4, 2) := by decide +kernel
theorem dX0_masterThatWaitedTooLong_27 : decode cX0_masterThatWaitedTooLong 27 = .ok (.invokevirtual 198, 3) := by decide +kernel
theorem dX0_masterThatWaitedTooLong_30 : decode cX0_masterThatWaitedTooLong 30 = .ok (.ifCond .eq 35, 3) := by decide +kernel
theorem dX0_masterThatWaitedTooLong_33 : decode cX0_masterThatWaitedTooLong 33 = .ok (.aload_n 0, 1) := by decide +kernel
theorem dX0_masterThatWaitedTooLong_34 : decode cX0_masterThatWaitedTooLong 34 = .ok (.aload 4, 2) := by decide +kernel
theorem dX0_masterThatWaitedTooLong_36 : decode cX0_masterThatWaitedTooLong 36 = .ok (.invokevirtual 202, 3) := by decide +kernel
theorem dX0_masterThatWaitedTooLong_39 : decode cX0_masterThatWaitedTooLong 39 = .ok (.ifCond .eq 26, 3) := by decide +kernel
theorem dX0_masterThatWaitedTooLong_42 : decode cX0_masterThatWaitedTooLong 42 = .ok (.iload_n 1, 1) := by decide +kernel
theorem dX0_masterThatWaitedTooLong_43 : decode cX0_masterThatWaitedTooLong 43 = .ok (.bipush (-5), 2) := by decide +kernel
theorem dX0_masterThatWaitedTooLong_45 : decode cX0_masterThatWaitedTooLong 45 = .ok (.if_icmp .eq 12, 3) := by decide +kernel
theorem dX0_masterThatWaitedTooLong_48 : decode cX0_masterThatWaitedTooLong 48 = .ok (.aload 4, 2) := by decide +kernel
theorem dX0_masterThatWaitedTooLong_50 : decode cX0_masterThatWaitedTooLong 50 = .ok (.getfield 118, 3) := by decide +kernel
theorem dX0_masterThatWaitedTooLong_53 : decode cX0_masterThatWaitedTooLong 53 = .ok (.iload_n 2, 1) := by decide +kernel
theorem dX0_masterThatWaitedTooLong_54 : decode cX0_masterThatWaitedTooLong 54 = .ok (.if_icmp .le 11, 3) := by decide +kernel
theorem dX0_masterThatWaitedTooLong_57 : decode cX0_masterThatWaitedTooLong 57 = .ok (.iload_n 3, 1) := by decide +kernel
theorem dX0_masterThatWaitedTooLong_58 : decode cX0_masterThatWaitedTooLong 58 = .ok (.istore_n 1, 1) := by decide +kernel
theorem dX0_masterThatWaitedTooLong_59 : decode cX0_masterThatWaitedTooLong 59 = .ok (.aload 4, 2) := by decide +kernel
theorem dX0_masterThatWaitedTooLong_61 : decode cX0_masterThatWaitedTooLong 61 = .ok (.getfield 118, 3) := by decide +kernel
theorem dX0_masterThatWaitedTooLong_64 : decode cX0_masterThatWaitedTooLong 64 = .ok (.istore_n 2, 1) := by decide +kernel
theorem dX0_masterThatWaitedTooLong_65 : decode cX0_masterThatWaitedTooLong 65 = .ok (.iinc 3 1, 3) := by decide +kernel
theorem dX0_masterThatWaitedTooLong_68 : decode cX0_masterThatWaitedTooLong 68 = .ok (.goto (-61), 3) := by decide +kernel
theorem dX0_masterThatWaitedTooLong_71 : decode cX0_masterThatWaitedTooLong 71 = .ok (.iload_n 1, 1) := by decide +kernel
theorem dX0_masterThatWaitedTooLong_72 : decode cX0_masterThatWaitedTooLong 72 = .ok (.ireturn, 1) := by decide +kernel
theorem dX0_maySend_0 : decode cX0_maySend 0 = .ok (.aload_n 1, 1) := by decide +kernel
theorem dX0_maySend_1 : decode cX0_maySend 1 = .ok (.getfield 98, 3) := by decide +kernel
theorem dX0_maySend_4 : decode cX0_maySend 4 = .ok (.getfield 108, 3) := by decide +kernel
theorem dX0_maySend_7 : decode cX0_maySend 7 = .ok (.ifCond .le 29, 3) := by decide +kernel
theorem dX0_maySend_10 : decode cX0_maySend 10 = .ok (.aload_n 0, 1) := by decide +kernel
theorem dX0_maySend_11 : decode cX0_maySend 11 = .ok (.getfield 62, 3) := by decide +kernel
theorem dX0_maySend_14 : decode cX0_maySend 14 = .ok (.aload_n 1, 1) := by decide +kernel
theorem dX0_maySend_15 : decode cX0_maySend 15 = .ok (.getfield 205, 3) := by decide +kernel
theorem dX0_maySend_18 : decode cX0_maySend 18 = .ok (.if_icmp .lt 18, 3) := by decide +kernel
theorem dX0_maySend_21 : decode cX0_maySend 21 = .ok (.aload_n 1, 1) := by decide +kernel
theorem dX0_maySend_22 : decode cX0_maySend 22 = .ok (.getfield 208, 3) := by decide +kernel
theorem dX0_maySend_25 : decode cX0_maySend 25 = .ok (.aload_n 1, 1) := by decide +kernel
theorem dX0_maySend_26 : decode cX0_maySend 26 = .ok (.getfield 211, 3) := by decide +kernel
theorem dX0_maySend_29 : decode cX0_maySend 29 = .ok (.if_icmp .ge 7, 3) := by decide +kernel
theorem dX0_maySend_32 : decode cX0_maySend 32 = .ok (.iconst 1, 1) := by decide +kernel
theorem dX0_maySend_33 : decode cX0_maySend 33 = .ok (.goto 4, 3) := by decide +kernel
theorem dX0_maySend_36 : decode cX0_maySend 36 = .ok (.iconst 0, 1) := by decide +kernel
theorem dX0_maySend_37 : decode cX0_maySend 37 = .ok (.ireturn, 1) := by decide +kernel
theorem dX0_sendQuestionOf_0 : decode cX0_sendQuestionOf 0 = .ok (.aload_n 0, 1) := by decide +kernel
theorem dX0_sendQuestionOf_1 : decode cX0_sendQuestionOf 1 = .ok (.iload_n 1, 1) := by decide +kernel
theorem dX0_sendQuestionOf_2 : decode cX0_sendQuestionOf 2 = .ok (.invokevirtual 90, 3) := by decide +kernel
theorem dX0_sendQuestionOf_5 : decode cX0_sendQuestionOf 5 = .ok (.astore_n 2, 1) := by decide +kernel
theorem dX0_sendQuestionOf_6 : decode cX0_sendQuestionOf 6 = .ok (.aload_n 2, 1) := by decide +kernel
theorem dX0_sendQuestionOf_7 : decode cX0_sendQuestionOf 7 = .ok (.ifnonnull 8, 3) := by decide +kernel
theorem dX0_sendQuestionOf_10 : decode cX0_sendQuestionOf 10 = .ok (.bipush (-5), 2) := by decide +kernel
theorem dX0_sendQuestionOf_12 : decode cX0_sendQuestionOf 12 = .ok (.goto 11, 3) := by decide +kernel
theorem dX0_sendQuestionOf_15 : decode cX0_sendQuestionOf 15 = .ok (.aload_n 2, 1) := by decide +kernel
theorem dX0_sendQuestionOf_16 : decode cX0_sendQuestionOf 16 = .ok (.getfield 98, 3) := by decide +kernel
theorem dX0_sendQuestionOf_19 : decode cX0_sendQuestionOf 19 = .ok (.iconst 0, 1) := by decide +kernel
theorem dX0_sendQuestionOf_20 : decode cX0_sendQuestionOf 20 = .ok (.invokevirtual 111, 3) := by decide +kernel
theorem dX0_sendQuestionOf_23 : decode cX0_sendQuestionOf 23 = .ok (.istore_n 3, 1) := by decide +kernel
theorem dX0_sendQuestionOf_24 : decode cX0_sendQuestionOf 24 = .ok (.aload_n 0, 1) := by decide +kernel
theorem dX0_sendQuestionOf_25 : decode cX0_sendQuestionOf 25 = .ok (.iload_n 3, 1) := by decide +kernel
theorem dX0_sendQuestionOf_26 : decode cX0_sendQuestionOf 26 = .ok (.invokevirtual 121, 3) := by decide +kernel
theorem dX0_sendQuestionOf_29 : decode cX0_sendQuestionOf 29 = .ok (.astore 4, 2) := by decide +kernel
theorem dX0_sendQuestionOf_31 : decode cX0_sendQuestionOf 31 = .ok (.aload 4, 2) := by decide +kernel
theorem dX0_sendQuestionOf_33 : decode cX0_sendQuestionOf 33 = .ok (.ifnonnull 7, 3) := by decide +kernel
theorem dX0_sendQuestionOf_36 : decode cX0_sendQuestionOf 36 = .ok (.aconst_null, 1) := by decide +kernel
theorem dX0_sendQuestionOf_37 : decode cX0_sendQuestionOf 37 = .ok (.goto 12, 3) := by decide +kernel
theorem dX0_sendQuestionOf_40 : decode cX0_sendQuestionOf 40 = .ok (.aload_n 0, 1) := by decide +kernel
theorem dX0_sendQuestionOf_41 : decode cX0_sendQuestionOf 41 = .ok (.aload 4, 2) := by decide +kernel
theorem dX0_sendQuestionOf_43 : decode cX0_sendQuestionOf 43 = .ok (.getfield 214, 3) := by decide +kernel
theorem dX0_sendQuestionOf_46 : decode cX0_sendQuestionOf 46 = .ok (.invokevirtual 176, 3) := by decide +kernel
theorem dX0_sendQuestionOf_49 : decode cX0_sendQuestionOf 49 = .ok (.astore 5, 2) := by decide +kernel
theorem dX0_sendQuestionOf_51 : decode cX0_sendQuestionOf 51 = .ok (.aload 5, 2) := by decide +kernel
theorem dX0_sendQuestionOf_53 : decode cX0_sendQuestionOf 53 = .ok (.ifnonnull 6, 3) := by decide +kernel
theorem dX0_sendQuestionOf_56 : decode cX0_sendQuestionOf 56 = .ok (.bipush (-5), 2) := by decide +kernel
theorem dX0_sendQuestionOf_58 : decode cX0_sendQuestionOf 58 = .ok (.ireturn, 1) := by decide +kernel
theorem dX0_sendQuestionOf_59 : decode cX0_sendQuestionOf 59 = .ok (.aload_n 0, 1) := by decide +kernel
theorem dX0_sendQuestionOf_60 : decode cX0_sendQuestionOf 60 = .ok (.iload_n 1, 1) := by decide +kernel
theorem dX0_sendQuestionOf_61 : decode cX0_sendQuestionOf 61 = .ok (.iconst 1, 1) := by decide +kernel
theorem dX0_sendQuestionOf_62 : decode cX0_sendQuestionOf 62 = .ok (.iadd, 1) := by decide +kernel
theorem dX0_sendQuestionOf_63 : decode cX0_sendQuestionOf 63 = .ok (.iconst 4, 1) := by decide +kernel
theorem dX0_sendQuestionOf_64 : decode cX0_sendQuestionOf 64 = .ok (.irem, 1) := by decide +kernel
theorem dX0_sendQuestionOf_65 : decode cX0_sendQuestionOf 65 = .ok (.putfield 65, 3) := by decide +kernel
theorem dX0_sendQuestionOf_68 : decode cX0_sendQuestionOf 68 = .ok (.aload 5, 2) := by decide +kernel
theorem dX0_sendQuestionOf_70 : decode cX0_sendQuestionOf 70 = .ok (.invokevirtual 217, 3) := by decide +kernel
theorem dX0_sendQuestionOf_73 : decode cX0_sendQuestionOf 73 = .ok (.ifCond .eq 13, 3) := by decide +kernel
theorem dX0_sendQuestionOf_76 : decode cX0_sendQuestionOf 76 = .ok (.aload_n 0, 1) := by decide +kernel
theorem dX0_sendQuestionOf_77 : decode cX0_sendQuestionOf 77 = .ok (.aload_n 2, 1) := by decide +kernel
theorem dX0_sendQuestionOf_78 : decode cX0_sendQuestionOf 78 = .ok (.aload 4, 2) := by decide +kernel
theorem dX0_sendQuestionOf_80 : decode cX0_sendQuestionOf 80 = .ok (.invokevirtual 220, 3) := by decide +kernel
theorem dX0_sendQuestionOf_83 : decode cX0_sendQuestionOf 83 = .ok (.goto 11, 3) := by decide +kernel
theorem dX0_sendQuestionOf_86 : decode cX0_sendQuestionOf 86 = .ok (.aload_n 0, 1) := by decide +kernel
theorem dX0_sendQuestionOf_87 : decode cX0_sendQuestionOf 87 = .ok (.aload_n 2, 1) := by decide +kernel
theorem dX0_sendQuestionOf_88 : decode cX0_sendQuestionOf 88 = .ok (.aload 5, 2) := by decide +kernel
theorem dX0_sendQuestionOf_90 : decode cX0_sendQuestionOf 90 = .ok (.iload_n 3, 1) := by decide +kernel
theorem dX0_sendQuestionOf_91 : decode cX0_sendQuestionOf 91 = .ok (.invokevirtual 224, 3) := by decide +kernel
theorem dX0_sendQuestionOf_94 : decode cX0_sendQuestionOf 94 = .ok (.iload_n 3, 1) := by decide +kernel
theorem dX0_sendQuestionOf_95 : decode cX0_sendQuestionOf 95 = .ok (.ireturn, 1) := by decide +kernel
theorem dX0_refuse_0 : decode cX0_refuse 0 = .ok (.aload_n 2, 1) := by decide +kernel
theorem dX0_refuse_1 : decode cX0_refuse 1 = .ok (.dup, 1) := by decide +kernel
theorem dX0_refuse_2 : decode cX0_refuse 2 = .ok (.getfield 228, 3) := by decide +kernel
theorem dX0_refuse_5 : decode cX0_refuse 5 = .ok (.iconst 1, 1) := by decide +kernel
theorem dX0_refuse_6 : decode cX0_refuse 6 = .ok (.iadd, 1) := by decide +kernel
theorem dX0_refuse_7 : decode cX0_refuse 7 = .ok (.putfield 228, 3) := by decide +kernel
theorem dX0_refuse_10 : decode cX0_refuse 10 = .ok (.aload_n 1, 1) := by decide +kernel
theorem dX0_refuse_11 : decode cX0_refuse 11 = .ok (.dup, 1) := by decide +kernel
theorem dX0_refuse_12 : decode cX0_refuse 12 = .ok (.getfield 231, 3) := by decide +kernel
theorem dX0_refuse_15 : decode cX0_refuse 15 = .ok (.iconst 1, 1) := by decide +kernel
theorem dX0_refuse_16 : decode cX0_refuse 16 = .ok (.iadd, 1) := by decide +kernel
theorem dX0_refuse_17 : decode cX0_refuse 17 = .ok (.putfield 231, 3) := by decide +kernel
theorem dX0_refuse_20 : decode cX0_refuse 20 = .ok (.aload_n 1, 1) := by decide +kernel
theorem dX0_refuse_21 : decode cX0_refuse 21 = .ok (.getfield 231, 3) := by decide +kernel
theorem dX0_refuse_24 : decode cX0_refuse 24 = .ok (.iconst 4, 1) := by decide +kernel
theorem dX0_refuse_25 : decode cX0_refuse 25 = .ok (.if_icmp .lt 8, 3) := by decide +kernel
theorem dX0_refuse_28 : decode cX0_refuse 28 = .ok (.bipush 16, 2) := by decide +kernel
theorem dX0_refuse_30 : decode cX0_refuse 30 = .ok (.goto 9, 3) := by decide +kernel
theorem dX0_refuse_33 : decode cX0_refuse 33 = .ok (.iconst 1, 1) := by decide +kernel
theorem dX0_refuse_34 : decode cX0_refuse 34 = .ok (.aload_n 1, 1) := by decide +kernel
theorem dX0_refuse_35 : decode cX0_refuse 35 = .ok (.getfield 231, 3) := by decide +kernel
theorem dX0_refuse_38 : decode cX0_refuse 38 = .ok (.ishl, 1) := by decide +kernel
theorem dX0_refuse_39 : decode cX0_refuse 39 = .ok (.istore_n 3, 1) := by decide +kernel
theorem dX0_refuse_40 : decode cX0_refuse 40 = .ok (.aload_n 1, 1) := by decide +kernel
theorem dX0_refuse_41 : decode cX0_refuse 41 = .ok (.aload_n 0, 1) := by decide +kernel
theorem dX0_refuse_42 : decode cX0_refuse 42 = .ok (.getfield 62, 3) := by decide +kernel
theorem dX0_refuse_45 : decode cX0_refuse 45 = .ok (.iconst 1, 1) := by decide +kernel
theorem dX0_refuse_46 : decode cX0_refuse 46 = .ok (.iadd, 1) := by decide +kernel
theorem dX0_refuse_47 : decode cX0_refuse 47 = .ok (.iload_n 3, 1) := by decide +kernel
theorem dX0_refuse_48 : decode cX0_refuse 48 = .ok (.iadd, 1) := by decide +kernel
theorem dX0_refuse_49 : decode cX0_refuse 49 = .ok (.putfield 205, 3) := by decide +kernel
theorem dX0_refuse_52 : decode cX0_refuse 52 = .ok (.aload_n 0, 1) := by decide +kernel
theorem dX0_refuse_53 : decode cX0_refuse 53 = .ok (.dup, 1) := by decide +kernel
theorem dX0_refuse_54 : decode cX0_refuse 54 = .ok (.getfield 77, 3) := by decide +kernel
theorem dX0_refuse_57 : decode cX0_refuse 57 = .ok (.iconst 1, 1) := by decide +kernel
theorem dX0_refuse_58 : decode cX0_refuse 58 = .ok (.iadd, 1) := by decide +kernel
theorem dX0_refuse_59 : decode cX0_refuse 59 = .ok (.putfield 77, 3) := by decide +kernel
theorem dX0_refuse_62 : decode cX0_refuse 62 = .ok (.aload_n 0, 1) := by decide +kernel
theorem dX0_refuse_63 : decode cX0_refuse 63 = .ok (.iconst 2, 1) := by decide +kernel
theorem dX0_refuse_64 : decode cX0_refuse 64 = .ok (.putfield 36, 3) := by decide +kernel
theorem dX0_refuse_67 : decode cX0_refuse 67 = .ok (.return_, 1) := by decide +kernel
theorem dX0_letIn_0 : decode cX0_letIn 0 = .ok (.aload_n 0, 1) := by decide +kernel
theorem dX0_letIn_1 : decode cX0_letIn 1 = .ok (.iload_n 3, 1) := by decide +kernel
theorem dX0_letIn_2 : decode cX0_letIn 2 = .ok (.invokevirtual 121, 3) := by decide +kernel
theorem dX0_letIn_5 : decode cX0_letIn 5 = .ok (.astore 4, 2) := by decide +kernel
theorem dX0_letIn_7 : decode cX0_letIn 7 = .ok (.aload_n 0, 1) := by decide +kernel
theorem dX0_letIn_8 : decode cX0_letIn 8 = .ok (.invokevirtual 192, 3) := by decide +kernel
theorem dX0_letIn_11 : decode cX0_letIn 11 = .ok (.istore 5, 2) := by decide +kernel
theorem dX0_letIn_13 : decode cX0_letIn 13 = .ok (.aload 4, 2) := by decide +kernel
theorem dX0_letIn_15 : decode cX0_letIn 15 = .ok (.ifnull 13, 3) := by decide +kernel
theorem dX0_letIn_18 : decode cX0_letIn 18 = .ok (.iload 5, 2) := by decide +kernel
theorem dX0_letIn_20 : decode cX0_letIn 20 = .ok (.bipush 8, 2) := by decide +kernel
theorem dX0_letIn_22 : decode cX0_letIn 22 = .ok (.invokestatic 86, 3) := by decide +kernel
theorem dX0_letIn_25 : decode cX0_letIn 25 = .ok (.ifCond .ne 4, 3) := by decide +kernel
theorem dX0_letIn_28 : decode cX0_letIn 28 = .ok (.return_, 1) := by decide +kernel
theorem dX0_letIn_29 : decode cX0_letIn 29 = .ok (.aload_n 1, 1) := by decide +kernel
theorem dX0_letIn_30 : decode cX0_letIn 30 = .ok (.getfield 98, 3) := by decide +kernel
theorem dX0_letIn_33 : decode cX0_letIn 33 = .ok (.iconst 0, 1) := by decide +kernel
theorem dX0_letIn_34 : decode cX0_letIn 34 = .ok (.invokevirtual 115, 3) := by decide +kernel
theorem dX0_letIn_37 : decode cX0_letIn 37 = .ok (.aload_n 1, 1) := by decide +kernel
theorem dX0_letIn_38 : decode cX0_letIn 38 = .ok (.iconst 0, 1) := by decide +kernel
theorem dX0_letIn_39 : decode cX0_letIn 39 = .ok (.putfield 231, 3) := by decide +kernel
theorem dX0_letIn_42 : decode cX0_letIn 42 = .ok (.aload_n 1, 1) := by decide +kernel
theorem dX0_letIn_43 : decode cX0_letIn 43 = .ok (.dup, 1) := by decide +kernel
theorem dX0_letIn_44 : decode cX0_letIn 44 = .ok (.getfield 208, 3) := by decide +kernel
theorem dX0_letIn_47 : decode cX0_letIn 47 = .ok (.iconst 1, 1) := by decide +kernel
theorem dX0_letIn_48 : decode cX0_letIn 48 = .ok (.iadd, 1) := by decide +kernel
theorem dX0_letIn_49 : decode cX0_letIn 49 = .ok (.putfield 208, 3) := by decide +kernel
theorem dX0_letIn_52 : decode cX0_letIn 52 = .ok (.aload_n 0, 1) := by decide +kernel
theorem dX0_letIn_53 : decode cX0_letIn 53 = .ok (.getfield 15, 3) := by decide +kernel
theorem dX0_letIn_56 : decode cX0_letIn 56 = .ok (.iload 5, 2) := by decide +kernel
theorem dX0_letIn_58 : decode cX0_letIn 58 = .ok (.iload_n 3, 1) := by decide +kernel
theorem dX0_letIn_59 : decode cX0_letIn 59 = .ok (.iastore, 1) := by decide +kernel
theorem dX0_letIn_60 : decode cX0_letIn 60 = .ok (.aload 4, 2) := by decide +kernel
theorem dX0_letIn_62 : decode cX0_letIn 62 = .ok (.iload 5, 2) := by decide +kernel
theorem dX0_letIn_64 : decode cX0_letIn 64 = .ok (.putfield 232, 3) := by decide +kernel
theorem dX0_letIn_67 : decode cX0_letIn 67 = .ok (.aload 4, 2) := by decide +kernel
theorem dX0_letIn_69 : decode cX0_letIn 69 = .ok (.iconst 1, 1) := by decide +kernel
theorem dX0_letIn_70 : decode cX0_letIn 70 = .ok (.putfield 125, 3) := by decide +kernel
theorem dX0_letIn_73 : decode cX0_letIn 73 = .ok (.aload 4, 2) := by decide +kernel
theorem dX0_letIn_75 : decode cX0_letIn 75 = .ok (.aload_n 0, 1) := by decide +kernel
theorem dX0_letIn_76 : decode cX0_letIn 76 = .ok (.getfield 62, 3) := by decide +kernel
theorem dX0_letIn_79 : decode cX0_letIn 79 = .ok (.aload_n 2, 1) := by decide +kernel
theorem dX0_letIn_80 : decode cX0_letIn 80 = .ok (.getfield 184, 3) := by decide +kernel
theorem dX0_letIn_83 : decode cX0_letIn 83 = .ok (.iconst 1, 1) := by decide +kernel
theorem dX0_letIn_84 : decode cX0_letIn 84 = .ok (.iaload, 1) := by decide +kernel
theorem dX0_letIn_85 : decode cX0_letIn 85 = .ok (.iadd, 1) := by decide +kernel
theorem dX0_letIn_86 : decode cX0_letIn 86 = .ok (.aload 4, 2) := by decide +kernel
theorem dX0_letIn_88 : decode cX0_letIn 88 = .ok (.getfield 147, 3) := by decide +kernel
theorem dX0_letIn_91 : decode cX0_letIn 91 = .ok (.iconst 4, 1) := by decide +kernel
theorem dX0_letIn_92 : decode cX0_letIn 92 = .ok (.irem, 1) := by decide +kernel
theorem dX0_letIn_93 : decode cX0_letIn 93 = .ok (.iadd, 1) := by decide +kernel
theorem dX0_letIn_94 : decode cX0_letIn 94 = .ok (.putfield 144, 3) := by decide +kernel
theorem dX0_letIn_97 : decode cX0_letIn 97 = .ok (.aload_n 2, 1) := by decide +kernel
theorem dX0_letIn_98 : decode cX0_letIn 98 = .ok (.getfield 128, 3) := by decide +kernel
theorem dX0_letIn_101 : decode cX0_letIn 101 = .ok (.iload_n 3, 1) := by decide +kernel
theorem dX0_letIn_102 : decode cX0_letIn 102 = .ok (.invokevirtual 102, 3) := by decide +kernel
theorem dX0_letIn_105 : decode cX0_letIn 105 = .ok (.aload_n 0, 1) := by decide +kernel
theorem dX0_letIn_106 : decode cX0_letIn 106 = .ok (.dup, 1) := by decide +kernel
theorem dX0_letIn_107 : decode cX0_letIn 107 = .ok (.getfield 74, 3) := by decide +kernel
theorem dX0_letIn_110 : decode cX0_letIn 110 = .ok (.iconst 1, 1) := by decide +kernel
theorem dX0_letIn_111 : decode cX0_letIn 111 = .ok (.iadd, 1) := by decide +kernel
theorem dX0_letIn_112 : decode cX0_letIn 112 = .ok (.putfield 74, 3) := by decide +kernel
theorem dX0_letIn_115 : decode cX0_letIn 115 = .ok (.aload_n 0, 1) := by decide +kernel
theorem dX0_letIn_116 : decode cX0_letIn 116 = .ok (.iconst 0, 1) := by decide +kernel
theorem dX0_letIn_117 : decode cX0_letIn 117 = .ok (.putfield 36, 3) := by decide +kernel
theorem dX0_letIn_120 : decode cX0_letIn 120 = .ok (.return_, 1) := by decide +kernel
theorem dX0_sendAnswerOf_0 : decode cX0_sendAnswerOf 0 = .ok (.aload_n 0, 1) := by decide +kernel
theorem dX0_sendAnswerOf_1 : decode cX0_sendAnswerOf 1 = .ok (.iload_n 1, 1) := by decide +kernel
theorem dX0_sendAnswerOf_2 : decode cX0_sendAnswerOf 2 = .ok (.invokevirtual 176, 3) := by decide +kernel
theorem dX0_sendAnswerOf_5 : decode cX0_sendAnswerOf 5 = .ok (.astore_n 2, 1) := by decide +kernel
theorem dX0_sendAnswerOf_6 : decode cX0_sendAnswerOf 6 = .ok (.aload_n 2, 1) := by decide +kernel
theorem dX0_sendAnswerOf_7 : decode cX0_sendAnswerOf 7 = .ok (.ifnonnull 8, 3) := by decide +kernel
theorem dX0_sendAnswerOf_10 : decode cX0_sendAnswerOf 10 = .ok (.bipush (-5), 2) := by decide +kernel
theorem dX0_sendAnswerOf_12 : decode cX0_sendAnswerOf 12 = .ok (.goto 8, 3) := by decide +kernel
theorem dX0_sendAnswerOf_15 : decode cX0_sendAnswerOf 15 = .ok (.aload_n 0, 1) := by decide +kernel
theorem dX0_sendAnswerOf_16 : decode cX0_sendAnswerOf 16 = .ok (.aload_n 2, 1) := by decide +kernel
theorem dX0_sendAnswerOf_17 : decode cX0_sendAnswerOf 17 = .ok (.invokevirtual 180, 3) := by decide +kernel
theorem dX0_sendAnswerOf_20 : decode cX0_sendAnswerOf 20 = .ok (.istore_n 3, 1) := by decide +kernel
theorem dX0_sendAnswerOf_21 : decode cX0_sendAnswerOf 21 = .ok (.aload_n 2, 1) := by decide +kernel
theorem dX0_sendAnswerOf_22 : decode cX0_sendAnswerOf 22 = .ok (.ifnonnull 8, 3) := by decide +kernel
theorem dX0_sendAnswerOf_25 : decode cX0_sendAnswerOf 25 = .ok (.bipush (-5), 2) := by decide +kernel
theorem dX0_sendAnswerOf_27 : decode cX0_sendAnswerOf 27 = .ok (.goto 11, 3) := by decide +kernel
theorem dX0_sendAnswerOf_30 : decode cX0_sendAnswerOf 30 = .ok (.aload_n 2, 1) := by decide +kernel
theorem dX0_sendAnswerOf_31 : decode cX0_sendAnswerOf 31 = .ok (.getfield 128, 3) := by decide +kernel
theorem dX0_sendAnswerOf_34 : decode cX0_sendAnswerOf 34 = .ok (.iload_n 3, 1) := by decide +kernel
theorem dX0_sendAnswerOf_35 : decode cX0_sendAnswerOf 35 = .ok (.invokevirtual 111, 3) := by decide +kernel
theorem dX0_sendAnswerOf_38 : decode cX0_sendAnswerOf 38 = .ok (.istore 4, 2) := by decide +kernel
theorem dX0_sendAnswerOf_40 : decode cX0_sendAnswerOf 40 = .ok (.aload_n 0, 1) := by decide +kernel
theorem dX0_sendAnswerOf_41 : decode cX0_sendAnswerOf 41 = .ok (.iload 4, 2) := by decide +kernel
theorem dX0_sendAnswerOf_43 : decode cX0_sendAnswerOf 43 = .ok (.invokevirtual 121, 3) := by decide +kernel
theorem dX0_sendAnswerOf_46 : decode cX0_sendAnswerOf 46 = .ok (.astore 5, 2) := by decide +kernel
theorem dX0_sendAnswerOf_48 : decode cX0_sendAnswerOf 48 = .ok (.aload 5, 2) := by decide +kernel
theorem dX0_sendAnswerOf_50 : decode cX0_sendAnswerOf 50 = .ok (.ifnonnull 6, 3) := by decide +kernel
theorem dX0_sendAnswerOf_53 : decode cX0_sendAnswerOf 53 = .ok (.bipush (-5), 2) := by decide +kernel
theorem dX0_sendAnswerOf_55 : decode cX0_sendAnswerOf 55 = .ok (.ireturn, 1) := by decide +kernel
theorem dX0_sendAnswerOf_56 : decode cX0_sendAnswerOf 56 = .ok (.aload_n 0, 1) := by decide +kernel
theorem dX0_sendAnswerOf_57 : decode cX0_sendAnswerOf 57 = .ok (.iload_n 1, 1) := by decide +kernel
theorem dX0_sendAnswerOf_58 : decode cX0_sendAnswerOf 58 = .ok (.iconst 1, 1) := by decide +kernel
theorem dX0_sendAnswerOf_59 : decode cX0_sendAnswerOf 59 = .ok (.iadd, 1) := by decide +kernel
theorem dX0_sendAnswerOf_60 : decode cX0_sendAnswerOf 60 = .ok (.iconst 4, 1) := by decide +kernel
theorem dX0_sendAnswerOf_61 : decode cX0_sendAnswerOf 61 = .ok (.irem, 1) := by decide +kernel
theorem dX0_sendAnswerOf_62 : decode cX0_sendAnswerOf 62 = .ok (.putfield 68, 3) := by decide +kernel
theorem dX0_sendAnswerOf_65 : decode cX0_sendAnswerOf 65 = .ok (.iload_n 3, 1) := by decide +kernel
theorem dX0_sendAnswerOf_66 : decode cX0_sendAnswerOf 66 = .ok (.ifCond .le 13, 3) := by decide +kernel
theorem dX0_sendAnswerOf_69 : decode cX0_sendAnswerOf 69 = .ok (.aload_n 0, 1) := by decide +kernel
theorem dX0_sendAnswerOf_70 : decode cX0_sendAnswerOf 70 = .ok (.dup, 1) := by decide +kernel
theorem dX0_sendAnswerOf_71 : decode cX0_sendAnswerOf 71 = .ok (.getfield 83, 3) := by decide +kernel
theorem dX0_sendAnswerOf_74 : decode cX0_sendAnswerOf 74 = .ok (.iconst 1, 1) := by decide +kernel
theorem dX0_sendAnswerOf_75 : decode cX0_sendAnswerOf 75 = .ok (.iadd, 1) := by decide +kernel
theorem dX0_sendAnswerOf_76 : decode cX0_sendAnswerOf 76 = .ok (.putfield 83, 3) := by decide +kernel
theorem dX0_sendAnswerOf_79 : decode cX0_sendAnswerOf 79 = .ok (.aload_n 2, 1) := by decide +kernel
theorem dX0_sendAnswerOf_80 : decode cX0_sendAnswerOf 80 = .ok (.getfield 128, 3) := by decide +kernel
theorem dX0_sendAnswerOf_83 : decode cX0_sendAnswerOf 83 = .ok (.iload_n 3, 1) := by decide +kernel
theorem dX0_sendAnswerOf_84 : decode cX0_sendAnswerOf 84 = .ok (.invokevirtual 115, 3) := by decide +kernel
theorem dX0_sendAnswerOf_87 : decode cX0_sendAnswerOf 87 = .ok (.aload_n 0, 1) := by decide +kernel
theorem dX0_sendAnswerOf_88 : decode cX0_sendAnswerOf 88 = .ok (.aload 5, 2) := by decide +kernel
theorem dX0_sendAnswerOf_90 : decode cX0_sendAnswerOf 90 = .ok (.invokevirtual 235, 3) := by decide +kernel
theorem dX0_sendAnswerOf_93 : decode cX0_sendAnswerOf 93 = .ok (.aload 5, 2) := by decide +kernel
theorem dX0_sendAnswerOf_95 : decode cX0_sendAnswerOf 95 = .ok (.iconst 3, 1) := by decide +kernel
theorem dX0_sendAnswerOf_96 : decode cX0_sendAnswerOf 96 = .ok (.putfield 125, 3) := by decide +kernel
theorem dX0_sendAnswerOf_99 : decode cX0_sendAnswerOf 99 = .ok (.aload 5, 2) := by decide +kernel
theorem dX0_sendAnswerOf_101 : decode cX0_sendAnswerOf 101 = .ok (.aload_n 0, 1) := by decide +kernel
theorem dX0_sendAnswerOf_102 : decode cX0_sendAnswerOf 102 = .ok (.getfield 62, 3) := by decide +kernel
theorem dX0_sendAnswerOf_105 : decode cX0_sendAnswerOf 105 = .ok (.aload 5, 2) := by decide +kernel
theorem dX0_sendAnswerOf_107 : decode cX0_sendAnswerOf 107 = .ok (.getfield 238, 3) := by decide +kernel
theorem dX0_sendAnswerOf_110 : decode cX0_sendAnswerOf 110 = .ok (.isub, 1) := by decide +kernel
theorem dX0_sendAnswerOf_111 : decode cX0_sendAnswerOf 111 = .ok (.putfield 241, 3) := by decide +kernel
theorem dX0_sendAnswerOf_114 : decode cX0_sendAnswerOf 114 = .ok (.aload_n 0, 1) := by decide +kernel
theorem dX0_sendAnswerOf_115 : decode cX0_sendAnswerOf 115 = .ok (.aload_n 0, 1) := by decide +kernel
theorem dX0_sendAnswerOf_116 : decode cX0_sendAnswerOf 116 = .ok (.aload 5, 2) := by decide +kernel
theorem dX0_sendAnswerOf_118 : decode cX0_sendAnswerOf 118 = .ok (.getfield 138, 3) := by decide +kernel
theorem dX0_sendAnswerOf_121 : decode cX0_sendAnswerOf 121 = .ok (.invokevirtual 90, 3) := by decide +kernel
theorem dX0_sendAnswerOf_124 : decode cX0_sendAnswerOf 124 = .ok (.aload 5, 2) := by decide +kernel
theorem dX0_sendAnswerOf_126 : decode cX0_sendAnswerOf 126 = .ok (.getfield 241, 3) := by decide +kernel
theorem dX0_sendAnswerOf_129 : decode cX0_sendAnswerOf 129 = .ok (.invokevirtual 244, 3) := by decide +kernel
theorem dX0_sendAnswerOf_132 : decode cX0_sendAnswerOf 132 = .ok (.aload_n 0, 1) := by decide +kernel
theorem dX0_sendAnswerOf_133 : decode cX0_sendAnswerOf 133 = .ok (.dup, 1) := by decide +kernel
theorem dX0_sendAnswerOf_134 : decode cX0_sendAnswerOf 134 = .ok (.getfield 71, 3) := by decide +kernel
theorem dX0_sendAnswerOf_137 : decode cX0_sendAnswerOf 137 = .ok (.iconst 1, 1) := by decide +kernel
theorem dX0_sendAnswerOf_138 : decode cX0_sendAnswerOf 138 = .ok (.iadd, 1) := by decide +kernel
theorem dX0_sendAnswerOf_139 : decode cX0_sendAnswerOf 139 = .ok (.putfield 71, 3) := by decide +kernel
theorem dX0_sendAnswerOf_142 : decode cX0_sendAnswerOf 142 = .ok (.aload_n 0, 1) := by decide +kernel
theorem dX0_sendAnswerOf_143 : decode cX0_sendAnswerOf 143 = .ok (.iconst 1, 1) := by decide +kernel
theorem dX0_sendAnswerOf_144 : decode cX0_sendAnswerOf 144 = .ok (.putfield 36, 3) := by decide +kernel
theorem dX0_sendAnswerOf_147 : decode cX0_sendAnswerOf 147 = .ok (.iload 4, 2) := by decide +kernel
theorem dX0_sendAnswerOf_149 : decode cX0_sendAnswerOf 149 = .ok (.ireturn, 1) := by decide +kernel
theorem dX0_takeTagBack_0 : decode cX0_takeTagBack 0 = .ok (.aload_n 1, 1) := by decide +kernel
theorem dX0_takeTagBack_1 : decode cX0_takeTagBack 1 = .ok (.getfield 232, 3) := by decide +kernel
theorem dX0_takeTagBack_4 : decode cX0_takeTagBack 4 = .ok (.bipush 8, 2) := by decide +kernel
theorem dX0_takeTagBack_6 : decode cX0_takeTagBack 6 = .ok (.invokestatic 86, 3) := by decide +kernel
theorem dX0_takeTagBack_9 : decode cX0_takeTagBack 9 = .ok (.ifCond .eq 14, 3) := by decide +kernel
theorem dX0_takeTagBack_12 : decode cX0_takeTagBack 12 = .ok (.aload_n 0, 1) := by decide +kernel
theorem dX0_takeTagBack_13 : decode cX0_takeTagBack 13 = .ok (.getfield 15, 3) := by decide +kernel
theorem dX0_takeTagBack_16 : decode cX0_takeTagBack 16 = .ok (.aload_n 1, 1) := by decide +kernel
theorem dX0_takeTagBack_17 : decode cX0_takeTagBack 17 = .ok (.getfield 232, 3) := by decide +kernel
theorem dX0_takeTagBack_20 : decode cX0_takeTagBack 20 = .ok (.bipush (-5), 2) := by decide +kernel
theorem dX0_takeTagBack_22 : decode cX0_takeTagBack 22 = .ok (.iastore, 1) := by decide +kernel
theorem dX0_takeTagBack_23 : decode cX0_takeTagBack 23 = .ok (.aload_n 1, 1) := by decide +kernel
theorem dX0_takeTagBack_24 : decode cX0_takeTagBack 24 = .ok (.bipush (-5), 2) := by decide +kernel
theorem dX0_takeTagBack_26 : decode cX0_takeTagBack 26 = .ok (.putfield 232, 3) := by decide +kernel
theorem dX0_takeTagBack_29 : decode cX0_takeTagBack 29 = .ok (.return_, 1) := by decide +kernel
theorem dX0_noteAnswer_0 : decode cX0_noteAnswer 0 = .ok (.aload_n 1, 1) := by decide +kernel
theorem dX0_noteAnswer_1 : decode cX0_noteAnswer 1 = .ok (.ifnonnull 4, 3) := by decide +kernel
theorem dX0_noteAnswer_4 : decode cX0_noteAnswer 4 = .ok (.return_, 1) := by decide +kernel
theorem dX0_noteAnswer_5 : decode cX0_noteAnswer 5 = .ok (.aload_n 1, 1) := by decide +kernel
theorem dX0_noteAnswer_6 : decode cX0_noteAnswer 6 = .ok (.dup, 1) := by decide +kernel
theorem dX0_noteAnswer_7 : decode cX0_noteAnswer 7 = .ok (.getfield 208, 3) := by decide +kernel
theorem dX0_noteAnswer_10 : decode cX0_noteAnswer 10 = .ok (.iconst 1, 1) := by decide +kernel
theorem dX0_noteAnswer_11 : decode cX0_noteAnswer 11 = .ok (.isub, 1) := by decide +kernel
theorem dX0_noteAnswer_12 : decode cX0_noteAnswer 12 = .ok (.putfield 208, 3) := by decide +kernel
theorem dX0_noteAnswer_15 : decode cX0_noteAnswer 15 = .ok (.aload_n 1, 1) := by decide +kernel
theorem dX0_noteAnswer_16 : decode cX0_noteAnswer 16 = .ok (.dup, 1) := by decide +kernel
theorem dX0_noteAnswer_17 : decode cX0_noteAnswer 17 = .ok (.getfield 248, 3) := by decide +kernel
theorem dX0_noteAnswer_20 : decode cX0_noteAnswer 20 = .ok (.iconst 1, 1) := by decide +kernel
theorem dX0_noteAnswer_21 : decode cX0_noteAnswer 21 = .ok (.iadd, 1) := by decide +kernel
theorem dX0_noteAnswer_22 : decode cX0_noteAnswer 22 = .ok (.putfield 248, 3) := by decide +kernel
theorem dX0_noteAnswer_25 : decode cX0_noteAnswer 25 = .ok (.aload_n 1, 1) := by decide +kernel
theorem dX0_noteAnswer_26 : decode cX0_noteAnswer 26 = .ok (.aload_n 1, 1) := by decide +kernel
theorem dX0_noteAnswer_27 : decode cX0_noteAnswer 27 = .ok (.getfield 251, 3) := by decide +kernel
theorem dX0_noteAnswer_30 : decode cX0_noteAnswer 30 = .ok (.iload_n 2, 1) := by decide +kernel
theorem dX0_noteAnswer_31 : decode cX0_noteAnswer 31 = .ok (.invokestatic 254, 3) := by decide +kernel
theorem dX0_noteAnswer_34 : decode cX0_noteAnswer 34 = .ok (.putfield 251, 3) := by decide +kernel
theorem dX0_noteAnswer_37 : decode cX0_noteAnswer 37 = .ok (.return_, 1) := by decide +kernel
theorem dX0_countWaits_0 : decode cX0_countWaits 0 = .ok (.iconst 0, 1) := by decide +kernel
theorem dX0_countWaits_1 : decode cX0_countWaits 1 = .ok (.istore_n 2, 1) := by decide +kernel
theorem dX0_countWaits_2 : decode cX0_countWaits 2 = .ok (.iload_n 2, 1) := by decide +kernel
theorem dX0_countWaits_3 : decode cX0_countWaits 3 = .ok (.iconst 4, 1) := by decide +kernel
theorem dX0_countWaits_4 : decode cX0_countWaits 4 = .ok (.if_icmp .ge 49, 3) := by decide +kernel
theorem dX0_countWaits_7 : decode cX0_countWaits 7 = .ok (.aload_n 0, 1) := by decide +kernel
theorem dX0_countWaits_8 : decode cX0_countWaits 8 = .ok (.getfield 20, 3) := by decide +kernel
theorem dX0_countWaits_11 : decode cX0_countWaits 11 = .ok (.iload_n 2, 1) := by decide +kernel
theorem dX0_countWaits_12 : decode cX0_countWaits 12 = .ok (.aaload, 1) := by decide +kernel
theorem dX0_countWaits_13 : decode cX0_countWaits 13 = .ok (.astore_n 3, 1) := by decide +kernel
theorem dX0_countWaits_14 : decode cX0_countWaits 14 = .ok (.iload_n 2, 1) := by decide +kernel
theorem dX0_countWaits_15 : decode cX0_countWaits 15 = .ok (.iload_n 1, 1) := by decide +kernel
theorem dX0_countWaits_16 : decode cX0_countWaits 16 = .ok (.if_icmp .eq 13, 3) := by decide +kernel
theorem dX0_countWaits_19 : decode cX0_countWaits 19 = .ok (.aload_n 3, 1) := by decide +kernel
theorem dX0_countWaits_20 : decode cX0_countWaits 20 = .ok (.getfield 98, 3) := by decide +kernel
theorem dX0_countWaits_23 : decode cX0_countWaits 23 = .ok (.getfield 108, 3) := by decide +kernel
theorem dX0_countWaits_26 : decode cX0_countWaits 26 = .ok (.ifCond .ne 11, 3) := by decide +kernel
theorem dX0_countWaits_29 : decode cX0_countWaits 29 = .ok (.aload_n 3, 1) := by decide +kernel
theorem dX0_countWaits_30 : decode cX0_countWaits 30 = .ok (.iconst 0, 1) := by decide +kernel
theorem dX0_countWaits_31 : decode cX0_countWaits 31 = .ok (.putfield 118, 3) := by decide +kernel
theorem dX0_countWaits_34 : decode cX0_countWaits 34 = .ok (.goto 13, 3) := by decide +kernel
theorem dX0_countWaits_37 : decode cX0_countWaits 37 = .ok (.aload_n 3, 1) := by decide +kernel
theorem dX0_countWaits_38 : decode cX0_countWaits 38 = .ok (.dup, 1) := by decide +kernel
theorem dX0_countWaits_39 : decode cX0_countWaits 39 = .ok (.getfield 118, 3) := by decide +kernel
theorem dX0_countWaits_42 : decode cX0_countWaits 42 = .ok (.iconst 1, 1) := by decide +kernel
theorem dX0_countWaits_43 : decode cX0_countWaits 43 = .ok (.iadd, 1) := by decide +kernel
theorem dX0_countWaits_44 : decode cX0_countWaits 44 = .ok (.putfield 118, 3) := by decide +kernel
theorem dX0_countWaits_47 : decode cX0_countWaits 47 = .ok (.iinc 2 1, 3) := by decide +kernel
theorem dX0_countWaits_50 : decode cX0_countWaits 50 = .ok (.goto (-48), 3) := by decide +kernel
theorem dX0_countWaits_53 : decode cX0_countWaits 53 = .ok (.return_, 1) := by decide +kernel
theorem dX1_init_0 : decode cX1_init 0 = .ok (.aload_n 0, 1) := by decide +kernel
theorem dX1_init_1 : decode cX1_init 1 = .ok (.invokespecial 3, 3) := by decide +kernel
theorem dX1_init_4 : decode cX1_init 4 = .ok (.aload_n 0, 1) := by decide +kernel
theorem dX1_init_5 : decode cX1_init 5 = .ok (.bipush 6, 2) := by decide +kernel
theorem dX1_init_7 : decode cX1_init 7 = .ok (.newarray .int, 2) := by decide +kernel
theorem dX1_init_9 : decode cX1_init 9 = .ok (.putfield 9, 3) := by decide +kernel
theorem dX1_init_12 : decode cX1_init 12 = .ok (.return_, 1) := by decide +kernel
theorem dX1_at_0 : decode cX1_at 0 = .ok (.iload_n 1, 1) := by decide +kernel
theorem dX1_at_1 : decode cX1_at 1 = .ok (.aload_n 0, 1) := by decide +kernel
theorem dX1_at_2 : decode cX1_at 2 = .ok (.getfield 15, 3) := by decide +kernel
theorem dX1_at_5 : decode cX1_at 5 = .ok (.invokestatic 19, 3) := by decide +kernel
theorem dX1_at_8 : decode cX1_at 8 = .ok (.ifCond .eq 21, 3) := by decide +kernel
theorem dX1_at_11 : decode cX1_at 11 = .ok (.iload_n 1, 1) := by decide +kernel
theorem dX1_at_12 : decode cX1_at 12 = .ok (.bipush 6, 2) := by decide +kernel
theorem dX1_at_14 : decode cX1_at 14 = .ok (.invokestatic 19, 3) := by decide +kernel
theorem dX1_at_17 : decode cX1_at 17 = .ok (.ifCond .eq 12, 3) := by decide +kernel
theorem dX1_at_20 : decode cX1_at 20 = .ok (.aload_n 0, 1) := by decide +kernel
theorem dX1_at_21 : decode cX1_at 21 = .ok (.getfield 9, 3) := by decide +kernel
theorem dX1_at_24 : decode cX1_at 24 = .ok (.iload_n 1, 1) := by decide +kernel
theorem dX1_at_25 : decode cX1_at 25 = .ok (.iaload, 1) := by decide +kernel
theorem dX1_at_26 : decode cX1_at 26 = .ok (.goto 5, 3) := by decide +kernel
theorem dX1_at_29 : decode cX1_at 29 = .ok (.bipush (-5), 2) := by decide +kernel
theorem dX1_at_31 : decode cX1_at 31 = .ok (.ireturn, 1) := by decide +kernel
theorem dX1_append_0 : decode cX1_append 0 = .ok (.aload_n 0, 1) := by decide +kernel
theorem dX1_append_1 : decode cX1_append 1 = .ok (.getfield 15, 3) := by decide +kernel
theorem dX1_append_4 : decode cX1_append 4 = .ok (.bipush 6, 2) := by decide +kernel
theorem dX1_append_6 : decode cX1_append 6 = .ok (.invokestatic 19, 3) := by decide +kernel
theorem dX1_append_9 : decode cX1_append 9 = .ok (.ifCond .eq 23, 3) := by decide +kernel
theorem dX1_append_12 : decode cX1_append 12 = .ok (.aload_n 0, 1) := by decide +kernel
theorem dX1_append_13 : decode cX1_append 13 = .ok (.getfield 9, 3) := by decide +kernel
theorem dX1_append_16 : decode cX1_append 16 = .ok (.aload_n 0, 1) := by decide +kernel
theorem dX1_append_17 : decode cX1_append 17 = .ok (.getfield 15, 3) := by decide +kernel
theorem dX1_append_20 : decode cX1_append 20 = .ok (.iload_n 1, 1) := by decide +kernel
theorem dX1_append_21 : decode cX1_append 21 = .ok (.iastore, 1) := by decide +kernel
theorem dX1_append_22 : decode cX1_append 22 = .ok (.aload_n 0, 1) := by decide +kernel
theorem dX1_append_23 : decode cX1_append 23 = .ok (.dup, 1) := by decide +kernel
theorem dX1_append_24 : decode cX1_append 24 = .ok (.getfield 15, 3) := by decide +kernel
theorem dX1_append_27 : decode cX1_append 27 = .ok (.iconst 1, 1) := by decide +kernel
theorem dX1_append_28 : decode cX1_append 28 = .ok (.iadd, 1) := by decide +kernel
theorem dX1_append_29 : decode cX1_append 29 = .ok (.putfield 15, 3) := by decide +kernel
theorem dX1_append_32 : decode cX1_append 32 = .ok (.return_, 1) := by decide +kernel
theorem dX1_removeAt_0 : decode cX1_removeAt 0 = .ok (.iload_n 1, 1) := by decide +kernel
theorem dX1_removeAt_1 : decode cX1_removeAt 1 = .ok (.aload_n 0, 1) := by decide +kernel
theorem dX1_removeAt_2 : decode cX1_removeAt 2 = .ok (.getfield 15, 3) := by decide +kernel
theorem dX1_removeAt_5 : decode cX1_removeAt 5 = .ok (.invokestatic 19, 3) := by decide +kernel
theorem dX1_removeAt_8 : decode cX1_removeAt 8 = .ok (.ifCond .ne 4, 3) := by decide +kernel
theorem dX1_removeAt_11 : decode cX1_removeAt 11 = .ok (.return_, 1) := by decide +kernel
theorem dX1_removeAt_12 : decode cX1_removeAt 12 = .ok (.iload_n 1, 1) := by decide +kernel
theorem dX1_removeAt_13 : decode cX1_removeAt 13 = .ok (.iconst 1, 1) := by decide +kernel
theorem dX1_removeAt_14 : decode cX1_removeAt 14 = .ok (.iadd, 1) := by decide +kernel
theorem dX1_removeAt_15 : decode cX1_removeAt 15 = .ok (.istore_n 2, 1) := by decide +kernel
theorem dX1_removeAt_16 : decode cX1_removeAt 16 = .ok (.iload_n 2, 1) := by decide +kernel
theorem dX1_removeAt_17 : decode cX1_removeAt 17 = .ok (.aload_n 0, 1) := by decide +kernel
theorem dX1_removeAt_18 : decode cX1_removeAt 18 = .ok (.getfield 15, 3) := by decide +kernel
theorem dX1_removeAt_21 : decode cX1_removeAt 21 = .ok (.if_icmp .ge 29, 3) := by decide +kernel
theorem dX1_removeAt_24 : decode cX1_removeAt 24 = .ok (.iload_n 2, 1) := by decide +kernel
theorem dX1_removeAt_25 : decode cX1_removeAt 25 = .ok (.bipush 6, 2) := by decide +kernel
theorem dX1_removeAt_27 : decode cX1_removeAt 27 = .ok (.if_icmp .ge 23, 3) := by decide +kernel
theorem dX1_removeAt_30 : decode cX1_removeAt 30 = .ok (.aload_n 0, 1) := by decide +kernel
theorem dX1_removeAt_31 : decode cX1_removeAt 31 = .ok (.getfield 9, 3) := by decide +kernel
theorem dX1_removeAt_34 : decode cX1_removeAt 34 = .ok (.iload_n 2, 1) := by decide +kernel
theorem dX1_removeAt_35 : decode cX1_removeAt 35 = .ok (.iconst 1, 1) := by decide +kernel
theorem dX1_removeAt_36 : decode cX1_removeAt 36 = .ok (.isub, 1) := by decide +kernel
theorem dX1_removeAt_37 : decode cX1_removeAt 37 = .ok (.aload_n 0, 1) := by decide +kernel
theorem dX1_removeAt_38 : decode cX1_removeAt 38 = .ok (.getfield 9, 3) := by decide +kernel
theorem dX1_removeAt_41 : decode cX1_removeAt 41 = .ok (.iload_n 2, 1) := by decide +kernel
theorem dX1_removeAt_42 : decode cX1_removeAt 42 = .ok (.iaload, 1) := by decide +kernel
theorem dX1_removeAt_43 : decode cX1_removeAt 43 = .ok (.iastore, 1) := by decide +kernel
theorem dX1_removeAt_44 : decode cX1_removeAt 44 = .ok (.iinc 2 1, 3) := by decide +kernel
theorem dX1_removeAt_47 : decode cX1_removeAt 47 = .ok (.goto (-31), 3) := by decide +kernel
theorem dX1_removeAt_50 : decode cX1_removeAt 50 = .ok (.aload_n 0, 1) := by decide +kernel
theorem dX1_removeAt_51 : decode cX1_removeAt 51 = .ok (.dup, 1) := by decide +kernel
theorem dX1_removeAt_52 : decode cX1_removeAt 52 = .ok (.getfield 15, 3) := by decide +kernel
theorem dX1_removeAt_55 : decode cX1_removeAt 55 = .ok (.iconst 1, 1) := by decide +kernel
theorem dX1_removeAt_56 : decode cX1_removeAt 56 = .ok (.isub, 1) := by decide +kernel
theorem dX1_removeAt_57 : decode cX1_removeAt 57 = .ok (.putfield 15, 3) := by decide +kernel
theorem dX1_removeAt_60 : decode cX1_removeAt 60 = .ok (.return_, 1) := by decide +kernel
theorem dX1_copyFrom_0 : decode cX1_copyFrom 0 = .ok (.aload_n 0, 1) := by decide +kernel
theorem dX1_copyFrom_1 : decode cX1_copyFrom 1 = .ok (.aload_n 1, 1) := by decide +kernel
theorem dX1_copyFrom_2 : decode cX1_copyFrom 2 = .ok (.getfield 15, 3) := by decide +kernel
theorem dX1_copyFrom_5 : decode cX1_copyFrom 5 = .ok (.putfield 15, 3) := by decide +kernel
theorem dX1_copyFrom_8 : decode cX1_copyFrom 8 = .ok (.aload_n 1, 1) := by decide +kernel
theorem dX1_copyFrom_9 : decode cX1_copyFrom 9 = .ok (.getfield 9, 3) := by decide +kernel
theorem dX1_copyFrom_12 : decode cX1_copyFrom 12 = .ok (.iconst 0, 1) := by decide +kernel
theorem dX1_copyFrom_13 : decode cX1_copyFrom 13 = .ok (.aload_n 0, 1) := by decide +kernel
theorem dX1_copyFrom_14 : decode cX1_copyFrom 14 = .ok (.getfield 9, 3) := by decide +kernel
theorem dX1_copyFrom_17 : decode cX1_copyFrom 17 = .ok (.iconst 0, 1) := by decide +kernel
theorem dX1_copyFrom_18 : decode cX1_copyFrom 18 = .ok (.bipush 6, 2) := by decide +kernel
theorem dX1_copyFrom_20 : decode cX1_copyFrom 20 = .ok (.invokestatic 23, 3) := by decide +kernel
theorem dX1_copyFrom_23 : decode cX1_copyFrom 23 = .ok (.return_, 1) := by decide +kernel
theorem dX2_init_0 : decode cX2_init 0 = .ok (.aload_n 0, 1) := by decide +kernel
theorem dX2_init_1 : decode cX2_init 1 = .ok (.invokespecial 3, 3) := by decide +kernel
theorem dX2_init_4 : decode cX2_init 4 = .ok (.aload_n 0, 1) := by decide +kernel
theorem dX2_init_5 : decode cX2_init 5 = .ok (.new 9, 3) := by decide +kernel
theorem dX2_init_8 : decode cX2_init 8 = .ok (.dup, 1) := by decide +kernel
theorem dX2_init_9 : decode cX2_init 9 = .ok (.invokespecial 11, 3) := by decide +kernel
theorem dX2_init_12 : decode cX2_init 12 = .ok (.putfield 12, 3) := by decide +kernel
theorem dX2_init_15 : decode cX2_init 15 = .ok (.aload_n 0, 1) := by decide +kernel
theorem dX2_init_16 : decode cX2_init 16 = .ok (.iconst 2, 1) := by decide +kernel
theorem dX2_init_17 : decode cX2_init 17 = .ok (.putfield 18, 3) := by decide +kernel
theorem dX2_init_20 : decode cX2_init 20 = .ok (.aload_n 0, 1) := by decide +kernel
theorem dX2_init_21 : decode cX2_init 21 = .ok (.bipush (-5), 2) := by decide +kernel
theorem dX2_init_23 : decode cX2_init 23 = .ok (.putfield 22, 3) := by decide +kernel
theorem dX2_init_26 : decode cX2_init 26 = .ok (.return_, 1) := by decide +kernel
theorem dX2_copyFrom_0 : decode cX2_copyFrom 0 = .ok (.aload_n 0, 1) := by decide +kernel
theorem dX2_copyFrom_1 : decode cX2_copyFrom 1 = .ok (.getfield 12, 3) := by decide +kernel
theorem dX2_copyFrom_4 : decode cX2_copyFrom 4 = .ok (.aload_n 1, 1) := by decide +kernel
theorem dX2_copyFrom_5 : decode cX2_copyFrom 5 = .ok (.getfield 12, 3) := by decide +kernel
theorem dX2_copyFrom_8 : decode cX2_copyFrom 8 = .ok (.invokevirtual 25, 3) := by decide +kernel
theorem dX2_copyFrom_11 : decode cX2_copyFrom 11 = .ok (.aload_n 0, 1) := by decide +kernel
theorem dX2_copyFrom_12 : decode cX2_copyFrom 12 = .ok (.aload_n 1, 1) := by decide +kernel
theorem dX2_copyFrom_13 : decode cX2_copyFrom 13 = .ok (.getfield 18, 3) := by decide +kernel
theorem dX2_copyFrom_16 : decode cX2_copyFrom 16 = .ok (.putfield 18, 3) := by decide +kernel
theorem dX2_copyFrom_19 : decode cX2_copyFrom 19 = .ok (.aload_n 0, 1) := by decide +kernel
theorem dX2_copyFrom_20 : decode cX2_copyFrom 20 = .ok (.aload_n 1, 1) := by decide +kernel
theorem dX2_copyFrom_21 : decode cX2_copyFrom 21 = .ok (.getfield 29, 3) := by decide +kernel
theorem dX2_copyFrom_24 : decode cX2_copyFrom 24 = .ok (.putfield 29, 3) := by decide +kernel
theorem dX2_copyFrom_27 : decode cX2_copyFrom 27 = .ok (.aload_n 0, 1) := by decide +kernel
theorem dX2_copyFrom_28 : decode cX2_copyFrom 28 = .ok (.aload_n 1, 1) := by decide +kernel
theorem dX2_copyFrom_29 : decode cX2_copyFrom 29 = .ok (.getfield 32, 3) := by decide +kernel
theorem dX2_copyFrom_32 : decode cX2_copyFrom 32 = .ok (.putfield 32, 3) := by decide +kernel
theorem dX2_copyFrom_35 : decode cX2_copyFrom 35 = .ok (.aload_n 0, 1) := by decide +kernel
theorem dX2_copyFrom_36 : decode cX2_copyFrom 36 = .ok (.aload_n 1, 1) := by decide +kernel
theorem dX2_copyFrom_37 : decode cX2_copyFrom 37 = .ok (.getfield 35, 3) := by decide +kernel
theorem dX2_copyFrom_40 : decode cX2_copyFrom 40 = .ok (.putfield 35, 3) := by decide +kernel
theorem dX2_copyFrom_43 : decode cX2_copyFrom 43 = .ok (.aload_n 0, 1) := by decide +kernel
theorem dX2_copyFrom_44 : decode cX2_copyFrom 44 = .ok (.aload_n 1, 1) := by decide +kernel
theorem dX2_copyFrom_45 : decode cX2_copyFrom 45 = .ok (.getfield 38, 3) := by decide +kernel
theorem dX2_copyFrom_48 : decode cX2_copyFrom 48 = .ok (.putfield 38, 3) := by decide +kernel
theorem dX2_copyFrom_51 : decode cX2_copyFrom 51 = .ok (.aload_n 0, 1) := by decide +kernel
theorem dX2_copyFrom_52 : decode cX2_copyFrom 52 = .ok (.aload_n 1, 1) := by decide +kernel
theorem dX2_copyFrom_53 : decode cX2_copyFrom 53 = .ok (.getfield 41, 3) := by decide +kernel
theorem dX2_copyFrom_56 : decode cX2_copyFrom 56 = .ok (.putfield 41, 3) := by decide +kernel
theorem dX2_copyFrom_59 : decode cX2_copyFrom 59 = .ok (.aload_n 0, 1) := by decide +kernel
theorem dX2_copyFrom_60 : decode cX2_copyFrom 60 = .ok (.aload_n 1, 1) := by decide +kernel
theorem dX2_copyFrom_61 : decode cX2_copyFrom 61 = .ok (.getfield 22, 3) := by decide +kernel
theorem dX2_copyFrom_64 : decode cX2_copyFrom 64 = .ok (.putfield 22, 3) := by decide +kernel
theorem dX2_copyFrom_67 : decode cX2_copyFrom 67 = .ok (.return_, 1) := by decide +kernel
theorem dX3_init_0 : decode cX3_init 0 = .ok (.aload_n 0, 1) := by decide +kernel
theorem dX3_init_1 : decode cX3_init 1 = .ok (.invokespecial 3, 3) := by decide +kernel
theorem dX3_init_4 : decode cX3_init 4 = .ok (.return_, 1) := by decide +kernel
theorem dX3_begin_0 : decode cX3_begin 0 = .ok (.aload_n 0, 1) := by decide +kernel
theorem dX3_begin_1 : decode cX3_begin 1 = .ok (.iload_n 1, 1) := by decide +kernel
theorem dX3_begin_2 : decode cX3_begin 2 = .ok (.putfield 9, 3) := by decide +kernel
theorem dX3_begin_5 : decode cX3_begin 5 = .ok (.aload_n 0, 1) := by decide +kernel
theorem dX3_begin_6 : decode cX3_begin 6 = .ok (.iload_n 2, 1) := by decide +kernel
theorem dX3_begin_7 : decode cX3_begin 7 = .ok (.putfield 15, 3) := by decide +kernel
theorem dX3_begin_10 : decode cX3_begin 10 = .ok (.aload_n 0, 1) := by decide +kernel
theorem dX3_begin_11 : decode cX3_begin 11 = .ok (.iload_n 3, 1) := by decide +kernel
theorem dX3_begin_12 : decode cX3_begin 12 = .ok (.putfield 18, 3) := by decide +kernel
theorem dX3_begin_15 : decode cX3_begin 15 = .ok (.aload_n 0, 1) := by decide +kernel
theorem dX3_begin_16 : decode cX3_begin 16 = .ok (.iload 4, 2) := by decide +kernel
theorem dX3_begin_18 : decode cX3_begin 18 = .ok (.putfield 21, 3) := by decide +kernel
theorem dX3_begin_21 : decode cX3_begin 21 = .ok (.aload_n 0, 1) := by decide +kernel
theorem dX3_begin_22 : decode cX3_begin 22 = .ok (.iconst 0, 1) := by decide +kernel
theorem dX3_begin_23 : decode cX3_begin 23 = .ok (.putfield 24, 3) := by decide +kernel
theorem dX3_begin_26 : decode cX3_begin 26 = .ok (.aload_n 0, 1) := by decide +kernel
theorem dX3_begin_27 : decode cX3_begin 27 = .ok (.bipush (-5), 2) := by decide +kernel
theorem dX3_begin_29 : decode cX3_begin 29 = .ok (.putfield 27, 3) := by decide +kernel
theorem dX3_begin_32 : decode cX3_begin 32 = .ok (.aload_n 0, 1) := by decide +kernel
theorem dX3_begin_33 : decode cX3_begin 33 = .ok (.bipush (-5), 2) := by decide +kernel
theorem dX3_begin_35 : decode cX3_begin 35 = .ok (.putfield 30, 3) := by decide +kernel
theorem dX3_begin_38 : decode cX3_begin 38 = .ok (.aload_n 0, 1) := by decide +kernel
theorem dX3_begin_39 : decode cX3_begin 39 = .ok (.iload 5, 2) := by decide +kernel
theorem dX3_begin_41 : decode cX3_begin 41 = .ok (.putfield 33, 3) := by decide +kernel
theorem dX3_begin_44 : decode cX3_begin 44 = .ok (.aload_n 0, 1) := by decide +kernel
theorem dX3_begin_45 : decode cX3_begin 45 = .ok (.bipush (-5), 2) := by decide +kernel
theorem dX3_begin_47 : decode cX3_begin 47 = .ok (.putfield 36, 3) := by decide +kernel
theorem dX3_begin_50 : decode cX3_begin 50 = .ok (.aload_n 0, 1) := by decide +kernel
theorem dX3_begin_51 : decode cX3_begin 51 = .ok (.bipush (-5), 2) := by decide +kernel
theorem dX3_begin_53 : decode cX3_begin 53 = .ok (.putfield 39, 3) := by decide +kernel
theorem dX3_begin_56 : decode cX3_begin 56 = .ok (.aload_n 0, 1) := by decide +kernel
theorem dX3_begin_57 : decode cX3_begin 57 = .ok (.iconst 0, 1) := by decide +kernel
theorem dX3_begin_58 : decode cX3_begin 58 = .ok (.putfield 42, 3) := by decide +kernel
theorem dX3_begin_61 : decode cX3_begin 61 = .ok (.return_, 1) := by decide +kernel
theorem dX3_copyFrom_0 : decode cX3_copyFrom 0 = .ok (.aload_n 0, 1) := by decide +kernel
theorem dX3_copyFrom_1 : decode cX3_copyFrom 1 = .ok (.aload_n 1, 1) := by decide +kernel
theorem dX3_copyFrom_2 : decode cX3_copyFrom 2 = .ok (.getfield 9, 3) := by decide +kernel
theorem dX3_copyFrom_5 : decode cX3_copyFrom 5 = .ok (.putfield 9, 3) := by decide +kernel
theorem dX3_copyFrom_8 : decode cX3_copyFrom 8 = .ok (.aload_n 0, 1) := by decide +kernel
theorem dX3_copyFrom_9 : decode cX3_copyFrom 9 = .ok (.aload_n 1, 1) := by decide +kernel
theorem dX3_copyFrom_10 : decode cX3_copyFrom 10 = .ok (.getfield 15, 3) := by decide +kernel
theorem dX3_copyFrom_13 : decode cX3_copyFrom 13 = .ok (.putfield 15, 3) := by decide +kernel
theorem dX3_copyFrom_16 : decode cX3_copyFrom 16 = .ok (.aload_n 0, 1) := by decide +kernel
theorem dX3_copyFrom_17 : decode cX3_copyFrom 17 = .ok (.aload_n 1, 1) := by decide +kernel
theorem dX3_copyFrom_18 : decode cX3_copyFrom 18 = .ok (.getfield 18, 3) := by decide +kernel
theorem dX3_copyFrom_21 : decode cX3_copyFrom 21 = .ok (.putfield 18, 3) := by decide +kernel
theorem dX3_copyFrom_24 : decode cX3_copyFrom 24 = .ok (.aload_n 0, 1) := by decide +kernel
theorem dX3_copyFrom_25 : decode cX3_copyFrom 25 = .ok (.aload_n 1, 1) := by decide +kernel
theorem dX3_copyFrom_26 : decode cX3_copyFrom 26 = .ok (.getfield 21, 3) := by decide +kernel
theorem dX3_copyFrom_29 : decode cX3_copyFrom 29 = .ok (.putfield 21, 3) := by decide +kernel
theorem dX3_copyFrom_32 : decode cX3_copyFrom 32 = .ok (.aload_n 0, 1) := by decide +kernel
theorem dX3_copyFrom_33 : decode cX3_copyFrom 33 = .ok (.aload_n 1, 1) := by decide +kernel
theorem dX3_copyFrom_34 : decode cX3_copyFrom 34 = .ok (.getfield 24, 3) := by decide +kernel
theorem dX3_copyFrom_37 : decode cX3_copyFrom 37 = .ok (.putfield 24, 3) := by decide +kernel
theorem dX3_copyFrom_40 : decode cX3_copyFrom 40 = .ok (.aload_n 0, 1) := by decide +kernel
theorem dX3_copyFrom_41 : decode cX3_copyFrom 41 = .ok (.aload_n 1, 1) := by decide +kernel
theorem dX3_copyFrom_42 : decode cX3_copyFrom 42 = .ok (.getfield 27, 3) := by decide +kernel
theorem dX3_copyFrom_45 : decode cX3_copyFrom 45 = .ok (.putfield 27, 3) := by decide +kernel
theorem dX3_copyFrom_48 : decode cX3_copyFrom 48 = .ok (.aload_n 0, 1) := by decide +kernel
theorem dX3_copyFrom_49 : decode cX3_copyFrom 49 = .ok (.aload_n 1, 1) := by decide +kernel
theorem dX3_copyFrom_50 : decode cX3_copyFrom 50 = .ok (.getfield 30, 3) := by decide +kernel
theorem dX3_copyFrom_53 : decode cX3_copyFrom 53 = .ok (.putfield 30, 3) := by decide +kernel
theorem dX3_copyFrom_56 : decode cX3_copyFrom 56 = .ok (.aload_n 0, 1) := by decide +kernel
theorem dX3_copyFrom_57 : decode cX3_copyFrom 57 = .ok (.aload_n 1, 1) := by decide +kernel
theorem dX3_copyFrom_58 : decode cX3_copyFrom 58 = .ok (.getfield 33, 3) := by decide +kernel
theorem dX3_copyFrom_61 : decode cX3_copyFrom 61 = .ok (.putfield 33, 3) := by decide +kernel
theorem dX3_copyFrom_64 : decode cX3_copyFrom 64 = .ok (.aload_n 0, 1) := by decide +kernel
theorem dX3_copyFrom_65 : decode cX3_copyFrom 65 = .ok (.aload_n 1, 1) := by decide +kernel
theorem dX3_copyFrom_66 : decode cX3_copyFrom 66 = .ok (.getfield 36, 3) := by decide +kernel
theorem dX3_copyFrom_69 : decode cX3_copyFrom 69 = .ok (.putfield 36, 3) := by decide +kernel
theorem dX3_copyFrom_72 : decode cX3_copyFrom 72 = .ok (.aload_n 0, 1) := by decide +kernel
theorem dX3_copyFrom_73 : decode cX3_copyFrom 73 = .ok (.aload_n 1, 1) := by decide +kernel
theorem dX3_copyFrom_74 : decode cX3_copyFrom 74 = .ok (.getfield 39, 3) := by decide +kernel
theorem dX3_copyFrom_77 : decode cX3_copyFrom 77 = .ok (.putfield 39, 3) := by decide +kernel
theorem dX3_copyFrom_80 : decode cX3_copyFrom 80 = .ok (.aload_n 0, 1) := by decide +kernel
theorem dX3_copyFrom_81 : decode cX3_copyFrom 81 = .ok (.aload_n 1, 1) := by decide +kernel
theorem dX3_copyFrom_82 : decode cX3_copyFrom 82 = .ok (.getfield 42, 3) := by decide +kernel
theorem dX3_copyFrom_85 : decode cX3_copyFrom 85 = .ok (.putfield 42, 3) := by decide +kernel
theorem dX3_copyFrom_88 : decode cX3_copyFrom 88 = .ok (.return_, 1) := by decide +kernel
theorem dX4_init_0 : decode cX4_init 0 = .ok (.aload_n 0, 1) := by decide +kernel
theorem dX4_init_1 : decode cX4_init 1 = .ok (.invokespecial 3, 3) := by decide +kernel
theorem dX4_init_4 : decode cX4_init 4 = .ok (.aload_n 0, 1) := by decide +kernel
theorem dX4_init_5 : decode cX4_init 5 = .ok (.bipush 60, 2) := by decide +kernel
theorem dX4_init_7 : decode cX4_init 7 = .ok (.newarray .char, 2) := by decide +kernel
theorem dX4_init_9 : decode cX4_init 9 = .ok (.putfield 9, 3) := by decide +kernel
theorem dX4_init_12 : decode cX4_init 12 = .ok (.aload_n 0, 1) := by decide +kernel
theorem dX4_init_13 : decode cX4_init 13 = .ok (.bipush 10, 2) := by decide +kernel
theorem dX4_init_15 : decode cX4_init 15 = .ok (.anewarray 15, 3) := by decide +kernel
theorem dX4_init_18 : decode cX4_init 18 = .ok (.putfield 17, 3) := by decide +kernel
theorem dX4_init_21 : decode cX4_init 21 = .ok (.iconst 0, 1) := by decide +kernel
theorem dX4_init_22 : decode cX4_init 22 = .ok (.istore_n 1, 1) := by decide +kernel
theorem dX4_init_23 : decode cX4_init 23 = .ok (.iload_n 1, 1) := by decide +kernel
theorem dX4_init_24 : decode cX4_init 24 = .ok (.bipush 10, 2) := by decide +kernel
theorem dX4_init_26 : decode cX4_init 26 = .ok (.if_icmp .ge 22, 3) := by decide +kernel
theorem dX4_init_29 : decode cX4_init 29 = .ok (.aload_n 0, 1) := by decide +kernel
theorem dX4_init_30 : decode cX4_init 30 = .ok (.getfield 17, 3) := by decide +kernel
theorem dX4_init_33 : decode cX4_init 33 = .ok (.iload_n 1, 1) := by decide +kernel
theorem dX4_init_34 : decode cX4_init 34 = .ok (.new 15, 3) := by decide +kernel
theorem dX4_init_37 : decode cX4_init 37 = .ok (.dup, 1) := by decide +kernel
theorem dX4_init_38 : decode cX4_init 38 = .ok (.invokespecial 21, 3) := by decide +kernel
theorem dX4_init_41 : decode cX4_init 41 = .ok (.aastore, 1) := by decide +kernel
theorem dX4_init_42 : decode cX4_init 42 = .ok (.iinc 1 1, 3) := by decide +kernel
theorem dX4_init_45 : decode cX4_init 45 = .ok (.goto (-22), 3) := by decide +kernel
theorem dX4_init_48 : decode cX4_init 48 = .ok (.return_, 1) := by decide +kernel
theorem dX4_append_0 : decode cX4_append 0 = .ok (.aload_n 0, 1) := by decide +kernel
theorem dX4_append_1 : decode cX4_append 1 = .ok (.getfield 22, 3) := by decide +kernel
theorem dX4_append_4 : decode cX4_append 4 = .ok (.bipush 60, 2) := by decide +kernel
theorem dX4_append_6 : decode cX4_append 6 = .ok (.invokestatic 26, 3) := by decide +kernel
theorem dX4_append_9 : decode cX4_append 9 = .ok (.ifCond .ne 5, 3) := by decide +kernel
theorem dX4_append_12 : decode cX4_append 12 = .ok (.iconst 0, 1) := by decide +kernel
theorem dX4_append_13 : decode cX4_append 13 = .ok (.ireturn, 1) := by decide +kernel
theorem dX4_append_14 : decode cX4_append 14 = .ok (.aload_n 0, 1) := by decide +kernel
theorem dX4_append_15 : decode cX4_append 15 = .ok (.getfield 9, 3) := by decide +kernel
theorem dX4_append_18 : decode cX4_append 18 = .ok (.aload_n 0, 1) := by decide +kernel
theorem dX4_append_19 : decode cX4_append 19 = .ok (.getfield 22, 3) := by decide +kernel
theorem dX4_append_22 : decode cX4_append 22 = .ok (.iload_n 1, 1) := by decide +kernel
theorem dX4_append_23 : decode cX4_append 23 = .ok (.castore, 1) := by decide +kernel
theorem dX4_append_24 : decode cX4_append 24 = .ok (.aload_n 0, 1) := by decide +kernel
theorem dX4_append_25 : decode cX4_append 25 = .ok (.dup, 1) := by decide +kernel
theorem dX4_append_26 : decode cX4_append 26 = .ok (.getfield 22, 3) := by decide +kernel
theorem dX4_append_29 : decode cX4_append 29 = .ok (.iconst 1, 1) := by decide +kernel
theorem dX4_append_30 : decode cX4_append 30 = .ok (.iadd, 1) := by decide +kernel
theorem dX4_append_31 : decode cX4_append 31 = .ok (.putfield 22, 3) := by decide +kernel
theorem dX4_append_34 : decode cX4_append 34 = .ok (.iconst 1, 1) := by decide +kernel
theorem dX4_append_35 : decode cX4_append 35 = .ok (.ireturn, 1) := by decide +kernel
theorem dX4_questionAt_0 : decode cX4_questionAt 0 = .ok (.iload_n 1, 1) := by decide +kernel
theorem dX4_questionAt_1 : decode cX4_questionAt 1 = .ok (.aload_n 0, 1) := by decide +kernel
theorem dX4_questionAt_2 : decode cX4_questionAt 2 = .ok (.getfield 30, 3) := by decide +kernel
theorem dX4_questionAt_5 : decode cX4_questionAt 5 = .ok (.invokestatic 26, 3) := by decide +kernel
theorem dX4_questionAt_8 : decode cX4_questionAt 8 = .ok (.ifCond .eq 21, 3) := by decide +kernel
theorem dX4_questionAt_11 : decode cX4_questionAt 11 = .ok (.iload_n 1, 1) := by decide +kernel
theorem dX4_questionAt_12 : decode cX4_questionAt 12 = .ok (.bipush 10, 2) := by decide +kernel
theorem dX4_questionAt_14 : decode cX4_questionAt 14 = .ok (.invokestatic 26, 3) := by decide +kernel
theorem dX4_questionAt_17 : decode cX4_questionAt 17 = .ok (.ifCond .eq 12, 3) := by decide +kernel
theorem dX4_questionAt_20 : decode cX4_questionAt 20 = .ok (.aload_n 0, 1) := by decide +kernel
theorem dX4_questionAt_21 : decode cX4_questionAt 21 = .ok (.getfield 17, 3) := by decide +kernel
theorem dX4_questionAt_24 : decode cX4_questionAt 24 = .ok (.iload_n 1, 1) := by decide +kernel
theorem dX4_questionAt_25 : decode cX4_questionAt 25 = .ok (.aaload, 1) := by decide +kernel
theorem dX4_questionAt_26 : decode cX4_questionAt 26 = .ok (.goto 4, 3) := by decide +kernel
theorem dX4_questionAt_29 : decode cX4_questionAt 29 = .ok (.aconst_null, 1) := by decide +kernel
theorem dX4_questionAt_30 : decode cX4_questionAt 30 = .ok (.areturn, 1) := by decide +kernel
theorem dX4_foundOf_0 : decode cX4_foundOf 0 = .ok (.iconst 0, 1) := by decide +kernel
theorem dX4_foundOf_1 : decode cX4_foundOf 1 = .ok (.istore_n 2, 1) := by decide +kernel
theorem dX4_foundOf_2 : decode cX4_foundOf 2 = .ok (.iconst 0, 1) := by decide +kernel
theorem dX4_foundOf_3 : decode cX4_foundOf 3 = .ok (.istore_n 3, 1) := by decide +kernel
theorem dX4_foundOf_4 : decode cX4_foundOf 4 = .ok (.iload_n 3, 1) := by decide +kernel
theorem dX4_foundOf_5 : decode cX4_foundOf 5 = .ok (.aload_n 0, 1) := by decide +kernel
theorem dX4_foundOf_6 : decode cX4_foundOf 6 = .ok (.getfield 30, 3) := by decide +kernel
theorem dX4_foundOf_9 : decode cX4_foundOf 9 = .ok (.if_icmp .ge 31, 3) := by decide +kernel
theorem dX4_foundOf_12 : decode cX4_foundOf 12 = .ok (.iload_n 3, 1) := by decide +kernel
theorem dX4_foundOf_13 : decode cX4_foundOf 13 = .ok (.bipush 10, 2) := by decide +kernel
theorem dX4_foundOf_15 : decode cX4_foundOf 15 = .ok (.if_icmp .ge 25, 3) := by decide +kernel
theorem dX4_foundOf_18 : decode cX4_foundOf 18 = .ok (.aload_n 0, 1) := by decide +kernel
theorem dX4_foundOf_19 : decode cX4_foundOf 19 = .ok (.getfield 17, 3) := by decide +kernel
theorem dX4_foundOf_22 : decode cX4_foundOf 22 = .ok (.iload_n 3, 1) := by decide +kernel
theorem dX4_foundOf_23 : decode cX4_foundOf 23 = .ok (.aaload, 1) := by decide +kernel
theorem dX4_foundOf_24 : decode cX4_foundOf 24 = .ok (.getfield 33, 3) := by decide +kernel
theorem dX4_foundOf_27 : decode cX4_foundOf 27 = .ok (.iload_n 1, 1) := by decide +kernel
theorem dX4_foundOf_28 : decode cX4_foundOf 28 = .ok (.if_icmp .ne 6, 3) := by decide +kernel
theorem dX4_foundOf_31 : decode cX4_foundOf 31 = .ok (.iinc 2 1, 3) := by decide +kernel
theorem dX4_foundOf_34 : decode cX4_foundOf 34 = .ok (.iinc 3 1, 3) := by decide +kernel
theorem dX4_foundOf_37 : decode cX4_foundOf 37 = .ok (.goto (-33), 3) := by decide +kernel
theorem dX4_foundOf_40 : decode cX4_foundOf 40 = .ok (.iload_n 2, 1) := by decide +kernel
theorem dX4_foundOf_41 : decode cX4_foundOf 41 = .ok (.ireturn, 1) := by decide +kernel
theorem dX4_findFault_0 : decode cX4_findFault 0 = .ok (.aload_n 0, 1) := by decide +kernel
theorem dX4_findFault_1 : decode cX4_findFault 1 = .ok (.iconst 0, 1) := by decide +kernel
theorem dX4_findFault_2 : decode cX4_findFault 2 = .ok (.putfield 36, 3) := by decide +kernel
theorem dX4_findFault_5 : decode cX4_findFault 5 = .ok (.aload_n 0, 1) := by decide +kernel
theorem dX4_findFault_6 : decode cX4_findFault 6 = .ok (.iconst 0, 1) := by decide +kernel
theorem dX4_findFault_7 : decode cX4_findFault 7 = .ok (.putfield 30, 3) := by decide +kernel
theorem dX4_findFault_10 : decode cX4_findFault 10 = .ok (.iconst 0, 1) := by decide +kernel
theorem dX4_findFault_11 : decode cX4_findFault 11 = .ok (.istore_n 1, 1) := by decide +kernel
theorem dX4_findFault_12 : decode cX4_findFault 12 = .ok (.iload_n 1, 1) := by decide +kernel
theorem dX4_findFault_13 : decode cX4_findFault 13 = .ok (.bipush 10, 2) := by decide +kernel
theorem dX4_findFault_15 : decode cX4_findFault 15 = .ok (.if_icmp .ge 65, 3) := by decide +kernel
theorem dX4_findFault_18 : decode cX4_findFault 18 = .ok (.aload_n 0, 1) := by decide +kernel
theorem dX4_findFault_19 : decode cX4_findFault 19 = .ok (.aload_n 0, 1) := by decide +kernel
theorem dX4_findFault_20 : decode cX4_findFault 20 = .ok (.getfield 17, 3) := by decide +kernel
theorem dX4_findFault_23 : decode cX4_findFault 23 = .ok (.iload_n 1, 1) := by decide +kernel
theorem dX4_findFault_24 : decode cX4_findFault 24 = .ok (.aaload, 1) := by decide +kernel
theorem dX4_findFault_25 : decode cX4_findFault 25 = .ok (.invokevirtual 39, 3) := by decide +kernel
theorem dX4_findFault_28 : decode cX4_findFault 28 = .ok (.ifCond .ne 8, 3) := by decide +kernel
theorem dX4_findFault_31 : decode cX4_findFault 31 = .ok (.aload_n 0, 1) := by decide +kernel
theorem dX4_findFault_32 : decode cX4_findFault 32 = .ok (.getfield 36, 3) := by decide +kernel
theorem dX4_findFault_35 : decode cX4_findFault 35 = .ok (.ireturn, 1) := by decide +kernel
theorem dX4_findFault_36 : decode cX4_findFault 36 = .ok (.aload_n 0, 1) := by decide +kernel
theorem dX4_findFault_37 : decode cX4_findFault 37 = .ok (.dup, 1) := by decide +kernel
theorem dX4_findFault_38 : decode cX4_findFault 38 = .ok (.getfield 30, 3) := by decide +kernel
theorem dX4_findFault_41 : decode cX4_findFault 41 = .ok (.iconst 1, 1) := by decide +kernel
theorem dX4_findFault_42 : decode cX4_findFault 42 = .ok (.iadd, 1) := by decide +kernel
theorem dX4_findFault_43 : decode cX4_findFault 43 = .ok (.putfield 30, 3) := by decide +kernel
theorem dX4_findFault_46 : decode cX4_findFault 46 = .ok (.aload_n 0, 1) := by decide +kernel
theorem dX4_findFault_47 : decode cX4_findFault 47 = .ok (.getfield 36, 3) := by decide +kernel
theorem dX4_findFault_50 : decode cX4_findFault 50 = .ok (.aload_n 0, 1) := by decide +kernel
theorem dX4_findFault_51 : decode cX4_findFault 51 = .ok (.getfield 22, 3) := by decide +kernel
theorem dX4_findFault_54 : decode cX4_findFault 54 = .ok (.if_icmp .lt 6, 3) := by decide +kernel
theorem dX4_findFault_57 : decode cX4_findFault 57 = .ok (.bipush (-5), 2) := by decide +kernel
theorem dX4_findFault_59 : decode cX4_findFault 59 = .ok (.ireturn, 1) := by decide +kernel
theorem dX4_findFault_60 : decode cX4_findFault 60 = .ok (.aload_n 0, 1) := by decide +kernel
theorem dX4_findFault_61 : decode cX4_findFault 61 = .ok (.bipush 59, 2) := by decide +kernel
theorem dX4_findFault_63 : decode cX4_findFault 63 = .ok (.invokevirtual 43, 3) := by decide +kernel
theorem dX4_findFault_66 : decode cX4_findFault 66 = .ok (.ifCond .ne 8, 3) := by decide +kernel
theorem dX4_findFault_69 : decode cX4_findFault 69 = .ok (.aload_n 0, 1) := by decide +kernel
theorem dX4_findFault_70 : decode cX4_findFault 70 = .ok (.getfield 36, 3) := by decide +kernel
theorem dX4_findFault_73 : decode cX4_findFault 73 = .ok (.ireturn, 1) := by decide +kernel
theorem dX4_findFault_74 : decode cX4_findFault 74 = .ok (.iinc 1 1, 3) := by decide +kernel
theorem dX4_findFault_77 : decode cX4_findFault 77 = .ok (.goto (-65), 3) := by decide +kernel
theorem dX4_findFault_80 : decode cX4_findFault 80 = .ok (.aload_n 0, 1) := by decide +kernel
theorem dX4_findFault_81 : decode cX4_findFault 81 = .ok (.getfield 36, 3) := by decide +kernel
theorem dX4_findFault_84 : decode cX4_findFault 84 = .ok (.ireturn, 1) := by decide +kernel
theorem dX4_readQuestion_0 : decode cX4_readQuestion 0 = .ok (.aload_n 0, 1) := by decide +kernel
theorem dX4_readQuestion_1 : decode cX4_readQuestion 1 = .ok (.iconst 3, 1) := by decide +kernel
theorem dX4_readQuestion_2 : decode cX4_readQuestion 2 = .ok (.invokevirtual 47, 3) := by decide +kernel
theorem dX4_readQuestion_5 : decode cX4_readQuestion 5 = .ok (.istore_n 2, 1) := by decide +kernel
theorem dX4_readQuestion_6 : decode cX4_readQuestion 6 = .ok (.iload_n 2, 1) := by decide +kernel
theorem dX4_readQuestion_7 : decode cX4_readQuestion 7 = .ok (.bipush (-5), 2) := by decide +kernel
theorem dX4_readQuestion_9 : decode cX4_readQuestion 9 = .ok (.if_icmp .eq 12, 3) := by decide +kernel
theorem dX4_readQuestion_12 : decode cX4_readQuestion 12 = .ok (.aload_n 0, 1) := by decide +kernel
theorem dX4_readQuestion_13 : decode cX4_readQuestion 13 = .ok (.bipush 62, 2) := by decide +kernel
theorem dX4_readQuestion_15 : decode cX4_readQuestion 15 = .ok (.invokevirtual 43, 3) := by decide +kernel
theorem dX4_readQuestion_18 : decode cX4_readQuestion 18 = .ok (.ifCond .ne 5, 3) := by decide +kernel
theorem dX4_readQuestion_21 : decode cX4_readQuestion 21 = .ok (.iconst 0, 1) := by decide +kernel
theorem dX4_readQuestion_22 : decode cX4_readQuestion 22 = .ok (.ireturn, 1) := by decide +kernel
theorem dX4_readQuestion_23 : decode cX4_readQuestion 23 = .ok (.aload_n 0, 1) := by decide +kernel
theorem dX4_readQuestion_24 : decode cX4_readQuestion 24 = .ok (.iconst 3, 1) := by decide +kernel
theorem dX4_readQuestion_25 : decode cX4_readQuestion 25 = .ok (.invokevirtual 47, 3) := by decide +kernel
theorem dX4_readQuestion_28 : decode cX4_readQuestion 28 = .ok (.istore_n 3, 1) := by decide +kernel
theorem dX4_readQuestion_29 : decode cX4_readQuestion 29 = .ok (.iload_n 3, 1) := by decide +kernel
theorem dX4_readQuestion_30 : decode cX4_readQuestion 30 = .ok (.bipush (-5), 2) := by decide +kernel
theorem dX4_readQuestion_32 : decode cX4_readQuestion 32 = .ok (.if_icmp .ne 5, 3) := by decide +kernel
theorem dX4_readQuestion_35 : decode cX4_readQuestion 35 = .ok (.iconst 0, 1) := by decide +kernel
theorem dX4_readQuestion_36 : decode cX4_readQuestion 36 = .ok (.ireturn, 1) := by decide +kernel
theorem dX4_readQuestion_37 : decode cX4_readQuestion 37 = .ok (.aload_n 0, 1) := by decide +kernel
theorem dX4_readQuestion_38 : decode cX4_readQuestion 38 = .ok (.bipush 119, 2) := by decide +kernel
theorem dX4_readQuestion_40 : decode cX4_readQuestion 40 = .ok (.invokevirtual 43, 3) := by decide +kernel
theorem dX4_readQuestion_43 : decode cX4_readQuestion 43 = .ok (.istore 4, 2) := by decide +kernel
theorem dX4_readQuestion_45 : decode cX4_readQuestion 45 = .ok (.iload 4, 2) := by decide +kernel
theorem dX4_readQuestion_47 : decode cX4_readQuestion 47 = .ok (.ifCond .ne 14, 3) := by decide +kernel
theorem dX4_readQuestion_50 : decode cX4_readQuestion 50 = .ok (.aload_n 0, 1) := by decide +kernel
theorem dX4_readQuestion_51 : decode cX4_readQuestion 51 = .ok (.bipush 114, 2) := by decide +kernel
theorem dX4_readQuestion_53 : decode cX4_readQuestion 53 = .ok (.invokevirtual 43, 3) := by decide +kernel
theorem dX4_readQuestion_56 : decode cX4_readQuestion 56 = .ok (.ifCond .ne 5, 3) := by decide +kernel
theorem dX4_readQuestion_59 : decode cX4_readQuestion 59 = .ok (.iconst 0, 1) := by decide +kernel
theorem dX4_readQuestion_60 : decode cX4_readQuestion 60 = .ok (.ireturn, 1) := by decide +kernel
theorem dX4_readQuestion_61 : decode cX4_readQuestion 61 = .ok (.aload_n 0, 1) := by decide +kernel
theorem dX4_readQuestion_62 : decode cX4_readQuestion 62 = .ok (.bipush 15, 2) := by decide +kernel
theorem dX4_readQuestion_64 : decode cX4_readQuestion 64 = .ok (.invokevirtual 47, 3) := by decide +kernel
theorem dX4_readQuestion_67 : decode cX4_readQuestion 67 = .ok (.istore 5, 2) := by decide +kernel
theorem dX4_readQuestion_69 : decode cX4_readQuestion 69 = .ok (.iload 5, 2) := by decide +kernel
theorem dX4_readQuestion_71 : decode cX4_readQuestion 71 = .ok (.bipush (-5), 2) := by decide +kernel
theorem dX4_readQuestion_73 : decode cX4_readQuestion 73 = .ok (.if_icmp .eq 17, 3) := by decide +kernel
theorem dX4_readQuestion_76 : decode cX4_readQuestion 76 = .ok (.iload 4, 2) := by decide +kernel
theorem dX4_readQuestion_78 : decode cX4_readQuestion 78 = .ok (.ifCond .eq 14, 3) := by decide +kernel
theorem dX4_readQuestion_81 : decode cX4_readQuestion 81 = .ok (.aload_n 0, 1) := by decide +kernel
theorem dX4_readQuestion_82 : decode cX4_readQuestion 82 = .ok (.bipush 61, 2) := by decide +kernel
theorem dX4_readQuestion_84 : decode cX4_readQuestion 84 = .ok (.invokevirtual 43, 3) := by decide +kernel
theorem dX4_readQuestion_87 : decode cX4_readQuestion 87 = .ok (.ifCond .ne 5, 3) := by decide +kernel
theorem dX4_readQuestion_90 : decode cX4_readQuestion 90 = .ok (.iconst 0, 1) := by decide +kernel
theorem dX4_readQuestion_91 : decode cX4_readQuestion 91 = .ok (.ireturn, 1) := by decide +kernel
theorem dX4_readQuestion_92 : decode cX4_readQuestion 92 = .ok (.iload 4, 2) := by decide +kernel
theorem dX4_readQuestion_94 : decode cX4_readQuestion 94 = .ok (.ifCond .eq 12, 3) := by decide +kernel
theorem dX4_readQuestion_97 : decode cX4_readQuestion 97 = .ok (.aload_n 0, 1) := by decide +kernel
theorem dX4_readQuestion_98 : decode cX4_readQuestion 98 = .ok (.bipush 99, 2) := by decide +kernel
theorem dX4_readQuestion_100 : decode cX4_readQuestion 100 = .ok (.invokevirtual 47, 3) := by decide +kernel
theorem dX4_readQuestion_103 : decode cX4_readQuestion 103 = .ok (.goto 5, 3) := by decide +kernel
theorem dX4_readQuestion_106 : decode cX4_readQuestion 106 = .ok (.bipush (-5), 2) := by decide +kernel
theorem dX4_readQuestion_108 : decode cX4_readQuestion 108 = .ok (.istore 6, 2) := by decide +kernel
theorem dX4_readQuestion_110 : decode cX4_readQuestion 110 = .ok (.iload 4, 2) := by decide +kernel
theorem dX4_readQuestion_112 : decode cX4_readQuestion 112 = .ok (.ifCond .eq 12, 3) := by decide +kernel
theorem dX4_readQuestion_115 : decode cX4_readQuestion 115 = .ok (.iload 6, 2) := by decide +kernel
theorem dX4_readQuestion_117 : decode cX4_readQuestion 117 = .ok (.bipush (-5), 2) := by decide +kernel
theorem dX4_readQuestion_119 : decode cX4_readQuestion 119 = .ok (.if_icmp .ne 5, 3) := by decide +kernel
theorem dX4_readQuestion_122 : decode cX4_readQuestion 122 = .ok (.iconst 0, 1) := by decide +kernel
theorem dX4_readQuestion_123 : decode cX4_readQuestion 123 = .ok (.ireturn, 1) := by decide +kernel
theorem dX4_readQuestion_124 : decode cX4_readQuestion 124 = .ok (.aload_n 1, 1) := by decide +kernel
theorem dX4_readQuestion_125 : decode cX4_readQuestion 125 = .ok (.iload_n 2, 1) := by decide +kernel
theorem dX4_readQuestion_126 : decode cX4_readQuestion 126 = .ok (.iload_n 3, 1) := by decide +kernel
theorem dX4_readQuestion_127 : decode cX4_readQuestion 127 = .ok (.iload 5, 2) := by decide +kernel
theorem dX4_readQuestion_129 : decode cX4_readQuestion 129 = .ok (.iload 6, 2) := by decide +kernel
theorem dX4_readQuestion_131 : decode cX4_readQuestion 131 = .ok (.iconst 0, 1) := by decide +kernel
theorem dX4_readQuestion_132 : decode cX4_readQuestion 132 = .ok (.invokevirtual 51, 3) := by decide +kernel
theorem dX4_readQuestion_135 : decode cX4_readQuestion 135 = .ok (.iconst 1, 1) := by decide +kernel
theorem dX4_readQuestion_136 : decode cX4_readQuestion 136 = .ok (.ireturn, 1) := by decide +kernel
theorem dX4_skip_0 : decode cX4_skip 0 = .ok (.aload_n 0, 1) := by decide +kernel
theorem dX4_skip_1 : decode cX4_skip 1 = .ok (.getfield 36, 3) := by decide +kernel
theorem dX4_skip_4 : decode cX4_skip 4 = .ok (.aload_n 0, 1) := by decide +kernel
theorem dX4_skip_5 : decode cX4_skip 5 = .ok (.getfield 22, 3) := by decide +kernel
theorem dX4_skip_8 : decode cX4_skip 8 = .ok (.if_icmp .ge 28, 3) := by decide +kernel
theorem dX4_skip_11 : decode cX4_skip 11 = .ok (.aload_n 0, 1) := by decide +kernel
theorem dX4_skip_12 : decode cX4_skip 12 = .ok (.getfield 36, 3) := by decide +kernel
theorem dX4_skip_15 : decode cX4_skip 15 = .ok (.bipush 60, 2) := by decide +kernel
theorem dX4_skip_17 : decode cX4_skip 17 = .ok (.invokestatic 26, 3) := by decide +kernel
theorem dX4_skip_20 : decode cX4_skip 20 = .ok (.ifCond .eq 16, 3) := by decide +kernel
theorem dX4_skip_23 : decode cX4_skip 23 = .ok (.aload_n 0, 1) := by decide +kernel
theorem dX4_skip_24 : decode cX4_skip 24 = .ok (.getfield 9, 3) := by decide +kernel
theorem dX4_skip_27 : decode cX4_skip 27 = .ok (.aload_n 0, 1) := by decide +kernel
theorem dX4_skip_28 : decode cX4_skip 28 = .ok (.getfield 36, 3) := by decide +kernel
theorem dX4_skip_31 : decode cX4_skip 31 = .ok (.caload, 1) := by decide +kernel
theorem dX4_skip_32 : decode cX4_skip 32 = .ok (.iload_n 1, 1) := by decide +kernel
theorem dX4_skip_33 : decode cX4_skip 33 = .ok (.if_icmp .eq 5, 3) := by decide +kernel
theorem dX4_skip_36 : decode cX4_skip 36 = .ok (.iconst 0, 1) := by decide +kernel
theorem dX4_skip_37 : decode cX4_skip 37 = .ok (.ireturn, 1) := by decide +kernel
theorem dX4_skip_38 : decode cX4_skip 38 = .ok (.aload_n 0, 1) := by decide +kernel
theorem dX4_skip_39 : decode cX4_skip 39 = .ok (.dup, 1) := by decide +kernel
theorem dX4_skip_40 : decode cX4_skip 40 = .ok (.getfield 36, 3) := by decide +kernel
theorem dX4_skip_43 : decode cX4_skip 43 = .ok (.iconst 1, 1) := by decide +kernel
theorem dX4_skip_44 : decode cX4_skip 44 = .ok (.iadd, 1) := by decide +kernel
theorem dX4_skip_45 : decode cX4_skip 45 = .ok (.putfield 36, 3) := by decide +kernel
theorem dX4_skip_48 : decode cX4_skip 48 = .ok (.iconst 1, 1) := by decide +kernel
theorem dX4_skip_49 : decode cX4_skip 49 = .ok (.ireturn, 1) := by decide +kernel
theorem dX4_readNumber_0 : decode cX4_readNumber 0 = .ok (.aload_n 0, 1) := by decide +kernel
theorem dX4_readNumber_1 : decode cX4_readNumber 1 = .ok (.aload_n 0, 1) := by decide +kernel
theorem dX4_readNumber_2 : decode cX4_readNumber 2 = .ok (.getfield 36, 3) := by decide +kernel
theorem dX4_readNumber_5 : decode cX4_readNumber 5 = .ok (.invokevirtual 55, 3) := by decide +kernel
theorem dX4_readNumber_8 : decode cX4_readNumber 8 = .ok (.istore_n 2, 1) := by decide +kernel
theorem dX4_readNumber_9 : decode cX4_readNumber 9 = .ok (.iload_n 2, 1) := by decide +kernel
theorem dX4_readNumber_10 : decode cX4_readNumber 10 = .ok (.bipush (-5), 2) := by decide +kernel
theorem dX4_readNumber_12 : decode cX4_readNumber 12 = .ok (.if_icmp .eq 8, 3) := by decide +kernel
theorem dX4_readNumber_15 : decode cX4_readNumber 15 = .ok (.iload_n 2, 1) := by decide +kernel
theorem dX4_readNumber_16 : decode cX4_readNumber 16 = .ok (.iload_n 1, 1) := by decide +kernel
theorem dX4_readNumber_17 : decode cX4_readNumber 17 = .ok (.if_icmp .le 6, 3) := by decide +kernel
theorem dX4_readNumber_20 : decode cX4_readNumber 20 = .ok (.bipush (-5), 2) := by decide +kernel
theorem dX4_readNumber_22 : decode cX4_readNumber 22 = .ok (.ireturn, 1) := by decide +kernel
theorem dX4_readNumber_23 : decode cX4_readNumber 23 = .ok (.aload_n 0, 1) := by decide +kernel
theorem dX4_readNumber_24 : decode cX4_readNumber 24 = .ok (.dup, 1) := by decide +kernel
theorem dX4_readNumber_25 : decode cX4_readNumber 25 = .ok (.getfield 36, 3) := by decide +kernel
theorem dX4_readNumber_28 : decode cX4_readNumber 28 = .ok (.iconst 1, 1) := by decide +kernel
theorem dX4_readNumber_29 : decode cX4_readNumber 29 = .ok (.iadd, 1) := by decide +kernel
theorem dX4_readNumber_30 : decode cX4_readNumber 30 = .ok (.putfield 36, 3) := by decide +kernel
theorem dX4_readNumber_33 : decode cX4_readNumber 33 = .ok (.aload_n 0, 1) := by decide +kernel
theorem dX4_readNumber_34 : decode cX4_readNumber 34 = .ok (.aload_n 0, 1) := by decide +kernel
theorem dX4_readNumber_35 : decode cX4_readNumber 35 = .ok (.getfield 36, 3) := by decide +kernel
theorem dX4_readNumber_38 : decode cX4_readNumber 38 = .ok (.invokevirtual 55, 3) := by decide +kernel
theorem dX4_readNumber_41 : decode cX4_readNumber 41 = .ok (.istore_n 3, 1) := by decide +kernel
theorem dX4_readNumber_42 : decode cX4_readNumber 42 = .ok (.iload_n 2, 1) := by decide +kernel
theorem dX4_readNumber_43 : decode cX4_readNumber 43 = .ok (.ifCond .eq 19, 3) := by decide +kernel
theorem dX4_readNumber_46 : decode cX4_readNumber 46 = .ok (.iload_n 3, 1) := by decide +kernel
theorem dX4_readNumber_47 : decode cX4_readNumber 47 = .ok (.bipush (-5), 2) := by decide +kernel
theorem dX4_readNumber_49 : decode cX4_readNumber 49 = .ok (.if_icmp .eq 13, 3) := by decide +kernel
theorem dX4_readNumber_52 : decode cX4_readNumber 52 = .ok (.iload_n 2, 1) := by decide +kernel
theorem dX4_readNumber_53 : decode cX4_readNumber 53 = .ok (.bipush 10, 2) := by decide +kernel
theorem dX4_readNumber_55 : decode cX4_readNumber 55 = .ok (.imul, 1) := by decide +kernel
theorem dX4_readNumber_56 : decode cX4_readNumber 56 = .ok (.iload_n 3, 1) := by decide +kernel
theorem dX4_readNumber_57 : decode cX4_readNumber 57 = .ok (.iadd, 1) := by decide +kernel
theorem dX4_readNumber_58 : decode cX4_readNumber 58 = .ok (.iload_n 1, 1) := by decide +kernel
theorem dX4_readNumber_59 : decode cX4_readNumber 59 = .ok (.if_icmp .le 5, 3) := by decide +kernel
theorem dX4_readNumber_62 : decode cX4_readNumber 62 = .ok (.iload_n 2, 1) := by decide +kernel
theorem dX4_readNumber_63 : decode cX4_readNumber 63 = .ok (.ireturn, 1) := by decide +kernel
theorem dX4_readNumber_64 : decode cX4_readNumber 64 = .ok (.aload_n 0, 1) := by decide +kernel
theorem dX4_readNumber_65 : decode cX4_readNumber 65 = .ok (.dup, 1) := by decide +kernel
theorem dX4_readNumber_66 : decode cX4_readNumber 66 = .ok (.getfield 36, 3) := by decide +kernel
theorem dX4_readNumber_69 : decode cX4_readNumber 69 = .ok (.iconst 1, 1) := by decide +kernel
theorem dX4_readNumber_70 : decode cX4_readNumber 70 = .ok (.iadd, 1) := by decide +kernel
theorem dX4_readNumber_71 : decode cX4_readNumber 71 = .ok (.putfield 36, 3) := by decide +kernel
theorem dX4_readNumber_74 : decode cX4_readNumber 74 = .ok (.iload_n 2, 1) := by decide +kernel
theorem dX4_readNumber_75 : decode cX4_readNumber 75 = .ok (.bipush 10, 2) := by decide +kernel
theorem dX4_readNumber_77 : decode cX4_readNumber 77 = .ok (.imul, 1) := by decide +kernel
theorem dX4_readNumber_78 : decode cX4_readNumber 78 = .ok (.iload_n 3, 1) := by decide +kernel
theorem dX4_readNumber_79 : decode cX4_readNumber 79 = .ok (.iadd, 1) := by decide +kernel
theorem dX4_readNumber_80 : decode cX4_readNumber 80 = .ok (.ireturn, 1) := by decide +kernel
theorem dX4_digitAt_0 : decode cX4_digitAt 0 = .ok (.iload_n 1, 1) := by decide +kernel
theorem dX4_digitAt_1 : decode cX4_digitAt 1 = .ok (.aload_n 0, 1) := by decide +kernel
theorem dX4_digitAt_2 : decode cX4_digitAt 2 = .ok (.getfield 22, 3) := by decide +kernel
theorem dX4_digitAt_5 : decode cX4_digitAt 5 = .ok (.if_icmp .ge 12, 3) := by decide +kernel
theorem dX4_digitAt_8 : decode cX4_digitAt 8 = .ok (.iload_n 1, 1) := by decide +kernel
theorem dX4_digitAt_9 : decode cX4_digitAt 9 = .ok (.bipush 60, 2) := by decide +kernel
theorem dX4_digitAt_11 : decode cX4_digitAt 11 = .ok (.invokestatic 26, 3) := by decide +kernel
theorem dX4_digitAt_14 : decode cX4_digitAt 14 = .ok (.ifCond .ne 6, 3) := by decide +kernel
theorem dX4_digitAt_17 : decode cX4_digitAt 17 = .ok (.bipush (-5), 2) := by decide +kernel
theorem dX4_digitAt_19 : decode cX4_digitAt 19 = .ok (.ireturn, 1) := by decide +kernel
theorem dX4_digitAt_20 : decode cX4_digitAt 20 = .ok (.aload_n 0, 1) := by decide +kernel
theorem dX4_digitAt_21 : decode cX4_digitAt 21 = .ok (.getfield 9, 3) := by decide +kernel
theorem dX4_digitAt_24 : decode cX4_digitAt 24 = .ok (.iload_n 1, 1) := by decide +kernel
theorem dX4_digitAt_25 : decode cX4_digitAt 25 = .ok (.caload, 1) := by decide +kernel
theorem dX4_digitAt_26 : decode cX4_digitAt 26 = .ok (.istore_n 2, 1) := by decide +kernel
theorem dX4_digitAt_27 : decode cX4_digitAt 27 = .ok (.iload_n 2, 1) := by decide +kernel
theorem dX4_digitAt_28 : decode cX4_digitAt 28 = .ok (.bipush 48, 2) := by decide +kernel
theorem dX4_digitAt_30 : decode cX4_digitAt 30 = .ok (.if_icmp .lt 16, 3) := by decide +kernel
theorem dX4_digitAt_33 : decode cX4_digitAt 33 = .ok (.iload_n 2, 1) := by decide +kernel
theorem dX4_digitAt_34 : decode cX4_digitAt 34 = .ok (.bipush 57, 2) := by decide +kernel
theorem dX4_digitAt_36 : decode cX4_digitAt 36 = .ok (.if_icmp .gt 10, 3) := by decide +kernel
theorem dX4_digitAt_39 : decode cX4_digitAt 39 = .ok (.iload_n 2, 1) := by decide +kernel
theorem dX4_digitAt_40 : decode cX4_digitAt 40 = .ok (.bipush 48, 2) := by decide +kernel
theorem dX4_digitAt_42 : decode cX4_digitAt 42 = .ok (.isub, 1) := by decide +kernel
theorem dX4_digitAt_43 : decode cX4_digitAt 43 = .ok (.goto 5, 3) := by decide +kernel
theorem dX4_digitAt_46 : decode cX4_digitAt 46 = .ok (.bipush (-5), 2) := by decide +kernel
theorem dX4_digitAt_48 : decode cX4_digitAt 48 = .ok (.ireturn, 1) := by decide +kernel
theorem dX5_init_0 : decode cX5_init 0 = .ok (.aload_n 0, 1) := by decide +kernel
theorem dX5_init_1 : decode cX5_init 1 = .ok (.invokespecial 3, 3) := by decide +kernel
theorem dX5_init_4 : decode cX5_init 4 = .ok (.aload_n 0, 1) := by decide +kernel
theorem dX5_init_5 : decode cX5_init 5 = .ok (.bipush 16, 2) := by decide +kernel
theorem dX5_init_7 : decode cX5_init 7 = .ok (.newarray .int, 2) := by decide +kernel
theorem dX5_init_9 : decode cX5_init 9 = .ok (.putfield 9, 3) := by decide +kernel
theorem dX5_init_12 : decode cX5_init 12 = .ok (.aload_n 0, 1) := by decide +kernel
theorem dX5_init_13 : decode cX5_init 13 = .ok (.iconst 3, 1) := by decide +kernel
theorem dX5_init_14 : decode cX5_init 14 = .ok (.newarray .int, 2) := by decide +kernel
theorem dX5_init_16 : decode cX5_init 16 = .ok (.dup, 1) := by decide +kernel
theorem dX5_init_17 : decode cX5_init 17 = .ok (.iconst 0, 1) := by decide +kernel
theorem dX5_init_18 : decode cX5_init 18 = .ok (.iconst 2, 1) := by decide +kernel
theorem dX5_init_19 : decode cX5_init 19 = .ok (.iastore, 1) := by decide +kernel
theorem dX5_init_20 : decode cX5_init 20 = .ok (.dup, 1) := by decide +kernel
theorem dX5_init_21 : decode cX5_init 21 = .ok (.iconst 1, 1) := by decide +kernel
theorem dX5_init_22 : decode cX5_init 22 = .ok (.iconst 3, 1) := by decide +kernel
theorem dX5_init_23 : decode cX5_init 23 = .ok (.iastore, 1) := by decide +kernel
theorem dX5_init_24 : decode cX5_init 24 = .ok (.dup, 1) := by decide +kernel
theorem dX5_init_25 : decode cX5_init 25 = .ok (.iconst 2, 1) := by decide +kernel
theorem dX5_init_26 : decode cX5_init 26 = .ok (.iconst 0, 1) := by decide +kernel
theorem dX5_init_27 : decode cX5_init 27 = .ok (.iastore, 1) := by decide +kernel
theorem dX5_init_28 : decode cX5_init 28 = .ok (.putfield 15, 3) := by decide +kernel
theorem dX5_init_31 : decode cX5_init 31 = .ok (.aload_n 0, 1) := by decide +kernel
theorem dX5_init_32 : decode cX5_init 32 = .ok (.new 18, 3) := by decide +kernel
theorem dX5_init_35 : decode cX5_init 35 = .ok (.dup, 1) := by decide +kernel
theorem dX5_init_36 : decode cX5_init 36 = .ok (.invokespecial 20, 3) := by decide +kernel
theorem dX5_init_39 : decode cX5_init 39 = .ok (.putfield 21, 3) := by decide +kernel
theorem dX5_init_42 : decode cX5_init 42 = .ok (.return_, 1) := by decide +kernel
theorem dX5_isFull_0 : decode cX5_isFull 0 = .ok (.aload_n 0, 1) := by decide +kernel
theorem dX5_isFull_1 : decode cX5_isFull 1 = .ok (.getfield 21, 3) := by decide +kernel
theorem dX5_isFull_4 : decode cX5_isFull 4 = .ok (.getfield 25, 3) := by decide +kernel
theorem dX5_isFull_7 : decode cX5_isFull 7 = .ok (.aload_n 0, 1) := by decide +kernel
theorem dX5_isFull_8 : decode cX5_isFull 8 = .ok (.getfield 15, 3) := by decide +kernel
theorem dX5_isFull_11 : decode cX5_isFull 11 = .ok (.iconst 0, 1) := by decide +kernel
theorem dX5_isFull_12 : decode cX5_isFull 12 = .ok (.iaload, 1) := by decide +kernel
theorem dX5_isFull_13 : decode cX5_isFull 13 = .ok (.if_icmp .lt 7, 3) := by decide +kernel
theorem dX5_isFull_16 : decode cX5_isFull 16 = .ok (.iconst 1, 1) := by decide +kernel
theorem dX5_isFull_17 : decode cX5_isFull 17 = .ok (.goto 4, 3) := by decide +kernel
theorem dX5_isFull_20 : decode cX5_isFull 20 = .ok (.iconst 0, 1) := by decide +kernel
theorem dX5_isFull_21 : decode cX5_isFull 21 = .ok (.ireturn, 1) := by decide +kernel
theorem dX5_useCell_0 : decode cX5_useCell 0 = .ok (.iload_n 1, 1) := by decide +kernel
theorem dX5_useCell_1 : decode cX5_useCell 1 = .ok (.bipush 16, 2) := by decide +kernel
theorem dX5_useCell_3 : decode cX5_useCell 3 = .ok (.invokestatic 29, 3) := by decide +kernel
theorem dX5_useCell_6 : decode cX5_useCell 6 = .ok (.ifCond .ne 6, 3) := by decide +kernel
theorem dX5_useCell_9 : decode cX5_useCell 9 = .ok (.bipush (-5), 2) := by decide +kernel
theorem dX5_useCell_11 : decode cX5_useCell 11 = .ok (.ireturn, 1) := by decide +kernel
theorem dX5_useCell_12 : decode cX5_useCell 12 = .ok (.aload_n 0, 1) := by decide +kernel
theorem dX5_useCell_13 : decode cX5_useCell 13 = .ok (.getfield 9, 3) := by decide +kernel
theorem dX5_useCell_16 : decode cX5_useCell 16 = .ok (.iload_n 1, 1) := by decide +kernel
theorem dX5_useCell_17 : decode cX5_useCell 17 = .ok (.iaload, 1) := by decide +kernel
theorem dX5_useCell_18 : decode cX5_useCell 18 = .ok (.istore_n 3, 1) := by decide +kernel
theorem dX5_useCell_19 : decode cX5_useCell 19 = .ok (.iload_n 2, 1) := by decide +kernel
theorem dX5_useCell_20 : decode cX5_useCell 20 = .ok (.bipush (-5), 2) := by decide +kernel
theorem dX5_useCell_22 : decode cX5_useCell 22 = .ok (.if_icmp .eq 10, 3) := by decide +kernel
theorem dX5_useCell_25 : decode cX5_useCell 25 = .ok (.aload_n 0, 1) := by decide +kernel
theorem dX5_useCell_26 : decode cX5_useCell 26 = .ok (.getfield 9, 3) := by decide +kernel
theorem dX5_useCell_29 : decode cX5_useCell 29 = .ok (.iload_n 1, 1) := by decide +kernel
theorem dX5_useCell_30 : decode cX5_useCell 30 = .ok (.iload_n 2, 1) := by decide +kernel
theorem dX5_useCell_31 : decode cX5_useCell 31 = .ok (.iastore, 1) := by decide +kernel
theorem dX5_useCell_32 : decode cX5_useCell 32 = .ok (.iload_n 3, 1) := by decide +kernel
theorem dX5_useCell_33 : decode cX5_useCell 33 = .ok (.ireturn, 1) := by decide +kernel
theorem dX5_copyFrom_0 : decode cX5_copyFrom 0 = .ok (.aload_n 1, 1) := by decide +kernel
theorem dX5_copyFrom_1 : decode cX5_copyFrom 1 = .ok (.getfield 9, 3) := by decide +kernel
theorem dX5_copyFrom_4 : decode cX5_copyFrom 4 = .ok (.iconst 0, 1) := by decide +kernel
theorem dX5_copyFrom_5 : decode cX5_copyFrom 5 = .ok (.aload_n 0, 1) := by decide +kernel
theorem dX5_copyFrom_6 : decode cX5_copyFrom 6 = .ok (.getfield 9, 3) := by decide +kernel
theorem dX5_copyFrom_9 : decode cX5_copyFrom 9 = .ok (.iconst 0, 1) := by decide +kernel
theorem dX5_copyFrom_10 : decode cX5_copyFrom 10 = .ok (.bipush 16, 2) := by decide +kernel
theorem dX5_copyFrom_12 : decode cX5_copyFrom 12 = .ok (.invokestatic 33, 3) := by decide +kernel
theorem dX5_copyFrom_15 : decode cX5_copyFrom 15 = .ok (.aload_n 1, 1) := by decide +kernel
theorem dX5_copyFrom_16 : decode cX5_copyFrom 16 = .ok (.getfield 15, 3) := by decide +kernel
theorem dX5_copyFrom_19 : decode cX5_copyFrom 19 = .ok (.iconst 0, 1) := by decide +kernel
theorem dX5_copyFrom_20 : decode cX5_copyFrom 20 = .ok (.aload_n 0, 1) := by decide +kernel
theorem dX5_copyFrom_21 : decode cX5_copyFrom 21 = .ok (.getfield 15, 3) := by decide +kernel
theorem dX5_copyFrom_24 : decode cX5_copyFrom 24 = .ok (.iconst 0, 1) := by decide +kernel
theorem dX5_copyFrom_25 : decode cX5_copyFrom 25 = .ok (.aload_n 0, 1) := by decide +kernel
theorem dX5_copyFrom_26 : decode cX5_copyFrom 26 = .ok (.getfield 15, 3) := by decide +kernel
theorem dX5_copyFrom_29 : decode cX5_copyFrom 29 = .ok (.arraylength, 1) := by decide +kernel
theorem dX5_copyFrom_30 : decode cX5_copyFrom 30 = .ok (.invokestatic 33, 3) := by decide +kernel
theorem dX5_copyFrom_33 : decode cX5_copyFrom 33 = .ok (.aload_n 0, 1) := by decide +kernel
theorem dX5_copyFrom_34 : decode cX5_copyFrom 34 = .ok (.getfield 21, 3) := by decide +kernel
theorem dX5_copyFrom_37 : decode cX5_copyFrom 37 = .ok (.aload_n 1, 1) := by decide +kernel
theorem dX5_copyFrom_38 : decode cX5_copyFrom 38 = .ok (.getfield 21, 3) := by decide +kernel
theorem dX5_copyFrom_41 : decode cX5_copyFrom 41 = .ok (.invokevirtual 39, 3) := by decide +kernel
theorem dX5_copyFrom_44 : decode cX5_copyFrom 44 = .ok (.return_, 1) := by decide +kernel
theorem dX6_init_0 : decode cX6_init 0 = .ok (.aload_n 0, 1) := by decide +kernel
theorem dX6_init_1 : decode cX6_init 1 = .ok (.invokespecial 1, 3) := by decide +kernel
theorem dX6_init_4 : decode cX6_init 4 = .ok (.aload_n 0, 1) := by decide +kernel
theorem dX6_init_5 : decode cX6_init 5 = .ok (.new 7, 3) := by decide +kernel
theorem dX6_init_8 : decode cX6_init 8 = .ok (.dup, 1) := by decide +kernel
theorem dX6_init_9 : decode cX6_init 9 = .ok (.invokespecial 9, 3) := by decide +kernel
theorem dX6_init_12 : decode cX6_init 12 = .ok (.putfield 10, 3) := by decide +kernel
theorem dX6_init_15 : decode cX6_init 15 = .ok (.aload_n 0, 1) := by decide +kernel
theorem dX6_init_16 : decode cX6_init 16 = .ok (.new 7, 3) := by decide +kernel
theorem dX6_init_19 : decode cX6_init 19 = .ok (.dup, 1) := by decide +kernel
theorem dX6_init_20 : decode cX6_init 20 = .ok (.invokespecial 9, 3) := by decide +kernel
theorem dX6_init_23 : decode cX6_init 23 = .ok (.putfield 16, 3) := by decide +kernel
theorem dX6_init_26 : decode cX6_init 26 = .ok (.aload_n 0, 1) := by decide +kernel
theorem dX6_init_27 : decode cX6_init 27 = .ok (.new 7, 3) := by decide +kernel
theorem dX6_init_30 : decode cX6_init 30 = .ok (.dup, 1) := by decide +kernel
theorem dX6_init_31 : decode cX6_init 31 = .ok (.invokespecial 9, 3) := by decide +kernel
theorem dX6_init_34 : decode cX6_init 34 = .ok (.putfield 19, 3) := by decide +kernel
theorem dX6_init_37 : decode cX6_init 37 = .ok (.aload_n 0, 1) := by decide +kernel
theorem dX6_init_38 : decode cX6_init 38 = .ok (.iconst 4, 1) := by decide +kernel
theorem dX6_init_39 : decode cX6_init 39 = .ok (.anewarray 7, 3) := by decide +kernel
theorem dX6_init_42 : decode cX6_init 42 = .ok (.putfield 22, 3) := by decide +kernel
theorem dX6_init_45 : decode cX6_init 45 = .ok (.aload_n 0, 1) := by decide +kernel
theorem dX6_init_46 : decode cX6_init 46 = .ok (.new 26, 3) := by decide +kernel
theorem dX6_init_49 : decode cX6_init 49 = .ok (.dup, 1) := by decide +kernel
theorem dX6_init_50 : decode cX6_init 50 = .ok (.invokespecial 28, 3) := by decide +kernel
theorem dX6_init_53 : decode cX6_init 53 = .ok (.putfield 29, 3) := by decide +kernel
theorem dX6_init_56 : decode cX6_init 56 = .ok (.iconst 0, 1) := by decide +kernel
theorem dX6_init_57 : decode cX6_init 57 = .ok (.istore_n 1, 1) := by decide +kernel
theorem dX6_init_58 : decode cX6_init 58 = .ok (.iload_n 1, 1) := by decide +kernel
theorem dX6_init_59 : decode cX6_init 59 = .ok (.iconst 4, 1) := by decide +kernel
theorem dX6_init_60 : decode cX6_init 60 = .ok (.if_icmp .ge 22, 3) := by decide +kernel
theorem dX6_init_63 : decode cX6_init 63 = .ok (.aload_n 0, 1) := by decide +kernel
theorem dX6_init_64 : decode cX6_init 64 = .ok (.getfield 22, 3) := by decide +kernel
theorem dX6_init_67 : decode cX6_init 67 = .ok (.iload_n 1, 1) := by decide +kernel
theorem dX6_init_68 : decode cX6_init 68 = .ok (.new 7, 3) := by decide +kernel
theorem dX6_init_71 : decode cX6_init 71 = .ok (.dup, 1) := by decide +kernel
theorem dX6_init_72 : decode cX6_init 72 = .ok (.invokespecial 9, 3) := by decide +kernel
theorem dX6_init_75 : decode cX6_init 75 = .ok (.aastore, 1) := by decide +kernel
theorem dX6_init_76 : decode cX6_init 76 = .ok (.iinc 1 1, 3) := by decide +kernel
theorem dX6_init_79 : decode cX6_init 79 = .ok (.goto (-21), 3) := by decide +kernel
theorem dX6_init_82 : decode cX6_init 82 = .ok (.return_, 1) := by decide +kernel
theorem dX6_set_0 : decode cX6_set 0 = .ok (.iload_n 1, 1) := by decide +kernel
theorem dX6_set_1 : decode cX6_set 1 = .ok (.getstatic 33, 3) := by decide +kernel
theorem dX6_set_4 : decode cX6_set 4 = .ok (.arraylength, 1) := by decide +kernel
theorem dX6_set_5 : decode cX6_set 5 = .ok (.invokestatic 37, 3) := by decide +kernel
theorem dX6_set_8 : decode cX6_set 8 = .ok (.ifCond .eq 20, 3) := by decide +kernel
theorem dX6_set_11 : decode cX6_set 11 = .ok (.iload_n 2, 1) := by decide +kernel
theorem dX6_set_12 : decode cX6_set 12 = .ok (.getstatic 33, 3) := by decide +kernel
theorem dX6_set_15 : decode cX6_set 15 = .ok (.iload_n 1, 1) := by decide +kernel
theorem dX6_set_16 : decode cX6_set 16 = .ok (.iaload, 1) := by decide +kernel
theorem dX6_set_17 : decode cX6_set 17 = .ok (.getstatic 41, 3) := by decide +kernel
theorem dX6_set_20 : decode cX6_set 20 = .ok (.iload_n 1, 1) := by decide +kernel
theorem dX6_set_21 : decode cX6_set 21 = .ok (.iaload, 1) := by decide +kernel
theorem dX6_set_22 : decode cX6_set 22 = .ok (.invokestatic 44, 3) := by decide +kernel
theorem dX6_set_25 : decode cX6_set 25 = .ok (.ifCond .ne 6, 3) := by decide +kernel
theorem dX6_set_28 : decode cX6_set 28 = .ok (.bipush (-2), 2) := by decide +kernel
theorem dX6_set_30 : decode cX6_set 30 = .ok (.ireturn, 1) := by decide +kernel
theorem dX6_set_31 : decode cX6_set 31 = .ok (.iload_n 1, 1) := by decide +kernel
theorem dX6_set_32 : decode cX6_set 32 = .ok (.ifCond .ne 17, 3) := by decide +kernel
theorem dX6_set_35 : decode cX6_set 35 = .ok (.aload_n 0, 1) := by decide +kernel
theorem dX6_set_36 : decode cX6_set 36 = .ok (.getfield 10, 3) := by decide +kernel
theorem dX6_set_39 : decode cX6_set 39 = .ok (.invokevirtual 48, 3) := by decide +kernel
theorem dX6_set_42 : decode cX6_set 42 = .ok (.iload_n 2, 1) := by decide +kernel
theorem dX6_set_43 : decode cX6_set 43 = .ok (.if_icmp .lt 6, 3) := by decide +kernel
theorem dX6_set_46 : decode cX6_set 46 = .ok (.bipush (-4), 2) := by decide +kernel
theorem dX6_set_48 : decode cX6_set 48 = .ok (.ireturn, 1) := by decide +kernel
theorem dX6_set_49 : decode cX6_set 49 = .ok (.aload_n 0, 1) := by decide +kernel
theorem dX6_set_50 : decode cX6_set 50 = .ok (.getfield 10, 3) := by decide +kernel
theorem dX6_set_53 : decode cX6_set 53 = .ok (.getfield 52, 3) := by decide +kernel
theorem dX6_set_56 : decode cX6_set 56 = .ok (.iload_n 1, 1) := by decide +kernel
theorem dX6_set_57 : decode cX6_set 57 = .ok (.iaload, 1) := by decide +kernel
theorem dX6_set_58 : decode cX6_set 58 = .ok (.istore_n 3, 1) := by decide +kernel
theorem dX6_set_59 : decode cX6_set 59 = .ok (.iload_n 3, 1) := by decide +kernel
theorem dX6_set_60 : decode cX6_set 60 = .ok (.iload_n 2, 1) := by decide +kernel
theorem dX6_set_61 : decode cX6_set 61 = .ok (.if_icmp .ne 6, 3) := by decide +kernel
theorem dX6_set_64 : decode cX6_set 64 = .ok (.bipush (-5), 2) := by decide +kernel
theorem dX6_set_66 : decode cX6_set 66 = .ok (.ireturn, 1) := by decide +kernel
theorem dX6_set_67 : decode cX6_set 67 = .ok (.aload_n 0, 1) := by decide +kernel
theorem dX6_set_68 : decode cX6_set 68 = .ok (.invokevirtual 55, 3) := by decide +kernel
theorem dX6_set_71 : decode cX6_set 71 = .ok (.aload_n 0, 1) := by decide +kernel
theorem dX6_set_72 : decode cX6_set 72 = .ok (.getfield 10, 3) := by decide +kernel
theorem dX6_set_75 : decode cX6_set 75 = .ok (.getfield 52, 3) := by decide +kernel
theorem dX6_set_78 : decode cX6_set 78 = .ok (.iload_n 1, 1) := by decide +kernel
theorem dX6_set_79 : decode cX6_set 79 = .ok (.iload_n 2, 1) := by decide +kernel
theorem dX6_set_80 : decode cX6_set 80 = .ok (.iastore, 1) := by decide +kernel
theorem dX6_set_81 : decode cX6_set 81 = .ok (.iload_n 3, 1) := by decide +kernel
theorem dX6_set_82 : decode cX6_set 82 = .ok (.ireturn, 1) := by decide +kernel
theorem dX6_setShare_0 : decode cX6_setShare 0 = .ok (.aload_n 0, 1) := by decide +kernel
theorem dX6_setShare_1 : decode cX6_setShare 1 = .ok (.getfield 10, 3) := by decide +kernel
theorem dX6_setShare_4 : decode cX6_setShare 4 = .ok (.iload_n 1, 1) := by decide +kernel
theorem dX6_setShare_5 : decode cX6_setShare 5 = .ok (.invokevirtual 58, 3) := by decide +kernel
theorem dX6_setShare_8 : decode cX6_setShare 8 = .ok (.astore_n 3, 1) := by decide +kernel
theorem dX6_setShare_9 : decode cX6_setShare 9 = .ok (.aload_n 3, 1) := by decide +kernel
theorem dX6_setShare_10 : decode cX6_setShare 10 = .ok (.ifnonnull 5, 3) := by decide +kernel
theorem dX6_setShare_13 : decode cX6_setShare 13 = .ok (.iconst (-1), 1) := by decide +kernel
theorem dX6_setShare_14 : decode cX6_setShare 14 = .ok (.ireturn, 1) := by decide +kernel
theorem dX6_setShare_15 : decode cX6_setShare 15 = .ok (.iload_n 2, 1) := by decide +kernel
theorem dX6_setShare_16 : decode cX6_setShare 16 = .ok (.iconst 1, 1) := by decide +kernel
theorem dX6_setShare_17 : decode cX6_setShare 17 = .ok (.bipush 8, 2) := by decide +kernel
theorem dX6_setShare_19 : decode cX6_setShare 19 = .ok (.invokestatic 44, 3) := by decide +kernel
theorem dX6_setShare_22 : decode cX6_setShare 22 = .ok (.ifCond .ne 6, 3) := by decide +kernel
theorem dX6_setShare_25 : decode cX6_setShare 25 = .ok (.bipush (-2), 2) := by decide +kernel
theorem dX6_setShare_27 : decode cX6_setShare 27 = .ok (.ireturn, 1) := by decide +kernel
theorem dX6_setShare_28 : decode cX6_setShare 28 = .ok (.aload_n 3, 1) := by decide +kernel
theorem dX6_setShare_29 : decode cX6_setShare 29 = .ok (.getfield 62, 3) := by decide +kernel
theorem dX6_setShare_32 : decode cX6_setShare 32 = .ok (.istore 4, 2) := by decide +kernel
theorem dX6_setShare_34 : decode cX6_setShare 34 = .ok (.iload 4, 2) := by decide +kernel
theorem dX6_setShare_36 : decode cX6_setShare 36 = .ok (.iload_n 2, 1) := by decide +kernel
theorem dX6_setShare_37 : decode cX6_setShare 37 = .ok (.if_icmp .ne 6, 3) := by decide +kernel
theorem dX6_setShare_40 : decode cX6_setShare 40 = .ok (.bipush (-5), 2) := by decide +kernel
theorem dX6_setShare_42 : decode cX6_setShare 42 = .ok (.ireturn, 1) := by decide +kernel
theorem dX6_setShare_43 : decode cX6_setShare 43 = .ok (.aload_n 0, 1) := by decide +kernel
theorem dX6_setShare_44 : decode cX6_setShare 44 = .ok (.invokevirtual 55, 3) := by decide +kernel
theorem dX6_setShare_47 : decode cX6_setShare 47 = .ok (.aload_n 3, 1) := by decide +kernel
theorem dX6_setShare_48 : decode cX6_setShare 48 = .ok (.iload_n 2, 1) := by decide +kernel
theorem dX6_setShare_49 : decode cX6_setShare 49 = .ok (.putfield 62, 3) := by decide +kernel
theorem dX6_setShare_52 : decode cX6_setShare 52 = .ok (.iload 4, 2) := by decide +kernel
theorem dX6_setShare_54 : decode cX6_setShare 54 = .ok (.ireturn, 1) := by decide +kernel
theorem dX6_setTarget_0 : decode cX6_setTarget 0 = .ok (.aload_n 0, 1) := by decide +kernel
theorem dX6_setTarget_1 : decode cX6_setTarget 1 = .ok (.getfield 10, 3) := by decide +kernel
theorem dX6_setTarget_4 : decode cX6_setTarget 4 = .ok (.iload_n 1, 1) := by decide +kernel
theorem dX6_setTarget_5 : decode cX6_setTarget 5 = .ok (.invokevirtual 68, 3) := by decide +kernel
theorem dX6_setTarget_8 : decode cX6_setTarget 8 = .ok (.astore 4, 2) := by decide +kernel
theorem dX6_setTarget_10 : decode cX6_setTarget 10 = .ok (.aload 4, 2) := by decide +kernel
theorem dX6_setTarget_12 : decode cX6_setTarget 12 = .ok (.ifnonnull 5, 3) := by decide +kernel
theorem dX6_setTarget_15 : decode cX6_setTarget 15 = .ok (.iconst (-1), 1) := by decide +kernel
theorem dX6_setTarget_16 : decode cX6_setTarget 16 = .ok (.ireturn, 1) := by decide +kernel
theorem dX6_setTarget_17 : decode cX6_setTarget 17 = .ok (.iload_n 2, 1) := by decide +kernel
theorem dX6_setTarget_18 : decode cX6_setTarget 18 = .ok (.getstatic 72, 3) := by decide +kernel
theorem dX6_setTarget_21 : decode cX6_setTarget 21 = .ok (.arraylength, 1) := by decide +kernel
theorem dX6_setTarget_22 : decode cX6_setTarget 22 = .ok (.invokestatic 37, 3) := by decide +kernel
theorem dX6_setTarget_25 : decode cX6_setTarget 25 = .ok (.ifCond .eq 20, 3) := by decide +kernel
theorem dX6_setTarget_28 : decode cX6_setTarget 28 = .ok (.iload_n 3, 1) := by decide +kernel
theorem dX6_setTarget_29 : decode cX6_setTarget 29 = .ok (.getstatic 72, 3) := by decide +kernel
theorem dX6_setTarget_32 : decode cX6_setTarget 32 = .ok (.iload_n 2, 1) := by decide +kernel
theorem dX6_setTarget_33 : decode cX6_setTarget 33 = .ok (.iaload, 1) := by decide +kernel
theorem dX6_setTarget_34 : decode cX6_setTarget 34 = .ok (.getstatic 75, 3) := by decide +kernel
theorem dX6_setTarget_37 : decode cX6_setTarget 37 = .ok (.iload_n 2, 1) := by decide +kernel
theorem dX6_setTarget_38 : decode cX6_setTarget 38 = .ok (.iaload, 1) := by decide +kernel
theorem dX6_setTarget_39 : decode cX6_setTarget 39 = .ok (.invokestatic 44, 3) := by decide +kernel
theorem dX6_setTarget_42 : decode cX6_setTarget 42 = .ok (.ifCond .ne 6, 3) := by decide +kernel
theorem dX6_setTarget_45 : decode cX6_setTarget 45 = .ok (.bipush (-2), 2) := by decide +kernel
theorem dX6_setTarget_47 : decode cX6_setTarget 47 = .ok (.ireturn, 1) := by decide +kernel
theorem dX6_setTarget_48 : decode cX6_setTarget 48 = .ok (.aload 4, 2) := by decide +kernel
theorem dX6_setTarget_50 : decode cX6_setTarget 50 = .ok (.getfield 78, 3) := by decide +kernel
theorem dX6_setTarget_53 : decode cX6_setTarget 53 = .ok (.iload_n 2, 1) := by decide +kernel
theorem dX6_setTarget_54 : decode cX6_setTarget 54 = .ok (.iaload, 1) := by decide +kernel
theorem dX6_setTarget_55 : decode cX6_setTarget 55 = .ok (.istore 5, 2) := by decide +kernel
theorem dX6_setTarget_57 : decode cX6_setTarget 57 = .ok (.iload 5, 2) := by decide +kernel
theorem dX6_setTarget_59 : decode cX6_setTarget 59 = .ok (.iload_n 3, 1) := by decide +kernel
theorem dX6_setTarget_60 : decode cX6_setTarget 60 = .ok (.if_icmp .ne 6, 3) := by decide +kernel
theorem dX6_setTarget_63 : decode cX6_setTarget 63 = .ok (.bipush (-5), 2) := by decide +kernel
theorem dX6_setTarget_65 : decode cX6_setTarget 65 = .ok (.ireturn, 1) := by decide +kernel
theorem dX6_setTarget_66 : decode cX6_setTarget 66 = .ok (.aload_n 0, 1) := by decide +kernel
theorem dX6_setTarget_67 : decode cX6_setTarget 67 = .ok (.invokevirtual 55, 3) := by decide +kernel
theorem dX6_setTarget_70 : decode cX6_setTarget 70 = .ok (.aload 4, 2) := by decide +kernel
theorem dX6_setTarget_72 : decode cX6_setTarget 72 = .ok (.getfield 78, 3) := by decide +kernel
theorem dX6_setTarget_75 : decode cX6_setTarget 75 = .ok (.iload_n 2, 1) := by decide +kernel
theorem dX6_setTarget_76 : decode cX6_setTarget 76 = .ok (.iload_n 3, 1) := by decide +kernel
theorem dX6_setTarget_77 : decode cX6_setTarget 77 = .ok (.iastore, 1) := by decide +kernel
theorem dX6_setTarget_78 : decode cX6_setTarget 78 = .ok (.iload 5, 2) := by decide +kernel
theorem dX6_setTarget_80 : decode cX6_setTarget 80 = .ok (.ireturn, 1) := by decide +kernel
theorem dX6_setCell_0 : decode cX6_setCell 0 = .ok (.aload_n 0, 1) := by decide +kernel
theorem dX6_setCell_1 : decode cX6_setCell 1 = .ok (.getfield 10, 3) := by decide +kernel
theorem dX6_setCell_4 : decode cX6_setCell 4 = .ok (.iload_n 1, 1) := by decide +kernel
theorem dX6_setCell_5 : decode cX6_setCell 5 = .ok (.invokevirtual 68, 3) := by decide +kernel
theorem dX6_setCell_8 : decode cX6_setCell 8 = .ok (.astore 4, 2) := by decide +kernel
theorem dX6_setCell_10 : decode cX6_setCell 10 = .ok (.aload 4, 2) := by decide +kernel
theorem dX6_setCell_12 : decode cX6_setCell 12 = .ok (.ifnonnull 5, 3) := by decide +kernel
theorem dX6_setCell_15 : decode cX6_setCell 15 = .ok (.iconst (-1), 1) := by decide +kernel
theorem dX6_setCell_16 : decode cX6_setCell 16 = .ok (.ireturn, 1) := by decide +kernel
theorem dX6_setCell_17 : decode cX6_setCell 17 = .ok (.iload_n 2, 1) := by decide +kernel
theorem dX6_setCell_18 : decode cX6_setCell 18 = .ok (.bipush 16, 2) := by decide +kernel
theorem dX6_setCell_20 : decode cX6_setCell 20 = .ok (.invokestatic 37, 3) := by decide +kernel
theorem dX6_setCell_23 : decode cX6_setCell 23 = .ok (.ifCond .eq 13, 3) := by decide +kernel
theorem dX6_setCell_26 : decode cX6_setCell 26 = .ok (.iload_n 3, 1) := by decide +kernel
theorem dX6_setCell_27 : decode cX6_setCell 27 = .ok (.iconst 0, 1) := by decide +kernel
theorem dX6_setCell_28 : decode cX6_setCell 28 = .ok (.bipush 99, 2) := by decide +kernel
theorem dX6_setCell_30 : decode cX6_setCell 30 = .ok (.invokestatic 44, 3) := by decide +kernel
theorem dX6_setCell_33 : decode cX6_setCell 33 = .ok (.ifCond .ne 6, 3) := by decide +kernel
theorem dX6_setCell_36 : decode cX6_setCell 36 = .ok (.bipush (-2), 2) := by decide +kernel
theorem dX6_setCell_38 : decode cX6_setCell 38 = .ok (.ireturn, 1) := by decide +kernel
theorem dX6_setCell_39 : decode cX6_setCell 39 = .ok (.aload 4, 2) := by decide +kernel
theorem dX6_setCell_41 : decode cX6_setCell 41 = .ok (.getfield 83, 3) := by decide +kernel
theorem dX6_setCell_44 : decode cX6_setCell 44 = .ok (.iload_n 2, 1) := by decide +kernel
theorem dX6_setCell_45 : decode cX6_setCell 45 = .ok (.iaload, 1) := by decide +kernel
theorem dX6_setCell_46 : decode cX6_setCell 46 = .ok (.istore 5, 2) := by decide +kernel
theorem dX6_setCell_48 : decode cX6_setCell 48 = .ok (.iload 5, 2) := by decide +kernel
theorem dX6_setCell_50 : decode cX6_setCell 50 = .ok (.iload_n 3, 1) := by decide +kernel
theorem dX6_setCell_51 : decode cX6_setCell 51 = .ok (.if_icmp .ne 6, 3) := by decide +kernel
theorem dX6_setCell_54 : decode cX6_setCell 54 = .ok (.bipush (-5), 2) := by decide +kernel
theorem dX6_setCell_56 : decode cX6_setCell 56 = .ok (.ireturn, 1) := by decide +kernel
theorem dX6_setCell_57 : decode cX6_setCell 57 = .ok (.aload_n 0, 1) := by decide +kernel
theorem dX6_setCell_58 : decode cX6_setCell 58 = .ok (.invokevirtual 55, 3) := by decide +kernel
theorem dX6_setCell_61 : decode cX6_setCell 61 = .ok (.aload 4, 2) := by decide +kernel
theorem dX6_setCell_63 : decode cX6_setCell 63 = .ok (.getfield 83, 3) := by decide +kernel
theorem dX6_setCell_66 : decode cX6_setCell 66 = .ok (.iload_n 2, 1) := by decide +kernel
theorem dX6_setCell_67 : decode cX6_setCell 67 = .ok (.iload_n 3, 1) := by decide +kernel
theorem dX6_setCell_68 : decode cX6_setCell 68 = .ok (.iastore, 1) := by decide +kernel
theorem dX6_setCell_69 : decode cX6_setCell 69 = .ok (.iload 5, 2) := by decide +kernel
theorem dX6_setCell_71 : decode cX6_setCell 71 = .ok (.ireturn, 1) := by decide +kernel
theorem dX6_read_0 : decode cX6_read 0 = .ok (.aload_n 0, 1) := by decide +kernel
theorem dX6_read_1 : decode cX6_read 1 = .ok (.iload_n 1, 1) := by decide +kernel
theorem dX6_read_2 : decode cX6_read 2 = .ok (.iload_n 2, 1) := by decide +kernel
theorem dX6_read_3 : decode cX6_read 3 = .ok (.iload_n 3, 1) := by decide +kernel
theorem dX6_read_4 : decode cX6_read 4 = .ok (.bipush (-5), 2) := by decide +kernel
theorem dX6_read_6 : decode cX6_read 6 = .ok (.invokevirtual 86, 3) := by decide +kernel
theorem dX6_read_9 : decode cX6_read 9 = .ok (.ireturn, 1) := by decide +kernel
theorem dX6_write_0 : decode cX6_write 0 = .ok (.aload_n 0, 1) := by decide +kernel
theorem dX6_write_1 : decode cX6_write 1 = .ok (.getfield 10, 3) := by decide +kernel
theorem dX6_write_4 : decode cX6_write 4 = .ok (.iload_n 1, 1) := by decide +kernel
theorem dX6_write_5 : decode cX6_write 5 = .ok (.invokevirtual 58, 3) := by decide +kernel
theorem dX6_write_8 : decode cX6_write 8 = .ok (.ifnull 14, 3) := by decide +kernel
theorem dX6_write_11 : decode cX6_write 11 = .ok (.aload_n 0, 1) := by decide +kernel
theorem dX6_write_12 : decode cX6_write 12 = .ok (.getfield 10, 3) := by decide +kernel
theorem dX6_write_15 : decode cX6_write 15 = .ok (.iload_n 2, 1) := by decide +kernel
theorem dX6_write_16 : decode cX6_write 16 = .ok (.invokevirtual 68, 3) := by decide +kernel
theorem dX6_write_19 : decode cX6_write 19 = .ok (.ifnonnull 5, 3) := by decide +kernel
theorem dX6_write_22 : decode cX6_write 22 = .ok (.iconst (-1), 1) := by decide +kernel
theorem dX6_write_23 : decode cX6_write 23 = .ok (.ireturn, 1) := by decide +kernel
theorem dX6_write_24 : decode cX6_write 24 = .ok (.iload 4, 2) := by decide +kernel
theorem dX6_write_26 : decode cX6_write 26 = .ok (.iconst 0, 1) := by decide +kernel
theorem dX6_write_27 : decode cX6_write 27 = .ok (.bipush 99, 2) := by decide +kernel
theorem dX6_write_29 : decode cX6_write 29 = .ok (.invokestatic 44, 3) := by decide +kernel
theorem dX6_write_32 : decode cX6_write 32 = .ok (.ifCond .ne 6, 3) := by decide +kernel
theorem dX6_write_35 : decode cX6_write 35 = .ok (.bipush (-2), 2) := by decide +kernel
theorem dX6_write_37 : decode cX6_write 37 = .ok (.ireturn, 1) := by decide +kernel
end
section
theorem dX6_write_38 : decode cX6_write 38 = .ok (.aload_n 0, 1) := by decide +kernel
theorem dX6_write_39 : decode cX6_write 39 = .ok (.iload_n 1, 1) := by decide +kernel
theorem dX6_write_40 : decode cX6_write 40 = .ok (.iload_n 2, 1) := by decide +kernel
theorem dX6_write_41 : decode cX6_write 41 = .ok (.iload_n 3, 1) := by decide +kernel
theorem dX6_write_42 : decode cX6_write 42 = .ok (.iload 4, 2) := by decide +kernel
theorem dX6_write_44 : decode cX6_write 44 = .ok (.invokevirtual 86, 3) := by decide +kernel
theorem dX6_write_47 : decode cX6_write 47 = .ok (.ireturn, 1) := by decide +kernel
theorem dX6_ask_0 : decode cX6_ask 0 = .ok (.aload_n 0, 1) := by decide +kernel
theorem dX6_ask_1 : decode cX6_ask 1 = .ok (.getfield 29, 3) := by decide +kernel
theorem dX6_ask_4 : decode cX6_ask 4 = .ok (.invokevirtual 90, 3) := by decide +kernel
theorem dX6_ask_7 : decode cX6_ask 7 = .ok (.istore_n 1, 1) := by decide +kernel
theorem dX6_ask_8 : decode cX6_ask 8 = .ok (.iload_n 1, 1) := by decide +kernel
theorem dX6_ask_9 : decode cX6_ask 9 = .ok (.bipush (-5), 2) := by decide +kernel
theorem dX6_ask_11 : decode cX6_ask 11 = .ok (.if_icmp .eq 8, 3) := by decide +kernel
theorem dX6_ask_14 : decode cX6_ask 14 = .ok (.bipush (-100), 2) := by decide +kernel
theorem dX6_ask_16 : decode cX6_ask 16 = .ok (.iload_n 1, 1) := by decide +kernel
theorem dX6_ask_17 : decode cX6_ask 17 = .ok (.isub, 1) := by decide +kernel
theorem dX6_ask_18 : decode cX6_ask 18 = .ok (.ireturn, 1) := by decide +kernel
theorem dX6_ask_19 : decode cX6_ask 19 = .ok (.aload_n 0, 1) := by decide +kernel
theorem dX6_ask_20 : decode cX6_ask 20 = .ok (.invokevirtual 93, 3) := by decide +kernel
theorem dX6_ask_23 : decode cX6_ask 23 = .ok (.ifCond .ne 6, 3) := by decide +kernel
theorem dX6_ask_26 : decode cX6_ask 26 = .ok (.bipush (-3), 2) := by decide +kernel
theorem dX6_ask_28 : decode cX6_ask 28 = .ok (.ireturn, 1) := by decide +kernel
theorem dX6_ask_29 : decode cX6_ask 29 = .ok (.aload_n 0, 1) := by decide +kernel
theorem dX6_ask_30 : decode cX6_ask 30 = .ok (.invokevirtual 55, 3) := by decide +kernel
theorem dX6_ask_33 : decode cX6_ask 33 = .ok (.iconst 0, 1) := by decide +kernel
theorem dX6_ask_34 : decode cX6_ask 34 = .ok (.istore_n 2, 1) := by decide +kernel
theorem dX6_ask_35 : decode cX6_ask 35 = .ok (.iload_n 2, 1) := by decide +kernel
theorem dX6_ask_36 : decode cX6_ask 36 = .ok (.aload_n 0, 1) := by decide +kernel
theorem dX6_ask_37 : decode cX6_ask 37 = .ok (.getfield 29, 3) := by decide +kernel
theorem dX6_ask_40 : decode cX6_ask 40 = .ok (.getfield 97, 3) := by decide +kernel
theorem dX6_ask_43 : decode cX6_ask 43 = .ok (.if_icmp .ge 46, 3) := by decide +kernel
theorem dX6_ask_46 : decode cX6_ask 46 = .ok (.aload_n 0, 1) := by decide +kernel
theorem dX6_ask_47 : decode cX6_ask 47 = .ok (.getfield 29, 3) := by decide +kernel
theorem dX6_ask_50 : decode cX6_ask 50 = .ok (.iload_n 2, 1) := by decide +kernel
theorem dX6_ask_51 : decode cX6_ask 51 = .ok (.invokevirtual 100, 3) := by decide +kernel
theorem dX6_ask_54 : decode cX6_ask 54 = .ok (.astore_n 3, 1) := by decide +kernel
theorem dX6_ask_55 : decode cX6_ask 55 = .ok (.aload_n 3, 1) := by decide +kernel
theorem dX6_ask_56 : decode cX6_ask 56 = .ok (.ifnull 27, 3) := by decide +kernel
theorem dX6_ask_59 : decode cX6_ask 59 = .ok (.aload_n 0, 1) := by decide +kernel
theorem dX6_ask_60 : decode cX6_ask 60 = .ok (.getfield 10, 3) := by decide +kernel
theorem dX6_ask_63 : decode cX6_ask 63 = .ok (.aload_n 3, 1) := by decide +kernel
theorem dX6_ask_64 : decode cX6_ask 64 = .ok (.getfield 104, 3) := by decide +kernel
theorem dX6_ask_67 : decode cX6_ask 67 = .ok (.aload_n 3, 1) := by decide +kernel
theorem dX6_ask_68 : decode cX6_ask 68 = .ok (.getfield 109, 3) := by decide +kernel
theorem dX6_ask_71 : decode cX6_ask 71 = .ok (.aload_n 3, 1) := by decide +kernel
theorem dX6_ask_72 : decode cX6_ask 72 = .ok (.getfield 112, 3) := by decide +kernel
theorem dX6_ask_75 : decode cX6_ask 75 = .ok (.aload_n 3, 1) := by decide +kernel
theorem dX6_ask_76 : decode cX6_ask 76 = .ok (.getfield 115, 3) := by decide +kernel
theorem dX6_ask_79 : decode cX6_ask 79 = .ok (.invokevirtual 118, 3) := by decide +kernel
theorem dX6_ask_82 : decode cX6_ask 82 = .ok (.pop, 1) := by decide +kernel
theorem dX6_ask_83 : decode cX6_ask 83 = .ok (.iinc 2 1, 3) := by decide +kernel
theorem dX6_ask_86 : decode cX6_ask 86 = .ok (.goto (-51), 3) := by decide +kernel
theorem dX6_ask_89 : decode cX6_ask 89 = .ok (.aload_n 0, 1) := by decide +kernel
theorem dX6_ask_90 : decode cX6_ask 90 = .ok (.getfield 29, 3) := by decide +kernel
theorem dX6_ask_93 : decode cX6_ask 93 = .ok (.getfield 97, 3) := by decide +kernel
theorem dX6_ask_96 : decode cX6_ask 96 = .ok (.ireturn, 1) := by decide +kernel
theorem dX6_withdraw_0 : decode cX6_withdraw 0 = .ok (.aload_n 0, 1) := by decide +kernel
theorem dX6_withdraw_1 : decode cX6_withdraw 1 = .ok (.getfield 10, 3) := by decide +kernel
theorem dX6_withdraw_4 : decode cX6_withdraw 4 = .ok (.iload_n 1, 1) := by decide +kernel
theorem dX6_withdraw_5 : decode cX6_withdraw 5 = .ok (.invokevirtual 58, 3) := by decide +kernel
theorem dX6_withdraw_8 : decode cX6_withdraw 8 = .ok (.astore_n 2, 1) := by decide +kernel
theorem dX6_withdraw_9 : decode cX6_withdraw 9 = .ok (.aload_n 2, 1) := by decide +kernel
theorem dX6_withdraw_10 : decode cX6_withdraw 10 = .ok (.ifnonnull 5, 3) := by decide +kernel
theorem dX6_withdraw_13 : decode cX6_withdraw 13 = .ok (.iconst (-1), 1) := by decide +kernel
theorem dX6_withdraw_14 : decode cX6_withdraw 14 = .ok (.ireturn, 1) := by decide +kernel
theorem dX6_withdraw_15 : decode cX6_withdraw 15 = .ok (.aload_n 2, 1) := by decide +kernel
theorem dX6_withdraw_16 : decode cX6_withdraw 16 = .ok (.getfield 121, 3) := by decide +kernel
theorem dX6_withdraw_19 : decode cX6_withdraw 19 = .ok (.getfield 125, 3) := by decide +kernel
theorem dX6_withdraw_22 : decode cX6_withdraw 22 = .ok (.ifCond .ne 6, 3) := by decide +kernel
theorem dX6_withdraw_25 : decode cX6_withdraw 25 = .ok (.bipush (-5), 2) := by decide +kernel
theorem dX6_withdraw_27 : decode cX6_withdraw 27 = .ok (.ireturn, 1) := by decide +kernel
theorem dX6_withdraw_28 : decode cX6_withdraw 28 = .ok (.aload_n 0, 1) := by decide +kernel
theorem dX6_withdraw_29 : decode cX6_withdraw 29 = .ok (.invokevirtual 55, 3) := by decide +kernel
theorem dX6_withdraw_32 : decode cX6_withdraw 32 = .ok (.aload_n 0, 1) := by decide +kernel
theorem dX6_withdraw_33 : decode cX6_withdraw 33 = .ok (.getfield 10, 3) := by decide +kernel
theorem dX6_withdraw_36 : decode cX6_withdraw 36 = .ok (.aload_n 2, 1) := by decide +kernel
theorem dX6_withdraw_37 : decode cX6_withdraw 37 = .ok (.invokevirtual 130, 3) := by decide +kernel
theorem dX6_withdraw_40 : decode cX6_withdraw 40 = .ok (.ireturn, 1) := by decide +kernel
theorem dX6_pass_0 : decode cX6_pass 0 = .ok (.iload_n 1, 1) := by decide +kernel
theorem dX6_pass_1 : decode cX6_pass 1 = .ok (.iconst 1, 1) := by decide +kernel
theorem dX6_pass_2 : decode cX6_pass 2 = .ok (.bipush 99, 2) := by decide +kernel
theorem dX6_pass_4 : decode cX6_pass 4 = .ok (.invokestatic 44, 3) := by decide +kernel
theorem dX6_pass_7 : decode cX6_pass 7 = .ok (.ifCond .ne 6, 3) := by decide +kernel
theorem dX6_pass_10 : decode cX6_pass 10 = .ok (.bipush (-2), 2) := by decide +kernel
theorem dX6_pass_12 : decode cX6_pass 12 = .ok (.ireturn, 1) := by decide +kernel
theorem dX6_pass_13 : decode cX6_pass 13 = .ok (.aload_n 0, 1) := by decide +kernel
theorem dX6_pass_14 : decode cX6_pass 14 = .ok (.getfield 10, 3) := by decide +kernel
theorem dX6_pass_17 : decode cX6_pass 17 = .ok (.getfield 134, 3) := by decide +kernel
theorem dX6_pass_20 : decode cX6_pass 20 = .ok (.iload_n 1, 1) := by decide +kernel
theorem dX6_pass_21 : decode cX6_pass 21 = .ok (.iadd, 1) := by decide +kernel
theorem dX6_pass_22 : decode cX6_pass 22 = .ok (.sipush 9999, 3) := by decide +kernel
theorem dX6_pass_25 : decode cX6_pass 25 = .ok (.if_icmp .le 6, 3) := by decide +kernel
theorem dX6_pass_28 : decode cX6_pass 28 = .ok (.bipush (-3), 2) := by decide +kernel
theorem dX6_pass_30 : decode cX6_pass 30 = .ok (.ireturn, 1) := by decide +kernel
theorem dX6_pass_31 : decode cX6_pass 31 = .ok (.aload_n 0, 1) := by decide +kernel
theorem dX6_pass_32 : decode cX6_pass 32 = .ok (.invokevirtual 55, 3) := by decide +kernel
theorem dX6_pass_35 : decode cX6_pass 35 = .ok (.iconst 0, 1) := by decide +kernel
theorem dX6_pass_36 : decode cX6_pass 36 = .ok (.istore_n 2, 1) := by decide +kernel
theorem dX6_pass_37 : decode cX6_pass 37 = .ok (.iconst 0, 1) := by decide +kernel
theorem dX6_pass_38 : decode cX6_pass 38 = .ok (.istore_n 3, 1) := by decide +kernel
theorem dX6_pass_39 : decode cX6_pass 39 = .ok (.iload_n 3, 1) := by decide +kernel
theorem dX6_pass_40 : decode cX6_pass 40 = .ok (.iload_n 1, 1) := by decide +kernel
theorem dX6_pass_41 : decode cX6_pass 41 = .ok (.if_icmp .ge 24, 3) := by decide +kernel
theorem dX6_pass_44 : decode cX6_pass 44 = .ok (.aload_n 0, 1) := by decide +kernel
theorem dX6_pass_45 : decode cX6_pass 45 = .ok (.getfield 10, 3) := by decide +kernel
theorem dX6_pass_48 : decode cX6_pass 48 = .ok (.invokevirtual 137, 3) := by decide +kernel
theorem dX6_pass_51 : decode cX6_pass 51 = .ok (.bipush (-5), 2) := by decide +kernel
theorem dX6_pass_53 : decode cX6_pass 53 = .ok (.if_icmp .eq 6, 3) := by decide +kernel
theorem dX6_pass_56 : decode cX6_pass 56 = .ok (.iinc 2 1, 3) := by decide +kernel
theorem dX6_pass_59 : decode cX6_pass 59 = .ok (.iinc 3 1, 3) := by decide +kernel
theorem dX6_pass_62 : decode cX6_pass 62 = .ok (.goto (-23), 3) := by decide +kernel
theorem dX6_pass_65 : decode cX6_pass 65 = .ok (.iload_n 2, 1) := by decide +kernel
theorem dX6_pass_66 : decode cX6_pass 66 = .ok (.ireturn, 1) := by decide +kernel
theorem dX6_type_0 : decode cX6_type 0 = .ok (.aload_n 0, 1) := by decide +kernel
theorem dX6_type_1 : decode cX6_type 1 = .ok (.getfield 29, 3) := by decide +kernel
theorem dX6_type_4 : decode cX6_type 4 = .ok (.iload_n 1, 1) := by decide +kernel
theorem dX6_type_5 : decode cX6_type 5 = .ok (.invokevirtual 140, 3) := by decide +kernel
theorem dX6_type_8 : decode cX6_type 8 = .ok (.ifCond .eq 13, 3) := by decide +kernel
theorem dX6_type_11 : decode cX6_type 11 = .ok (.aload_n 0, 1) := by decide +kernel
theorem dX6_type_12 : decode cX6_type 12 = .ok (.getfield 29, 3) := by decide +kernel
theorem dX6_type_15 : decode cX6_type 15 = .ok (.getfield 144, 3) := by decide +kernel
theorem dX6_type_18 : decode cX6_type 18 = .ok (.goto 5, 3) := by decide +kernel
theorem dX6_type_21 : decode cX6_type 21 = .ok (.bipush (-3), 2) := by decide +kernel
theorem dX6_type_23 : decode cX6_type 23 = .ok (.ireturn, 1) := by decide +kernel
theorem dX6_clearText_0 : decode cX6_clearText 0 = .ok (.aload_n 0, 1) := by decide +kernel
theorem dX6_clearText_1 : decode cX6_clearText 1 = .ok (.getfield 29, 3) := by decide +kernel
theorem dX6_clearText_4 : decode cX6_clearText 4 = .ok (.getfield 144, 3) := by decide +kernel
theorem dX6_clearText_7 : decode cX6_clearText 7 = .ok (.istore_n 1, 1) := by decide +kernel
theorem dX6_clearText_8 : decode cX6_clearText 8 = .ok (.aload_n 0, 1) := by decide +kernel
theorem dX6_clearText_9 : decode cX6_clearText 9 = .ok (.getfield 29, 3) := by decide +kernel
theorem dX6_clearText_12 : decode cX6_clearText 12 = .ok (.iconst 0, 1) := by decide +kernel
theorem dX6_clearText_13 : decode cX6_clearText 13 = .ok (.putfield 144, 3) := by decide +kernel
theorem dX6_clearText_16 : decode cX6_clearText 16 = .ok (.iload_n 1, 1) := by decide +kernel
theorem dX6_clearText_17 : decode cX6_clearText 17 = .ok (.ireturn, 1) := by decide +kernel
theorem dX6_undo_0 : decode cX6_undo 0 = .ok (.aload_n 0, 1) := by decide +kernel
theorem dX6_undo_1 : decode cX6_undo 1 = .ok (.getfield 145, 3) := by decide +kernel
theorem dX6_undo_4 : decode cX6_undo 4 = .ok (.iconst 1, 1) := by decide +kernel
theorem dX6_undo_5 : decode cX6_undo 5 = .ok (.isub, 1) := by decide +kernel
theorem dX6_undo_6 : decode cX6_undo 6 = .ok (.istore_n 1, 1) := by decide +kernel
theorem dX6_undo_7 : decode cX6_undo 7 = .ok (.iload_n 1, 1) := by decide +kernel
theorem dX6_undo_8 : decode cX6_undo 8 = .ok (.iconst 4, 1) := by decide +kernel
theorem dX6_undo_9 : decode cX6_undo 9 = .ok (.invokestatic 37, 3) := by decide +kernel
theorem dX6_undo_12 : decode cX6_undo 12 = .ok (.ifCond .ne 6, 3) := by decide +kernel
theorem dX6_undo_15 : decode cX6_undo 15 = .ok (.bipush (-5), 2) := by decide +kernel
theorem dX6_undo_17 : decode cX6_undo 17 = .ok (.ireturn, 1) := by decide +kernel
theorem dX6_undo_18 : decode cX6_undo 18 = .ok (.aload_n 0, 1) := by decide +kernel
theorem dX6_undo_19 : decode cX6_undo 19 = .ok (.getfield 10, 3) := by decide +kernel
theorem dX6_undo_22 : decode cX6_undo 22 = .ok (.aload_n 0, 1) := by decide +kernel
theorem dX6_undo_23 : decode cX6_undo 23 = .ok (.getfield 22, 3) := by decide +kernel
theorem dX6_undo_26 : decode cX6_undo 26 = .ok (.iload_n 1, 1) := by decide +kernel
theorem dX6_undo_27 : decode cX6_undo 27 = .ok (.aaload, 1) := by decide +kernel
theorem dX6_undo_28 : decode cX6_undo 28 = .ok (.invokevirtual 148, 3) := by decide +kernel
theorem dX6_undo_31 : decode cX6_undo 31 = .ok (.aload_n 0, 1) := by decide +kernel
theorem dX6_undo_32 : decode cX6_undo 32 = .ok (.iload_n 1, 1) := by decide +kernel
theorem dX6_undo_33 : decode cX6_undo 33 = .ok (.putfield 145, 3) := by decide +kernel
theorem dX6_undo_36 : decode cX6_undo 36 = .ok (.aload_n 0, 1) := by decide +kernel
theorem dX6_undo_37 : decode cX6_undo 37 = .ok (.getfield 145, 3) := by decide +kernel
theorem dX6_undo_40 : decode cX6_undo 40 = .ok (.ireturn, 1) := by decide +kernel
theorem dX6_keep_0 : decode cX6_keep 0 = .ok (.aload_n 0, 1) := by decide +kernel
theorem dX6_keep_1 : decode cX6_keep 1 = .ok (.getfield 19, 3) := by decide +kernel
theorem dX6_keep_4 : decode cX6_keep 4 = .ok (.aload_n 0, 1) := by decide +kernel
theorem dX6_keep_5 : decode cX6_keep 5 = .ok (.getfield 10, 3) := by decide +kernel
theorem dX6_keep_8 : decode cX6_keep 8 = .ok (.invokevirtual 148, 3) := by decide +kernel
theorem dX6_keep_11 : decode cX6_keep 11 = .ok (.aload_n 0, 1) := by decide +kernel
theorem dX6_keep_12 : decode cX6_keep 12 = .ok (.iconst 1, 1) := by decide +kernel
theorem dX6_keep_13 : decode cX6_keep 13 = .ok (.putfield 152, 3) := by decide +kernel
theorem dX6_keep_16 : decode cX6_keep 16 = .ok (.aload_n 0, 1) := by decide +kernel
theorem dX6_keep_17 : decode cX6_keep 17 = .ok (.getfield 10, 3) := by decide +kernel
theorem dX6_keep_20 : decode cX6_keep 20 = .ok (.getfield 134, 3) := by decide +kernel
theorem dX6_keep_23 : decode cX6_keep 23 = .ok (.ireturn, 1) := by decide +kernel
theorem dX6_restore_0 : decode cX6_restore 0 = .ok (.aload_n 0, 1) := by decide +kernel
theorem dX6_restore_1 : decode cX6_restore 1 = .ok (.getfield 152, 3) := by decide +kernel
theorem dX6_restore_4 : decode cX6_restore 4 = .ok (.ifCond .ne 6, 3) := by decide +kernel
theorem dX6_restore_7 : decode cX6_restore 7 = .ok (.bipush (-5), 2) := by decide +kernel
theorem dX6_restore_9 : decode cX6_restore 9 = .ok (.ireturn, 1) := by decide +kernel
theorem dX6_restore_10 : decode cX6_restore 10 = .ok (.aload_n 0, 1) := by decide +kernel
theorem dX6_restore_11 : decode cX6_restore 11 = .ok (.invokevirtual 55, 3) := by decide +kernel
theorem dX6_restore_14 : decode cX6_restore 14 = .ok (.aload_n 0, 1) := by decide +kernel
theorem dX6_restore_15 : decode cX6_restore 15 = .ok (.getfield 10, 3) := by decide +kernel
theorem dX6_restore_18 : decode cX6_restore 18 = .ok (.aload_n 0, 1) := by decide +kernel
theorem dX6_restore_19 : decode cX6_restore 19 = .ok (.getfield 19, 3) := by decide +kernel
theorem dX6_restore_22 : decode cX6_restore 22 = .ok (.invokevirtual 148, 3) := by decide +kernel
theorem dX6_restore_25 : decode cX6_restore 25 = .ok (.aload_n 0, 1) := by decide +kernel
theorem dX6_restore_26 : decode cX6_restore 26 = .ok (.getfield 10, 3) := by decide +kernel
theorem dX6_restore_29 : decode cX6_restore 29 = .ok (.getfield 134, 3) := by decide +kernel
theorem dX6_restore_32 : decode cX6_restore 32 = .ok (.ireturn, 1) := by decide +kernel
theorem dX6_question_0 : decode cX6_question 0 = .ok (.aload_n 0, 1) := by decide +kernel
theorem dX6_question_1 : decode cX6_question 1 = .ok (.getfield 10, 3) := by decide +kernel
theorem dX6_question_4 : decode cX6_question 4 = .ok (.iload_n 1, 1) := by decide +kernel
theorem dX6_question_5 : decode cX6_question 5 = .ok (.invokevirtual 156, 3) := by decide +kernel
theorem dX6_question_8 : decode cX6_question 8 = .ok (.astore_n 3, 1) := by decide +kernel
theorem dX6_question_9 : decode cX6_question 9 = .ok (.aload_n 3, 1) := by decide +kernel
theorem dX6_question_10 : decode cX6_question 10 = .ok (.ifnonnull 5, 3) := by decide +kernel
theorem dX6_question_13 : decode cX6_question 13 = .ok (.iconst (-1), 1) := by decide +kernel
theorem dX6_question_14 : decode cX6_question 14 = .ok (.ireturn, 1) := by decide +kernel
theorem dX6_question_15 : decode cX6_question 15 = .ok (.iload_n 2, 1) := by decide +kernel
theorem dX6_question_16 : decode cX6_question 16 = .ok (.tableswitch 97 0 8 #[52, 57, 62, 67, 72, 77, 82, 87, 92], 52) := by decide +kernel
theorem dX6_question_68 : decode cX6_question 68 = .ok (.aload_n 3, 1) := by decide +kernel
theorem dX6_question_69 : decode cX6_question 69 = .ok (.getfield 104, 3) := by decide +kernel
theorem dX6_question_72 : decode cX6_question 72 = .ok (.ireturn, 1) := by decide +kernel
theorem dX6_question_73 : decode cX6_question 73 = .ok (.aload_n 3, 1) := by decide +kernel
theorem dX6_question_74 : decode cX6_question 74 = .ok (.getfield 109, 3) := by decide +kernel
theorem dX6_question_77 : decode cX6_question 77 = .ok (.ireturn, 1) := by decide +kernel
theorem dX6_question_78 : decode cX6_question 78 = .ok (.aload_n 3, 1) := by decide +kernel
theorem dX6_question_79 : decode cX6_question 79 = .ok (.getfield 112, 3) := by decide +kernel
theorem dX6_question_82 : decode cX6_question 82 = .ok (.ireturn, 1) := by decide +kernel
theorem dX6_question_83 : decode cX6_question 83 = .ok (.aload_n 3, 1) := by decide +kernel
theorem dX6_question_84 : decode cX6_question 84 = .ok (.getfield 115, 3) := by decide +kernel
theorem dX6_question_87 : decode cX6_question 87 = .ok (.ireturn, 1) := by decide +kernel
theorem dX6_question_88 : decode cX6_question 88 = .ok (.aload_n 3, 1) := by decide +kernel
theorem dX6_question_89 : decode cX6_question 89 = .ok (.getfield 157, 3) := by decide +kernel
theorem dX6_question_92 : decode cX6_question 92 = .ok (.ireturn, 1) := by decide +kernel
theorem dX6_question_93 : decode cX6_question 93 = .ok (.aload_n 3, 1) := by decide +kernel
theorem dX6_question_94 : decode cX6_question 94 = .ok (.getfield 160, 3) := by decide +kernel
theorem dX6_question_97 : decode cX6_question 97 = .ok (.ireturn, 1) := by decide +kernel
theorem dX6_question_98 : decode cX6_question 98 = .ok (.aload_n 3, 1) := by decide +kernel
theorem dX6_question_99 : decode cX6_question 99 = .ok (.getfield 163, 3) := by decide +kernel
theorem dX6_question_102 : decode cX6_question 102 = .ok (.ireturn, 1) := by decide +kernel
theorem dX6_question_103 : decode cX6_question 103 = .ok (.aload_n 3, 1) := by decide +kernel
theorem dX6_question_104 : decode cX6_question 104 = .ok (.getfield 166, 3) := by decide +kernel
theorem dX6_question_107 : decode cX6_question 107 = .ok (.ireturn, 1) := by decide +kernel
theorem dX6_question_108 : decode cX6_question 108 = .ok (.aload_n 3, 1) := by decide +kernel
theorem dX6_question_109 : decode cX6_question 109 = .ok (.getfield 169, 3) := by decide +kernel
theorem dX6_question_112 : decode cX6_question 112 = .ok (.ireturn, 1) := by decide +kernel
theorem dX6_question_113 : decode cX6_question 113 = .ok (.bipush (-2), 2) := by decide +kernel
theorem dX6_question_115 : decode cX6_question 115 = .ok (.ireturn, 1) := by decide +kernel
theorem dX6_tag_0 : decode cX6_tag 0 = .ok (.iload_n 1, 1) := by decide +kernel
theorem dX6_tag_1 : decode cX6_tag 1 = .ok (.aload_n 0, 1) := by decide +kernel
theorem dX6_tag_2 : decode cX6_tag 2 = .ok (.getfield 10, 3) := by decide +kernel
theorem dX6_tag_5 : decode cX6_tag 5 = .ok (.getfield 52, 3) := by decide +kernel
theorem dX6_tag_8 : decode cX6_tag 8 = .ok (.iconst 0, 1) := by decide +kernel
theorem dX6_tag_9 : decode cX6_tag 9 = .ok (.iaload, 1) := by decide +kernel
theorem dX6_tag_10 : decode cX6_tag 10 = .ok (.invokestatic 37, 3) := by decide +kernel
theorem dX6_tag_13 : decode cX6_tag 13 = .ok (.ifCond .eq 12, 3) := by decide +kernel
theorem dX6_tag_16 : decode cX6_tag 16 = .ok (.iload_n 1, 1) := by decide +kernel
theorem dX6_tag_17 : decode cX6_tag 17 = .ok (.bipush 8, 2) := by decide +kernel
theorem dX6_tag_19 : decode cX6_tag 19 = .ok (.invokestatic 37, 3) := by decide +kernel
theorem dX6_tag_22 : decode cX6_tag 22 = .ok (.ifCond .ne 5, 3) := by decide +kernel
theorem dX6_tag_25 : decode cX6_tag 25 = .ok (.iconst (-1), 1) := by decide +kernel
theorem dX6_tag_26 : decode cX6_tag 26 = .ok (.ireturn, 1) := by decide +kernel
theorem dX6_tag_27 : decode cX6_tag 27 = .ok (.aload_n 0, 1) := by decide +kernel
theorem dX6_tag_28 : decode cX6_tag 28 = .ok (.getfield 10, 3) := by decide +kernel
theorem dX6_tag_31 : decode cX6_tag 31 = .ok (.getfield 172, 3) := by decide +kernel
theorem dX6_tag_34 : decode cX6_tag 34 = .ok (.iload_n 1, 1) := by decide +kernel
theorem dX6_tag_35 : decode cX6_tag 35 = .ok (.iaload, 1) := by decide +kernel
theorem dX6_tag_36 : decode cX6_tag 36 = .ok (.ireturn, 1) := by decide +kernel
theorem dX6_master_0 : decode cX6_master 0 = .ok (.aload_n 0, 1) := by decide +kernel
theorem dX6_master_1 : decode cX6_master 1 = .ok (.getfield 10, 3) := by decide +kernel
theorem dX6_master_4 : decode cX6_master 4 = .ok (.iload_n 1, 1) := by decide +kernel
theorem dX6_master_5 : decode cX6_master 5 = .ok (.invokevirtual 58, 3) := by decide +kernel
theorem dX6_master_8 : decode cX6_master 8 = .ok (.astore_n 3, 1) := by decide +kernel
theorem dX6_master_9 : decode cX6_master 9 = .ok (.aload_n 3, 1) := by decide +kernel
theorem dX6_master_10 : decode cX6_master 10 = .ok (.ifnonnull 5, 3) := by decide +kernel
theorem dX6_master_13 : decode cX6_master 13 = .ok (.iconst (-1), 1) := by decide +kernel
theorem dX6_master_14 : decode cX6_master 14 = .ok (.ireturn, 1) := by decide +kernel
theorem dX6_master_15 : decode cX6_master 15 = .ok (.iload_n 2, 1) := by decide +kernel
theorem dX6_master_16 : decode cX6_master 16 = .ok (.tableswitch 124 0 8 #[52, 60, 65, 70, 75, 92, 97, 102, 107], 52) := by decide +kernel
theorem dX6_master_68 : decode cX6_master 68 = .ok (.aload_n 3, 1) := by decide +kernel
theorem dX6_master_69 : decode cX6_master 69 = .ok (.getfield 121, 3) := by decide +kernel
theorem dX6_master_72 : decode cX6_master 72 = .ok (.getfield 125, 3) := by decide +kernel
theorem dX6_master_75 : decode cX6_master 75 = .ok (.ireturn, 1) := by decide +kernel
theorem dX6_master_76 : decode cX6_master 76 = .ok (.aload_n 3, 1) := by decide +kernel
theorem dX6_master_77 : decode cX6_master 77 = .ok (.getfield 62, 3) := by decide +kernel
theorem dX6_master_80 : decode cX6_master 80 = .ok (.ireturn, 1) := by decide +kernel
theorem dX6_master_81 : decode cX6_master 81 = .ok (.aload_n 3, 1) := by decide +kernel
theorem dX6_master_82 : decode cX6_master 82 = .ok (.getfield 175, 3) := by decide +kernel
theorem dX6_master_85 : decode cX6_master 85 = .ok (.ireturn, 1) := by decide +kernel
theorem dX6_master_86 : decode cX6_master 86 = .ok (.aload_n 3, 1) := by decide +kernel
theorem dX6_master_87 : decode cX6_master 87 = .ok (.getfield 178, 3) := by decide +kernel
theorem dX6_master_90 : decode cX6_master 90 = .ok (.ireturn, 1) := by decide +kernel
theorem dX6_master_91 : decode cX6_master 91 = .ok (.iconst 0, 1) := by decide +kernel
theorem dX6_master_92 : decode cX6_master 92 = .ok (.aload_n 3, 1) := by decide +kernel
theorem dX6_master_93 : decode cX6_master 93 = .ok (.getfield 179, 3) := by decide +kernel
theorem dX6_master_96 : decode cX6_master 96 = .ok (.aload_n 0, 1) := by decide +kernel
theorem dX6_master_97 : decode cX6_master 97 = .ok (.getfield 10, 3) := by decide +kernel
theorem dX6_master_100 : decode cX6_master 100 = .ok (.getfield 134, 3) := by decide +kernel
theorem dX6_master_103 : decode cX6_master 103 = .ok (.isub, 1) := by decide +kernel
theorem dX6_master_104 : decode cX6_master 104 = .ok (.invokestatic 182, 3) := by decide +kernel
theorem dX6_master_107 : decode cX6_master 107 = .ok (.ireturn, 1) := by decide +kernel
theorem dX6_master_108 : decode cX6_master 108 = .ok (.aload_n 3, 1) := by decide +kernel
theorem dX6_master_109 : decode cX6_master 109 = .ok (.getfield 188, 3) := by decide +kernel
theorem dX6_master_112 : decode cX6_master 112 = .ok (.ireturn, 1) := by decide +kernel
theorem dX6_master_113 : decode cX6_master 113 = .ok (.aload_n 3, 1) := by decide +kernel
theorem dX6_master_114 : decode cX6_master 114 = .ok (.getfield 191, 3) := by decide +kernel
theorem dX6_master_117 : decode cX6_master 117 = .ok (.ireturn, 1) := by decide +kernel
theorem dX6_master_118 : decode cX6_master 118 = .ok (.aload_n 3, 1) := by decide +kernel
theorem dX6_master_119 : decode cX6_master 119 = .ok (.getfield 194, 3) := by decide +kernel
theorem dX6_master_122 : decode cX6_master 122 = .ok (.ireturn, 1) := by decide +kernel
theorem dX6_master_123 : decode cX6_master 123 = .ok (.aload_n 0, 1) := by decide +kernel
theorem dX6_master_124 : decode cX6_master 124 = .ok (.getfield 10, 3) := by decide +kernel
theorem dX6_master_127 : decode cX6_master 127 = .ok (.aload_n 3, 1) := by decide +kernel
theorem dX6_master_128 : decode cX6_master 128 = .ok (.invokevirtual 197, 3) := by decide +kernel
theorem dX6_master_131 : decode cX6_master 131 = .ok (.ifCond .eq 7, 3) := by decide +kernel
theorem dX6_master_134 : decode cX6_master 134 = .ok (.iconst 1, 1) := by decide +kernel
theorem dX6_master_135 : decode cX6_master 135 = .ok (.goto 4, 3) := by decide +kernel
theorem dX6_master_138 : decode cX6_master 138 = .ok (.iconst 0, 1) := by decide +kernel
theorem dX6_master_139 : decode cX6_master 139 = .ok (.ireturn, 1) := by decide +kernel
theorem dX6_master_140 : decode cX6_master 140 = .ok (.bipush (-2), 2) := by decide +kernel
theorem dX6_master_142 : decode cX6_master 142 = .ok (.ireturn, 1) := by decide +kernel
theorem dX6_row_0 : decode cX6_row 0 = .ok (.aload_n 0, 1) := by decide +kernel
theorem dX6_row_1 : decode cX6_row 1 = .ok (.getfield 10, 3) := by decide +kernel
theorem dX6_row_4 : decode cX6_row 4 = .ok (.iload_n 1, 1) := by decide +kernel
theorem dX6_row_5 : decode cX6_row 5 = .ok (.invokevirtual 58, 3) := by decide +kernel
theorem dX6_row_8 : decode cX6_row 8 = .ok (.astore_n 3, 1) := by decide +kernel
theorem dX6_row_9 : decode cX6_row 9 = .ok (.aload_n 3, 1) := by decide +kernel
theorem dX6_row_10 : decode cX6_row 10 = .ok (.ifnonnull 5, 3) := by decide +kernel
theorem dX6_row_13 : decode cX6_row 13 = .ok (.iconst (-1), 1) := by decide +kernel
theorem dX6_row_14 : decode cX6_row 14 = .ok (.ireturn, 1) := by decide +kernel
theorem dX6_row_15 : decode cX6_row 15 = .ok (.iload_n 2, 1) := by decide +kernel
theorem dX6_row_16 : decode cX6_row 16 = .ok (.ifCond .ge 6, 3) := by decide +kernel
theorem dX6_row_19 : decode cX6_row 19 = .ok (.bipush (-2), 2) := by decide +kernel
theorem dX6_row_21 : decode cX6_row 21 = .ok (.ireturn, 1) := by decide +kernel
theorem dX6_row_22 : decode cX6_row 22 = .ok (.aload_n 3, 1) := by decide +kernel
theorem dX6_row_23 : decode cX6_row 23 = .ok (.getfield 121, 3) := by decide +kernel
theorem dX6_row_26 : decode cX6_row 26 = .ok (.iload_n 2, 1) := by decide +kernel
theorem dX6_row_27 : decode cX6_row 27 = .ok (.invokevirtual 201, 3) := by decide +kernel
theorem dX6_row_30 : decode cX6_row 30 = .ok (.ireturn, 1) := by decide +kernel
theorem dX6_target_0 : decode cX6_target 0 = .ok (.aload_n 0, 1) := by decide +kernel
theorem dX6_target_1 : decode cX6_target 1 = .ok (.getfield 10, 3) := by decide +kernel
theorem dX6_target_4 : decode cX6_target 4 = .ok (.iload_n 1, 1) := by decide +kernel
theorem dX6_target_5 : decode cX6_target 5 = .ok (.invokevirtual 68, 3) := by decide +kernel
theorem dX6_target_8 : decode cX6_target 8 = .ok (.astore_n 3, 1) := by decide +kernel
theorem dX6_target_9 : decode cX6_target 9 = .ok (.aload_n 3, 1) := by decide +kernel
theorem dX6_target_10 : decode cX6_target 10 = .ok (.ifnonnull 5, 3) := by decide +kernel
theorem dX6_target_13 : decode cX6_target 13 = .ok (.iconst (-1), 1) := by decide +kernel
theorem dX6_target_14 : decode cX6_target 14 = .ok (.ireturn, 1) := by decide +kernel
theorem dX6_target_15 : decode cX6_target 15 = .ok (.iload_n 2, 1) := by decide +kernel
theorem dX6_target_16 : decode cX6_target 16 = .ok (.tableswitch 94 0 5 #[40, 47, 54, 61, 69, 78], 40) := by decide +kernel
theorem dX6_target_56 : decode cX6_target 56 = .ok (.aload_n 3, 1) := by decide +kernel
theorem dX6_target_57 : decode cX6_target 57 = .ok (.getfield 78, 3) := by decide +kernel
theorem dX6_target_60 : decode cX6_target 60 = .ok (.iconst 0, 1) := by decide +kernel
theorem dX6_target_61 : decode cX6_target 61 = .ok (.iaload, 1) := by decide +kernel
theorem dX6_target_62 : decode cX6_target 62 = .ok (.ireturn, 1) := by decide +kernel
theorem dX6_target_63 : decode cX6_target 63 = .ok (.aload_n 3, 1) := by decide +kernel
theorem dX6_target_64 : decode cX6_target 64 = .ok (.getfield 78, 3) := by decide +kernel
theorem dX6_target_67 : decode cX6_target 67 = .ok (.iconst 1, 1) := by decide +kernel
theorem dX6_target_68 : decode cX6_target 68 = .ok (.iaload, 1) := by decide +kernel
theorem dX6_target_69 : decode cX6_target 69 = .ok (.ireturn, 1) := by decide +kernel
theorem dX6_target_70 : decode cX6_target 70 = .ok (.aload_n 3, 1) := by decide +kernel
theorem dX6_target_71 : decode cX6_target 71 = .ok (.getfield 78, 3) := by decide +kernel
theorem dX6_target_74 : decode cX6_target 74 = .ok (.iconst 2, 1) := by decide +kernel
theorem dX6_target_75 : decode cX6_target 75 = .ok (.iaload, 1) := by decide +kernel
theorem dX6_target_76 : decode cX6_target 76 = .ok (.ireturn, 1) := by decide +kernel
theorem dX6_target_77 : decode cX6_target 77 = .ok (.aload_n 3, 1) := by decide +kernel
theorem dX6_target_78 : decode cX6_target 78 = .ok (.getfield 205, 3) := by decide +kernel
theorem dX6_target_81 : decode cX6_target 81 = .ok (.getfield 125, 3) := by decide +kernel
theorem dX6_target_84 : decode cX6_target 84 = .ok (.ireturn, 1) := by decide +kernel
theorem dX6_target_85 : decode cX6_target 85 = .ok (.aload_n 0, 1) := by decide +kernel
theorem dX6_target_86 : decode cX6_target 86 = .ok (.getfield 10, 3) := by decide +kernel
theorem dX6_target_89 : decode cX6_target 89 = .ok (.aload_n 3, 1) := by decide +kernel
theorem dX6_target_90 : decode cX6_target 90 = .ok (.invokevirtual 208, 3) := by decide +kernel
theorem dX6_target_93 : decode cX6_target 93 = .ok (.ireturn, 1) := by decide +kernel
theorem dX6_target_94 : decode cX6_target 94 = .ok (.aload_n 3, 1) := by decide +kernel
theorem dX6_target_95 : decode cX6_target 95 = .ok (.getfield 205, 3) := by decide +kernel
theorem dX6_target_98 : decode cX6_target 98 = .ok (.aload_n 0, 1) := by decide +kernel
theorem dX6_target_99 : decode cX6_target 99 = .ok (.getfield 10, 3) := by decide +kernel
theorem dX6_target_102 : decode cX6_target 102 = .ok (.aload_n 3, 1) := by decide +kernel
theorem dX6_target_103 : decode cX6_target 103 = .ok (.invokevirtual 212, 3) := by decide +kernel
theorem dX6_target_106 : decode cX6_target 106 = .ok (.invokevirtual 201, 3) := by decide +kernel
theorem dX6_target_109 : decode cX6_target 109 = .ok (.ireturn, 1) := by decide +kernel
theorem dX6_target_110 : decode cX6_target 110 = .ok (.bipush (-2), 2) := by decide +kernel
theorem dX6_target_112 : decode cX6_target 112 = .ok (.ireturn, 1) := by decide +kernel
theorem dX6_cell_0 : decode cX6_cell 0 = .ok (.aload_n 0, 1) := by decide +kernel
theorem dX6_cell_1 : decode cX6_cell 1 = .ok (.getfield 10, 3) := by decide +kernel
theorem dX6_cell_4 : decode cX6_cell 4 = .ok (.iload_n 1, 1) := by decide +kernel
theorem dX6_cell_5 : decode cX6_cell 5 = .ok (.invokevirtual 68, 3) := by decide +kernel
theorem dX6_cell_8 : decode cX6_cell 8 = .ok (.astore_n 3, 1) := by decide +kernel
theorem dX6_cell_9 : decode cX6_cell 9 = .ok (.aload_n 3, 1) := by decide +kernel
theorem dX6_cell_10 : decode cX6_cell 10 = .ok (.ifnonnull 5, 3) := by decide +kernel
theorem dX6_cell_13 : decode cX6_cell 13 = .ok (.iconst (-1), 1) := by decide +kernel
theorem dX6_cell_14 : decode cX6_cell 14 = .ok (.ireturn, 1) := by decide +kernel
theorem dX6_cell_15 : decode cX6_cell 15 = .ok (.iload_n 2, 1) := by decide +kernel
theorem dX6_cell_16 : decode cX6_cell 16 = .ok (.bipush 16, 2) := by decide +kernel
theorem dX6_cell_18 : decode cX6_cell 18 = .ok (.invokestatic 37, 3) := by decide +kernel
theorem dX6_cell_21 : decode cX6_cell 21 = .ok (.ifCond .eq 12, 3) := by decide +kernel
theorem dX6_cell_24 : decode cX6_cell 24 = .ok (.aload_n 3, 1) := by decide +kernel
theorem dX6_cell_25 : decode cX6_cell 25 = .ok (.getfield 83, 3) := by decide +kernel
theorem dX6_cell_28 : decode cX6_cell 28 = .ok (.iload_n 2, 1) := by decide +kernel
theorem dX6_cell_29 : decode cX6_cell 29 = .ok (.iaload, 1) := by decide +kernel
theorem dX6_cell_30 : decode cX6_cell 30 = .ok (.goto 5, 3) := by decide +kernel
theorem dX6_cell_33 : decode cX6_cell 33 = .ok (.bipush (-2), 2) := by decide +kernel
theorem dX6_cell_35 : decode cX6_cell 35 = .ok (.ireturn, 1) := by decide +kernel
theorem dX6_next_0 : decode cX6_next 0 = .ok (.iload_n 1, 1) := by decide +kernel
theorem dX6_next_1 : decode cX6_next 1 = .ok (.ifCond .eq 11, 3) := by decide +kernel
theorem dX6_next_4 : decode cX6_next 4 = .ok (.iload_n 1, 1) := by decide +kernel
theorem dX6_next_5 : decode cX6_next 5 = .ok (.iconst 1, 1) := by decide +kernel
theorem dX6_next_6 : decode cX6_next 6 = .ok (.if_icmp .eq 6, 3) := by decide +kernel
theorem dX6_next_9 : decode cX6_next 9 = .ok (.bipush (-2), 2) := by decide +kernel
theorem dX6_next_11 : decode cX6_next 11 = .ok (.ireturn, 1) := by decide +kernel
theorem dX6_next_12 : decode cX6_next 12 = .ok (.aload_n 0, 1) := by decide +kernel
theorem dX6_next_13 : decode cX6_next 13 = .ok (.getfield 16, 3) := by decide +kernel
theorem dX6_next_16 : decode cX6_next 16 = .ok (.aload_n 0, 1) := by decide +kernel
theorem dX6_next_17 : decode cX6_next 17 = .ok (.getfield 10, 3) := by decide +kernel
theorem dX6_next_20 : decode cX6_next 20 = .ok (.invokevirtual 148, 3) := by decide +kernel
theorem dX6_next_23 : decode cX6_next 23 = .ok (.aload_n 0, 1) := by decide +kernel
theorem dX6_next_24 : decode cX6_next 24 = .ok (.getfield 16, 3) := by decide +kernel
theorem dX6_next_27 : decode cX6_next 27 = .ok (.invokevirtual 137, 3) := by decide +kernel
theorem dX6_next_30 : decode cX6_next 30 = .ok (.istore_n 2, 1) := by decide +kernel
theorem dX6_next_31 : decode cX6_next 31 = .ok (.iload_n 2, 1) := by decide +kernel
theorem dX6_next_32 : decode cX6_next 32 = .ok (.bipush (-5), 2) := by decide +kernel
theorem dX6_next_34 : decode cX6_next 34 = .ok (.if_icmp .ne 6, 3) := by decide +kernel
theorem dX6_next_37 : decode cX6_next 37 = .ok (.bipush (-5), 2) := by decide +kernel
theorem dX6_next_39 : decode cX6_next 39 = .ok (.ireturn, 1) := by decide +kernel
theorem dX6_next_40 : decode cX6_next 40 = .ok (.iload_n 1, 1) := by decide +kernel
theorem dX6_next_41 : decode cX6_next 41 = .ok (.ifCond .ne 7, 3) := by decide +kernel
theorem dX6_next_44 : decode cX6_next 44 = .ok (.iload_n 2, 1) := by decide +kernel
theorem dX6_next_45 : decode cX6_next 45 = .ok (.goto 10, 3) := by decide +kernel
theorem dX6_next_48 : decode cX6_next 48 = .ok (.aload_n 0, 1) := by decide +kernel
theorem dX6_next_49 : decode cX6_next 49 = .ok (.getfield 16, 3) := by decide +kernel
theorem dX6_next_52 : decode cX6_next 52 = .ok (.getfield 215, 3) := by decide +kernel
theorem dX6_next_55 : decode cX6_next 55 = .ok (.ireturn, 1) := by decide +kernel
theorem dX6_answeredIn_0 : decode cX6_answeredIn 0 = .ok (.aload_n 0, 1) := by decide +kernel
theorem dX6_answeredIn_1 : decode cX6_answeredIn 1 = .ok (.getfield 10, 3) := by decide +kernel
theorem dX6_answeredIn_4 : decode cX6_answeredIn 4 = .ok (.iload_n 1, 1) := by decide +kernel
theorem dX6_answeredIn_5 : decode cX6_answeredIn 5 = .ok (.invokevirtual 156, 3) := by decide +kernel
theorem dX6_answeredIn_8 : decode cX6_answeredIn 8 = .ok (.astore_n 2, 1) := by decide +kernel
theorem dX6_answeredIn_9 : decode cX6_answeredIn 9 = .ok (.aload_n 2, 1) := by decide +kernel
theorem dX6_answeredIn_10 : decode cX6_answeredIn 10 = .ok (.ifnonnull 5, 3) := by decide +kernel
theorem dX6_answeredIn_13 : decode cX6_answeredIn 13 = .ok (.iconst (-1), 1) := by decide +kernel
theorem dX6_answeredIn_14 : decode cX6_answeredIn 14 = .ok (.ireturn, 1) := by decide +kernel
theorem dX6_answeredIn_15 : decode cX6_answeredIn 15 = .ok (.aload_n 2, 1) := by decide +kernel
theorem dX6_answeredIn_16 : decode cX6_answeredIn 16 = .ok (.getfield 157, 3) := by decide +kernel
theorem dX6_answeredIn_19 : decode cX6_answeredIn 19 = .ok (.iconst 3, 1) := by decide +kernel
theorem dX6_answeredIn_20 : decode cX6_answeredIn 20 = .ok (.if_icmp .eq 11, 3) := by decide +kernel
theorem dX6_answeredIn_23 : decode cX6_answeredIn 23 = .ok (.aload_n 2, 1) := by decide +kernel
theorem dX6_answeredIn_24 : decode cX6_answeredIn 24 = .ok (.getfield 157, 3) := by decide +kernel
theorem dX6_answeredIn_27 : decode cX6_answeredIn 27 = .ok (.iconst 4, 1) := by decide +kernel
theorem dX6_answeredIn_28 : decode cX6_answeredIn 28 = .ok (.if_icmp .ne 6, 3) := by decide +kernel
theorem dX6_answeredIn_31 : decode cX6_answeredIn 31 = .ok (.bipush (-4), 2) := by decide +kernel
theorem dX6_answeredIn_33 : decode cX6_answeredIn 33 = .ok (.ireturn, 1) := by decide +kernel
theorem dX6_answeredIn_34 : decode cX6_answeredIn 34 = .ok (.aload_n 0, 1) := by decide +kernel
theorem dX6_answeredIn_35 : decode cX6_answeredIn 35 = .ok (.getfield 16, 3) := by decide +kernel
theorem dX6_answeredIn_38 : decode cX6_answeredIn 38 = .ok (.aload_n 0, 1) := by decide +kernel
theorem dX6_answeredIn_39 : decode cX6_answeredIn 39 = .ok (.getfield 10, 3) := by decide +kernel
theorem dX6_answeredIn_42 : decode cX6_answeredIn 42 = .ok (.invokevirtual 148, 3) := by decide +kernel
theorem dX6_answeredIn_45 : decode cX6_answeredIn 45 = .ok (.iconst 1, 1) := by decide +kernel
theorem dX6_answeredIn_46 : decode cX6_answeredIn 46 = .ok (.istore_n 3, 1) := by decide +kernel
theorem dX6_answeredIn_47 : decode cX6_answeredIn 47 = .ok (.iload_n 3, 1) := by decide +kernel
theorem dX6_answeredIn_48 : decode cX6_answeredIn 48 = .ok (.sipush 999, 3) := by decide +kernel
theorem dX6_answeredIn_51 : decode cX6_answeredIn 51 = .ok (.if_icmp .gt 33, 3) := by decide +kernel
theorem dX6_answeredIn_54 : decode cX6_answeredIn 54 = .ok (.aload_n 0, 1) := by decide +kernel
theorem dX6_answeredIn_55 : decode cX6_answeredIn 55 = .ok (.getfield 16, 3) := by decide +kernel
theorem dX6_answeredIn_58 : decode cX6_answeredIn 58 = .ok (.invokevirtual 137, 3) := by decide +kernel
theorem dX6_answeredIn_61 : decode cX6_answeredIn 61 = .ok (.iload_n 1, 1) := by decide +kernel
theorem dX6_answeredIn_62 : decode cX6_answeredIn 62 = .ok (.if_icmp .ne 16, 3) := by decide +kernel
theorem dX6_answeredIn_65 : decode cX6_answeredIn 65 = .ok (.aload_n 0, 1) := by decide +kernel
theorem dX6_answeredIn_66 : decode cX6_answeredIn 66 = .ok (.getfield 16, 3) := by decide +kernel
theorem dX6_answeredIn_69 : decode cX6_answeredIn 69 = .ok (.getfield 215, 3) := by decide +kernel
theorem dX6_answeredIn_72 : decode cX6_answeredIn 72 = .ok (.iconst 1, 1) := by decide +kernel
theorem dX6_answeredIn_73 : decode cX6_answeredIn 73 = .ok (.if_icmp .ne 5, 3) := by decide +kernel
theorem dX6_answeredIn_76 : decode cX6_answeredIn 76 = .ok (.iload_n 3, 1) := by decide +kernel
theorem dX6_answeredIn_77 : decode cX6_answeredIn 77 = .ok (.ireturn, 1) := by decide +kernel
theorem dX6_answeredIn_78 : decode cX6_answeredIn 78 = .ok (.iinc 3 1, 3) := by decide +kernel
theorem dX6_answeredIn_81 : decode cX6_answeredIn 81 = .ok (.goto (-34), 3) := by decide +kernel
theorem dX6_answeredIn_84 : decode cX6_answeredIn 84 = .ok (.bipush (-5), 2) := by decide +kernel
theorem dX6_answeredIn_86 : decode cX6_answeredIn 86 = .ok (.ireturn, 1) := by decide +kernel
theorem dX6_count_0 : decode cX6_count 0 = .ok (.iload_n 1, 1) := by decide +kernel
theorem dX6_count_1 : decode cX6_count 1 = .ok (.tableswitch 174 0 12 #[67, 75, 85, 95, 105, 113, 121, 129, 137, 145, 153, 161, 166], 67) := by decide +kernel
theorem dX6_count_68 : decode cX6_count 68 = .ok (.aload_n 0, 1) := by decide +kernel
theorem dX6_count_69 : decode cX6_count 69 = .ok (.getfield 10, 3) := by decide +kernel
theorem dX6_count_72 : decode cX6_count 72 = .ok (.getfield 134, 3) := by decide +kernel
theorem dX6_count_75 : decode cX6_count 75 = .ok (.ireturn, 1) := by decide +kernel
theorem dX6_count_76 : decode cX6_count 76 = .ok (.aload_n 0, 1) := by decide +kernel
theorem dX6_count_77 : decode cX6_count 77 = .ok (.getfield 10, 3) := by decide +kernel
theorem dX6_count_80 : decode cX6_count 80 = .ok (.getfield 52, 3) := by decide +kernel
theorem dX6_count_83 : decode cX6_count 83 = .ok (.iconst 0, 1) := by decide +kernel
theorem dX6_count_84 : decode cX6_count 84 = .ok (.iaload, 1) := by decide +kernel
theorem dX6_count_85 : decode cX6_count 85 = .ok (.ireturn, 1) := by decide +kernel
theorem dX6_count_86 : decode cX6_count 86 = .ok (.aload_n 0, 1) := by decide +kernel
theorem dX6_count_87 : decode cX6_count 87 = .ok (.getfield 10, 3) := by decide +kernel
theorem dX6_count_90 : decode cX6_count 90 = .ok (.getfield 52, 3) := by decide +kernel
theorem dX6_count_93 : decode cX6_count 93 = .ok (.iconst 1, 1) := by decide +kernel
theorem dX6_count_94 : decode cX6_count 94 = .ok (.iaload, 1) := by decide +kernel
theorem dX6_count_95 : decode cX6_count 95 = .ok (.ireturn, 1) := by decide +kernel
theorem dX6_count_96 : decode cX6_count 96 = .ok (.aload_n 0, 1) := by decide +kernel
theorem dX6_count_97 : decode cX6_count 97 = .ok (.getfield 10, 3) := by decide +kernel
theorem dX6_count_100 : decode cX6_count 100 = .ok (.getfield 52, 3) := by decide +kernel
theorem dX6_count_103 : decode cX6_count 103 = .ok (.iconst 2, 1) := by decide +kernel
theorem dX6_count_104 : decode cX6_count 104 = .ok (.iaload, 1) := by decide +kernel
theorem dX6_count_105 : decode cX6_count 105 = .ok (.ireturn, 1) := by decide +kernel
theorem dX6_count_106 : decode cX6_count 106 = .ok (.aload_n 0, 1) := by decide +kernel
theorem dX6_count_107 : decode cX6_count 107 = .ok (.getfield 10, 3) := by decide +kernel
theorem dX6_count_110 : decode cX6_count 110 = .ok (.getfield 218, 3) := by decide +kernel
theorem dX6_count_113 : decode cX6_count 113 = .ok (.ireturn, 1) := by decide +kernel
theorem dX6_count_114 : decode cX6_count 114 = .ok (.aload_n 0, 1) := by decide +kernel
theorem dX6_count_115 : decode cX6_count 115 = .ok (.getfield 10, 3) := by decide +kernel
theorem dX6_count_118 : decode cX6_count 118 = .ok (.invokevirtual 221, 3) := by decide +kernel
theorem dX6_count_121 : decode cX6_count 121 = .ok (.ireturn, 1) := by decide +kernel
theorem dX6_count_122 : decode cX6_count 122 = .ok (.aload_n 0, 1) := by decide +kernel
theorem dX6_count_123 : decode cX6_count 123 = .ok (.getfield 10, 3) := by decide +kernel
theorem dX6_count_126 : decode cX6_count 126 = .ok (.getfield 224, 3) := by decide +kernel
theorem dX6_count_129 : decode cX6_count 129 = .ok (.ireturn, 1) := by decide +kernel
theorem dX6_count_130 : decode cX6_count 130 = .ok (.aload_n 0, 1) := by decide +kernel
theorem dX6_count_131 : decode cX6_count 131 = .ok (.getfield 10, 3) := by decide +kernel
theorem dX6_count_134 : decode cX6_count 134 = .ok (.getfield 227, 3) := by decide +kernel
theorem dX6_count_137 : decode cX6_count 137 = .ok (.ireturn, 1) := by decide +kernel
theorem dX6_count_138 : decode cX6_count 138 = .ok (.aload_n 0, 1) := by decide +kernel
theorem dX6_count_139 : decode cX6_count 139 = .ok (.getfield 10, 3) := by decide +kernel
theorem dX6_count_142 : decode cX6_count 142 = .ok (.getfield 230, 3) := by decide +kernel
theorem dX6_count_145 : decode cX6_count 145 = .ok (.ireturn, 1) := by decide +kernel
theorem dX6_count_146 : decode cX6_count 146 = .ok (.aload_n 0, 1) := by decide +kernel
theorem dX6_count_147 : decode cX6_count 147 = .ok (.getfield 10, 3) := by decide +kernel
theorem dX6_count_150 : decode cX6_count 150 = .ok (.getfield 233, 3) := by decide +kernel
theorem dX6_count_153 : decode cX6_count 153 = .ok (.ireturn, 1) := by decide +kernel
theorem dX6_count_154 : decode cX6_count 154 = .ok (.aload_n 0, 1) := by decide +kernel
theorem dX6_count_155 : decode cX6_count 155 = .ok (.getfield 10, 3) := by decide +kernel
theorem dX6_count_158 : decode cX6_count 158 = .ok (.getfield 236, 3) := by decide +kernel
theorem dX6_count_161 : decode cX6_count 161 = .ok (.ireturn, 1) := by decide +kernel
theorem dX6_count_162 : decode cX6_count 162 = .ok (.aload_n 0, 1) := by decide +kernel
theorem dX6_count_163 : decode cX6_count 163 = .ok (.getfield 145, 3) := by decide +kernel
theorem dX6_count_166 : decode cX6_count 166 = .ok (.ireturn, 1) := by decide +kernel
theorem dX6_count_167 : decode cX6_count 167 = .ok (.aload_n 0, 1) := by decide +kernel
theorem dX6_count_168 : decode cX6_count 168 = .ok (.getfield 29, 3) := by decide +kernel
theorem dX6_count_171 : decode cX6_count 171 = .ok (.getfield 144, 3) := by decide +kernel
theorem dX6_count_174 : decode cX6_count 174 = .ok (.ireturn, 1) := by decide +kernel
theorem dX6_count_175 : decode cX6_count 175 = .ok (.bipush (-2), 2) := by decide +kernel
theorem dX6_count_177 : decode cX6_count 177 = .ok (.ireturn, 1) := by decide +kernel
theorem dX6_isIndex_0 : decode cX6_isIndex 0 = .ok (.iload_n 0, 1) := by decide +kernel
theorem dX6_isIndex_1 : decode cX6_isIndex 1 = .ok (.ifCond .lt 12, 3) := by decide +kernel
theorem dX6_isIndex_4 : decode cX6_isIndex 4 = .ok (.iload_n 0, 1) := by decide +kernel
theorem dX6_isIndex_5 : decode cX6_isIndex 5 = .ok (.iload_n 1, 1) := by decide +kernel
theorem dX6_isIndex_6 : decode cX6_isIndex 6 = .ok (.if_icmp .ge 7, 3) := by decide +kernel
theorem dX6_isIndex_9 : decode cX6_isIndex 9 = .ok (.iconst 1, 1) := by decide +kernel
theorem dX6_isIndex_10 : decode cX6_isIndex 10 = .ok (.goto 4, 3) := by decide +kernel
theorem dX6_isIndex_13 : decode cX6_isIndex 13 = .ok (.iconst 0, 1) := by decide +kernel
theorem dX6_isIndex_14 : decode cX6_isIndex 14 = .ok (.ireturn, 1) := by decide +kernel
theorem dX6_isBetween_0 : decode cX6_isBetween 0 = .ok (.iload_n 0, 1) := by decide +kernel
theorem dX6_isBetween_1 : decode cX6_isBetween 1 = .ok (.iload_n 1, 1) := by decide +kernel
theorem dX6_isBetween_2 : decode cX6_isBetween 2 = .ok (.if_icmp .lt 12, 3) := by decide +kernel
theorem dX6_isBetween_5 : decode cX6_isBetween 5 = .ok (.iload_n 0, 1) := by decide +kernel
theorem dX6_isBetween_6 : decode cX6_isBetween 6 = .ok (.iload_n 2, 1) := by decide +kernel
theorem dX6_isBetween_7 : decode cX6_isBetween 7 = .ok (.if_icmp .gt 7, 3) := by decide +kernel
theorem dX6_isBetween_10 : decode cX6_isBetween 10 = .ok (.iconst 1, 1) := by decide +kernel
theorem dX6_isBetween_11 : decode cX6_isBetween 11 = .ok (.goto 4, 3) := by decide +kernel
theorem dX6_isBetween_14 : decode cX6_isBetween 14 = .ok (.iconst 0, 1) := by decide +kernel
theorem dX6_isBetween_15 : decode cX6_isBetween 15 = .ok (.ireturn, 1) := by decide +kernel
theorem dX6_putOne_0 : decode cX6_putOne 0 = .ok (.aload_n 0, 1) := by decide +kernel
theorem dX6_putOne_1 : decode cX6_putOne 1 = .ok (.getfield 10, 3) := by decide +kernel
theorem dX6_putOne_4 : decode cX6_putOne 4 = .ok (.iload_n 1, 1) := by decide +kernel
theorem dX6_putOne_5 : decode cX6_putOne 5 = .ok (.invokevirtual 58, 3) := by decide +kernel
theorem dX6_putOne_8 : decode cX6_putOne 8 = .ok (.astore 5, 2) := by decide +kernel
theorem dX6_putOne_10 : decode cX6_putOne 10 = .ok (.aload 5, 2) := by decide +kernel
theorem dX6_putOne_12 : decode cX6_putOne 12 = .ok (.ifnull 14, 3) := by decide +kernel
theorem dX6_putOne_15 : decode cX6_putOne 15 = .ok (.aload_n 0, 1) := by decide +kernel
theorem dX6_putOne_16 : decode cX6_putOne 16 = .ok (.getfield 10, 3) := by decide +kernel
theorem dX6_putOne_19 : decode cX6_putOne 19 = .ok (.iload_n 2, 1) := by decide +kernel
theorem dX6_putOne_20 : decode cX6_putOne 20 = .ok (.invokevirtual 68, 3) := by decide +kernel
theorem dX6_putOne_23 : decode cX6_putOne 23 = .ok (.ifnonnull 5, 3) := by decide +kernel
theorem dX6_putOne_26 : decode cX6_putOne 26 = .ok (.iconst (-1), 1) := by decide +kernel
theorem dX6_putOne_27 : decode cX6_putOne 27 = .ok (.ireturn, 1) := by decide +kernel
theorem dX6_putOne_28 : decode cX6_putOne 28 = .ok (.iload_n 3, 1) := by decide +kernel
theorem dX6_putOne_29 : decode cX6_putOne 29 = .ok (.bipush 16, 2) := by decide +kernel
theorem dX6_putOne_31 : decode cX6_putOne 31 = .ok (.invokestatic 37, 3) := by decide +kernel
theorem dX6_putOne_34 : decode cX6_putOne 34 = .ok (.ifCond .ne 6, 3) := by decide +kernel
theorem dX6_putOne_37 : decode cX6_putOne 37 = .ok (.bipush (-2), 2) := by decide +kernel
theorem dX6_putOne_39 : decode cX6_putOne 39 = .ok (.ireturn, 1) := by decide +kernel
theorem dX6_putOne_40 : decode cX6_putOne 40 = .ok (.aload 5, 2) := by decide +kernel
theorem dX6_putOne_42 : decode cX6_putOne 42 = .ok (.getfield 121, 3) := by decide +kernel
theorem dX6_putOne_45 : decode cX6_putOne 45 = .ok (.getfield 125, 3) := by decide +kernel
theorem dX6_putOne_48 : decode cX6_putOne 48 = .ok (.bipush 6, 2) := by decide +kernel
theorem dX6_putOne_50 : decode cX6_putOne 50 = .ok (.if_icmp .ge 16, 3) := by decide +kernel
theorem dX6_putOne_53 : decode cX6_putOne 53 = .ok (.aload_n 0, 1) := by decide +kernel
theorem dX6_putOne_54 : decode cX6_putOne 54 = .ok (.getfield 10, 3) := by decide +kernel
theorem dX6_putOne_57 : decode cX6_putOne 57 = .ok (.getfield 218, 3) := by decide +kernel
theorem dX6_putOne_60 : decode cX6_putOne 60 = .ok (.sipush 200, 3) := by decide +kernel
theorem dX6_putOne_63 : decode cX6_putOne 63 = .ok (.if_icmp .lt 6, 3) := by decide +kernel
theorem dX6_putOne_66 : decode cX6_putOne 66 = .ok (.bipush (-3), 2) := by decide +kernel
theorem dX6_putOne_68 : decode cX6_putOne 68 = .ok (.ireturn, 1) := by decide +kernel
theorem dX6_putOne_69 : decode cX6_putOne 69 = .ok (.aload_n 0, 1) := by decide +kernel
theorem dX6_putOne_70 : decode cX6_putOne 70 = .ok (.invokevirtual 55, 3) := by decide +kernel
theorem dX6_putOne_73 : decode cX6_putOne 73 = .ok (.aload_n 0, 1) := by decide +kernel
theorem dX6_putOne_74 : decode cX6_putOne 74 = .ok (.getfield 10, 3) := by decide +kernel
theorem dX6_putOne_77 : decode cX6_putOne 77 = .ok (.iload_n 1, 1) := by decide +kernel
theorem dX6_putOne_78 : decode cX6_putOne 78 = .ok (.iload_n 2, 1) := by decide +kernel
theorem dX6_putOne_79 : decode cX6_putOne 79 = .ok (.iload_n 3, 1) := by decide +kernel
theorem dX6_putOne_80 : decode cX6_putOne 80 = .ok (.iload 4, 2) := by decide +kernel
theorem dX6_putOne_82 : decode cX6_putOne 82 = .ok (.invokevirtual 118, 3) := by decide +kernel
theorem dX6_putOne_85 : decode cX6_putOne 85 = .ok (.ireturn, 1) := by decide +kernel
theorem dX6_hasRoomForText_0 : decode cX6_hasRoomForText 0 = .ok (.aload_n 0, 1) := by decide +kernel
theorem dX6_hasRoomForText_1 : decode cX6_hasRoomForText 1 = .ok (.getfield 10, 3) := by decide +kernel
theorem dX6_hasRoomForText_4 : decode cX6_hasRoomForText 4 = .ok (.getfield 218, 3) := by decide +kernel
theorem dX6_hasRoomForText_7 : decode cX6_hasRoomForText 7 = .ok (.aload_n 0, 1) := by decide +kernel
theorem dX6_hasRoomForText_8 : decode cX6_hasRoomForText 8 = .ok (.getfield 29, 3) := by decide +kernel
theorem dX6_hasRoomForText_11 : decode cX6_hasRoomForText 11 = .ok (.getfield 97, 3) := by decide +kernel
theorem dX6_hasRoomForText_14 : decode cX6_hasRoomForText 14 = .ok (.iadd, 1) := by decide +kernel
theorem dX6_hasRoomForText_15 : decode cX6_hasRoomForText 15 = .ok (.sipush 200, 3) := by decide +kernel
theorem dX6_hasRoomForText_18 : decode cX6_hasRoomForText 18 = .ok (.if_icmp .le 5, 3) := by decide +kernel
theorem dX6_hasRoomForText_21 : decode cX6_hasRoomForText 21 = .ok (.iconst 0, 1) := by decide +kernel
theorem dX6_hasRoomForText_22 : decode cX6_hasRoomForText 22 = .ok (.ireturn, 1) := by decide +kernel
theorem dX6_hasRoomForText_23 : decode cX6_hasRoomForText 23 = .ok (.iconst 0, 1) := by decide +kernel
theorem dX6_hasRoomForText_24 : decode cX6_hasRoomForText 24 = .ok (.istore_n 1, 1) := by decide +kernel
theorem dX6_hasRoomForText_25 : decode cX6_hasRoomForText 25 = .ok (.iload_n 1, 1) := by decide +kernel
theorem dX6_hasRoomForText_26 : decode cX6_hasRoomForText 26 = .ok (.iconst 4, 1) := by decide +kernel
theorem dX6_hasRoomForText_27 : decode cX6_hasRoomForText 27 = .ok (.if_icmp .ge 45, 3) := by decide +kernel
theorem dX6_hasRoomForText_30 : decode cX6_hasRoomForText 30 = .ok (.aload_n 0, 1) := by decide +kernel
theorem dX6_hasRoomForText_31 : decode cX6_hasRoomForText 31 = .ok (.getfield 10, 3) := by decide +kernel
theorem dX6_hasRoomForText_34 : decode cX6_hasRoomForText 34 = .ok (.iload_n 1, 1) := by decide +kernel
theorem dX6_hasRoomForText_35 : decode cX6_hasRoomForText 35 = .ok (.invokevirtual 58, 3) := by decide +kernel
theorem dX6_hasRoomForText_38 : decode cX6_hasRoomForText 38 = .ok (.astore_n 2, 1) := by decide +kernel
theorem dX6_hasRoomForText_39 : decode cX6_hasRoomForText 39 = .ok (.aload_n 2, 1) := by decide +kernel
theorem dX6_hasRoomForText_40 : decode cX6_hasRoomForText 40 = .ok (.ifnull 24, 3) := by decide +kernel
theorem dX6_hasRoomForText_43 : decode cX6_hasRoomForText 43 = .ok (.aload_n 2, 1) := by decide +kernel
theorem dX6_hasRoomForText_44 : decode cX6_hasRoomForText 44 = .ok (.getfield 121, 3) := by decide +kernel
theorem dX6_hasRoomForText_47 : decode cX6_hasRoomForText 47 = .ok (.getfield 125, 3) := by decide +kernel
theorem dX6_hasRoomForText_50 : decode cX6_hasRoomForText 50 = .ok (.aload_n 0, 1) := by decide +kernel
theorem dX6_hasRoomForText_51 : decode cX6_hasRoomForText 51 = .ok (.getfield 29, 3) := by decide +kernel
theorem dX6_hasRoomForText_54 : decode cX6_hasRoomForText 54 = .ok (.iload_n 1, 1) := by decide +kernel
theorem dX6_hasRoomForText_55 : decode cX6_hasRoomForText 55 = .ok (.invokevirtual 239, 3) := by decide +kernel
theorem dX6_hasRoomForText_58 : decode cX6_hasRoomForText 58 = .ok (.iadd, 1) := by decide +kernel
theorem dX6_hasRoomForText_59 : decode cX6_hasRoomForText 59 = .ok (.bipush 6, 2) := by decide +kernel
theorem dX6_hasRoomForText_61 : decode cX6_hasRoomForText 61 = .ok (.if_icmp .le 5, 3) := by decide +kernel
theorem dX6_hasRoomForText_64 : decode cX6_hasRoomForText 64 = .ok (.iconst 0, 1) := by decide +kernel
theorem dX6_hasRoomForText_65 : decode cX6_hasRoomForText 65 = .ok (.ireturn, 1) := by decide +kernel
theorem dX6_hasRoomForText_66 : decode cX6_hasRoomForText 66 = .ok (.iinc 1 1, 3) := by decide +kernel
theorem dX6_hasRoomForText_69 : decode cX6_hasRoomForText 69 = .ok (.goto (-44), 3) := by decide +kernel
theorem dX6_hasRoomForText_72 : decode cX6_hasRoomForText 72 = .ok (.iconst 1, 1) := by decide +kernel
theorem dX6_hasRoomForText_73 : decode cX6_hasRoomForText 73 = .ok (.ireturn, 1) := by decide +kernel
theorem dX6_record_0 : decode cX6_record 0 = .ok (.aload_n 0, 1) := by decide +kernel
theorem dX6_record_1 : decode cX6_record 1 = .ok (.getfield 145, 3) := by decide +kernel
theorem dX6_record_4 : decode cX6_record 4 = .ok (.iconst 4, 1) := by decide +kernel
theorem dX6_record_5 : decode cX6_record 5 = .ok (.if_icmp .lt 49, 3) := by decide +kernel
theorem dX6_record_8 : decode cX6_record 8 = .ok (.aload_n 0, 1) := by decide +kernel
theorem dX6_record_9 : decode cX6_record 9 = .ok (.getfield 22, 3) := by decide +kernel
theorem dX6_record_12 : decode cX6_record 12 = .ok (.iconst 0, 1) := by decide +kernel
theorem dX6_record_13 : decode cX6_record 13 = .ok (.aaload, 1) := by decide +kernel
theorem dX6_record_14 : decode cX6_record 14 = .ok (.astore_n 1, 1) := by decide +kernel
theorem dX6_record_15 : decode cX6_record 15 = .ok (.iconst 1, 1) := by decide +kernel
theorem dX6_record_16 : decode cX6_record 16 = .ok (.istore_n 2, 1) := by decide +kernel
theorem dX6_record_17 : decode cX6_record 17 = .ok (.iload_n 2, 1) := by decide +kernel
theorem dX6_record_18 : decode cX6_record 18 = .ok (.iconst 4, 1) := by decide +kernel
theorem dX6_record_19 : decode cX6_record 19 = .ok (.if_icmp .ge 23, 3) := by decide +kernel
theorem dX6_record_22 : decode cX6_record 22 = .ok (.aload_n 0, 1) := by decide +kernel
theorem dX6_record_23 : decode cX6_record 23 = .ok (.getfield 22, 3) := by decide +kernel
theorem dX6_record_26 : decode cX6_record 26 = .ok (.iload_n 2, 1) := by decide +kernel
theorem dX6_record_27 : decode cX6_record 27 = .ok (.iconst 1, 1) := by decide +kernel
theorem dX6_record_28 : decode cX6_record 28 = .ok (.isub, 1) := by decide +kernel
theorem dX6_record_29 : decode cX6_record 29 = .ok (.aload_n 0, 1) := by decide +kernel
theorem dX6_record_30 : decode cX6_record 30 = .ok (.getfield 22, 3) := by decide +kernel
theorem dX6_record_33 : decode cX6_record 33 = .ok (.iload_n 2, 1) := by decide +kernel
theorem dX6_record_34 : decode cX6_record 34 = .ok (.aaload, 1) := by decide +kernel
theorem dX6_record_35 : decode cX6_record 35 = .ok (.aastore, 1) := by decide +kernel
theorem dX6_record_36 : decode cX6_record 36 = .ok (.iinc 2 1, 3) := by decide +kernel
theorem dX6_record_39 : decode cX6_record 39 = .ok (.goto (-22), 3) := by decide +kernel
theorem dX6_record_42 : decode cX6_record 42 = .ok (.aload_n 0, 1) := by decide +kernel
theorem dX6_record_43 : decode cX6_record 43 = .ok (.getfield 22, 3) := by decide +kernel
theorem dX6_record_46 : decode cX6_record 46 = .ok (.iconst 3, 1) := by decide +kernel
theorem dX6_record_47 : decode cX6_record 47 = .ok (.aload_n 1, 1) := by decide +kernel
theorem dX6_record_48 : decode cX6_record 48 = .ok (.aastore, 1) := by decide +kernel
theorem dX6_record_49 : decode cX6_record 49 = .ok (.aload_n 0, 1) := by decide +kernel
theorem dX6_record_50 : decode cX6_record 50 = .ok (.iconst 3, 1) := by decide +kernel
theorem dX6_record_51 : decode cX6_record 51 = .ok (.putfield 145, 3) := by decide +kernel
theorem dX6_record_54 : decode cX6_record 54 = .ok (.aload_n 0, 1) := by decide +kernel
theorem dX6_record_55 : decode cX6_record 55 = .ok (.getfield 145, 3) := by decide +kernel
theorem dX6_record_58 : decode cX6_record 58 = .ok (.iconst 4, 1) := by decide +kernel
theorem dX6_record_59 : decode cX6_record 59 = .ok (.invokestatic 37, 3) := by decide +kernel
theorem dX6_record_62 : decode cX6_record 62 = .ok (.ifCond .eq 29, 3) := by decide +kernel
theorem dX6_record_65 : decode cX6_record 65 = .ok (.aload_n 0, 1) := by decide +kernel
theorem dX6_record_66 : decode cX6_record 66 = .ok (.getfield 22, 3) := by decide +kernel
theorem dX6_record_69 : decode cX6_record 69 = .ok (.aload_n 0, 1) := by decide +kernel
theorem dX6_record_70 : decode cX6_record 70 = .ok (.getfield 145, 3) := by decide +kernel
theorem dX6_record_73 : decode cX6_record 73 = .ok (.aaload, 1) := by decide +kernel
theorem dX6_record_74 : decode cX6_record 74 = .ok (.aload_n 0, 1) := by decide +kernel
theorem dX6_record_75 : decode cX6_record 75 = .ok (.getfield 10, 3) := by decide +kernel
theorem dX6_record_78 : decode cX6_record 78 = .ok (.invokevirtual 148, 3) := by decide +kernel
theorem dX6_record_81 : decode cX6_record 81 = .ok (.aload_n 0, 1) := by decide +kernel
theorem dX6_record_82 : decode cX6_record 82 = .ok (.dup, 1) := by decide +kernel
theorem dX6_record_83 : decode cX6_record 83 = .ok (.getfield 145, 3) := by decide +kernel
theorem dX6_record_86 : decode cX6_record 86 = .ok (.iconst 1, 1) := by decide +kernel
theorem dX6_record_87 : decode cX6_record 87 = .ok (.iadd, 1) := by decide +kernel
theorem dX6_record_88 : decode cX6_record 88 = .ok (.putfield 145, 3) := by decide +kernel
theorem dX6_record_91 : decode cX6_record 91 = .ok (.return_, 1) := by decide +kernel
theorem dX7_init_0 : decode cX7_init 0 = .ok (.aload_n 0, 1) := by decide +kernel
theorem dX7_init_1 : decode cX7_init 1 = .ok (.invokespecial 1, 3) := by decide +kernel
theorem dX7_init_4 : decode cX7_init 4 = .ok (.aload_n 0, 1) := by decide +kernel
theorem dX7_init_5 : decode cX7_init 5 = .ok (.sipush 2361, 3) := by decide +kernel
theorem dX7_init_8 : decode cX7_init 8 = .ok (.newarray .int, 2) := by decide +kernel
theorem dX7_init_10 : decode cX7_init 10 = .ok (.putfield 7, 3) := by decide +kernel
theorem dX7_init_13 : decode cX7_init 13 = .ok (.aload_n 0, 1) := by decide +kernel
theorem dX7_init_14 : decode cX7_init 14 = .ok (.sipush 2361, 3) := by decide +kernel
theorem dX7_init_17 : decode cX7_init 17 = .ok (.newarray .int, 2) := by decide +kernel
theorem dX7_init_19 : decode cX7_init 19 = .ok (.putfield 13, 3) := by decide +kernel
theorem dX7_init_22 : decode cX7_init 22 = .ok (.aload_n 0, 1) := by decide +kernel
theorem dX7_init_23 : decode cX7_init 23 = .ok (.sipush 9444, 3) := by decide +kernel
theorem dX7_init_26 : decode cX7_init 26 = .ok (.newarray .int, 2) := by decide +kernel
theorem dX7_init_28 : decode cX7_init 28 = .ok (.putfield 16, 3) := by decide +kernel
theorem dX7_init_31 : decode cX7_init 31 = .ok (.aload_n 0, 1) := by decide +kernel
theorem dX7_init_32 : decode cX7_init 32 = .ok (.sipush 2361, 3) := by decide +kernel
theorem dX7_init_35 : decode cX7_init 35 = .ok (.newarray .int, 2) := by decide +kernel
theorem dX7_init_37 : decode cX7_init 37 = .ok (.putfield 19, 3) := by decide +kernel
theorem dX7_init_40 : decode cX7_init 40 = .ok (.aload_n 0, 1) := by decide +kernel
theorem dX7_init_41 : decode cX7_init 41 = .ok (.bipush 60, 2) := by decide +kernel
theorem dX7_init_43 : decode cX7_init 43 = .ok (.newarray .int, 2) := by decide +kernel
theorem dX7_init_45 : decode cX7_init 45 = .ok (.putfield 22, 3) := by decide +kernel
theorem dX7_init_48 : decode cX7_init 48 = .ok (.aload_n 0, 1) := by decide +kernel
theorem dX7_init_49 : decode cX7_init 49 = .ok (.iconst 4, 1) := by decide +kernel
theorem dX7_init_50 : decode cX7_init 50 = .ok (.newarray .int, 2) := by decide +kernel
theorem dX7_init_52 : decode cX7_init 52 = .ok (.putfield 25, 3) := by decide +kernel
theorem dX7_init_55 : decode cX7_init 55 = .ok (.aload_n 0, 1) := by decide +kernel
theorem dX7_init_56 : decode cX7_init 56 = .ok (.iconst 4, 1) := by decide +kernel
theorem dX7_init_57 : decode cX7_init 57 = .ok (.newarray .int, 2) := by decide +kernel
theorem dX7_init_59 : decode cX7_init 59 = .ok (.putfield 28, 3) := by decide +kernel
theorem dX7_init_62 : decode cX7_init 62 = .ok (.aload_n 0, 1) := by decide +kernel
theorem dX7_init_63 : decode cX7_init 63 = .ok (.getfield 7, 3) := by decide +kernel
theorem dX7_init_66 : decode cX7_init 66 = .ok (.iconst 1, 1) := by decide +kernel
theorem dX7_init_67 : decode cX7_init 67 = .ok (.iconst 4, 1) := by decide +kernel
theorem dX7_init_68 : decode cX7_init 68 = .ok (.iastore, 1) := by decide +kernel
theorem dX7_init_69 : decode cX7_init 69 = .ok (.aload_n 0, 1) := by decide +kernel
theorem dX7_init_70 : decode cX7_init 70 = .ok (.getfield 7, 3) := by decide +kernel
theorem dX7_init_73 : decode cX7_init 73 = .ok (.iconst 3, 1) := by decide +kernel
theorem dX7_init_74 : decode cX7_init 74 = .ok (.bipush 12, 2) := by decide +kernel
theorem dX7_init_76 : decode cX7_init 76 = .ok (.iastore, 1) := by decide +kernel
theorem dX7_init_77 : decode cX7_init 77 = .ok (.aload_n 0, 1) := by decide +kernel
theorem dX7_init_78 : decode cX7_init 78 = .ok (.getfield 7, 3) := by decide +kernel
theorem dX7_init_81 : decode cX7_init 81 = .ok (.iconst 5, 1) := by decide +kernel
theorem dX7_init_82 : decode cX7_init 82 = .ok (.iconst 1, 1) := by decide +kernel
theorem dX7_init_83 : decode cX7_init 83 = .ok (.iastore, 1) := by decide +kernel
theorem dX7_init_84 : decode cX7_init 84 = .ok (.iconst 0, 1) := by decide +kernel
theorem dX7_init_85 : decode cX7_init 85 = .ok (.istore_n 1, 1) := by decide +kernel
theorem dX7_init_86 : decode cX7_init 86 = .ok (.iload_n 1, 1) := by decide +kernel
theorem dX7_init_87 : decode cX7_init 87 = .ok (.iconst 4, 1) := by decide +kernel
theorem dX7_init_88 : decode cX7_init 88 = .ok (.if_icmp .ge 45, 3) := by decide +kernel
theorem dX7_init_91 : decode cX7_init 91 = .ok (.aload_n 0, 1) := by decide +kernel
theorem dX7_init_92 : decode cX7_init 92 = .ok (.getfield 7, 3) := by decide +kernel
theorem dX7_init_95 : decode cX7_init 95 = .ok (.iload_n 1, 1) := by decide +kernel
theorem dX7_init_96 : decode cX7_init 96 = .ok (.bipush 7, 2) := by decide +kernel
theorem dX7_init_98 : decode cX7_init 98 = .ok (.invokestatic 31, 3) := by decide +kernel
theorem dX7_init_101 : decode cX7_init 101 = .ok (.iconst 2, 1) := by decide +kernel
theorem dX7_init_102 : decode cX7_init 102 = .ok (.iastore, 1) := by decide +kernel
theorem dX7_init_103 : decode cX7_init 103 = .ok (.aload_n 0, 1) := by decide +kernel
theorem dX7_init_104 : decode cX7_init 104 = .ok (.getfield 7, 3) := by decide +kernel
theorem dX7_init_107 : decode cX7_init 107 = .ok (.iload_n 1, 1) := by decide +kernel
theorem dX7_init_108 : decode cX7_init 108 = .ok (.bipush 16, 2) := by decide +kernel
theorem dX7_init_110 : decode cX7_init 110 = .ok (.invokestatic 35, 3) := by decide +kernel
theorem dX7_init_113 : decode cX7_init 113 = .ok (.iconst 2, 1) := by decide +kernel
theorem dX7_init_114 : decode cX7_init 114 = .ok (.iastore, 1) := by decide +kernel
theorem dX7_init_115 : decode cX7_init 115 = .ok (.aload_n 0, 1) := by decide +kernel
theorem dX7_init_116 : decode cX7_init 116 = .ok (.getfield 7, 3) := by decide +kernel
theorem dX7_init_119 : decode cX7_init 119 = .ok (.iload_n 1, 1) := by decide +kernel
theorem dX7_init_120 : decode cX7_init 120 = .ok (.bipush 17, 2) := by decide +kernel
theorem dX7_init_122 : decode cX7_init 122 = .ok (.invokestatic 35, 3) := by decide +kernel
theorem dX7_init_125 : decode cX7_init 125 = .ok (.iconst 3, 1) := by decide +kernel
theorem dX7_init_126 : decode cX7_init 126 = .ok (.iastore, 1) := by decide +kernel
theorem dX7_init_127 : decode cX7_init 127 = .ok (.iinc 1 1, 3) := by decide +kernel
theorem dX7_init_130 : decode cX7_init 130 = .ok (.goto (-44), 3) := by decide +kernel
theorem dX7_init_133 : decode cX7_init 133 = .ok (.iconst 0, 1) := by decide +kernel
theorem dX7_init_134 : decode cX7_init 134 = .ok (.istore_n 1, 1) := by decide +kernel
theorem dX7_init_135 : decode cX7_init 135 = .ok (.iload_n 1, 1) := by decide +kernel
theorem dX7_init_136 : decode cX7_init 136 = .ok (.bipush 8, 2) := by decide +kernel
theorem dX7_init_138 : decode cX7_init 138 = .ok (.if_icmp .ge 20, 3) := by decide +kernel
theorem dX7_init_141 : decode cX7_init 141 = .ok (.aload_n 0, 1) := by decide +kernel
theorem dX7_init_142 : decode cX7_init 142 = .ok (.getfield 7, 3) := by decide +kernel
theorem dX7_init_145 : decode cX7_init 145 = .ok (.bipush 13, 2) := by decide +kernel
theorem dX7_init_147 : decode cX7_init 147 = .ok (.iload_n 1, 1) := by decide +kernel
theorem dX7_init_148 : decode cX7_init 148 = .ok (.iadd, 1) := by decide +kernel
theorem dX7_init_149 : decode cX7_init 149 = .ok (.bipush (-5), 2) := by decide +kernel
theorem dX7_init_151 : decode cX7_init 151 = .ok (.iastore, 1) := by decide +kernel
theorem dX7_init_152 : decode cX7_init 152 = .ok (.iinc 1 1, 3) := by decide +kernel
theorem dX7_init_155 : decode cX7_init 155 = .ok (.goto (-20), 3) := by decide +kernel
theorem dX7_init_158 : decode cX7_init 158 = .ok (.return_, 1) := by decide +kernel
theorem dX7_in_0 : decode cX7_in 0 = .ok (.iload_n 0, 1) := by decide +kernel
theorem dX7_in_1 : decode cX7_in 1 = .ok (.iload_n 1, 1) := by decide +kernel
theorem dX7_in_2 : decode cX7_in 2 = .ok (.if_icmp .lt 12, 3) := by decide +kernel
theorem dX7_in_5 : decode cX7_in 5 = .ok (.iload_n 0, 1) := by decide +kernel
theorem dX7_in_6 : decode cX7_in 6 = .ok (.iload_n 2, 1) := by decide +kernel
theorem dX7_in_7 : decode cX7_in 7 = .ok (.if_icmp .gt 7, 3) := by decide +kernel
theorem dX7_in_10 : decode cX7_in 10 = .ok (.iconst 1, 1) := by decide +kernel
theorem dX7_in_11 : decode cX7_in 11 = .ok (.goto 4, 3) := by decide +kernel
theorem dX7_in_14 : decode cX7_in 14 = .ok (.iconst 0, 1) := by decide +kernel
theorem dX7_in_15 : decode cX7_in 15 = .ok (.ireturn, 1) := by decide +kernel
theorem dX7_isPort_0 : decode cX7_isPort 0 = .ok (.iload_n 0, 1) := by decide +kernel
theorem dX7_isPort_1 : decode cX7_isPort 1 = .ok (.iconst 0, 1) := by decide +kernel
theorem dX7_isPort_2 : decode cX7_isPort 2 = .ok (.iconst 3, 1) := by decide +kernel
theorem dX7_isPort_3 : decode cX7_isPort 3 = .ok (.invokestatic 38, 3) := by decide +kernel
theorem dX7_isPort_6 : decode cX7_isPort 6 = .ok (.ireturn, 1) := by decide +kernel
theorem dX7_ofMaster_0 : decode cX7_ofMaster 0 = .ok (.bipush 21, 2) := by decide +kernel
theorem dX7_ofMaster_2 : decode cX7_ofMaster 2 = .ok (.bipush 11, 2) := by decide +kernel
theorem dX7_ofMaster_4 : decode cX7_ofMaster 4 = .ok (.iload_n 0, 1) := by decide +kernel
theorem dX7_ofMaster_5 : decode cX7_ofMaster 5 = .ok (.imul, 1) := by decide +kernel
theorem dX7_ofMaster_6 : decode cX7_ofMaster 6 = .ok (.iadd, 1) := by decide +kernel
theorem dX7_ofMaster_7 : decode cX7_ofMaster 7 = .ok (.iload_n 1, 1) := by decide +kernel
theorem dX7_ofMaster_8 : decode cX7_ofMaster 8 = .ok (.iadd, 1) := by decide +kernel
theorem dX7_ofMaster_9 : decode cX7_ofMaster 9 = .ok (.ireturn, 1) := by decide +kernel
theorem dX7_ofTarget_0 : decode cX7_ofTarget 0 = .ok (.bipush 65, 2) := by decide +kernel
theorem dX7_ofTarget_2 : decode cX7_ofTarget 2 = .ok (.bipush 24, 2) := by decide +kernel
theorem dX7_ofTarget_4 : decode cX7_ofTarget 4 = .ok (.iload_n 0, 1) := by decide +kernel
theorem dX7_ofTarget_5 : decode cX7_ofTarget 5 = .ok (.imul, 1) := by decide +kernel
theorem dX7_ofTarget_6 : decode cX7_ofTarget 6 = .ok (.iadd, 1) := by decide +kernel
theorem dX7_ofTarget_7 : decode cX7_ofTarget 7 = .ok (.iload_n 1, 1) := by decide +kernel
theorem dX7_ofTarget_8 : decode cX7_ofTarget 8 = .ok (.iadd, 1) := by decide +kernel
theorem dX7_ofTarget_9 : decode cX7_ofTarget 9 = .ok (.ireturn, 1) := by decide +kernel
theorem dX7_of_0 : decode cX7_of 0 = .ok (.sipush 161, 3) := by decide +kernel
theorem dX7_of_3 : decode cX7_of 3 = .ok (.bipush 11, 2) := by decide +kernel
theorem dX7_of_5 : decode cX7_of 5 = .ok (.iload_n 0, 1) := by decide +kernel
theorem dX7_of_6 : decode cX7_of 6 = .ok (.imul, 1) := by decide +kernel
theorem dX7_of_7 : decode cX7_of 7 = .ok (.iadd, 1) := by decide +kernel
theorem dX7_of_8 : decode cX7_of 8 = .ok (.iload_n 1, 1) := by decide +kernel
theorem dX7_of_9 : decode cX7_of 9 = .ok (.iadd, 1) := by decide +kernel
theorem dX7_of_10 : decode cX7_of 10 = .ok (.ireturn, 1) := by decide +kernel
theorem dX7_know_0 : decode cX7_know 0 = .ok (.aload_n 0, 1) := by decide +kernel
theorem dX7_know_1 : decode cX7_know 1 = .ok (.getfield 42, 3) := by decide +kernel
theorem dX7_know_4 : decode cX7_know 4 = .ok (.iconst 4, 1) := by decide +kernel
theorem dX7_know_5 : decode cX7_know 5 = .ok (.if_icmp .ne 44, 3) := by decide +kernel
theorem dX7_know_8 : decode cX7_know 8 = .ok (.iconst 0, 1) := by decide +kernel
theorem dX7_know_9 : decode cX7_know 9 = .ok (.istore_n 1, 1) := by decide +kernel
theorem dX7_know_10 : decode cX7_know 10 = .ok (.iload_n 1, 1) := by decide +kernel
theorem dX7_know_11 : decode cX7_know 11 = .ok (.sipush 7083, 3) := by decide +kernel
theorem dX7_know_14 : decode cX7_know 14 = .ok (.if_icmp .ge 25, 3) := by decide +kernel
theorem dX7_know_17 : decode cX7_know 17 = .ok (.aload_n 0, 1) := by decide +kernel
theorem dX7_know_18 : decode cX7_know 18 = .ok (.getfield 16, 3) := by decide +kernel
theorem dX7_know_21 : decode cX7_know 21 = .ok (.iload_n 1, 1) := by decide +kernel
theorem dX7_know_22 : decode cX7_know 22 = .ok (.aload_n 0, 1) := by decide +kernel
theorem dX7_know_23 : decode cX7_know 23 = .ok (.getfield 16, 3) := by decide +kernel
theorem dX7_know_26 : decode cX7_know 26 = .ok (.sipush 2361, 3) := by decide +kernel
theorem dX7_know_29 : decode cX7_know 29 = .ok (.iload_n 1, 1) := by decide +kernel
theorem dX7_know_30 : decode cX7_know 30 = .ok (.iadd, 1) := by decide +kernel
theorem dX7_know_31 : decode cX7_know 31 = .ok (.iaload, 1) := by decide +kernel
theorem dX7_know_32 : decode cX7_know 32 = .ok (.iastore, 1) := by decide +kernel
theorem dX7_know_33 : decode cX7_know 33 = .ok (.iinc 1 1, 3) := by decide +kernel
theorem dX7_know_36 : decode cX7_know 36 = .ok (.goto (-26), 3) := by decide +kernel
theorem dX7_know_39 : decode cX7_know 39 = .ok (.aload_n 0, 1) := by decide +kernel
theorem dX7_know_40 : decode cX7_know 40 = .ok (.dup, 1) := by decide +kernel
theorem dX7_know_41 : decode cX7_know 41 = .ok (.getfield 42, 3) := by decide +kernel
theorem dX7_know_44 : decode cX7_know 44 = .ok (.iconst 1, 1) := by decide +kernel
theorem dX7_know_45 : decode cX7_know 45 = .ok (.isub, 1) := by decide +kernel
theorem dX7_know_46 : decode cX7_know 46 = .ok (.putfield 42, 3) := by decide +kernel
theorem dX7_know_49 : decode cX7_know 49 = .ok (.iconst 0, 1) := by decide +kernel
theorem dX7_know_50 : decode cX7_know 50 = .ok (.istore_n 1, 1) := by decide +kernel
theorem dX7_know_51 : decode cX7_know 51 = .ok (.iload_n 1, 1) := by decide +kernel
theorem dX7_know_52 : decode cX7_know 52 = .ok (.sipush 2361, 3) := by decide +kernel
theorem dX7_know_55 : decode cX7_know 55 = .ok (.if_icmp .ge 30, 3) := by decide +kernel
theorem dX7_know_58 : decode cX7_know 58 = .ok (.aload_n 0, 1) := by decide +kernel
theorem dX7_know_59 : decode cX7_know 59 = .ok (.getfield 16, 3) := by decide +kernel
theorem dX7_know_62 : decode cX7_know 62 = .ok (.sipush 2361, 3) := by decide +kernel
theorem dX7_know_65 : decode cX7_know 65 = .ok (.aload_n 0, 1) := by decide +kernel
theorem dX7_know_66 : decode cX7_know 66 = .ok (.getfield 42, 3) := by decide +kernel
theorem dX7_know_69 : decode cX7_know 69 = .ok (.imul, 1) := by decide +kernel
theorem dX7_know_70 : decode cX7_know 70 = .ok (.iload_n 1, 1) := by decide +kernel
theorem dX7_know_71 : decode cX7_know 71 = .ok (.iadd, 1) := by decide +kernel
theorem dX7_know_72 : decode cX7_know 72 = .ok (.aload_n 0, 1) := by decide +kernel
theorem dX7_know_73 : decode cX7_know 73 = .ok (.getfield 7, 3) := by decide +kernel
theorem dX7_know_76 : decode cX7_know 76 = .ok (.iload_n 1, 1) := by decide +kernel
theorem dX7_know_77 : decode cX7_know 77 = .ok (.iaload, 1) := by decide +kernel
theorem dX7_know_78 : decode cX7_know 78 = .ok (.iastore, 1) := by decide +kernel
theorem dX7_know_79 : decode cX7_know 79 = .ok (.iinc 1 1, 3) := by decide +kernel
theorem dX7_know_82 : decode cX7_know 82 = .ok (.goto (-31), 3) := by decide +kernel
theorem dX7_know_85 : decode cX7_know 85 = .ok (.aload_n 0, 1) := by decide +kernel
theorem dX7_know_86 : decode cX7_know 86 = .ok (.dup, 1) := by decide +kernel
theorem dX7_know_87 : decode cX7_know 87 = .ok (.getfield 42, 3) := by decide +kernel
theorem dX7_know_90 : decode cX7_know 90 = .ok (.iconst 1, 1) := by decide +kernel
theorem dX7_know_91 : decode cX7_know 91 = .ok (.iadd, 1) := by decide +kernel
theorem dX7_know_92 : decode cX7_know 92 = .ok (.putfield 42, 3) := by decide +kernel
theorem dX7_know_95 : decode cX7_know 95 = .ok (.return_, 1) := by decide +kernel
theorem dX7_change_0 : decode cX7_change 0 = .ok (.aload_n 0, 1) := by decide +kernel
theorem dX7_change_1 : decode cX7_change 1 = .ok (.getfield 7, 3) := by decide +kernel
theorem dX7_change_4 : decode cX7_change 4 = .ok (.iload_n 1, 1) := by decide +kernel
theorem dX7_change_5 : decode cX7_change 5 = .ok (.iaload, 1) := by decide +kernel
theorem dX7_change_6 : decode cX7_change 6 = .ok (.istore_n 3, 1) := by decide +kernel
theorem dX7_change_7 : decode cX7_change 7 = .ok (.iload_n 3, 1) := by decide +kernel
theorem dX7_change_8 : decode cX7_change 8 = .ok (.iload_n 2, 1) := by decide +kernel
theorem dX7_change_9 : decode cX7_change 9 = .ok (.if_icmp .ne 6, 3) := by decide +kernel
theorem dX7_change_12 : decode cX7_change 12 = .ok (.bipush (-5), 2) := by decide +kernel
theorem dX7_change_14 : decode cX7_change 14 = .ok (.ireturn, 1) := by decide +kernel
theorem dX7_change_15 : decode cX7_change 15 = .ok (.aload_n 0, 1) := by decide +kernel
theorem dX7_change_16 : decode cX7_change 16 = .ok (.invokevirtual 46, 3) := by decide +kernel
theorem dX7_change_19 : decode cX7_change 19 = .ok (.aload_n 0, 1) := by decide +kernel
theorem dX7_change_20 : decode cX7_change 20 = .ok (.getfield 7, 3) := by decide +kernel
theorem dX7_change_23 : decode cX7_change 23 = .ok (.iload_n 1, 1) := by decide +kernel
theorem dX7_change_24 : decode cX7_change 24 = .ok (.iload_n 2, 1) := by decide +kernel
theorem dX7_change_25 : decode cX7_change 25 = .ok (.iastore, 1) := by decide +kernel
theorem dX7_change_26 : decode cX7_change 26 = .ok (.iload_n 3, 1) := by decide +kernel
theorem dX7_change_27 : decode cX7_change 27 = .ok (.ireturn, 1) := by decide +kernel
theorem dX7_isLentFrom_0 : decode cX7_isLentFrom 0 = .ok (.iconst 0, 1) := by decide +kernel
theorem dX7_isLentFrom_1 : decode cX7_isLentFrom 1 = .ok (.istore_n 2, 1) := by decide +kernel
theorem dX7_isLentFrom_2 : decode cX7_isLentFrom 2 = .ok (.iload_n 1, 1) := by decide +kernel
theorem dX7_isLentFrom_3 : decode cX7_isLentFrom 3 = .ok (.istore_n 3, 1) := by decide +kernel
theorem dX7_isLentFrom_4 : decode cX7_isLentFrom 4 = .ok (.iload_n 3, 1) := by decide +kernel
theorem dX7_isLentFrom_5 : decode cX7_isLentFrom 5 = .ok (.aload_n 0, 1) := by decide +kernel
theorem dX7_isLentFrom_6 : decode cX7_isLentFrom 6 = .ok (.getfield 7, 3) := by decide +kernel
theorem dX7_isLentFrom_9 : decode cX7_isLentFrom 9 = .ok (.iconst 1, 1) := by decide +kernel
theorem dX7_isLentFrom_10 : decode cX7_isLentFrom 10 = .ok (.iaload, 1) := by decide +kernel
theorem dX7_isLentFrom_11 : decode cX7_isLentFrom 11 = .ok (.if_icmp .ge 33, 3) := by decide +kernel
theorem dX7_isLentFrom_14 : decode cX7_isLentFrom 14 = .ok (.iload_n 2, 1) := by decide +kernel
theorem dX7_isLentFrom_15 : decode cX7_isLentFrom 15 = .ok (.ifCond .ne 17, 3) := by decide +kernel
theorem dX7_isLentFrom_18 : decode cX7_isLentFrom 18 = .ok (.aload_n 0, 1) := by decide +kernel
theorem dX7_isLentFrom_19 : decode cX7_isLentFrom 19 = .ok (.getfield 7, 3) := by decide +kernel
theorem dX7_isLentFrom_22 : decode cX7_isLentFrom 22 = .ok (.bipush 13, 2) := by decide +kernel
theorem dX7_isLentFrom_24 : decode cX7_isLentFrom 24 = .ok (.iload_n 3, 1) := by decide +kernel
theorem dX7_isLentFrom_25 : decode cX7_isLentFrom 25 = .ok (.iadd, 1) := by decide +kernel
theorem dX7_isLentFrom_26 : decode cX7_isLentFrom 26 = .ok (.iaload, 1) := by decide +kernel
theorem dX7_isLentFrom_27 : decode cX7_isLentFrom 27 = .ok (.bipush (-5), 2) := by decide +kernel
theorem dX7_isLentFrom_29 : decode cX7_isLentFrom 29 = .ok (.if_icmp .eq 7, 3) := by decide +kernel
theorem dX7_isLentFrom_32 : decode cX7_isLentFrom 32 = .ok (.iconst 1, 1) := by decide +kernel
theorem dX7_isLentFrom_33 : decode cX7_isLentFrom 33 = .ok (.goto 4, 3) := by decide +kernel
theorem dX7_isLentFrom_36 : decode cX7_isLentFrom 36 = .ok (.iconst 0, 1) := by decide +kernel
theorem dX7_isLentFrom_37 : decode cX7_isLentFrom 37 = .ok (.istore_n 2, 1) := by decide +kernel
theorem dX7_isLentFrom_38 : decode cX7_isLentFrom 38 = .ok (.iinc 3 1, 3) := by decide +kernel
theorem dX7_isLentFrom_41 : decode cX7_isLentFrom 41 = .ok (.goto (-37), 3) := by decide +kernel
theorem dX7_isLentFrom_44 : decode cX7_isLentFrom 44 = .ok (.iload_n 2, 1) := by decide +kernel
theorem dX7_isLentFrom_45 : decode cX7_isLentFrom 45 = .ok (.ireturn, 1) := by decide +kernel
theorem dX7_set_0 : decode cX7_set 0 = .ok (.iload_n 1, 1) := by decide +kernel
theorem dX7_set_1 : decode cX7_set 1 = .ok (.iconst 0, 1) := by decide +kernel
theorem dX7_set_2 : decode cX7_set 2 = .ok (.iconst 2, 1) := by decide +kernel
theorem dX7_set_3 : decode cX7_set 3 = .ok (.invokestatic 38, 3) := by decide +kernel
theorem dX7_set_6 : decode cX7_set 6 = .ok (.ifCond .eq 40, 3) := by decide +kernel
theorem dX7_set_9 : decode cX7_set 9 = .ok (.iload_n 2, 1) := by decide +kernel
theorem dX7_set_10 : decode cX7_set 10 = .ok (.iload_n 1, 1) := by decide +kernel
theorem dX7_set_11 : decode cX7_set 11 = .ok (.iconst 1, 1) := by decide +kernel
theorem dX7_set_12 : decode cX7_set 12 = .ok (.if_icmp .ne 7, 3) := by decide +kernel
theorem dX7_set_15 : decode cX7_set 15 = .ok (.iconst 0, 1) := by decide +kernel
theorem dX7_set_16 : decode cX7_set 16 = .ok (.goto 4, 3) := by decide +kernel
theorem dX7_set_19 : decode cX7_set 19 = .ok (.iconst 1, 1) := by decide +kernel
theorem dX7_set_20 : decode cX7_set 20 = .ok (.iload_n 1, 1) := by decide +kernel
theorem dX7_set_21 : decode cX7_set 21 = .ok (.ifCond .ne 8, 3) := by decide +kernel
theorem dX7_set_24 : decode cX7_set 24 = .ok (.bipush 8, 2) := by decide +kernel
theorem dX7_set_26 : decode cX7_set 26 = .ok (.goto 14, 3) := by decide +kernel
theorem dX7_set_29 : decode cX7_set 29 = .ok (.iload_n 1, 1) := by decide +kernel
theorem dX7_set_30 : decode cX7_set 30 = .ok (.iconst 1, 1) := by decide +kernel
theorem dX7_set_31 : decode cX7_set 31 = .ok (.if_icmp .ne 7, 3) := by decide +kernel
theorem dX7_set_34 : decode cX7_set 34 = .ok (.iconst 2, 1) := by decide +kernel
theorem dX7_set_35 : decode cX7_set 35 = .ok (.goto 5, 3) := by decide +kernel
theorem dX7_set_38 : decode cX7_set 38 = .ok (.bipush 50, 2) := by decide +kernel
theorem dX7_set_40 : decode cX7_set 40 = .ok (.invokestatic 38, 3) := by decide +kernel
theorem dX7_set_43 : decode cX7_set 43 = .ok (.ifCond .ne 6, 3) := by decide +kernel
theorem dX7_set_46 : decode cX7_set 46 = .ok (.bipush (-2), 2) := by decide +kernel
theorem dX7_set_48 : decode cX7_set 48 = .ok (.ireturn, 1) := by decide +kernel
theorem dX7_set_49 : decode cX7_set 49 = .ok (.iload_n 1, 1) := by decide +kernel
theorem dX7_set_50 : decode cX7_set 50 = .ok (.ifCond .ne 14, 3) := by decide +kernel
theorem dX7_set_53 : decode cX7_set 53 = .ok (.aload_n 0, 1) := by decide +kernel
theorem dX7_set_54 : decode cX7_set 54 = .ok (.iload_n 2, 1) := by decide +kernel
theorem dX7_set_55 : decode cX7_set 55 = .ok (.invokevirtual 49, 3) := by decide +kernel
theorem dX7_set_58 : decode cX7_set 58 = .ok (.ifCond .eq 6, 3) := by decide +kernel
theorem dX7_set_61 : decode cX7_set 61 = .ok (.bipush (-4), 2) := by decide +kernel
theorem dX7_set_63 : decode cX7_set 63 = .ok (.ireturn, 1) := by decide +kernel
theorem dX7_set_64 : decode cX7_set 64 = .ok (.aload_n 0, 1) := by decide +kernel
theorem dX7_set_65 : decode cX7_set 65 = .ok (.iconst 1, 1) := by decide +kernel
theorem dX7_set_66 : decode cX7_set 66 = .ok (.iload_n 1, 1) := by decide +kernel
theorem dX7_set_67 : decode cX7_set 67 = .ok (.iadd, 1) := by decide +kernel
theorem dX7_set_68 : decode cX7_set 68 = .ok (.iload_n 2, 1) := by decide +kernel
theorem dX7_set_69 : decode cX7_set 69 = .ok (.invokevirtual 53, 3) := by decide +kernel
theorem dX7_set_72 : decode cX7_set 72 = .ok (.ireturn, 1) := by decide +kernel
theorem dX7_setShare_0 : decode cX7_setShare 0 = .ok (.iload_n 1, 1) := by decide +kernel
theorem dX7_setShare_1 : decode cX7_setShare 1 = .ok (.invokestatic 56, 3) := by decide +kernel
theorem dX7_setShare_4 : decode cX7_setShare 4 = .ok (.ifCond .ne 5, 3) := by decide +kernel
theorem dX7_setShare_7 : decode cX7_setShare 7 = .ok (.iconst (-1), 1) := by decide +kernel
theorem dX7_setShare_8 : decode cX7_setShare 8 = .ok (.ireturn, 1) := by decide +kernel
theorem dX7_setShare_9 : decode cX7_setShare 9 = .ok (.iload_n 2, 1) := by decide +kernel
theorem dX7_setShare_10 : decode cX7_setShare 10 = .ok (.iconst 1, 1) := by decide +kernel
theorem dX7_setShare_11 : decode cX7_setShare 11 = .ok (.bipush 8, 2) := by decide +kernel
theorem dX7_setShare_13 : decode cX7_setShare 13 = .ok (.invokestatic 38, 3) := by decide +kernel
theorem dX7_setShare_16 : decode cX7_setShare 16 = .ok (.ifCond .eq 17, 3) := by decide +kernel
theorem dX7_setShare_19 : decode cX7_setShare 19 = .ok (.aload_n 0, 1) := by decide +kernel
theorem dX7_setShare_20 : decode cX7_setShare 20 = .ok (.iload_n 1, 1) := by decide +kernel
theorem dX7_setShare_21 : decode cX7_setShare 21 = .ok (.bipush 7, 2) := by decide +kernel
theorem dX7_setShare_23 : decode cX7_setShare 23 = .ok (.invokestatic 31, 3) := by decide +kernel
theorem dX7_setShare_26 : decode cX7_setShare 26 = .ok (.iload_n 2, 1) := by decide +kernel
theorem dX7_setShare_27 : decode cX7_setShare 27 = .ok (.invokevirtual 53, 3) := by decide +kernel
theorem dX7_setShare_30 : decode cX7_setShare 30 = .ok (.goto 5, 3) := by decide +kernel
theorem dX7_setShare_33 : decode cX7_setShare 33 = .ok (.bipush (-2), 2) := by decide +kernel
theorem dX7_setShare_35 : decode cX7_setShare 35 = .ok (.ireturn, 1) := by decide +kernel
theorem dX7_setTarget_0 : decode cX7_setTarget 0 = .ok (.iload_n 1, 1) := by decide +kernel
theorem dX7_setTarget_1 : decode cX7_setTarget 1 = .ok (.invokestatic 56, 3) := by decide +kernel
theorem dX7_setTarget_4 : decode cX7_setTarget 4 = .ok (.ifCond .ne 5, 3) := by decide +kernel
theorem dX7_setTarget_7 : decode cX7_setTarget 7 = .ok (.iconst (-1), 1) := by decide +kernel
theorem dX7_setTarget_8 : decode cX7_setTarget 8 = .ok (.ireturn, 1) := by decide +kernel
theorem dX7_setTarget_9 : decode cX7_setTarget 9 = .ok (.iload_n 2, 1) := by decide +kernel
theorem dX7_setTarget_10 : decode cX7_setTarget 10 = .ok (.iconst 0, 1) := by decide +kernel
theorem dX7_setTarget_11 : decode cX7_setTarget 11 = .ok (.iconst 2, 1) := by decide +kernel
theorem dX7_setTarget_12 : decode cX7_setTarget 12 = .ok (.invokestatic 38, 3) := by decide +kernel
theorem dX7_setTarget_15 : decode cX7_setTarget 15 = .ok (.ifCond .eq 39, 3) := by decide +kernel
theorem dX7_setTarget_18 : decode cX7_setTarget 18 = .ok (.iload_n 3, 1) := by decide +kernel
theorem dX7_setTarget_19 : decode cX7_setTarget 19 = .ok (.iload_n 2, 1) := by decide +kernel
theorem dX7_setTarget_20 : decode cX7_setTarget 20 = .ok (.iconst 2, 1) := by decide +kernel
theorem dX7_setTarget_21 : decode cX7_setTarget 21 = .ok (.if_icmp .ne 7, 3) := by decide +kernel
theorem dX7_setTarget_24 : decode cX7_setTarget 24 = .ok (.iconst 0, 1) := by decide +kernel
theorem dX7_setTarget_25 : decode cX7_setTarget 25 = .ok (.goto 4, 3) := by decide +kernel
theorem dX7_setTarget_28 : decode cX7_setTarget 28 = .ok (.iconst 1, 1) := by decide +kernel
theorem dX7_setTarget_29 : decode cX7_setTarget 29 = .ok (.iload_n 2, 1) := by decide +kernel
theorem dX7_setTarget_30 : decode cX7_setTarget 30 = .ok (.ifCond .ne 7, 3) := by decide +kernel
theorem dX7_setTarget_33 : decode cX7_setTarget 33 = .ok (.iconst 4, 1) := by decide +kernel
theorem dX7_setTarget_34 : decode cX7_setTarget 34 = .ok (.goto 14, 3) := by decide +kernel
theorem dX7_setTarget_37 : decode cX7_setTarget 37 = .ok (.iload_n 2, 1) := by decide +kernel
theorem dX7_setTarget_38 : decode cX7_setTarget 38 = .ok (.iconst 1, 1) := by decide +kernel
theorem dX7_setTarget_39 : decode cX7_setTarget 39 = .ok (.if_icmp .ne 8, 3) := by decide +kernel
theorem dX7_setTarget_42 : decode cX7_setTarget 42 = .ok (.bipush 9, 2) := by decide +kernel
theorem dX7_setTarget_44 : decode cX7_setTarget 44 = .ok (.goto 4, 3) := by decide +kernel
theorem dX7_setTarget_47 : decode cX7_setTarget 47 = .ok (.iconst 1, 1) := by decide +kernel
theorem dX7_setTarget_48 : decode cX7_setTarget 48 = .ok (.invokestatic 38, 3) := by decide +kernel
theorem dX7_setTarget_51 : decode cX7_setTarget 51 = .ok (.ifCond .ne 6, 3) := by decide +kernel
theorem dX7_setTarget_54 : decode cX7_setTarget 54 = .ok (.bipush (-2), 2) := by decide +kernel
theorem dX7_setTarget_56 : decode cX7_setTarget 56 = .ok (.ireturn, 1) := by decide +kernel
theorem dX7_setTarget_57 : decode cX7_setTarget 57 = .ok (.aload_n 0, 1) := by decide +kernel
theorem dX7_setTarget_58 : decode cX7_setTarget 58 = .ok (.iload_n 1, 1) := by decide +kernel
theorem dX7_setTarget_59 : decode cX7_setTarget 59 = .ok (.bipush 16, 2) := by decide +kernel
theorem dX7_setTarget_61 : decode cX7_setTarget 61 = .ok (.iload_n 2, 1) := by decide +kernel
theorem dX7_setTarget_62 : decode cX7_setTarget 62 = .ok (.iadd, 1) := by decide +kernel
theorem dX7_setTarget_63 : decode cX7_setTarget 63 = .ok (.invokestatic 35, 3) := by decide +kernel
theorem dX7_setTarget_66 : decode cX7_setTarget 66 = .ok (.iload_n 3, 1) := by decide +kernel
theorem dX7_setTarget_67 : decode cX7_setTarget 67 = .ok (.invokevirtual 53, 3) := by decide +kernel
theorem dX7_setTarget_70 : decode cX7_setTarget 70 = .ok (.ireturn, 1) := by decide +kernel
theorem dX7_setCell_0 : decode cX7_setCell 0 = .ok (.iload_n 1, 1) := by decide +kernel
theorem dX7_setCell_1 : decode cX7_setCell 1 = .ok (.invokestatic 56, 3) := by decide +kernel
theorem dX7_setCell_4 : decode cX7_setCell 4 = .ok (.ifCond .ne 5, 3) := by decide +kernel
theorem dX7_setCell_7 : decode cX7_setCell 7 = .ok (.iconst (-1), 1) := by decide +kernel
theorem dX7_setCell_8 : decode cX7_setCell 8 = .ok (.ireturn, 1) := by decide +kernel
theorem dX7_setCell_9 : decode cX7_setCell 9 = .ok (.iload_n 2, 1) := by decide +kernel
theorem dX7_setCell_10 : decode cX7_setCell 10 = .ok (.iconst 0, 1) := by decide +kernel
theorem dX7_setCell_11 : decode cX7_setCell 11 = .ok (.bipush 15, 2) := by decide +kernel
theorem dX7_setCell_13 : decode cX7_setCell 13 = .ok (.invokestatic 38, 3) := by decide +kernel
theorem dX7_setCell_16 : decode cX7_setCell 16 = .ok (.ifCond .eq 26, 3) := by decide +kernel
theorem dX7_setCell_19 : decode cX7_setCell 19 = .ok (.iload_n 3, 1) := by decide +kernel
theorem dX7_setCell_20 : decode cX7_setCell 20 = .ok (.iconst 0, 1) := by decide +kernel
theorem dX7_setCell_21 : decode cX7_setCell 21 = .ok (.bipush 99, 2) := by decide +kernel
theorem dX7_setCell_23 : decode cX7_setCell 23 = .ok (.invokestatic 38, 3) := by decide +kernel
theorem dX7_setCell_26 : decode cX7_setCell 26 = .ok (.ifCond .eq 16, 3) := by decide +kernel
theorem dX7_setCell_29 : decode cX7_setCell 29 = .ok (.aload_n 0, 1) := by decide +kernel
theorem dX7_setCell_30 : decode cX7_setCell 30 = .ok (.iload_n 1, 1) := by decide +kernel
theorem dX7_setCell_31 : decode cX7_setCell 31 = .ok (.iload_n 2, 1) := by decide +kernel
theorem dX7_setCell_32 : decode cX7_setCell 32 = .ok (.invokestatic 35, 3) := by decide +kernel
theorem dX7_setCell_35 : decode cX7_setCell 35 = .ok (.iload_n 3, 1) := by decide +kernel
theorem dX7_setCell_36 : decode cX7_setCell 36 = .ok (.invokevirtual 53, 3) := by decide +kernel
theorem dX7_setCell_39 : decode cX7_setCell 39 = .ok (.goto 5, 3) := by decide +kernel
theorem dX7_setCell_42 : decode cX7_setCell 42 = .ok (.bipush (-2), 2) := by decide +kernel
theorem dX7_setCell_44 : decode cX7_setCell 44 = .ok (.ireturn, 1) := by decide +kernel
theorem dX7_isRoom_0 : decode cX7_isRoom 0 = .ok (.aload_n 0, 1) := by decide +kernel
theorem dX7_isRoom_1 : decode cX7_isRoom 1 = .ok (.getfield 7, 3) := by decide +kernel
theorem dX7_isRoom_4 : decode cX7_isRoom 4 = .ok (.iload_n 1, 1) := by decide +kernel
theorem dX7_isRoom_5 : decode cX7_isRoom 5 = .ok (.iconst 0, 1) := by decide +kernel
theorem dX7_isRoom_6 : decode cX7_isRoom 6 = .ok (.invokestatic 31, 3) := by decide +kernel
theorem dX7_isRoom_9 : decode cX7_isRoom 9 = .ok (.iaload, 1) := by decide +kernel
theorem dX7_isRoom_10 : decode cX7_isRoom 10 = .ok (.bipush 6, 2) := by decide +kernel
theorem dX7_isRoom_12 : decode cX7_isRoom 12 = .ok (.if_icmp .ge 19, 3) := by decide +kernel
theorem dX7_isRoom_15 : decode cX7_isRoom 15 = .ok (.aload_n 0, 1) := by decide +kernel
theorem dX7_isRoom_16 : decode cX7_isRoom 16 = .ok (.getfield 7, 3) := by decide +kernel
theorem dX7_isRoom_19 : decode cX7_isRoom 19 = .ok (.iconst 4, 1) := by decide +kernel
theorem dX7_isRoom_20 : decode cX7_isRoom 20 = .ok (.iaload, 1) := by decide +kernel
theorem dX7_isRoom_21 : decode cX7_isRoom 21 = .ok (.sipush 200, 3) := by decide +kernel
theorem dX7_isRoom_24 : decode cX7_isRoom 24 = .ok (.if_icmp .ge 7, 3) := by decide +kernel
theorem dX7_isRoom_27 : decode cX7_isRoom 27 = .ok (.iconst 1, 1) := by decide +kernel
theorem dX7_isRoom_28 : decode cX7_isRoom 28 = .ok (.goto 4, 3) := by decide +kernel
theorem dX7_isRoom_31 : decode cX7_isRoom 31 = .ok (.iconst 0, 1) := by decide +kernel
theorem dX7_isRoom_32 : decode cX7_isRoom 32 = .ok (.ireturn, 1) := by decide +kernel
theorem dX7_put_0 : decode cX7_put 0 = .ok (.aload_n 0, 1) := by decide +kernel
theorem dX7_put_1 : decode cX7_put 1 = .ok (.getfield 7, 3) := by decide +kernel
theorem dX7_put_4 : decode cX7_put 4 = .ok (.iconst 4, 1) := by decide +kernel
theorem dX7_put_5 : decode cX7_put 5 = .ok (.iaload, 1) := by decide +kernel
theorem dX7_put_6 : decode cX7_put 6 = .ok (.istore 5, 2) := by decide +kernel
theorem dX7_put_8 : decode cX7_put 8 = .ok (.aload_n 0, 1) := by decide +kernel
theorem dX7_put_9 : decode cX7_put 9 = .ok (.getfield 7, 3) := by decide +kernel
theorem dX7_put_12 : decode cX7_put 12 = .ok (.iload 5, 2) := by decide +kernel
theorem dX7_put_14 : decode cX7_put 14 = .ok (.iconst 0, 1) := by decide +kernel
theorem dX7_put_15 : decode cX7_put 15 = .ok (.invokestatic 59, 3) := by decide +kernel
theorem dX7_put_18 : decode cX7_put 18 = .ok (.iload_n 1, 1) := by decide +kernel
theorem dX7_put_19 : decode cX7_put 19 = .ok (.iastore, 1) := by decide +kernel
theorem dX7_put_20 : decode cX7_put 20 = .ok (.aload_n 0, 1) := by decide +kernel
theorem dX7_put_21 : decode cX7_put 21 = .ok (.getfield 7, 3) := by decide +kernel
theorem dX7_put_24 : decode cX7_put 24 = .ok (.iload 5, 2) := by decide +kernel
theorem dX7_put_26 : decode cX7_put 26 = .ok (.iconst 1, 1) := by decide +kernel
theorem dX7_put_27 : decode cX7_put 27 = .ok (.invokestatic 59, 3) := by decide +kernel
theorem dX7_put_30 : decode cX7_put 30 = .ok (.iload_n 2, 1) := by decide +kernel
theorem dX7_put_31 : decode cX7_put 31 = .ok (.iastore, 1) := by decide +kernel
theorem dX7_put_32 : decode cX7_put 32 = .ok (.aload_n 0, 1) := by decide +kernel
theorem dX7_put_33 : decode cX7_put 33 = .ok (.getfield 7, 3) := by decide +kernel
theorem dX7_put_36 : decode cX7_put 36 = .ok (.iload 5, 2) := by decide +kernel
theorem dX7_put_38 : decode cX7_put 38 = .ok (.iconst 2, 1) := by decide +kernel
theorem dX7_put_39 : decode cX7_put 39 = .ok (.invokestatic 59, 3) := by decide +kernel
theorem dX7_put_42 : decode cX7_put 42 = .ok (.iload_n 3, 1) := by decide +kernel
theorem dX7_put_43 : decode cX7_put 43 = .ok (.iastore, 1) := by decide +kernel
theorem dX7_put_44 : decode cX7_put 44 = .ok (.aload_n 0, 1) := by decide +kernel
theorem dX7_put_45 : decode cX7_put 45 = .ok (.getfield 7, 3) := by decide +kernel
theorem dX7_put_48 : decode cX7_put 48 = .ok (.iload 5, 2) := by decide +kernel
theorem dX7_put_50 : decode cX7_put 50 = .ok (.iconst 3, 1) := by decide +kernel
theorem dX7_put_51 : decode cX7_put 51 = .ok (.invokestatic 59, 3) := by decide +kernel
theorem dX7_put_54 : decode cX7_put 54 = .ok (.iload 4, 2) := by decide +kernel
theorem dX7_put_56 : decode cX7_put 56 = .ok (.iastore, 1) := by decide +kernel
theorem dX7_put_57 : decode cX7_put 57 = .ok (.aload_n 0, 1) := by decide +kernel
theorem dX7_put_58 : decode cX7_put 58 = .ok (.getfield 7, 3) := by decide +kernel
theorem dX7_put_61 : decode cX7_put 61 = .ok (.iload 5, 2) := by decide +kernel
theorem dX7_put_63 : decode cX7_put 63 = .ok (.iconst 4, 1) := by decide +kernel
theorem dX7_put_64 : decode cX7_put 64 = .ok (.invokestatic 59, 3) := by decide +kernel
theorem dX7_put_67 : decode cX7_put 67 = .ok (.iconst 0, 1) := by decide +kernel
theorem dX7_put_68 : decode cX7_put 68 = .ok (.iastore, 1) := by decide +kernel
theorem dX7_put_69 : decode cX7_put 69 = .ok (.aload_n 0, 1) := by decide +kernel
theorem dX7_put_70 : decode cX7_put 70 = .ok (.getfield 7, 3) := by decide +kernel
theorem dX7_put_73 : decode cX7_put 73 = .ok (.iload 5, 2) := by decide +kernel
theorem dX7_put_75 : decode cX7_put 75 = .ok (.iconst 5, 1) := by decide +kernel
theorem dX7_put_76 : decode cX7_put 76 = .ok (.invokestatic 59, 3) := by decide +kernel
theorem dX7_put_79 : decode cX7_put 79 = .ok (.bipush (-5), 2) := by decide +kernel
theorem dX7_put_81 : decode cX7_put 81 = .ok (.iastore, 1) := by decide +kernel
theorem dX7_put_82 : decode cX7_put 82 = .ok (.aload_n 0, 1) := by decide +kernel
theorem dX7_put_83 : decode cX7_put 83 = .ok (.getfield 7, 3) := by decide +kernel
theorem dX7_put_86 : decode cX7_put 86 = .ok (.iload 5, 2) := by decide +kernel
theorem dX7_put_88 : decode cX7_put 88 = .ok (.bipush 6, 2) := by decide +kernel
theorem dX7_put_90 : decode cX7_put 90 = .ok (.invokestatic 59, 3) := by decide +kernel
theorem dX7_put_93 : decode cX7_put 93 = .ok (.bipush (-5), 2) := by decide +kernel
theorem dX7_put_95 : decode cX7_put 95 = .ok (.iastore, 1) := by decide +kernel
theorem dX7_put_96 : decode cX7_put 96 = .ok (.aload_n 0, 1) := by decide +kernel
theorem dX7_put_97 : decode cX7_put 97 = .ok (.getfield 7, 3) := by decide +kernel
theorem dX7_put_100 : decode cX7_put 100 = .ok (.iload 5, 2) := by decide +kernel
theorem dX7_put_102 : decode cX7_put 102 = .ok (.bipush 7, 2) := by decide +kernel
theorem dX7_put_104 : decode cX7_put 104 = .ok (.invokestatic 59, 3) := by decide +kernel
theorem dX7_put_107 : decode cX7_put 107 = .ok (.aload_n 0, 1) := by decide +kernel
theorem dX7_put_108 : decode cX7_put 108 = .ok (.getfield 7, 3) := by decide +kernel
theorem dX7_put_111 : decode cX7_put 111 = .ok (.iconst 0, 1) := by decide +kernel
theorem dX7_put_112 : decode cX7_put 112 = .ok (.iaload, 1) := by decide +kernel
theorem dX7_put_113 : decode cX7_put 113 = .ok (.iastore, 1) := by decide +kernel
theorem dX7_put_114 : decode cX7_put 114 = .ok (.aload_n 0, 1) := by decide +kernel
theorem dX7_put_115 : decode cX7_put 115 = .ok (.getfield 7, 3) := by decide +kernel
theorem dX7_put_118 : decode cX7_put 118 = .ok (.iload 5, 2) := by decide +kernel
theorem dX7_put_120 : decode cX7_put 120 = .ok (.bipush 8, 2) := by decide +kernel
theorem dX7_put_122 : decode cX7_put 122 = .ok (.invokestatic 59, 3) := by decide +kernel
theorem dX7_put_125 : decode cX7_put 125 = .ok (.bipush (-5), 2) := by decide +kernel
theorem dX7_put_127 : decode cX7_put 127 = .ok (.iastore, 1) := by decide +kernel
theorem dX7_put_128 : decode cX7_put 128 = .ok (.aload_n 0, 1) := by decide +kernel
theorem dX7_put_129 : decode cX7_put 129 = .ok (.getfield 7, 3) := by decide +kernel
theorem dX7_put_132 : decode cX7_put 132 = .ok (.iload 5, 2) := by decide +kernel
theorem dX7_put_134 : decode cX7_put 134 = .ok (.bipush 9, 2) := by decide +kernel
theorem dX7_put_136 : decode cX7_put 136 = .ok (.invokestatic 59, 3) := by decide +kernel
theorem dX7_put_139 : decode cX7_put 139 = .ok (.iconst 0, 1) := by decide +kernel
theorem dX7_put_140 : decode cX7_put 140 = .ok (.iastore, 1) := by decide +kernel
theorem dX7_put_141 : decode cX7_put 141 = .ok (.aload_n 0, 1) := by decide +kernel
theorem dX7_put_142 : decode cX7_put 142 = .ok (.getfield 7, 3) := by decide +kernel
theorem dX7_put_145 : decode cX7_put 145 = .ok (.iload 5, 2) := by decide +kernel
theorem dX7_put_147 : decode cX7_put 147 = .ok (.bipush 10, 2) := by decide +kernel
theorem dX7_put_149 : decode cX7_put 149 = .ok (.invokestatic 59, 3) := by decide +kernel
theorem dX7_put_152 : decode cX7_put 152 = .ok (.iconst 0, 1) := by decide +kernel
theorem dX7_put_153 : decode cX7_put 153 = .ok (.iastore, 1) := by decide +kernel
theorem dX7_put_154 : decode cX7_put 154 = .ok (.aload_n 0, 1) := by decide +kernel
theorem dX7_put_155 : decode cX7_put 155 = .ok (.getfield 7, 3) := by decide +kernel
theorem dX7_put_158 : decode cX7_put 158 = .ok (.iload_n 1, 1) := by decide +kernel
theorem dX7_put_159 : decode cX7_put 159 = .ok (.iconst 1, 1) := by decide +kernel
theorem dX7_put_160 : decode cX7_put 160 = .ok (.aload_n 0, 1) := by decide +kernel
theorem dX7_put_161 : decode cX7_put 161 = .ok (.getfield 7, 3) := by decide +kernel
theorem dX7_put_164 : decode cX7_put 164 = .ok (.iload_n 1, 1) := by decide +kernel
theorem dX7_put_165 : decode cX7_put 165 = .ok (.iconst 0, 1) := by decide +kernel
theorem dX7_put_166 : decode cX7_put 166 = .ok (.invokestatic 31, 3) := by decide +kernel
theorem dX7_put_169 : decode cX7_put 169 = .ok (.iaload, 1) := by decide +kernel
theorem dX7_put_170 : decode cX7_put 170 = .ok (.iadd, 1) := by decide +kernel
theorem dX7_put_171 : decode cX7_put 171 = .ok (.invokestatic 31, 3) := by decide +kernel
theorem dX7_put_174 : decode cX7_put 174 = .ok (.iload 5, 2) := by decide +kernel
theorem dX7_put_176 : decode cX7_put 176 = .ok (.iastore, 1) := by decide +kernel
theorem dX7_put_177 : decode cX7_put 177 = .ok (.aload_n 0, 1) := by decide +kernel
theorem dX7_put_178 : decode cX7_put 178 = .ok (.getfield 7, 3) := by decide +kernel
theorem dX7_put_181 : decode cX7_put 181 = .ok (.iload_n 1, 1) := by decide +kernel
theorem dX7_put_182 : decode cX7_put 182 = .ok (.iconst 0, 1) := by decide +kernel
theorem dX7_put_183 : decode cX7_put 183 = .ok (.invokestatic 31, 3) := by decide +kernel
theorem dX7_put_186 : decode cX7_put 186 = .ok (.dup2, 1) := by decide +kernel
theorem dX7_put_187 : decode cX7_put 187 = .ok (.iaload, 1) := by decide +kernel
theorem dX7_put_188 : decode cX7_put 188 = .ok (.iconst 1, 1) := by decide +kernel
theorem dX7_put_189 : decode cX7_put 189 = .ok (.iadd, 1) := by decide +kernel
theorem dX7_put_190 : decode cX7_put 190 = .ok (.iastore, 1) := by decide +kernel
theorem dX7_put_191 : decode cX7_put 191 = .ok (.aload_n 0, 1) := by decide +kernel
theorem dX7_put_192 : decode cX7_put 192 = .ok (.getfield 7, 3) := by decide +kernel
theorem dX7_put_195 : decode cX7_put 195 = .ok (.iconst 4, 1) := by decide +kernel
theorem dX7_put_196 : decode cX7_put 196 = .ok (.dup2, 1) := by decide +kernel
theorem dX7_put_197 : decode cX7_put 197 = .ok (.iaload, 1) := by decide +kernel
theorem dX7_put_198 : decode cX7_put 198 = .ok (.iconst 1, 1) := by decide +kernel
theorem dX7_put_199 : decode cX7_put 199 = .ok (.iadd, 1) := by decide +kernel
theorem dX7_put_200 : decode cX7_put 200 = .ok (.iastore, 1) := by decide +kernel
theorem dX7_put_201 : decode cX7_put 201 = .ok (.iload 5, 2) := by decide +kernel
theorem dX7_put_203 : decode cX7_put 203 = .ok (.ireturn, 1) := by decide +kernel
theorem dX7_read_0 : decode cX7_read 0 = .ok (.iload_n 1, 1) := by decide +kernel
theorem dX7_read_1 : decode cX7_read 1 = .ok (.invokestatic 56, 3) := by decide +kernel
theorem dX7_read_4 : decode cX7_read 4 = .ok (.ifCond .eq 10, 3) := by decide +kernel
theorem dX7_read_7 : decode cX7_read 7 = .ok (.iload_n 2, 1) := by decide +kernel
theorem dX7_read_8 : decode cX7_read 8 = .ok (.invokestatic 56, 3) := by decide +kernel
theorem dX7_read_11 : decode cX7_read 11 = .ok (.ifCond .ne 5, 3) := by decide +kernel
theorem dX7_read_14 : decode cX7_read 14 = .ok (.iconst (-1), 1) := by decide +kernel
theorem dX7_read_15 : decode cX7_read 15 = .ok (.ireturn, 1) := by decide +kernel
theorem dX7_read_16 : decode cX7_read 16 = .ok (.iload_n 3, 1) := by decide +kernel
theorem dX7_read_17 : decode cX7_read 17 = .ok (.iconst 0, 1) := by decide +kernel
theorem dX7_read_18 : decode cX7_read 18 = .ok (.bipush 15, 2) := by decide +kernel
theorem dX7_read_20 : decode cX7_read 20 = .ok (.invokestatic 38, 3) := by decide +kernel
theorem dX7_read_23 : decode cX7_read 23 = .ok (.ifCond .ne 6, 3) := by decide +kernel
theorem dX7_read_26 : decode cX7_read 26 = .ok (.bipush (-2), 2) := by decide +kernel
theorem dX7_read_28 : decode cX7_read 28 = .ok (.ireturn, 1) := by decide +kernel
theorem dX7_read_29 : decode cX7_read 29 = .ok (.aload_n 0, 1) := by decide +kernel
theorem dX7_read_30 : decode cX7_read 30 = .ok (.iload_n 1, 1) := by decide +kernel
theorem dX7_read_31 : decode cX7_read 31 = .ok (.invokevirtual 62, 3) := by decide +kernel
theorem dX7_read_34 : decode cX7_read 34 = .ok (.ifCond .ne 6, 3) := by decide +kernel
theorem dX7_read_37 : decode cX7_read 37 = .ok (.bipush (-3), 2) := by decide +kernel
theorem dX7_read_39 : decode cX7_read 39 = .ok (.ireturn, 1) := by decide +kernel
theorem dX7_read_40 : decode cX7_read 40 = .ok (.aload_n 0, 1) := by decide +kernel
theorem dX7_read_41 : decode cX7_read 41 = .ok (.invokevirtual 46, 3) := by decide +kernel
theorem dX7_read_44 : decode cX7_read 44 = .ok (.aload_n 0, 1) := by decide +kernel
theorem dX7_read_45 : decode cX7_read 45 = .ok (.iload_n 1, 1) := by decide +kernel
theorem dX7_read_46 : decode cX7_read 46 = .ok (.iload_n 2, 1) := by decide +kernel
theorem dX7_read_47 : decode cX7_read 47 = .ok (.iload_n 3, 1) := by decide +kernel
theorem dX7_read_48 : decode cX7_read 48 = .ok (.bipush (-5), 2) := by decide +kernel
theorem dX7_read_50 : decode cX7_read 50 = .ok (.invokevirtual 65, 3) := by decide +kernel
theorem dX7_read_53 : decode cX7_read 53 = .ok (.ireturn, 1) := by decide +kernel
theorem dX7_write_0 : decode cX7_write 0 = .ok (.iload_n 1, 1) := by decide +kernel
theorem dX7_write_1 : decode cX7_write 1 = .ok (.invokestatic 56, 3) := by decide +kernel
theorem dX7_write_4 : decode cX7_write 4 = .ok (.ifCond .eq 10, 3) := by decide +kernel
theorem dX7_write_7 : decode cX7_write 7 = .ok (.iload_n 2, 1) := by decide +kernel
theorem dX7_write_8 : decode cX7_write 8 = .ok (.invokestatic 56, 3) := by decide +kernel
theorem dX7_write_11 : decode cX7_write 11 = .ok (.ifCond .ne 5, 3) := by decide +kernel
theorem dX7_write_14 : decode cX7_write 14 = .ok (.iconst (-1), 1) := by decide +kernel
theorem dX7_write_15 : decode cX7_write 15 = .ok (.ireturn, 1) := by decide +kernel
theorem dX7_write_16 : decode cX7_write 16 = .ok (.iload_n 3, 1) := by decide +kernel
theorem dX7_write_17 : decode cX7_write 17 = .ok (.iconst 0, 1) := by decide +kernel
theorem dX7_write_18 : decode cX7_write 18 = .ok (.bipush 15, 2) := by decide +kernel
theorem dX7_write_20 : decode cX7_write 20 = .ok (.invokestatic 38, 3) := by decide +kernel
theorem dX7_write_23 : decode cX7_write 23 = .ok (.ifCond .eq 14, 3) := by decide +kernel
theorem dX7_write_26 : decode cX7_write 26 = .ok (.iload 4, 2) := by decide +kernel
theorem dX7_write_28 : decode cX7_write 28 = .ok (.iconst 0, 1) := by decide +kernel
theorem dX7_write_29 : decode cX7_write 29 = .ok (.bipush 99, 2) := by decide +kernel
theorem dX7_write_31 : decode cX7_write 31 = .ok (.invokestatic 38, 3) := by decide +kernel
theorem dX7_write_34 : decode cX7_write 34 = .ok (.ifCond .ne 6, 3) := by decide +kernel
theorem dX7_write_37 : decode cX7_write 37 = .ok (.bipush (-2), 2) := by decide +kernel
theorem dX7_write_39 : decode cX7_write 39 = .ok (.ireturn, 1) := by decide +kernel
theorem dX7_write_40 : decode cX7_write 40 = .ok (.aload_n 0, 1) := by decide +kernel
theorem dX7_write_41 : decode cX7_write 41 = .ok (.iload_n 1, 1) := by decide +kernel
theorem dX7_write_42 : decode cX7_write 42 = .ok (.invokevirtual 62, 3) := by decide +kernel
theorem dX7_write_45 : decode cX7_write 45 = .ok (.ifCond .ne 6, 3) := by decide +kernel
theorem dX7_write_48 : decode cX7_write 48 = .ok (.bipush (-3), 2) := by decide +kernel
theorem dX7_write_50 : decode cX7_write 50 = .ok (.ireturn, 1) := by decide +kernel
theorem dX7_write_51 : decode cX7_write 51 = .ok (.aload_n 0, 1) := by decide +kernel
theorem dX7_write_52 : decode cX7_write 52 = .ok (.invokevirtual 46, 3) := by decide +kernel
theorem dX7_write_55 : decode cX7_write 55 = .ok (.aload_n 0, 1) := by decide +kernel
theorem dX7_write_56 : decode cX7_write 56 = .ok (.iload_n 1, 1) := by decide +kernel
theorem dX7_write_57 : decode cX7_write 57 = .ok (.iload_n 2, 1) := by decide +kernel
theorem dX7_write_58 : decode cX7_write 58 = .ok (.iload_n 3, 1) := by decide +kernel
theorem dX7_write_59 : decode cX7_write 59 = .ok (.iload 4, 2) := by decide +kernel
theorem dX7_write_61 : decode cX7_write 61 = .ok (.invokevirtual 65, 3) := by decide +kernel
theorem dX7_write_64 : decode cX7_write 64 = .ok (.ireturn, 1) := by decide +kernel
theorem dX7_withdraw_0 : decode cX7_withdraw 0 = .ok (.iload_n 1, 1) := by decide +kernel
theorem dX7_withdraw_1 : decode cX7_withdraw 1 = .ok (.invokestatic 56, 3) := by decide +kernel
theorem dX7_withdraw_4 : decode cX7_withdraw 4 = .ok (.ifCond .ne 5, 3) := by decide +kernel
theorem dX7_withdraw_7 : decode cX7_withdraw 7 = .ok (.iconst (-1), 1) := by decide +kernel
theorem dX7_withdraw_8 : decode cX7_withdraw 8 = .ok (.ireturn, 1) := by decide +kernel
theorem dX7_withdraw_9 : decode cX7_withdraw 9 = .ok (.aload_n 0, 1) := by decide +kernel
theorem dX7_withdraw_10 : decode cX7_withdraw 10 = .ok (.getfield 7, 3) := by decide +kernel
theorem dX7_withdraw_13 : decode cX7_withdraw 13 = .ok (.iload_n 1, 1) := by decide +kernel
theorem dX7_withdraw_14 : decode cX7_withdraw 14 = .ok (.iconst 0, 1) := by decide +kernel
theorem dX7_withdraw_15 : decode cX7_withdraw 15 = .ok (.invokestatic 31, 3) := by decide +kernel
theorem dX7_withdraw_18 : decode cX7_withdraw 18 = .ok (.iaload, 1) := by decide +kernel
theorem dX7_withdraw_19 : decode cX7_withdraw 19 = .ok (.ifCond .ne 6, 3) := by decide +kernel
theorem dX7_withdraw_22 : decode cX7_withdraw 22 = .ok (.bipush (-5), 2) := by decide +kernel
theorem dX7_withdraw_24 : decode cX7_withdraw 24 = .ok (.ireturn, 1) := by decide +kernel
theorem dX7_withdraw_25 : decode cX7_withdraw 25 = .ok (.aload_n 0, 1) := by decide +kernel
theorem dX7_withdraw_26 : decode cX7_withdraw 26 = .ok (.invokevirtual 46, 3) := by decide +kernel
theorem dX7_withdraw_29 : decode cX7_withdraw 29 = .ok (.aload_n 0, 1) := by decide +kernel
theorem dX7_withdraw_30 : decode cX7_withdraw 30 = .ok (.getfield 7, 3) := by decide +kernel
theorem dX7_withdraw_33 : decode cX7_withdraw 33 = .ok (.iload_n 1, 1) := by decide +kernel
theorem dX7_withdraw_34 : decode cX7_withdraw 34 = .ok (.iconst 0, 1) := by decide +kernel
theorem dX7_withdraw_35 : decode cX7_withdraw 35 = .ok (.invokestatic 31, 3) := by decide +kernel
theorem dX7_withdraw_38 : decode cX7_withdraw 38 = .ok (.dup2, 1) := by decide +kernel
theorem dX7_withdraw_39 : decode cX7_withdraw 39 = .ok (.iaload, 1) := by decide +kernel
theorem dX7_withdraw_40 : decode cX7_withdraw 40 = .ok (.iconst 1, 1) := by decide +kernel
theorem dX7_withdraw_41 : decode cX7_withdraw 41 = .ok (.isub, 1) := by decide +kernel
theorem dX7_withdraw_42 : decode cX7_withdraw 42 = .ok (.iastore, 1) := by decide +kernel
theorem dX7_withdraw_43 : decode cX7_withdraw 43 = .ok (.aload_n 0, 1) := by decide +kernel
theorem dX7_withdraw_44 : decode cX7_withdraw 44 = .ok (.getfield 7, 3) := by decide +kernel
theorem dX7_withdraw_47 : decode cX7_withdraw 47 = .ok (.iload_n 1, 1) := by decide +kernel
theorem dX7_withdraw_48 : decode cX7_withdraw 48 = .ok (.iconst 0, 1) := by decide +kernel
theorem dX7_withdraw_49 : decode cX7_withdraw 49 = .ok (.invokestatic 31, 3) := by decide +kernel
theorem dX7_withdraw_52 : decode cX7_withdraw 52 = .ok (.iaload, 1) := by decide +kernel
theorem dX7_withdraw_53 : decode cX7_withdraw 53 = .ok (.istore_n 2, 1) := by decide +kernel
theorem dX7_withdraw_54 : decode cX7_withdraw 54 = .ok (.aload_n 0, 1) := by decide +kernel
theorem dX7_withdraw_55 : decode cX7_withdraw 55 = .ok (.getfield 7, 3) := by decide +kernel
theorem dX7_withdraw_58 : decode cX7_withdraw 58 = .ok (.iload_n 1, 1) := by decide +kernel
theorem dX7_withdraw_59 : decode cX7_withdraw 59 = .ok (.iconst 1, 1) := by decide +kernel
theorem dX7_withdraw_60 : decode cX7_withdraw 60 = .ok (.iload_n 2, 1) := by decide +kernel
theorem dX7_withdraw_61 : decode cX7_withdraw 61 = .ok (.iadd, 1) := by decide +kernel
theorem dX7_withdraw_62 : decode cX7_withdraw 62 = .ok (.invokestatic 31, 3) := by decide +kernel
theorem dX7_withdraw_65 : decode cX7_withdraw 65 = .ok (.iaload, 1) := by decide +kernel
theorem dX7_withdraw_66 : decode cX7_withdraw 66 = .ok (.istore_n 3, 1) := by decide +kernel
theorem dX7_withdraw_67 : decode cX7_withdraw 67 = .ok (.aload_n 0, 1) := by decide +kernel
theorem dX7_withdraw_68 : decode cX7_withdraw 68 = .ok (.getfield 7, 3) := by decide +kernel
theorem dX7_withdraw_71 : decode cX7_withdraw 71 = .ok (.iload_n 3, 1) := by decide +kernel
theorem dX7_withdraw_72 : decode cX7_withdraw 72 = .ok (.iconst 4, 1) := by decide +kernel
theorem dX7_withdraw_73 : decode cX7_withdraw 73 = .ok (.invokestatic 59, 3) := by decide +kernel
theorem dX7_withdraw_76 : decode cX7_withdraw 76 = .ok (.iconst 4, 1) := by decide +kernel
theorem dX7_withdraw_77 : decode cX7_withdraw 77 = .ok (.iastore, 1) := by decide +kernel
theorem dX7_withdraw_78 : decode cX7_withdraw 78 = .ok (.aload_n 0, 1) := by decide +kernel
theorem dX7_withdraw_79 : decode cX7_withdraw 79 = .ok (.getfield 7, 3) := by decide +kernel
theorem dX7_withdraw_82 : decode cX7_withdraw 82 = .ok (.iload_n 1, 1) := by decide +kernel
theorem dX7_withdraw_83 : decode cX7_withdraw 83 = .ok (.bipush 10, 2) := by decide +kernel
theorem dX7_withdraw_85 : decode cX7_withdraw 85 = .ok (.invokestatic 31, 3) := by decide +kernel
theorem dX7_withdraw_88 : decode cX7_withdraw 88 = .ok (.iload_n 2, 1) := by decide +kernel
theorem dX7_withdraw_89 : decode cX7_withdraw 89 = .ok (.ifCond .ne 7, 3) := by decide +kernel
theorem dX7_withdraw_92 : decode cX7_withdraw 92 = .ok (.iconst 0, 1) := by decide +kernel
theorem dX7_withdraw_93 : decode cX7_withdraw 93 = .ok (.goto 14, 3) := by decide +kernel
theorem dX7_withdraw_96 : decode cX7_withdraw 96 = .ok (.aload_n 0, 1) := by decide +kernel
theorem dX7_withdraw_97 : decode cX7_withdraw 97 = .ok (.getfield 7, 3) := by decide +kernel
theorem dX7_withdraw_100 : decode cX7_withdraw 100 = .ok (.iload_n 1, 1) := by decide +kernel
theorem dX7_withdraw_101 : decode cX7_withdraw 101 = .ok (.bipush 10, 2) := by decide +kernel
theorem dX7_withdraw_103 : decode cX7_withdraw 103 = .ok (.invokestatic 31, 3) := by decide +kernel
theorem dX7_withdraw_106 : decode cX7_withdraw 106 = .ok (.iaload, 1) := by decide +kernel
theorem dX7_withdraw_107 : decode cX7_withdraw 107 = .ok (.iastore, 1) := by decide +kernel
theorem dX7_withdraw_108 : decode cX7_withdraw 108 = .ok (.iload_n 3, 1) := by decide +kernel
theorem dX7_withdraw_109 : decode cX7_withdraw 109 = .ok (.ireturn, 1) := by decide +kernel
theorem dX7_sign_0 : decode cX7_sign 0 = .ok (.aload_n 0, 1) := by decide +kernel
theorem dX7_sign_1 : decode cX7_sign 1 = .ok (.getfield 69, 3) := by decide +kernel
theorem dX7_sign_4 : decode cX7_sign 4 = .ok (.aload_n 0, 1) := by decide +kernel
theorem dX7_sign_5 : decode cX7_sign 5 = .ok (.getfield 72, 3) := by decide +kernel
theorem dX7_sign_8 : decode cX7_sign 8 = .ok (.if_icmp .ge 15, 3) := by decide +kernel
theorem dX7_sign_11 : decode cX7_sign 11 = .ok (.aload_n 0, 1) := by decide +kernel
theorem dX7_sign_12 : decode cX7_sign 12 = .ok (.getfield 22, 3) := by decide +kernel
theorem dX7_sign_15 : decode cX7_sign 15 = .ok (.aload_n 0, 1) := by decide +kernel
theorem dX7_sign_16 : decode cX7_sign 16 = .ok (.getfield 69, 3) := by decide +kernel
theorem dX7_sign_19 : decode cX7_sign 19 = .ok (.iaload, 1) := by decide +kernel
theorem dX7_sign_20 : decode cX7_sign 20 = .ok (.goto 4, 3) := by decide +kernel
theorem dX7_sign_23 : decode cX7_sign 23 = .ok (.iconst 0, 1) := by decide +kernel
theorem dX7_sign_24 : decode cX7_sign 24 = .ok (.istore_n 3, 1) := by decide +kernel
theorem dX7_sign_25 : decode cX7_sign 25 = .ok (.aload_n 0, 1) := by decide +kernel
theorem dX7_sign_26 : decode cX7_sign 26 = .ok (.aload_n 0, 1) := by decide +kernel
theorem dX7_sign_27 : decode cX7_sign 27 = .ok (.getfield 75, 3) := by decide +kernel
theorem dX7_sign_30 : decode cX7_sign 30 = .ok (.ifCond .ne 12, 3) := by decide +kernel
theorem dX7_sign_33 : decode cX7_sign 33 = .ok (.iload_n 3, 1) := by decide +kernel
theorem dX7_sign_34 : decode cX7_sign 34 = .ok (.iload_n 1, 1) := by decide +kernel
theorem dX7_sign_35 : decode cX7_sign 35 = .ok (.iload_n 2, 1) := by decide +kernel
theorem dX7_sign_36 : decode cX7_sign 36 = .ok (.invokestatic 38, 3) := by decide +kernel
theorem dX7_sign_39 : decode cX7_sign 39 = .ok (.ifCond .ne 7, 3) := by decide +kernel
theorem dX7_sign_42 : decode cX7_sign 42 = .ok (.iconst 1, 1) := by decide +kernel
theorem dX7_sign_43 : decode cX7_sign 43 = .ok (.goto 4, 3) := by decide +kernel
theorem dX7_sign_46 : decode cX7_sign 46 = .ok (.iconst 0, 1) := by decide +kernel
theorem dX7_sign_47 : decode cX7_sign 47 = .ok (.putfield 75, 3) := by decide +kernel
theorem dX7_sign_50 : decode cX7_sign 50 = .ok (.aload_n 0, 1) := by decide +kernel
theorem dX7_sign_51 : decode cX7_sign 51 = .ok (.dup, 1) := by decide +kernel
theorem dX7_sign_52 : decode cX7_sign 52 = .ok (.getfield 69, 3) := by decide +kernel
theorem dX7_sign_55 : decode cX7_sign 55 = .ok (.aload_n 0, 1) := by decide +kernel
theorem dX7_sign_56 : decode cX7_sign 56 = .ok (.getfield 75, 3) := by decide +kernel
theorem dX7_sign_59 : decode cX7_sign 59 = .ok (.ifCond .eq 7, 3) := by decide +kernel
theorem dX7_sign_62 : decode cX7_sign 62 = .ok (.iconst 0, 1) := by decide +kernel
theorem dX7_sign_63 : decode cX7_sign 63 = .ok (.goto 4, 3) := by decide +kernel
theorem dX7_sign_66 : decode cX7_sign 66 = .ok (.iconst 1, 1) := by decide +kernel
theorem dX7_sign_67 : decode cX7_sign 67 = .ok (.iadd, 1) := by decide +kernel
theorem dX7_sign_68 : decode cX7_sign 68 = .ok (.putfield 69, 3) := by decide +kernel
theorem dX7_sign_71 : decode cX7_sign 71 = .ok (.iload_n 3, 1) := by decide +kernel
theorem dX7_sign_72 : decode cX7_sign 72 = .ok (.ireturn, 1) := by decide +kernel
theorem dX7_number_0 : decode cX7_number 0 = .ok (.aload_n 0, 1) := by decide +kernel
theorem dX7_number_1 : decode cX7_number 1 = .ok (.bipush 48, 2) := by decide +kernel
theorem dX7_number_3 : decode cX7_number 3 = .ok (.bipush 57, 2) := by decide +kernel
theorem dX7_number_5 : decode cX7_number 5 = .ok (.invokevirtual 79, 3) := by decide +kernel
theorem dX7_number_8 : decode cX7_number 8 = .ok (.bipush 48, 2) := by decide +kernel
theorem dX7_number_10 : decode cX7_number 10 = .ok (.isub, 1) := by decide +kernel
theorem dX7_number_11 : decode cX7_number 11 = .ok (.istore_n 2, 1) := by decide +kernel
theorem dX7_number_12 : decode cX7_number 12 = .ok (.aload_n 0, 1) := by decide +kernel
theorem dX7_number_13 : decode cX7_number 13 = .ok (.getfield 75, 3) := by decide +kernel
theorem dX7_number_16 : decode cX7_number 16 = .ok (.ifCond .ne 62, 3) := by decide +kernel
theorem dX7_number_19 : decode cX7_number 19 = .ok (.iload_n 2, 1) := by decide +kernel
theorem dX7_number_20 : decode cX7_number 20 = .ok (.ifCond .le 58, 3) := by decide +kernel
theorem dX7_number_23 : decode cX7_number 23 = .ok (.aload_n 0, 1) := by decide +kernel
theorem dX7_number_24 : decode cX7_number 24 = .ok (.getfield 69, 3) := by decide +kernel
theorem dX7_number_27 : decode cX7_number 27 = .ok (.aload_n 0, 1) := by decide +kernel
theorem dX7_number_28 : decode cX7_number 28 = .ok (.getfield 72, 3) := by decide +kernel
theorem dX7_number_31 : decode cX7_number 31 = .ok (.if_icmp .ge 47, 3) := by decide +kernel
theorem dX7_number_34 : decode cX7_number 34 = .ok (.aload_n 0, 1) := by decide +kernel
theorem dX7_number_35 : decode cX7_number 35 = .ok (.getfield 22, 3) := by decide +kernel
theorem dX7_number_38 : decode cX7_number 38 = .ok (.aload_n 0, 1) := by decide +kernel
theorem dX7_number_39 : decode cX7_number 39 = .ok (.getfield 69, 3) := by decide +kernel
theorem dX7_number_42 : decode cX7_number 42 = .ok (.iaload, 1) := by decide +kernel
theorem dX7_number_43 : decode cX7_number 43 = .ok (.bipush 48, 2) := by decide +kernel
theorem dX7_number_45 : decode cX7_number 45 = .ok (.bipush 57, 2) := by decide +kernel
theorem dX7_number_47 : decode cX7_number 47 = .ok (.invokestatic 38, 3) := by decide +kernel
theorem dX7_number_50 : decode cX7_number 50 = .ok (.ifCond .eq 28, 3) := by decide +kernel
theorem dX7_number_53 : decode cX7_number 53 = .ok (.bipush 10, 2) := by decide +kernel
theorem dX7_number_55 : decode cX7_number 55 = .ok (.iload_n 2, 1) := by decide +kernel
theorem dX7_number_56 : decode cX7_number 56 = .ok (.imul, 1) := by decide +kernel
theorem dX7_number_57 : decode cX7_number 57 = .ok (.aload_n 0, 1) := by decide +kernel
theorem dX7_number_58 : decode cX7_number 58 = .ok (.getfield 22, 3) := by decide +kernel
theorem dX7_number_61 : decode cX7_number 61 = .ok (.aload_n 0, 1) := by decide +kernel
theorem dX7_number_62 : decode cX7_number 62 = .ok (.getfield 69, 3) := by decide +kernel
theorem dX7_number_65 : decode cX7_number 65 = .ok (.iaload, 1) := by decide +kernel
theorem dX7_number_66 : decode cX7_number 66 = .ok (.iadd, 1) := by decide +kernel
theorem dX7_number_67 : decode cX7_number 67 = .ok (.bipush 48, 2) := by decide +kernel
theorem dX7_number_69 : decode cX7_number 69 = .ok (.isub, 1) := by decide +kernel
theorem dX7_number_70 : decode cX7_number 70 = .ok (.iload_n 1, 1) := by decide +kernel
theorem dX7_number_71 : decode cX7_number 71 = .ok (.if_icmp .gt 7, 3) := by decide +kernel
theorem dX7_number_74 : decode cX7_number 74 = .ok (.iconst 1, 1) := by decide +kernel
theorem dX7_number_75 : decode cX7_number 75 = .ok (.goto 4, 3) := by decide +kernel
theorem dX7_number_78 : decode cX7_number 78 = .ok (.iconst 0, 1) := by decide +kernel
theorem dX7_number_79 : decode cX7_number 79 = .ok (.istore_n 3, 1) := by decide +kernel
theorem dX7_number_80 : decode cX7_number 80 = .ok (.iload_n 3, 1) := by decide +kernel
theorem dX7_number_81 : decode cX7_number 81 = .ok (.ifCond .eq 22, 3) := by decide +kernel
theorem dX7_number_84 : decode cX7_number 84 = .ok (.bipush 10, 2) := by decide +kernel
theorem dX7_number_86 : decode cX7_number 86 = .ok (.iload_n 2, 1) := by decide +kernel
theorem dX7_number_87 : decode cX7_number 87 = .ok (.imul, 1) := by decide +kernel
theorem dX7_number_88 : decode cX7_number 88 = .ok (.aload_n 0, 1) := by decide +kernel
theorem dX7_number_89 : decode cX7_number 89 = .ok (.bipush 48, 2) := by decide +kernel
theorem dX7_number_91 : decode cX7_number 91 = .ok (.bipush 57, 2) := by decide +kernel
theorem dX7_number_93 : decode cX7_number 93 = .ok (.invokevirtual 79, 3) := by decide +kernel
theorem dX7_number_96 : decode cX7_number 96 = .ok (.iadd, 1) := by decide +kernel
theorem dX7_number_97 : decode cX7_number 97 = .ok (.bipush 48, 2) := by decide +kernel
theorem dX7_number_99 : decode cX7_number 99 = .ok (.isub, 1) := by decide +kernel
theorem dX7_number_100 : decode cX7_number 100 = .ok (.goto 4, 3) := by decide +kernel
theorem dX7_number_103 : decode cX7_number 103 = .ok (.iload_n 2, 1) := by decide +kernel
theorem dX7_number_104 : decode cX7_number 104 = .ok (.ireturn, 1) := by decide +kernel
theorem dX7_question_0 : decode cX7_question 0 = .ok (.aload_n 0, 1) := by decide +kernel
theorem dX7_question_1 : decode cX7_question 1 = .ok (.getfield 25, 3) := by decide +kernel
theorem dX7_question_4 : decode cX7_question 4 = .ok (.iconst 0, 1) := by decide +kernel
theorem dX7_question_5 : decode cX7_question 5 = .ok (.aload_n 0, 1) := by decide +kernel
theorem dX7_question_6 : decode cX7_question 6 = .ok (.bipush 48, 2) := by decide +kernel
theorem dX7_question_8 : decode cX7_question 8 = .ok (.bipush 51, 2) := by decide +kernel
theorem dX7_question_10 : decode cX7_question 10 = .ok (.invokevirtual 79, 3) := by decide +kernel
theorem dX7_question_13 : decode cX7_question 13 = .ok (.bipush 48, 2) := by decide +kernel
theorem dX7_question_15 : decode cX7_question 15 = .ok (.isub, 1) := by decide +kernel
theorem dX7_question_16 : decode cX7_question 16 = .ok (.iastore, 1) := by decide +kernel
theorem dX7_question_17 : decode cX7_question 17 = .ok (.aload_n 0, 1) := by decide +kernel
theorem dX7_question_18 : decode cX7_question 18 = .ok (.bipush 62, 2) := by decide +kernel
theorem dX7_question_20 : decode cX7_question 20 = .ok (.bipush 62, 2) := by decide +kernel
theorem dX7_question_22 : decode cX7_question 22 = .ok (.invokevirtual 79, 3) := by decide +kernel
theorem dX7_question_25 : decode cX7_question 25 = .ok (.istore_n 1, 1) := by decide +kernel
theorem dX7_question_26 : decode cX7_question 26 = .ok (.aload_n 0, 1) := by decide +kernel
theorem dX7_question_27 : decode cX7_question 27 = .ok (.getfield 25, 3) := by decide +kernel
theorem dX7_question_30 : decode cX7_question 30 = .ok (.iconst 1, 1) := by decide +kernel
theorem dX7_question_31 : decode cX7_question 31 = .ok (.aload_n 0, 1) := by decide +kernel
theorem dX7_question_32 : decode cX7_question 32 = .ok (.bipush 48, 2) := by decide +kernel
theorem dX7_question_34 : decode cX7_question 34 = .ok (.bipush 51, 2) := by decide +kernel
theorem dX7_question_36 : decode cX7_question 36 = .ok (.invokevirtual 79, 3) := by decide +kernel
theorem dX7_question_39 : decode cX7_question 39 = .ok (.bipush 48, 2) := by decide +kernel
theorem dX7_question_41 : decode cX7_question 41 = .ok (.isub, 1) := by decide +kernel
theorem dX7_question_42 : decode cX7_question 42 = .ok (.iastore, 1) := by decide +kernel
theorem dX7_question_43 : decode cX7_question 43 = .ok (.aload_n 0, 1) := by decide +kernel
theorem dX7_question_44 : decode cX7_question 44 = .ok (.getfield 69, 3) := by decide +kernel
theorem dX7_question_47 : decode cX7_question 47 = .ok (.aload_n 0, 1) := by decide +kernel
theorem dX7_question_48 : decode cX7_question 48 = .ok (.getfield 72, 3) := by decide +kernel
theorem dX7_question_51 : decode cX7_question 51 = .ok (.if_icmp .ge 21, 3) := by decide +kernel
theorem dX7_question_54 : decode cX7_question 54 = .ok (.aload_n 0, 1) := by decide +kernel
theorem dX7_question_55 : decode cX7_question 55 = .ok (.getfield 22, 3) := by decide +kernel
theorem dX7_question_58 : decode cX7_question 58 = .ok (.aload_n 0, 1) := by decide +kernel
theorem dX7_question_59 : decode cX7_question 59 = .ok (.getfield 69, 3) := by decide +kernel
theorem dX7_question_62 : decode cX7_question 62 = .ok (.iaload, 1) := by decide +kernel
theorem dX7_question_63 : decode cX7_question 63 = .ok (.bipush 119, 2) := by decide +kernel
theorem dX7_question_65 : decode cX7_question 65 = .ok (.if_icmp .ne 7, 3) := by decide +kernel
theorem dX7_question_68 : decode cX7_question 68 = .ok (.iconst 1, 1) := by decide +kernel
theorem dX7_question_69 : decode cX7_question 69 = .ok (.goto 4, 3) := by decide +kernel
theorem dX7_question_72 : decode cX7_question 72 = .ok (.iconst 0, 1) := by decide +kernel
theorem dX7_question_73 : decode cX7_question 73 = .ok (.istore_n 2, 1) := by decide +kernel
theorem dX7_question_74 : decode cX7_question 74 = .ok (.iload_n 2, 1) := by decide +kernel
theorem dX7_question_75 : decode cX7_question 75 = .ok (.ifCond .eq 14, 3) := by decide +kernel
theorem dX7_question_78 : decode cX7_question 78 = .ok (.aload_n 0, 1) := by decide +kernel
theorem dX7_question_79 : decode cX7_question 79 = .ok (.bipush 119, 2) := by decide +kernel
theorem dX7_question_81 : decode cX7_question 81 = .ok (.bipush 119, 2) := by decide +kernel
theorem dX7_question_83 : decode cX7_question 83 = .ok (.invokevirtual 79, 3) := by decide +kernel
theorem dX7_question_86 : decode cX7_question 86 = .ok (.goto 11, 3) := by decide +kernel
theorem dX7_question_89 : decode cX7_question 89 = .ok (.aload_n 0, 1) := by decide +kernel
theorem dX7_question_90 : decode cX7_question 90 = .ok (.bipush 114, 2) := by decide +kernel
theorem dX7_question_92 : decode cX7_question 92 = .ok (.bipush 114, 2) := by decide +kernel
theorem dX7_question_94 : decode cX7_question 94 = .ok (.invokevirtual 79, 3) := by decide +kernel
theorem dX7_question_97 : decode cX7_question 97 = .ok (.istore_n 3, 1) := by decide +kernel
theorem dX7_question_98 : decode cX7_question 98 = .ok (.aload_n 0, 1) := by decide +kernel
theorem dX7_question_99 : decode cX7_question 99 = .ok (.getfield 25, 3) := by decide +kernel
theorem dX7_question_102 : decode cX7_question 102 = .ok (.iconst 2, 1) := by decide +kernel
theorem dX7_question_103 : decode cX7_question 103 = .ok (.aload_n 0, 1) := by decide +kernel
theorem dX7_question_104 : decode cX7_question 104 = .ok (.bipush 15, 2) := by decide +kernel
theorem dX7_question_106 : decode cX7_question 106 = .ok (.invokevirtual 82, 3) := by decide +kernel
theorem dX7_question_109 : decode cX7_question 109 = .ok (.iastore, 1) := by decide +kernel
theorem dX7_question_110 : decode cX7_question 110 = .ok (.iload_n 2, 1) := by decide +kernel
theorem dX7_question_111 : decode cX7_question 111 = .ok (.ifCond .eq 14, 3) := by decide +kernel
theorem dX7_question_114 : decode cX7_question 114 = .ok (.aload_n 0, 1) := by decide +kernel
theorem dX7_question_115 : decode cX7_question 115 = .ok (.bipush 61, 2) := by decide +kernel
theorem dX7_question_117 : decode cX7_question 117 = .ok (.bipush 61, 2) := by decide +kernel
theorem dX7_question_119 : decode cX7_question 119 = .ok (.invokevirtual 79, 3) := by decide +kernel
theorem dX7_question_122 : decode cX7_question 122 = .ok (.goto 4, 3) := by decide +kernel
theorem dX7_question_125 : decode cX7_question 125 = .ok (.iconst 0, 1) := by decide +kernel
theorem dX7_question_126 : decode cX7_question 126 = .ok (.istore 4, 2) := by decide +kernel
theorem dX7_question_128 : decode cX7_question 128 = .ok (.aload_n 0, 1) := by decide +kernel
theorem dX7_question_129 : decode cX7_question 129 = .ok (.getfield 25, 3) := by decide +kernel
theorem dX7_question_132 : decode cX7_question 132 = .ok (.iconst 3, 1) := by decide +kernel
theorem dX7_question_133 : decode cX7_question 133 = .ok (.iload_n 2, 1) := by decide +kernel
theorem dX7_question_134 : decode cX7_question 134 = .ok (.ifCond .eq 12, 3) := by decide +kernel
theorem dX7_question_137 : decode cX7_question 137 = .ok (.aload_n 0, 1) := by decide +kernel
theorem dX7_question_138 : decode cX7_question 138 = .ok (.bipush 99, 2) := by decide +kernel
theorem dX7_question_140 : decode cX7_question 140 = .ok (.invokevirtual 82, 3) := by decide +kernel
theorem dX7_question_143 : decode cX7_question 143 = .ok (.goto 5, 3) := by decide +kernel
theorem dX7_question_146 : decode cX7_question 146 = .ok (.bipush (-5), 2) := by decide +kernel
theorem dX7_question_148 : decode cX7_question 148 = .ok (.iastore, 1) := by decide +kernel
theorem dX7_question_149 : decode cX7_question 149 = .ok (.return_, 1) := by decide +kernel
theorem dX7_go_0 : decode cX7_go 0 = .ok (.aload_n 0, 1) := by decide +kernel
theorem dX7_go_1 : decode cX7_go 1 = .ok (.iconst 0, 1) := by decide +kernel
theorem dX7_go_2 : decode cX7_go 2 = .ok (.putfield 69, 3) := by decide +kernel
theorem dX7_go_5 : decode cX7_go 5 = .ok (.aload_n 0, 1) := by decide +kernel
theorem dX7_go_6 : decode cX7_go 6 = .ok (.iconst 0, 1) := by decide +kernel
theorem dX7_go_7 : decode cX7_go 7 = .ok (.putfield 75, 3) := by decide +kernel
theorem dX7_go_10 : decode cX7_go 10 = .ok (.iconst 0, 1) := by decide +kernel
theorem dX7_go_11 : decode cX7_go 11 = .ok (.istore_n 2, 1) := by decide +kernel
theorem dX7_go_12 : decode cX7_go 12 = .ok (.iconst 1, 1) := by decide +kernel
theorem dX7_go_13 : decode cX7_go 13 = .ok (.istore_n 3, 1) := by decide +kernel
theorem dX7_go_14 : decode cX7_go 14 = .ok (.iload_n 3, 1) := by decide +kernel
theorem dX7_go_15 : decode cX7_go 15 = .ok (.ifCond .eq 123, 3) := by decide +kernel
theorem dX7_go_18 : decode cX7_go 18 = .ok (.aload_n 0, 1) := by decide +kernel
theorem dX7_go_19 : decode cX7_go 19 = .ok (.invokevirtual 86, 3) := by decide +kernel
theorem dX7_go_22 : decode cX7_go 22 = .ok (.iinc 2 1, 3) := by decide +kernel
theorem dX7_go_25 : decode cX7_go 25 = .ok (.iload_n 1, 1) := by decide +kernel
theorem dX7_go_26 : decode cX7_go 26 = .ok (.ifCond .eq 36, 3) := by decide +kernel
theorem dX7_go_29 : decode cX7_go 29 = .ok (.aload_n 0, 1) := by decide +kernel
theorem dX7_go_30 : decode cX7_go 30 = .ok (.aload_n 0, 1) := by decide +kernel
theorem dX7_go_31 : decode cX7_go 31 = .ok (.getfield 25, 3) := by decide +kernel
theorem dX7_go_34 : decode cX7_go 34 = .ok (.iconst 0, 1) := by decide +kernel
theorem dX7_go_35 : decode cX7_go 35 = .ok (.iaload, 1) := by decide +kernel
theorem dX7_go_36 : decode cX7_go 36 = .ok (.aload_n 0, 1) := by decide +kernel
theorem dX7_go_37 : decode cX7_go 37 = .ok (.getfield 25, 3) := by decide +kernel
theorem dX7_go_40 : decode cX7_go 40 = .ok (.iconst 1, 1) := by decide +kernel
theorem dX7_go_41 : decode cX7_go 41 = .ok (.iaload, 1) := by decide +kernel
theorem dX7_go_42 : decode cX7_go 42 = .ok (.aload_n 0, 1) := by decide +kernel
theorem dX7_go_43 : decode cX7_go 43 = .ok (.getfield 25, 3) := by decide +kernel
theorem dX7_go_46 : decode cX7_go 46 = .ok (.iconst 2, 1) := by decide +kernel
theorem dX7_go_47 : decode cX7_go 47 = .ok (.iaload, 1) := by decide +kernel
theorem dX7_go_48 : decode cX7_go 48 = .ok (.aload_n 0, 1) := by decide +kernel
theorem dX7_go_49 : decode cX7_go 49 = .ok (.getfield 25, 3) := by decide +kernel
theorem dX7_go_52 : decode cX7_go 52 = .ok (.iconst 3, 1) := by decide +kernel
theorem dX7_go_53 : decode cX7_go 53 = .ok (.iaload, 1) := by decide +kernel
theorem dX7_go_54 : decode cX7_go 54 = .ok (.invokevirtual 65, 3) := by decide +kernel
theorem dX7_go_57 : decode cX7_go 57 = .ok (.istore 4, 2) := by decide +kernel
theorem dX7_go_59 : decode cX7_go 59 = .ok (.goto 25, 3) := by decide +kernel
theorem dX7_go_62 : decode cX7_go 62 = .ok (.aload_n 0, 1) := by decide +kernel
theorem dX7_go_63 : decode cX7_go 63 = .ok (.getfield 75, 3) := by decide +kernel
theorem dX7_go_66 : decode cX7_go 66 = .ok (.ifCond .ne 18, 3) := by decide +kernel
theorem dX7_go_69 : decode cX7_go 69 = .ok (.aload_n 0, 1) := by decide +kernel
theorem dX7_go_70 : decode cX7_go 70 = .ok (.getfield 28, 3) := by decide +kernel
theorem dX7_go_73 : decode cX7_go 73 = .ok (.aload_n 0, 1) := by decide +kernel
theorem dX7_go_74 : decode cX7_go 74 = .ok (.getfield 25, 3) := by decide +kernel
theorem dX7_go_77 : decode cX7_go 77 = .ok (.iconst 0, 1) := by decide +kernel
theorem dX7_go_78 : decode cX7_go 78 = .ok (.iaload, 1) := by decide +kernel
theorem dX7_go_79 : decode cX7_go 79 = .ok (.dup2, 1) := by decide +kernel
theorem dX7_go_80 : decode cX7_go 80 = .ok (.iaload, 1) := by decide +kernel
theorem dX7_go_81 : decode cX7_go 81 = .ok (.iconst 1, 1) := by decide +kernel
theorem dX7_go_82 : decode cX7_go 82 = .ok (.iadd, 1) := by decide +kernel
theorem dX7_go_83 : decode cX7_go 83 = .ok (.iastore, 1) := by decide +kernel
theorem dX7_go_84 : decode cX7_go 84 = .ok (.aload_n 0, 1) := by decide +kernel
theorem dX7_go_85 : decode cX7_go 85 = .ok (.getfield 75, 3) := by decide +kernel
theorem dX7_go_88 : decode cX7_go 88 = .ok (.ifCond .ne 18, 3) := by decide +kernel
theorem dX7_go_91 : decode cX7_go 91 = .ok (.aload_n 0, 1) := by decide +kernel
theorem dX7_go_92 : decode cX7_go 92 = .ok (.getfield 69, 3) := by decide +kernel
theorem dX7_go_95 : decode cX7_go 95 = .ok (.aload_n 0, 1) := by decide +kernel
theorem dX7_go_96 : decode cX7_go 96 = .ok (.getfield 72, 3) := by decide +kernel
theorem dX7_go_99 : decode cX7_go 99 = .ok (.if_icmp .ge 7, 3) := by decide +kernel
theorem dX7_go_102 : decode cX7_go 102 = .ok (.iconst 1, 1) := by decide +kernel
theorem dX7_go_103 : decode cX7_go 103 = .ok (.goto 4, 3) := by decide +kernel
theorem dX7_go_106 : decode cX7_go 106 = .ok (.iconst 0, 1) := by decide +kernel
theorem dX7_go_107 : decode cX7_go 107 = .ok (.istore_n 3, 1) := by decide +kernel
theorem dX7_go_108 : decode cX7_go 108 = .ok (.iload_n 3, 1) := by decide +kernel
theorem dX7_go_109 : decode cX7_go 109 = .ok (.ifCond .eq (-95), 3) := by decide +kernel
theorem dX7_go_112 : decode cX7_go 112 = .ok (.aload_n 0, 1) := by decide +kernel
theorem dX7_go_113 : decode cX7_go 113 = .ok (.bipush 59, 2) := by decide +kernel
theorem dX7_go_115 : decode cX7_go 115 = .ok (.bipush 59, 2) := by decide +kernel
theorem dX7_go_117 : decode cX7_go 117 = .ok (.invokevirtual 79, 3) := by decide +kernel
theorem dX7_go_120 : decode cX7_go 120 = .ok (.istore 4, 2) := by decide +kernel
theorem dX7_go_122 : decode cX7_go 122 = .ok (.aload_n 0, 1) := by decide +kernel
theorem dX7_go_123 : decode cX7_go 123 = .ok (.getfield 75, 3) := by decide +kernel
theorem dX7_go_126 : decode cX7_go 126 = .ok (.ifCond .ne 7, 3) := by decide +kernel
theorem dX7_go_129 : decode cX7_go 129 = .ok (.iconst 1, 1) := by decide +kernel
theorem dX7_go_130 : decode cX7_go 130 = .ok (.goto 4, 3) := by decide +kernel
theorem dX7_go_133 : decode cX7_go 133 = .ok (.iconst 0, 1) := by decide +kernel
theorem dX7_go_134 : decode cX7_go 134 = .ok (.istore_n 3, 1) := by decide +kernel
theorem dX7_go_135 : decode cX7_go 135 = .ok (.goto (-121), 3) := by decide +kernel
theorem dX7_go_138 : decode cX7_go 138 = .ok (.iload_n 2, 1) := by decide +kernel
theorem dX7_go_139 : decode cX7_go 139 = .ok (.ireturn, 1) := by decide +kernel
theorem dX7_ask_0 : decode cX7_ask 0 = .ok (.iconst 0, 1) := by decide +kernel
theorem dX7_ask_1 : decode cX7_ask 1 = .ok (.istore_n 1, 1) := by decide +kernel
theorem dX7_ask_2 : decode cX7_ask 2 = .ok (.iload_n 1, 1) := by decide +kernel
theorem dX7_ask_3 : decode cX7_ask 3 = .ok (.iconst 4, 1) := by decide +kernel
theorem dX7_ask_4 : decode cX7_ask 4 = .ok (.if_icmp .ge 25, 3) := by decide +kernel
theorem dX7_ask_7 : decode cX7_ask 7 = .ok (.aload_n 0, 1) := by decide +kernel
theorem dX7_ask_8 : decode cX7_ask 8 = .ok (.getfield 28, 3) := by decide +kernel
theorem dX7_ask_11 : decode cX7_ask 11 = .ok (.iload_n 1, 1) := by decide +kernel
theorem dX7_ask_12 : decode cX7_ask 12 = .ok (.aload_n 0, 1) := by decide +kernel
theorem dX7_ask_13 : decode cX7_ask 13 = .ok (.getfield 7, 3) := by decide +kernel
theorem dX7_ask_16 : decode cX7_ask 16 = .ok (.iload_n 1, 1) := by decide +kernel
theorem dX7_ask_17 : decode cX7_ask 17 = .ok (.iconst 0, 1) := by decide +kernel
theorem dX7_ask_18 : decode cX7_ask 18 = .ok (.invokestatic 31, 3) := by decide +kernel
theorem dX7_ask_21 : decode cX7_ask 21 = .ok (.iaload, 1) := by decide +kernel
theorem dX7_ask_22 : decode cX7_ask 22 = .ok (.iastore, 1) := by decide +kernel
theorem dX7_ask_23 : decode cX7_ask 23 = .ok (.iinc 1 1, 3) := by decide +kernel
theorem dX7_ask_26 : decode cX7_ask 26 = .ok (.goto (-24), 3) := by decide +kernel
theorem dX7_ask_29 : decode cX7_ask 29 = .ok (.aload_n 0, 1) := by decide +kernel
theorem dX7_ask_30 : decode cX7_ask 30 = .ok (.iconst 0, 1) := by decide +kernel
theorem dX7_ask_31 : decode cX7_ask 31 = .ok (.invokevirtual 89, 3) := by decide +kernel
theorem dX7_ask_34 : decode cX7_ask 34 = .ok (.istore_n 1, 1) := by decide +kernel
theorem dX7_ask_35 : decode cX7_ask 35 = .ok (.aload_n 0, 1) := by decide +kernel
theorem dX7_ask_36 : decode cX7_ask 36 = .ok (.getfield 75, 3) := by decide +kernel
theorem dX7_ask_39 : decode cX7_ask 39 = .ok (.ifCond .eq 11, 3) := by decide +kernel
theorem dX7_ask_42 : decode cX7_ask 42 = .ok (.bipush (-100), 2) := by decide +kernel
theorem dX7_ask_44 : decode cX7_ask 44 = .ok (.aload_n 0, 1) := by decide +kernel
theorem dX7_ask_45 : decode cX7_ask 45 = .ok (.getfield 69, 3) := by decide +kernel
theorem dX7_ask_48 : decode cX7_ask 48 = .ok (.isub, 1) := by decide +kernel
theorem dX7_ask_49 : decode cX7_ask 49 = .ok (.ireturn, 1) := by decide +kernel
theorem dX7_ask_50 : decode cX7_ask 50 = .ok (.aload_n 0, 1) := by decide +kernel
theorem dX7_ask_51 : decode cX7_ask 51 = .ok (.getfield 7, 3) := by decide +kernel
theorem dX7_ask_54 : decode cX7_ask 54 = .ok (.iconst 4, 1) := by decide +kernel
theorem dX7_ask_55 : decode cX7_ask 55 = .ok (.iaload, 1) := by decide +kernel
theorem dX7_ask_56 : decode cX7_ask 56 = .ok (.iload_n 1, 1) := by decide +kernel
theorem dX7_ask_57 : decode cX7_ask 57 = .ok (.iadd, 1) := by decide +kernel
theorem dX7_ask_58 : decode cX7_ask 58 = .ok (.sipush 200, 3) := by decide +kernel
theorem dX7_ask_61 : decode cX7_ask 61 = .ok (.if_icmp .le 7, 3) := by decide +kernel
theorem dX7_ask_64 : decode cX7_ask 64 = .ok (.iconst 1, 1) := by decide +kernel
theorem dX7_ask_65 : decode cX7_ask 65 = .ok (.goto 4, 3) := by decide +kernel
theorem dX7_ask_68 : decode cX7_ask 68 = .ok (.iconst 0, 1) := by decide +kernel
theorem dX7_ask_69 : decode cX7_ask 69 = .ok (.istore_n 2, 1) := by decide +kernel
theorem dX7_ask_70 : decode cX7_ask 70 = .ok (.iconst 0, 1) := by decide +kernel
theorem dX7_ask_71 : decode cX7_ask 71 = .ok (.istore_n 3, 1) := by decide +kernel
theorem dX7_ask_72 : decode cX7_ask 72 = .ok (.iload_n 3, 1) := by decide +kernel
theorem dX7_ask_73 : decode cX7_ask 73 = .ok (.iconst 4, 1) := by decide +kernel
theorem dX7_ask_74 : decode cX7_ask 74 = .ok (.if_icmp .ge 30, 3) := by decide +kernel
theorem dX7_ask_77 : decode cX7_ask 77 = .ok (.iload_n 2, 1) := by decide +kernel
theorem dX7_ask_78 : decode cX7_ask 78 = .ok (.ifCond .ne 14, 3) := by decide +kernel
theorem dX7_ask_81 : decode cX7_ask 81 = .ok (.aload_n 0, 1) := by decide +kernel
theorem dX7_ask_82 : decode cX7_ask 82 = .ok (.getfield 28, 3) := by decide +kernel
theorem dX7_ask_85 : decode cX7_ask 85 = .ok (.iload_n 3, 1) := by decide +kernel
theorem dX7_ask_86 : decode cX7_ask 86 = .ok (.iaload, 1) := by decide +kernel
theorem dX7_ask_87 : decode cX7_ask 87 = .ok (.bipush 6, 2) := by decide +kernel
theorem dX7_ask_89 : decode cX7_ask 89 = .ok (.if_icmp .le 7, 3) := by decide +kernel
theorem dX7_ask_92 : decode cX7_ask 92 = .ok (.iconst 1, 1) := by decide +kernel
theorem dX7_ask_93 : decode cX7_ask 93 = .ok (.goto 4, 3) := by decide +kernel
theorem dX7_ask_96 : decode cX7_ask 96 = .ok (.iconst 0, 1) := by decide +kernel
theorem dX7_ask_97 : decode cX7_ask 97 = .ok (.istore_n 2, 1) := by decide +kernel
theorem dX7_ask_98 : decode cX7_ask 98 = .ok (.iinc 3 1, 3) := by decide +kernel
theorem dX7_ask_101 : decode cX7_ask 101 = .ok (.goto (-29), 3) := by decide +kernel
theorem dX7_ask_104 : decode cX7_ask 104 = .ok (.iload_n 2, 1) := by decide +kernel
theorem dX7_ask_105 : decode cX7_ask 105 = .ok (.ifCond .eq 6, 3) := by decide +kernel
theorem dX7_ask_108 : decode cX7_ask 108 = .ok (.bipush (-3), 2) := by decide +kernel
theorem dX7_ask_110 : decode cX7_ask 110 = .ok (.ireturn, 1) := by decide +kernel
theorem dX7_ask_111 : decode cX7_ask 111 = .ok (.aload_n 0, 1) := by decide +kernel
theorem dX7_ask_112 : decode cX7_ask 112 = .ok (.invokevirtual 46, 3) := by decide +kernel
theorem dX7_ask_115 : decode cX7_ask 115 = .ok (.aload_n 0, 1) := by decide +kernel
theorem dX7_ask_116 : decode cX7_ask 116 = .ok (.iconst 1, 1) := by decide +kernel
theorem dX7_ask_117 : decode cX7_ask 117 = .ok (.invokevirtual 89, 3) := by decide +kernel
theorem dX7_ask_120 : decode cX7_ask 120 = .ok (.ireturn, 1) := by decide +kernel
theorem dX7_type_0 : decode cX7_type 0 = .ok (.aload_n 0, 1) := by decide +kernel
theorem dX7_type_1 : decode cX7_type 1 = .ok (.getfield 72, 3) := by decide +kernel
theorem dX7_type_4 : decode cX7_type 4 = .ok (.bipush 60, 2) := by decide +kernel
theorem dX7_type_6 : decode cX7_type 6 = .ok (.if_icmp .ne 6, 3) := by decide +kernel
theorem dX7_type_9 : decode cX7_type 9 = .ok (.bipush (-3), 2) := by decide +kernel
theorem dX7_type_11 : decode cX7_type 11 = .ok (.ireturn, 1) := by decide +kernel
theorem dX7_type_12 : decode cX7_type 12 = .ok (.aload_n 0, 1) := by decide +kernel
theorem dX7_type_13 : decode cX7_type 13 = .ok (.getfield 22, 3) := by decide +kernel
theorem dX7_type_16 : decode cX7_type 16 = .ok (.aload_n 0, 1) := by decide +kernel
theorem dX7_type_17 : decode cX7_type 17 = .ok (.getfield 72, 3) := by decide +kernel
theorem dX7_type_20 : decode cX7_type 20 = .ok (.iload_n 1, 1) := by decide +kernel
theorem dX7_type_21 : decode cX7_type 21 = .ok (.iastore, 1) := by decide +kernel
theorem dX7_type_22 : decode cX7_type 22 = .ok (.aload_n 0, 1) := by decide +kernel
theorem dX7_type_23 : decode cX7_type 23 = .ok (.dup, 1) := by decide +kernel
theorem dX7_type_24 : decode cX7_type 24 = .ok (.getfield 72, 3) := by decide +kernel
theorem dX7_type_27 : decode cX7_type 27 = .ok (.iconst 1, 1) := by decide +kernel
theorem dX7_type_28 : decode cX7_type 28 = .ok (.iadd, 1) := by decide +kernel
theorem dX7_type_29 : decode cX7_type 29 = .ok (.putfield 72, 3) := by decide +kernel
theorem dX7_type_32 : decode cX7_type 32 = .ok (.aload_n 0, 1) := by decide +kernel
theorem dX7_type_33 : decode cX7_type 33 = .ok (.getfield 72, 3) := by decide +kernel
theorem dX7_type_36 : decode cX7_type 36 = .ok (.ireturn, 1) := by decide +kernel
theorem dX7_clearText_0 : decode cX7_clearText 0 = .ok (.aload_n 0, 1) := by decide +kernel
theorem dX7_clearText_1 : decode cX7_clearText 1 = .ok (.getfield 72, 3) := by decide +kernel
theorem dX7_clearText_4 : decode cX7_clearText 4 = .ok (.istore_n 1, 1) := by decide +kernel
theorem dX7_clearText_5 : decode cX7_clearText 5 = .ok (.aload_n 0, 1) := by decide +kernel
theorem dX7_clearText_6 : decode cX7_clearText 6 = .ok (.iconst 0, 1) := by decide +kernel
theorem dX7_clearText_7 : decode cX7_clearText 7 = .ok (.putfield 72, 3) := by decide +kernel
theorem dX7_clearText_10 : decode cX7_clearText 10 = .ok (.iload_n 1, 1) := by decide +kernel
theorem dX7_clearText_11 : decode cX7_clearText 11 = .ok (.ireturn, 1) := by decide +kernel
theorem dX7_freeTag_0 : decode cX7_freeTag 0 = .ok (.iconst 0, 1) := by decide +kernel
theorem dX7_freeTag_1 : decode cX7_freeTag 1 = .ok (.istore_n 1, 1) := by decide +kernel
theorem dX7_freeTag_2 : decode cX7_freeTag 2 = .ok (.iload_n 1, 1) := by decide +kernel
theorem dX7_freeTag_3 : decode cX7_freeTag 3 = .ok (.aload_n 0, 1) := by decide +kernel
theorem dX7_freeTag_4 : decode cX7_freeTag 4 = .ok (.getfield 7, 3) := by decide +kernel
theorem dX7_freeTag_7 : decode cX7_freeTag 7 = .ok (.iconst 1, 1) := by decide +kernel
theorem dX7_freeTag_8 : decode cX7_freeTag 8 = .ok (.iaload, 1) := by decide +kernel
theorem dX7_freeTag_9 : decode cX7_freeTag 9 = .ok (.if_icmp .ge 25, 3) := by decide +kernel
theorem dX7_freeTag_12 : decode cX7_freeTag 12 = .ok (.aload_n 0, 1) := by decide +kernel
theorem dX7_freeTag_13 : decode cX7_freeTag 13 = .ok (.getfield 7, 3) := by decide +kernel
theorem dX7_freeTag_16 : decode cX7_freeTag 16 = .ok (.bipush 13, 2) := by decide +kernel
theorem dX7_freeTag_18 : decode cX7_freeTag 18 = .ok (.iload_n 1, 1) := by decide +kernel
theorem dX7_freeTag_19 : decode cX7_freeTag 19 = .ok (.iadd, 1) := by decide +kernel
theorem dX7_freeTag_20 : decode cX7_freeTag 20 = .ok (.iaload, 1) := by decide +kernel
theorem dX7_freeTag_21 : decode cX7_freeTag 21 = .ok (.bipush (-5), 2) := by decide +kernel
theorem dX7_freeTag_23 : decode cX7_freeTag 23 = .ok (.if_icmp .ne 5, 3) := by decide +kernel
theorem dX7_freeTag_26 : decode cX7_freeTag 26 = .ok (.iload_n 1, 1) := by decide +kernel
theorem dX7_freeTag_27 : decode cX7_freeTag 27 = .ok (.ireturn, 1) := by decide +kernel
theorem dX7_freeTag_28 : decode cX7_freeTag 28 = .ok (.iinc 1 1, 3) := by decide +kernel
theorem dX7_freeTag_31 : decode cX7_freeTag 31 = .ok (.goto (-29), 3) := by decide +kernel
theorem dX7_freeTag_34 : decode cX7_freeTag 34 = .ok (.bipush (-5), 2) := by decide +kernel
theorem dX7_freeTag_36 : decode cX7_freeTag 36 = .ok (.ireturn, 1) := by decide +kernel
theorem dX7_holds_0 : decode cX7_holds 0 = .ok (.iconst 0, 1) := by decide +kernel
theorem dX7_holds_1 : decode cX7_holds 1 = .ok (.istore_n 2, 1) := by decide +kernel
theorem dX7_holds_2 : decode cX7_holds 2 = .ok (.iconst 0, 1) := by decide +kernel
theorem dX7_holds_3 : decode cX7_holds 3 = .ok (.istore_n 3, 1) := by decide +kernel
theorem dX7_holds_4 : decode cX7_holds 4 = .ok (.iload_n 3, 1) := by decide +kernel
theorem dX7_holds_5 : decode cX7_holds 5 = .ok (.aload_n 0, 1) := by decide +kernel
theorem dX7_holds_6 : decode cX7_holds 6 = .ok (.getfield 7, 3) := by decide +kernel
theorem dX7_holds_9 : decode cX7_holds 9 = .ok (.iconst 1, 1) := by decide +kernel
theorem dX7_holds_10 : decode cX7_holds 10 = .ok (.iaload, 1) := by decide +kernel
theorem dX7_holds_11 : decode cX7_holds 11 = .ok (.if_icmp .ge 53, 3) := by decide +kernel
theorem dX7_holds_14 : decode cX7_holds 14 = .ok (.iload_n 2, 1) := by decide +kernel
theorem dX7_holds_15 : decode cX7_holds 15 = .ok (.aload_n 0, 1) := by decide +kernel
theorem dX7_holds_16 : decode cX7_holds 16 = .ok (.getfield 7, 3) := by decide +kernel
theorem dX7_holds_19 : decode cX7_holds 19 = .ok (.bipush 13, 2) := by decide +kernel
theorem dX7_holds_21 : decode cX7_holds 21 = .ok (.iload_n 3, 1) := by decide +kernel
theorem dX7_holds_22 : decode cX7_holds 22 = .ok (.iadd, 1) := by decide +kernel
theorem dX7_holds_23 : decode cX7_holds 23 = .ok (.iaload, 1) := by decide +kernel
theorem dX7_holds_24 : decode cX7_holds 24 = .ok (.bipush (-5), 2) := by decide +kernel
theorem dX7_holds_26 : decode cX7_holds 26 = .ok (.if_icmp .eq 29, 3) := by decide +kernel
theorem dX7_holds_29 : decode cX7_holds 29 = .ok (.aload_n 0, 1) := by decide +kernel
theorem dX7_holds_30 : decode cX7_holds 30 = .ok (.getfield 7, 3) := by decide +kernel
theorem dX7_holds_33 : decode cX7_holds 33 = .ok (.aload_n 0, 1) := by decide +kernel
theorem dX7_holds_34 : decode cX7_holds 34 = .ok (.getfield 7, 3) := by decide +kernel
theorem dX7_holds_37 : decode cX7_holds 37 = .ok (.bipush 13, 2) := by decide +kernel
theorem dX7_holds_39 : decode cX7_holds 39 = .ok (.iload_n 3, 1) := by decide +kernel
theorem dX7_holds_40 : decode cX7_holds 40 = .ok (.iadd, 1) := by decide +kernel
theorem dX7_holds_41 : decode cX7_holds 41 = .ok (.iaload, 1) := by decide +kernel
theorem dX7_holds_42 : decode cX7_holds 42 = .ok (.iconst 0, 1) := by decide +kernel
theorem dX7_holds_43 : decode cX7_holds 43 = .ok (.invokestatic 59, 3) := by decide +kernel
theorem dX7_holds_46 : decode cX7_holds 46 = .ok (.iaload, 1) := by decide +kernel
theorem dX7_holds_47 : decode cX7_holds 47 = .ok (.iload_n 1, 1) := by decide +kernel
theorem dX7_holds_48 : decode cX7_holds 48 = .ok (.if_icmp .ne 7, 3) := by decide +kernel
theorem dX7_holds_51 : decode cX7_holds 51 = .ok (.iconst 1, 1) := by decide +kernel
theorem dX7_holds_52 : decode cX7_holds 52 = .ok (.goto 4, 3) := by decide +kernel
theorem dX7_holds_55 : decode cX7_holds 55 = .ok (.iconst 0, 1) := by decide +kernel
theorem dX7_holds_56 : decode cX7_holds 56 = .ok (.iadd, 1) := by decide +kernel
theorem dX7_holds_57 : decode cX7_holds 57 = .ok (.istore_n 2, 1) := by decide +kernel
theorem dX7_holds_58 : decode cX7_holds 58 = .ok (.iinc 3 1, 3) := by decide +kernel
theorem dX7_holds_61 : decode cX7_holds 61 = .ok (.goto (-57), 3) := by decide +kernel
theorem dX7_holds_64 : decode cX7_holds 64 = .ok (.iload_n 2, 1) := by decide +kernel
theorem dX7_holds_65 : decode cX7_holds 65 = .ok (.ireturn, 1) := by decide +kernel
theorem dX7_doAll_0 : decode cX7_doAll 0 = .ok (.iconst 0, 1) := by decide +kernel
theorem dX7_doAll_1 : decode cX7_doAll 1 = .ok (.istore_n 1, 1) := by decide +kernel
theorem dX7_doAll_2 : decode cX7_doAll 2 = .ok (.iload_n 1, 1) := by decide +kernel
theorem dX7_doAll_3 : decode cX7_doAll 3 = .ok (.iconst 4, 1) := by decide +kernel
theorem dX7_doAll_4 : decode cX7_doAll 4 = .ok (.if_icmp .ge 167, 3) := by decide +kernel
theorem dX7_doAll_7 : decode cX7_doAll 7 = .ok (.iconst 0, 1) := by decide +kernel
theorem dX7_doAll_8 : decode cX7_doAll 8 = .ok (.istore_n 2, 1) := by decide +kernel
theorem dX7_doAll_9 : decode cX7_doAll 9 = .ok (.iload_n 2, 1) := by decide +kernel
theorem dX7_doAll_10 : decode cX7_doAll 10 = .ok (.aload_n 0, 1) := by decide +kernel
theorem dX7_doAll_11 : decode cX7_doAll 11 = .ok (.getfield 7, 3) := by decide +kernel
theorem dX7_doAll_14 : decode cX7_doAll 14 = .ok (.iload_n 1, 1) := by decide +kernel
theorem dX7_doAll_15 : decode cX7_doAll 15 = .ok (.bipush 19, 2) := by decide +kernel
theorem dX7_doAll_17 : decode cX7_doAll 17 = .ok (.invokestatic 35, 3) := by decide +kernel
theorem dX7_doAll_20 : decode cX7_doAll 20 = .ok (.iaload, 1) := by decide +kernel
theorem dX7_doAll_21 : decode cX7_doAll 21 = .ok (.if_icmp .ge 144, 3) := by decide +kernel
theorem dX7_doAll_24 : decode cX7_doAll 24 = .ok (.aload_n 0, 1) := by decide +kernel
theorem dX7_doAll_25 : decode cX7_doAll 25 = .ok (.getfield 7, 3) := by decide +kernel
theorem dX7_doAll_28 : decode cX7_doAll 28 = .ok (.iload_n 1, 1) := by decide +kernel
theorem dX7_doAll_29 : decode cX7_doAll 29 = .ok (.bipush 20, 2) := by decide +kernel
theorem dX7_doAll_31 : decode cX7_doAll 31 = .ok (.iload_n 2, 1) := by decide +kernel
theorem dX7_doAll_32 : decode cX7_doAll 32 = .ok (.iadd, 1) := by decide +kernel
theorem dX7_doAll_33 : decode cX7_doAll 33 = .ok (.invokestatic 35, 3) := by decide +kernel
theorem dX7_doAll_36 : decode cX7_doAll 36 = .ok (.iaload, 1) := by decide +kernel
theorem dX7_doAll_37 : decode cX7_doAll 37 = .ok (.istore_n 3, 1) := by decide +kernel
theorem dX7_doAll_38 : decode cX7_doAll 38 = .ok (.aload_n 0, 1) := by decide +kernel
theorem dX7_doAll_39 : decode cX7_doAll 39 = .ok (.getfield 7, 3) := by decide +kernel
theorem dX7_doAll_42 : decode cX7_doAll 42 = .ok (.iload_n 3, 1) := by decide +kernel
theorem dX7_doAll_43 : decode cX7_doAll 43 = .ok (.iconst 4, 1) := by decide +kernel
theorem dX7_doAll_44 : decode cX7_doAll 44 = .ok (.invokestatic 59, 3) := by decide +kernel
theorem dX7_doAll_47 : decode cX7_doAll 47 = .ok (.iaload, 1) := by decide +kernel
theorem dX7_doAll_48 : decode cX7_doAll 48 = .ok (.iconst 1, 1) := by decide +kernel
theorem dX7_doAll_49 : decode cX7_doAll 49 = .ok (.if_icmp .ne 110, 3) := by decide +kernel
theorem dX7_doAll_52 : decode cX7_doAll 52 = .ok (.aload_n 0, 1) := by decide +kernel
theorem dX7_doAll_53 : decode cX7_doAll 53 = .ok (.getfield 7, 3) := by decide +kernel
theorem dX7_doAll_56 : decode cX7_doAll 56 = .ok (.iload_n 3, 1) := by decide +kernel
theorem dX7_doAll_57 : decode cX7_doAll 57 = .ok (.bipush 10, 2) := by decide +kernel
theorem dX7_doAll_59 : decode cX7_doAll 59 = .ok (.invokestatic 59, 3) := by decide +kernel
theorem dX7_doAll_62 : decode cX7_doAll 62 = .ok (.iaload, 1) := by decide +kernel
theorem dX7_doAll_63 : decode cX7_doAll 63 = .ok (.aload_n 0, 1) := by decide +kernel
theorem dX7_doAll_64 : decode cX7_doAll 64 = .ok (.getfield 7, 3) := by decide +kernel
theorem dX7_doAll_67 : decode cX7_doAll 67 = .ok (.iconst 0, 1) := by decide +kernel
theorem dX7_doAll_68 : decode cX7_doAll 68 = .ok (.iaload, 1) := by decide +kernel
theorem dX7_doAll_69 : decode cX7_doAll 69 = .ok (.if_icmp .ne 90, 3) := by decide +kernel
theorem dX7_doAll_72 : decode cX7_doAll 72 = .ok (.iload_n 1, 1) := by decide +kernel
theorem dX7_doAll_73 : decode cX7_doAll 73 = .ok (.aload_n 0, 1) := by decide +kernel
theorem dX7_doAll_74 : decode cX7_doAll 74 = .ok (.getfield 7, 3) := by decide +kernel
theorem dX7_doAll_77 : decode cX7_doAll 77 = .ok (.iload_n 3, 1) := by decide +kernel
theorem dX7_doAll_78 : decode cX7_doAll 78 = .ok (.iconst 2, 1) := by decide +kernel
theorem dX7_doAll_79 : decode cX7_doAll 79 = .ok (.invokestatic 59, 3) := by decide +kernel
theorem dX7_doAll_82 : decode cX7_doAll 82 = .ok (.iaload, 1) := by decide +kernel
theorem dX7_doAll_83 : decode cX7_doAll 83 = .ok (.invokestatic 35, 3) := by decide +kernel
theorem dX7_doAll_86 : decode cX7_doAll 86 = .ok (.istore 4, 2) := by decide +kernel
theorem dX7_doAll_88 : decode cX7_doAll 88 = .ok (.aload_n 0, 1) := by decide +kernel
theorem dX7_doAll_89 : decode cX7_doAll 89 = .ok (.getfield 7, 3) := by decide +kernel
theorem dX7_doAll_92 : decode cX7_doAll 92 = .ok (.iload_n 3, 1) := by decide +kernel
theorem dX7_doAll_93 : decode cX7_doAll 93 = .ok (.bipush 6, 2) := by decide +kernel
theorem dX7_doAll_95 : decode cX7_doAll 95 = .ok (.invokestatic 59, 3) := by decide +kernel
theorem dX7_doAll_98 : decode cX7_doAll 98 = .ok (.aload_n 0, 1) := by decide +kernel
theorem dX7_doAll_99 : decode cX7_doAll 99 = .ok (.getfield 7, 3) := by decide +kernel
theorem dX7_doAll_102 : decode cX7_doAll 102 = .ok (.iload 4, 2) := by decide +kernel
theorem dX7_doAll_104 : decode cX7_doAll 104 = .ok (.iaload, 1) := by decide +kernel
theorem dX7_doAll_105 : decode cX7_doAll 105 = .ok (.iastore, 1) := by decide +kernel
theorem dX7_doAll_106 : decode cX7_doAll 106 = .ok (.aload_n 0, 1) := by decide +kernel
theorem dX7_doAll_107 : decode cX7_doAll 107 = .ok (.getfield 7, 3) := by decide +kernel
theorem dX7_doAll_110 : decode cX7_doAll 110 = .ok (.iload 4, 2) := by decide +kernel
theorem dX7_doAll_112 : decode cX7_doAll 112 = .ok (.aload_n 0, 1) := by decide +kernel
theorem dX7_doAll_113 : decode cX7_doAll 113 = .ok (.getfield 7, 3) := by decide +kernel
theorem dX7_doAll_116 : decode cX7_doAll 116 = .ok (.iload_n 3, 1) := by decide +kernel
theorem dX7_doAll_117 : decode cX7_doAll 117 = .ok (.iconst 3, 1) := by decide +kernel
theorem dX7_doAll_118 : decode cX7_doAll 118 = .ok (.invokestatic 59, 3) := by decide +kernel
theorem dX7_doAll_121 : decode cX7_doAll 121 = .ok (.iaload, 1) := by decide +kernel
theorem dX7_doAll_122 : decode cX7_doAll 122 = .ok (.bipush (-5), 2) := by decide +kernel
theorem dX7_doAll_124 : decode cX7_doAll 124 = .ok (.if_icmp .ne 13, 3) := by decide +kernel
theorem dX7_doAll_127 : decode cX7_doAll 127 = .ok (.aload_n 0, 1) := by decide +kernel
theorem dX7_doAll_128 : decode cX7_doAll 128 = .ok (.getfield 7, 3) := by decide +kernel
theorem dX7_doAll_131 : decode cX7_doAll 131 = .ok (.iload 4, 2) := by decide +kernel
theorem dX7_doAll_133 : decode cX7_doAll 133 = .ok (.iaload, 1) := by decide +kernel
theorem dX7_doAll_134 : decode cX7_doAll 134 = .ok (.goto 13, 3) := by decide +kernel
theorem dX7_doAll_137 : decode cX7_doAll 137 = .ok (.aload_n 0, 1) := by decide +kernel
theorem dX7_doAll_138 : decode cX7_doAll 138 = .ok (.getfield 7, 3) := by decide +kernel
theorem dX7_doAll_141 : decode cX7_doAll 141 = .ok (.iload_n 3, 1) := by decide +kernel
theorem dX7_doAll_142 : decode cX7_doAll 142 = .ok (.iconst 3, 1) := by decide +kernel
theorem dX7_doAll_143 : decode cX7_doAll 143 = .ok (.invokestatic 59, 3) := by decide +kernel
theorem dX7_doAll_146 : decode cX7_doAll 146 = .ok (.iaload, 1) := by decide +kernel
theorem dX7_doAll_147 : decode cX7_doAll 147 = .ok (.iastore, 1) := by decide +kernel
theorem dX7_doAll_148 : decode cX7_doAll 148 = .ok (.aload_n 0, 1) := by decide +kernel
theorem dX7_doAll_149 : decode cX7_doAll 149 = .ok (.getfield 7, 3) := by decide +kernel
theorem dX7_doAll_152 : decode cX7_doAll 152 = .ok (.iload_n 3, 1) := by decide +kernel
theorem dX7_doAll_153 : decode cX7_doAll 153 = .ok (.iconst 4, 1) := by decide +kernel
theorem dX7_doAll_154 : decode cX7_doAll 154 = .ok (.invokestatic 59, 3) := by decide +kernel
theorem dX7_doAll_157 : decode cX7_doAll 157 = .ok (.iconst 2, 1) := by decide +kernel
theorem dX7_doAll_158 : decode cX7_doAll 158 = .ok (.iastore, 1) := by decide +kernel
theorem dX7_doAll_159 : decode cX7_doAll 159 = .ok (.iinc 2 1, 3) := by decide +kernel
theorem dX7_doAll_162 : decode cX7_doAll 162 = .ok (.goto (-153), 3) := by decide +kernel
theorem dX7_doAll_165 : decode cX7_doAll 165 = .ok (.iinc 1 1, 3) := by decide +kernel
theorem dX7_doAll_168 : decode cX7_doAll 168 = .ok (.goto (-166), 3) := by decide +kernel
theorem dX7_doAll_171 : decode cX7_doAll 171 = .ok (.return_, 1) := by decide +kernel
theorem dX7_answering_0 : decode cX7_answering 0 = .ok (.bipush (-5), 2) := by decide +kernel
theorem dX7_answering_2 : decode cX7_answering 2 = .ok (.istore_n 2, 1) := by decide +kernel
theorem dX7_answering_3 : decode cX7_answering 3 = .ok (.aload_n 0, 1) := by decide +kernel
theorem dX7_answering_4 : decode cX7_answering 4 = .ok (.getfield 7, 3) := by decide +kernel
theorem dX7_answering_7 : decode cX7_answering 7 = .ok (.iload_n 1, 1) := by decide +kernel
theorem dX7_answering_8 : decode cX7_answering 8 = .ok (.bipush 18, 2) := by decide +kernel
theorem dX7_answering_10 : decode cX7_answering 10 = .ok (.invokestatic 35, 3) := by decide +kernel
theorem dX7_answering_13 : decode cX7_answering 13 = .ok (.iaload, 1) := by decide +kernel
theorem dX7_answering_14 : decode cX7_answering 14 = .ok (.ifCond .ne 22, 3) := by decide +kernel
theorem dX7_answering_17 : decode cX7_answering 17 = .ok (.aload_n 0, 1) := by decide +kernel
theorem dX7_answering_18 : decode cX7_answering 18 = .ok (.getfield 7, 3) := by decide +kernel
theorem dX7_answering_21 : decode cX7_answering 21 = .ok (.iload_n 1, 1) := by decide +kernel
theorem dX7_answering_22 : decode cX7_answering 22 = .ok (.bipush 19, 2) := by decide +kernel
theorem dX7_answering_24 : decode cX7_answering 24 = .ok (.invokestatic 35, 3) := by decide +kernel
theorem dX7_answering_27 : decode cX7_answering 27 = .ok (.iaload, 1) := by decide +kernel
theorem dX7_answering_28 : decode cX7_answering 28 = .ok (.iconst 1, 1) := by decide +kernel
theorem dX7_answering_29 : decode cX7_answering 29 = .ok (.if_icmp .le 7, 3) := by decide +kernel
theorem dX7_answering_32 : decode cX7_answering 32 = .ok (.iconst 1, 1) := by decide +kernel
theorem dX7_answering_33 : decode cX7_answering 33 = .ok (.goto 14, 3) := by decide +kernel
theorem dX7_answering_36 : decode cX7_answering 36 = .ok (.aload_n 0, 1) := by decide +kernel
theorem dX7_answering_37 : decode cX7_answering 37 = .ok (.getfield 7, 3) := by decide +kernel
theorem dX7_answering_40 : decode cX7_answering 40 = .ok (.iload_n 1, 1) := by decide +kernel
theorem dX7_answering_41 : decode cX7_answering 41 = .ok (.bipush 19, 2) := by decide +kernel
theorem dX7_answering_43 : decode cX7_answering 43 = .ok (.invokestatic 35, 3) := by decide +kernel
theorem dX7_answering_46 : decode cX7_answering 46 = .ok (.iaload, 1) := by decide +kernel
theorem dX7_answering_47 : decode cX7_answering 47 = .ok (.istore_n 3, 1) := by decide +kernel
theorem dX7_answering_48 : decode cX7_answering 48 = .ok (.iconst 0, 1) := by decide +kernel
theorem dX7_answering_49 : decode cX7_answering 49 = .ok (.istore 4, 2) := by decide +kernel
theorem dX7_answering_51 : decode cX7_answering 51 = .ok (.iload 4, 2) := by decide +kernel
theorem dX7_answering_53 : decode cX7_answering 53 = .ok (.iload_n 3, 1) := by decide +kernel
theorem dX7_answering_54 : decode cX7_answering 54 = .ok (.if_icmp .ge 103, 3) := by decide +kernel
theorem dX7_answering_57 : decode cX7_answering 57 = .ok (.aload_n 0, 1) := by decide +kernel
theorem dX7_answering_58 : decode cX7_answering 58 = .ok (.getfield 7, 3) := by decide +kernel
theorem dX7_answering_61 : decode cX7_answering 61 = .ok (.iload_n 1, 1) := by decide +kernel
theorem dX7_answering_62 : decode cX7_answering 62 = .ok (.bipush 20, 2) := by decide +kernel
theorem dX7_answering_64 : decode cX7_answering 64 = .ok (.iload 4, 2) := by decide +kernel
theorem dX7_answering_66 : decode cX7_answering 66 = .ok (.iadd, 1) := by decide +kernel
theorem dX7_answering_67 : decode cX7_answering 67 = .ok (.invokestatic 35, 3) := by decide +kernel
theorem dX7_answering_70 : decode cX7_answering 70 = .ok (.iaload, 1) := by decide +kernel
theorem dX7_answering_71 : decode cX7_answering 71 = .ok (.istore 5, 2) := by decide +kernel
theorem dX7_answering_73 : decode cX7_answering 73 = .ok (.iload_n 2, 1) := by decide +kernel
theorem dX7_answering_74 : decode cX7_answering 74 = .ok (.bipush (-5), 2) := by decide +kernel
theorem dX7_answering_76 : decode cX7_answering 76 = .ok (.if_icmp .eq 41, 3) := by decide +kernel
theorem dX7_answering_79 : decode cX7_answering 79 = .ok (.aload_n 0, 1) := by decide +kernel
theorem dX7_answering_80 : decode cX7_answering 80 = .ok (.getfield 7, 3) := by decide +kernel
theorem dX7_answering_83 : decode cX7_answering 83 = .ok (.iload 5, 2) := by decide +kernel
theorem dX7_answering_85 : decode cX7_answering 85 = .ok (.bipush 10, 2) := by decide +kernel
theorem dX7_answering_87 : decode cX7_answering 87 = .ok (.invokestatic 59, 3) := by decide +kernel
theorem dX7_answering_90 : decode cX7_answering 90 = .ok (.iaload, 1) := by decide +kernel
theorem dX7_answering_91 : decode cX7_answering 91 = .ok (.aload_n 0, 1) := by decide +kernel
theorem dX7_answering_92 : decode cX7_answering 92 = .ok (.getfield 7, 3) := by decide +kernel
theorem dX7_answering_95 : decode cX7_answering 95 = .ok (.aload_n 0, 1) := by decide +kernel
theorem dX7_answering_96 : decode cX7_answering 96 = .ok (.getfield 7, 3) := by decide +kernel
theorem dX7_answering_99 : decode cX7_answering 99 = .ok (.iload_n 1, 1) := by decide +kernel
theorem dX7_answering_100 : decode cX7_answering 100 = .ok (.bipush 20, 2) := by decide +kernel
theorem dX7_answering_102 : decode cX7_answering 102 = .ok (.iload_n 2, 1) := by decide +kernel
theorem dX7_answering_103 : decode cX7_answering 103 = .ok (.iadd, 1) := by decide +kernel
theorem dX7_answering_104 : decode cX7_answering 104 = .ok (.invokestatic 35, 3) := by decide +kernel
theorem dX7_answering_107 : decode cX7_answering 107 = .ok (.iaload, 1) := by decide +kernel
theorem dX7_answering_108 : decode cX7_answering 108 = .ok (.bipush 10, 2) := by decide +kernel
theorem dX7_answering_110 : decode cX7_answering 110 = .ok (.invokestatic 59, 3) := by decide +kernel
theorem dX7_answering_113 : decode cX7_answering 113 = .ok (.iaload, 1) := by decide +kernel
theorem dX7_answering_114 : decode cX7_answering 114 = .ok (.if_icmp .ge 7, 3) := by decide +kernel
theorem dX7_answering_117 : decode cX7_answering 117 = .ok (.iconst 1, 1) := by decide +kernel
theorem dX7_answering_118 : decode cX7_answering 118 = .ok (.goto 4, 3) := by decide +kernel
theorem dX7_answering_121 : decode cX7_answering 121 = .ok (.iconst 0, 1) := by decide +kernel
theorem dX7_answering_122 : decode cX7_answering 122 = .ok (.istore 6, 2) := by decide +kernel
theorem dX7_answering_124 : decode cX7_answering 124 = .ok (.aload_n 0, 1) := by decide +kernel
theorem dX7_answering_125 : decode cX7_answering 125 = .ok (.getfield 7, 3) := by decide +kernel
theorem dX7_answering_128 : decode cX7_answering 128 = .ok (.iload 5, 2) := by decide +kernel
theorem dX7_answering_130 : decode cX7_answering 130 = .ok (.iconst 4, 1) := by decide +kernel
theorem dX7_answering_131 : decode cX7_answering 131 = .ok (.invokestatic 59, 3) := by decide +kernel
theorem dX7_answering_134 : decode cX7_answering 134 = .ok (.iaload, 1) := by decide +kernel
theorem dX7_answering_135 : decode cX7_answering 135 = .ok (.iconst 2, 1) := by decide +kernel
theorem dX7_answering_136 : decode cX7_answering 136 = .ok (.if_icmp .ne 13, 3) := by decide +kernel
theorem dX7_answering_139 : decode cX7_answering 139 = .ok (.iload 6, 2) := by decide +kernel
theorem dX7_answering_141 : decode cX7_answering 141 = .ok (.ifCond .eq 8, 3) := by decide +kernel
theorem dX7_answering_144 : decode cX7_answering 144 = .ok (.iload 4, 2) := by decide +kernel
theorem dX7_answering_146 : decode cX7_answering 146 = .ok (.goto 4, 3) := by decide +kernel
theorem dX7_answering_149 : decode cX7_answering 149 = .ok (.iload_n 2, 1) := by decide +kernel
theorem dX7_answering_150 : decode cX7_answering 150 = .ok (.istore_n 2, 1) := by decide +kernel
theorem dX7_answering_151 : decode cX7_answering 151 = .ok (.iinc 4 1, 3) := by decide +kernel
theorem dX7_answering_154 : decode cX7_answering 154 = .ok (.goto (-103), 3) := by decide +kernel
theorem dX7_answering_157 : decode cX7_answering 157 = .ok (.iload_n 2, 1) := by decide +kernel
theorem dX7_answering_158 : decode cX7_answering 158 = .ok (.ireturn, 1) := by decide +kernel
theorem dX7_targetThatGoes_0 : decode cX7_targetThatGoes 0 = .ok (.iconst 0, 1) := by decide +kernel
theorem dX7_targetThatGoes_1 : decode cX7_targetThatGoes 1 = .ok (.istore_n 1, 1) := by decide +kernel
theorem dX7_targetThatGoes_2 : decode cX7_targetThatGoes 2 = .ok (.iload_n 1, 1) := by decide +kernel
theorem dX7_targetThatGoes_3 : decode cX7_targetThatGoes 3 = .ok (.iconst 4, 1) := by decide +kernel
theorem dX7_targetThatGoes_4 : decode cX7_targetThatGoes 4 = .ok (.if_icmp .ge 33, 3) := by decide +kernel
end
section
theorem dX7_targetThatGoes_7 : decode cX7_targetThatGoes 7 = .ok (.aload_n 0, 1) := by decide +kernel
theorem dX7_targetThatGoes_8 : decode cX7_targetThatGoes 8 = .ok (.getfield 7, 3) := by decide +kernel
theorem dX7_targetThatGoes_11 : decode cX7_targetThatGoes 11 = .ok (.bipush 6, 2) := by decide +kernel
theorem dX7_targetThatGoes_13 : decode cX7_targetThatGoes 13 = .ok (.iaload, 1) := by decide +kernel
theorem dX7_targetThatGoes_14 : decode cX7_targetThatGoes 14 = .ok (.iload_n 1, 1) := by decide +kernel
theorem dX7_targetThatGoes_15 : decode cX7_targetThatGoes 15 = .ok (.iadd, 1) := by decide +kernel
theorem dX7_targetThatGoes_16 : decode cX7_targetThatGoes 16 = .ok (.iconst 4, 1) := by decide +kernel
theorem dX7_targetThatGoes_17 : decode cX7_targetThatGoes 17 = .ok (.irem, 1) := by decide +kernel
theorem dX7_targetThatGoes_18 : decode cX7_targetThatGoes 18 = .ok (.istore_n 2, 1) := by decide +kernel
theorem dX7_targetThatGoes_19 : decode cX7_targetThatGoes 19 = .ok (.aload_n 0, 1) := by decide +kernel
theorem dX7_targetThatGoes_20 : decode cX7_targetThatGoes 20 = .ok (.iload_n 2, 1) := by decide +kernel
theorem dX7_targetThatGoes_21 : decode cX7_targetThatGoes 21 = .ok (.invokevirtual 93, 3) := by decide +kernel
theorem dX7_targetThatGoes_24 : decode cX7_targetThatGoes 24 = .ok (.bipush (-5), 2) := by decide +kernel
theorem dX7_targetThatGoes_26 : decode cX7_targetThatGoes 26 = .ok (.if_icmp .eq 5, 3) := by decide +kernel
theorem dX7_targetThatGoes_29 : decode cX7_targetThatGoes 29 = .ok (.iload_n 2, 1) := by decide +kernel
theorem dX7_targetThatGoes_30 : decode cX7_targetThatGoes 30 = .ok (.ireturn, 1) := by decide +kernel
theorem dX7_targetThatGoes_31 : decode cX7_targetThatGoes 31 = .ok (.iinc 1 1, 3) := by decide +kernel
theorem dX7_targetThatGoes_34 : decode cX7_targetThatGoes 34 = .ok (.goto (-32), 3) := by decide +kernel
theorem dX7_targetThatGoes_37 : decode cX7_targetThatGoes 37 = .ok (.bipush (-5), 2) := by decide +kernel
theorem dX7_targetThatGoes_39 : decode cX7_targetThatGoes 39 = .ok (.ireturn, 1) := by decide +kernel
theorem dX7_canSend_0 : decode cX7_canSend 0 = .ok (.aload_n 0, 1) := by decide +kernel
theorem dX7_canSend_1 : decode cX7_canSend 1 = .ok (.getfield 7, 3) := by decide +kernel
theorem dX7_canSend_4 : decode cX7_canSend 4 = .ok (.iload_n 1, 1) := by decide +kernel
theorem dX7_canSend_5 : decode cX7_canSend 5 = .ok (.iconst 0, 1) := by decide +kernel
theorem dX7_canSend_6 : decode cX7_canSend 6 = .ok (.invokestatic 31, 3) := by decide +kernel
theorem dX7_canSend_9 : decode cX7_canSend 9 = .ok (.iaload, 1) := by decide +kernel
theorem dX7_canSend_10 : decode cX7_canSend 10 = .ok (.ifCond .le 55, 3) := by decide +kernel
theorem dX7_canSend_13 : decode cX7_canSend 13 = .ok (.aload_n 0, 1) := by decide +kernel
theorem dX7_canSend_14 : decode cX7_canSend 14 = .ok (.getfield 7, 3) := by decide +kernel
theorem dX7_canSend_17 : decode cX7_canSend 17 = .ok (.iconst 0, 1) := by decide +kernel
theorem dX7_canSend_18 : decode cX7_canSend 18 = .ok (.iaload, 1) := by decide +kernel
theorem dX7_canSend_19 : decode cX7_canSend 19 = .ok (.aload_n 0, 1) := by decide +kernel
theorem dX7_canSend_20 : decode cX7_canSend 20 = .ok (.getfield 7, 3) := by decide +kernel
theorem dX7_canSend_23 : decode cX7_canSend 23 = .ok (.iload_n 1, 1) := by decide +kernel
theorem dX7_canSend_24 : decode cX7_canSend 24 = .ok (.bipush 9, 2) := by decide +kernel
theorem dX7_canSend_26 : decode cX7_canSend 26 = .ok (.invokestatic 31, 3) := by decide +kernel
theorem dX7_canSend_29 : decode cX7_canSend 29 = .ok (.iaload, 1) := by decide +kernel
theorem dX7_canSend_30 : decode cX7_canSend 30 = .ok (.if_icmp .lt 35, 3) := by decide +kernel
theorem dX7_canSend_33 : decode cX7_canSend 33 = .ok (.aload_n 0, 1) := by decide +kernel
theorem dX7_canSend_34 : decode cX7_canSend 34 = .ok (.invokevirtual 96, 3) := by decide +kernel
theorem dX7_canSend_37 : decode cX7_canSend 37 = .ok (.bipush (-5), 2) := by decide +kernel
theorem dX7_canSend_39 : decode cX7_canSend 39 = .ok (.if_icmp .eq 26, 3) := by decide +kernel
theorem dX7_canSend_42 : decode cX7_canSend 42 = .ok (.aload_n 0, 1) := by decide +kernel
theorem dX7_canSend_43 : decode cX7_canSend 43 = .ok (.iload_n 1, 1) := by decide +kernel
theorem dX7_canSend_44 : decode cX7_canSend 44 = .ok (.invokevirtual 100, 3) := by decide +kernel
theorem dX7_canSend_47 : decode cX7_canSend 47 = .ok (.aload_n 0, 1) := by decide +kernel
theorem dX7_canSend_48 : decode cX7_canSend 48 = .ok (.getfield 7, 3) := by decide +kernel
theorem dX7_canSend_51 : decode cX7_canSend 51 = .ok (.iload_n 1, 1) := by decide +kernel
theorem dX7_canSend_52 : decode cX7_canSend 52 = .ok (.bipush 7, 2) := by decide +kernel
theorem dX7_canSend_54 : decode cX7_canSend 54 = .ok (.invokestatic 31, 3) := by decide +kernel
theorem dX7_canSend_57 : decode cX7_canSend 57 = .ok (.iaload, 1) := by decide +kernel
theorem dX7_canSend_58 : decode cX7_canSend 58 = .ok (.if_icmp .ge 7, 3) := by decide +kernel
theorem dX7_canSend_61 : decode cX7_canSend 61 = .ok (.iconst 1, 1) := by decide +kernel
theorem dX7_canSend_62 : decode cX7_canSend 62 = .ok (.goto 4, 3) := by decide +kernel
theorem dX7_canSend_65 : decode cX7_canSend 65 = .ok (.iconst 0, 1) := by decide +kernel
theorem dX7_canSend_66 : decode cX7_canSend 66 = .ok (.ireturn, 1) := by decide +kernel
theorem dX7_masterThatGoes_0 : decode cX7_masterThatGoes 0 = .ok (.bipush (-5), 2) := by decide +kernel
theorem dX7_masterThatGoes_2 : decode cX7_masterThatGoes 2 = .ok (.istore_n 1, 1) := by decide +kernel
theorem dX7_masterThatGoes_3 : decode cX7_masterThatGoes 3 = .ok (.iconst 0, 1) := by decide +kernel
theorem dX7_masterThatGoes_4 : decode cX7_masterThatGoes 4 = .ok (.istore_n 2, 1) := by decide +kernel
theorem dX7_masterThatGoes_5 : decode cX7_masterThatGoes 5 = .ok (.iload_n 2, 1) := by decide +kernel
theorem dX7_masterThatGoes_6 : decode cX7_masterThatGoes 6 = .ok (.iconst 4, 1) := by decide +kernel
theorem dX7_masterThatGoes_7 : decode cX7_masterThatGoes 7 = .ok (.if_icmp .ge 66, 3) := by decide +kernel
theorem dX7_masterThatGoes_10 : decode cX7_masterThatGoes 10 = .ok (.aload_n 0, 1) := by decide +kernel
theorem dX7_masterThatGoes_11 : decode cX7_masterThatGoes 11 = .ok (.getfield 7, 3) := by decide +kernel
theorem dX7_masterThatGoes_14 : decode cX7_masterThatGoes 14 = .ok (.iload_n 2, 1) := by decide +kernel
theorem dX7_masterThatGoes_15 : decode cX7_masterThatGoes 15 = .ok (.bipush 10, 2) := by decide +kernel
theorem dX7_masterThatGoes_17 : decode cX7_masterThatGoes 17 = .ok (.invokestatic 31, 3) := by decide +kernel
theorem dX7_masterThatGoes_20 : decode cX7_masterThatGoes 20 = .ok (.iaload, 1) := by decide +kernel
theorem dX7_masterThatGoes_21 : decode cX7_masterThatGoes 21 = .ok (.istore_n 3, 1) := by decide +kernel
theorem dX7_masterThatGoes_22 : decode cX7_masterThatGoes 22 = .ok (.aload_n 0, 1) := by decide +kernel
theorem dX7_masterThatGoes_23 : decode cX7_masterThatGoes 23 = .ok (.iload_n 2, 1) := by decide +kernel
theorem dX7_masterThatGoes_24 : decode cX7_masterThatGoes 24 = .ok (.invokevirtual 103, 3) := by decide +kernel
theorem dX7_masterThatGoes_27 : decode cX7_masterThatGoes 27 = .ok (.ifCond .eq 38, 3) := by decide +kernel
theorem dX7_masterThatGoes_30 : decode cX7_masterThatGoes 30 = .ok (.iload_n 3, 1) := by decide +kernel
theorem dX7_masterThatGoes_31 : decode cX7_masterThatGoes 31 = .ok (.aload_n 0, 1) := by decide +kernel
theorem dX7_masterThatGoes_32 : decode cX7_masterThatGoes 32 = .ok (.getfield 7, 3) := by decide +kernel
theorem dX7_masterThatGoes_35 : decode cX7_masterThatGoes 35 = .ok (.iconst 3, 1) := by decide +kernel
theorem dX7_masterThatGoes_36 : decode cX7_masterThatGoes 36 = .ok (.iaload, 1) := by decide +kernel
theorem dX7_masterThatGoes_37 : decode cX7_masterThatGoes 37 = .ok (.if_icmp .lt 28, 3) := by decide +kernel
theorem dX7_masterThatGoes_40 : decode cX7_masterThatGoes 40 = .ok (.iload_n 1, 1) := by decide +kernel
theorem dX7_masterThatGoes_41 : decode cX7_masterThatGoes 41 = .ok (.bipush (-5), 2) := by decide +kernel
theorem dX7_masterThatGoes_43 : decode cX7_masterThatGoes 43 = .ok (.if_icmp .eq 18, 3) := by decide +kernel
theorem dX7_masterThatGoes_46 : decode cX7_masterThatGoes 46 = .ok (.iload_n 3, 1) := by decide +kernel
theorem dX7_masterThatGoes_47 : decode cX7_masterThatGoes 47 = .ok (.aload_n 0, 1) := by decide +kernel
theorem dX7_masterThatGoes_48 : decode cX7_masterThatGoes 48 = .ok (.getfield 7, 3) := by decide +kernel
theorem dX7_masterThatGoes_51 : decode cX7_masterThatGoes 51 = .ok (.iload_n 1, 1) := by decide +kernel
theorem dX7_masterThatGoes_52 : decode cX7_masterThatGoes 52 = .ok (.bipush 10, 2) := by decide +kernel
theorem dX7_masterThatGoes_54 : decode cX7_masterThatGoes 54 = .ok (.invokestatic 31, 3) := by decide +kernel
theorem dX7_masterThatGoes_57 : decode cX7_masterThatGoes 57 = .ok (.iaload, 1) := by decide +kernel
theorem dX7_masterThatGoes_58 : decode cX7_masterThatGoes 58 = .ok (.if_icmp .le 7, 3) := by decide +kernel
theorem dX7_masterThatGoes_61 : decode cX7_masterThatGoes 61 = .ok (.iload_n 2, 1) := by decide +kernel
theorem dX7_masterThatGoes_62 : decode cX7_masterThatGoes 62 = .ok (.goto 4, 3) := by decide +kernel
theorem dX7_masterThatGoes_65 : decode cX7_masterThatGoes 65 = .ok (.iload_n 1, 1) := by decide +kernel
theorem dX7_masterThatGoes_66 : decode cX7_masterThatGoes 66 = .ok (.istore_n 1, 1) := by decide +kernel
theorem dX7_masterThatGoes_67 : decode cX7_masterThatGoes 67 = .ok (.iinc 2 1, 3) := by decide +kernel
theorem dX7_masterThatGoes_70 : decode cX7_masterThatGoes 70 = .ok (.goto (-65), 3) := by decide +kernel
theorem dX7_masterThatGoes_73 : decode cX7_masterThatGoes 73 = .ok (.iconst 0, 1) := by decide +kernel
theorem dX7_masterThatGoes_74 : decode cX7_masterThatGoes 74 = .ok (.istore_n 2, 1) := by decide +kernel
theorem dX7_masterThatGoes_75 : decode cX7_masterThatGoes 75 = .ok (.iload_n 2, 1) := by decide +kernel
theorem dX7_masterThatGoes_76 : decode cX7_masterThatGoes 76 = .ok (.iconst 4, 1) := by decide +kernel
theorem dX7_masterThatGoes_77 : decode cX7_masterThatGoes 77 = .ok (.if_icmp .ge 41, 3) := by decide +kernel
theorem dX7_masterThatGoes_80 : decode cX7_masterThatGoes 80 = .ok (.iload_n 1, 1) := by decide +kernel
theorem dX7_masterThatGoes_81 : decode cX7_masterThatGoes 81 = .ok (.bipush (-5), 2) := by decide +kernel
theorem dX7_masterThatGoes_83 : decode cX7_masterThatGoes 83 = .ok (.if_icmp .ne 35, 3) := by decide +kernel
theorem dX7_masterThatGoes_86 : decode cX7_masterThatGoes 86 = .ok (.aload_n 0, 1) := by decide +kernel
theorem dX7_masterThatGoes_87 : decode cX7_masterThatGoes 87 = .ok (.getfield 7, 3) := by decide +kernel
theorem dX7_masterThatGoes_90 : decode cX7_masterThatGoes 90 = .ok (.bipush 7, 2) := by decide +kernel
theorem dX7_masterThatGoes_92 : decode cX7_masterThatGoes 92 = .ok (.iaload, 1) := by decide +kernel
theorem dX7_masterThatGoes_93 : decode cX7_masterThatGoes 93 = .ok (.iload_n 2, 1) := by decide +kernel
theorem dX7_masterThatGoes_94 : decode cX7_masterThatGoes 94 = .ok (.iadd, 1) := by decide +kernel
theorem dX7_masterThatGoes_95 : decode cX7_masterThatGoes 95 = .ok (.iconst 4, 1) := by decide +kernel
theorem dX7_masterThatGoes_96 : decode cX7_masterThatGoes 96 = .ok (.irem, 1) := by decide +kernel
theorem dX7_masterThatGoes_97 : decode cX7_masterThatGoes 97 = .ok (.istore_n 3, 1) := by decide +kernel
theorem dX7_masterThatGoes_98 : decode cX7_masterThatGoes 98 = .ok (.aload_n 0, 1) := by decide +kernel
theorem dX7_masterThatGoes_99 : decode cX7_masterThatGoes 99 = .ok (.iload_n 3, 1) := by decide +kernel
theorem dX7_masterThatGoes_100 : decode cX7_masterThatGoes 100 = .ok (.invokevirtual 103, 3) := by decide +kernel
theorem dX7_masterThatGoes_103 : decode cX7_masterThatGoes 103 = .ok (.ifCond .eq 7, 3) := by decide +kernel
theorem dX7_masterThatGoes_106 : decode cX7_masterThatGoes 106 = .ok (.iload_n 3, 1) := by decide +kernel
theorem dX7_masterThatGoes_107 : decode cX7_masterThatGoes 107 = .ok (.goto 4, 3) := by decide +kernel
theorem dX7_masterThatGoes_110 : decode cX7_masterThatGoes 110 = .ok (.iload_n 1, 1) := by decide +kernel
theorem dX7_masterThatGoes_111 : decode cX7_masterThatGoes 111 = .ok (.istore_n 1, 1) := by decide +kernel
theorem dX7_masterThatGoes_112 : decode cX7_masterThatGoes 112 = .ok (.iinc 2 1, 3) := by decide +kernel
theorem dX7_masterThatGoes_115 : decode cX7_masterThatGoes 115 = .ok (.goto (-40), 3) := by decide +kernel
theorem dX7_masterThatGoes_118 : decode cX7_masterThatGoes 118 = .ok (.iload_n 1, 1) := by decide +kernel
theorem dX7_masterThatGoes_119 : decode cX7_masterThatGoes 119 = .ok (.ireturn, 1) := by decide +kernel
theorem dX7_answers_0 : decode cX7_answers 0 = .ok (.aload_n 0, 1) := by decide +kernel
theorem dX7_answers_1 : decode cX7_answers 1 = .ok (.iload_n 1, 1) := by decide +kernel
theorem dX7_answers_2 : decode cX7_answers 2 = .ok (.invokevirtual 93, 3) := by decide +kernel
theorem dX7_answers_5 : decode cX7_answers 5 = .ok (.istore_n 2, 1) := by decide +kernel
theorem dX7_answers_6 : decode cX7_answers 6 = .ok (.aload_n 0, 1) := by decide +kernel
theorem dX7_answers_7 : decode cX7_answers 7 = .ok (.getfield 7, 3) := by decide +kernel
theorem dX7_answers_10 : decode cX7_answers 10 = .ok (.iload_n 1, 1) := by decide +kernel
theorem dX7_answers_11 : decode cX7_answers 11 = .ok (.bipush 20, 2) := by decide +kernel
theorem dX7_answers_13 : decode cX7_answers 13 = .ok (.iload_n 2, 1) := by decide +kernel
theorem dX7_answers_14 : decode cX7_answers 14 = .ok (.iadd, 1) := by decide +kernel
theorem dX7_answers_15 : decode cX7_answers 15 = .ok (.invokestatic 35, 3) := by decide +kernel
theorem dX7_answers_18 : decode cX7_answers 18 = .ok (.iaload, 1) := by decide +kernel
theorem dX7_answers_19 : decode cX7_answers 19 = .ok (.istore_n 3, 1) := by decide +kernel
theorem dX7_answers_20 : decode cX7_answers 20 = .ok (.aload_n 0, 1) := by decide +kernel
theorem dX7_answers_21 : decode cX7_answers 21 = .ok (.iload_n 3, 1) := by decide +kernel
theorem dX7_answers_22 : decode cX7_answers 22 = .ok (.putfield 106, 3) := by decide +kernel
theorem dX7_answers_25 : decode cX7_answers 25 = .ok (.aload_n 0, 1) := by decide +kernel
theorem dX7_answers_26 : decode cX7_answers 26 = .ok (.getfield 7, 3) := by decide +kernel
theorem dX7_answers_29 : decode cX7_answers 29 = .ok (.bipush 6, 2) := by decide +kernel
theorem dX7_answers_31 : decode cX7_answers 31 = .ok (.iload_n 1, 1) := by decide +kernel
theorem dX7_answers_32 : decode cX7_answers 32 = .ok (.iconst 1, 1) := by decide +kernel
theorem dX7_answers_33 : decode cX7_answers 33 = .ok (.iadd, 1) := by decide +kernel
theorem dX7_answers_34 : decode cX7_answers 34 = .ok (.iconst 4, 1) := by decide +kernel
theorem dX7_answers_35 : decode cX7_answers 35 = .ok (.irem, 1) := by decide +kernel
theorem dX7_answers_36 : decode cX7_answers 36 = .ok (.iastore, 1) := by decide +kernel
theorem dX7_answers_37 : decode cX7_answers 37 = .ok (.aload_n 0, 1) := by decide +kernel
theorem dX7_answers_38 : decode cX7_answers 38 = .ok (.getfield 7, 3) := by decide +kernel
theorem dX7_answers_41 : decode cX7_answers 41 = .ok (.iconst 5, 1) := by decide +kernel
theorem dX7_answers_42 : decode cX7_answers 42 = .ok (.iconst 1, 1) := by decide +kernel
theorem dX7_answers_43 : decode cX7_answers 43 = .ok (.iastore, 1) := by decide +kernel
theorem dX7_answers_44 : decode cX7_answers 44 = .ok (.aload_n 0, 1) := by decide +kernel
theorem dX7_answers_45 : decode cX7_answers 45 = .ok (.getfield 7, 3) := by decide +kernel
theorem dX7_answers_48 : decode cX7_answers 48 = .ok (.bipush 8, 2) := by decide +kernel
theorem dX7_answers_50 : decode cX7_answers 50 = .ok (.dup2, 1) := by decide +kernel
theorem dX7_answers_51 : decode cX7_answers 51 = .ok (.iaload, 1) := by decide +kernel
theorem dX7_answers_52 : decode cX7_answers 52 = .ok (.iconst 1, 1) := by decide +kernel
theorem dX7_answers_53 : decode cX7_answers 53 = .ok (.iadd, 1) := by decide +kernel
theorem dX7_answers_54 : decode cX7_answers 54 = .ok (.iastore, 1) := by decide +kernel
theorem dX7_answers_55 : decode cX7_answers 55 = .ok (.aload_n 0, 1) := by decide +kernel
theorem dX7_answers_56 : decode cX7_answers 56 = .ok (.getfield 7, 3) := by decide +kernel
theorem dX7_answers_59 : decode cX7_answers 59 = .ok (.bipush 12, 2) := by decide +kernel
theorem dX7_answers_61 : decode cX7_answers 61 = .ok (.dup2, 1) := by decide +kernel
theorem dX7_answers_62 : decode cX7_answers 62 = .ok (.iaload, 1) := by decide +kernel
theorem dX7_answers_63 : decode cX7_answers 63 = .ok (.iload_n 2, 1) := by decide +kernel
theorem dX7_answers_64 : decode cX7_answers 64 = .ok (.ifCond .le 7, 3) := by decide +kernel
theorem dX7_answers_67 : decode cX7_answers 67 = .ok (.iconst 1, 1) := by decide +kernel
theorem dX7_answers_68 : decode cX7_answers 68 = .ok (.goto 4, 3) := by decide +kernel
theorem dX7_answers_71 : decode cX7_answers 71 = .ok (.iconst 0, 1) := by decide +kernel
theorem dX7_answers_72 : decode cX7_answers 72 = .ok (.iadd, 1) := by decide +kernel
theorem dX7_answers_73 : decode cX7_answers 73 = .ok (.iastore, 1) := by decide +kernel
theorem dX7_answers_74 : decode cX7_answers 74 = .ok (.iload_n 2, 1) := by decide +kernel
theorem dX7_answers_75 : decode cX7_answers 75 = .ok (.istore 4, 2) := by decide +kernel
theorem dX7_answers_77 : decode cX7_answers 77 = .ok (.iload 4, 2) := by decide +kernel
theorem dX7_answers_79 : decode cX7_answers 79 = .ok (.iconst 1, 1) := by decide +kernel
theorem dX7_answers_80 : decode cX7_answers 80 = .ok (.iadd, 1) := by decide +kernel
theorem dX7_answers_81 : decode cX7_answers 81 = .ok (.aload_n 0, 1) := by decide +kernel
theorem dX7_answers_82 : decode cX7_answers 82 = .ok (.getfield 7, 3) := by decide +kernel
theorem dX7_answers_85 : decode cX7_answers 85 = .ok (.iload_n 1, 1) := by decide +kernel
theorem dX7_answers_86 : decode cX7_answers 86 = .ok (.bipush 19, 2) := by decide +kernel
theorem dX7_answers_88 : decode cX7_answers 88 = .ok (.invokestatic 35, 3) := by decide +kernel
theorem dX7_answers_91 : decode cX7_answers 91 = .ok (.iaload, 1) := by decide +kernel
theorem dX7_answers_92 : decode cX7_answers 92 = .ok (.if_icmp .ge 39, 3) := by decide +kernel
theorem dX7_answers_95 : decode cX7_answers 95 = .ok (.aload_n 0, 1) := by decide +kernel
theorem dX7_answers_96 : decode cX7_answers 96 = .ok (.getfield 7, 3) := by decide +kernel
theorem dX7_answers_99 : decode cX7_answers 99 = .ok (.iload_n 1, 1) := by decide +kernel
theorem dX7_answers_100 : decode cX7_answers 100 = .ok (.bipush 20, 2) := by decide +kernel
theorem dX7_answers_102 : decode cX7_answers 102 = .ok (.iload 4, 2) := by decide +kernel
theorem dX7_answers_104 : decode cX7_answers 104 = .ok (.iadd, 1) := by decide +kernel
theorem dX7_answers_105 : decode cX7_answers 105 = .ok (.invokestatic 35, 3) := by decide +kernel
theorem dX7_answers_108 : decode cX7_answers 108 = .ok (.aload_n 0, 1) := by decide +kernel
theorem dX7_answers_109 : decode cX7_answers 109 = .ok (.getfield 7, 3) := by decide +kernel
theorem dX7_answers_112 : decode cX7_answers 112 = .ok (.iload_n 1, 1) := by decide +kernel
theorem dX7_answers_113 : decode cX7_answers 113 = .ok (.bipush 20, 2) := by decide +kernel
theorem dX7_answers_115 : decode cX7_answers 115 = .ok (.iload 4, 2) := by decide +kernel
theorem dX7_answers_117 : decode cX7_answers 117 = .ok (.iadd, 1) := by decide +kernel
theorem dX7_answers_118 : decode cX7_answers 118 = .ok (.iconst 1, 1) := by decide +kernel
theorem dX7_answers_119 : decode cX7_answers 119 = .ok (.iadd, 1) := by decide +kernel
theorem dX7_answers_120 : decode cX7_answers 120 = .ok (.invokestatic 35, 3) := by decide +kernel
theorem dX7_answers_123 : decode cX7_answers 123 = .ok (.iaload, 1) := by decide +kernel
theorem dX7_answers_124 : decode cX7_answers 124 = .ok (.iastore, 1) := by decide +kernel
theorem dX7_answers_125 : decode cX7_answers 125 = .ok (.iinc 4 1, 3) := by decide +kernel
theorem dX7_answers_128 : decode cX7_answers 128 = .ok (.goto (-51), 3) := by decide +kernel
theorem dX7_answers_131 : decode cX7_answers 131 = .ok (.aload_n 0, 1) := by decide +kernel
theorem dX7_answers_132 : decode cX7_answers 132 = .ok (.getfield 7, 3) := by decide +kernel
theorem dX7_answers_135 : decode cX7_answers 135 = .ok (.iload_n 1, 1) := by decide +kernel
theorem dX7_answers_136 : decode cX7_answers 136 = .ok (.bipush 19, 2) := by decide +kernel
theorem dX7_answers_138 : decode cX7_answers 138 = .ok (.invokestatic 35, 3) := by decide +kernel
theorem dX7_answers_141 : decode cX7_answers 141 = .ok (.dup2, 1) := by decide +kernel
theorem dX7_answers_142 : decode cX7_answers 142 = .ok (.iaload, 1) := by decide +kernel
theorem dX7_answers_143 : decode cX7_answers 143 = .ok (.iconst 1, 1) := by decide +kernel
theorem dX7_answers_144 : decode cX7_answers 144 = .ok (.isub, 1) := by decide +kernel
theorem dX7_answers_145 : decode cX7_answers 145 = .ok (.iastore, 1) := by decide +kernel
theorem dX7_answers_146 : decode cX7_answers 146 = .ok (.aload_n 0, 1) := by decide +kernel
theorem dX7_answers_147 : decode cX7_answers 147 = .ok (.getfield 7, 3) := by decide +kernel
theorem dX7_answers_150 : decode cX7_answers 150 = .ok (.bipush 13, 2) := by decide +kernel
theorem dX7_answers_152 : decode cX7_answers 152 = .ok (.aload_n 0, 1) := by decide +kernel
theorem dX7_answers_153 : decode cX7_answers 153 = .ok (.getfield 7, 3) := by decide +kernel
theorem dX7_answers_156 : decode cX7_answers 156 = .ok (.iload_n 3, 1) := by decide +kernel
theorem dX7_answers_157 : decode cX7_answers 157 = .ok (.iconst 5, 1) := by decide +kernel
theorem dX7_answers_158 : decode cX7_answers 158 = .ok (.invokestatic 59, 3) := by decide +kernel
theorem dX7_answers_161 : decode cX7_answers 161 = .ok (.iaload, 1) := by decide +kernel
theorem dX7_answers_162 : decode cX7_answers 162 = .ok (.iadd, 1) := by decide +kernel
theorem dX7_answers_163 : decode cX7_answers 163 = .ok (.bipush (-5), 2) := by decide +kernel
theorem dX7_answers_165 : decode cX7_answers 165 = .ok (.iastore, 1) := by decide +kernel
theorem dX7_answers_166 : decode cX7_answers 166 = .ok (.aload_n 0, 1) := by decide +kernel
theorem dX7_answers_167 : decode cX7_answers 167 = .ok (.getfield 7, 3) := by decide +kernel
theorem dX7_answers_170 : decode cX7_answers 170 = .ok (.iload_n 3, 1) := by decide +kernel
theorem dX7_answers_171 : decode cX7_answers 171 = .ok (.iconst 5, 1) := by decide +kernel
theorem dX7_answers_172 : decode cX7_answers 172 = .ok (.invokestatic 59, 3) := by decide +kernel
theorem dX7_answers_175 : decode cX7_answers 175 = .ok (.bipush (-5), 2) := by decide +kernel
theorem dX7_answers_177 : decode cX7_answers 177 = .ok (.iastore, 1) := by decide +kernel
theorem dX7_answers_178 : decode cX7_answers 178 = .ok (.aload_n 0, 1) := by decide +kernel
theorem dX7_answers_179 : decode cX7_answers 179 = .ok (.getfield 7, 3) := by decide +kernel
theorem dX7_answers_182 : decode cX7_answers 182 = .ok (.iload_n 3, 1) := by decide +kernel
theorem dX7_answers_183 : decode cX7_answers 183 = .ok (.iconst 4, 1) := by decide +kernel
theorem dX7_answers_184 : decode cX7_answers 184 = .ok (.invokestatic 59, 3) := by decide +kernel
theorem dX7_answers_187 : decode cX7_answers 187 = .ok (.iconst 3, 1) := by decide +kernel
theorem dX7_answers_188 : decode cX7_answers 188 = .ok (.iastore, 1) := by decide +kernel
theorem dX7_answers_189 : decode cX7_answers 189 = .ok (.aload_n 0, 1) := by decide +kernel
theorem dX7_answers_190 : decode cX7_answers 190 = .ok (.getfield 7, 3) := by decide +kernel
theorem dX7_answers_193 : decode cX7_answers 193 = .ok (.iload_n 3, 1) := by decide +kernel
theorem dX7_answers_194 : decode cX7_answers 194 = .ok (.bipush 8, 2) := by decide +kernel
theorem dX7_answers_196 : decode cX7_answers 196 = .ok (.invokestatic 59, 3) := by decide +kernel
theorem dX7_answers_199 : decode cX7_answers 199 = .ok (.aload_n 0, 1) := by decide +kernel
theorem dX7_answers_200 : decode cX7_answers 200 = .ok (.getfield 7, 3) := by decide +kernel
theorem dX7_answers_203 : decode cX7_answers 203 = .ok (.iconst 0, 1) := by decide +kernel
theorem dX7_answers_204 : decode cX7_answers 204 = .ok (.iaload, 1) := by decide +kernel
theorem dX7_answers_205 : decode cX7_answers 205 = .ok (.aload_n 0, 1) := by decide +kernel
theorem dX7_answers_206 : decode cX7_answers 206 = .ok (.getfield 7, 3) := by decide +kernel
theorem dX7_answers_209 : decode cX7_answers 209 = .ok (.iload_n 3, 1) := by decide +kernel
theorem dX7_answers_210 : decode cX7_answers 210 = .ok (.bipush 7, 2) := by decide +kernel
theorem dX7_answers_212 : decode cX7_answers 212 = .ok (.invokestatic 59, 3) := by decide +kernel
theorem dX7_answers_215 : decode cX7_answers 215 = .ok (.iaload, 1) := by decide +kernel
theorem dX7_answers_216 : decode cX7_answers 216 = .ok (.isub, 1) := by decide +kernel
theorem dX7_answers_217 : decode cX7_answers 217 = .ok (.iastore, 1) := by decide +kernel
theorem dX7_answers_218 : decode cX7_answers 218 = .ok (.iconst 1, 1) := by decide +kernel
theorem dX7_answers_219 : decode cX7_answers 219 = .ok (.ireturn, 1) := by decide +kernel
theorem dX7_sends_0 : decode cX7_sends 0 = .ok (.aload_n 0, 1) := by decide +kernel
theorem dX7_sends_1 : decode cX7_sends 1 = .ok (.getfield 7, 3) := by decide +kernel
theorem dX7_sends_4 : decode cX7_sends 4 = .ok (.iload_n 1, 1) := by decide +kernel
theorem dX7_sends_5 : decode cX7_sends 5 = .ok (.iconst 1, 1) := by decide +kernel
theorem dX7_sends_6 : decode cX7_sends 6 = .ok (.invokestatic 31, 3) := by decide +kernel
theorem dX7_sends_9 : decode cX7_sends 9 = .ok (.iaload, 1) := by decide +kernel
theorem dX7_sends_10 : decode cX7_sends 10 = .ok (.istore_n 2, 1) := by decide +kernel
theorem dX7_sends_11 : decode cX7_sends 11 = .ok (.aload_n 0, 1) := by decide +kernel
theorem dX7_sends_12 : decode cX7_sends 12 = .ok (.getfield 7, 3) := by decide +kernel
theorem dX7_sends_15 : decode cX7_sends 15 = .ok (.iload_n 2, 1) := by decide +kernel
theorem dX7_sends_16 : decode cX7_sends 16 = .ok (.iconst 1, 1) := by decide +kernel
theorem dX7_sends_17 : decode cX7_sends 17 = .ok (.invokestatic 59, 3) := by decide +kernel
theorem dX7_sends_20 : decode cX7_sends 20 = .ok (.iaload, 1) := by decide +kernel
theorem dX7_sends_21 : decode cX7_sends 21 = .ok (.istore_n 3, 1) := by decide +kernel
theorem dX7_sends_22 : decode cX7_sends 22 = .ok (.aload_n 0, 1) := by decide +kernel
theorem dX7_sends_23 : decode cX7_sends 23 = .ok (.iload_n 2, 1) := by decide +kernel
theorem dX7_sends_24 : decode cX7_sends 24 = .ok (.putfield 106, 3) := by decide +kernel
theorem dX7_sends_27 : decode cX7_sends 27 = .ok (.aload_n 0, 1) := by decide +kernel
theorem dX7_sends_28 : decode cX7_sends 28 = .ok (.getfield 7, 3) := by decide +kernel
theorem dX7_sends_31 : decode cX7_sends 31 = .ok (.bipush 7, 2) := by decide +kernel
theorem dX7_sends_33 : decode cX7_sends 33 = .ok (.iload_n 1, 1) := by decide +kernel
theorem dX7_sends_34 : decode cX7_sends 34 = .ok (.iconst 1, 1) := by decide +kernel
theorem dX7_sends_35 : decode cX7_sends 35 = .ok (.iadd, 1) := by decide +kernel
theorem dX7_sends_36 : decode cX7_sends 36 = .ok (.iconst 4, 1) := by decide +kernel
theorem dX7_sends_37 : decode cX7_sends 37 = .ok (.irem, 1) := by decide +kernel
theorem dX7_sends_38 : decode cX7_sends 38 = .ok (.iastore, 1) := by decide +kernel
theorem dX7_sends_39 : decode cX7_sends 39 = .ok (.aload_n 0, 1) := by decide +kernel
theorem dX7_sends_40 : decode cX7_sends 40 = .ok (.getfield 7, 3) := by decide +kernel
theorem dX7_sends_43 : decode cX7_sends 43 = .ok (.iconst 5, 1) := by decide +kernel
theorem dX7_sends_44 : decode cX7_sends 44 = .ok (.iconst 0, 1) := by decide +kernel
theorem dX7_sends_45 : decode cX7_sends 45 = .ok (.iastore, 1) := by decide +kernel
theorem dX7_sends_46 : decode cX7_sends 46 = .ok (.aload_n 0, 1) := by decide +kernel
theorem dX7_sends_47 : decode cX7_sends 47 = .ok (.getfield 7, 3) := by decide +kernel
theorem dX7_sends_50 : decode cX7_sends 50 = .ok (.iload_n 3, 1) := by decide +kernel
theorem dX7_sends_51 : decode cX7_sends 51 = .ok (.bipush 19, 2) := by decide +kernel
theorem dX7_sends_53 : decode cX7_sends 53 = .ok (.invokestatic 35, 3) := by decide +kernel
theorem dX7_sends_56 : decode cX7_sends 56 = .ok (.iaload, 1) := by decide +kernel
theorem dX7_sends_57 : decode cX7_sends 57 = .ok (.aload_n 0, 1) := by decide +kernel
theorem dX7_sends_58 : decode cX7_sends 58 = .ok (.getfield 7, 3) := by decide +kernel
theorem dX7_sends_61 : decode cX7_sends 61 = .ok (.iload_n 3, 1) := by decide +kernel
theorem dX7_sends_62 : decode cX7_sends 62 = .ok (.bipush 16, 2) := by decide +kernel
theorem dX7_sends_64 : decode cX7_sends 64 = .ok (.invokestatic 35, 3) := by decide +kernel
theorem dX7_sends_67 : decode cX7_sends 67 = .ok (.iaload, 1) := by decide +kernel
theorem dX7_sends_68 : decode cX7_sends 68 = .ok (.if_icmp .lt 94, 3) := by decide +kernel
theorem dX7_sends_71 : decode cX7_sends 71 = .ok (.aload_n 0, 1) := by decide +kernel
theorem dX7_sends_72 : decode cX7_sends 72 = .ok (.getfield 7, 3) := by decide +kernel
theorem dX7_sends_75 : decode cX7_sends 75 = .ok (.iload_n 1, 1) := by decide +kernel
theorem dX7_sends_76 : decode cX7_sends 76 = .ok (.bipush 8, 2) := by decide +kernel
theorem dX7_sends_78 : decode cX7_sends 78 = .ok (.invokestatic 31, 3) := by decide +kernel
theorem dX7_sends_81 : decode cX7_sends 81 = .ok (.dup2, 1) := by decide +kernel
theorem dX7_sends_82 : decode cX7_sends 82 = .ok (.iaload, 1) := by decide +kernel
theorem dX7_sends_83 : decode cX7_sends 83 = .ok (.iconst 1, 1) := by decide +kernel
theorem dX7_sends_84 : decode cX7_sends 84 = .ok (.iadd, 1) := by decide +kernel
theorem dX7_sends_85 : decode cX7_sends 85 = .ok (.iastore, 1) := by decide +kernel
theorem dX7_sends_86 : decode cX7_sends 86 = .ok (.aload_n 0, 1) := by decide +kernel
theorem dX7_sends_87 : decode cX7_sends 87 = .ok (.getfield 7, 3) := by decide +kernel
theorem dX7_sends_90 : decode cX7_sends 90 = .ok (.iload_n 2, 1) := by decide +kernel
theorem dX7_sends_91 : decode cX7_sends 91 = .ok (.bipush 9, 2) := by decide +kernel
theorem dX7_sends_93 : decode cX7_sends 93 = .ok (.invokestatic 59, 3) := by decide +kernel
theorem dX7_sends_96 : decode cX7_sends 96 = .ok (.dup2, 1) := by decide +kernel
theorem dX7_sends_97 : decode cX7_sends 97 = .ok (.iaload, 1) := by decide +kernel
theorem dX7_sends_98 : decode cX7_sends 98 = .ok (.iconst 1, 1) := by decide +kernel
theorem dX7_sends_99 : decode cX7_sends 99 = .ok (.iadd, 1) := by decide +kernel
theorem dX7_sends_100 : decode cX7_sends 100 = .ok (.iastore, 1) := by decide +kernel
theorem dX7_sends_101 : decode cX7_sends 101 = .ok (.aload_n 0, 1) := by decide +kernel
theorem dX7_sends_102 : decode cX7_sends 102 = .ok (.getfield 7, 3) := by decide +kernel
theorem dX7_sends_105 : decode cX7_sends 105 = .ok (.bipush 10, 2) := by decide +kernel
theorem dX7_sends_107 : decode cX7_sends 107 = .ok (.dup2, 1) := by decide +kernel
theorem dX7_sends_108 : decode cX7_sends 108 = .ok (.iaload, 1) := by decide +kernel
theorem dX7_sends_109 : decode cX7_sends 109 = .ok (.iconst 1, 1) := by decide +kernel
theorem dX7_sends_110 : decode cX7_sends 110 = .ok (.iadd, 1) := by decide +kernel
theorem dX7_sends_111 : decode cX7_sends 111 = .ok (.iastore, 1) := by decide +kernel
theorem dX7_sends_112 : decode cX7_sends 112 = .ok (.aload_n 0, 1) := by decide +kernel
theorem dX7_sends_113 : decode cX7_sends 113 = .ok (.getfield 7, 3) := by decide +kernel
theorem dX7_sends_116 : decode cX7_sends 116 = .ok (.iload_n 1, 1) := by decide +kernel
theorem dX7_sends_117 : decode cX7_sends 117 = .ok (.bipush 8, 2) := by decide +kernel
theorem dX7_sends_119 : decode cX7_sends 119 = .ok (.invokestatic 31, 3) := by decide +kernel
theorem dX7_sends_122 : decode cX7_sends 122 = .ok (.iaload, 1) := by decide +kernel
theorem dX7_sends_123 : decode cX7_sends 123 = .ok (.istore 4, 2) := by decide +kernel
theorem dX7_sends_125 : decode cX7_sends 125 = .ok (.aload_n 0, 1) := by decide +kernel
theorem dX7_sends_126 : decode cX7_sends 126 = .ok (.getfield 7, 3) := by decide +kernel
theorem dX7_sends_129 : decode cX7_sends 129 = .ok (.iload_n 1, 1) := by decide +kernel
theorem dX7_sends_130 : decode cX7_sends 130 = .ok (.bipush 9, 2) := by decide +kernel
theorem dX7_sends_132 : decode cX7_sends 132 = .ok (.invokestatic 31, 3) := by decide +kernel
theorem dX7_sends_135 : decode cX7_sends 135 = .ok (.aload_n 0, 1) := by decide +kernel
theorem dX7_sends_136 : decode cX7_sends 136 = .ok (.getfield 7, 3) := by decide +kernel
theorem dX7_sends_139 : decode cX7_sends 139 = .ok (.iconst 0, 1) := by decide +kernel
theorem dX7_sends_140 : decode cX7_sends 140 = .ok (.iaload, 1) := by decide +kernel
theorem dX7_sends_141 : decode cX7_sends 141 = .ok (.iconst 1, 1) := by decide +kernel
theorem dX7_sends_142 : decode cX7_sends 142 = .ok (.iadd, 1) := by decide +kernel
theorem dX7_sends_143 : decode cX7_sends 143 = .ok (.iload 4, 2) := by decide +kernel
theorem dX7_sends_145 : decode cX7_sends 145 = .ok (.iconst 3, 1) := by decide +kernel
theorem dX7_sends_146 : decode cX7_sends 146 = .ok (.if_icmp .le 8, 3) := by decide +kernel
theorem dX7_sends_149 : decode cX7_sends 149 = .ok (.bipush 16, 2) := by decide +kernel
theorem dX7_sends_151 : decode cX7_sends 151 = .ok (.goto 7, 3) := by decide +kernel
theorem dX7_sends_154 : decode cX7_sends 154 = .ok (.iconst 1, 1) := by decide +kernel
theorem dX7_sends_155 : decode cX7_sends 155 = .ok (.iload 4, 2) := by decide +kernel
theorem dX7_sends_157 : decode cX7_sends 157 = .ok (.ishl, 1) := by decide +kernel
theorem dX7_sends_158 : decode cX7_sends 158 = .ok (.iadd, 1) := by decide +kernel
theorem dX7_sends_159 : decode cX7_sends 159 = .ok (.iastore, 1) := by decide +kernel
theorem dX7_sends_160 : decode cX7_sends 160 = .ok (.iconst 2, 1) := by decide +kernel
theorem dX7_sends_161 : decode cX7_sends 161 = .ok (.ireturn, 1) := by decide +kernel
theorem dX7_sends_162 : decode cX7_sends 162 = .ok (.aload_n 0, 1) := by decide +kernel
theorem dX7_sends_163 : decode cX7_sends 163 = .ok (.invokevirtual 96, 3) := by decide +kernel
theorem dX7_sends_166 : decode cX7_sends 166 = .ok (.istore 4, 2) := by decide +kernel
theorem dX7_sends_168 : decode cX7_sends 168 = .ok (.iconst 0, 1) := by decide +kernel
theorem dX7_sends_169 : decode cX7_sends 169 = .ok (.istore 5, 2) := by decide +kernel
theorem dX7_sends_171 : decode cX7_sends 171 = .ok (.iload 5, 2) := by decide +kernel
theorem dX7_sends_173 : decode cX7_sends 173 = .ok (.iconst 1, 1) := by decide +kernel
theorem dX7_sends_174 : decode cX7_sends 174 = .ok (.iadd, 1) := by decide +kernel
theorem dX7_sends_175 : decode cX7_sends 175 = .ok (.aload_n 0, 1) := by decide +kernel
theorem dX7_sends_176 : decode cX7_sends 176 = .ok (.getfield 7, 3) := by decide +kernel
theorem dX7_sends_179 : decode cX7_sends 179 = .ok (.iload_n 1, 1) := by decide +kernel
theorem dX7_sends_180 : decode cX7_sends 180 = .ok (.iconst 0, 1) := by decide +kernel
theorem dX7_sends_181 : decode cX7_sends 181 = .ok (.invokestatic 31, 3) := by decide +kernel
theorem dX7_sends_184 : decode cX7_sends 184 = .ok (.iaload, 1) := by decide +kernel
theorem dX7_sends_185 : decode cX7_sends 185 = .ok (.if_icmp .ge 37, 3) := by decide +kernel
theorem dX7_sends_188 : decode cX7_sends 188 = .ok (.aload_n 0, 1) := by decide +kernel
theorem dX7_sends_189 : decode cX7_sends 189 = .ok (.getfield 7, 3) := by decide +kernel
theorem dX7_sends_192 : decode cX7_sends 192 = .ok (.iload_n 1, 1) := by decide +kernel
theorem dX7_sends_193 : decode cX7_sends 193 = .ok (.iconst 1, 1) := by decide +kernel
theorem dX7_sends_194 : decode cX7_sends 194 = .ok (.iload 5, 2) := by decide +kernel
theorem dX7_sends_196 : decode cX7_sends 196 = .ok (.iadd, 1) := by decide +kernel
theorem dX7_sends_197 : decode cX7_sends 197 = .ok (.invokestatic 31, 3) := by decide +kernel
theorem dX7_sends_200 : decode cX7_sends 200 = .ok (.aload_n 0, 1) := by decide +kernel
theorem dX7_sends_201 : decode cX7_sends 201 = .ok (.getfield 7, 3) := by decide +kernel
theorem dX7_sends_204 : decode cX7_sends 204 = .ok (.iload_n 1, 1) := by decide +kernel
theorem dX7_sends_205 : decode cX7_sends 205 = .ok (.iconst 1, 1) := by decide +kernel
theorem dX7_sends_206 : decode cX7_sends 206 = .ok (.iload 5, 2) := by decide +kernel
theorem dX7_sends_208 : decode cX7_sends 208 = .ok (.iadd, 1) := by decide +kernel
theorem dX7_sends_209 : decode cX7_sends 209 = .ok (.iconst 1, 1) := by decide +kernel
theorem dX7_sends_210 : decode cX7_sends 210 = .ok (.iadd, 1) := by decide +kernel
theorem dX7_sends_211 : decode cX7_sends 211 = .ok (.invokestatic 31, 3) := by decide +kernel
theorem dX7_sends_214 : decode cX7_sends 214 = .ok (.iaload, 1) := by decide +kernel
theorem dX7_sends_215 : decode cX7_sends 215 = .ok (.iastore, 1) := by decide +kernel
theorem dX7_sends_216 : decode cX7_sends 216 = .ok (.iinc 5 1, 3) := by decide +kernel
theorem dX7_sends_219 : decode cX7_sends 219 = .ok (.goto (-48), 3) := by decide +kernel
theorem dX7_sends_222 : decode cX7_sends 222 = .ok (.aload_n 0, 1) := by decide +kernel
theorem dX7_sends_223 : decode cX7_sends 223 = .ok (.getfield 7, 3) := by decide +kernel
theorem dX7_sends_226 : decode cX7_sends 226 = .ok (.iload_n 1, 1) := by decide +kernel
theorem dX7_sends_227 : decode cX7_sends 227 = .ok (.iconst 0, 1) := by decide +kernel
theorem dX7_sends_228 : decode cX7_sends 228 = .ok (.invokestatic 31, 3) := by decide +kernel
theorem dX7_sends_231 : decode cX7_sends 231 = .ok (.dup2, 1) := by decide +kernel
theorem dX7_sends_232 : decode cX7_sends 232 = .ok (.iaload, 1) := by decide +kernel
theorem dX7_sends_233 : decode cX7_sends 233 = .ok (.iconst 1, 1) := by decide +kernel
theorem dX7_sends_234 : decode cX7_sends 234 = .ok (.isub, 1) := by decide +kernel
theorem dX7_sends_235 : decode cX7_sends 235 = .ok (.iastore, 1) := by decide +kernel
theorem dX7_sends_236 : decode cX7_sends 236 = .ok (.aload_n 0, 1) := by decide +kernel
theorem dX7_sends_237 : decode cX7_sends 237 = .ok (.getfield 7, 3) := by decide +kernel
theorem dX7_sends_240 : decode cX7_sends 240 = .ok (.iload_n 1, 1) := by decide +kernel
theorem dX7_sends_241 : decode cX7_sends 241 = .ok (.bipush 8, 2) := by decide +kernel
theorem dX7_sends_243 : decode cX7_sends 243 = .ok (.invokestatic 31, 3) := by decide +kernel
theorem dX7_sends_246 : decode cX7_sends 246 = .ok (.iconst 0, 1) := by decide +kernel
theorem dX7_sends_247 : decode cX7_sends 247 = .ok (.iastore, 1) := by decide +kernel
theorem dX7_sends_248 : decode cX7_sends 248 = .ok (.aload_n 0, 1) := by decide +kernel
theorem dX7_sends_249 : decode cX7_sends 249 = .ok (.getfield 7, 3) := by decide +kernel
theorem dX7_sends_252 : decode cX7_sends 252 = .ok (.bipush 13, 2) := by decide +kernel
theorem dX7_sends_254 : decode cX7_sends 254 = .ok (.iload 4, 2) := by decide +kernel
theorem dX7_sends_256 : decode cX7_sends 256 = .ok (.iadd, 1) := by decide +kernel
theorem dX7_sends_257 : decode cX7_sends 257 = .ok (.iload_n 2, 1) := by decide +kernel
theorem dX7_sends_258 : decode cX7_sends 258 = .ok (.iastore, 1) := by decide +kernel
theorem dX7_sends_259 : decode cX7_sends 259 = .ok (.aload_n 0, 1) := by decide +kernel
theorem dX7_sends_260 : decode cX7_sends 260 = .ok (.getfield 7, 3) := by decide +kernel
theorem dX7_sends_263 : decode cX7_sends 263 = .ok (.iload_n 2, 1) := by decide +kernel
theorem dX7_sends_264 : decode cX7_sends 264 = .ok (.iconst 5, 1) := by decide +kernel
theorem dX7_sends_265 : decode cX7_sends 265 = .ok (.invokestatic 59, 3) := by decide +kernel
theorem dX7_sends_268 : decode cX7_sends 268 = .ok (.iload 4, 2) := by decide +kernel
theorem dX7_sends_270 : decode cX7_sends 270 = .ok (.iastore, 1) := by decide +kernel
theorem dX7_sends_271 : decode cX7_sends 271 = .ok (.aload_n 0, 1) := by decide +kernel
theorem dX7_sends_272 : decode cX7_sends 272 = .ok (.getfield 7, 3) := by decide +kernel
theorem dX7_sends_275 : decode cX7_sends 275 = .ok (.iload_n 2, 1) := by decide +kernel
theorem dX7_sends_276 : decode cX7_sends 276 = .ok (.iconst 4, 1) := by decide +kernel
theorem dX7_sends_277 : decode cX7_sends 277 = .ok (.invokestatic 59, 3) := by decide +kernel
theorem dX7_sends_280 : decode cX7_sends 280 = .ok (.iconst 1, 1) := by decide +kernel
theorem dX7_sends_281 : decode cX7_sends 281 = .ok (.iastore, 1) := by decide +kernel
theorem dX7_sends_282 : decode cX7_sends 282 = .ok (.aload_n 0, 1) := by decide +kernel
theorem dX7_sends_283 : decode cX7_sends 283 = .ok (.getfield 7, 3) := by decide +kernel
theorem dX7_sends_286 : decode cX7_sends 286 = .ok (.iload_n 2, 1) := by decide +kernel
theorem dX7_sends_287 : decode cX7_sends 287 = .ok (.bipush 10, 2) := by decide +kernel
theorem dX7_sends_289 : decode cX7_sends 289 = .ok (.invokestatic 59, 3) := by decide +kernel
theorem dX7_sends_292 : decode cX7_sends 292 = .ok (.aload_n 0, 1) := by decide +kernel
theorem dX7_sends_293 : decode cX7_sends 293 = .ok (.getfield 7, 3) := by decide +kernel
theorem dX7_sends_296 : decode cX7_sends 296 = .ok (.iconst 0, 1) := by decide +kernel
theorem dX7_sends_297 : decode cX7_sends 297 = .ok (.iaload, 1) := by decide +kernel
theorem dX7_sends_298 : decode cX7_sends 298 = .ok (.aload_n 0, 1) := by decide +kernel
theorem dX7_sends_299 : decode cX7_sends 299 = .ok (.getfield 7, 3) := by decide +kernel
theorem dX7_sends_302 : decode cX7_sends 302 = .ok (.iload_n 3, 1) := by decide +kernel
theorem dX7_sends_303 : decode cX7_sends 303 = .ok (.bipush 17, 2) := by decide +kernel
theorem dX7_sends_305 : decode cX7_sends 305 = .ok (.invokestatic 35, 3) := by decide +kernel
theorem dX7_sends_308 : decode cX7_sends 308 = .ok (.iaload, 1) := by decide +kernel
theorem dX7_sends_309 : decode cX7_sends 309 = .ok (.iadd, 1) := by decide +kernel
theorem dX7_sends_310 : decode cX7_sends 310 = .ok (.aload_n 0, 1) := by decide +kernel
theorem dX7_sends_311 : decode cX7_sends 311 = .ok (.getfield 7, 3) := by decide +kernel
theorem dX7_sends_314 : decode cX7_sends 314 = .ok (.iload_n 2, 1) := by decide +kernel
theorem dX7_sends_315 : decode cX7_sends 315 = .ok (.iconst 2, 1) := by decide +kernel
theorem dX7_sends_316 : decode cX7_sends 316 = .ok (.invokestatic 59, 3) := by decide +kernel
theorem dX7_sends_319 : decode cX7_sends 319 = .ok (.iaload, 1) := by decide +kernel
theorem dX7_sends_320 : decode cX7_sends 320 = .ok (.iconst 4, 1) := by decide +kernel
theorem dX7_sends_321 : decode cX7_sends 321 = .ok (.irem, 1) := by decide +kernel
theorem dX7_sends_322 : decode cX7_sends 322 = .ok (.iadd, 1) := by decide +kernel
theorem dX7_sends_323 : decode cX7_sends 323 = .ok (.iastore, 1) := by decide +kernel
theorem dX7_sends_324 : decode cX7_sends 324 = .ok (.aload_n 0, 1) := by decide +kernel
theorem dX7_sends_325 : decode cX7_sends 325 = .ok (.getfield 7, 3) := by decide +kernel
theorem dX7_sends_328 : decode cX7_sends 328 = .ok (.iload_n 3, 1) := by decide +kernel
theorem dX7_sends_329 : decode cX7_sends 329 = .ok (.bipush 20, 2) := by decide +kernel
theorem dX7_sends_331 : decode cX7_sends 331 = .ok (.aload_n 0, 1) := by decide +kernel
theorem dX7_sends_332 : decode cX7_sends 332 = .ok (.getfield 7, 3) := by decide +kernel
theorem dX7_sends_335 : decode cX7_sends 335 = .ok (.iload_n 3, 1) := by decide +kernel
theorem dX7_sends_336 : decode cX7_sends 336 = .ok (.bipush 19, 2) := by decide +kernel
theorem dX7_sends_338 : decode cX7_sends 338 = .ok (.invokestatic 35, 3) := by decide +kernel
theorem dX7_sends_341 : decode cX7_sends 341 = .ok (.iaload, 1) := by decide +kernel
theorem dX7_sends_342 : decode cX7_sends 342 = .ok (.iadd, 1) := by decide +kernel
theorem dX7_sends_343 : decode cX7_sends 343 = .ok (.invokestatic 35, 3) := by decide +kernel
theorem dX7_sends_346 : decode cX7_sends 346 = .ok (.iload_n 2, 1) := by decide +kernel
theorem dX7_sends_347 : decode cX7_sends 347 = .ok (.iastore, 1) := by decide +kernel
theorem dX7_sends_348 : decode cX7_sends 348 = .ok (.aload_n 0, 1) := by decide +kernel
theorem dX7_sends_349 : decode cX7_sends 349 = .ok (.getfield 7, 3) := by decide +kernel
theorem dX7_sends_352 : decode cX7_sends 352 = .ok (.iload_n 3, 1) := by decide +kernel
theorem dX7_sends_353 : decode cX7_sends 353 = .ok (.bipush 19, 2) := by decide +kernel
theorem dX7_sends_355 : decode cX7_sends 355 = .ok (.invokestatic 35, 3) := by decide +kernel
theorem dX7_sends_358 : decode cX7_sends 358 = .ok (.dup2, 1) := by decide +kernel
theorem dX7_sends_359 : decode cX7_sends 359 = .ok (.iaload, 1) := by decide +kernel
theorem dX7_sends_360 : decode cX7_sends 360 = .ok (.iconst 1, 1) := by decide +kernel
theorem dX7_sends_361 : decode cX7_sends 361 = .ok (.iadd, 1) := by decide +kernel
theorem dX7_sends_362 : decode cX7_sends 362 = .ok (.iastore, 1) := by decide +kernel
theorem dX7_sends_363 : decode cX7_sends 363 = .ok (.aload_n 0, 1) := by decide +kernel
theorem dX7_sends_364 : decode cX7_sends 364 = .ok (.getfield 7, 3) := by decide +kernel
theorem dX7_sends_367 : decode cX7_sends 367 = .ok (.bipush 9, 2) := by decide +kernel
theorem dX7_sends_369 : decode cX7_sends 369 = .ok (.dup2, 1) := by decide +kernel
theorem dX7_sends_370 : decode cX7_sends 370 = .ok (.iaload, 1) := by decide +kernel
theorem dX7_sends_371 : decode cX7_sends 371 = .ok (.iconst 1, 1) := by decide +kernel
theorem dX7_sends_372 : decode cX7_sends 372 = .ok (.iadd, 1) := by decide +kernel
theorem dX7_sends_373 : decode cX7_sends 373 = .ok (.iastore, 1) := by decide +kernel
theorem dX7_sends_374 : decode cX7_sends 374 = .ok (.iconst 0, 1) := by decide +kernel
theorem dX7_sends_375 : decode cX7_sends 375 = .ok (.ireturn, 1) := by decide +kernel
theorem dX7_tick_0 : decode cX7_tick 0 = .ok (.aload_n 0, 1) := by decide +kernel
theorem dX7_tick_1 : decode cX7_tick 1 = .ok (.invokevirtual 109, 3) := by decide +kernel
theorem dX7_tick_4 : decode cX7_tick 4 = .ok (.aload_n 0, 1) := by decide +kernel
theorem dX7_tick_5 : decode cX7_tick 5 = .ok (.invokevirtual 112, 3) := by decide +kernel
theorem dX7_tick_8 : decode cX7_tick 8 = .ok (.istore_n 1, 1) := by decide +kernel
theorem dX7_tick_9 : decode cX7_tick 9 = .ok (.aload_n 0, 1) := by decide +kernel
theorem dX7_tick_10 : decode cX7_tick 10 = .ok (.invokevirtual 115, 3) := by decide +kernel
theorem dX7_tick_13 : decode cX7_tick 13 = .ok (.istore_n 2, 1) := by decide +kernel
theorem dX7_tick_14 : decode cX7_tick 14 = .ok (.aload_n 0, 1) := by decide +kernel
theorem dX7_tick_15 : decode cX7_tick 15 = .ok (.getfield 7, 3) := by decide +kernel
theorem dX7_tick_18 : decode cX7_tick 18 = .ok (.iconst 2, 1) := by decide +kernel
theorem dX7_tick_19 : decode cX7_tick 19 = .ok (.iaload, 1) := by decide +kernel
theorem dX7_tick_20 : decode cX7_tick 20 = .ok (.ifCond .eq 22, 3) := by decide +kernel
theorem dX7_tick_23 : decode cX7_tick 23 = .ok (.aload_n 0, 1) := by decide +kernel
theorem dX7_tick_24 : decode cX7_tick 24 = .ok (.getfield 7, 3) := by decide +kernel
theorem dX7_tick_27 : decode cX7_tick 27 = .ok (.iconst 2, 1) := by decide +kernel
theorem dX7_tick_28 : decode cX7_tick 28 = .ok (.iaload, 1) := by decide +kernel
theorem dX7_tick_29 : decode cX7_tick 29 = .ok (.iconst 2, 1) := by decide +kernel
theorem dX7_tick_30 : decode cX7_tick 30 = .ok (.if_icmp .ne 16, 3) := by decide +kernel
theorem dX7_tick_33 : decode cX7_tick 33 = .ok (.aload_n 0, 1) := by decide +kernel
theorem dX7_tick_34 : decode cX7_tick 34 = .ok (.getfield 7, 3) := by decide +kernel
theorem dX7_tick_37 : decode cX7_tick 37 = .ok (.iconst 5, 1) := by decide +kernel
theorem dX7_tick_38 : decode cX7_tick 38 = .ok (.iaload, 1) := by decide +kernel
theorem dX7_tick_39 : decode cX7_tick 39 = .ok (.ifCond .ne 7, 3) := by decide +kernel
theorem dX7_tick_42 : decode cX7_tick 42 = .ok (.iconst 1, 1) := by decide +kernel
theorem dX7_tick_43 : decode cX7_tick 43 = .ok (.goto 4, 3) := by decide +kernel
theorem dX7_tick_46 : decode cX7_tick 46 = .ok (.iconst 0, 1) := by decide +kernel
theorem dX7_tick_47 : decode cX7_tick 47 = .ok (.istore_n 3, 1) := by decide +kernel
theorem dX7_tick_48 : decode cX7_tick 48 = .ok (.iload_n 1, 1) := by decide +kernel
theorem dX7_tick_49 : decode cX7_tick 49 = .ok (.bipush (-5), 2) := by decide +kernel
theorem dX7_tick_51 : decode cX7_tick 51 = .ok (.if_icmp .eq 17, 3) := by decide +kernel
theorem dX7_tick_54 : decode cX7_tick 54 = .ok (.iload_n 3, 1) := by decide +kernel
theorem dX7_tick_55 : decode cX7_tick 55 = .ok (.ifCond .ne 9, 3) := by decide +kernel
theorem dX7_tick_58 : decode cX7_tick 58 = .ok (.iload_n 2, 1) := by decide +kernel
theorem dX7_tick_59 : decode cX7_tick 59 = .ok (.bipush (-5), 2) := by decide +kernel
theorem dX7_tick_61 : decode cX7_tick 61 = .ok (.if_icmp .ne 7, 3) := by decide +kernel
theorem dX7_tick_64 : decode cX7_tick 64 = .ok (.iconst 1, 1) := by decide +kernel
theorem dX7_tick_65 : decode cX7_tick 65 = .ok (.goto 4, 3) := by decide +kernel
theorem dX7_tick_68 : decode cX7_tick 68 = .ok (.iconst 0, 1) := by decide +kernel
theorem dX7_tick_69 : decode cX7_tick 69 = .ok (.istore 4, 2) := by decide +kernel
theorem dX7_tick_71 : decode cX7_tick 71 = .ok (.aload_n 0, 1) := by decide +kernel
theorem dX7_tick_72 : decode cX7_tick 72 = .ok (.bipush (-5), 2) := by decide +kernel
theorem dX7_tick_74 : decode cX7_tick 74 = .ok (.putfield 106, 3) := by decide +kernel
theorem dX7_tick_77 : decode cX7_tick 77 = .ok (.iload 4, 2) := by decide +kernel
theorem dX7_tick_79 : decode cX7_tick 79 = .ok (.ifCond .eq 11, 3) := by decide +kernel
theorem dX7_tick_82 : decode cX7_tick 82 = .ok (.aload_n 0, 1) := by decide +kernel
theorem dX7_tick_83 : decode cX7_tick 83 = .ok (.iload_n 1, 1) := by decide +kernel
theorem dX7_tick_84 : decode cX7_tick 84 = .ok (.invokevirtual 118, 3) := by decide +kernel
theorem dX7_tick_87 : decode cX7_tick 87 = .ok (.goto 19, 3) := by decide +kernel
theorem dX7_tick_90 : decode cX7_tick 90 = .ok (.iload_n 2, 1) := by decide +kernel
theorem dX7_tick_91 : decode cX7_tick 91 = .ok (.bipush (-5), 2) := by decide +kernel
theorem dX7_tick_93 : decode cX7_tick 93 = .ok (.if_icmp .eq 11, 3) := by decide +kernel
theorem dX7_tick_96 : decode cX7_tick 96 = .ok (.aload_n 0, 1) := by decide +kernel
theorem dX7_tick_97 : decode cX7_tick 97 = .ok (.iload_n 2, 1) := by decide +kernel
theorem dX7_tick_98 : decode cX7_tick 98 = .ok (.invokevirtual 121, 3) := by decide +kernel
theorem dX7_tick_101 : decode cX7_tick 101 = .ok (.goto 5, 3) := by decide +kernel
theorem dX7_tick_104 : decode cX7_tick 104 = .ok (.bipush (-5), 2) := by decide +kernel
theorem dX7_tick_106 : decode cX7_tick 106 = .ok (.istore 5, 2) := by decide +kernel
theorem dX7_tick_108 : decode cX7_tick 108 = .ok (.aload_n 0, 1) := by decide +kernel
theorem dX7_tick_109 : decode cX7_tick 109 = .ok (.getfield 7, 3) := by decide +kernel
theorem dX7_tick_112 : decode cX7_tick 112 = .ok (.bipush 11, 2) := by decide +kernel
theorem dX7_tick_114 : decode cX7_tick 114 = .ok (.dup2, 1) := by decide +kernel
theorem dX7_tick_115 : decode cX7_tick 115 = .ok (.iaload, 1) := by decide +kernel
theorem dX7_tick_116 : decode cX7_tick 116 = .ok (.iload 5, 2) := by decide +kernel
theorem dX7_tick_118 : decode cX7_tick 118 = .ok (.bipush (-5), 2) := by decide +kernel
theorem dX7_tick_120 : decode cX7_tick 120 = .ok (.if_icmp .ne 7, 3) := by decide +kernel
theorem dX7_tick_123 : decode cX7_tick 123 = .ok (.iconst 1, 1) := by decide +kernel
theorem dX7_tick_124 : decode cX7_tick 124 = .ok (.goto 4, 3) := by decide +kernel
theorem dX7_tick_127 : decode cX7_tick 127 = .ok (.iconst 0, 1) := by decide +kernel
theorem dX7_tick_128 : decode cX7_tick 128 = .ok (.iadd, 1) := by decide +kernel
theorem dX7_tick_129 : decode cX7_tick 129 = .ok (.iastore, 1) := by decide +kernel
theorem dX7_tick_130 : decode cX7_tick 130 = .ok (.iconst 0, 1) := by decide +kernel
theorem dX7_tick_131 : decode cX7_tick 131 = .ok (.istore 6, 2) := by decide +kernel
theorem dX7_tick_133 : decode cX7_tick 133 = .ok (.iload 6, 2) := by decide +kernel
theorem dX7_tick_135 : decode cX7_tick 135 = .ok (.iconst 4, 1) := by decide +kernel
theorem dX7_tick_136 : decode cX7_tick 136 = .ok (.if_icmp .ge 76, 3) := by decide +kernel
theorem dX7_tick_139 : decode cX7_tick 139 = .ok (.aload_n 0, 1) := by decide +kernel
theorem dX7_tick_140 : decode cX7_tick 140 = .ok (.getfield 7, 3) := by decide +kernel
theorem dX7_tick_143 : decode cX7_tick 143 = .ok (.iload 6, 2) := by decide +kernel
theorem dX7_tick_145 : decode cX7_tick 145 = .ok (.iconst 0, 1) := by decide +kernel
theorem dX7_tick_146 : decode cX7_tick 146 = .ok (.invokestatic 31, 3) := by decide +kernel
theorem dX7_tick_149 : decode cX7_tick 149 = .ok (.iaload, 1) := by decide +kernel
theorem dX7_tick_150 : decode cX7_tick 150 = .ok (.ifCond .eq 14, 3) := by decide +kernel
theorem dX7_tick_153 : decode cX7_tick 153 = .ok (.iload 5, 2) := by decide +kernel
theorem dX7_tick_155 : decode cX7_tick 155 = .ok (.ifCond .ne 13, 3) := by decide +kernel
theorem dX7_tick_158 : decode cX7_tick 158 = .ok (.iload 6, 2) := by decide +kernel
theorem dX7_tick_160 : decode cX7_tick 160 = .ok (.iload_n 2, 1) := by decide +kernel
theorem dX7_tick_161 : decode cX7_tick 161 = .ok (.if_icmp .ne 7, 3) := by decide +kernel
theorem dX7_tick_164 : decode cX7_tick 164 = .ok (.iconst 1, 1) := by decide +kernel
theorem dX7_tick_165 : decode cX7_tick 165 = .ok (.goto 4, 3) := by decide +kernel
theorem dX7_tick_168 : decode cX7_tick 168 = .ok (.iconst 0, 1) := by decide +kernel
theorem dX7_tick_169 : decode cX7_tick 169 = .ok (.istore 7, 2) := by decide +kernel
theorem dX7_tick_171 : decode cX7_tick 171 = .ok (.aload_n 0, 1) := by decide +kernel
theorem dX7_tick_172 : decode cX7_tick 172 = .ok (.getfield 7, 3) := by decide +kernel
theorem dX7_tick_175 : decode cX7_tick 175 = .ok (.iload 6, 2) := by decide +kernel
theorem dX7_tick_177 : decode cX7_tick 177 = .ok (.bipush 10, 2) := by decide +kernel
theorem dX7_tick_179 : decode cX7_tick 179 = .ok (.invokestatic 31, 3) := by decide +kernel
theorem dX7_tick_182 : decode cX7_tick 182 = .ok (.iload 7, 2) := by decide +kernel
theorem dX7_tick_184 : decode cX7_tick 184 = .ok (.ifCond .eq 7, 3) := by decide +kernel
theorem dX7_tick_187 : decode cX7_tick 187 = .ok (.iconst 0, 1) := by decide +kernel
theorem dX7_tick_188 : decode cX7_tick 188 = .ok (.goto 17, 3) := by decide +kernel
theorem dX7_tick_191 : decode cX7_tick 191 = .ok (.aload_n 0, 1) := by decide +kernel
theorem dX7_tick_192 : decode cX7_tick 192 = .ok (.getfield 7, 3) := by decide +kernel
theorem dX7_tick_195 : decode cX7_tick 195 = .ok (.iload 6, 2) := by decide +kernel
theorem dX7_tick_197 : decode cX7_tick 197 = .ok (.bipush 10, 2) := by decide +kernel
theorem dX7_tick_199 : decode cX7_tick 199 = .ok (.invokestatic 31, 3) := by decide +kernel
theorem dX7_tick_202 : decode cX7_tick 202 = .ok (.iaload, 1) := by decide +kernel
theorem dX7_tick_203 : decode cX7_tick 203 = .ok (.iconst 1, 1) := by decide +kernel
theorem dX7_tick_204 : decode cX7_tick 204 = .ok (.iadd, 1) := by decide +kernel
theorem dX7_tick_205 : decode cX7_tick 205 = .ok (.iastore, 1) := by decide +kernel
theorem dX7_tick_206 : decode cX7_tick 206 = .ok (.iinc 6 1, 3) := by decide +kernel
theorem dX7_tick_209 : decode cX7_tick 209 = .ok (.goto (-76), 3) := by decide +kernel
theorem dX7_tick_212 : decode cX7_tick 212 = .ok (.aload_n 0, 1) := by decide +kernel
theorem dX7_tick_213 : decode cX7_tick 213 = .ok (.getfield 7, 3) := by decide +kernel
theorem dX7_tick_216 : decode cX7_tick 216 = .ok (.iconst 0, 1) := by decide +kernel
theorem dX7_tick_217 : decode cX7_tick 217 = .ok (.dup2, 1) := by decide +kernel
theorem dX7_tick_218 : decode cX7_tick 218 = .ok (.iaload, 1) := by decide +kernel
theorem dX7_tick_219 : decode cX7_tick 219 = .ok (.iconst 1, 1) := by decide +kernel
theorem dX7_tick_220 : decode cX7_tick 220 = .ok (.iadd, 1) := by decide +kernel
theorem dX7_tick_221 : decode cX7_tick 221 = .ok (.iastore, 1) := by decide +kernel
theorem dX7_tick_222 : decode cX7_tick 222 = .ok (.iload 5, 2) := by decide +kernel
theorem dX7_tick_224 : decode cX7_tick 224 = .ok (.ireturn, 1) := by decide +kernel
theorem dX7_pass_0 : decode cX7_pass 0 = .ok (.iload_n 1, 1) := by decide +kernel
theorem dX7_pass_1 : decode cX7_pass 1 = .ok (.iconst 1, 1) := by decide +kernel
theorem dX7_pass_2 : decode cX7_pass 2 = .ok (.bipush 99, 2) := by decide +kernel
theorem dX7_pass_4 : decode cX7_pass 4 = .ok (.invokestatic 38, 3) := by decide +kernel
theorem dX7_pass_7 : decode cX7_pass 7 = .ok (.ifCond .ne 6, 3) := by decide +kernel
theorem dX7_pass_10 : decode cX7_pass 10 = .ok (.bipush (-2), 2) := by decide +kernel
theorem dX7_pass_12 : decode cX7_pass 12 = .ok (.ireturn, 1) := by decide +kernel
theorem dX7_pass_13 : decode cX7_pass 13 = .ok (.aload_n 0, 1) := by decide +kernel
theorem dX7_pass_14 : decode cX7_pass 14 = .ok (.getfield 7, 3) := by decide +kernel
theorem dX7_pass_17 : decode cX7_pass 17 = .ok (.iconst 0, 1) := by decide +kernel
theorem dX7_pass_18 : decode cX7_pass 18 = .ok (.iaload, 1) := by decide +kernel
theorem dX7_pass_19 : decode cX7_pass 19 = .ok (.iload_n 1, 1) := by decide +kernel
theorem dX7_pass_20 : decode cX7_pass 20 = .ok (.iadd, 1) := by decide +kernel
theorem dX7_pass_21 : decode cX7_pass 21 = .ok (.sipush 9999, 3) := by decide +kernel
theorem dX7_pass_24 : decode cX7_pass 24 = .ok (.if_icmp .le 6, 3) := by decide +kernel
theorem dX7_pass_27 : decode cX7_pass 27 = .ok (.bipush (-3), 2) := by decide +kernel
theorem dX7_pass_29 : decode cX7_pass 29 = .ok (.ireturn, 1) := by decide +kernel
theorem dX7_pass_30 : decode cX7_pass 30 = .ok (.aload_n 0, 1) := by decide +kernel
theorem dX7_pass_31 : decode cX7_pass 31 = .ok (.invokevirtual 46, 3) := by decide +kernel
theorem dX7_pass_34 : decode cX7_pass 34 = .ok (.iconst 0, 1) := by decide +kernel
theorem dX7_pass_35 : decode cX7_pass 35 = .ok (.istore_n 2, 1) := by decide +kernel
theorem dX7_pass_36 : decode cX7_pass 36 = .ok (.iconst 0, 1) := by decide +kernel
theorem dX7_pass_37 : decode cX7_pass 37 = .ok (.istore_n 3, 1) := by decide +kernel
theorem dX7_pass_38 : decode cX7_pass 38 = .ok (.iload_n 3, 1) := by decide +kernel
theorem dX7_pass_39 : decode cX7_pass 39 = .ok (.iload_n 1, 1) := by decide +kernel
theorem dX7_pass_40 : decode cX7_pass 40 = .ok (.if_icmp .ge 26, 3) := by decide +kernel
theorem dX7_pass_43 : decode cX7_pass 43 = .ok (.iload_n 2, 1) := by decide +kernel
theorem dX7_pass_44 : decode cX7_pass 44 = .ok (.aload_n 0, 1) := by decide +kernel
theorem dX7_pass_45 : decode cX7_pass 45 = .ok (.invokevirtual 124, 3) := by decide +kernel
theorem dX7_pass_48 : decode cX7_pass 48 = .ok (.bipush (-5), 2) := by decide +kernel
theorem dX7_pass_50 : decode cX7_pass 50 = .ok (.if_icmp .ne 7, 3) := by decide +kernel
theorem dX7_pass_53 : decode cX7_pass 53 = .ok (.iconst 0, 1) := by decide +kernel
theorem dX7_pass_54 : decode cX7_pass 54 = .ok (.goto 4, 3) := by decide +kernel
theorem dX7_pass_57 : decode cX7_pass 57 = .ok (.iconst 1, 1) := by decide +kernel
theorem dX7_pass_58 : decode cX7_pass 58 = .ok (.iadd, 1) := by decide +kernel
theorem dX7_pass_59 : decode cX7_pass 59 = .ok (.istore_n 2, 1) := by decide +kernel
theorem dX7_pass_60 : decode cX7_pass 60 = .ok (.iinc 3 1, 3) := by decide +kernel
theorem dX7_pass_63 : decode cX7_pass 63 = .ok (.goto (-25), 3) := by decide +kernel
theorem dX7_pass_66 : decode cX7_pass 66 = .ok (.iload_n 2, 1) := by decide +kernel
theorem dX7_pass_67 : decode cX7_pass 67 = .ok (.ireturn, 1) := by decide +kernel
theorem dX7_undo_0 : decode cX7_undo 0 = .ok (.aload_n 0, 1) := by decide +kernel
theorem dX7_undo_1 : decode cX7_undo 1 = .ok (.getfield 42, 3) := by decide +kernel
theorem dX7_undo_4 : decode cX7_undo 4 = .ok (.ifCond .ne 6, 3) := by decide +kernel
theorem dX7_undo_7 : decode cX7_undo 7 = .ok (.bipush (-5), 2) := by decide +kernel
theorem dX7_undo_9 : decode cX7_undo 9 = .ok (.ireturn, 1) := by decide +kernel
theorem dX7_undo_10 : decode cX7_undo 10 = .ok (.aload_n 0, 1) := by decide +kernel
theorem dX7_undo_11 : decode cX7_undo 11 = .ok (.dup, 1) := by decide +kernel
theorem dX7_undo_12 : decode cX7_undo 12 = .ok (.getfield 42, 3) := by decide +kernel
theorem dX7_undo_15 : decode cX7_undo 15 = .ok (.iconst 1, 1) := by decide +kernel
theorem dX7_undo_16 : decode cX7_undo 16 = .ok (.isub, 1) := by decide +kernel
theorem dX7_undo_17 : decode cX7_undo 17 = .ok (.putfield 42, 3) := by decide +kernel
theorem dX7_undo_20 : decode cX7_undo 20 = .ok (.iconst 0, 1) := by decide +kernel
theorem dX7_undo_21 : decode cX7_undo 21 = .ok (.istore_n 1, 1) := by decide +kernel
theorem dX7_undo_22 : decode cX7_undo 22 = .ok (.iload_n 1, 1) := by decide +kernel
theorem dX7_undo_23 : decode cX7_undo 23 = .ok (.sipush 2361, 3) := by decide +kernel
theorem dX7_undo_26 : decode cX7_undo 26 = .ok (.if_icmp .ge 30, 3) := by decide +kernel
theorem dX7_undo_29 : decode cX7_undo 29 = .ok (.aload_n 0, 1) := by decide +kernel
theorem dX7_undo_30 : decode cX7_undo 30 = .ok (.getfield 7, 3) := by decide +kernel
theorem dX7_undo_33 : decode cX7_undo 33 = .ok (.iload_n 1, 1) := by decide +kernel
theorem dX7_undo_34 : decode cX7_undo 34 = .ok (.aload_n 0, 1) := by decide +kernel
theorem dX7_undo_35 : decode cX7_undo 35 = .ok (.getfield 16, 3) := by decide +kernel
theorem dX7_undo_38 : decode cX7_undo 38 = .ok (.sipush 2361, 3) := by decide +kernel
theorem dX7_undo_41 : decode cX7_undo 41 = .ok (.aload_n 0, 1) := by decide +kernel
theorem dX7_undo_42 : decode cX7_undo 42 = .ok (.getfield 42, 3) := by decide +kernel
theorem dX7_undo_45 : decode cX7_undo 45 = .ok (.imul, 1) := by decide +kernel
theorem dX7_undo_46 : decode cX7_undo 46 = .ok (.iload_n 1, 1) := by decide +kernel
theorem dX7_undo_47 : decode cX7_undo 47 = .ok (.iadd, 1) := by decide +kernel
theorem dX7_undo_48 : decode cX7_undo 48 = .ok (.iaload, 1) := by decide +kernel
theorem dX7_undo_49 : decode cX7_undo 49 = .ok (.iastore, 1) := by decide +kernel
theorem dX7_undo_50 : decode cX7_undo 50 = .ok (.iinc 1 1, 3) := by decide +kernel
theorem dX7_undo_53 : decode cX7_undo 53 = .ok (.goto (-31), 3) := by decide +kernel
theorem dX7_undo_56 : decode cX7_undo 56 = .ok (.aload_n 0, 1) := by decide +kernel
theorem dX7_undo_57 : decode cX7_undo 57 = .ok (.getfield 42, 3) := by decide +kernel
theorem dX7_undo_60 : decode cX7_undo 60 = .ok (.ireturn, 1) := by decide +kernel
theorem dX7_keep_0 : decode cX7_keep 0 = .ok (.iconst 0, 1) := by decide +kernel
theorem dX7_keep_1 : decode cX7_keep 1 = .ok (.istore_n 1, 1) := by decide +kernel
theorem dX7_keep_2 : decode cX7_keep 2 = .ok (.iload_n 1, 1) := by decide +kernel
theorem dX7_keep_3 : decode cX7_keep 3 = .ok (.sipush 2361, 3) := by decide +kernel
theorem dX7_keep_6 : decode cX7_keep 6 = .ok (.if_icmp .ge 21, 3) := by decide +kernel
theorem dX7_keep_9 : decode cX7_keep 9 = .ok (.aload_n 0, 1) := by decide +kernel
theorem dX7_keep_10 : decode cX7_keep 10 = .ok (.getfield 19, 3) := by decide +kernel
theorem dX7_keep_13 : decode cX7_keep 13 = .ok (.iload_n 1, 1) := by decide +kernel
theorem dX7_keep_14 : decode cX7_keep 14 = .ok (.aload_n 0, 1) := by decide +kernel
theorem dX7_keep_15 : decode cX7_keep 15 = .ok (.getfield 7, 3) := by decide +kernel
theorem dX7_keep_18 : decode cX7_keep 18 = .ok (.iload_n 1, 1) := by decide +kernel
theorem dX7_keep_19 : decode cX7_keep 19 = .ok (.iaload, 1) := by decide +kernel
theorem dX7_keep_20 : decode cX7_keep 20 = .ok (.iastore, 1) := by decide +kernel
theorem dX7_keep_21 : decode cX7_keep 21 = .ok (.iinc 1 1, 3) := by decide +kernel
theorem dX7_keep_24 : decode cX7_keep 24 = .ok (.goto (-22), 3) := by decide +kernel
theorem dX7_keep_27 : decode cX7_keep 27 = .ok (.aload_n 0, 1) := by decide +kernel
theorem dX7_keep_28 : decode cX7_keep 28 = .ok (.iconst 1, 1) := by decide +kernel
theorem dX7_keep_29 : decode cX7_keep 29 = .ok (.putfield 127, 3) := by decide +kernel
theorem dX7_keep_32 : decode cX7_keep 32 = .ok (.aload_n 0, 1) := by decide +kernel
theorem dX7_keep_33 : decode cX7_keep 33 = .ok (.getfield 7, 3) := by decide +kernel
theorem dX7_keep_36 : decode cX7_keep 36 = .ok (.iconst 0, 1) := by decide +kernel
theorem dX7_keep_37 : decode cX7_keep 37 = .ok (.iaload, 1) := by decide +kernel
theorem dX7_keep_38 : decode cX7_keep 38 = .ok (.ireturn, 1) := by decide +kernel
theorem dX7_restore_0 : decode cX7_restore 0 = .ok (.aload_n 0, 1) := by decide +kernel
theorem dX7_restore_1 : decode cX7_restore 1 = .ok (.getfield 127, 3) := by decide +kernel
theorem dX7_restore_4 : decode cX7_restore 4 = .ok (.ifCond .ne 6, 3) := by decide +kernel
theorem dX7_restore_7 : decode cX7_restore 7 = .ok (.bipush (-5), 2) := by decide +kernel
theorem dX7_restore_9 : decode cX7_restore 9 = .ok (.ireturn, 1) := by decide +kernel
theorem dX7_restore_10 : decode cX7_restore 10 = .ok (.aload_n 0, 1) := by decide +kernel
theorem dX7_restore_11 : decode cX7_restore 11 = .ok (.invokevirtual 46, 3) := by decide +kernel
theorem dX7_restore_14 : decode cX7_restore 14 = .ok (.iconst 0, 1) := by decide +kernel
theorem dX7_restore_15 : decode cX7_restore 15 = .ok (.istore_n 1, 1) := by decide +kernel
theorem dX7_restore_16 : decode cX7_restore 16 = .ok (.iload_n 1, 1) := by decide +kernel
theorem dX7_restore_17 : decode cX7_restore 17 = .ok (.sipush 2361, 3) := by decide +kernel
theorem dX7_restore_20 : decode cX7_restore 20 = .ok (.if_icmp .ge 21, 3) := by decide +kernel
theorem dX7_restore_23 : decode cX7_restore 23 = .ok (.aload_n 0, 1) := by decide +kernel
theorem dX7_restore_24 : decode cX7_restore 24 = .ok (.getfield 7, 3) := by decide +kernel
theorem dX7_restore_27 : decode cX7_restore 27 = .ok (.iload_n 1, 1) := by decide +kernel
theorem dX7_restore_28 : decode cX7_restore 28 = .ok (.aload_n 0, 1) := by decide +kernel
theorem dX7_restore_29 : decode cX7_restore 29 = .ok (.getfield 19, 3) := by decide +kernel
theorem dX7_restore_32 : decode cX7_restore 32 = .ok (.iload_n 1, 1) := by decide +kernel
theorem dX7_restore_33 : decode cX7_restore 33 = .ok (.iaload, 1) := by decide +kernel
theorem dX7_restore_34 : decode cX7_restore 34 = .ok (.iastore, 1) := by decide +kernel
theorem dX7_restore_35 : decode cX7_restore 35 = .ok (.iinc 1 1, 3) := by decide +kernel
theorem dX7_restore_38 : decode cX7_restore 38 = .ok (.goto (-22), 3) := by decide +kernel
theorem dX7_restore_41 : decode cX7_restore 41 = .ok (.aload_n 0, 1) := by decide +kernel
theorem dX7_restore_42 : decode cX7_restore 42 = .ok (.getfield 7, 3) := by decide +kernel
theorem dX7_restore_45 : decode cX7_restore 45 = .ok (.iconst 0, 1) := by decide +kernel
theorem dX7_restore_46 : decode cX7_restore 46 = .ok (.iaload, 1) := by decide +kernel
theorem dX7_restore_47 : decode cX7_restore 47 = .ok (.ireturn, 1) := by decide +kernel
theorem dX7_isQuestion_0 : decode cX7_isQuestion 0 = .ok (.iload_n 1, 1) := by decide +kernel
theorem dX7_isQuestion_1 : decode cX7_isQuestion 1 = .ok (.iconst 0, 1) := by decide +kernel
theorem dX7_isQuestion_2 : decode cX7_isQuestion 2 = .ok (.aload_n 0, 1) := by decide +kernel
theorem dX7_isQuestion_3 : decode cX7_isQuestion 3 = .ok (.getfield 7, 3) := by decide +kernel
theorem dX7_isQuestion_6 : decode cX7_isQuestion 6 = .ok (.iconst 4, 1) := by decide +kernel
theorem dX7_isQuestion_7 : decode cX7_isQuestion 7 = .ok (.iaload, 1) := by decide +kernel
theorem dX7_isQuestion_8 : decode cX7_isQuestion 8 = .ok (.iconst 1, 1) := by decide +kernel
theorem dX7_isQuestion_9 : decode cX7_isQuestion 9 = .ok (.isub, 1) := by decide +kernel
theorem dX7_isQuestion_10 : decode cX7_isQuestion 10 = .ok (.invokestatic 38, 3) := by decide +kernel
theorem dX7_isQuestion_13 : decode cX7_isQuestion 13 = .ok (.ireturn, 1) := by decide +kernel
theorem dX7_question__0 : decode cX7_question_ 0 = .ok (.aload_n 0, 1) := by decide +kernel
theorem dX7_question__1 : decode cX7_question_ 1 = .ok (.iload_n 1, 1) := by decide +kernel
theorem dX7_question__2 : decode cX7_question_ 2 = .ok (.invokevirtual 130, 3) := by decide +kernel
theorem dX7_question__5 : decode cX7_question_ 5 = .ok (.ifCond .ne 5, 3) := by decide +kernel
theorem dX7_question__8 : decode cX7_question_ 8 = .ok (.iconst (-1), 1) := by decide +kernel
theorem dX7_question__9 : decode cX7_question_ 9 = .ok (.ireturn, 1) := by decide +kernel
theorem dX7_question__10 : decode cX7_question_ 10 = .ok (.iload_n 2, 1) := by decide +kernel
theorem dX7_question__11 : decode cX7_question_ 11 = .ok (.iconst 0, 1) := by decide +kernel
theorem dX7_question__12 : decode cX7_question_ 12 = .ok (.bipush 8, 2) := by decide +kernel
theorem dX7_question__14 : decode cX7_question_ 14 = .ok (.invokestatic 38, 3) := by decide +kernel
theorem dX7_question__17 : decode cX7_question_ 17 = .ok (.ifCond .ne 6, 3) := by decide +kernel
theorem dX7_question__20 : decode cX7_question_ 20 = .ok (.bipush (-2), 2) := by decide +kernel
theorem dX7_question__22 : decode cX7_question_ 22 = .ok (.ireturn, 1) := by decide +kernel
theorem dX7_question__23 : decode cX7_question_ 23 = .ok (.iload_n 2, 1) := by decide +kernel
theorem dX7_question__24 : decode cX7_question_ 24 = .ok (.bipush 7, 2) := by decide +kernel
theorem dX7_question__26 : decode cX7_question_ 26 = .ok (.if_icmp .ne 17, 3) := by decide +kernel
theorem dX7_question__29 : decode cX7_question_ 29 = .ok (.aload_n 0, 1) := by decide +kernel
theorem dX7_question__30 : decode cX7_question_ 30 = .ok (.getfield 7, 3) := by decide +kernel
theorem dX7_question__33 : decode cX7_question_ 33 = .ok (.iload_n 1, 1) := by decide +kernel
theorem dX7_question__34 : decode cX7_question_ 34 = .ok (.bipush 8, 2) := by decide +kernel
theorem dX7_question__36 : decode cX7_question_ 36 = .ok (.invokestatic 59, 3) := by decide +kernel
theorem dX7_question__39 : decode cX7_question_ 39 = .ok (.iaload, 1) := by decide +kernel
theorem dX7_question__40 : decode cX7_question_ 40 = .ok (.goto 33, 3) := by decide +kernel
theorem dX7_question__43 : decode cX7_question_ 43 = .ok (.iload_n 2, 1) := by decide +kernel
theorem dX7_question__44 : decode cX7_question_ 44 = .ok (.bipush 8, 2) := by decide +kernel
theorem dX7_question__46 : decode cX7_question_ 46 = .ok (.if_icmp .ne 17, 3) := by decide +kernel
theorem dX7_question__49 : decode cX7_question_ 49 = .ok (.aload_n 0, 1) := by decide +kernel
theorem dX7_question__50 : decode cX7_question_ 50 = .ok (.getfield 7, 3) := by decide +kernel
theorem dX7_question__53 : decode cX7_question_ 53 = .ok (.iload_n 1, 1) := by decide +kernel
theorem dX7_question__54 : decode cX7_question_ 54 = .ok (.bipush 9, 2) := by decide +kernel
theorem dX7_question__56 : decode cX7_question_ 56 = .ok (.invokestatic 59, 3) := by decide +kernel
theorem dX7_question__59 : decode cX7_question_ 59 = .ok (.iaload, 1) := by decide +kernel
theorem dX7_question__60 : decode cX7_question_ 60 = .ok (.goto 13, 3) := by decide +kernel
theorem dX7_question__63 : decode cX7_question_ 63 = .ok (.aload_n 0, 1) := by decide +kernel
theorem dX7_question__64 : decode cX7_question_ 64 = .ok (.getfield 7, 3) := by decide +kernel
theorem dX7_question__67 : decode cX7_question_ 67 = .ok (.iload_n 1, 1) := by decide +kernel
theorem dX7_question__68 : decode cX7_question_ 68 = .ok (.iload_n 2, 1) := by decide +kernel
theorem dX7_question__69 : decode cX7_question_ 69 = .ok (.invokestatic 59, 3) := by decide +kernel
theorem dX7_question__72 : decode cX7_question_ 72 = .ok (.iaload, 1) := by decide +kernel
theorem dX7_question__73 : decode cX7_question_ 73 = .ok (.ireturn, 1) := by decide +kernel
theorem dX7_tag_0 : decode cX7_tag 0 = .ok (.iload_n 1, 1) := by decide +kernel
theorem dX7_tag_1 : decode cX7_tag 1 = .ok (.iconst 0, 1) := by decide +kernel
theorem dX7_tag_2 : decode cX7_tag 2 = .ok (.aload_n 0, 1) := by decide +kernel
theorem dX7_tag_3 : decode cX7_tag 3 = .ok (.getfield 7, 3) := by decide +kernel
theorem dX7_tag_6 : decode cX7_tag 6 = .ok (.iconst 1, 1) := by decide +kernel
theorem dX7_tag_7 : decode cX7_tag 7 = .ok (.iaload, 1) := by decide +kernel
theorem dX7_tag_8 : decode cX7_tag 8 = .ok (.iconst 1, 1) := by decide +kernel
theorem dX7_tag_9 : decode cX7_tag 9 = .ok (.isub, 1) := by decide +kernel
theorem dX7_tag_10 : decode cX7_tag 10 = .ok (.invokestatic 38, 3) := by decide +kernel
theorem dX7_tag_13 : decode cX7_tag 13 = .ok (.ifCond .eq 15, 3) := by decide +kernel
theorem dX7_tag_16 : decode cX7_tag 16 = .ok (.aload_n 0, 1) := by decide +kernel
theorem dX7_tag_17 : decode cX7_tag 17 = .ok (.getfield 7, 3) := by decide +kernel
theorem dX7_tag_20 : decode cX7_tag 20 = .ok (.bipush 13, 2) := by decide +kernel
theorem dX7_tag_22 : decode cX7_tag 22 = .ok (.iload_n 1, 1) := by decide +kernel
theorem dX7_tag_23 : decode cX7_tag 23 = .ok (.iadd, 1) := by decide +kernel
theorem dX7_tag_24 : decode cX7_tag 24 = .ok (.iaload, 1) := by decide +kernel
theorem dX7_tag_25 : decode cX7_tag 25 = .ok (.goto 4, 3) := by decide +kernel
theorem dX7_tag_28 : decode cX7_tag 28 = .ok (.iconst (-1), 1) := by decide +kernel
theorem dX7_tag_29 : decode cX7_tag 29 = .ok (.ireturn, 1) := by decide +kernel
theorem dX7_answered_0 : decode cX7_answered 0 = .ok (.iconst 0, 1) := by decide +kernel
theorem dX7_answered_1 : decode cX7_answered 1 = .ok (.istore_n 3, 1) := by decide +kernel
theorem dX7_answered_2 : decode cX7_answered 2 = .ok (.bipush (-5), 2) := by decide +kernel
theorem dX7_answered_4 : decode cX7_answered 4 = .ok (.istore 4, 2) := by decide +kernel
theorem dX7_answered_6 : decode cX7_answered 6 = .ok (.iconst 0, 1) := by decide +kernel
theorem dX7_answered_7 : decode cX7_answered 7 = .ok (.istore 5, 2) := by decide +kernel
theorem dX7_answered_9 : decode cX7_answered 9 = .ok (.iload 5, 2) := by decide +kernel
theorem dX7_answered_11 : decode cX7_answered 11 = .ok (.aload_n 0, 1) := by decide +kernel
theorem dX7_answered_12 : decode cX7_answered 12 = .ok (.getfield 7, 3) := by decide +kernel
theorem dX7_answered_15 : decode cX7_answered 15 = .ok (.iconst 4, 1) := by decide +kernel
theorem dX7_answered_16 : decode cX7_answered 16 = .ok (.iaload, 1) := by decide +kernel
theorem dX7_answered_17 : decode cX7_answered 17 = .ok (.if_icmp .ge 78, 3) := by decide +kernel
theorem dX7_answered_20 : decode cX7_answered 20 = .ok (.aload_n 0, 1) := by decide +kernel
theorem dX7_answered_21 : decode cX7_answered 21 = .ok (.getfield 7, 3) := by decide +kernel
theorem dX7_answered_24 : decode cX7_answered 24 = .ok (.iload 5, 2) := by decide +kernel
theorem dX7_answered_26 : decode cX7_answered 26 = .ok (.iconst 0, 1) := by decide +kernel
theorem dX7_answered_27 : decode cX7_answered 27 = .ok (.invokestatic 59, 3) := by decide +kernel
theorem dX7_answered_30 : decode cX7_answered 30 = .ok (.iaload, 1) := by decide +kernel
theorem dX7_answered_31 : decode cX7_answered 31 = .ok (.iload_n 1, 1) := by decide +kernel
theorem dX7_answered_32 : decode cX7_answered 32 = .ok (.if_icmp .ne 57, 3) := by decide +kernel
theorem dX7_answered_35 : decode cX7_answered 35 = .ok (.aload_n 0, 1) := by decide +kernel
theorem dX7_answered_36 : decode cX7_answered 36 = .ok (.getfield 7, 3) := by decide +kernel
theorem dX7_answered_39 : decode cX7_answered 39 = .ok (.iload 5, 2) := by decide +kernel
theorem dX7_answered_41 : decode cX7_answered 41 = .ok (.iconst 4, 1) := by decide +kernel
theorem dX7_answered_42 : decode cX7_answered 42 = .ok (.invokestatic 59, 3) := by decide +kernel
theorem dX7_answered_45 : decode cX7_answered 45 = .ok (.iaload, 1) := by decide +kernel
theorem dX7_answered_46 : decode cX7_answered 46 = .ok (.iconst 3, 1) := by decide +kernel
theorem dX7_answered_47 : decode cX7_answered 47 = .ok (.if_icmp .ne 42, 3) := by decide +kernel
theorem dX7_answered_50 : decode cX7_answered 50 = .ok (.iinc 3 1, 3) := by decide +kernel
theorem dX7_answered_53 : decode cX7_answered 53 = .ok (.aload_n 0, 1) := by decide +kernel
theorem dX7_answered_54 : decode cX7_answered 54 = .ok (.getfield 7, 3) := by decide +kernel
theorem dX7_answered_57 : decode cX7_answered 57 = .ok (.iload 5, 2) := by decide +kernel
theorem dX7_answered_59 : decode cX7_answered 59 = .ok (.bipush 8, 2) := by decide +kernel
theorem dX7_answered_61 : decode cX7_answered 61 = .ok (.invokestatic 59, 3) := by decide +kernel
theorem dX7_answered_64 : decode cX7_answered 64 = .ok (.iaload, 1) := by decide +kernel
theorem dX7_answered_65 : decode cX7_answered 65 = .ok (.iload 4, 2) := by decide +kernel
theorem dX7_answered_67 : decode cX7_answered 67 = .ok (.if_icmp .le 18, 3) := by decide +kernel
theorem dX7_answered_70 : decode cX7_answered 70 = .ok (.aload_n 0, 1) := by decide +kernel
theorem dX7_answered_71 : decode cX7_answered 71 = .ok (.getfield 7, 3) := by decide +kernel
theorem dX7_answered_74 : decode cX7_answered 74 = .ok (.iload 5, 2) := by decide +kernel
theorem dX7_answered_76 : decode cX7_answered 76 = .ok (.bipush 8, 2) := by decide +kernel
theorem dX7_answered_78 : decode cX7_answered 78 = .ok (.invokestatic 59, 3) := by decide +kernel
theorem dX7_answered_81 : decode cX7_answered 81 = .ok (.iaload, 1) := by decide +kernel
theorem dX7_answered_82 : decode cX7_answered 82 = .ok (.goto 5, 3) := by decide +kernel
theorem dX7_answered_85 : decode cX7_answered 85 = .ok (.iload 4, 2) := by decide +kernel
theorem dX7_answered_87 : decode cX7_answered 87 = .ok (.istore 4, 2) := by decide +kernel
theorem dX7_answered_89 : decode cX7_answered 89 = .ok (.iinc 5 1, 3) := by decide +kernel
theorem dX7_answered_92 : decode cX7_answered 92 = .ok (.goto (-83), 3) := by decide +kernel
theorem dX7_answered_95 : decode cX7_answered 95 = .ok (.iload_n 2, 1) := by decide +kernel
theorem dX7_answered_96 : decode cX7_answered 96 = .ok (.ifCond .eq 8, 3) := by decide +kernel
theorem dX7_answered_99 : decode cX7_answered 99 = .ok (.iload 4, 2) := by decide +kernel
theorem dX7_answered_101 : decode cX7_answered 101 = .ok (.goto 4, 3) := by decide +kernel
theorem dX7_answered_104 : decode cX7_answered 104 = .ok (.iload_n 3, 1) := by decide +kernel
theorem dX7_answered_105 : decode cX7_answered 105 = .ok (.ireturn, 1) := by decide +kernel
theorem dX7_master_0 : decode cX7_master 0 = .ok (.iload_n 1, 1) := by decide +kernel
theorem dX7_master_1 : decode cX7_master 1 = .ok (.invokestatic 56, 3) := by decide +kernel
theorem dX7_master_4 : decode cX7_master 4 = .ok (.ifCond .ne 5, 3) := by decide +kernel
theorem dX7_master_7 : decode cX7_master 7 = .ok (.iconst (-1), 1) := by decide +kernel
theorem dX7_master_8 : decode cX7_master 8 = .ok (.ireturn, 1) := by decide +kernel
theorem dX7_master_9 : decode cX7_master 9 = .ok (.aload_n 0, 1) := by decide +kernel
theorem dX7_master_10 : decode cX7_master 10 = .ok (.getfield 7, 3) := by decide +kernel
theorem dX7_master_13 : decode cX7_master 13 = .ok (.iload_n 1, 1) := by decide +kernel
theorem dX7_master_14 : decode cX7_master 14 = .ok (.bipush 10, 2) := by decide +kernel
theorem dX7_master_16 : decode cX7_master 16 = .ok (.invokestatic 31, 3) := by decide +kernel
theorem dX7_master_19 : decode cX7_master 19 = .ok (.iaload, 1) := by decide +kernel
theorem dX7_master_20 : decode cX7_master 20 = .ok (.istore_n 3, 1) := by decide +kernel
theorem dX7_master_21 : decode cX7_master 21 = .ok (.iload_n 2, 1) := by decide +kernel
theorem dX7_master_22 : decode cX7_master 22 = .ok (.tableswitch 158 0 8 #[50, 61, 73, 79, 91, 123, 125, 125, 142], 50) := by decide +kernel
theorem dX7_master_72 : decode cX7_master 72 = .ok (.aload_n 0, 1) := by decide +kernel
theorem dX7_master_73 : decode cX7_master 73 = .ok (.getfield 7, 3) := by decide +kernel
theorem dX7_master_76 : decode cX7_master 76 = .ok (.iload_n 1, 1) := by decide +kernel
theorem dX7_master_77 : decode cX7_master 77 = .ok (.iconst 0, 1) := by decide +kernel
theorem dX7_master_78 : decode cX7_master 78 = .ok (.invokestatic 31, 3) := by decide +kernel
theorem dX7_master_81 : decode cX7_master 81 = .ok (.iaload, 1) := by decide +kernel
theorem dX7_master_82 : decode cX7_master 82 = .ok (.ireturn, 1) := by decide +kernel
theorem dX7_master_83 : decode cX7_master 83 = .ok (.aload_n 0, 1) := by decide +kernel
theorem dX7_master_84 : decode cX7_master 84 = .ok (.getfield 7, 3) := by decide +kernel
theorem dX7_master_87 : decode cX7_master 87 = .ok (.iload_n 1, 1) := by decide +kernel
theorem dX7_master_88 : decode cX7_master 88 = .ok (.bipush 7, 2) := by decide +kernel
theorem dX7_master_90 : decode cX7_master 90 = .ok (.invokestatic 31, 3) := by decide +kernel
theorem dX7_master_93 : decode cX7_master 93 = .ok (.iaload, 1) := by decide +kernel
theorem dX7_master_94 : decode cX7_master 94 = .ok (.ireturn, 1) := by decide +kernel
theorem dX7_master_95 : decode cX7_master 95 = .ok (.aload_n 0, 1) := by decide +kernel
theorem dX7_master_96 : decode cX7_master 96 = .ok (.iload_n 1, 1) := by decide +kernel
theorem dX7_master_97 : decode cX7_master 97 = .ok (.invokevirtual 100, 3) := by decide +kernel
theorem dX7_master_100 : decode cX7_master 100 = .ok (.ireturn, 1) := by decide +kernel
theorem dX7_master_101 : decode cX7_master 101 = .ok (.aload_n 0, 1) := by decide +kernel
theorem dX7_master_102 : decode cX7_master 102 = .ok (.getfield 7, 3) := by decide +kernel
theorem dX7_master_105 : decode cX7_master 105 = .ok (.iload_n 1, 1) := by decide +kernel
theorem dX7_master_106 : decode cX7_master 106 = .ok (.bipush 8, 2) := by decide +kernel
theorem dX7_master_108 : decode cX7_master 108 = .ok (.invokestatic 31, 3) := by decide +kernel
theorem dX7_master_111 : decode cX7_master 111 = .ok (.iaload, 1) := by decide +kernel
theorem dX7_master_112 : decode cX7_master 112 = .ok (.ireturn, 1) := by decide +kernel
theorem dX7_master_113 : decode cX7_master 113 = .ok (.aload_n 0, 1) := by decide +kernel
theorem dX7_master_114 : decode cX7_master 114 = .ok (.getfield 7, 3) := by decide +kernel
theorem dX7_master_117 : decode cX7_master 117 = .ok (.iload_n 1, 1) := by decide +kernel
theorem dX7_master_118 : decode cX7_master 118 = .ok (.bipush 9, 2) := by decide +kernel
theorem dX7_master_120 : decode cX7_master 120 = .ok (.invokestatic 31, 3) := by decide +kernel
theorem dX7_master_123 : decode cX7_master 123 = .ok (.iaload, 1) := by decide +kernel
theorem dX7_master_124 : decode cX7_master 124 = .ok (.aload_n 0, 1) := by decide +kernel
theorem dX7_master_125 : decode cX7_master 125 = .ok (.getfield 7, 3) := by decide +kernel
theorem dX7_master_128 : decode cX7_master 128 = .ok (.iconst 0, 1) := by decide +kernel
theorem dX7_master_129 : decode cX7_master 129 = .ok (.iaload, 1) := by decide +kernel
theorem dX7_master_130 : decode cX7_master 130 = .ok (.isub, 1) := by decide +kernel
theorem dX7_master_131 : decode cX7_master 131 = .ok (.istore 4, 2) := by decide +kernel
theorem dX7_master_133 : decode cX7_master 133 = .ok (.iload 4, 2) := by decide +kernel
theorem dX7_master_135 : decode cX7_master 135 = .ok (.ifCond .ge 7, 3) := by decide +kernel
theorem dX7_master_138 : decode cX7_master 138 = .ok (.iconst 0, 1) := by decide +kernel
theorem dX7_master_139 : decode cX7_master 139 = .ok (.goto 5, 3) := by decide +kernel
theorem dX7_master_142 : decode cX7_master 142 = .ok (.iload 4, 2) := by decide +kernel
theorem dX7_master_144 : decode cX7_master 144 = .ok (.ireturn, 1) := by decide +kernel
theorem dX7_master_145 : decode cX7_master 145 = .ok (.iload_n 3, 1) := by decide +kernel
theorem dX7_master_146 : decode cX7_master 146 = .ok (.ireturn, 1) := by decide +kernel
theorem dX7_master_147 : decode cX7_master 147 = .ok (.aload_n 0, 1) := by decide +kernel
theorem dX7_master_148 : decode cX7_master 148 = .ok (.iload_n 1, 1) := by decide +kernel
theorem dX7_master_149 : decode cX7_master 149 = .ok (.iload_n 2, 1) := by decide +kernel
theorem dX7_master_150 : decode cX7_master 150 = .ok (.bipush 7, 2) := by decide +kernel
theorem dX7_master_152 : decode cX7_master 152 = .ok (.if_icmp .ne 7, 3) := by decide +kernel
theorem dX7_master_155 : decode cX7_master 155 = .ok (.iconst 1, 1) := by decide +kernel
theorem dX7_master_156 : decode cX7_master 156 = .ok (.goto 4, 3) := by decide +kernel
theorem dX7_master_159 : decode cX7_master 159 = .ok (.iconst 0, 1) := by decide +kernel
theorem dX7_master_160 : decode cX7_master 160 = .ok (.invokevirtual 133, 3) := by decide +kernel
theorem dX7_master_163 : decode cX7_master 163 = .ok (.ireturn, 1) := by decide +kernel
theorem dX7_master_164 : decode cX7_master 164 = .ok (.iload_n 3, 1) := by decide +kernel
theorem dX7_master_165 : decode cX7_master 165 = .ok (.aload_n 0, 1) := by decide +kernel
theorem dX7_master_166 : decode cX7_master 166 = .ok (.getfield 7, 3) := by decide +kernel
theorem dX7_master_169 : decode cX7_master 169 = .ok (.iconst 3, 1) := by decide +kernel
theorem dX7_master_170 : decode cX7_master 170 = .ok (.iaload, 1) := by decide +kernel
theorem dX7_master_171 : decode cX7_master 171 = .ok (.if_icmp .lt 7, 3) := by decide +kernel
theorem dX7_master_174 : decode cX7_master 174 = .ok (.iconst 1, 1) := by decide +kernel
theorem dX7_master_175 : decode cX7_master 175 = .ok (.goto 4, 3) := by decide +kernel
theorem dX7_master_178 : decode cX7_master 178 = .ok (.iconst 0, 1) := by decide +kernel
theorem dX7_master_179 : decode cX7_master 179 = .ok (.ireturn, 1) := by decide +kernel
theorem dX7_master_180 : decode cX7_master 180 = .ok (.bipush (-2), 2) := by decide +kernel
theorem dX7_master_182 : decode cX7_master 182 = .ok (.ireturn, 1) := by decide +kernel
theorem dX7_row_0 : decode cX7_row 0 = .ok (.iload_n 1, 1) := by decide +kernel
theorem dX7_row_1 : decode cX7_row 1 = .ok (.invokestatic 56, 3) := by decide +kernel
theorem dX7_row_4 : decode cX7_row 4 = .ok (.ifCond .ne 5, 3) := by decide +kernel
theorem dX7_row_7 : decode cX7_row 7 = .ok (.iconst (-1), 1) := by decide +kernel
theorem dX7_row_8 : decode cX7_row 8 = .ok (.ireturn, 1) := by decide +kernel
theorem dX7_row_9 : decode cX7_row 9 = .ok (.iload_n 2, 1) := by decide +kernel
theorem dX7_row_10 : decode cX7_row 10 = .ok (.ifCond .ge 6, 3) := by decide +kernel
theorem dX7_row_13 : decode cX7_row 13 = .ok (.bipush (-2), 2) := by decide +kernel
theorem dX7_row_15 : decode cX7_row 15 = .ok (.ireturn, 1) := by decide +kernel
theorem dX7_row_16 : decode cX7_row 16 = .ok (.iload_n 2, 1) := by decide +kernel
theorem dX7_row_17 : decode cX7_row 17 = .ok (.aload_n 0, 1) := by decide +kernel
theorem dX7_row_18 : decode cX7_row 18 = .ok (.getfield 7, 3) := by decide +kernel
theorem dX7_row_21 : decode cX7_row 21 = .ok (.iload_n 1, 1) := by decide +kernel
theorem dX7_row_22 : decode cX7_row 22 = .ok (.iconst 0, 1) := by decide +kernel
theorem dX7_row_23 : decode cX7_row 23 = .ok (.invokestatic 31, 3) := by decide +kernel
theorem dX7_row_26 : decode cX7_row 26 = .ok (.iaload, 1) := by decide +kernel
theorem dX7_row_27 : decode cX7_row 27 = .ok (.if_icmp .ge 18, 3) := by decide +kernel
theorem dX7_row_30 : decode cX7_row 30 = .ok (.aload_n 0, 1) := by decide +kernel
theorem dX7_row_31 : decode cX7_row 31 = .ok (.getfield 7, 3) := by decide +kernel
theorem dX7_row_34 : decode cX7_row 34 = .ok (.iload_n 1, 1) := by decide +kernel
theorem dX7_row_35 : decode cX7_row 35 = .ok (.iconst 1, 1) := by decide +kernel
theorem dX7_row_36 : decode cX7_row 36 = .ok (.iload_n 2, 1) := by decide +kernel
theorem dX7_row_37 : decode cX7_row 37 = .ok (.iadd, 1) := by decide +kernel
theorem dX7_row_38 : decode cX7_row 38 = .ok (.invokestatic 31, 3) := by decide +kernel
theorem dX7_row_41 : decode cX7_row 41 = .ok (.iaload, 1) := by decide +kernel
theorem dX7_row_42 : decode cX7_row 42 = .ok (.goto 5, 3) := by decide +kernel
theorem dX7_row_45 : decode cX7_row 45 = .ok (.bipush (-5), 2) := by decide +kernel
theorem dX7_row_47 : decode cX7_row 47 = .ok (.ireturn, 1) := by decide +kernel
theorem dX7_doneIn_0 : decode cX7_doneIn 0 = .ok (.iconst 0, 1) := by decide +kernel
theorem dX7_doneIn_1 : decode cX7_doneIn 1 = .ok (.istore_n 2, 1) := by decide +kernel
theorem dX7_doneIn_2 : decode cX7_doneIn 2 = .ok (.iconst 0, 1) := by decide +kernel
theorem dX7_doneIn_3 : decode cX7_doneIn 3 = .ok (.istore_n 3, 1) := by decide +kernel
theorem dX7_doneIn_4 : decode cX7_doneIn 4 = .ok (.iload_n 3, 1) := by decide +kernel
theorem dX7_doneIn_5 : decode cX7_doneIn 5 = .ok (.aload_n 0, 1) := by decide +kernel
theorem dX7_doneIn_6 : decode cX7_doneIn 6 = .ok (.getfield 7, 3) := by decide +kernel
theorem dX7_doneIn_9 : decode cX7_doneIn 9 = .ok (.iload_n 1, 1) := by decide +kernel
theorem dX7_doneIn_10 : decode cX7_doneIn 10 = .ok (.bipush 19, 2) := by decide +kernel
theorem dX7_doneIn_12 : decode cX7_doneIn 12 = .ok (.invokestatic 35, 3) := by decide +kernel
theorem dX7_doneIn_15 : decode cX7_doneIn 15 = .ok (.iaload, 1) := by decide +kernel
theorem dX7_doneIn_16 : decode cX7_doneIn 16 = .ok (.if_icmp .ge 43, 3) := by decide +kernel
theorem dX7_doneIn_19 : decode cX7_doneIn 19 = .ok (.iload_n 2, 1) := by decide +kernel
theorem dX7_doneIn_20 : decode cX7_doneIn 20 = .ok (.aload_n 0, 1) := by decide +kernel
theorem dX7_doneIn_21 : decode cX7_doneIn 21 = .ok (.getfield 7, 3) := by decide +kernel
theorem dX7_doneIn_24 : decode cX7_doneIn 24 = .ok (.aload_n 0, 1) := by decide +kernel
theorem dX7_doneIn_25 : decode cX7_doneIn 25 = .ok (.getfield 7, 3) := by decide +kernel
theorem dX7_doneIn_28 : decode cX7_doneIn 28 = .ok (.iload_n 1, 1) := by decide +kernel
theorem dX7_doneIn_29 : decode cX7_doneIn 29 = .ok (.bipush 20, 2) := by decide +kernel
theorem dX7_doneIn_31 : decode cX7_doneIn 31 = .ok (.iload_n 3, 1) := by decide +kernel
theorem dX7_doneIn_32 : decode cX7_doneIn 32 = .ok (.iadd, 1) := by decide +kernel
theorem dX7_doneIn_33 : decode cX7_doneIn 33 = .ok (.invokestatic 35, 3) := by decide +kernel
theorem dX7_doneIn_36 : decode cX7_doneIn 36 = .ok (.iaload, 1) := by decide +kernel
theorem dX7_doneIn_37 : decode cX7_doneIn 37 = .ok (.iconst 4, 1) := by decide +kernel
theorem dX7_doneIn_38 : decode cX7_doneIn 38 = .ok (.invokestatic 59, 3) := by decide +kernel
theorem dX7_doneIn_41 : decode cX7_doneIn 41 = .ok (.iaload, 1) := by decide +kernel
theorem dX7_doneIn_42 : decode cX7_doneIn 42 = .ok (.iconst 2, 1) := by decide +kernel
theorem dX7_doneIn_43 : decode cX7_doneIn 43 = .ok (.if_icmp .ne 7, 3) := by decide +kernel
theorem dX7_doneIn_46 : decode cX7_doneIn 46 = .ok (.iconst 1, 1) := by decide +kernel
theorem dX7_doneIn_47 : decode cX7_doneIn 47 = .ok (.goto 4, 3) := by decide +kernel
theorem dX7_doneIn_50 : decode cX7_doneIn 50 = .ok (.iconst 0, 1) := by decide +kernel
theorem dX7_doneIn_51 : decode cX7_doneIn 51 = .ok (.iadd, 1) := by decide +kernel
theorem dX7_doneIn_52 : decode cX7_doneIn 52 = .ok (.istore_n 2, 1) := by decide +kernel
theorem dX7_doneIn_53 : decode cX7_doneIn 53 = .ok (.iinc 3 1, 3) := by decide +kernel
theorem dX7_doneIn_56 : decode cX7_doneIn 56 = .ok (.goto (-52), 3) := by decide +kernel
theorem dX7_doneIn_59 : decode cX7_doneIn 59 = .ok (.iload_n 2, 1) := by decide +kernel
theorem dX7_doneIn_60 : decode cX7_doneIn 60 = .ok (.ireturn, 1) := by decide +kernel
theorem dX7_target_0 : decode cX7_target 0 = .ok (.iload_n 1, 1) := by decide +kernel
theorem dX7_target_1 : decode cX7_target 1 = .ok (.invokestatic 56, 3) := by decide +kernel
theorem dX7_target_4 : decode cX7_target 4 = .ok (.ifCond .ne 5, 3) := by decide +kernel
theorem dX7_target_7 : decode cX7_target 7 = .ok (.iconst (-1), 1) := by decide +kernel
theorem dX7_target_8 : decode cX7_target 8 = .ok (.ireturn, 1) := by decide +kernel
theorem dX7_target_9 : decode cX7_target 9 = .ok (.iload_n 2, 1) := by decide +kernel
theorem dX7_target_10 : decode cX7_target 10 = .ok (.tableswitch 89 0 5 #[38, 38, 38, 38, 52, 58], 38) := by decide +kernel
theorem dX7_target_48 : decode cX7_target 48 = .ok (.aload_n 0, 1) := by decide +kernel
theorem dX7_target_49 : decode cX7_target 49 = .ok (.getfield 7, 3) := by decide +kernel
theorem dX7_target_52 : decode cX7_target 52 = .ok (.iload_n 1, 1) := by decide +kernel
theorem dX7_target_53 : decode cX7_target 53 = .ok (.bipush 16, 2) := by decide +kernel
theorem dX7_target_55 : decode cX7_target 55 = .ok (.iload_n 2, 1) := by decide +kernel
theorem dX7_target_56 : decode cX7_target 56 = .ok (.iadd, 1) := by decide +kernel
theorem dX7_target_57 : decode cX7_target 57 = .ok (.invokestatic 35, 3) := by decide +kernel
theorem dX7_target_60 : decode cX7_target 60 = .ok (.iaload, 1) := by decide +kernel
theorem dX7_target_61 : decode cX7_target 61 = .ok (.ireturn, 1) := by decide +kernel
theorem dX7_target_62 : decode cX7_target 62 = .ok (.aload_n 0, 1) := by decide +kernel
theorem dX7_target_63 : decode cX7_target 63 = .ok (.iload_n 1, 1) := by decide +kernel
theorem dX7_target_64 : decode cX7_target 64 = .ok (.invokevirtual 137, 3) := by decide +kernel
theorem dX7_target_67 : decode cX7_target 67 = .ok (.ireturn, 1) := by decide +kernel
theorem dX7_target_68 : decode cX7_target 68 = .ok (.aload_n 0, 1) := by decide +kernel
theorem dX7_target_69 : decode cX7_target 69 = .ok (.iload_n 1, 1) := by decide +kernel
theorem dX7_target_70 : decode cX7_target 70 = .ok (.invokevirtual 93, 3) := by decide +kernel
theorem dX7_target_73 : decode cX7_target 73 = .ok (.istore_n 3, 1) := by decide +kernel
theorem dX7_target_74 : decode cX7_target 74 = .ok (.iload_n 3, 1) := by decide +kernel
theorem dX7_target_75 : decode cX7_target 75 = .ok (.bipush (-5), 2) := by decide +kernel
theorem dX7_target_77 : decode cX7_target 77 = .ok (.if_icmp .ne 8, 3) := by decide +kernel
theorem dX7_target_80 : decode cX7_target 80 = .ok (.bipush (-5), 2) := by decide +kernel
theorem dX7_target_82 : decode cX7_target 82 = .ok (.goto 16, 3) := by decide +kernel
theorem dX7_target_85 : decode cX7_target 85 = .ok (.aload_n 0, 1) := by decide +kernel
theorem dX7_target_86 : decode cX7_target 86 = .ok (.getfield 7, 3) := by decide +kernel
theorem dX7_target_89 : decode cX7_target 89 = .ok (.iload_n 1, 1) := by decide +kernel
theorem dX7_target_90 : decode cX7_target 90 = .ok (.bipush 20, 2) := by decide +kernel
theorem dX7_target_92 : decode cX7_target 92 = .ok (.iload_n 3, 1) := by decide +kernel
theorem dX7_target_93 : decode cX7_target 93 = .ok (.iadd, 1) := by decide +kernel
theorem dX7_target_94 : decode cX7_target 94 = .ok (.invokestatic 35, 3) := by decide +kernel
theorem dX7_target_97 : decode cX7_target 97 = .ok (.iaload, 1) := by decide +kernel
theorem dX7_target_98 : decode cX7_target 98 = .ok (.ireturn, 1) := by decide +kernel
theorem dX7_target_99 : decode cX7_target 99 = .ok (.bipush (-2), 2) := by decide +kernel
theorem dX7_target_101 : decode cX7_target 101 = .ok (.ireturn, 1) := by decide +kernel
theorem dX7_cell_0 : decode cX7_cell 0 = .ok (.iload_n 1, 1) := by decide +kernel
theorem dX7_cell_1 : decode cX7_cell 1 = .ok (.invokestatic 56, 3) := by decide +kernel
theorem dX7_cell_4 : decode cX7_cell 4 = .ok (.ifCond .ne 5, 3) := by decide +kernel
theorem dX7_cell_7 : decode cX7_cell 7 = .ok (.iconst (-1), 1) := by decide +kernel
theorem dX7_cell_8 : decode cX7_cell 8 = .ok (.ireturn, 1) := by decide +kernel
theorem dX7_cell_9 : decode cX7_cell 9 = .ok (.iload_n 2, 1) := by decide +kernel
theorem dX7_cell_10 : decode cX7_cell 10 = .ok (.iconst 0, 1) := by decide +kernel
theorem dX7_cell_11 : decode cX7_cell 11 = .ok (.bipush 15, 2) := by decide +kernel
theorem dX7_cell_13 : decode cX7_cell 13 = .ok (.invokestatic 38, 3) := by decide +kernel
theorem dX7_cell_16 : decode cX7_cell 16 = .ok (.ifCond .eq 16, 3) := by decide +kernel
theorem dX7_cell_19 : decode cX7_cell 19 = .ok (.aload_n 0, 1) := by decide +kernel
theorem dX7_cell_20 : decode cX7_cell 20 = .ok (.getfield 7, 3) := by decide +kernel
theorem dX7_cell_23 : decode cX7_cell 23 = .ok (.iload_n 1, 1) := by decide +kernel
theorem dX7_cell_24 : decode cX7_cell 24 = .ok (.iload_n 2, 1) := by decide +kernel
theorem dX7_cell_25 : decode cX7_cell 25 = .ok (.invokestatic 35, 3) := by decide +kernel
theorem dX7_cell_28 : decode cX7_cell 28 = .ok (.iaload, 1) := by decide +kernel
theorem dX7_cell_29 : decode cX7_cell 29 = .ok (.goto 5, 3) := by decide +kernel
theorem dX7_cell_32 : decode cX7_cell 32 = .ok (.bipush (-2), 2) := by decide +kernel
theorem dX7_cell_34 : decode cX7_cell 34 = .ok (.ireturn, 1) := by decide +kernel
theorem dX7_putAside_0 : decode cX7_putAside 0 = .ok (.iconst 0, 1) := by decide +kernel
theorem dX7_putAside_1 : decode cX7_putAside 1 = .ok (.istore_n 1, 1) := by decide +kernel
theorem dX7_putAside_2 : decode cX7_putAside 2 = .ok (.iload_n 1, 1) := by decide +kernel
theorem dX7_putAside_3 : decode cX7_putAside 3 = .ok (.sipush 2361, 3) := by decide +kernel
theorem dX7_putAside_6 : decode cX7_putAside 6 = .ok (.if_icmp .ge 21, 3) := by decide +kernel
theorem dX7_putAside_9 : decode cX7_putAside 9 = .ok (.aload_n 0, 1) := by decide +kernel
theorem dX7_putAside_10 : decode cX7_putAside 10 = .ok (.getfield 13, 3) := by decide +kernel
theorem dX7_putAside_13 : decode cX7_putAside 13 = .ok (.iload_n 1, 1) := by decide +kernel
theorem dX7_putAside_14 : decode cX7_putAside 14 = .ok (.aload_n 0, 1) := by decide +kernel
theorem dX7_putAside_15 : decode cX7_putAside 15 = .ok (.getfield 7, 3) := by decide +kernel
theorem dX7_putAside_18 : decode cX7_putAside 18 = .ok (.iload_n 1, 1) := by decide +kernel
theorem dX7_putAside_19 : decode cX7_putAside 19 = .ok (.iaload, 1) := by decide +kernel
theorem dX7_putAside_20 : decode cX7_putAside 20 = .ok (.iastore, 1) := by decide +kernel
theorem dX7_putAside_21 : decode cX7_putAside 21 = .ok (.iinc 1 1, 3) := by decide +kernel
theorem dX7_putAside_24 : decode cX7_putAside 24 = .ok (.goto (-22), 3) := by decide +kernel
theorem dX7_putAside_27 : decode cX7_putAside 27 = .ok (.return_, 1) := by decide +kernel
theorem dX7_putBack_0 : decode cX7_putBack 0 = .ok (.iconst 0, 1) := by decide +kernel
theorem dX7_putBack_1 : decode cX7_putBack 1 = .ok (.istore_n 1, 1) := by decide +kernel
theorem dX7_putBack_2 : decode cX7_putBack 2 = .ok (.iload_n 1, 1) := by decide +kernel
theorem dX7_putBack_3 : decode cX7_putBack 3 = .ok (.sipush 2361, 3) := by decide +kernel
theorem dX7_putBack_6 : decode cX7_putBack 6 = .ok (.if_icmp .ge 21, 3) := by decide +kernel
theorem dX7_putBack_9 : decode cX7_putBack 9 = .ok (.aload_n 0, 1) := by decide +kernel
theorem dX7_putBack_10 : decode cX7_putBack 10 = .ok (.getfield 7, 3) := by decide +kernel
theorem dX7_putBack_13 : decode cX7_putBack 13 = .ok (.iload_n 1, 1) := by decide +kernel
theorem dX7_putBack_14 : decode cX7_putBack 14 = .ok (.aload_n 0, 1) := by decide +kernel
theorem dX7_putBack_15 : decode cX7_putBack 15 = .ok (.getfield 13, 3) := by decide +kernel
theorem dX7_putBack_18 : decode cX7_putBack 18 = .ok (.iload_n 1, 1) := by decide +kernel
theorem dX7_putBack_19 : decode cX7_putBack 19 = .ok (.iaload, 1) := by decide +kernel
theorem dX7_putBack_20 : decode cX7_putBack 20 = .ok (.iastore, 1) := by decide +kernel
theorem dX7_putBack_21 : decode cX7_putBack 21 = .ok (.iinc 1 1, 3) := by decide +kernel
theorem dX7_putBack_24 : decode cX7_putBack 24 = .ok (.goto (-22), 3) := by decide +kernel
theorem dX7_putBack_27 : decode cX7_putBack 27 = .ok (.return_, 1) := by decide +kernel
theorem dX7_next_0 : decode cX7_next 0 = .ok (.iload_n 1, 1) := by decide +kernel
theorem dX7_next_1 : decode cX7_next 1 = .ok (.iconst 0, 1) := by decide +kernel
theorem dX7_next_2 : decode cX7_next 2 = .ok (.iconst 1, 1) := by decide +kernel
theorem dX7_next_3 : decode cX7_next 3 = .ok (.invokestatic 38, 3) := by decide +kernel
theorem dX7_next_6 : decode cX7_next 6 = .ok (.ifCond .ne 6, 3) := by decide +kernel
theorem dX7_next_9 : decode cX7_next 9 = .ok (.bipush (-2), 2) := by decide +kernel
theorem dX7_next_11 : decode cX7_next 11 = .ok (.ireturn, 1) := by decide +kernel
theorem dX7_next_12 : decode cX7_next 12 = .ok (.aload_n 0, 1) := by decide +kernel
theorem dX7_next_13 : decode cX7_next 13 = .ok (.invokevirtual 140, 3) := by decide +kernel
theorem dX7_next_16 : decode cX7_next 16 = .ok (.aload_n 0, 1) := by decide +kernel
theorem dX7_next_17 : decode cX7_next 17 = .ok (.invokevirtual 124, 3) := by decide +kernel
theorem dX7_next_20 : decode cX7_next 20 = .ok (.istore_n 2, 1) := by decide +kernel
theorem dX7_next_21 : decode cX7_next 21 = .ok (.aload_n 0, 1) := by decide +kernel
theorem dX7_next_22 : decode cX7_next 22 = .ok (.invokevirtual 143, 3) := by decide +kernel
theorem dX7_next_25 : decode cX7_next 25 = .ok (.iload_n 1, 1) := by decide +kernel
theorem dX7_next_26 : decode cX7_next 26 = .ok (.ifCond .ne 10, 3) := by decide +kernel
theorem dX7_next_29 : decode cX7_next 29 = .ok (.aload_n 0, 1) := by decide +kernel
theorem dX7_next_30 : decode cX7_next 30 = .ok (.getfield 106, 3) := by decide +kernel
theorem dX7_next_33 : decode cX7_next 33 = .ok (.goto 4, 3) := by decide +kernel
theorem dX7_next_36 : decode cX7_next 36 = .ok (.iload_n 2, 1) := by decide +kernel
theorem dX7_next_37 : decode cX7_next 37 = .ok (.ireturn, 1) := by decide +kernel
theorem dX7_answeredIn_0 : decode cX7_answeredIn 0 = .ok (.aload_n 0, 1) := by decide +kernel
theorem dX7_answeredIn_1 : decode cX7_answeredIn 1 = .ok (.iload_n 1, 1) := by decide +kernel
theorem dX7_answeredIn_2 : decode cX7_answeredIn 2 = .ok (.invokevirtual 130, 3) := by decide +kernel
theorem dX7_answeredIn_5 : decode cX7_answeredIn 5 = .ok (.ifCond .ne 5, 3) := by decide +kernel
theorem dX7_answeredIn_8 : decode cX7_answeredIn 8 = .ok (.iconst (-1), 1) := by decide +kernel
theorem dX7_answeredIn_9 : decode cX7_answeredIn 9 = .ok (.ireturn, 1) := by decide +kernel
theorem dX7_answeredIn_10 : decode cX7_answeredIn 10 = .ok (.aload_n 0, 1) := by decide +kernel
theorem dX7_answeredIn_11 : decode cX7_answeredIn 11 = .ok (.getfield 7, 3) := by decide +kernel
theorem dX7_answeredIn_14 : decode cX7_answeredIn 14 = .ok (.iload_n 1, 1) := by decide +kernel
theorem dX7_answeredIn_15 : decode cX7_answeredIn 15 = .ok (.iconst 4, 1) := by decide +kernel
theorem dX7_answeredIn_16 : decode cX7_answeredIn 16 = .ok (.invokestatic 59, 3) := by decide +kernel
theorem dX7_answeredIn_19 : decode cX7_answeredIn 19 = .ok (.iaload, 1) := by decide +kernel
theorem dX7_answeredIn_20 : decode cX7_answeredIn 20 = .ok (.iconst 2, 1) := by decide +kernel
theorem dX7_answeredIn_21 : decode cX7_answeredIn 21 = .ok (.if_icmp .le 6, 3) := by decide +kernel
theorem dX7_answeredIn_24 : decode cX7_answeredIn 24 = .ok (.bipush (-4), 2) := by decide +kernel
theorem dX7_answeredIn_26 : decode cX7_answeredIn 26 = .ok (.ireturn, 1) := by decide +kernel
theorem dX7_answeredIn_27 : decode cX7_answeredIn 27 = .ok (.aload_n 0, 1) := by decide +kernel
theorem dX7_answeredIn_28 : decode cX7_answeredIn 28 = .ok (.invokevirtual 140, 3) := by decide +kernel
theorem dX7_answeredIn_31 : decode cX7_answeredIn 31 = .ok (.iconst 0, 1) := by decide +kernel
theorem dX7_answeredIn_32 : decode cX7_answeredIn 32 = .ok (.istore_n 2, 1) := by decide +kernel
theorem dX7_answeredIn_33 : decode cX7_answeredIn 33 = .ok (.iload_n 2, 1) := by decide +kernel
theorem dX7_answeredIn_34 : decode cX7_answeredIn 34 = .ok (.sipush 999, 3) := by decide +kernel
theorem dX7_answeredIn_37 : decode cX7_answeredIn 37 = .ok (.if_icmp .ge 28, 3) := by decide +kernel
theorem dX7_answeredIn_40 : decode cX7_answeredIn 40 = .ok (.aload_n 0, 1) := by decide +kernel
theorem dX7_answeredIn_41 : decode cX7_answeredIn 41 = .ok (.getfield 7, 3) := by decide +kernel
theorem dX7_answeredIn_44 : decode cX7_answeredIn 44 = .ok (.iload_n 1, 1) := by decide +kernel
theorem dX7_answeredIn_45 : decode cX7_answeredIn 45 = .ok (.iconst 4, 1) := by decide +kernel
theorem dX7_answeredIn_46 : decode cX7_answeredIn 46 = .ok (.invokestatic 59, 3) := by decide +kernel
theorem dX7_answeredIn_49 : decode cX7_answeredIn 49 = .ok (.iaload, 1) := by decide +kernel
theorem dX7_answeredIn_50 : decode cX7_answeredIn 50 = .ok (.iconst 3, 1) := by decide +kernel
theorem dX7_answeredIn_51 : decode cX7_answeredIn 51 = .ok (.if_icmp .eq 14, 3) := by decide +kernel
theorem dX7_answeredIn_54 : decode cX7_answeredIn 54 = .ok (.aload_n 0, 1) := by decide +kernel
theorem dX7_answeredIn_55 : decode cX7_answeredIn 55 = .ok (.invokevirtual 124, 3) := by decide +kernel
theorem dX7_answeredIn_58 : decode cX7_answeredIn 58 = .ok (.istore_n 3, 1) := by decide +kernel
theorem dX7_answeredIn_59 : decode cX7_answeredIn 59 = .ok (.iinc 2 1, 3) := by decide +kernel
theorem dX7_answeredIn_62 : decode cX7_answeredIn 62 = .ok (.goto (-29), 3) := by decide +kernel
theorem dX7_answeredIn_65 : decode cX7_answeredIn 65 = .ok (.aload_n 0, 1) := by decide +kernel
theorem dX7_answeredIn_66 : decode cX7_answeredIn 66 = .ok (.getfield 7, 3) := by decide +kernel
theorem dX7_answeredIn_69 : decode cX7_answeredIn 69 = .ok (.iload_n 1, 1) := by decide +kernel
theorem dX7_answeredIn_70 : decode cX7_answeredIn 70 = .ok (.iconst 4, 1) := by decide +kernel
theorem dX7_answeredIn_71 : decode cX7_answeredIn 71 = .ok (.invokestatic 59, 3) := by decide +kernel
theorem dX7_answeredIn_74 : decode cX7_answeredIn 74 = .ok (.iaload, 1) := by decide +kernel
theorem dX7_answeredIn_75 : decode cX7_answeredIn 75 = .ok (.iconst 3, 1) := by decide +kernel
theorem dX7_answeredIn_76 : decode cX7_answeredIn 76 = .ok (.if_icmp .ne 7, 3) := by decide +kernel
theorem dX7_answeredIn_79 : decode cX7_answeredIn 79 = .ok (.iconst 1, 1) := by decide +kernel
theorem dX7_answeredIn_80 : decode cX7_answeredIn 80 = .ok (.goto 4, 3) := by decide +kernel
theorem dX7_answeredIn_83 : decode cX7_answeredIn 83 = .ok (.iconst 0, 1) := by decide +kernel
theorem dX7_answeredIn_84 : decode cX7_answeredIn 84 = .ok (.istore_n 3, 1) := by decide +kernel
theorem dX7_answeredIn_85 : decode cX7_answeredIn 85 = .ok (.aload_n 0, 1) := by decide +kernel
theorem dX7_answeredIn_86 : decode cX7_answeredIn 86 = .ok (.invokevirtual 143, 3) := by decide +kernel
theorem dX7_answeredIn_89 : decode cX7_answeredIn 89 = .ok (.iload_n 3, 1) := by decide +kernel
theorem dX7_answeredIn_90 : decode cX7_answeredIn 90 = .ok (.ifCond .eq 7, 3) := by decide +kernel
theorem dX7_answeredIn_93 : decode cX7_answeredIn 93 = .ok (.iload_n 2, 1) := by decide +kernel
theorem dX7_answeredIn_94 : decode cX7_answeredIn 94 = .ok (.goto 5, 3) := by decide +kernel
theorem dX7_answeredIn_97 : decode cX7_answeredIn 97 = .ok (.bipush (-5), 2) := by decide +kernel
theorem dX7_answeredIn_99 : decode cX7_answeredIn 99 = .ok (.ireturn, 1) := by decide +kernel
theorem dX7_freeTags_0 : decode cX7_freeTags 0 = .ok (.iconst 0, 1) := by decide +kernel
theorem dX7_freeTags_1 : decode cX7_freeTags 1 = .ok (.istore_n 1, 1) := by decide +kernel
theorem dX7_freeTags_2 : decode cX7_freeTags 2 = .ok (.iconst 0, 1) := by decide +kernel
theorem dX7_freeTags_3 : decode cX7_freeTags 3 = .ok (.istore_n 2, 1) := by decide +kernel
theorem dX7_freeTags_4 : decode cX7_freeTags 4 = .ok (.iload_n 2, 1) := by decide +kernel
theorem dX7_freeTags_5 : decode cX7_freeTags 5 = .ok (.aload_n 0, 1) := by decide +kernel
theorem dX7_freeTags_6 : decode cX7_freeTags 6 = .ok (.getfield 7, 3) := by decide +kernel
theorem dX7_freeTags_9 : decode cX7_freeTags 9 = .ok (.iconst 1, 1) := by decide +kernel
theorem dX7_freeTags_10 : decode cX7_freeTags 10 = .ok (.iaload, 1) := by decide +kernel
theorem dX7_freeTags_11 : decode cX7_freeTags 11 = .ok (.if_icmp .ge 31, 3) := by decide +kernel
theorem dX7_freeTags_14 : decode cX7_freeTags 14 = .ok (.iload_n 1, 1) := by decide +kernel
theorem dX7_freeTags_15 : decode cX7_freeTags 15 = .ok (.aload_n 0, 1) := by decide +kernel
theorem dX7_freeTags_16 : decode cX7_freeTags 16 = .ok (.getfield 7, 3) := by decide +kernel
theorem dX7_freeTags_19 : decode cX7_freeTags 19 = .ok (.bipush 13, 2) := by decide +kernel
theorem dX7_freeTags_21 : decode cX7_freeTags 21 = .ok (.iload_n 2, 1) := by decide +kernel
theorem dX7_freeTags_22 : decode cX7_freeTags 22 = .ok (.iadd, 1) := by decide +kernel
theorem dX7_freeTags_23 : decode cX7_freeTags 23 = .ok (.iaload, 1) := by decide +kernel
theorem dX7_freeTags_24 : decode cX7_freeTags 24 = .ok (.bipush (-5), 2) := by decide +kernel
theorem dX7_freeTags_26 : decode cX7_freeTags 26 = .ok (.if_icmp .ne 7, 3) := by decide +kernel
theorem dX7_freeTags_29 : decode cX7_freeTags 29 = .ok (.iconst 1, 1) := by decide +kernel
theorem dX7_freeTags_30 : decode cX7_freeTags 30 = .ok (.goto 4, 3) := by decide +kernel
theorem dX7_freeTags_33 : decode cX7_freeTags 33 = .ok (.iconst 0, 1) := by decide +kernel
theorem dX7_freeTags_34 : decode cX7_freeTags 34 = .ok (.iadd, 1) := by decide +kernel
theorem dX7_freeTags_35 : decode cX7_freeTags 35 = .ok (.istore_n 1, 1) := by decide +kernel
theorem dX7_freeTags_36 : decode cX7_freeTags 36 = .ok (.iinc 2 1, 3) := by decide +kernel
theorem dX7_freeTags_39 : decode cX7_freeTags 39 = .ok (.goto (-35), 3) := by decide +kernel
theorem dX7_freeTags_42 : decode cX7_freeTags 42 = .ok (.iload_n 1, 1) := by decide +kernel
theorem dX7_freeTags_43 : decode cX7_freeTags 43 = .ok (.ireturn, 1) := by decide +kernel
theorem dX7_count_0 : decode cX7_count 0 = .ok (.iload_n 1, 1) := by decide +kernel
theorem dX7_count_1 : decode cX7_count 1 = .ok (.tableswitch 102 0 12 #[67, 67, 67, 67, 67, 74, 79, 79, 79, 79, 79, 92, 97], 67) := by decide +kernel
theorem dX7_count_68 : decode cX7_count 68 = .ok (.aload_n 0, 1) := by decide +kernel
theorem dX7_count_69 : decode cX7_count 69 = .ok (.getfield 7, 3) := by decide +kernel
theorem dX7_count_72 : decode cX7_count 72 = .ok (.iload_n 1, 1) := by decide +kernel
theorem dX7_count_73 : decode cX7_count 73 = .ok (.iaload, 1) := by decide +kernel
theorem dX7_count_74 : decode cX7_count 74 = .ok (.ireturn, 1) := by decide +kernel
theorem dX7_count_75 : decode cX7_count 75 = .ok (.aload_n 0, 1) := by decide +kernel
theorem dX7_count_76 : decode cX7_count 76 = .ok (.invokevirtual 146, 3) := by decide +kernel
theorem dX7_count_79 : decode cX7_count 79 = .ok (.ireturn, 1) := by decide +kernel
theorem dX7_count_80 : decode cX7_count 80 = .ok (.aload_n 0, 1) := by decide +kernel
theorem dX7_count_81 : decode cX7_count 81 = .ok (.getfield 7, 3) := by decide +kernel
theorem dX7_count_84 : decode cX7_count 84 = .ok (.bipush 8, 2) := by decide +kernel
theorem dX7_count_86 : decode cX7_count 86 = .ok (.iload_n 1, 1) := by decide +kernel
theorem dX7_count_87 : decode cX7_count 87 = .ok (.iadd, 1) := by decide +kernel
theorem dX7_count_88 : decode cX7_count 88 = .ok (.bipush 6, 2) := by decide +kernel
theorem dX7_count_90 : decode cX7_count 90 = .ok (.isub, 1) := by decide +kernel
theorem dX7_count_91 : decode cX7_count 91 = .ok (.iaload, 1) := by decide +kernel
theorem dX7_count_92 : decode cX7_count 92 = .ok (.ireturn, 1) := by decide +kernel
theorem dX7_count_93 : decode cX7_count 93 = .ok (.aload_n 0, 1) := by decide +kernel
theorem dX7_count_94 : decode cX7_count 94 = .ok (.getfield 42, 3) := by decide +kernel
theorem dX7_count_97 : decode cX7_count 97 = .ok (.ireturn, 1) := by decide +kernel
theorem dX7_count_98 : decode cX7_count 98 = .ok (.aload_n 0, 1) := by decide +kernel
theorem dX7_count_99 : decode cX7_count 99 = .ok (.getfield 72, 3) := by decide +kernel
theorem dX7_count_102 : decode cX7_count 102 = .ok (.ireturn, 1) := by decide +kernel
theorem dX7_count_103 : decode cX7_count 103 = .ok (.bipush (-2), 2) := by decide +kernel
theorem dX7_count_105 : decode cX7_count 105 = .ok (.ireturn, 1) := by decide +kernel
theorem dL_law_0 : decode cL_law 0 = .ok (.new 7, 3) := by decide +kernel
theorem dL_law_3 : decode cL_law 3 = .ok (.dup, 1) := by decide +kernel
theorem dL_law_4 : decode cL_law 4 = .ok (.invokespecial 9, 3) := by decide +kernel
theorem dL_law_7 : decode cL_law 7 = .ok (.astore_n 1, 1) := by decide +kernel
theorem dL_law_8 : decode cL_law 8 = .ok (.new 10, 3) := by decide +kernel
theorem dL_law_11 : decode cL_law 11 = .ok (.dup, 1) := by decide +kernel
theorem dL_law_12 : decode cL_law 12 = .ok (.invokespecial 12, 3) := by decide +kernel
theorem dL_law_15 : decode cL_law 15 = .ok (.astore_n 2, 1) := by decide +kernel
theorem dL_law_16 : decode cL_law 16 = .ok (.iconst 0, 1) := by decide +kernel
theorem dL_law_17 : decode cL_law 17 = .ok (.istore_n 3, 1) := by decide +kernel
theorem dL_law_18 : decode cL_law 18 = .ok (.iload_n 3, 1) := by decide +kernel
theorem dL_law_19 : decode cL_law 19 = .ok (.aload_n 0, 1) := by decide +kernel
theorem dL_law_20 : decode cL_law 20 = .ok (.arraylength, 1) := by decide +kernel
theorem dL_law_21 : decode cL_law 21 = .ok (.iconst 5, 1) := by decide +kernel
theorem dL_law_22 : decode cL_law 22 = .ok (.isub, 1) := by decide +kernel
theorem dL_law_23 : decode cL_law 23 = .ok (.if_icmp .gt 764, 3) := by decide +kernel
theorem dL_law_26 : decode cL_law 26 = .ok (.aload_n 0, 1) := by decide +kernel
theorem dL_law_27 : decode cL_law 27 = .ok (.iload_n 3, 1) := by decide +kernel
theorem dL_law_28 : decode cL_law 28 = .ok (.iaload, 1) := by decide +kernel
theorem dL_law_29 : decode cL_law 29 = .ok (.bipush 31, 2) := by decide +kernel
theorem dL_law_31 : decode cL_law 31 = .ok (.iand, 1) := by decide +kernel
theorem dL_law_32 : decode cL_law 32 = .ok (.tableswitch 749 0 22 #[108, 141, 174, 217, 260, 303, 356, 369, 392, 415, 440, 453, 466, 479, 492, 525, 548, 581, 614, 647, 680, 703, 726], 108) := by decide +kernel
theorem dL_law_140 : decode cL_law 140 = .ok (.aload_n 1, 1) := by decide +kernel
theorem dL_law_141 : decode cL_law 141 = .ok (.aload_n 0, 1) := by decide +kernel
theorem dL_law_142 : decode cL_law 142 = .ok (.iload_n 3, 1) := by decide +kernel
theorem dL_law_143 : decode cL_law 143 = .ok (.iconst 1, 1) := by decide +kernel
theorem dL_law_144 : decode cL_law 144 = .ok (.iadd, 1) := by decide +kernel
theorem dL_law_145 : decode cL_law 145 = .ok (.iaload, 1) := by decide +kernel
theorem dL_law_146 : decode cL_law 146 = .ok (.aload_n 0, 1) := by decide +kernel
theorem dL_law_147 : decode cL_law 147 = .ok (.iload_n 3, 1) := by decide +kernel
theorem dL_law_148 : decode cL_law 148 = .ok (.iconst 2, 1) := by decide +kernel
theorem dL_law_149 : decode cL_law 149 = .ok (.iadd, 1) := by decide +kernel
theorem dL_law_150 : decode cL_law 150 = .ok (.iaload, 1) := by decide +kernel
theorem dL_law_151 : decode cL_law 151 = .ok (.invokevirtual 13, 3) := by decide +kernel
theorem dL_law_154 : decode cL_law 154 = .ok (.aload_n 2, 1) := by decide +kernel
theorem dL_law_155 : decode cL_law 155 = .ok (.aload_n 0, 1) := by decide +kernel
theorem dL_law_156 : decode cL_law 156 = .ok (.iload_n 3, 1) := by decide +kernel
theorem dL_law_157 : decode cL_law 157 = .ok (.iconst 1, 1) := by decide +kernel
theorem dL_law_158 : decode cL_law 158 = .ok (.iadd, 1) := by decide +kernel
theorem dL_law_159 : decode cL_law 159 = .ok (.iaload, 1) := by decide +kernel
theorem dL_law_160 : decode cL_law 160 = .ok (.aload_n 0, 1) := by decide +kernel
theorem dL_law_161 : decode cL_law 161 = .ok (.iload_n 3, 1) := by decide +kernel
theorem dL_law_162 : decode cL_law 162 = .ok (.iconst 2, 1) := by decide +kernel
theorem dL_law_163 : decode cL_law 163 = .ok (.iadd, 1) := by decide +kernel
theorem dL_law_164 : decode cL_law 164 = .ok (.iaload, 1) := by decide +kernel
theorem dL_law_165 : decode cL_law 165 = .ok (.invokevirtual 17, 3) := by decide +kernel
theorem dL_law_168 : decode cL_law 168 = .ok (.if_icmp .eq 613, 3) := by decide +kernel
theorem dL_law_171 : decode cL_law 171 = .ok (.iconst 0, 1) := by decide +kernel
theorem dL_law_172 : decode cL_law 172 = .ok (.ireturn, 1) := by decide +kernel
theorem dL_law_173 : decode cL_law 173 = .ok (.aload_n 1, 1) := by decide +kernel
theorem dL_law_174 : decode cL_law 174 = .ok (.aload_n 0, 1) := by decide +kernel
theorem dL_law_175 : decode cL_law 175 = .ok (.iload_n 3, 1) := by decide +kernel
theorem dL_law_176 : decode cL_law 176 = .ok (.iconst 1, 1) := by decide +kernel
theorem dL_law_177 : decode cL_law 177 = .ok (.iadd, 1) := by decide +kernel
theorem dL_law_178 : decode cL_law 178 = .ok (.iaload, 1) := by decide +kernel
theorem dL_law_179 : decode cL_law 179 = .ok (.aload_n 0, 1) := by decide +kernel
theorem dL_law_180 : decode cL_law 180 = .ok (.iload_n 3, 1) := by decide +kernel
theorem dL_law_181 : decode cL_law 181 = .ok (.iconst 2, 1) := by decide +kernel
theorem dL_law_182 : decode cL_law 182 = .ok (.iadd, 1) := by decide +kernel
theorem dL_law_183 : decode cL_law 183 = .ok (.iaload, 1) := by decide +kernel
theorem dL_law_184 : decode cL_law 184 = .ok (.invokevirtual 18, 3) := by decide +kernel
theorem dL_law_187 : decode cL_law 187 = .ok (.aload_n 2, 1) := by decide +kernel
theorem dL_law_188 : decode cL_law 188 = .ok (.aload_n 0, 1) := by decide +kernel
theorem dL_law_189 : decode cL_law 189 = .ok (.iload_n 3, 1) := by decide +kernel
theorem dL_law_190 : decode cL_law 190 = .ok (.iconst 1, 1) := by decide +kernel
theorem dL_law_191 : decode cL_law 191 = .ok (.iadd, 1) := by decide +kernel
theorem dL_law_192 : decode cL_law 192 = .ok (.iaload, 1) := by decide +kernel
theorem dL_law_193 : decode cL_law 193 = .ok (.aload_n 0, 1) := by decide +kernel
theorem dL_law_194 : decode cL_law 194 = .ok (.iload_n 3, 1) := by decide +kernel
theorem dL_law_195 : decode cL_law 195 = .ok (.iconst 2, 1) := by decide +kernel
theorem dL_law_196 : decode cL_law 196 = .ok (.iadd, 1) := by decide +kernel
theorem dL_law_197 : decode cL_law 197 = .ok (.iaload, 1) := by decide +kernel
theorem dL_law_198 : decode cL_law 198 = .ok (.invokevirtual 21, 3) := by decide +kernel
theorem dL_law_201 : decode cL_law 201 = .ok (.if_icmp .eq 580, 3) := by decide +kernel
theorem dL_law_204 : decode cL_law 204 = .ok (.iconst 0, 1) := by decide +kernel
theorem dL_law_205 : decode cL_law 205 = .ok (.ireturn, 1) := by decide +kernel
theorem dL_law_206 : decode cL_law 206 = .ok (.aload_n 1, 1) := by decide +kernel
theorem dL_law_207 : decode cL_law 207 = .ok (.aload_n 0, 1) := by decide +kernel
theorem dL_law_208 : decode cL_law 208 = .ok (.iload_n 3, 1) := by decide +kernel
theorem dL_law_209 : decode cL_law 209 = .ok (.iconst 1, 1) := by decide +kernel
theorem dL_law_210 : decode cL_law 210 = .ok (.iadd, 1) := by decide +kernel
theorem dL_law_211 : decode cL_law 211 = .ok (.iaload, 1) := by decide +kernel
theorem dL_law_212 : decode cL_law 212 = .ok (.aload_n 0, 1) := by decide +kernel
theorem dL_law_213 : decode cL_law 213 = .ok (.iload_n 3, 1) := by decide +kernel
theorem dL_law_214 : decode cL_law 214 = .ok (.iconst 2, 1) := by decide +kernel
theorem dL_law_215 : decode cL_law 215 = .ok (.iadd, 1) := by decide +kernel
theorem dL_law_216 : decode cL_law 216 = .ok (.iaload, 1) := by decide +kernel
theorem dL_law_217 : decode cL_law 217 = .ok (.aload_n 0, 1) := by decide +kernel
theorem dL_law_218 : decode cL_law 218 = .ok (.iload_n 3, 1) := by decide +kernel
theorem dL_law_219 : decode cL_law 219 = .ok (.iconst 3, 1) := by decide +kernel
theorem dL_law_220 : decode cL_law 220 = .ok (.iadd, 1) := by decide +kernel
theorem dL_law_221 : decode cL_law 221 = .ok (.iaload, 1) := by decide +kernel
theorem dL_law_222 : decode cL_law 222 = .ok (.invokevirtual 22, 3) := by decide +kernel
theorem dL_law_225 : decode cL_law 225 = .ok (.aload_n 2, 1) := by decide +kernel
theorem dL_law_226 : decode cL_law 226 = .ok (.aload_n 0, 1) := by decide +kernel
theorem dL_law_227 : decode cL_law 227 = .ok (.iload_n 3, 1) := by decide +kernel
theorem dL_law_228 : decode cL_law 228 = .ok (.iconst 1, 1) := by decide +kernel
theorem dL_law_229 : decode cL_law 229 = .ok (.iadd, 1) := by decide +kernel
theorem dL_law_230 : decode cL_law 230 = .ok (.iaload, 1) := by decide +kernel
theorem dL_law_231 : decode cL_law 231 = .ok (.aload_n 0, 1) := by decide +kernel
theorem dL_law_232 : decode cL_law 232 = .ok (.iload_n 3, 1) := by decide +kernel
theorem dL_law_233 : decode cL_law 233 = .ok (.iconst 2, 1) := by decide +kernel
theorem dL_law_234 : decode cL_law 234 = .ok (.iadd, 1) := by decide +kernel
theorem dL_law_235 : decode cL_law 235 = .ok (.iaload, 1) := by decide +kernel
theorem dL_law_236 : decode cL_law 236 = .ok (.aload_n 0, 1) := by decide +kernel
theorem dL_law_237 : decode cL_law 237 = .ok (.iload_n 3, 1) := by decide +kernel
theorem dL_law_238 : decode cL_law 238 = .ok (.iconst 3, 1) := by decide +kernel
theorem dL_law_239 : decode cL_law 239 = .ok (.iadd, 1) := by decide +kernel
theorem dL_law_240 : decode cL_law 240 = .ok (.iaload, 1) := by decide +kernel
theorem dL_law_241 : decode cL_law 241 = .ok (.invokevirtual 26, 3) := by decide +kernel
theorem dL_law_244 : decode cL_law 244 = .ok (.if_icmp .eq 537, 3) := by decide +kernel
theorem dL_law_247 : decode cL_law 247 = .ok (.iconst 0, 1) := by decide +kernel
theorem dL_law_248 : decode cL_law 248 = .ok (.ireturn, 1) := by decide +kernel
theorem dL_law_249 : decode cL_law 249 = .ok (.aload_n 1, 1) := by decide +kernel
theorem dL_law_250 : decode cL_law 250 = .ok (.aload_n 0, 1) := by decide +kernel
theorem dL_law_251 : decode cL_law 251 = .ok (.iload_n 3, 1) := by decide +kernel
theorem dL_law_252 : decode cL_law 252 = .ok (.iconst 1, 1) := by decide +kernel
theorem dL_law_253 : decode cL_law 253 = .ok (.iadd, 1) := by decide +kernel
theorem dL_law_254 : decode cL_law 254 = .ok (.iaload, 1) := by decide +kernel
theorem dL_law_255 : decode cL_law 255 = .ok (.aload_n 0, 1) := by decide +kernel
theorem dL_law_256 : decode cL_law 256 = .ok (.iload_n 3, 1) := by decide +kernel
theorem dL_law_257 : decode cL_law 257 = .ok (.iconst 2, 1) := by decide +kernel
theorem dL_law_258 : decode cL_law 258 = .ok (.iadd, 1) := by decide +kernel
theorem dL_law_259 : decode cL_law 259 = .ok (.iaload, 1) := by decide +kernel
theorem dL_law_260 : decode cL_law 260 = .ok (.aload_n 0, 1) := by decide +kernel
theorem dL_law_261 : decode cL_law 261 = .ok (.iload_n 3, 1) := by decide +kernel
theorem dL_law_262 : decode cL_law 262 = .ok (.iconst 3, 1) := by decide +kernel
theorem dL_law_263 : decode cL_law 263 = .ok (.iadd, 1) := by decide +kernel
theorem dL_law_264 : decode cL_law 264 = .ok (.iaload, 1) := by decide +kernel
theorem dL_law_265 : decode cL_law 265 = .ok (.invokevirtual 27, 3) := by decide +kernel
theorem dL_law_268 : decode cL_law 268 = .ok (.aload_n 2, 1) := by decide +kernel
theorem dL_law_269 : decode cL_law 269 = .ok (.aload_n 0, 1) := by decide +kernel
theorem dL_law_270 : decode cL_law 270 = .ok (.iload_n 3, 1) := by decide +kernel
theorem dL_law_271 : decode cL_law 271 = .ok (.iconst 1, 1) := by decide +kernel
theorem dL_law_272 : decode cL_law 272 = .ok (.iadd, 1) := by decide +kernel
theorem dL_law_273 : decode cL_law 273 = .ok (.iaload, 1) := by decide +kernel
theorem dL_law_274 : decode cL_law 274 = .ok (.aload_n 0, 1) := by decide +kernel
theorem dL_law_275 : decode cL_law 275 = .ok (.iload_n 3, 1) := by decide +kernel
theorem dL_law_276 : decode cL_law 276 = .ok (.iconst 2, 1) := by decide +kernel
theorem dL_law_277 : decode cL_law 277 = .ok (.iadd, 1) := by decide +kernel
theorem dL_law_278 : decode cL_law 278 = .ok (.iaload, 1) := by decide +kernel
theorem dL_law_279 : decode cL_law 279 = .ok (.aload_n 0, 1) := by decide +kernel
theorem dL_law_280 : decode cL_law 280 = .ok (.iload_n 3, 1) := by decide +kernel
theorem dL_law_281 : decode cL_law 281 = .ok (.iconst 3, 1) := by decide +kernel
theorem dL_law_282 : decode cL_law 282 = .ok (.iadd, 1) := by decide +kernel
theorem dL_law_283 : decode cL_law 283 = .ok (.iaload, 1) := by decide +kernel
theorem dL_law_284 : decode cL_law 284 = .ok (.invokevirtual 30, 3) := by decide +kernel
theorem dL_law_287 : decode cL_law 287 = .ok (.if_icmp .eq 494, 3) := by decide +kernel
theorem dL_law_290 : decode cL_law 290 = .ok (.iconst 0, 1) := by decide +kernel
theorem dL_law_291 : decode cL_law 291 = .ok (.ireturn, 1) := by decide +kernel
theorem dL_law_292 : decode cL_law 292 = .ok (.aload_n 1, 1) := by decide +kernel
theorem dL_law_293 : decode cL_law 293 = .ok (.aload_n 0, 1) := by decide +kernel
theorem dL_law_294 : decode cL_law 294 = .ok (.iload_n 3, 1) := by decide +kernel
theorem dL_law_295 : decode cL_law 295 = .ok (.iconst 1, 1) := by decide +kernel
theorem dL_law_296 : decode cL_law 296 = .ok (.iadd, 1) := by decide +kernel
theorem dL_law_297 : decode cL_law 297 = .ok (.iaload, 1) := by decide +kernel
theorem dL_law_298 : decode cL_law 298 = .ok (.aload_n 0, 1) := by decide +kernel
theorem dL_law_299 : decode cL_law 299 = .ok (.iload_n 3, 1) := by decide +kernel
theorem dL_law_300 : decode cL_law 300 = .ok (.iconst 2, 1) := by decide +kernel
theorem dL_law_301 : decode cL_law 301 = .ok (.iadd, 1) := by decide +kernel
theorem dL_law_302 : decode cL_law 302 = .ok (.iaload, 1) := by decide +kernel
theorem dL_law_303 : decode cL_law 303 = .ok (.aload_n 0, 1) := by decide +kernel
theorem dL_law_304 : decode cL_law 304 = .ok (.iload_n 3, 1) := by decide +kernel
theorem dL_law_305 : decode cL_law 305 = .ok (.iconst 3, 1) := by decide +kernel
theorem dL_law_306 : decode cL_law 306 = .ok (.iadd, 1) := by decide +kernel
theorem dL_law_307 : decode cL_law 307 = .ok (.iaload, 1) := by decide +kernel
theorem dL_law_308 : decode cL_law 308 = .ok (.invokevirtual 31, 3) := by decide +kernel
theorem dL_law_311 : decode cL_law 311 = .ok (.aload_n 2, 1) := by decide +kernel
theorem dL_law_312 : decode cL_law 312 = .ok (.aload_n 0, 1) := by decide +kernel
theorem dL_law_313 : decode cL_law 313 = .ok (.iload_n 3, 1) := by decide +kernel
theorem dL_law_314 : decode cL_law 314 = .ok (.iconst 1, 1) := by decide +kernel
theorem dL_law_315 : decode cL_law 315 = .ok (.iadd, 1) := by decide +kernel
theorem dL_law_316 : decode cL_law 316 = .ok (.iaload, 1) := by decide +kernel
theorem dL_law_317 : decode cL_law 317 = .ok (.aload_n 0, 1) := by decide +kernel
theorem dL_law_318 : decode cL_law 318 = .ok (.iload_n 3, 1) := by decide +kernel
theorem dL_law_319 : decode cL_law 319 = .ok (.iconst 2, 1) := by decide +kernel
theorem dL_law_320 : decode cL_law 320 = .ok (.iadd, 1) := by decide +kernel
theorem dL_law_321 : decode cL_law 321 = .ok (.iaload, 1) := by decide +kernel
theorem dL_law_322 : decode cL_law 322 = .ok (.aload_n 0, 1) := by decide +kernel
theorem dL_law_323 : decode cL_law 323 = .ok (.iload_n 3, 1) := by decide +kernel
theorem dL_law_324 : decode cL_law 324 = .ok (.iconst 3, 1) := by decide +kernel
theorem dL_law_325 : decode cL_law 325 = .ok (.iadd, 1) := by decide +kernel
theorem dL_law_326 : decode cL_law 326 = .ok (.iaload, 1) := by decide +kernel
theorem dL_law_327 : decode cL_law 327 = .ok (.invokevirtual 34, 3) := by decide +kernel
theorem dL_law_330 : decode cL_law 330 = .ok (.if_icmp .eq 451, 3) := by decide +kernel
theorem dL_law_333 : decode cL_law 333 = .ok (.iconst 0, 1) := by decide +kernel
theorem dL_law_334 : decode cL_law 334 = .ok (.ireturn, 1) := by decide +kernel
theorem dL_law_335 : decode cL_law 335 = .ok (.aload_n 1, 1) := by decide +kernel
theorem dL_law_336 : decode cL_law 336 = .ok (.aload_n 0, 1) := by decide +kernel
theorem dL_law_337 : decode cL_law 337 = .ok (.iload_n 3, 1) := by decide +kernel
theorem dL_law_338 : decode cL_law 338 = .ok (.iconst 1, 1) := by decide +kernel
theorem dL_law_339 : decode cL_law 339 = .ok (.iadd, 1) := by decide +kernel
theorem dL_law_340 : decode cL_law 340 = .ok (.iaload, 1) := by decide +kernel
theorem dL_law_341 : decode cL_law 341 = .ok (.aload_n 0, 1) := by decide +kernel
theorem dL_law_342 : decode cL_law 342 = .ok (.iload_n 3, 1) := by decide +kernel
theorem dL_law_343 : decode cL_law 343 = .ok (.iconst 2, 1) := by decide +kernel
theorem dL_law_344 : decode cL_law 344 = .ok (.iadd, 1) := by decide +kernel
theorem dL_law_345 : decode cL_law 345 = .ok (.iaload, 1) := by decide +kernel
theorem dL_law_346 : decode cL_law 346 = .ok (.aload_n 0, 1) := by decide +kernel
theorem dL_law_347 : decode cL_law 347 = .ok (.iload_n 3, 1) := by decide +kernel
theorem dL_law_348 : decode cL_law 348 = .ok (.iconst 3, 1) := by decide +kernel
theorem dL_law_349 : decode cL_law 349 = .ok (.iadd, 1) := by decide +kernel
theorem dL_law_350 : decode cL_law 350 = .ok (.iaload, 1) := by decide +kernel
theorem dL_law_351 : decode cL_law 351 = .ok (.aload_n 0, 1) := by decide +kernel
theorem dL_law_352 : decode cL_law 352 = .ok (.iload_n 3, 1) := by decide +kernel
theorem dL_law_353 : decode cL_law 353 = .ok (.iconst 4, 1) := by decide +kernel
theorem dL_law_354 : decode cL_law 354 = .ok (.iadd, 1) := by decide +kernel
theorem dL_law_355 : decode cL_law 355 = .ok (.iaload, 1) := by decide +kernel
theorem dL_law_356 : decode cL_law 356 = .ok (.invokevirtual 35, 3) := by decide +kernel
theorem dL_law_359 : decode cL_law 359 = .ok (.aload_n 2, 1) := by decide +kernel
theorem dL_law_360 : decode cL_law 360 = .ok (.aload_n 0, 1) := by decide +kernel
theorem dL_law_361 : decode cL_law 361 = .ok (.iload_n 3, 1) := by decide +kernel
theorem dL_law_362 : decode cL_law 362 = .ok (.iconst 1, 1) := by decide +kernel
theorem dL_law_363 : decode cL_law 363 = .ok (.iadd, 1) := by decide +kernel
theorem dL_law_364 : decode cL_law 364 = .ok (.iaload, 1) := by decide +kernel
theorem dL_law_365 : decode cL_law 365 = .ok (.aload_n 0, 1) := by decide +kernel
theorem dL_law_366 : decode cL_law 366 = .ok (.iload_n 3, 1) := by decide +kernel
theorem dL_law_367 : decode cL_law 367 = .ok (.iconst 2, 1) := by decide +kernel
theorem dL_law_368 : decode cL_law 368 = .ok (.iadd, 1) := by decide +kernel
theorem dL_law_369 : decode cL_law 369 = .ok (.iaload, 1) := by decide +kernel
theorem dL_law_370 : decode cL_law 370 = .ok (.aload_n 0, 1) := by decide +kernel
theorem dL_law_371 : decode cL_law 371 = .ok (.iload_n 3, 1) := by decide +kernel
theorem dL_law_372 : decode cL_law 372 = .ok (.iconst 3, 1) := by decide +kernel
theorem dL_law_373 : decode cL_law 373 = .ok (.iadd, 1) := by decide +kernel
theorem dL_law_374 : decode cL_law 374 = .ok (.iaload, 1) := by decide +kernel
theorem dL_law_375 : decode cL_law 375 = .ok (.aload_n 0, 1) := by decide +kernel
theorem dL_law_376 : decode cL_law 376 = .ok (.iload_n 3, 1) := by decide +kernel
theorem dL_law_377 : decode cL_law 377 = .ok (.iconst 4, 1) := by decide +kernel
theorem dL_law_378 : decode cL_law 378 = .ok (.iadd, 1) := by decide +kernel
theorem dL_law_379 : decode cL_law 379 = .ok (.iaload, 1) := by decide +kernel
theorem dL_law_380 : decode cL_law 380 = .ok (.invokevirtual 39, 3) := by decide +kernel
theorem dL_law_383 : decode cL_law 383 = .ok (.if_icmp .eq 398, 3) := by decide +kernel
theorem dL_law_386 : decode cL_law 386 = .ok (.iconst 0, 1) := by decide +kernel
theorem dL_law_387 : decode cL_law 387 = .ok (.ireturn, 1) := by decide +kernel
theorem dL_law_388 : decode cL_law 388 = .ok (.aload_n 1, 1) := by decide +kernel
theorem dL_law_389 : decode cL_law 389 = .ok (.invokevirtual 40, 3) := by decide +kernel
theorem dL_law_392 : decode cL_law 392 = .ok (.aload_n 2, 1) := by decide +kernel
theorem dL_law_393 : decode cL_law 393 = .ok (.invokevirtual 44, 3) := by decide +kernel
theorem dL_law_396 : decode cL_law 396 = .ok (.if_icmp .eq 385, 3) := by decide +kernel
theorem dL_law_399 : decode cL_law 399 = .ok (.iconst 0, 1) := by decide +kernel
theorem dL_law_400 : decode cL_law 400 = .ok (.ireturn, 1) := by decide +kernel
theorem dL_law_401 : decode cL_law 401 = .ok (.aload_n 1, 1) := by decide +kernel
theorem dL_law_402 : decode cL_law 402 = .ok (.aload_n 0, 1) := by decide +kernel
theorem dL_law_403 : decode cL_law 403 = .ok (.iload_n 3, 1) := by decide +kernel
theorem dL_law_404 : decode cL_law 404 = .ok (.iconst 1, 1) := by decide +kernel
theorem dL_law_405 : decode cL_law 405 = .ok (.iadd, 1) := by decide +kernel
theorem dL_law_406 : decode cL_law 406 = .ok (.iaload, 1) := by decide +kernel
theorem dL_law_407 : decode cL_law 407 = .ok (.invokevirtual 45, 3) := by decide +kernel
theorem dL_law_410 : decode cL_law 410 = .ok (.aload_n 2, 1) := by decide +kernel
theorem dL_law_411 : decode cL_law 411 = .ok (.aload_n 0, 1) := by decide +kernel
theorem dL_law_412 : decode cL_law 412 = .ok (.iload_n 3, 1) := by decide +kernel
theorem dL_law_413 : decode cL_law 413 = .ok (.iconst 1, 1) := by decide +kernel
theorem dL_law_414 : decode cL_law 414 = .ok (.iadd, 1) := by decide +kernel
theorem dL_law_415 : decode cL_law 415 = .ok (.iaload, 1) := by decide +kernel
theorem dL_law_416 : decode cL_law 416 = .ok (.invokevirtual 49, 3) := by decide +kernel
theorem dL_law_419 : decode cL_law 419 = .ok (.if_icmp .eq 362, 3) := by decide +kernel
theorem dL_law_422 : decode cL_law 422 = .ok (.iconst 0, 1) := by decide +kernel
theorem dL_law_423 : decode cL_law 423 = .ok (.ireturn, 1) := by decide +kernel
theorem dL_law_424 : decode cL_law 424 = .ok (.aload_n 1, 1) := by decide +kernel
theorem dL_law_425 : decode cL_law 425 = .ok (.aload_n 0, 1) := by decide +kernel
theorem dL_law_426 : decode cL_law 426 = .ok (.iload_n 3, 1) := by decide +kernel
theorem dL_law_427 : decode cL_law 427 = .ok (.iconst 1, 1) := by decide +kernel
theorem dL_law_428 : decode cL_law 428 = .ok (.iadd, 1) := by decide +kernel
theorem dL_law_429 : decode cL_law 429 = .ok (.iaload, 1) := by decide +kernel
theorem dL_law_430 : decode cL_law 430 = .ok (.invokevirtual 50, 3) := by decide +kernel
theorem dL_law_433 : decode cL_law 433 = .ok (.aload_n 2, 1) := by decide +kernel
theorem dL_law_434 : decode cL_law 434 = .ok (.aload_n 0, 1) := by decide +kernel
theorem dL_law_435 : decode cL_law 435 = .ok (.iload_n 3, 1) := by decide +kernel
theorem dL_law_436 : decode cL_law 436 = .ok (.iconst 1, 1) := by decide +kernel
theorem dL_law_437 : decode cL_law 437 = .ok (.iadd, 1) := by decide +kernel
theorem dL_law_438 : decode cL_law 438 = .ok (.iaload, 1) := by decide +kernel
theorem dL_law_439 : decode cL_law 439 = .ok (.invokevirtual 53, 3) := by decide +kernel
theorem dL_law_442 : decode cL_law 442 = .ok (.if_icmp .eq 339, 3) := by decide +kernel
theorem dL_law_445 : decode cL_law 445 = .ok (.iconst 0, 1) := by decide +kernel
theorem dL_law_446 : decode cL_law 446 = .ok (.ireturn, 1) := by decide +kernel
theorem dL_law_447 : decode cL_law 447 = .ok (.aload_n 1, 1) := by decide +kernel
theorem dL_law_448 : decode cL_law 448 = .ok (.aload_n 0, 1) := by decide +kernel
theorem dL_law_449 : decode cL_law 449 = .ok (.iload_n 3, 1) := by decide +kernel
theorem dL_law_450 : decode cL_law 450 = .ok (.iconst 1, 1) := by decide +kernel
theorem dL_law_451 : decode cL_law 451 = .ok (.iadd, 1) := by decide +kernel
theorem dL_law_452 : decode cL_law 452 = .ok (.iaload, 1) := by decide +kernel
theorem dL_law_453 : decode cL_law 453 = .ok (.i2c, 1) := by decide +kernel
theorem dL_law_454 : decode cL_law 454 = .ok (.invokevirtual 54, 3) := by decide +kernel
theorem dL_law_457 : decode cL_law 457 = .ok (.aload_n 2, 1) := by decide +kernel
theorem dL_law_458 : decode cL_law 458 = .ok (.aload_n 0, 1) := by decide +kernel
theorem dL_law_459 : decode cL_law 459 = .ok (.iload_n 3, 1) := by decide +kernel
theorem dL_law_460 : decode cL_law 460 = .ok (.iconst 1, 1) := by decide +kernel
theorem dL_law_461 : decode cL_law 461 = .ok (.iadd, 1) := by decide +kernel
theorem dL_law_462 : decode cL_law 462 = .ok (.iaload, 1) := by decide +kernel
theorem dL_law_463 : decode cL_law 463 = .ok (.i2c, 1) := by decide +kernel
theorem dL_law_464 : decode cL_law 464 = .ok (.invokevirtual 58, 3) := by decide +kernel
theorem dL_law_467 : decode cL_law 467 = .ok (.if_icmp .eq 314, 3) := by decide +kernel
theorem dL_law_470 : decode cL_law 470 = .ok (.iconst 0, 1) := by decide +kernel
theorem dL_law_471 : decode cL_law 471 = .ok (.ireturn, 1) := by decide +kernel
theorem dL_law_472 : decode cL_law 472 = .ok (.aload_n 1, 1) := by decide +kernel
theorem dL_law_473 : decode cL_law 473 = .ok (.invokevirtual 59, 3) := by decide +kernel
theorem dL_law_476 : decode cL_law 476 = .ok (.aload_n 2, 1) := by decide +kernel
theorem dL_law_477 : decode cL_law 477 = .ok (.invokevirtual 62, 3) := by decide +kernel
theorem dL_law_480 : decode cL_law 480 = .ok (.if_icmp .eq 301, 3) := by decide +kernel
theorem dL_law_483 : decode cL_law 483 = .ok (.iconst 0, 1) := by decide +kernel
theorem dL_law_484 : decode cL_law 484 = .ok (.ireturn, 1) := by decide +kernel
theorem dL_law_485 : decode cL_law 485 = .ok (.aload_n 1, 1) := by decide +kernel
theorem dL_law_486 : decode cL_law 486 = .ok (.invokevirtual 63, 3) := by decide +kernel
theorem dL_law_489 : decode cL_law 489 = .ok (.aload_n 2, 1) := by decide +kernel
theorem dL_law_490 : decode cL_law 490 = .ok (.invokevirtual 66, 3) := by decide +kernel
theorem dL_law_493 : decode cL_law 493 = .ok (.if_icmp .eq 288, 3) := by decide +kernel
theorem dL_law_496 : decode cL_law 496 = .ok (.iconst 0, 1) := by decide +kernel
theorem dL_law_497 : decode cL_law 497 = .ok (.ireturn, 1) := by decide +kernel
theorem dL_law_498 : decode cL_law 498 = .ok (.aload_n 1, 1) := by decide +kernel
theorem dL_law_499 : decode cL_law 499 = .ok (.invokevirtual 67, 3) := by decide +kernel
theorem dL_law_502 : decode cL_law 502 = .ok (.aload_n 2, 1) := by decide +kernel
theorem dL_law_503 : decode cL_law 503 = .ok (.invokevirtual 70, 3) := by decide +kernel
theorem dL_law_506 : decode cL_law 506 = .ok (.if_icmp .eq 275, 3) := by decide +kernel
theorem dL_law_509 : decode cL_law 509 = .ok (.iconst 0, 1) := by decide +kernel
theorem dL_law_510 : decode cL_law 510 = .ok (.ireturn, 1) := by decide +kernel
theorem dL_law_511 : decode cL_law 511 = .ok (.aload_n 1, 1) := by decide +kernel
theorem dL_law_512 : decode cL_law 512 = .ok (.invokevirtual 71, 3) := by decide +kernel
theorem dL_law_515 : decode cL_law 515 = .ok (.aload_n 2, 1) := by decide +kernel
theorem dL_law_516 : decode cL_law 516 = .ok (.invokevirtual 74, 3) := by decide +kernel
theorem dL_law_519 : decode cL_law 519 = .ok (.if_icmp .eq 262, 3) := by decide +kernel
theorem dL_law_522 : decode cL_law 522 = .ok (.iconst 0, 1) := by decide +kernel
theorem dL_law_523 : decode cL_law 523 = .ok (.ireturn, 1) := by decide +kernel
theorem dL_law_524 : decode cL_law 524 = .ok (.aload_n 1, 1) := by decide +kernel
theorem dL_law_525 : decode cL_law 525 = .ok (.aload_n 0, 1) := by decide +kernel
theorem dL_law_526 : decode cL_law 526 = .ok (.iload_n 3, 1) := by decide +kernel
theorem dL_law_527 : decode cL_law 527 = .ok (.iconst 1, 1) := by decide +kernel
theorem dL_law_528 : decode cL_law 528 = .ok (.iadd, 1) := by decide +kernel
theorem dL_law_529 : decode cL_law 529 = .ok (.iaload, 1) := by decide +kernel
theorem dL_law_530 : decode cL_law 530 = .ok (.aload_n 0, 1) := by decide +kernel
theorem dL_law_531 : decode cL_law 531 = .ok (.iload_n 3, 1) := by decide +kernel
theorem dL_law_532 : decode cL_law 532 = .ok (.iconst 2, 1) := by decide +kernel
theorem dL_law_533 : decode cL_law 533 = .ok (.iadd, 1) := by decide +kernel
theorem dL_law_534 : decode cL_law 534 = .ok (.iaload, 1) := by decide +kernel
theorem dL_law_535 : decode cL_law 535 = .ok (.invokevirtual 75, 3) := by decide +kernel
theorem dL_law_538 : decode cL_law 538 = .ok (.aload_n 2, 1) := by decide +kernel
theorem dL_law_539 : decode cL_law 539 = .ok (.aload_n 0, 1) := by decide +kernel
theorem dL_law_540 : decode cL_law 540 = .ok (.iload_n 3, 1) := by decide +kernel
theorem dL_law_541 : decode cL_law 541 = .ok (.iconst 1, 1) := by decide +kernel
theorem dL_law_542 : decode cL_law 542 = .ok (.iadd, 1) := by decide +kernel
theorem dL_law_543 : decode cL_law 543 = .ok (.iaload, 1) := by decide +kernel
theorem dL_law_544 : decode cL_law 544 = .ok (.aload_n 0, 1) := by decide +kernel
theorem dL_law_545 : decode cL_law 545 = .ok (.iload_n 3, 1) := by decide +kernel
theorem dL_law_546 : decode cL_law 546 = .ok (.iconst 2, 1) := by decide +kernel
theorem dL_law_547 : decode cL_law 547 = .ok (.iadd, 1) := by decide +kernel
theorem dL_law_548 : decode cL_law 548 = .ok (.iaload, 1) := by decide +kernel
theorem dL_law_549 : decode cL_law 549 = .ok (.invokevirtual 78, 3) := by decide +kernel
theorem dL_law_552 : decode cL_law 552 = .ok (.if_icmp .eq 229, 3) := by decide +kernel
theorem dL_law_555 : decode cL_law 555 = .ok (.iconst 0, 1) := by decide +kernel
theorem dL_law_556 : decode cL_law 556 = .ok (.ireturn, 1) := by decide +kernel
theorem dL_law_557 : decode cL_law 557 = .ok (.aload_n 1, 1) := by decide +kernel
theorem dL_law_558 : decode cL_law 558 = .ok (.aload_n 0, 1) := by decide +kernel
theorem dL_law_559 : decode cL_law 559 = .ok (.iload_n 3, 1) := by decide +kernel
theorem dL_law_560 : decode cL_law 560 = .ok (.iconst 1, 1) := by decide +kernel
theorem dL_law_561 : decode cL_law 561 = .ok (.iadd, 1) := by decide +kernel
theorem dL_law_562 : decode cL_law 562 = .ok (.iaload, 1) := by decide +kernel
theorem dL_law_563 : decode cL_law 563 = .ok (.invokevirtual 79, 3) := by decide +kernel
theorem dL_law_566 : decode cL_law 566 = .ok (.aload_n 2, 1) := by decide +kernel
theorem dL_law_567 : decode cL_law 567 = .ok (.aload_n 0, 1) := by decide +kernel
theorem dL_law_568 : decode cL_law 568 = .ok (.iload_n 3, 1) := by decide +kernel
theorem dL_law_569 : decode cL_law 569 = .ok (.iconst 1, 1) := by decide +kernel
theorem dL_law_570 : decode cL_law 570 = .ok (.iadd, 1) := by decide +kernel
theorem dL_law_571 : decode cL_law 571 = .ok (.iaload, 1) := by decide +kernel
theorem dL_law_572 : decode cL_law 572 = .ok (.invokevirtual 82, 3) := by decide +kernel
theorem dL_law_575 : decode cL_law 575 = .ok (.if_icmp .eq 206, 3) := by decide +kernel
theorem dL_law_578 : decode cL_law 578 = .ok (.iconst 0, 1) := by decide +kernel
theorem dL_law_579 : decode cL_law 579 = .ok (.ireturn, 1) := by decide +kernel
theorem dL_law_580 : decode cL_law 580 = .ok (.aload_n 1, 1) := by decide +kernel
theorem dL_law_581 : decode cL_law 581 = .ok (.aload_n 0, 1) := by decide +kernel
theorem dL_law_582 : decode cL_law 582 = .ok (.iload_n 3, 1) := by decide +kernel
theorem dL_law_583 : decode cL_law 583 = .ok (.iconst 1, 1) := by decide +kernel
theorem dL_law_584 : decode cL_law 584 = .ok (.iadd, 1) := by decide +kernel
theorem dL_law_585 : decode cL_law 585 = .ok (.iaload, 1) := by decide +kernel
theorem dL_law_586 : decode cL_law 586 = .ok (.aload_n 0, 1) := by decide +kernel
theorem dL_law_587 : decode cL_law 587 = .ok (.iload_n 3, 1) := by decide +kernel
theorem dL_law_588 : decode cL_law 588 = .ok (.iconst 2, 1) := by decide +kernel
theorem dL_law_589 : decode cL_law 589 = .ok (.iadd, 1) := by decide +kernel
theorem dL_law_590 : decode cL_law 590 = .ok (.iaload, 1) := by decide +kernel
theorem dL_law_591 : decode cL_law 591 = .ok (.invokevirtual 83, 3) := by decide +kernel
theorem dL_law_594 : decode cL_law 594 = .ok (.aload_n 2, 1) := by decide +kernel
theorem dL_law_595 : decode cL_law 595 = .ok (.aload_n 0, 1) := by decide +kernel
theorem dL_law_596 : decode cL_law 596 = .ok (.iload_n 3, 1) := by decide +kernel
theorem dL_law_597 : decode cL_law 597 = .ok (.iconst 1, 1) := by decide +kernel
theorem dL_law_598 : decode cL_law 598 = .ok (.iadd, 1) := by decide +kernel
theorem dL_law_599 : decode cL_law 599 = .ok (.iaload, 1) := by decide +kernel
theorem dL_law_600 : decode cL_law 600 = .ok (.aload_n 0, 1) := by decide +kernel
theorem dL_law_601 : decode cL_law 601 = .ok (.iload_n 3, 1) := by decide +kernel
theorem dL_law_602 : decode cL_law 602 = .ok (.iconst 2, 1) := by decide +kernel
theorem dL_law_603 : decode cL_law 603 = .ok (.iadd, 1) := by decide +kernel
theorem dL_law_604 : decode cL_law 604 = .ok (.iaload, 1) := by decide +kernel
theorem dL_law_605 : decode cL_law 605 = .ok (.invokevirtual 86, 3) := by decide +kernel
theorem dL_law_608 : decode cL_law 608 = .ok (.if_icmp .eq 173, 3) := by decide +kernel
theorem dL_law_611 : decode cL_law 611 = .ok (.iconst 0, 1) := by decide +kernel
theorem dL_law_612 : decode cL_law 612 = .ok (.ireturn, 1) := by decide +kernel
theorem dL_law_613 : decode cL_law 613 = .ok (.aload_n 1, 1) := by decide +kernel
theorem dL_law_614 : decode cL_law 614 = .ok (.aload_n 0, 1) := by decide +kernel
theorem dL_law_615 : decode cL_law 615 = .ok (.iload_n 3, 1) := by decide +kernel
theorem dL_law_616 : decode cL_law 616 = .ok (.iconst 1, 1) := by decide +kernel
theorem dL_law_617 : decode cL_law 617 = .ok (.iadd, 1) := by decide +kernel
theorem dL_law_618 : decode cL_law 618 = .ok (.iaload, 1) := by decide +kernel
theorem dL_law_619 : decode cL_law 619 = .ok (.aload_n 0, 1) := by decide +kernel
theorem dL_law_620 : decode cL_law 620 = .ok (.iload_n 3, 1) := by decide +kernel
theorem dL_law_621 : decode cL_law 621 = .ok (.iconst 2, 1) := by decide +kernel
theorem dL_law_622 : decode cL_law 622 = .ok (.iadd, 1) := by decide +kernel
theorem dL_law_623 : decode cL_law 623 = .ok (.iaload, 1) := by decide +kernel
theorem dL_law_624 : decode cL_law 624 = .ok (.invokevirtual 87, 3) := by decide +kernel
theorem dL_law_627 : decode cL_law 627 = .ok (.aload_n 2, 1) := by decide +kernel
theorem dL_law_628 : decode cL_law 628 = .ok (.aload_n 0, 1) := by decide +kernel
theorem dL_law_629 : decode cL_law 629 = .ok (.iload_n 3, 1) := by decide +kernel
theorem dL_law_630 : decode cL_law 630 = .ok (.iconst 1, 1) := by decide +kernel
theorem dL_law_631 : decode cL_law 631 = .ok (.iadd, 1) := by decide +kernel
theorem dL_law_632 : decode cL_law 632 = .ok (.iaload, 1) := by decide +kernel
theorem dL_law_633 : decode cL_law 633 = .ok (.aload_n 0, 1) := by decide +kernel
theorem dL_law_634 : decode cL_law 634 = .ok (.iload_n 3, 1) := by decide +kernel
theorem dL_law_635 : decode cL_law 635 = .ok (.iconst 2, 1) := by decide +kernel
theorem dL_law_636 : decode cL_law 636 = .ok (.iadd, 1) := by decide +kernel
theorem dL_law_637 : decode cL_law 637 = .ok (.iaload, 1) := by decide +kernel
theorem dL_law_638 : decode cL_law 638 = .ok (.invokevirtual 90, 3) := by decide +kernel
theorem dL_law_641 : decode cL_law 641 = .ok (.if_icmp .eq 140, 3) := by decide +kernel
theorem dL_law_644 : decode cL_law 644 = .ok (.iconst 0, 1) := by decide +kernel
theorem dL_law_645 : decode cL_law 645 = .ok (.ireturn, 1) := by decide +kernel
theorem dL_law_646 : decode cL_law 646 = .ok (.aload_n 1, 1) := by decide +kernel
theorem dL_law_647 : decode cL_law 647 = .ok (.aload_n 0, 1) := by decide +kernel
theorem dL_law_648 : decode cL_law 648 = .ok (.iload_n 3, 1) := by decide +kernel
theorem dL_law_649 : decode cL_law 649 = .ok (.iconst 1, 1) := by decide +kernel
theorem dL_law_650 : decode cL_law 650 = .ok (.iadd, 1) := by decide +kernel
theorem dL_law_651 : decode cL_law 651 = .ok (.iaload, 1) := by decide +kernel
theorem dL_law_652 : decode cL_law 652 = .ok (.aload_n 0, 1) := by decide +kernel
theorem dL_law_653 : decode cL_law 653 = .ok (.iload_n 3, 1) := by decide +kernel
theorem dL_law_654 : decode cL_law 654 = .ok (.iconst 2, 1) := by decide +kernel
theorem dL_law_655 : decode cL_law 655 = .ok (.iadd, 1) := by decide +kernel
theorem dL_law_656 : decode cL_law 656 = .ok (.iaload, 1) := by decide +kernel
theorem dL_law_657 : decode cL_law 657 = .ok (.invokevirtual 91, 3) := by decide +kernel
theorem dL_law_660 : decode cL_law 660 = .ok (.aload_n 2, 1) := by decide +kernel
theorem dL_law_661 : decode cL_law 661 = .ok (.aload_n 0, 1) := by decide +kernel
theorem dL_law_662 : decode cL_law 662 = .ok (.iload_n 3, 1) := by decide +kernel
theorem dL_law_663 : decode cL_law 663 = .ok (.iconst 1, 1) := by decide +kernel
theorem dL_law_664 : decode cL_law 664 = .ok (.iadd, 1) := by decide +kernel
theorem dL_law_665 : decode cL_law 665 = .ok (.iaload, 1) := by decide +kernel
theorem dL_law_666 : decode cL_law 666 = .ok (.aload_n 0, 1) := by decide +kernel
theorem dL_law_667 : decode cL_law 667 = .ok (.iload_n 3, 1) := by decide +kernel
theorem dL_law_668 : decode cL_law 668 = .ok (.iconst 2, 1) := by decide +kernel
theorem dL_law_669 : decode cL_law 669 = .ok (.iadd, 1) := by decide +kernel
theorem dL_law_670 : decode cL_law 670 = .ok (.iaload, 1) := by decide +kernel
theorem dL_law_671 : decode cL_law 671 = .ok (.invokevirtual 94, 3) := by decide +kernel
theorem dL_law_674 : decode cL_law 674 = .ok (.if_icmp .eq 107, 3) := by decide +kernel
theorem dL_law_677 : decode cL_law 677 = .ok (.iconst 0, 1) := by decide +kernel
theorem dL_law_678 : decode cL_law 678 = .ok (.ireturn, 1) := by decide +kernel
theorem dL_law_679 : decode cL_law 679 = .ok (.aload_n 1, 1) := by decide +kernel
theorem dL_law_680 : decode cL_law 680 = .ok (.aload_n 0, 1) := by decide +kernel
theorem dL_law_681 : decode cL_law 681 = .ok (.iload_n 3, 1) := by decide +kernel
theorem dL_law_682 : decode cL_law 682 = .ok (.iconst 1, 1) := by decide +kernel
theorem dL_law_683 : decode cL_law 683 = .ok (.iadd, 1) := by decide +kernel
theorem dL_law_684 : decode cL_law 684 = .ok (.iaload, 1) := by decide +kernel
theorem dL_law_685 : decode cL_law 685 = .ok (.aload_n 0, 1) := by decide +kernel
theorem dL_law_686 : decode cL_law 686 = .ok (.iload_n 3, 1) := by decide +kernel
theorem dL_law_687 : decode cL_law 687 = .ok (.iconst 2, 1) := by decide +kernel
theorem dL_law_688 : decode cL_law 688 = .ok (.iadd, 1) := by decide +kernel
theorem dL_law_689 : decode cL_law 689 = .ok (.iaload, 1) := by decide +kernel
theorem dL_law_690 : decode cL_law 690 = .ok (.invokevirtual 95, 3) := by decide +kernel
theorem dL_law_693 : decode cL_law 693 = .ok (.aload_n 2, 1) := by decide +kernel
theorem dL_law_694 : decode cL_law 694 = .ok (.aload_n 0, 1) := by decide +kernel
theorem dL_law_695 : decode cL_law 695 = .ok (.iload_n 3, 1) := by decide +kernel
theorem dL_law_696 : decode cL_law 696 = .ok (.iconst 1, 1) := by decide +kernel
theorem dL_law_697 : decode cL_law 697 = .ok (.iadd, 1) := by decide +kernel
theorem dL_law_698 : decode cL_law 698 = .ok (.iaload, 1) := by decide +kernel
theorem dL_law_699 : decode cL_law 699 = .ok (.aload_n 0, 1) := by decide +kernel
theorem dL_law_700 : decode cL_law 700 = .ok (.iload_n 3, 1) := by decide +kernel
theorem dL_law_701 : decode cL_law 701 = .ok (.iconst 2, 1) := by decide +kernel
theorem dL_law_702 : decode cL_law 702 = .ok (.iadd, 1) := by decide +kernel
theorem dL_law_703 : decode cL_law 703 = .ok (.iaload, 1) := by decide +kernel
theorem dL_law_704 : decode cL_law 704 = .ok (.invokevirtual 98, 3) := by decide +kernel
theorem dL_law_707 : decode cL_law 707 = .ok (.if_icmp .eq 74, 3) := by decide +kernel
theorem dL_law_710 : decode cL_law 710 = .ok (.iconst 0, 1) := by decide +kernel
theorem dL_law_711 : decode cL_law 711 = .ok (.ireturn, 1) := by decide +kernel
theorem dL_law_712 : decode cL_law 712 = .ok (.aload_n 1, 1) := by decide +kernel
theorem dL_law_713 : decode cL_law 713 = .ok (.aload_n 0, 1) := by decide +kernel
theorem dL_law_714 : decode cL_law 714 = .ok (.iload_n 3, 1) := by decide +kernel
theorem dL_law_715 : decode cL_law 715 = .ok (.iconst 1, 1) := by decide +kernel
theorem dL_law_716 : decode cL_law 716 = .ok (.iadd, 1) := by decide +kernel
theorem dL_law_717 : decode cL_law 717 = .ok (.iaload, 1) := by decide +kernel
theorem dL_law_718 : decode cL_law 718 = .ok (.invokevirtual 99, 3) := by decide +kernel
theorem dL_law_721 : decode cL_law 721 = .ok (.aload_n 2, 1) := by decide +kernel
theorem dL_law_722 : decode cL_law 722 = .ok (.aload_n 0, 1) := by decide +kernel
theorem dL_law_723 : decode cL_law 723 = .ok (.iload_n 3, 1) := by decide +kernel
theorem dL_law_724 : decode cL_law 724 = .ok (.iconst 1, 1) := by decide +kernel
theorem dL_law_725 : decode cL_law 725 = .ok (.iadd, 1) := by decide +kernel
theorem dL_law_726 : decode cL_law 726 = .ok (.iaload, 1) := by decide +kernel
theorem dL_law_727 : decode cL_law 727 = .ok (.invokevirtual 102, 3) := by decide +kernel
theorem dL_law_730 : decode cL_law 730 = .ok (.if_icmp .eq 51, 3) := by decide +kernel
theorem dL_law_733 : decode cL_law 733 = .ok (.iconst 0, 1) := by decide +kernel
theorem dL_law_734 : decode cL_law 734 = .ok (.ireturn, 1) := by decide +kernel
theorem dL_law_735 : decode cL_law 735 = .ok (.aload_n 1, 1) := by decide +kernel
theorem dL_law_736 : decode cL_law 736 = .ok (.aload_n 0, 1) := by decide +kernel
theorem dL_law_737 : decode cL_law 737 = .ok (.iload_n 3, 1) := by decide +kernel
theorem dL_law_738 : decode cL_law 738 = .ok (.iconst 1, 1) := by decide +kernel
theorem dL_law_739 : decode cL_law 739 = .ok (.iadd, 1) := by decide +kernel
theorem dL_law_740 : decode cL_law 740 = .ok (.iaload, 1) := by decide +kernel
theorem dL_law_741 : decode cL_law 741 = .ok (.invokevirtual 103, 3) := by decide +kernel
theorem dL_law_744 : decode cL_law 744 = .ok (.aload_n 2, 1) := by decide +kernel
theorem dL_law_745 : decode cL_law 745 = .ok (.aload_n 0, 1) := by decide +kernel
theorem dL_law_746 : decode cL_law 746 = .ok (.iload_n 3, 1) := by decide +kernel
theorem dL_law_747 : decode cL_law 747 = .ok (.iconst 1, 1) := by decide +kernel
theorem dL_law_748 : decode cL_law 748 = .ok (.iadd, 1) := by decide +kernel
theorem dL_law_749 : decode cL_law 749 = .ok (.iaload, 1) := by decide +kernel
theorem dL_law_750 : decode cL_law 750 = .ok (.invokevirtual 106, 3) := by decide +kernel
theorem dL_law_753 : decode cL_law 753 = .ok (.if_icmp .eq 28, 3) := by decide +kernel
theorem dL_law_756 : decode cL_law 756 = .ok (.iconst 0, 1) := by decide +kernel
theorem dL_law_757 : decode cL_law 757 = .ok (.ireturn, 1) := by decide +kernel
theorem dL_law_758 : decode cL_law 758 = .ok (.aload_n 1, 1) := by decide +kernel
theorem dL_law_759 : decode cL_law 759 = .ok (.aload_n 0, 1) := by decide +kernel
theorem dL_law_760 : decode cL_law 760 = .ok (.iload_n 3, 1) := by decide +kernel
theorem dL_law_761 : decode cL_law 761 = .ok (.iconst 1, 1) := by decide +kernel
theorem dL_law_762 : decode cL_law 762 = .ok (.iadd, 1) := by decide +kernel
theorem dL_law_763 : decode cL_law 763 = .ok (.iaload, 1) := by decide +kernel
theorem dL_law_764 : decode cL_law 764 = .ok (.invokevirtual 107, 3) := by decide +kernel
theorem dL_law_767 : decode cL_law 767 = .ok (.aload_n 2, 1) := by decide +kernel
theorem dL_law_768 : decode cL_law 768 = .ok (.aload_n 0, 1) := by decide +kernel
theorem dL_law_769 : decode cL_law 769 = .ok (.iload_n 3, 1) := by decide +kernel
theorem dL_law_770 : decode cL_law 770 = .ok (.iconst 1, 1) := by decide +kernel
theorem dL_law_771 : decode cL_law 771 = .ok (.iadd, 1) := by decide +kernel
theorem dL_law_772 : decode cL_law 772 = .ok (.iaload, 1) := by decide +kernel
theorem dL_law_773 : decode cL_law 773 = .ok (.invokevirtual 110, 3) := by decide +kernel
theorem dL_law_776 : decode cL_law 776 = .ok (.if_icmp .eq 5, 3) := by decide +kernel
theorem dL_law_779 : decode cL_law 779 = .ok (.iconst 0, 1) := by decide +kernel
theorem dL_law_780 : decode cL_law 780 = .ok (.ireturn, 1) := by decide +kernel
theorem dL_law_781 : decode cL_law 781 = .ok (.iinc 3 5, 3) := by decide +kernel
theorem dL_law_784 : decode cL_law 784 = .ok (.goto (-766), 3) := by decide +kernel
theorem dL_law_787 : decode cL_law 787 = .ok (.iconst 1, 1) := by decide +kernel
theorem dL_law_788 : decode cL_law 788 = .ok (.ireturn, 1) := by decide +kernel
end
section
/-! MEMORY: addresses, what stands at each, its numbers and its references -/
abbrev Tg : Type := (Nat × Nat) ⊕ Nat
abbrev MK : Type := Nat → Option Tg
abbrev MR : Type := Nat → Nat → Int32 → Option Nat
abbrev MI : Type := Nat → Nat → Int32
abbrev Ev : Type := va_G × (Nat → ClassId) × Nat
abbrev ix (x : Int32) : Nat := x.toNatClampNeg
def upI (I : MI) (a k : Nat) (x : Int32) : MI := fun b j => if b = a ∧ j = k then x else I b j
def upR (R : MR) (a k : Nat) (v : Nat) : MR := fun b j => if b = a ∧ j = k then (fun _ => some v) else R b j
def upK (K : MK) (a : Nat) (t : Tg) : MK := fun b => if b = a then some t else K b
def clI (I : MI) (a : Nat) : MI := fun b => if b = a then (fun _ => 0) else I b
def clR (R : MR) (a : Nat) : MR := fun b => if b = a then (fun _ _ => none) else R b
def cpI (I : MI) (a b : Nat) (sp dp n : Nat) : MI := fun q => if q = b then va_cpy (I a) (I b) sp dp n else I q
theorem upI_at (I : MI) (a k : Nat) (x : Int32) : upI I a k x a = fun j => if j = k then x else I a j := by funext j; simp [upI]
theorem upI_ne (I : MI) {a b : Nat} (k : Nat) (x : Int32) (h : b ≠ a) : upI I a k x b = I b := by funext j; simp [upI, h]
theorem upR_at (R : MR) (a k v : Nat) : upR R a k v a = fun j => if j = k then (fun _ => some v) else R a j := by funext j; simp [upR]
theorem upR_ne (R : MR) {a b : Nat} (k v : Nat) (h : b ≠ a) : upR R a k v b = R b := by funext j; simp [upR, h]
theorem ex_eq {α : Type} (x : α) : ∃ y : α, y = x := ⟨x, rfl⟩
/-- what an object of a kind holds: its references by r, its numbers by i -/
def fl : Nat → (Nat → Int32 → Option Nat) → (Nat → Int32) → List Value
  | 0, r, i => [va_rf (r 0 (i 0)), va_rf (r 1 (i 1)), va_rf (r 2 (i 2)), va_rf (r 3 (i 3)), va_rf (r 4 (i 4)), .int (i 5), .int (i 6), .int (i 7), .int (i 8), .int (i 9), .int (i 10), .int (i 11), .int (i 12), .int (i 13), .int (i 14)]
  | 1, r, i => [va_rf (r 0 (i 0)), .int (i 1)]
  | 2, r, i => [va_rf (r 0 (i 0)), .int (i 1), .int (i 2), .int (i 3), .int (i 4), .int (i 5), .int (i 6), .int (i 7)]
  | 3, r, i => [.int (i 0), .int (i 1), .int (i 2), .int (i 3), .int (i 4), .int (i 5), .int (i 6), .int (i 7), .int (i 8), .int (i 9), .int (i 10)]
  | 4, r, i => [va_rf (r 0 (i 0)), .int (i 1), va_rf (r 2 (i 2)), .int (i 3), .int (i 4)]
  | 5, r, i => [va_rf (r 0 (i 0)), va_rf (r 1 (i 1)), va_rf (r 2 (i 2))]
  | 6, r, i => [va_rf (r 0 (i 0)), va_rf (r 1 (i 1)), va_rf (r 2 (i 2)), .int (i 3), va_rf (r 4 (i 4)), .int (i 5), va_rf (r 6 (i 6))]
  | 7, r, i => [va_rf (r 0 (i 0)), va_rf (r 1 (i 1)), va_rf (r 2 (i 2)), .int (i 3), va_rf (r 4 (i 4)), .int (i 5), va_rf (r 6 (i 6)), .int (i 7), .int (i 8), .int (i 9), va_rf (r 10 (i 10)), va_rf (r 11 (i 11)), .int (i 12)]
  | _, _, _ => []
theorem fl_r_0_0 (r : Nat → Int32 → Option Nat) (i : Nat → Int32) (v : Nat) : (fl 0 r i).set 0 (.ref v) = fl 0 (fun j => if j = 0 then (fun _ => some v) else r j) i := rfl
theorem fl_r_0_1 (r : Nat → Int32 → Option Nat) (i : Nat → Int32) (v : Nat) : (fl 0 r i).set 1 (.ref v) = fl 0 (fun j => if j = 1 then (fun _ => some v) else r j) i := rfl
theorem fl_r_0_2 (r : Nat → Int32 → Option Nat) (i : Nat → Int32) (v : Nat) : (fl 0 r i).set 2 (.ref v) = fl 0 (fun j => if j = 2 then (fun _ => some v) else r j) i := rfl
theorem fl_r_0_3 (r : Nat → Int32 → Option Nat) (i : Nat → Int32) (v : Nat) : (fl 0 r i).set 3 (.ref v) = fl 0 (fun j => if j = 3 then (fun _ => some v) else r j) i := rfl
theorem fl_r_0_4 (r : Nat → Int32 → Option Nat) (i : Nat → Int32) (v : Nat) : (fl 0 r i).set 4 (.ref v) = fl 0 (fun j => if j = 4 then (fun _ => some v) else r j) i := rfl
theorem fl_i_0_5 (r : Nat → Int32 → Option Nat) (i : Nat → Int32) (x : Int32) : (fl 0 r i).set 5 (.int x) = fl 0 r (fun j => if j = 5 then x else i j) := rfl
theorem fl_i_0_6 (r : Nat → Int32 → Option Nat) (i : Nat → Int32) (x : Int32) : (fl 0 r i).set 6 (.int x) = fl 0 r (fun j => if j = 6 then x else i j) := rfl
theorem fl_i_0_7 (r : Nat → Int32 → Option Nat) (i : Nat → Int32) (x : Int32) : (fl 0 r i).set 7 (.int x) = fl 0 r (fun j => if j = 7 then x else i j) := rfl
theorem fl_i_0_8 (r : Nat → Int32 → Option Nat) (i : Nat → Int32) (x : Int32) : (fl 0 r i).set 8 (.int x) = fl 0 r (fun j => if j = 8 then x else i j) := rfl
theorem fl_i_0_9 (r : Nat → Int32 → Option Nat) (i : Nat → Int32) (x : Int32) : (fl 0 r i).set 9 (.int x) = fl 0 r (fun j => if j = 9 then x else i j) := rfl
theorem fl_i_0_10 (r : Nat → Int32 → Option Nat) (i : Nat → Int32) (x : Int32) : (fl 0 r i).set 10 (.int x) = fl 0 r (fun j => if j = 10 then x else i j) := rfl
theorem fl_i_0_11 (r : Nat → Int32 → Option Nat) (i : Nat → Int32) (x : Int32) : (fl 0 r i).set 11 (.int x) = fl 0 r (fun j => if j = 11 then x else i j) := rfl
theorem fl_i_0_12 (r : Nat → Int32 → Option Nat) (i : Nat → Int32) (x : Int32) : (fl 0 r i).set 12 (.int x) = fl 0 r (fun j => if j = 12 then x else i j) := rfl
theorem fl_i_0_13 (r : Nat → Int32 → Option Nat) (i : Nat → Int32) (x : Int32) : (fl 0 r i).set 13 (.int x) = fl 0 r (fun j => if j = 13 then x else i j) := rfl
theorem fl_i_0_14 (r : Nat → Int32 → Option Nat) (i : Nat → Int32) (x : Int32) : (fl 0 r i).set 14 (.int x) = fl 0 r (fun j => if j = 14 then x else i j) := rfl
theorem fl_r_1_0 (r : Nat → Int32 → Option Nat) (i : Nat → Int32) (v : Nat) : (fl 1 r i).set 0 (.ref v) = fl 1 (fun j => if j = 0 then (fun _ => some v) else r j) i := rfl
theorem fl_i_1_1 (r : Nat → Int32 → Option Nat) (i : Nat → Int32) (x : Int32) : (fl 1 r i).set 1 (.int x) = fl 1 r (fun j => if j = 1 then x else i j) := rfl
theorem fl_r_2_0 (r : Nat → Int32 → Option Nat) (i : Nat → Int32) (v : Nat) : (fl 2 r i).set 0 (.ref v) = fl 2 (fun j => if j = 0 then (fun _ => some v) else r j) i := rfl
theorem fl_i_2_1 (r : Nat → Int32 → Option Nat) (i : Nat → Int32) (x : Int32) : (fl 2 r i).set 1 (.int x) = fl 2 r (fun j => if j = 1 then x else i j) := rfl
theorem fl_i_2_2 (r : Nat → Int32 → Option Nat) (i : Nat → Int32) (x : Int32) : (fl 2 r i).set 2 (.int x) = fl 2 r (fun j => if j = 2 then x else i j) := rfl
theorem fl_i_2_3 (r : Nat → Int32 → Option Nat) (i : Nat → Int32) (x : Int32) : (fl 2 r i).set 3 (.int x) = fl 2 r (fun j => if j = 3 then x else i j) := rfl
theorem fl_i_2_4 (r : Nat → Int32 → Option Nat) (i : Nat → Int32) (x : Int32) : (fl 2 r i).set 4 (.int x) = fl 2 r (fun j => if j = 4 then x else i j) := rfl
theorem fl_i_2_5 (r : Nat → Int32 → Option Nat) (i : Nat → Int32) (x : Int32) : (fl 2 r i).set 5 (.int x) = fl 2 r (fun j => if j = 5 then x else i j) := rfl
theorem fl_i_2_6 (r : Nat → Int32 → Option Nat) (i : Nat → Int32) (x : Int32) : (fl 2 r i).set 6 (.int x) = fl 2 r (fun j => if j = 6 then x else i j) := rfl
theorem fl_i_2_7 (r : Nat → Int32 → Option Nat) (i : Nat → Int32) (x : Int32) : (fl 2 r i).set 7 (.int x) = fl 2 r (fun j => if j = 7 then x else i j) := rfl
theorem fl_i_3_0 (r : Nat → Int32 → Option Nat) (i : Nat → Int32) (x : Int32) : (fl 3 r i).set 0 (.int x) = fl 3 r (fun j => if j = 0 then x else i j) := rfl
theorem fl_i_3_1 (r : Nat → Int32 → Option Nat) (i : Nat → Int32) (x : Int32) : (fl 3 r i).set 1 (.int x) = fl 3 r (fun j => if j = 1 then x else i j) := rfl
theorem fl_i_3_2 (r : Nat → Int32 → Option Nat) (i : Nat → Int32) (x : Int32) : (fl 3 r i).set 2 (.int x) = fl 3 r (fun j => if j = 2 then x else i j) := rfl
theorem fl_i_3_3 (r : Nat → Int32 → Option Nat) (i : Nat → Int32) (x : Int32) : (fl 3 r i).set 3 (.int x) = fl 3 r (fun j => if j = 3 then x else i j) := rfl
theorem fl_i_3_4 (r : Nat → Int32 → Option Nat) (i : Nat → Int32) (x : Int32) : (fl 3 r i).set 4 (.int x) = fl 3 r (fun j => if j = 4 then x else i j) := rfl
theorem fl_i_3_5 (r : Nat → Int32 → Option Nat) (i : Nat → Int32) (x : Int32) : (fl 3 r i).set 5 (.int x) = fl 3 r (fun j => if j = 5 then x else i j) := rfl
theorem fl_i_3_6 (r : Nat → Int32 → Option Nat) (i : Nat → Int32) (x : Int32) : (fl 3 r i).set 6 (.int x) = fl 3 r (fun j => if j = 6 then x else i j) := rfl
theorem fl_i_3_7 (r : Nat → Int32 → Option Nat) (i : Nat → Int32) (x : Int32) : (fl 3 r i).set 7 (.int x) = fl 3 r (fun j => if j = 7 then x else i j) := rfl
theorem fl_i_3_8 (r : Nat → Int32 → Option Nat) (i : Nat → Int32) (x : Int32) : (fl 3 r i).set 8 (.int x) = fl 3 r (fun j => if j = 8 then x else i j) := rfl
theorem fl_i_3_9 (r : Nat → Int32 → Option Nat) (i : Nat → Int32) (x : Int32) : (fl 3 r i).set 9 (.int x) = fl 3 r (fun j => if j = 9 then x else i j) := rfl
theorem fl_i_3_10 (r : Nat → Int32 → Option Nat) (i : Nat → Int32) (x : Int32) : (fl 3 r i).set 10 (.int x) = fl 3 r (fun j => if j = 10 then x else i j) := rfl
theorem fl_r_4_0 (r : Nat → Int32 → Option Nat) (i : Nat → Int32) (v : Nat) : (fl 4 r i).set 0 (.ref v) = fl 4 (fun j => if j = 0 then (fun _ => some v) else r j) i := rfl
theorem fl_i_4_1 (r : Nat → Int32 → Option Nat) (i : Nat → Int32) (x : Int32) : (fl 4 r i).set 1 (.int x) = fl 4 r (fun j => if j = 1 then x else i j) := rfl
theorem fl_r_4_2 (r : Nat → Int32 → Option Nat) (i : Nat → Int32) (v : Nat) : (fl 4 r i).set 2 (.ref v) = fl 4 (fun j => if j = 2 then (fun _ => some v) else r j) i := rfl
theorem fl_i_4_3 (r : Nat → Int32 → Option Nat) (i : Nat → Int32) (x : Int32) : (fl 4 r i).set 3 (.int x) = fl 4 r (fun j => if j = 3 then x else i j) := rfl
theorem fl_i_4_4 (r : Nat → Int32 → Option Nat) (i : Nat → Int32) (x : Int32) : (fl 4 r i).set 4 (.int x) = fl 4 r (fun j => if j = 4 then x else i j) := rfl
theorem fl_r_5_0 (r : Nat → Int32 → Option Nat) (i : Nat → Int32) (v : Nat) : (fl 5 r i).set 0 (.ref v) = fl 5 (fun j => if j = 0 then (fun _ => some v) else r j) i := rfl
theorem fl_r_5_1 (r : Nat → Int32 → Option Nat) (i : Nat → Int32) (v : Nat) : (fl 5 r i).set 1 (.ref v) = fl 5 (fun j => if j = 1 then (fun _ => some v) else r j) i := rfl
theorem fl_r_5_2 (r : Nat → Int32 → Option Nat) (i : Nat → Int32) (v : Nat) : (fl 5 r i).set 2 (.ref v) = fl 5 (fun j => if j = 2 then (fun _ => some v) else r j) i := rfl
theorem fl_r_6_0 (r : Nat → Int32 → Option Nat) (i : Nat → Int32) (v : Nat) : (fl 6 r i).set 0 (.ref v) = fl 6 (fun j => if j = 0 then (fun _ => some v) else r j) i := rfl
theorem fl_r_6_1 (r : Nat → Int32 → Option Nat) (i : Nat → Int32) (v : Nat) : (fl 6 r i).set 1 (.ref v) = fl 6 (fun j => if j = 1 then (fun _ => some v) else r j) i := rfl
theorem fl_r_6_2 (r : Nat → Int32 → Option Nat) (i : Nat → Int32) (v : Nat) : (fl 6 r i).set 2 (.ref v) = fl 6 (fun j => if j = 2 then (fun _ => some v) else r j) i := rfl
theorem fl_i_6_3 (r : Nat → Int32 → Option Nat) (i : Nat → Int32) (x : Int32) : (fl 6 r i).set 3 (.int x) = fl 6 r (fun j => if j = 3 then x else i j) := rfl
theorem fl_r_6_4 (r : Nat → Int32 → Option Nat) (i : Nat → Int32) (v : Nat) : (fl 6 r i).set 4 (.ref v) = fl 6 (fun j => if j = 4 then (fun _ => some v) else r j) i := rfl
theorem fl_i_6_5 (r : Nat → Int32 → Option Nat) (i : Nat → Int32) (x : Int32) : (fl 6 r i).set 5 (.int x) = fl 6 r (fun j => if j = 5 then x else i j) := rfl
theorem fl_r_6_6 (r : Nat → Int32 → Option Nat) (i : Nat → Int32) (v : Nat) : (fl 6 r i).set 6 (.ref v) = fl 6 (fun j => if j = 6 then (fun _ => some v) else r j) i := rfl
theorem fl_r_7_0 (r : Nat → Int32 → Option Nat) (i : Nat → Int32) (v : Nat) : (fl 7 r i).set 0 (.ref v) = fl 7 (fun j => if j = 0 then (fun _ => some v) else r j) i := rfl
theorem fl_r_7_1 (r : Nat → Int32 → Option Nat) (i : Nat → Int32) (v : Nat) : (fl 7 r i).set 1 (.ref v) = fl 7 (fun j => if j = 1 then (fun _ => some v) else r j) i := rfl
theorem fl_r_7_2 (r : Nat → Int32 → Option Nat) (i : Nat → Int32) (v : Nat) : (fl 7 r i).set 2 (.ref v) = fl 7 (fun j => if j = 2 then (fun _ => some v) else r j) i := rfl
theorem fl_i_7_3 (r : Nat → Int32 → Option Nat) (i : Nat → Int32) (x : Int32) : (fl 7 r i).set 3 (.int x) = fl 7 r (fun j => if j = 3 then x else i j) := rfl
theorem fl_r_7_4 (r : Nat → Int32 → Option Nat) (i : Nat → Int32) (v : Nat) : (fl 7 r i).set 4 (.ref v) = fl 7 (fun j => if j = 4 then (fun _ => some v) else r j) i := rfl
theorem fl_i_7_5 (r : Nat → Int32 → Option Nat) (i : Nat → Int32) (x : Int32) : (fl 7 r i).set 5 (.int x) = fl 7 r (fun j => if j = 5 then x else i j) := rfl
theorem fl_r_7_6 (r : Nat → Int32 → Option Nat) (i : Nat → Int32) (v : Nat) : (fl 7 r i).set 6 (.ref v) = fl 7 (fun j => if j = 6 then (fun _ => some v) else r j) i := rfl
theorem fl_i_7_7 (r : Nat → Int32 → Option Nat) (i : Nat → Int32) (x : Int32) : (fl 7 r i).set 7 (.int x) = fl 7 r (fun j => if j = 7 then x else i j) := rfl
theorem fl_i_7_8 (r : Nat → Int32 → Option Nat) (i : Nat → Int32) (x : Int32) : (fl 7 r i).set 8 (.int x) = fl 7 r (fun j => if j = 8 then x else i j) := rfl
theorem fl_i_7_9 (r : Nat → Int32 → Option Nat) (i : Nat → Int32) (x : Int32) : (fl 7 r i).set 9 (.int x) = fl 7 r (fun j => if j = 9 then x else i j) := rfl
theorem fl_r_7_10 (r : Nat → Int32 → Option Nat) (i : Nat → Int32) (v : Nat) : (fl 7 r i).set 10 (.ref v) = fl 7 (fun j => if j = 10 then (fun _ => some v) else r j) i := rfl
theorem fl_r_7_11 (r : Nat → Int32 → Option Nat) (i : Nat → Int32) (v : Nat) : (fl 7 r i).set 11 (.ref v) = fl 7 (fun j => if j = 11 then (fun _ => some v) else r j) i := rfl
theorem fl_i_7_12 (r : Nat → Int32 → Option Nat) (i : Nat → Int32) (x : Int32) : (fl 7 r i).set 12 (.int x) = fl 7 r (fun j => if j = 12 then x else i j) := rfl
/-- the kinds of arrays -/
def tyA : Nat → FieldType
  | 0 => .int
  | 1 => .char
  | 2 => .object "TagBus$Master"
  | 3 => .object "TagBus$Target"
  | 4 => .object "TagBus$Question"
  | _ => .object "TagBus$Bus"
def tyL (A : Nat → ClassId) : List (ClassId × FieldType) := [(A 0, tyA 0), (A 1, tyA 1), (A 2, tyA 2), (A 3, tyA 3), (A 4, tyA 4), (A 5, tyA 5)]
def isI (t : Nat) : Bool := t == 0 || t == 1
def arC (A : Nat → ClassId) (t n : Nat) (r : Nat → Int32 → Option Nat) (i : Nat → Int32) : Cell := if isI t = true then arrV (A t) n (fun j => .int (i j)) else arrV (A t) n (fun j => va_rf (r j (i j)))
theorem arC_i (A : Nat → ClassId) {t : Nat} (h : isI t = true) (n : Nat) (r : Nat → Int32 → Option Nat) (i : Nat → Int32) : arC A t n r i = arrV (A t) n (fun j => .int (i j)) := by simp [arC, h]
theorem arC_r (A : Nat → ClassId) {t : Nat} (h : isI t = false) (n : Nat) (r : Nat → Int32 → Option Nat) (i : Nat → Int32) : arC A t n r i = arrV (A t) n (fun j => va_rf (r j (i j))) := by simp [arC, h]
def atE (E : Ev) (t : Tg) (r : Nat → Int32 → Option Nat) (i : Nat → Int32) (a : Nat) (H : Heap) : Prop := match t with
  | .inl q => H[a]? = some (arC E.2.1 q.1 q.2 r i)
  | .inr k => ∃ q : vw_C, vwCl[k]? = some q ∧ t_OB a (E.1.1 k) q.2.2 (E.1.2 k) H (vp_V (fl k r i))
theorem atE.kept {E : Ev} {t : Tg} {r : Nat → Int32 → Option Nat} {i : Nat → Int32} {a : Nat} {H H1 : Heap} (h : atE E t r i a H) (hq : H1[a]? = H[a]?) : atE E t r i a H1 := by
  cases t with
  | inl q => exact hq.trans h
  | inr k =>
    obtain ⟨q, h1, h2⟩ := h
    exact ⟨q, h1, h2.kept hq⟩
theorem atE.lt {E : Ev} {t : Tg} {r : Nat → Int32 → Option Nat} {i : Nat → Int32} {a : Nat} {H : Heap} (h : atE E t r i a H) : a < H.size := by
  cases t with
  | inl q => exact (Array.getElem?_eq_some_iff.mp h).1
  | inr k =>
    obtain ⟨q, h1, cell, h2, -⟩ := h
    exact (Array.getElem?_eq_some_iff.mp h2).1
/-- the heap holds the memory -/
def Rep (E : Ev) (K : MK) (R : MR) (I : MI) (n : Nat) (H : Heap) : Prop := H.size = n ∧ ∀ (a : Nat) (t : Tg), K a = some t → E.2.2 ≤ a ∧ atE E t (R a) (I a) a H
def AA (E : Ev) : Nat → Prop := fun q => E.2.2 ≤ q
def stN : Nat → String
  | 0 => "LEAST_SETTING"
  | 1 => "MOST_SETTING"
  | 2 => "LEAST_OF_TARGET"
  | _ => "MOST_OF_TARGET"
def stL : Nat → List Int32
  | 0 => [1, 0, 1]
  | 1 => [8, 2, 50]
  | 2 => [1, 1, 0]
  | _ => [4, 9, 1]
def stV (k j : Nat) : Value := .int ((stL k).getD j 0)
/-- what the tables say, and the static arrays hold, in a state -/
def Kx (E : Ev) (U : State) : Prop := va_K E.1 vwCl (tyL E.2.1) U ∧ (∀ q ∈ nestM, va_Nw (.methodLinkNest q.1 q.2.1 q.2.2.1 q.2.2.2) U) ∧ (∀ C ∈ ["TagBus$Master", "TagBus$Target", "TagBus$Question", "TagBus$Bus"], va_AO C U) ∧ E.2.2 ≤ U.heap.size ∧
  ∀ k, k < 4 → ∃ t : Nat, va_Z "TagBus" (stN k) "[I" (.ref t) (AA E) U U.heap ∧ va_T .int t 3 (stV k) (AA E) U U.heap
theorem Kx.go {E : Ev} {s U : State} {H : Heap} {locs : List Loc} (h : Kx E s) (hW : s.WarmedH U.vm) (hH : U.heap = H) (hS : va_S (AA E) s.heap H locs) : Kx E U := by
  subst hH
  obtain ⟨h1, h2, h3, h4, h5⟩ := h
  refine ⟨va_K.moved hW.alike h1, fun q hq => va_Nw.warmM hW (h2 q hq), fun C hC => va_AO.moved hW.alike (h3 C hC), Nat.le_trans h4 hS.1, fun k hk => ?_⟩
  obtain ⟨t, g1, g2⟩ := h5 k hk
  exact ⟨t, (va_Z.moved hW.alike g1).kept hS.2.1, (va_T.moved hW.alike g2).kept hS.2.1⟩
theorem Kx.same {E : Ev} {s U : State} (hv : s.vm = U.vm) (hH : s.heap = U.heap) (h : Kx E s) : Kx E U := by
  obtain ⟨h1, h2, h3, h4, h5⟩ := h
  have hal : s.vm.Alike U.vm := by rw [hv]; exact Vm.Alike.refl _
  refine ⟨va_K.moved hal h1, fun q hq => va_Nw.same rfl hv (h2 q hq), fun C hC => va_AO.moved hal (h3 C hC), by rw [← hH]; exact h4, fun k hk => ?_⟩
  obtain ⟨t, g1, g2⟩ := h5 k hk
  exact ⟨t, by rw [← hH]; exact va_Z.moved hal g1, by rw [← hH]; exact va_T.moved hal g2⟩
/-- a method's end -/
def QcM (E : Ev) (Q : Option Value → MK → MR → MI → Nat → Prop) : Array Value → State → Outcome → State → Prop := fun _ st o t => (∃ (r : Option Value) (K' : MK) (R' : MR) (I' : MI) (n' : Nat), o = .returned r ∧ Rep E K' R' I' n' t.heap ∧ Q r K' R' I' n') ∧ va_F (AA E) st t
def PcM (E : Ev) (args : List Value) (K : MK) (R : MR) (I : MI) (n : Nat) : Array Value → State → Prop := va_Pc args (fun U => Rep E K R I n U.heap ∧ Kx E U)
abbrev rmM (fr lo mc ms : Nat) : Room := { frames := fr, cells := mc, slots := ms, locals := lo }
/-- a method's contract -/
def MM (E : Ev) (l : Launch) (y : MethodName) (b : ByteArray) (nL : Nat) (ret : Option FieldType) (fr lo mc ms : Nat) (args : List Value) (K : MK) (R : MR) (I : MI) (n : Nat) (Q : Option Value → MK → MR → MI → Nat → Prop) : Prop :=
  Met l y (.code y b nL ret :: Gt) (rmM fr lo mc ms) (PcM E args K R I n) (QcM E Q) mc ms (AA E)
theorem PcM.blind {E : Ev} {args : List Value} {K : MK} {R : MR} {I : MI} {n : Nat} : FrameBlind (PcM E args K R I n) := fun a U g mk q => by
  obtain ⟨q0, q1, q2⟩ := q
  exact ⟨q0, q1, Kx.same (s := U) (U := U.calling g mk a) rfl rfl q2⟩
/-- the words of a method in its body -/
def Cx (E : Ev) (p : Program) (s : State) (m : MethodId) (meth : Method) (c : Code) (cc : ByteArray) (nL : Nat) (own : String) (ret : Option FieldType) (args : Array Value) : Prop := p.tables.exec = Jvm.exec ∧ c.code = cc ∧ c.maxLocals = nL ∧ s.vm.findClass own = some m.cls ∧ (∀ w ∈ Gt, w.before args s = true) ∧ Kx E s ∧ meth.locks = false ∧ meth.sig.returnType = ret
theorem MM.of {E : Ev} {l : Launch} {y : MethodName} {b : ByteArray} {nL : Nat} {ret : Option FieldType} {fr lo mc ms : Nat} {args : List Value} {K : MK} {R : MR} {I : MI} {n : Nat} {Q : Option Value → MK → MR → MI → Nat → Prop} (hy : plainName y.cls = true) (own : String) (hown : y.cls = own) (hsl : (lg_sl args).length ≤ nL)
    (body : ∀ (p : Program) (e : Env) (s : State) (m : MethodId) (av : Array Value) (below : List Frame) (meth : Method) (c : Code) (ls : Array Slot), Cx E p s m meth c b nL own ret av → (y.name = "<init>" → meth.name = "<init>") → Rep E K R I n s.heap → lv_has ls nL (lv_args 0 args) →
      W p l e (rmM fr lo mc ms) s m av below meth c s.heap [] 0 0 (MQ below (QcM E Q) av s mc ms (AA E)) (F0 m 0 ls [])) : MM E l y b nL ret fr lo mc ms args K R I n Q := by
  refine Met.ofW (cc := b) (maxL := nL) (ret := ret) hy rfl ?_
  intro p e s m av below meth c s₁ B hml hv
  obtain ⟨rfl, hR, hK⟩ := hv
  have hts := atoms_spec (ws := .code y b nL ret :: Gt) B.pre
  have hl := lv_entry args hsl
  rw [lg_entry_eq]
  refine body p e s m args.toArray below meth c _ ⟨B.exec, B.bytes, hml, by rw [← hown]; exact findClass_of_methodNamed B.named, fun w hw => hts w (List.mem_cons_of_mem _ hw), hK, B.notSynchronized, B.returns⟩ (fun hn => by rw [(name_of_methodNamed B.named B.method).1]; exact hn) hR hl
/-! ROWS -/
section MROWS
variable {p : Program} {l : Launch} {e : Env} {rm : Room} {s : State} {m : MethodId} {args : Array Value} {below : List Frame} {meth : Method} {c : Code} {H : Heap} {locs : List Loc} {cells slots : Nat} {Qw : State → Prop}
variable {cc : ByteArray} {nL pc : Nat} {ls : Array Slot} {rest st0 : List Value} {E : Ev} {K : MK} {R : MR} {I : MI} {n a : Nat} {own : String} {ret : Option FieldType}
theorem v_iret {Q : Option Value → MK → MR → MI → Nat → Prop} {ty : FieldType} (C : Cx E p s m meth c cc nL own ret args) (hr : ret = some ty) {v : Int32} (hn : narrow ty (.int v) = .int v) (hR : Rep E K R I n H) (hS : va_S (AA E) s.heap H locs) (hQ : Q (some (.int v)) K R I n) (hdg : decode cc pc = .ok (.ireturn, 1)) :
    W p l e rm s m args below meth c H locs cells slots (MQ below (QcM E Q) args s cells slots (AA E)) (F0 m pc ls [.int v]) := by
  obtain ⟨hx, hb, hml, hown, hts, hK, hlocks, hret⟩ := C
  exact W.zret (ty := ty) hx hb (hret.trans hr) hn (fun t ht hW => ⟨⟨_, K, R, I, n, rfl, by rw [ht]; exact hR, hQ⟩, hS.F ht⟩) hS.2.2 hdg
theorem v_vret {Q : Option Value → MK → MR → MI → Nat → Prop} (C : Cx E p s m meth c cc nL own ret args) (hr : ret = none) (hR : Rep E K R I n H) (hS : va_S (AA E) s.heap H locs) (hQ : Q none K R I n) (hdg : decode cc pc = .ok (.return_, 1)) :
    W p l e rm s m args below meth c H locs cells slots (MQ below (QcM E Q) args s cells slots (AA E)) (F0 m pc ls []) := by
  obtain ⟨hx, hb, hml, hown, hts, hK, hlocks, hret⟩ := C
  exact W.vret hx hb (hret.trans hr) (fun t ht hW => ⟨⟨_, K, R, I, n, rfl, by rw [ht]; exact hR, hQ⟩, hS.F ht⟩) hS.2.2 hdg
theorem v_aret {Q : Option Value → MK → MR → MI → Nat → Prop} {C0 : String} (C : Cx E p s m meth c cc nL own ret args) (hr : ret = some (.object C0)) {o : Option Nat} (hR : Rep E K R I n H) (hS : va_S (AA E) s.heap H locs) (hQ : Q (some (va_rf o)) K R I n) (hdg : decode cc pc = .ok (.areturn, 1)) :
    W p l e rm s m args below meth c H locs cells slots (MQ below (QcM E Q) args s cells slots (AA E)) (F0 m pc ls [va_rf o]) := by
  obtain ⟨hx, hb, hml, hown, hts, hK, hlocks, hret⟩ := C
  exact W.aret (rt := .object C0) hx hb (hret.trans hr) (Or.inl ⟨_, rfl⟩) (by cases o <;> simp [va_rf]) (fun t ht hW => ⟨⟨_, K, R, I, n, rfl, by rw [ht]; exact hR, hQ⟩, hS.F ht⟩) hS.2.2 hdg
/-- references that may be null -/
theorem v_aload_n (hexec : p.tables.exec = Jvm.exec) (hb : c.code = cc) {k : Fin 4} {i : Nat} {o : Option Nat} (hdg : decode cc pc = .ok (.aload_n k, 1)) (hi : (k : Nat) = i) (hl : ls[i]? = some (.val (va_rf o)))
    (kk : W p l e rm s m args below meth c H locs cells slots Qw (F0 m (pc + 1) ls (va_rf o :: rest))) : W p l e rm s m args below meth c H locs cells slots Qw (F0 m pc ls (rest)) := by
  cases o with
  | none => exact lv_aload_nN hexec hb hdg hi hl kk
  | some x => exact lv_aload_n hexec hb hdg hi hl kk
theorem v_aload (hexec : p.tables.exec = Jvm.exec) (hb : c.code = cc) {i : Nat} {o : Option Nat} (hdg : decode cc pc = .ok (.aload i, 2)) (hl : ls[i]? = some (.val (va_rf o)))
    (kk : W p l e rm s m args below meth c H locs cells slots Qw (F0 m (pc + 2) ls (va_rf o :: rest))) : W p l e rm s m args below meth c H locs cells slots Qw (F0 m pc ls (rest)) := by
  cases o with
  | none => exact lv_aloadN hexec hb hdg hl kk
  | some x => exact lv_aload hexec hb hdg hl kk
theorem v_ifnull (hexec : p.tables.exec = Jvm.exec) (hb : c.code = cc) {o : Option Nat} {off : Int} {tgt : Nat} (hdg : decode cc pc = .ok (.ifnull off, 3)) (ht : (pc : Int) + off = (tgt : Int))
    (k1 : o = none → W p l e rm s m args below meth c H locs cells slots Qw (F0 m tgt ls rest)) (k2 : ∀ a, o = some a → W p l e rm s m args below meth c H locs cells slots Qw (F0 m (pc + 3) ls rest)) : W p l e rm s m args below meth c H locs cells slots Qw (F0 m pc ls (va_rf o :: rest)) := by
  cases o with
  | none => exact lv_ifnullN hexec hb hdg ht (k1 rfl)
  | some x => exact lv_ifnull hexec hb hdg (k2 x rfl)
theorem v_ifnonnull (hexec : p.tables.exec = Jvm.exec) (hb : c.code = cc) {o : Option Nat} {off : Int} {tgt : Nat} (hdg : decode cc pc = .ok (.ifnonnull off, 3)) (ht : (pc : Int) + off = (tgt : Int))
    (k1 : o = none → W p l e rm s m args below meth c H locs cells slots Qw (F0 m (pc + 3) ls rest)) (k2 : ∀ a, o = some a → W p l e rm s m args below meth c H locs cells slots Qw (F0 m tgt ls rest)) : W p l e rm s m args below meth c H locs cells slots Qw (F0 m pc ls (va_rf o :: rest)) := by
  cases o with
  | none => exact lv_ifnonnullN hexec hb hdg (k1 rfl)
  | some x => exact lv_ifnonnull hexec hb hdg ht (k2 x rfl)
/-- fields -/
theorem Rep.P {t : Nat} (hR : Rep E K R I n H) (hK : K a = some (.inr t)) : va_P E.1 vwCl [(a, .inr (t, fl t (R a) (I a)))] H := by
  intro k q hq
  match k, hq with
  | 0, hq => cases hq; exact (hR.2 a _ hK).2
  | k + 1, hq => simp at hq
theorem v_get {C0 ref : String} {T : u_T} {N ci index : Nat} (C : Cx E p s m meth c cc nL own ret args) (hR : Rep E K R I n H) (k : Nat) (hlink : Cond.fieldLink own index ref (T k).2.1 (T k).2.2.1 ∈ Gt) (hc : vwCl[ci]? = some (C0, T, N)) (hin : ∀ w ∈ u_ws C0 T N, w ∈ Gt) (hk : k < N) (href : (T k).1 = ref)
    (hKa : K a = some (.inr ci)) {v : Value} (hv : (fl ci (R a) (I a))[k]? = some v) (hdg : decode cc pc = .ok (.getfield index, 3))
    (kk : W p l e rm s m args below meth c H locs cells slots Qw (F0 m (pc + 3) ls (v :: rest))) : W p l e rm s m args below meth c H locs cells slots Qw (F0 m pc ls (.ref a :: rest)) := by
  obtain ⟨hx, hb, hml, hown, hts, hK, hlocks, hret⟩ := C
  exact va_get (D := E.1) hx hb hts hin hown hK.1 (hR.P hKa) 0 rfl hc k hk (hts _ hlink) (fun x hx => by rw [← href]; exact hx) hv hdg kk
theorem Rep.putO {ci : Nat} {H1 : Heap} {I1 : MI} {R1 : MR} {cell : Cell} {q : vw_C} (hR : Rep E K R I n H) (hKa : K a = some (.inr ci)) (hc : vwCl[ci]? = some q) (h1 : H1[a]? = some cell) (h2 : cell.cls = E.1.1 ci) (h3 : cell.vm = .none) (h4 : ∀ j, j < q.2.2 → cell.slots[E.1.2 ci j]? = some (vp_V (fl ci (R1 a) (I1 a)) j)) (hsz : H1.size = H.size) (hoq : ∀ q : Nat, q ≠ a → H1[q]? = H[q]?) (hI : ∀ b, b ≠ a → I1 b = I b) (hRR : ∀ b, b ≠ a → R1 b = R b) : Rep E K R1 I1 n H1 := by
  refine ⟨by rw [hsz]; exact hR.1, fun b t hb => ?_⟩
  obtain ⟨g1, g2⟩ := hR.2 b t hb
  by_cases h : b = a
  · subst h
    cases hKa.symm.trans hb
    exact ⟨g1, q, hc, cell, h1, h2, h3, h4⟩
  · refine ⟨g1, ?_⟩
    rw [hI b h, hRR b h]
    exact g2.kept (hoq b h)
theorem v_put {C0 ref : String} {T : u_T} {N ci index : Nat} (C : Cx E p s m meth c cc nL own ret args) (hR : Rep E K R I n H) (hS0 : va_S (AA E) s.heap H locs) (k : Nat) (hlink : Cond.fieldLink own index ref (T k).2.1 (T k).2.2.1 ∈ Gt) (hc : vwCl[ci]? = some (C0, T, N)) (hin : ∀ w ∈ u_ws C0 T N, w ∈ Gt) (ty0 : Nat → FieldType) (hty : ∀ k, k < N → parseFieldDescriptor (T k).2.2.1 = some (ty0 k)) (hnm : ∀ a, a < N → ∀ b, b < N → a ≠ b → (T a).2.1 ≠ (T b).2.1) (hk : k < N) (href : (T k).1 = ref)
    (hKa : K a = some (.inr ci)) (hfin : (T k).2.2.2 = false) {ty : FieldType} {x : Int32} (hd : parseFieldDescriptor (T k).2.2.1 = some ty) (hn : narrow ty (.int x) = .int x) (hfit : fits ty (.int x) = true) (hset : (fl ci (R a) (I a)).set k (.int x) = fl ci (R a) (fun j => if j = k then x else I a j)) (hl : k < (fl ci (R a) (I a)).length) {I1 : MI} (hI : I1 = upI I a k x) (hdg : decode cc pc = .ok (.putfield index, 3))
    (kk : ∀ (H1 : Heap) (locs1 : List Loc), Rep E K R I1 n H1 → va_S (AA E) s.heap H1 locs1 → W p l e rm s m args below meth c H1 locs1 cells slots Qw (F0 m (pc + 3) ls rest)) : W p l e rm s m args below meth c H locs cells slots Qw (F0 m pc ls (.int x :: .ref a :: rest)) := by
  obtain ⟨hx, hb, hml, hown, hts, hK, hlocks, hret⟩ := C
  have hap := va_apart (own := own) hts hin ty0 hty hnm hK.1 hc
  obtain ⟨g1, r, h1, cell, q1, q2, q3, q4⟩ := hR.2 a _ hKa
  have hr : r = (C0, T, N) := Option.some.inj (h1.symm.trans hc)
  subst hr
  obtain ⟨hS, hfc, kC, hkC, hkind⟩ := hK.1.1 ci _ hc
  obtain ⟨cf, kf, fi, f, hi, hsl⟩ := hS k hk
  have hlay := hts _ (hin _ (u_in_lay hk))
  unfold u_lay at hlay
  rw [if_neg (by rw [hfin]; decide)] at hlay
  have hst := (u_facts hfc hkC (u_lays hts hin hk) hi).1
  have h6 := u_store hfc hkC hkind hlay hi hd hn hfit
  refine W.putK hx hb (f := f) ⟨hown, hts _ hlink, ⟨_, _, _, by rw [← href]; exact hi⟩, hst⟩ (by rw [q2]; exact h6) q1 q3 (by rw [hsl]; exact k2_hasslot (q4 k hk)) rfl rfl hdg fun H' e1 e2 e3 => ?_
  rw [hsl] at e1 ⊢
  subst hI
  exact kk H' _ (hR.putO hKa hc e1 q2 q3 (fun j hj => by
    rw [t_set q4 hap hk (.int x) j hj, upI_at, ← hset]
    exact congrArg some (vp_updV_set hl _ j)) e2 e3 (fun b h => upI_ne I k x h) (fun _ _ => rfl)) (hS0.put e2 e3 g1)
/-- a final field that holds a reference, in the constructor -/
theorem v_putF {C0 : String} {T : u_T} {N ci index w : Nat} (C : Cx E p s m meth c cc nL own ret args) (hR : Rep E K R I n H) (hS0 : va_S (AA E) s.heap H locs) (k : Nat) (hlink : Cond.fieldLink own index own (T k).2.1 (T k).2.2.1 ∈ Gt) (hc : vwCl[ci]? = some (C0, T, N)) (hin : ∀ w ∈ u_ws C0 T N, w ∈ Gt) (ty0 : Nat → FieldType) (hty : ∀ k, k < N → parseFieldDescriptor (T k).2.2.1 = some (ty0 k)) (hnm : ∀ a, a < N → ∀ b, b < N → a ≠ b → (T a).2.1 ≠ (T b).2.1) (hk : k < N) (href : (T k).1 = own) (hmi : meth.name = "<init>")
    (hKa : K a = some (.inr ci)) (hfin : (T k).2.2.2 = true) {ty : FieldType} (hd : parseFieldDescriptor (T k).2.2.1 = some ty) (hn : narrow ty (.ref w) = .ref w) (hfit : fits ty (.ref w) = true) (hset : (fl ci (R a) (I a)).set k (.ref w) = fl ci (fun j => if j = k then (fun _ => some w) else R a j) (I a)) (hl : k < (fl ci (R a) (I a)).length) {R1 : MR} (hI : R1 = upR R a k w) (hdg : decode cc pc = .ok (.putfield index, 3))
    (kk : ∀ (H1 : Heap) (locs1 : List Loc), Rep E K R1 I n H1 → va_S (AA E) s.heap H1 locs1 → W p l e rm s m args below meth c H1 locs1 cells slots Qw (F0 m (pc + 3) ls rest)) : W p l e rm s m args below meth c H locs cells slots Qw (F0 m pc ls (.ref w :: .ref a :: rest)) := by
  obtain ⟨hx, hb, hml, hown, hts, hK, hlocks, hret⟩ := C
  have hap := va_apart (own := own) hts hin ty0 hty hnm hK.1 hc
  obtain ⟨g1, r, h1, cell, q1, q2, q3, q4⟩ := hR.2 a _ hKa
  have hr : r = (C0, T, N) := Option.some.inj (h1.symm.trans hc)
  subst hr
  obtain ⟨hS, hfc, kC, hkC, hkind⟩ := hK.1.1 ci _ hc
  obtain ⟨cf, kf, fi, f, hi, hsl⟩ := hS k hk
  have hlay := hts _ (hin _ (u_in_lay hk))
  unfold u_lay at hlay
  rw [if_pos hfin] at hlay
  have hst := (u_facts hfc hkC (u_lays hts hin hk) hi).1
  have hcf : m.cls = cf := by
    obtain ⟨_, _, c', _, _, _, -, -, hf', -, -, -, hown2, -⟩ := Cond.laysFinal_spec hlay
    have e1 : c' = cf := by have := hi.symm.trans hf'; simp at this; exact this.1.symm
    rw [href] at hown2
    rw [← e1]; exact Option.some.inj (hown.symm.trans hown2)
  have h6 := u_fits hfc hkC hkind (Or.inr hlay) hi hd hn hfit
  refine W.putFinK hx hb hown (hts _ hlink) (by rw [← href]; exact hi) hst hcf hmi (by rw [q2]; exact h6) q1 q3 (by rw [hsl]; exact k2_hasslot (q4 k hk)) rfl rfl hdg fun H' e1 e2 e3 => ?_
  rw [hsl] at e1 ⊢
  subst hI
  exact kk H' _ (hR.putO hKa hc e1 q2 q3 (fun j hj => by
    rw [t_set q4 hap hk (.ref w) j hj, upR_at, ← hset]
    exact congrArg some (vp_updV_set hl _ j)) e2 e3 (fun _ _ => rfl) (fun b h => upR_ne R k w h)) (hS0.put e2 e3 g1)
/-- arrays -/
theorem Kx.arr (hK : Kx E s) {t : Nat} (ht : t < 6) : ArrOfT s (E.2.1 t) (tyA t) ∧ va_RA s (E.2.1 t) (tyA t) := by
  obtain ⟨⟨-, h⟩, -⟩ := hK
  exact h t (E.2.1 t, tyA t) (by match t, ht with | 0, _ => rfl | 1, _ => rfl | 2, _ => rfl | 3, _ => rfl | 4, _ => rfl | 5, _ => rfl)
theorem v_iald (C : Cx E p s m meth c cc nL own ret args) (hR : Rep E K R I n H) {N : Nat} (hKa : K a = some (.inl (0, N))) {i : Int32} (hin : vp_in i N) (hdg : decode cc pc = .ok (.iaload, 1))
    (kk : W p l e rm s m args below meth c H locs cells slots Qw (F0 m (pc + 1) ls (.int (I a (ix i)) :: rest))) : W p l e rm s m args below meth c H locs cells slots Qw (F0 m pc ls (.int i :: .ref a :: rest)) := by
  obtain ⟨hx, hb, hml, hown, hts, hK, hlocks, hret⟩ := C
  have hlt : i.toNatClampNeg < N := Nat.not_le.mp fun q => hin (Or.inr q)
  have hat : H[a]? = some (arrV (E.2.1 0) N (fun j => .int (I a j))) := (hR.2 a _ hKa).2
  exact W.iald (v := .int (I a i.toNatClampNeg)) hx hb hat ((hK.arr (t := 0) (by decide)).1 N (fun j => .int (I a j))) (fun q => by cases q) (by rw [arrV_size]; exact hin) (by rw [arrV_read _ _ hlt]) rfl rfl hdg kk
theorem v_cald (C : Cx E p s m meth c cc nL own ret args) (hR : Rep E K R I n H) {N : Nat} (hKa : K a = some (.inl (1, N))) {i : Int32} (hin : vp_in i N) (hdg : decode cc pc = .ok (.caload, 1))
    (kk : W p l e rm s m args below meth c H locs cells slots Qw (F0 m (pc + 1) ls (.int (I a (ix i)) :: rest))) : W p l e rm s m args below meth c H locs cells slots Qw (F0 m pc ls (.int i :: .ref a :: rest)) := by
  obtain ⟨hx, hb, hml, hown, hts, hK, hlocks, hret⟩ := C
  have hlt : i.toNatClampNeg < N := Nat.not_le.mp fun q => hin (Or.inr q)
  have hat : H[a]? = some (arrV (E.2.1 1) N (fun j => .int (I a j))) := (hR.2 a _ hKa).2
  exact W.cald (v := .int (I a i.toNatClampNeg)) hx hb hat ((hK.arr (t := 1) (by decide)).1 N (fun j => .int (I a j))) (fun q => by cases q) (by rw [arrV_size]; exact hin) (by rw [arrV_read _ _ hlt]) rfl rfl hdg kk
theorem v_aald (C : Cx E p s m meth c cc nL own ret args) (hR : Rep E K R I n H) {N t : Nat} (hKa : K a = some (.inl (t, N))) (ht : t < 6) (hr : isI t = false) (hty : (tyA t).isReference = true) {i : Int32} (hin : vp_in i N) {o : Option Nat} (hv : R a (ix i) (I a (ix i)) = o) (hdg : decode cc pc = .ok (.aaload, 1))
    (kk : W p l e rm s m args below meth c H locs cells slots Qw (F0 m (pc + 1) ls (va_rf o :: rest))) : W p l e rm s m args below meth c H locs cells slots Qw (F0 m pc ls (.int i :: .ref a :: rest)) := by
  obtain ⟨hx, hb, hml, hown, hts, hK, hlocks, hret⟩ := C
  have hlt : i.toNatClampNeg < N := Nat.not_le.mp fun q => hin (Or.inr q)
  have hat : H[a]? = some (arrV (E.2.1 t) N (fun j => va_rf (R a j (I a j)))) := by rw [← arC_r E.2.1 hr]; exact (hR.2 a _ hKa).2
  exact W.aald (ty := tyA t) hx hb hat ((hK.arr ht).1 N (fun j => va_rf (R a j (I a j)))) hty (fun q => by cases q) (by rw [arrV_size]; exact hin) (by rw [arrV_read _ _ hlt]; exact congrArg (fun z => some (va_rf z)) hv) rfl rfl hdg kk
theorem Rep.putA {t N : Nat} {H1 : Heap} {I1 : MI} {R1 : MR} (hR : Rep E K R I n H) (hKa : K a = some (.inl (t, N))) (h1 : H1[a]? = some (arC E.2.1 t N (R1 a) (I1 a))) (hsz : H1.size = H.size) (hoq : ∀ q : Nat, q ≠ a → H1[q]? = H[q]?) (hI : ∀ b, b ≠ a → I1 b = I b) (hRR : ∀ b, b ≠ a → R1 b = R b) : Rep E K R1 I1 n H1 := by
  refine ⟨by rw [hsz]; exact hR.1, fun b t' hb => ?_⟩
  obtain ⟨g1, g2⟩ := hR.2 b t' hb
  by_cases h : b = a
  · subst h
    cases hKa.symm.trans hb
    exact ⟨g1, h1⟩
  · refine ⟨g1, ?_⟩
    rw [hI b h, hRR b h]
    exact g2.kept (hoq b h)
theorem arr_upd (I : MI) (a k : Nat) (x : Int32) : (fun j => Value.int (upI I a k x a j)) = updV (fun j => .int (I a j)) k (.int x) := by
  funext j
  by_cases h : j = k <;> simp [upI, updV, h]
theorem v_iast (C : Cx E p s m meth c cc nL own ret args) (hR : Rep E K R I n H) (hS : va_S (AA E) s.heap H locs) {N : Nat} (hKa : K a = some (.inl (0, N))) {i x : Int32} (hin : vp_in i N) {I1 : MI} (hI : I1 = upI I a (ix i) x) (hdg : decode cc pc = .ok (.iastore, 1))
    (kk : ∀ (H1 : Heap) (locs1 : List Loc), Rep E K R I1 n H1 → va_S (AA E) s.heap H1 locs1 → W p l e rm s m args below meth c H1 locs1 cells slots Qw (F0 m (pc + 1) ls rest)) : W p l e rm s m args below meth c H locs cells slots Qw (F0 m pc ls (.int x :: .int i :: .ref a :: rest)) := by
  obtain ⟨hx, hb, hml, hown, hts, hK, hlocks, hret⟩ := C
  have hat : H[a]? = some (arrV (E.2.1 0) N (fun j => .int (I a j))) := (hR.2 a _ hKa).2
  refine W.iast hx hb hat ((hK.arr (t := 0) (by decide)).1 N (fun j => .int (I a j))) (fun q => by cases q) (by rw [arrV_size]; exact hin) rfl rfl hdg fun H1 e z oq => ?_
  subst hI
  refine kk H1 _ (hR.putA hKa ?_ z oq (fun b h => upI_ne I _ x h) (fun _ _ => rfl)) (hS.put z oq (hR.2 a _ hKa).1)
  rw [e, arrV_store, arC_i E.2.1 (t := 0) rfl, arr_upd]
theorem v_cast (C : Cx E p s m meth c cc nL own ret args) (hR : Rep E K R I n H) (hS : va_S (AA E) s.heap H locs) {N : Nat} (hKa : K a = some (.inl (1, N))) {i x : Int32} (hin : vp_in i N) {I1 : MI} (hI : I1 = upI I a (ix i) (vp_nar .char x)) (hdg : decode cc pc = .ok (.castore, 1))
    (kk : ∀ (H1 : Heap) (locs1 : List Loc), Rep E K R I1 n H1 → va_S (AA E) s.heap H1 locs1 → W p l e rm s m args below meth c H1 locs1 cells slots Qw (F0 m (pc + 1) ls rest)) : W p l e rm s m args below meth c H locs cells slots Qw (F0 m pc ls (.int x :: .int i :: .ref a :: rest)) := by
  obtain ⟨hx, hb, hml, hown, hts, hK, hlocks, hret⟩ := C
  have hat : H[a]? = some (arrV (E.2.1 1) N (fun j => .int (I a j))) := (hR.2 a _ hKa).2
  refine W.cast hx hb hat ((hK.arr (t := 1) (by decide)).1 N (fun j => .int (I a j))) (fun q => by cases q) (by rw [arrV_size]; exact hin) rfl rfl hdg fun H1 e z oq => ?_
  subst hI
  refine kk H1 _ (hR.putA hKa ?_ z oq (fun b h => upI_ne I _ _ h) (fun _ _ => rfl)) (hS.put z oq (hR.2 a _ hKa).1)
  rw [e, arrV_store, arC_i E.2.1 (t := 1) rfl, arr_upd]
  simp [vp_nar, narrow]
/-- a reference into an array: its ghost, or anew -/
theorem v_aast {t N w ci : Nat} {q : vw_C} (C : Cx E p s m meth c cc nL own ret args) (hR : Rep E K R I n H) (hS : va_S (AA E) s.heap H locs) (hKa : K a = some (.inl (t, N))) (ht : t < 6) (hr : isI t = false) (hc : vwCl[ci]? = some q) (hty : tyA t = .object q.1) (hKw : K w = some (.inr ci)) {i : Int32} (hin : vp_in i N) {I1 : MI} {R1 : MR} (hval : (fun j => va_rf (R1 a j (I1 a j))) = updV (fun j => va_rf (R a j (I a j))) (ix i) (.ref w)) (hI : ∀ b, b ≠ a → I1 b = I b) (hRR : ∀ b, b ≠ a → R1 b = R b) (hdg : decode cc pc = .ok (.aastore, 1))
    (kk : ∀ (H1 : Heap) (locs1 : List Loc), Rep E K R1 I1 n H1 → va_S (AA E) s.heap H1 locs1 → W p l e rm s m args below meth c H1 locs1 cells slots Qw (F0 m (pc + 1) ls rest)) : W p l e rm s m args below meth c H locs cells slots Qw (F0 m pc ls (.ref w :: .int i :: .ref a :: rest)) := by
  obtain ⟨hx, hb, hml, hown, hts, hK, hlocks, hret⟩ := C
  have hlt : i.toNatClampNeg < N := Nat.not_le.mp fun q => hin (Or.inr q)
  have h0 : ¬ i < 0 := fun q => hin (Or.inl q)
  have hat : H[a]? = some (arrV (E.2.1 t) N (fun j => va_rf (R a j (I a j)))) := by rw [← arC_r E.2.1 hr]; exact (hR.2 a _ hKa).2
  obtain ⟨-, r', hr', cellV, g1, g2, g3, -⟩ := hR.2 w _ hKw
  have hcls := (hK.1.1 ci q hc).2
  have hRA := (hK.arr ht).2
  rw [hty] at hRA
  obtain ⟨kA, comp, k1, k2, k3, -⟩ := hRA
  have hcomp : comp = E.1.1 ci := Option.some.inj (k3.symm.trans hcls.1)
  subst hcomp
  obtain ⟨kC, hkC, -⟩ := hcls.2
  refine W.aast hx hb hat (fun q h => by cases h) (fun h => by cases h) k1 k2 rfl hkC ⟨h0, by rw [arrV_size]; exact hlt⟩ g1 (fun q h => by rw [g3] at h; cases h) (by rw [g2]; exact hkC) (by rw [g2]; exact va_assign hcls) rfl rfl hdg fun H1 e z oq => ?_
  refine kk H1 _ (hR.putA hKa ?_ z oq hI hRR) (hS.put z oq (hR.2 a _ hKa).1)
  rw [e, arrV_store, arC_r E.2.1 hr, hval]
theorem v_alen (C : Cx E p s m meth c cc nL own ret args) (hR : Rep E K R I n H) {t N : Nat} (hKa : K a = some (.inl (t, N))) (ht : t < 6) {v : Int32} (hv : Int32.ofNat N = v) (hdg : decode cc pc = .ok (.arraylength, 1))
    (kk : W p l e rm s m args below meth c H locs cells slots Qw (F0 m (pc + 1) ls (.int v :: rest))) : W p l e rm s m args below meth c H locs cells slots Qw (F0 m pc ls (.ref a :: rest)) := by
  subst hv
  obtain ⟨hx, hb, hml, hown, hts, hK, hlocks, hret⟩ := C
  cases hI : isI t with
  | true =>
    have hat : H[a]? = some (arrV (E.2.1 t) N (fun j => .int (I a j))) := by rw [← arC_i E.2.1 hI]; exact (hR.2 a _ hKa).2
    exact W.alen (n := Int32.ofNat N) hx hb hat ((hK.arr ht).1 N (fun j => .int (I a j))) (by rw [arrV_size] <;> rfl) rfl rfl hdg kk
  | false =>
    have hat : H[a]? = some (arrV (E.2.1 t) N (fun j => va_rf (R a j (I a j)))) := by rw [← arC_r E.2.1 hI]; exact (hR.2 a _ hKa).2
    exact W.alen (n := Int32.ofNat N) hx hb hat ((hK.arr ht).1 N (fun j => va_rf (R a j (I a j)))) (by rw [arrV_size] <;> rfl) rfl rfl hdg kk
/-- copying between arrays of ints -/
theorem v_copy {a0 N0 N1 index : Nat} (C : Cx E p s m meth c cc nL own ret args) (hls : ls.size = nL) (hR : Rep E K R I n H) (hS : va_S (AA E) s.heap H locs) (hlink : Cond.methodLink own index arraycopyName ∈ Gt) (hnat : Cond.native arraycopyName ∈ Gt) (hstat : Cond.static arraycopyName ∈ Gt) (hini : Cond.initialized "java/lang/System" ∈ Gt)
    (hK0 : K a0 = some (.inl (0, N0))) (hK1 : K a = some (.inl (0, N1))) {sp dp k : Int32} (h1 : ¬ sp < 0) (h2 : ¬ dp < 0) (h3 : ¬ k < 0) (h4 : sp.toNatClampNeg + k.toNatClampNeg ≤ N0) (h5 : dp.toNatClampNeg + k.toNatClampNeg ≤ N1)
    (hframes : 1 ≤ rm.frames) (hlocals : (rest.map fun v => v.category).sum + (nativeFrameWords "java/lang/System" "arraycopy" 5 + 11) ≤ rm.locals) {I1 : MI} (hI : I1 = cpI I a0 a (ix sp) (ix dp) (ix k)) (hdg : decode cc pc = .ok (.invokestatic index, 3))
    (kk : ∀ (H1 : Heap) (locs1 : List Loc), Rep E K R I1 n H1 → va_S (AA E) s.heap H1 locs1 → W p l e rm s m args below meth c H1 locs1 cells slots Qw (F0 m (pc + 3) ls rest)) : W p l e rm s m args below meth c H locs cells slots Qw (F0 m pc ls (.int k :: .int dp :: .ref a :: .int sp :: .ref a0 :: rest)) := by
  obtain ⟨hx, hb, hml, hown, hts, hK, hlocks, hret⟩ := C
  have nn : ∀ z : Int32, ¬ z < 0 → z.toInt = (z.toNatClampNeg : Int) := by
    intro z hz
    have hz0 : (0 : Int) ≤ z.toInt := by
      have := Int32.not_lt.mp hz
      simpa using Int32.le_iff_toInt_le.mp this
    show z.toInt = ((z.toInt.toNat : Nat) : Int)
    omega
  have hc0 : H[a0]? = some (arrV (E.2.1 0) N0 (fun j => .int (I a0 j))) := (hR.2 a0 _ hK0).2
  have hc1 : H[a]? = some (arrV (E.2.1 0) N1 (fun j => .int (I a j))) := (hR.2 a _ hK1).2
  intro T hT X
  obtain ⟨-, k0, hk0, cm0, hkk0⟩ := (hK.arr (t := 0) (by decide)).1 N0 (fun j => .int (I a0 j))
  obtain ⟨-, k1, hk1, cm1, hkk1⟩ := (hK.arr (t := 0) (by decide)).1 N1 (fun j => .int (I a j))
  obtain ⟨vm', X', step⟩ := X.arraycopy hx hown (hts _ hlink) (hts _ hnat) (hts _ hstat) (hts _ hini) (src := a0) (dst := a) (cs := arrV (E.2.1 0) N0 (fun j => .int (I a0 j))) (cd := arrV (E.2.1 0) N1 (fun j => .int (I a j))) (srcPos := sp) (destPos := dp) (n := k) (by rw [hT]; exact hc0) (by rw [hT]; exact hc1)
    (fun _ h => by cases h) (fun _ h => by cases h) (fun h => by cases h) (fun h => by cases h) hk0 hk1 hkk0 hkk1 (by simp [tyA, refKind]) h1 h2 h3
    (by rw [nn sp h1, nn k h3, arrV_size]; omega)
    (by rw [nn dp h2, nn k h3, arrV_size]; omega)
    (fun vm₁ _ i hi => by
      have e : (arrV (E.2.1 0) N0 (fun j => Value.int (I a0 j))).slots.getD (sp.toNatClampNeg + i) .null = .int (I a0 (sp.toNatClampNeg + i)) := by
        rw [Array.getD_eq_getD_getElem?, arrV_read _ _ (by omega)]
        rfl
      refine ⟨?_, ?_⟩
      · rw [e]; rfl
      · rw [e]
        exact trivial)
    (g := F0 m pc ls (.int k :: .int dp :: .ref a :: .int sp :: .ref a0 :: rest)) rfl (by rw [hml]; exact hls) (rest := rest) rfl (by rw [hb]; exact hdg) hframes (by show 2 * 0 + _ + _ ≤ _; omega)
  have e1 : copied (arrV (E.2.1 0) N0 (fun j => Value.int (I a0 j))) (arrV (E.2.1 0) N1 (fun j => Value.int (I a j))) sp dp k = arrV (E.2.1 0) N1 (fun j => .int (va_cpy (I a0) (I a) sp.toNatClampNeg dp.toNatClampNeg k.toNatClampNeg j)) := va_copied (fun z => .int z) (E.2.1 0) (E.2.1 0) (I a0) (I a) h4
  rw [e1] at X' step
  have hl : a < H.size := (Array.getElem?_eq_some_iff.mp hc1).1
  have hheap : ((T.setVm vm').setCell a (arrV (E.2.1 0) N1 (fun j => .int (va_cpy (I a0) (I a) sp.toNatClampNeg dp.toNatClampNeg k.toNatClampNeg j)))).heap = H.setIfInBounds a (arrV (E.2.1 0) N1 (fun j => .int (va_cpy (I a0) (I a) sp.toNatClampNeg dp.toNatClampNeg k.toNatClampNeg j))) := by rw [← hT]; rfl
  have oq : ∀ q : Nat, q ≠ a → (H.setIfInBounds a (arrV (E.2.1 0) N1 (fun j => .int (va_cpy (I a0) (I a) sp.toNatClampNeg dp.toNatClampNeg k.toNatClampNeg j))))[q]? = H[q]? := fun q hq => by simp [Array.getElem?_setIfInBounds, Ne.symm hq]
  subst hI
  have hz1 : (H.setIfInBounds a (arrV (E.2.1 0) N1 (fun j => .int (va_cpy (I a0) (I a) sp.toNatClampNeg dp.toNatClampNeg k.toNatClampNeg j)))).size = H.size := by simp
  obtain ⟨t, a1, b1⟩ := kk _ _ (hR.putA (I1 := cpI I a0 a (ix sp) (ix dp) (ix k)) (R1 := R) hK1 (by
      rw [arC_i E.2.1 (t := 0) rfl]
      simp [cpI, hl]) hz1 oq (fun b h => by simp [cpI, h]) (fun _ _ => rfl)) ⟨by rw [hz1]; exact hS.1, fun q g1 g2 => by
      rw [oq q (fun e => g2 (by rw [e]; exact (hR.2 a _ hK1).1))]
      exact hS.2.1 q g1 g2, fun q hq => by
      rcases List.mem_append.mp hq with h | h
      · exact hS.2.2 q h
      · obtain ⟨z, -, hz⟩ := List.mem_map.mp h
        rw [← hz]
        exact (hR.2 a _ hK1).1⟩ _ hheap X'
  exact ⟨t, step t a1, b1⟩
/-- static arrays -/
theorem v_gets {index j : Nat} (C : Cx E p s m meth c cc nL own ret args) (hS : va_S (AA E) s.heap H locs) (hj : j < 4) (hlink : Cond.fieldLink own index "TagBus" (stN j) "[I" ∈ Gt) (hdg : decode cc pc = .ok (.getstatic index, 3))
    (kk : ∀ t : Nat, va_T .int t 3 (stV j) (AA E) s s.heap → W p l e rm s m args below meth c H locs cells slots Qw (F0 m (pc + 3) ls (.ref t :: rest))) : W p l e rm s m args below meth c H locs cells slots Qw (F0 m pc ls rest) := by
  obtain ⟨hx, hb, hml, hown, hts, hK, hlocks, hret⟩ := C
  obtain ⟨t, g1, g2⟩ := hK.2.2.2.2 j hj
  exact va_gets hx hb g1 hS hown (hts _ hlink) (fun x h => h) hdg (kk t g2)
theorem v_stld {j t : Nat} (C : Cx E p s m meth c cc nL own ret args) (hS : va_S (AA E) s.heap H locs) (hT : va_T .int t 3 (stV j) (AA E) s s.heap) {i : Int32} (hin : vp_in i 3) (hdg : decode cc pc = .ok (.iaload, 1))
    (kk : W p l e rm s m args below meth c H locs cells slots Qw (F0 m (pc + 1) ls (.int ((stL j).getD (ix i) 0) :: rest))) : W p l e rm s m args below meth c H locs cells slots Qw (F0 m pc ls (.int i :: .ref t :: rest)) := by
  obtain ⟨hx, hb, hml, hown, hts, hK, hlocks, hret⟩ := C
  exact va_ti hx hb hT hS hin rfl hdg kk
theorem v_stlen {j t : Nat} (C : Cx E p s m meth c cc nL own ret args) (hS : va_S (AA E) s.heap H locs) (hT : va_T .int t 3 (stV j) (AA E) s s.heap) (hdg : decode cc pc = .ok (.arraylength, 1))
    (kk : W p l e rm s m args below meth c H locs cells slots Qw (F0 m (pc + 1) ls (.int 3 :: rest))) : W p l e rm s m args below meth c H locs cells slots Qw (F0 m pc ls (.ref t :: rest)) := by
  obtain ⟨hx, hb, hml, hown, hts, hK, hlocks, hret⟩ := C
  exact va_tlen hx hb hT hS rfl hdg kk
/-- making -/
theorem v_new {C0 : String} {T : u_T} {N ci index : Nat} (C : Cx E p s m meth c cc nL own ret args) (hR : Rep E K R I n H) (hS : va_S (AA E) s.heap H locs) (hcl : Cond.classLink own index C0 ∈ Gt) (hinst : Cond.instantiable C0 N ∈ Gt) (hini : Cond.initialized C0 ∈ Gt) (hc : vwCl[ci]? = some (C0, T, N)) (hin : ∀ w ∈ u_ws C0 T N, w ∈ Gt) (ty0 : Nat → FieldType) (hty : ∀ k, k < N → parseFieldDescriptor (T k).2.2.1 = some (ty0 k)) (hfs : ∀ j, j < N → defaultValue (ty0 j) = vp_V (fl ci (fun _ _ => none) (fun _ => 0)) j) (hnew : ∀ b, n ≤ b → K b = none) (hcells : cells + 1 ≤ rm.cells) (hslots : slots + N ≤ rm.slots) (hdg : decode cc pc = .ok (.new index, 3))
    (kk : ∀ (H1 : Heap), Rep E (upK K n (.inr ci)) (clR R n) (clI I n) (n + 1) H1 → va_S (AA E) s.heap H1 locs → W p l e rm s m args below meth c H1 locs (cells + 1) (slots + N) Qw (F0 m (pc + 3) ls (.ref n :: rest))) : W p l e rm s m args below meth c H locs cells slots Qw (F0 m pc ls rest) := by
  obtain ⟨hx, hb, hml, hown, hts, hK, hlocks, hret⟩ := C
  have hKn := hK.1.1 ci _ hc
  have hz : H.size = n := hR.1
  refine W.newcK hx hb hown (hts _ hcl) (hts _ hinst) (hts _ hini) rfl hdg hcells hslots hKn.2.1 hz fun H1 kC hkC e1 z1 o1 => ?_
  refine kk H1 ⟨z1, fun b t hbt => ?_⟩ ⟨Nat.le_trans hS.1 (by omega), fun x h1 h2 => (o1 x (by have := hS.1; omega)).trans (hS.2.1 x h1 h2), hS.2.2⟩
  by_cases h : b = n
  · subst h
    simp only [upK, if_true] at hbt
    cases hbt
    refine ⟨by have := hS.1; have := hK.2.2.2.1; omega, _, hc, ?_⟩
    have hcR : clR R b b = fun _ _ => none := by simp [clR]
    have hcI : clI I b b = fun _ => 0 := by simp [clI]
    rw [hcR, hcI]
    exact (u_born ty0 hts hin hKn hkC e1 hty).to hfs
  · simp only [upK, if_neg h] at hbt
    obtain ⟨g1, g2⟩ := hR.2 b t hbt
    refine ⟨g1, ?_⟩
    have hcR : clR R n b = R b := by simp [clR, h]
    have hcI : clI I n b = I b := by simp [clI, h]
    rw [hcR, hcI]
    exact g2.kept (o1 b (by have := g2.lt; omega))
theorem v_newa {at_ : ArrayType} {t : Nat} (C : Cx E p s m meth c cc nL own ret args) (hR : Rep E K R I n H) (hS : va_S (AA E) s.heap H locs) (harr : Cond.arrayClass (newarray.typeOf at_) ∈ Gt) (hta : newarray.typeOf at_ = tyA t) (ht : t < 2) {k : Int32} {N : Nat} (hn : ¬ k < 0) (hN : k.toNatClampNeg = N) (hbytes : N * 4 ≤ 536870912) (hcells : cells + 1 ≤ rm.cells) (hslots : slots + N ≤ rm.slots) (hdg : decode cc pc = .ok (.newarray at_, 2))
    (kk : ∀ (H1 : Heap), Rep E (upK K n (.inl (t, N))) (clR R n) (clI I n) (n + 1) H1 → va_S (AA E) s.heap H1 locs → W p l e rm s m args below meth c H1 locs (cells + 1) (slots + N) Qw (F0 m (pc + 2) ls (.ref n :: rest))) : W p l e rm s m args below meth c H locs cells slots Qw (F0 m pc ls (.int k :: rest)) := by
  obtain ⟨hx, hb, hml, hown, hts, hK, hlocks, hret⟩ := C
  have hz : H.size = n := hR.1
  have hcb : N * componentBytes (newarray.typeOf at_) ≤ 536870912 := by
    rw [hta]
    match t, ht with
    | 0, _ => simp [tyA, componentBytes]; omega
    | 1, _ => simp [tyA, componentBytes]; omega
  refine va_newaK hx hb (hts _ harr) rfl hdg rfl hn hN hcb hcells hslots hz fun H1 cA e1 z1 o1 hAr hNm => ?_
  refine kk H1 ⟨z1, fun b t' hbt => ?_⟩ ⟨Nat.le_trans hS.1 (by omega), fun x h1 h2 => (o1 x (by have := hS.1; omega)).trans (hS.2.1 x h1 h2), hS.2.2⟩
  by_cases h : b = n
  · subst h
    simp only [upK, if_true] at hbt
    cases hbt
    refine ⟨by have := hS.1; have := hK.2.2.2.1; omega, ?_⟩
    have hcR : clR R b b = fun _ _ => none := by simp [clR]
    have hcI : clI I b b = fun _ => 0 := by simp [clI]
    rw [hcR, hcI]
    show H1[b]? = some (arC E.2.1 t N _ _)
    have hcA : cA = E.2.1 t := by
      have hra := (hK.arr (t := t) (by omega)).2
      rw [hta] at hNm
      match t, ht with
      | 0, _ => exact Option.some.inj (hNm.symm.trans hra)
      | 1, _ => exact Option.some.inj (hNm.symm.trans hra)
    rw [arC_i E.2.1 (t := t) (by match t, ht with | 0, _ => rfl | 1, _ => rfl), e1, hcA, hta]
    match t, ht with
    | 0, _ => rfl
    | 1, _ => rfl
  · simp only [upK, if_neg h] at hbt
    obtain ⟨g1, g2⟩ := hR.2 b t' hbt
    refine ⟨g1, ?_⟩
    have hcR : clR R n b = R b := by simp [clR, h]
    have hcI : clI I n b = I b := by simp [clI, h]
    rw [hcR, hcI]
    exact g2.kept (o1 b (by have := g2.lt; omega))
theorem v_anew {C0 : String} {t index : Nat} (C : Cx E p s m meth c cc nL own ret args) (hR : Rep E K R I n H) (hS : va_S (AA E) s.heap H locs) (hcl : Cond.classLink own index C0 ∈ Gt) (hov : C0 ∈ ["TagBus$Master", "TagBus$Target", "TagBus$Question", "TagBus$Bus"]) (hta : tyA t = .object C0) (ht : t < 6) (hr : isI t = false) {k : Int32} {N : Nat} (hn : ¬ k < 0) (hN : k.toNatClampNeg = N) (hbytes : N * 4 ≤ 536870912) (hcells : cells + 1 ≤ rm.cells) (hslots : slots + N ≤ rm.slots) (hdg : decode cc pc = .ok (.anewarray index, 3))
    (kk : ∀ (H1 : Heap), Rep E (upK K n (.inl (t, N))) (clR R n) (clI I n) (n + 1) H1 → va_S (AA E) s.heap H1 locs → W p l e rm s m args below meth c H1 locs (cells + 1) (slots + N) Qw (F0 m (pc + 3) ls (.ref n :: rest))) : W p l e rm s m args below meth c H locs cells slots Qw (F0 m pc ls (.int k :: rest)) := by
  obtain ⟨hx, hb, hml, hown, hts, hK, hlocks, hret⟩ := C
  have hz : H.size = n := hR.1
  subst hN
  subst hz
  refine W.anew hx hb hown (hts _ hcl) (va_AO.use (hK.2.2.1 C0 hov)) rfl hdg rfl hn hbytes hcells hslots fun cA kA comp f1 f2 f3 f4 => ?_
  generalize hH1 : H.push ({ cls := cA, slots := Array.replicate k.toNatClampNeg .null, vm := .none } : Cell) = H1
  have z1 : H1.size = H.size + 1 := by rw [← hH1, Array.size_push]
  have e1 : H1[H.size]? = some (arrV cA k.toNatClampNeg (fun _ => .null)) := by rw [← hH1, Array.getElem?_push_size, ← arrV_new]
  have o1 : ∀ q : Nat, q < H.size → H1[q]? = H[q]? := fun q hq => by rw [← hH1, Array.getElem?_push, if_neg (Nat.ne_of_lt hq)]
  refine kk H1 ⟨z1, fun b t' hbt => ?_⟩ ⟨Nat.le_trans hS.1 (by omega), fun x h1 h2 => (o1 x (by have := hS.1; omega)).trans (hS.2.1 x h1 h2), hS.2.2⟩
  by_cases h : b = H.size
  · subst h
    simp only [upK, if_true] at hbt
    cases hbt
    refine ⟨by have := hS.1; have := hK.2.2.2.1; omega, ?_⟩
    have hcR : clR R H.size H.size = fun _ _ => none := by simp [clR]
    have hcI : clI I H.size H.size = fun _ => 0 := by simp [clI]
    rw [hcR, hcI]
    show H1[H.size]? = some (arC E.2.1 t _ _ _)
    have hra := (hK.arr ht).2
    rw [hta] at hra
    obtain ⟨kA', comp', -, -, -, g4⟩ := hra
    have hcA : cA = E.2.1 t := Option.some.inj (f1.symm.trans g4)
    rw [arC_r E.2.1 hr, e1, hcA]
    rfl
  · simp only [upK, if_neg h] at hbt
    obtain ⟨g1, g2⟩ := hR.2 b t' hbt
    refine ⟨g1, ?_⟩
    have hcR : clR R H.size b = R b := by simp [clR, h]
    have hcI : clI I H.size b = I b := by simp [clI, h]
    rw [hcR, hcI]
    exact g2.kept (o1 b (g2.lt))
/-- calls -/
theorem v_after {mc ms : Nat} {a : Array Value} {Q : Option Value → MK → MR → MI → Nat → Prop} (hr : va_Run p l e rm s m args below meth c H locs cells slots mc ms (F0 m pc ls st0) rest (QcM E Q a) (AA E)) (hS : va_S (AA E) s.heap H locs)
    (kk : ∀ (r : Option Value) (K' : MK) (R' : MR) (I' : MI) (n' : Nat) (H1 : Heap) (locs1 : List Loc), Q r K' R' I' n' → Rep E K' R' I' n' H1 → va_S (AA E) s.heap H1 locs1 → W p l e rm s m args below meth c H1 locs1 (cells + mc) (slots + ms) Qw (F0 m (pc + 3) ls (r.toList ++ rest))) : W p l e rm s m args below meth c H locs cells slots Qw (F0 m pc ls st0) := by
  intro T hT X
  obtain ⟨v, st₀, t, T', L, h0, X', hL, e1, e2, ⟨⟨r, K', R', I', n', hv, hRep, hQ⟩, hz, hk⟩, st⟩ := hr T hT X
  cases hv
  rw [h0] at hz hk
  obtain ⟨t2, a1, b1⟩ := kk v K' R' I' n' T'.heap (locs ++ L) hQ (by rw [e1]; exact hRep)
    ⟨Nat.le_trans hS.1 (by rw [e1]; exact hz), fun q h1 h2 => by rw [e1, hk q (Nat.lt_of_lt_of_le h1 hS.1) h2]; exact hS.2.1 q h1 h2, fun q hq => by
      rcases List.mem_append.mp hq with h | h
      · exact hS.2.2 q h
      · exact hL q h⟩ T' rfl X'
  exact ⟨t2, st t2 a1, b1⟩
/-- what a callee's words give -/
def CaV (y : MethodName) (b : ByteArray) (nL : Nat) (ret : Option FieldType) (C0 : String) (na : Nat) : Prop := Cond.instanceMethod y ∈ Gt ∧ Cond.selects C0 y y ∈ Gt ∧ Cond.code y b nL ret ∈ Gt ∧ Cond.initialized C0 ∈ Gt ∧ y.cls = C0 ∧ y.cls ≠ "java/lang/invoke/MethodHandle" ∧ y.cls ≠ "java/lang/invoke/VarHandle" ∧ (parseMethodDescriptor y.desc).map (fun d => d.parameters.length) = some na
def CaS (y : MethodName) (b : ByteArray) (nL : Nat) (ret : Option FieldType) (C0 : String) (na : Nat) : Prop := Cond.static y ∈ Gt ∧ Cond.code y b nL ret ∈ Gt ∧ Cond.initialized C0 ∈ Gt ∧ y.cls = C0 ∧ y.cls ≠ "java/lang/invoke/MethodHandle" ∧ y.cls ≠ "java/lang/invoke/VarHandle" ∧ (parseMethodDescriptor y.desc).map (fun d => d.parameters.length) = some na
def CaI (y : MethodName) (b : ByteArray) (nL : Nat) (C0 : String) (na : Nat) : Prop := Cond.instanceMethod y ∈ Gt ∧ Cond.code y b nL none ∈ Gt ∧ Cond.initialized C0 ∈ Gt ∧ y.cls = C0 ∧ y.name = "<init>" ∧ y.cls ≠ "java/lang/invoke/MethodHandle" ∧ y.cls ≠ "java/lang/invoke/VarHandle" ∧ (parseMethodDescriptor y.desc).map (fun d => d.parameters.length) = some na
theorem gt_all {c : Cond} (hc : c ∈ Gt) : GoodIn Gt (c :: Gt) := fun w hw => by
  rcases List.mem_cons.mp hw with rfl | h
  · exact ⟨hc, good_of_word (List.mem_filter.mp hc).2⟩
  · exact ⟨h, good_of_word (List.mem_filter.mp h).2⟩
theorem gt_app {ws ws' : List Cond} (h : ∀ w ∈ ws, w ∈ Gt) (h' : GoodIn Gt ws') : GoodIn Gt (ws ++ ws') := fun w hw => by
  rcases List.mem_append.mp hw with g | g
  · exact ⟨h w g, good_of_word (List.mem_filter.mp (h w g)).2⟩
  · exact h' w g
variable {y : MethodName} {b : ByteArray} {nL' : Nat} {ret' : Option FieldType} {fr lo mc ms index na : Nat} {C0 : String} {As : List Value} {Q : Option Value → MK → MR → MI → Nat → Prop}
theorem PreS.of {av : List Value} (hK : Kx E s) (hR : Rep E K R I n H) (hS : va_S (AA E) s.heap H locs) : PreS s H (PcM E av K R I n) av := ⟨PcM.blind, fun U hU hW => ⟨rfl, by rw [hU]; exact hR, hK.go hW hU hS⟩⟩
theorem PreV.of {ci : Nat} {q : vw_C} (hK : Kx E s) (hR : Rep E K R I n H) (hS : va_S (AA E) s.heap H locs) (hKa : K a = some (.inr ci)) (hc : vwCl[ci]? = some q) : PreV s H q.1 a (PcM E (.ref a :: As) K R I n) As := ⟨PcM.blind, by
    obtain ⟨-, q', h1, cell, g1, g2, g3, -⟩ := hR.2 a _ hKa
    exact ⟨cell, g1, by rw [g3]; rfl, by rw [g2]; exact (hK.1.1 ci q hc).2.1⟩, fun U hU hW => ⟨rfl, by rw [hU]; exact hR, hK.go hW hU hS⟩⟩
theorem v_callV {ci : Nat} {q : vw_C} (C : Cx E p s m meth c cc nL own ret args) (hR : Rep E K R I n H) (hS : va_S (AA E) s.heap H locs) (hls : ls.size = nL) (hca : CaV y b nL' ret' C0 na) (hlink : Cond.methodLink own index y ∈ Gt) (hM : MM E l y b nL' ret' fr lo mc ms (.ref a :: As) K R I n Q) (hKa : K a = some (.inr ci)) (hc : vwCl[ci]? = some q) (hq : q.1 = C0) (hn : As.length = na) (hst : st0 = As.reverse ++ .ref a :: rest) (hcat : (rest.map fun v => v.category).sum ≤ 8) (hrm : fr + 1 ≤ rm.frames ∧ 8 + (nL' + 11) + lo ≤ rm.locals) (hf : cells + mc ≤ rm.cells ∧ slots + ms ≤ rm.slots) (hdg : decode cc pc = .ok (.invokevirtual index, 3))
    (kk : ∀ (r : Option Value) (K' : MK) (R' : MR) (I' : MI) (n' : Nat) (H1 : Heap) (locs1 : List Loc), Q r K' R' I' n' → Rep E K' R' I' n' H1 → va_S (AA E) s.heap H1 locs1 → W p l e rm s m args below meth c H1 locs1 (cells + mc) (slots + ms) Qw (F0 m (pc + 3) ls (r.toList ++ rest))) : W p l e rm s m args below meth c H locs cells slots Qw (F0 m pc ls st0) := by
  obtain ⟨hx, hb, hml, hown, hts, hK, hlocks, hret⟩ := C
  obtain ⟨c1, c2, c3, c4, c5, c6, c7, c8⟩ := hca
  subst hq
  refine v_after (va_runV (Ts := Gt) (As := As) (rest := rest) ⟨hx, hb, hml, hown, hts⟩ hM (cwV na hts (gt_app (ws := [.methodLink own index y, .instanceMethod y, .selects q.1 y y, .initialized q.1]) (fun w hw => by
    simp only [List.mem_cons, List.not_mem_nil, or_false] at hw
    rcases hw with rfl | rfl | rfl | rfl <;> assumption) (gt_all c3)) rfl rfl rfl ⟨c5, c6, c7, c8⟩ hrm) (PreV.of hK hR hS hKa hc) rfl hn hls hst (lv_room hcat) hdg hf) hS kk
theorem v_callS (C : Cx E p s m meth c cc nL own ret args) (hR : Rep E K R I n H) (hS : va_S (AA E) s.heap H locs) (hls : ls.size = nL) (hca : CaS y b nL' ret' C0 na) (hlink : Cond.methodLink own index y ∈ Gt) (hM : MM E l y b nL' ret' fr lo mc ms As K R I n Q) (hn : As.length = na) (hst : st0 = As.reverse ++ rest) (hcat : (rest.map fun v => v.category).sum ≤ 8) (hrm : fr + 1 ≤ rm.frames ∧ 8 + (nL' + 11) + lo ≤ rm.locals) (hf : cells + mc ≤ rm.cells ∧ slots + ms ≤ rm.slots) (hdg : decode cc pc = .ok (.invokestatic index, 3))
    (kk : ∀ (r : Option Value) (K' : MK) (R' : MR) (I' : MI) (n' : Nat) (H1 : Heap) (locs1 : List Loc), Q r K' R' I' n' → Rep E K' R' I' n' H1 → va_S (AA E) s.heap H1 locs1 → W p l e rm s m args below meth c H1 locs1 (cells + mc) (slots + ms) Qw (F0 m (pc + 3) ls (r.toList ++ rest))) : W p l e rm s m args below meth c H locs cells slots Qw (F0 m pc ls st0) := by
  obtain ⟨hx, hb, hml, hown, hts, hK, hlocks, hret⟩ := C
  obtain ⟨c1, c3, c4, c5, c6, c7, c8⟩ := hca
  subst c5
  refine v_after (va_runS (Ts := Gt) (As := As) (rest := rest) ⟨hx, hb, hml, hown, hts⟩ hM (va_cwS na hts (gt_app (ws := [.methodLink own index y, .static y, .initialized y.cls]) (fun w hw => by
    simp only [List.mem_cons, List.not_mem_nil, or_false] at hw
    rcases hw with rfl | rfl | rfl <;> assumption) (gt_all c3)) rfl rfl rfl ⟨c6, c7, c8⟩ hrm) (PreS.of hK hR hS) rfl hn hls hst (lv_room hcat) hdg hf) hS kk
theorem v_callSN {host : String} (C : Cx E p s m meth c cc nL own ret args) (hR : Rep E K R I n H) (hS : va_S (AA E) s.heap H locs) (hls : ls.size = nL) (hca : CaS y b nL' ret' C0 na) (hlink : (own, index, y, host) ∈ nestM) (hM : MM E l y b nL' ret' fr lo mc ms As K R I n Q) (hn : As.length = na) (hst : st0 = As.reverse ++ rest) (hcat : (rest.map fun v => v.category).sum ≤ 8) (hrm : fr + 1 ≤ rm.frames ∧ 8 + (nL' + 11) + lo ≤ rm.locals) (hf : cells + mc ≤ rm.cells ∧ slots + ms ≤ rm.slots) (hdg : decode cc pc = .ok (.invokestatic index, 3))
    (kk : ∀ (r : Option Value) (K' : MK) (R' : MR) (I' : MI) (n' : Nat) (H1 : Heap) (locs1 : List Loc), Q r K' R' I' n' → Rep E K' R' I' n' H1 → va_S (AA E) s.heap H1 locs1 → W p l e rm s m args below meth c H1 locs1 (cells + mc) (slots + ms) Qw (F0 m (pc + 3) ls (r.toList ++ rest))) : W p l e rm s m args below meth c H locs cells slots Qw (F0 m pc ls st0) := by
  obtain ⟨hx, hb, hml, hown, hts, hK, hlocks, hret⟩ := C
  obtain ⟨c1, c3, c4, c5, c6, c7, c8⟩ := hca
  subst c5
  refine v_after (va_runSN (Ts := Gt) (As := As) (rest := rest) (host := host) ⟨hx, hb, hml, hown, hts⟩ hM ⟨va_cnB na hts (gt_all c3) rfl rfl rfl (hK.2.1 _ hlink) (hts _ c4) ⟨c6, c7, c8⟩ hrm, hts _ c1, trivial⟩ (PreS.of hK hR hS) rfl hn hls hst (lv_room hcat) hdg hf) hS kk
theorem v_callI (C : Cx E p s m meth c cc nL own ret args) (hR : Rep E K R I n H) (hS : va_S (AA E) s.heap H locs) (hls : ls.size = nL) (hca : CaI y b nL' C0 na) (hlink : Cond.methodLink own index y ∈ Gt) (hM : MM E l y b nL' none fr lo mc ms (.ref a :: As) K R I n Q) (hn : As.length = na) (hst : st0 = As.reverse ++ .ref a :: rest) (hcat : (rest.map fun v => v.category).sum ≤ 8) (hrm : fr + 1 ≤ rm.frames ∧ 8 + (nL' + 11) + lo ≤ rm.locals) (hf : cells + mc ≤ rm.cells ∧ slots + ms ≤ rm.slots) (hdg : decode cc pc = .ok (.invokespecial index, 3))
    (kk : ∀ (r : Option Value) (K' : MK) (R' : MR) (I' : MI) (n' : Nat) (H1 : Heap) (locs1 : List Loc), Q r K' R' I' n' → Rep E K' R' I' n' H1 → va_S (AA E) s.heap H1 locs1 → W p l e rm s m args below meth c H1 locs1 (cells + mc) (slots + ms) Qw (F0 m (pc + 3) ls (r.toList ++ rest))) : W p l e rm s m args below meth c H locs cells slots Qw (F0 m pc ls st0) := by
  obtain ⟨hx, hb, hml, hown, hts, hK, hlocks, hret⟩ := C
  obtain ⟨c1, c3, c4, c5, c0, c6, c7, c8⟩ := hca
  subst c5
  refine v_after (va_runI (Ts := Gt) (As := As) (rest := rest) ⟨hx, hb, hml, hown, hts⟩ hM (cwI na hts (gt_all c3) rfl rfl rfl (hts _ c4) (hts _ hlink) (hts _ c1) c0 ⟨c6, c7, c8⟩ hrm) (PreS.of hK hR hS) rfl hn hls hst (lv_room hcat) hdg hf) hS kk
theorem v_callIN {host : String} (C : Cx E p s m meth c cc nL own ret args) (hR : Rep E K R I n H) (hS : va_S (AA E) s.heap H locs) (hls : ls.size = nL) (hca : CaI y b nL' C0 na) (hlink : (own, index, y, host) ∈ nestM) (hM : MM E l y b nL' none fr lo mc ms (.ref a :: As) K R I n Q) (hn : As.length = na) (hst : st0 = As.reverse ++ .ref a :: rest) (hcat : (rest.map fun v => v.category).sum ≤ 8) (hrm : fr + 1 ≤ rm.frames ∧ 8 + (nL' + 11) + lo ≤ rm.locals) (hf : cells + mc ≤ rm.cells ∧ slots + ms ≤ rm.slots) (hdg : decode cc pc = .ok (.invokespecial index, 3))
    (kk : ∀ (r : Option Value) (K' : MK) (R' : MR) (I' : MI) (n' : Nat) (H1 : Heap) (locs1 : List Loc), Q r K' R' I' n' → Rep E K' R' I' n' H1 → va_S (AA E) s.heap H1 locs1 → W p l e rm s m args below meth c H1 locs1 (cells + mc) (slots + ms) Qw (F0 m (pc + 3) ls (r.toList ++ rest))) : W p l e rm s m args below meth c H locs cells slots Qw (F0 m pc ls st0) := by
  obtain ⟨hx, hb, hml, hown, hts, hK, hlocks, hret⟩ := C
  obtain ⟨c1, c3, c4, c5, c0, c6, c7, c8⟩ := hca
  subst c5
  refine v_after (va_runIN (Ts := Gt) (As := As) (rest := rest) (host := host) ⟨hx, hb, hml, hown, hts⟩ hM ⟨va_cnB na hts (gt_all c3) rfl rfl rfl (hK.2.1 _ hlink) (hts _ c4) ⟨c6, c7, c8⟩ hrm, c0, hts _ c1⟩ (PreS.of hK hR hS) rfl hn hls hst (lv_room hcat) hdg hf) hS kk
end MROWS
end
section
/-! locals of one word each -/
def hv (ls : Array Slot) (nL : Nat) (l : List (Nat × Value)) : Prop := lv_has ls nL l ∧ ∀ q ∈ l, q.2.category = 1
theorem cat_rf (o : Option Nat) : (va_rf o).category = 1 := by cases o <;> rfl
theorem hv_at {ls : Array Slot} {nL : Nat} {l : List (Nat × Value)} (h : hv ls nL l) (k : Nat) {i : Nat} {v : Value} (hk : l[k]? = some (i, v)) : ls[i]? = some (.val v) := lv_at h.1 k hk
theorem hv_sub {ls : Array Slot} {nL : Nat} {l l' : List (Nat × Value)} (h : hv ls nL l) (ks : List Nat) (hl : lv_pick l ks = l') : hv ls nL l' := ⟨lv_sub h.1 ks hl, fun q hq => by
  rw [← hl] at hq
  obtain ⟨k, -, hk⟩ := List.mem_filterMap.mp hq
  exact h.2 q (List.mem_of_getElem? hk)⟩
theorem hv_fil {l : List (Nat × Value)} (h : ∀ q ∈ l, q.2.category = 1) (i : Nat) : l.filter (fun q => !(q.1 == i) && !(q.1 + 1 == i && q.2.category == 2)) = l.filter (fun q => !(q.1 == i)) := by
  apply List.filter_congr
  intro q hq
  simp [h q hq]
theorem hv_set {ls' : Array Slot} {nL i : Nat} {v : Value} {lv lv' : List (Nat × Value)} (h : ∀ q ∈ lv, q.2.category = 1) (hc : v.category = 1) (hl : (i, v) :: lv.filter (fun q => !(q.1 == i)) = lv') (g : lv_has ls' nL ((i, v) :: lv.filter (fun q => !(q.1 == i) && !(q.1 + 1 == i && q.2.category == 2)))) : hv ls' nL lv' := by
  rw [hv_fil h] at g
  subst hl
  refine ⟨g, fun q hq => ?_⟩
  rcases List.mem_cons.mp hq with rfl | hq
  · exact hc
  · exact h q ((List.mem_filter.mp hq).1)
def enA : Nat → List Value → List (Nat × Value)
  | _, [] => []
  | i, v :: vs => (i, v) :: enA (i + 1) vs
theorem enA_eq : ∀ (vs : List Value) (i : Nat), (∀ v ∈ vs, v.category = 1) → lv_args i vs = enA i vs
  | [], _, _ => rfl
  | v :: vs, i, h => by
    have hv := h v List.mem_cons_self
    simp only [lv_args, enA, hv]
    rw [if_neg (by decide), enA_eq vs (i + 1) (fun w hw => h w (List.mem_cons_of_mem _ hw))]
theorem lg_len : ∀ (vs : List Value), (∀ v ∈ vs, v.category = 1) → (lg_sl vs).length = vs.length
  | [], _ => rfl
  | v :: vs, h => by
    have hv := h v List.mem_cons_self
    have := lg_len vs (fun w hw => h w (List.mem_cons_of_mem _ hw))
    unfold lg_sl at this ⊢
    simp only [List.flatMap_cons, hv, List.length_append, List.length_cons, this]
    rw [if_neg (by decide)]
    simp
    omega
theorem enA_cat : ∀ (vs : List Value) (i : Nat), (∀ v ∈ vs, v.category = 1) → ∀ q ∈ enA i vs, q.2.category = 1
  | [], _, _, q, hq => by cases hq
  | v :: vs, i, h, q, hq => by
    rcases List.mem_cons.mp hq with rfl | hq
    · exact h v List.mem_cons_self
    · exact enA_cat vs (i + 1) (fun w hw => h w (List.mem_cons_of_mem _ hw)) q hq
theorem vp_lt {x : Int32} {n : Nat} (h : vp_in x n) : ix x < n := Nat.not_le.mp fun q => h (Or.inr q)
def bz (x : Int32) : Prop := x = 0 ∨ x = 1
theorem bz_nar {x : Int32} (h : bz x) : narrow .boolean (.int x) = .int x := by rcases h with rfl | rfl <;> rfl
theorem bz0 : bz 0 := Or.inl rfl
theorem bz1 : bz 1 := Or.inr rfl
def i2cv (x : Int32) : Int32 := (x.toUInt32 % 65536).toInt32
section MR2
variable {p : Program} {l : Launch} {e : Env} {rm : Room} {s : State} {m : MethodId} {args : Array Value} {below : List Frame} {meth : Method} {c : Code} {H : Heap} {locs : List Loc} {cells slots : Nat} {Qw : State → Prop}
variable {cc : ByteArray} {nL pc : Nat} {ls : Array Slot} {rest st0 : List Value} {E : Ev} {K : MK} {R : MR} {I : MI} {n a : Nat} {own : String} {ret : Option FieldType}
theorem v_istore_n (hexec : p.tables.exec = Jvm.exec) (hb : c.code = cc) {k : Fin 4} {i : Nat} {x : Int32} {lv lv' : List (Nat × Value)} (hdg : decode cc pc = .ok (.istore_n k, 1)) (hi : (k : Nat) = i) (h : hv ls nL lv) (hn : i < nL) (hl : (i, Value.int x) :: lv.filter (fun q => !(q.1 == i)) = lv')
    (kk : ∀ ls' : Array Slot, hv ls' nL lv' → W p l e rm s m args below meth c H locs cells slots Qw (F0 m (pc + 1) ls' rest)) : W p l e rm s m args below meth c H locs cells slots Qw (F0 m pc ls (.int x :: rest)) :=
  lv_istore_n hexec hb hdg hi h.1 hn rfl (fun ls' g => kk ls' (hv_set h.2 rfl hl g))
theorem v_istore (hexec : p.tables.exec = Jvm.exec) (hb : c.code = cc) {i : Nat} {x : Int32} {lv lv' : List (Nat × Value)} (hdg : decode cc pc = .ok (.istore i, 2)) (h : hv ls nL lv) (hn : i < nL) (hl : (i, Value.int x) :: lv.filter (fun q => !(q.1 == i)) = lv')
    (kk : ∀ ls' : Array Slot, hv ls' nL lv' → W p l e rm s m args below meth c H locs cells slots Qw (F0 m (pc + 2) ls' rest)) : W p l e rm s m args below meth c H locs cells slots Qw (F0 m pc ls (.int x :: rest)) :=
  lv_istore hexec hb hdg h.1 hn rfl (fun ls' g => kk ls' (hv_set h.2 rfl hl g))
theorem v_astore_n (hexec : p.tables.exec = Jvm.exec) (hb : c.code = cc) {k : Fin 4} {i : Nat} {o : Option Nat} {lv lv' : List (Nat × Value)} (hdg : decode cc pc = .ok (.astore_n k, 1)) (hi : (k : Nat) = i) (h : hv ls nL lv) (hn : i < nL) (hl : (i, va_rf o) :: lv.filter (fun q => !(q.1 == i)) = lv')
    (kk : ∀ ls' : Array Slot, hv ls' nL lv' → W p l e rm s m args below meth c H locs cells slots Qw (F0 m (pc + 1) ls' rest)) : W p l e rm s m args below meth c H locs cells slots Qw (F0 m pc ls (va_rf o :: rest)) := by
  cases o with
  | none => exact lv_astore_nN hexec hb hdg hi h.1 hn rfl (fun ls' g => kk ls' (hv_set h.2 rfl hl g))
  | some x => exact lv_astore_n hexec hb hdg hi h.1 hn rfl (fun ls' g => kk ls' (hv_set h.2 rfl hl g))
theorem v_astore (hexec : p.tables.exec = Jvm.exec) (hb : c.code = cc) {i : Nat} {o : Option Nat} {lv lv' : List (Nat × Value)} (hdg : decode cc pc = .ok (.astore i, 2)) (h : hv ls nL lv) (hn : i < nL) (hl : (i, va_rf o) :: lv.filter (fun q => !(q.1 == i)) = lv')
    (kk : ∀ ls' : Array Slot, hv ls' nL lv' → W p l e rm s m args below meth c H locs cells slots Qw (F0 m (pc + 2) ls' rest)) : W p l e rm s m args below meth c H locs cells slots Qw (F0 m pc ls (va_rf o :: rest)) := by
  cases o with
  | none => exact lv_astoreN hexec hb hdg h.1 hn rfl (fun ls' g => kk ls' (hv_set h.2 rfl hl g))
  | some x => exact lv_astore hexec hb hdg h.1 hn rfl (fun ls' g => kk ls' (hv_set h.2 rfl hl g))
theorem v_iinc (hexec : p.tables.exec = Jvm.exec) (hb : c.code = cc) {i k : Nat} {z : Int} {x v : Int32} {lv lv' : List (Nat × Value)} (hdg : decode cc pc = .ok (.iinc i z, 3)) (h : hv ls nL lv) (hk : lv[k]? = some (i, .int x)) (hv' : x + Int32.ofInt z = v) (hn : i < nL) (hl : (i, Value.int v) :: lv.filter (fun q => !(q.1 == i)) = lv')
    (kk : ∀ ls' : Array Slot, hv ls' nL lv' → W p l e rm s m args below meth c H locs cells slots Qw (F0 m (pc + 3) ls' rest)) : W p l e rm s m args below meth c H locs cells slots Qw (F0 m pc ls rest) :=
  lv_iinc hexec hb hdg h.1 hk hv' hn rfl (fun ls' g => kk ls' (hv_set h.2 rfl hl g))
theorem v_tblIn (hexec : p.tables.exec = Jvm.exec) (hb : c.code = cc) {dflt lo hi : Int} {offs : Array Int} {len : Nat} {x : Int32} {off : Int} {tgt : Nat} (v : Int32) (hdg : decode cc pc = .ok (.tableswitch dflt lo hi offs, len)) (hx : x = v) (h1 : ¬ v.toInt < lo) (h2 : ¬ hi < v.toInt) (ho : offs[(v.toInt - lo).toNat]? = some off) (ht : (pc : Int) + off = (tgt : Int))
    (k : W p l e rm s m args below meth c H locs cells slots Qw (F0 m tgt ls rest)) : W p l e rm s m args below meth c H locs cells slots Qw (F0 m pc ls (.int x :: rest)) := by
  subst hx
  exact lv_tableIn hexec hb hdg h1 h2 ho ht k
/-- results -/
def Qi (K : MK) (R : MR) (n : Nat) (Q : Int32 → MI → Prop) : Option Value → MK → MR → MI → Nat → Prop := fun v K' R' I' n' => K' = K ∧ R' = R ∧ n' = n ∧ ∃ r, v = some (.int r) ∧ Q r I'
def Qv (K : MK) (R : MR) (n : Nat) (Q : MI → Prop) : Option Value → MK → MR → MI → Nat → Prop := fun v K' R' I' n' => K' = K ∧ R' = R ∧ n' = n ∧ v = none ∧ Q I'
def Qo (K : MK) (R : MR) (n : Nat) (Q : Option Nat → MI → Prop) : Option Value → MK → MR → MI → Nat → Prop := fun v K' R' I' n' => K' = K ∧ R' = R ∧ n' = n ∧ ∃ o, v = some (va_rf o) ∧ Q o I'
theorem MM.of1 {y : MethodName} {b : ByteArray} {fr lo mc ms : Nat} {av : List Value} {Q : Option Value → MK → MR → MI → Nat → Prop} (hy : plainName y.cls = true) (own : String) (hown : y.cls = own) (hcat : ∀ v ∈ av, v.category = 1) (hsl : av.length ≤ nL)
    (body : ∀ (p : Program) (e : Env) (s : State) (m : MethodId) (args : Array Value) (below : List Frame) (meth : Method) (c : Code) (ls : Array Slot), Cx E p s m meth c b nL own ret args → (y.name = "<init>" → meth.name = "<init>") → Rep E K R I n s.heap → va_S (AA E) s.heap s.heap [] → hv ls nL (enA 0 av) →
      W p l e (rmM fr lo mc ms) s m args below meth c s.heap [] 0 0 (MQ below (QcM E Q) args s mc ms (AA E)) (F0 m 0 ls [])) : MM E l y b nL ret fr lo mc ms av K R I n Q := by
  refine MM.of hy own hown (by rw [lg_len av hcat]; exact hsl) ?_
  intro p e s m args below meth c ls C hin hR hl
  rw [enA_eq av 0 hcat] at hl
  exact body p e s m args below meth c ls C hin hR va_S.rf ⟨hl, enA_cat av 0 hcat⟩
variable {y : MethodName} {b : ByteArray} {nL' : Nat} {ret' : Option FieldType} {fr lo index na : Nat} {C0 : String} {As : List Value}
theorem v_cVi {Q : Int32 → MI → Prop} {ci : Nat} {q : vw_C} (C : Cx E p s m meth c cc nL own ret args) (hR : Rep E K R I n H) (hS : va_S (AA E) s.heap H locs) (hls : ls.size = nL) (hca : CaV y b nL' ret' C0 na) (hlink : Cond.methodLink own index y ∈ Gt) (hM : MM E l y b nL' ret' fr lo 0 0 (.ref a :: As) K R I n (Qi K R n Q)) (hKa : K a = some (.inr ci)) (hc : vwCl[ci]? = some q) (hq : q.1 = C0) (hn : As.length = na) (hst : st0 = As.reverse ++ .ref a :: rest) (hcat : (rest.map fun v => v.category).sum ≤ 8) (hrm : fr + 1 ≤ rm.frames ∧ 8 + (nL' + 11) + lo ≤ rm.locals) (hf : cells ≤ rm.cells ∧ slots ≤ rm.slots) (hdg : decode cc pc = .ok (.invokevirtual index, 3))
    (kk : ∀ (r : Int32) (I' : MI) (H1 : Heap) (locs1 : List Loc), Q r I' → Rep E K R I' n H1 → va_S (AA E) s.heap H1 locs1 → W p l e rm s m args below meth c H1 locs1 cells slots Qw (F0 m (pc + 3) ls (.int r :: rest))) : W p l e rm s m args below meth c H locs cells slots Qw (F0 m pc ls st0) :=
  v_callV C hR hS hls hca hlink hM hKa hc hq hn hst hcat hrm hf hdg (fun v K' R' I' n' H1 locs1 h hR2 hS2 => by
    obtain ⟨rfl, rfl, rfl, r, rfl, h⟩ := h
    exact kk r I' H1 locs1 h hR2 hS2)
theorem v_cVv {Q : MI → Prop} {ci : Nat} {q : vw_C} (C : Cx E p s m meth c cc nL own ret args) (hR : Rep E K R I n H) (hS : va_S (AA E) s.heap H locs) (hls : ls.size = nL) (hca : CaV y b nL' ret' C0 na) (hlink : Cond.methodLink own index y ∈ Gt) (hM : MM E l y b nL' ret' fr lo 0 0 (.ref a :: As) K R I n (Qv K R n Q)) (hKa : K a = some (.inr ci)) (hc : vwCl[ci]? = some q) (hq : q.1 = C0) (hn : As.length = na) (hst : st0 = As.reverse ++ .ref a :: rest) (hcat : (rest.map fun v => v.category).sum ≤ 8) (hrm : fr + 1 ≤ rm.frames ∧ 8 + (nL' + 11) + lo ≤ rm.locals) (hf : cells ≤ rm.cells ∧ slots ≤ rm.slots) (hdg : decode cc pc = .ok (.invokevirtual index, 3))
    (kk : ∀ (I' : MI) (H1 : Heap) (locs1 : List Loc), Q I' → Rep E K R I' n H1 → va_S (AA E) s.heap H1 locs1 → W p l e rm s m args below meth c H1 locs1 cells slots Qw (F0 m (pc + 3) ls rest)) : W p l e rm s m args below meth c H locs cells slots Qw (F0 m pc ls st0) :=
  v_callV C hR hS hls hca hlink hM hKa hc hq hn hst hcat hrm hf hdg (fun v K' R' I' n' H1 locs1 h hR2 hS2 => by
    obtain ⟨rfl, rfl, rfl, rfl, h⟩ := h
    exact kk I' H1 locs1 h hR2 hS2)
theorem v_cVo {Q : Option Nat → MI → Prop} {ci : Nat} {q : vw_C} (C : Cx E p s m meth c cc nL own ret args) (hR : Rep E K R I n H) (hS : va_S (AA E) s.heap H locs) (hls : ls.size = nL) (hca : CaV y b nL' ret' C0 na) (hlink : Cond.methodLink own index y ∈ Gt) (hM : MM E l y b nL' ret' fr lo 0 0 (.ref a :: As) K R I n (Qo K R n Q)) (hKa : K a = some (.inr ci)) (hc : vwCl[ci]? = some q) (hq : q.1 = C0) (hn : As.length = na) (hst : st0 = As.reverse ++ .ref a :: rest) (hcat : (rest.map fun v => v.category).sum ≤ 8) (hrm : fr + 1 ≤ rm.frames ∧ 8 + (nL' + 11) + lo ≤ rm.locals) (hf : cells ≤ rm.cells ∧ slots ≤ rm.slots) (hdg : decode cc pc = .ok (.invokevirtual index, 3))
    (kk : ∀ (o : Option Nat) (I' : MI) (H1 : Heap) (locs1 : List Loc), Q o I' → Rep E K R I' n H1 → va_S (AA E) s.heap H1 locs1 → W p l e rm s m args below meth c H1 locs1 cells slots Qw (F0 m (pc + 3) ls (va_rf o :: rest))) : W p l e rm s m args below meth c H locs cells slots Qw (F0 m pc ls st0) :=
  v_callV C hR hS hls hca hlink hM hKa hc hq hn hst hcat hrm hf hdg (fun v K' R' I' n' H1 locs1 h hR2 hS2 => by
    obtain ⟨rfl, rfl, rfl, r, rfl, h⟩ := h
    exact kk r I' H1 locs1 h hR2 hS2)
theorem v_cSi {Q : Int32 → MI → Prop} (C : Cx E p s m meth c cc nL own ret args) (hR : Rep E K R I n H) (hS : va_S (AA E) s.heap H locs) (hls : ls.size = nL) (hca : CaS y b nL' ret' C0 na) (hlink : Cond.methodLink own index y ∈ Gt) (hM : MM E l y b nL' ret' fr lo 0 0 As K R I n (Qi K R n Q)) (hn : As.length = na) (hst : st0 = As.reverse ++ rest) (hcat : (rest.map fun v => v.category).sum ≤ 8) (hrm : fr + 1 ≤ rm.frames ∧ 8 + (nL' + 11) + lo ≤ rm.locals) (hf : cells ≤ rm.cells ∧ slots ≤ rm.slots) (hdg : decode cc pc = .ok (.invokestatic index, 3))
    (kk : ∀ (r : Int32) (I' : MI) (H1 : Heap) (locs1 : List Loc), Q r I' → Rep E K R I' n H1 → va_S (AA E) s.heap H1 locs1 → W p l e rm s m args below meth c H1 locs1 cells slots Qw (F0 m (pc + 3) ls (.int r :: rest))) : W p l e rm s m args below meth c H locs cells slots Qw (F0 m pc ls st0) :=
  v_callS C hR hS hls hca hlink hM hn hst hcat hrm hf hdg (fun v K' R' I' n' H1 locs1 h hR2 hS2 => by
    obtain ⟨rfl, rfl, rfl, r, rfl, h⟩ := h
    exact kk r I' H1 locs1 h hR2 hS2)
theorem v_cNi {host : String} {Q : Int32 → MI → Prop} (C : Cx E p s m meth c cc nL own ret args) (hR : Rep E K R I n H) (hS : va_S (AA E) s.heap H locs) (hls : ls.size = nL) (hca : CaS y b nL' ret' C0 na) (hlink : (own, index, y, host) ∈ nestM) (hM : MM E l y b nL' ret' fr lo 0 0 As K R I n (Qi K R n Q)) (hn : As.length = na) (hst : st0 = As.reverse ++ rest) (hcat : (rest.map fun v => v.category).sum ≤ 8) (hrm : fr + 1 ≤ rm.frames ∧ 8 + (nL' + 11) + lo ≤ rm.locals) (hf : cells ≤ rm.cells ∧ slots ≤ rm.slots) (hdg : decode cc pc = .ok (.invokestatic index, 3))
    (kk : ∀ (r : Int32) (I' : MI) (H1 : Heap) (locs1 : List Loc), Q r I' → Rep E K R I' n H1 → va_S (AA E) s.heap H1 locs1 → W p l e rm s m args below meth c H1 locs1 cells slots Qw (F0 m (pc + 3) ls (.int r :: rest))) : W p l e rm s m args below meth c H locs cells slots Qw (F0 m pc ls st0) :=
  v_callSN C hR hS hls hca hlink hM hn hst hcat hrm hf hdg (fun v K' R' I' n' H1 locs1 h hR2 hS2 => by
    obtain ⟨rfl, rfl, rfl, r, rfl, h⟩ := h
    exact kk r I' H1 locs1 h hR2 hS2)
end MR2
/-! THE SHAPE OF THE OBJECTS: what stands where, by the order in which the constructors make it -/
def IsQ (K : MK) (R : MR) (a : Nat) : Prop := K a = some (.inr 3)
def IsLine (K : MK) (R : MR) (a : Nat) : Prop := K a = some (.inr 1) ∧ (∀ g, R a 0 g = some (a + 1)) ∧ K (a + 1) = some (.inl (0, 6))
def IsMaster (K : MK) (R : MR) (a : Nat) : Prop := K a = some (.inr 2) ∧ (∀ g, R a 0 g = some (a + 1)) ∧ IsLine K R (a + 1)
def IsTarget (K : MK) (R : MR) (a : Nat) : Prop := K a = some (.inr 5) ∧ (∀ g, R a 0 g = some (a + 1)) ∧ K (a + 1) = some (.inl (0, 16)) ∧ (∀ g, R a 1 g = some (a + 2)) ∧ K (a + 2) = some (.inl (0, 3)) ∧ (∀ g, R a 2 g = some (a + 3)) ∧ IsLine K R (a + 3)
def IsText (K : MK) (R : MR) (a : Nat) : Prop := K a = some (.inr 4) ∧ (∀ g, R a 0 g = some (a + 1)) ∧ K (a + 1) = some (.inl (1, 60)) ∧ (∀ g, R a 2 g = some (a + 2)) ∧ K (a + 2) = some (.inl (4, 10)) ∧ ∀ i, i < 10 → (∀ g, R (a + 2) i g = some (a + 3 + i)) ∧ IsQ K R (a + 3 + i)
def IsBus (K : MK) (R : MR) (a : Nat) : Prop := K a = some (.inr 0) ∧ (∀ g, R a 0 g = some (a + 1)) ∧ K (a + 1) = some (.inl (0, 3)) ∧ (∀ g, R a 1 g = some (a + 2)) ∧ K (a + 2) = some (.inl (0, 8)) ∧ (∀ g, R a 2 g = some (a + 3)) ∧ K (a + 3) = some (.inl (2, 4)) ∧ (∀ g, R a 3 g = some (a + 4)) ∧ K (a + 4) = some (.inl (3, 4)) ∧ (∀ g, R a 4 g = some (a + 5)) ∧ K (a + 5) = some (.inl (4, 200)) ∧
  (∀ i, i < 4 → (∀ g, R (a + 3) i g = some (a + 6 + 3 * i)) ∧ IsMaster K R (a + 6 + 3 * i)) ∧ (∀ i, i < 4 → (∀ g, R (a + 4) i g = some (a + 18 + 5 * i)) ∧ IsTarget K R (a + 18 + 5 * i)) ∧ (∀ i, i < 200 → (∀ g, R (a + 5) i g = some (a + 38 + i)) ∧ IsQ K R (a + 38 + i))
def pastA (a : Nat) (g : Int32) : Nat := a + 729 + 238 * ix g
def IsTag (K : MK) (R : MR) (a : Nat) : Prop := K a = some (.inr 6) ∧ (∀ g, R a 0 g = some (a + 1)) ∧ IsBus K R (a + 1) ∧ (∀ g, R a 1 g = some (a + 239)) ∧ IsBus K R (a + 239) ∧ (∀ g, R a 2 g = some (a + 477)) ∧ IsBus K R (a + 477) ∧ (∀ g, R a 4 g = some (a + 715)) ∧ K (a + 715) = some (.inl (5, 4)) ∧ (∀ g, R a 6 g = some (a + 716)) ∧ IsText K R (a + 716) ∧ (∀ i, i < 4 → ∀ g, R (a + 715) i g = some (pastA a g)) ∧ ∀ g, ix g < 4 → IsBus K R (pastA a g)
def IsModel (K : MK) (R : MR) (a : Nat) : Prop := K a = some (.inr 7) ∧ (∀ g, R a 0 g = some (a + 1)) ∧ K (a + 1) = some (.inl (0, 2361)) ∧ (∀ g, R a 1 g = some (a + 2)) ∧ K (a + 2) = some (.inl (0, 2361)) ∧ (∀ g, R a 2 g = some (a + 3)) ∧ K (a + 3) = some (.inl (0, 9444)) ∧ (∀ g, R a 4 g = some (a + 4)) ∧ K (a + 4) = some (.inl (0, 2361)) ∧ (∀ g, R a 6 g = some (a + 5)) ∧ K (a + 5) = some (.inl (0, 60)) ∧ (∀ g, R a 10 g = some (a + 6)) ∧ K (a + 6) = some (.inl (0, 4)) ∧ (∀ g, R a 11 g = some (a + 7)) ∧ K (a + 7) = some (.inl (0, 4))
section SH
variable {K : MK} {R : MR} {a : Nat}
theorem IsLine.k (h : IsLine K R a) : K a = some (.inr 1) := h.1
theorem IsLine.r0 (h : IsLine K R a) (g : Int32) : R a 0 g = some (a + 1) := h.2.1 g
theorem IsLine.a0 (h : IsLine K R a) : K (a + 1) = some (.inl (0, 6)) := h.2.2
theorem IsMaster.k (h : IsMaster K R a) : K a = some (.inr 2) := h.1
theorem IsMaster.r0 (h : IsMaster K R a) (g : Int32) : R a 0 g = some (a + 1) := h.2.1 g
theorem IsMaster.o0 (h : IsMaster K R a) : IsLine K R (a + 1) := h.2.2
theorem IsTarget.k (h : IsTarget K R a) : K a = some (.inr 5) := h.1
theorem IsTarget.r0 (h : IsTarget K R a) (g : Int32) : R a 0 g = some (a + 1) := h.2.1 g
theorem IsTarget.a0 (h : IsTarget K R a) : K (a + 1) = some (.inl (0, 16)) := h.2.2.1
theorem IsTarget.r1 (h : IsTarget K R a) (g : Int32) : R a 1 g = some (a + 2) := h.2.2.2.1 g
theorem IsTarget.a1 (h : IsTarget K R a) : K (a + 2) = some (.inl (0, 3)) := h.2.2.2.2.1
theorem IsTarget.r2 (h : IsTarget K R a) (g : Int32) : R a 2 g = some (a + 3) := h.2.2.2.2.2.1 g
theorem IsTarget.o2 (h : IsTarget K R a) : IsLine K R (a + 3) := h.2.2.2.2.2.2
theorem IsText.k (h : IsText K R a) : K a = some (.inr 4) := h.1
theorem IsText.r0 (h : IsText K R a) (g : Int32) : R a 0 g = some (a + 1) := h.2.1 g
theorem IsText.a0 (h : IsText K R a) : K (a + 1) = some (.inl (1, 60)) := h.2.2.1
theorem IsText.r2 (h : IsText K R a) (g : Int32) : R a 2 g = some (a + 2) := h.2.2.2.1 g
theorem IsText.a2 (h : IsText K R a) : K (a + 2) = some (.inl (4, 10)) := h.2.2.2.2.1
theorem IsText.e2 (h : IsText K R a) {i : Nat} (hi : i < 10) (g : Int32) : R (a + 2) i g = some (a + 3 + i) := (h.2.2.2.2.2 i hi).1 g
theorem IsText.p2 (h : IsText K R a) {i : Nat} (hi : i < 10) : IsQ K R (a + 3 + i) := (h.2.2.2.2.2 i hi).2
theorem IsBus.k (h : IsBus K R a) : K a = some (.inr 0) := h.1
theorem IsBus.r0 (h : IsBus K R a) (g : Int32) : R a 0 g = some (a + 1) := h.2.1 g
theorem IsBus.a0 (h : IsBus K R a) : K (a + 1) = some (.inl (0, 3)) := h.2.2.1
theorem IsBus.r1 (h : IsBus K R a) (g : Int32) : R a 1 g = some (a + 2) := h.2.2.2.1 g
theorem IsBus.a1 (h : IsBus K R a) : K (a + 2) = some (.inl (0, 8)) := h.2.2.2.2.1
theorem IsBus.r2 (h : IsBus K R a) (g : Int32) : R a 2 g = some (a + 3) := h.2.2.2.2.2.1 g
theorem IsBus.a2 (h : IsBus K R a) : K (a + 3) = some (.inl (2, 4)) := h.2.2.2.2.2.2.1
theorem IsBus.r3 (h : IsBus K R a) (g : Int32) : R a 3 g = some (a + 4) := h.2.2.2.2.2.2.2.1 g
theorem IsBus.a3 (h : IsBus K R a) : K (a + 4) = some (.inl (3, 4)) := h.2.2.2.2.2.2.2.2.1
theorem IsBus.r4 (h : IsBus K R a) (g : Int32) : R a 4 g = some (a + 5) := h.2.2.2.2.2.2.2.2.2.1 g
theorem IsBus.a4 (h : IsBus K R a) : K (a + 5) = some (.inl (4, 200)) := h.2.2.2.2.2.2.2.2.2.2.1
theorem IsBus.e2 (h : IsBus K R a) {i : Nat} (hi : i < 4) (g : Int32) : R (a + 3) i g = some (a + 6 + 3 * i) := (h.2.2.2.2.2.2.2.2.2.2.2.1 i hi).1 g
theorem IsBus.p2 (h : IsBus K R a) {i : Nat} (hi : i < 4) : IsMaster K R (a + 6 + 3 * i) := (h.2.2.2.2.2.2.2.2.2.2.2.1 i hi).2
theorem IsBus.e3 (h : IsBus K R a) {i : Nat} (hi : i < 4) (g : Int32) : R (a + 4) i g = some (a + 18 + 5 * i) := (h.2.2.2.2.2.2.2.2.2.2.2.2.1 i hi).1 g
theorem IsBus.p3 (h : IsBus K R a) {i : Nat} (hi : i < 4) : IsTarget K R (a + 18 + 5 * i) := (h.2.2.2.2.2.2.2.2.2.2.2.2.1 i hi).2
theorem IsBus.e4 (h : IsBus K R a) {i : Nat} (hi : i < 200) (g : Int32) : R (a + 5) i g = some (a + 38 + i) := (h.2.2.2.2.2.2.2.2.2.2.2.2.2 i hi).1 g
theorem IsBus.p4 (h : IsBus K R a) {i : Nat} (hi : i < 200) : IsQ K R (a + 38 + i) := (h.2.2.2.2.2.2.2.2.2.2.2.2.2 i hi).2
theorem IsTag.k (h : IsTag K R a) : K a = some (.inr 6) := h.1
theorem IsTag.r0 (h : IsTag K R a) (g : Int32) : R a 0 g = some (a + 1) := h.2.1 g
theorem IsTag.o0 (h : IsTag K R a) : IsBus K R (a + 1) := h.2.2.1
theorem IsTag.r1 (h : IsTag K R a) (g : Int32) : R a 1 g = some (a + 239) := h.2.2.2.1 g
theorem IsTag.o1 (h : IsTag K R a) : IsBus K R (a + 239) := h.2.2.2.2.1
theorem IsTag.r2 (h : IsTag K R a) (g : Int32) : R a 2 g = some (a + 477) := h.2.2.2.2.2.1 g
theorem IsTag.o2 (h : IsTag K R a) : IsBus K R (a + 477) := h.2.2.2.2.2.2.1
theorem IsTag.r4 (h : IsTag K R a) (g : Int32) : R a 4 g = some (a + 715) := h.2.2.2.2.2.2.2.1 g
theorem IsTag.a4 (h : IsTag K R a) : K (a + 715) = some (.inl (5, 4)) := h.2.2.2.2.2.2.2.2.1
theorem IsTag.r6 (h : IsTag K R a) (g : Int32) : R a 6 g = some (a + 716) := h.2.2.2.2.2.2.2.2.2.1 g
theorem IsTag.o6 (h : IsTag K R a) : IsText K R (a + 716) := h.2.2.2.2.2.2.2.2.2.2.1
theorem IsTag.e4 (h : IsTag K R a) {i : Nat} (hi : i < 4) (g : Int32) : R (a + 715) i g = some (pastA a g) := h.2.2.2.2.2.2.2.2.2.2.2.1 i hi g
theorem IsTag.p4 (h : IsTag K R a) {g : Int32} (hg : ix g < 4) : IsBus K R (pastA a g) := h.2.2.2.2.2.2.2.2.2.2.2.2 g hg
theorem IsModel.k (h : IsModel K R a) : K a = some (.inr 7) := h.1
theorem IsModel.r0 (h : IsModel K R a) (g : Int32) : R a 0 g = some (a + 1) := h.2.1 g
theorem IsModel.a0 (h : IsModel K R a) : K (a + 1) = some (.inl (0, 2361)) := h.2.2.1
theorem IsModel.r1 (h : IsModel K R a) (g : Int32) : R a 1 g = some (a + 2) := h.2.2.2.1 g
theorem IsModel.a1 (h : IsModel K R a) : K (a + 2) = some (.inl (0, 2361)) := h.2.2.2.2.1
theorem IsModel.r2 (h : IsModel K R a) (g : Int32) : R a 2 g = some (a + 3) := h.2.2.2.2.2.1 g
theorem IsModel.a2 (h : IsModel K R a) : K (a + 3) = some (.inl (0, 9444)) := h.2.2.2.2.2.2.1
theorem IsModel.r4 (h : IsModel K R a) (g : Int32) : R a 4 g = some (a + 4) := h.2.2.2.2.2.2.2.1 g
theorem IsModel.a4 (h : IsModel K R a) : K (a + 4) = some (.inl (0, 2361)) := h.2.2.2.2.2.2.2.2.1
theorem IsModel.r6 (h : IsModel K R a) (g : Int32) : R a 6 g = some (a + 5) := h.2.2.2.2.2.2.2.2.2.1 g
theorem IsModel.a6 (h : IsModel K R a) : K (a + 5) = some (.inl (0, 60)) := h.2.2.2.2.2.2.2.2.2.2.1
theorem IsModel.r10 (h : IsModel K R a) (g : Int32) : R a 10 g = some (a + 6) := h.2.2.2.2.2.2.2.2.2.2.2.1 g
theorem IsModel.a10 (h : IsModel K R a) : K (a + 6) = some (.inl (0, 4)) := h.2.2.2.2.2.2.2.2.2.2.2.2.1
theorem IsModel.r11 (h : IsModel K R a) (g : Int32) : R a 11 g = some (a + 7) := h.2.2.2.2.2.2.2.2.2.2.2.2.2.1 g
theorem IsModel.a11 (h : IsModel K R a) : K (a + 7) = some (.inl (0, 4)) := h.2.2.2.2.2.2.2.2.2.2.2.2.2.2
end SH
/-- a known reference read out of a field -/
theorem rf_of {o : Option Nat} {a : Nat} (h : o = some a) : some (va_rf o) = some (Value.ref a) := by rw [h]; rfl
end
section
theorem cN : ∀ v ∈ ([] : List Value), v.category = 1 := fun v h => by cases h
theorem cI {x : Int32} {vs : List Value} (h : ∀ v ∈ vs, v.category = 1) : ∀ v ∈ (Value.int x :: vs), v.category = 1 := fun v hv => by
  rcases List.mem_cons.mp hv with rfl | hv
  · rfl
  · exact h v hv
theorem cR {x : Nat} {vs : List Value} (h : ∀ v ∈ vs, v.category = 1) : ∀ v ∈ (Value.ref x :: vs), v.category = 1 := fun v hv => by
  rcases List.mem_cons.mp hv with rfl | hv
  · rfl
  · exact h v hv
theorem cO {x : Option Nat} {vs : List Value} (h : ∀ v ∈ vs, v.category = 1) : ∀ v ∈ (va_rf x :: vs), v.category = 1 := fun v hv => by
  rcases List.mem_cons.mp hv with rfl | hv
  · exact cat_rf x
  · exact h v hv
section MR3
variable {p : Program} {l : Launch} {e : Env} {rm : Room} {s : State} {m : MethodId} {args : Array Value} {below : List Frame} {meth : Method} {c : Code} {H : Heap} {locs : List Loc} {cells slots : Nat} {Qw : State → Prop}
variable {cc : ByteArray} {nL pc : Nat} {ls : Array Slot} {rest st0 : List Value} {E : Ev} {K : MK} {R : MR} {I : MI} {n a : Nat} {own : String} {ret : Option FieldType}
theorem w_iald (C : Cx E p s m meth c cc nL own ret args) (hR : Rep E K R I n H) {N j : Nat} (hKa : K a = some (.inl (0, N))) {i : Int32} (hin : vp_in i N) (hj : ix i = j) (hdg : decode cc pc = .ok (.iaload, 1))
    (kk : W p l e rm s m args below meth c H locs cells slots Qw (F0 m (pc + 1) ls (.int (I a j) :: rest))) : W p l e rm s m args below meth c H locs cells slots Qw (F0 m pc ls (.int i :: .ref a :: rest)) := by
  subst hj
  exact v_iald C hR hKa hin hdg kk
theorem w_cald (C : Cx E p s m meth c cc nL own ret args) (hR : Rep E K R I n H) {N j : Nat} (hKa : K a = some (.inl (1, N))) {i : Int32} (hin : vp_in i N) (hj : ix i = j) (hdg : decode cc pc = .ok (.caload, 1))
    (kk : W p l e rm s m args below meth c H locs cells slots Qw (F0 m (pc + 1) ls (.int (I a j) :: rest))) : W p l e rm s m args below meth c H locs cells slots Qw (F0 m pc ls (.int i :: .ref a :: rest)) := by
  subst hj
  exact v_cald C hR hKa hin hdg kk
theorem w_aald (C : Cx E p s m meth c cc nL own ret args) (hR : Rep E K R I n H) {N t j w : Nat} (hKa : K a = some (.inl (t, N))) (ht : t < 6) (hr : isI t = false) (hty : (tyA t).isReference = true) {i : Int32} (hin : vp_in i N) (hj : ix i = j) (hv : R a j (I a j) = some w) (hdg : decode cc pc = .ok (.aaload, 1))
    (kk : W p l e rm s m args below meth c H locs cells slots Qw (F0 m (pc + 1) ls (.ref w :: rest))) : W p l e rm s m args below meth c H locs cells slots Qw (F0 m pc ls (.int i :: .ref a :: rest)) := by
  subst hj
  exact v_aald C hR hKa ht hr hty hin hv hdg kk
theorem w_iast (C : Cx E p s m meth c cc nL own ret args) (hR : Rep E K R I n H) (hS : va_S (AA E) s.heap H locs) {N j : Nat} (hKa : K a = some (.inl (0, N))) {i x : Int32} (hin : vp_in i N) (hj : ix i = j) {I1 : MI} (hI : I1 = upI I a j x) (hdg : decode cc pc = .ok (.iastore, 1))
    (kk : ∀ (H1 : Heap) (locs1 : List Loc), Rep E K R I1 n H1 → va_S (AA E) s.heap H1 locs1 → W p l e rm s m args below meth c H1 locs1 cells slots Qw (F0 m (pc + 1) ls rest)) : W p l e rm s m args below meth c H locs cells slots Qw (F0 m pc ls (.int x :: .int i :: .ref a :: rest)) := by
  subst hj
  exact v_iast C hR hS hKa hin hI hdg kk
theorem w_cast (C : Cx E p s m meth c cc nL own ret args) (hR : Rep E K R I n H) (hS : va_S (AA E) s.heap H locs) {N j : Nat} (hKa : K a = some (.inl (1, N))) {i x : Int32} (hin : vp_in i N) (hj : ix i = j) {I1 : MI} (hI : I1 = upI I a j (vp_nar .char x)) (hdg : decode cc pc = .ok (.castore, 1))
    (kk : ∀ (H1 : Heap) (locs1 : List Loc), Rep E K R I1 n H1 → va_S (AA E) s.heap H1 locs1 → W p l e rm s m args below meth c H1 locs1 cells slots Qw (F0 m (pc + 1) ls rest)) : W p l e rm s m args below meth c H locs cells slots Qw (F0 m pc ls (.int x :: .int i :: .ref a :: rest)) := by
  subst hj
  exact v_cast C hR hS hKa hin hI hdg kk
/-- a reference into the array of the past: its ghost -/
theorem w_past {b j : Nat} {g i : Int32} (C : Cx E p s m meth c cc nL own ret args) (hR : Rep E K R I n H) (hS : va_S (AA E) s.heap H locs) (hKa : K a = some (.inl (5, 4))) (hKw : K (pastA b g) = some (.inr 0)) (hin : vp_in i 4) (hj : ix i = j) (hg : R a j g = some (pastA b g)) {I1 : MI} (hI : I1 = upI I a j g) (hdg : decode cc pc = .ok (.aastore, 1))
    (kk : ∀ (H1 : Heap) (locs1 : List Loc), Rep E K R I1 n H1 → va_S (AA E) s.heap H1 locs1 → W p l e rm s m args below meth c H1 locs1 cells slots Qw (F0 m (pc + 1) ls rest)) : W p l e rm s m args below meth c H locs cells slots Qw (F0 m pc ls (.ref (pastA b g) :: .int i :: .ref a :: rest)) := by
  subst hj
  subst hI
  refine v_aast (t := 5) (ci := 0) (R1 := R) (I1 := upI I a (ix i) g) C hR hS hKa (by decide) rfl rfl rfl hKw hin ?_ (fun b h => upI_ne I _ _ h) (fun _ _ => rfl) hdg kk
  funext q
  by_cases h : q = ix i
  · subst h
    simp [upI, updV, hg, va_rf]
  · simp [upI, updV, h]
theorem w_ireti {ty : FieldType} {Q : Int32 → MI → Prop} (C : Cx E p s m meth c cc nL own ret args) (hr : ret = some ty) {v : Int32} (hn : narrow ty (.int v) = .int v) (hR : Rep E K R I n H) (hS : va_S (AA E) s.heap H locs) (hQ : Q v I) (hdg : decode cc pc = .ok (.ireturn, 1)) :
    W p l e rm s m args below meth c H locs cells slots (MQ below (QcM E (Qi K R n Q)) args s cells slots (AA E)) (F0 m pc ls [.int v]) :=
  v_iret C hr hn hR hS ⟨rfl, rfl, rfl, v, rfl, hQ⟩ hdg
theorem w_vret {Q : MI → Prop} (C : Cx E p s m meth c cc nL own ret args) (hr : ret = none) (hR : Rep E K R I n H) (hS : va_S (AA E) s.heap H locs) (hQ : Q I) (hdg : decode cc pc = .ok (.return_, 1)) :
    W p l e rm s m args below meth c H locs cells slots (MQ below (QcM E (Qv K R n Q)) args s cells slots (AA E)) (F0 m pc ls []) :=
  v_vret C hr hR hS ⟨rfl, rfl, rfl, rfl, hQ⟩ hdg
theorem w_aret {C0 : String} {o : Option Nat} {Q : Option Nat → MI → Prop} (C : Cx E p s m meth c cc nL own ret args) (hr : ret = some (.object C0)) (hR : Rep E K R I n H) (hS : va_S (AA E) s.heap H locs) (hQ : Q o I) (hdg : decode cc pc = .ok (.areturn, 1)) :
    W p l e rm s m args below meth c H locs cells slots (MQ below (QcM E (Qo K R n Q)) args s cells slots (AA E)) (F0 m pc ls [va_rf o]) :=
  v_aret C hr hR hS ⟨rfl, rfl, rfl, o, rfl, hQ⟩ hdg
end MR3
theorem sw_0_5 (x : Int32) : x = (0:Int32) ∨ x = (1:Int32) ∨ x = (2:Int32) ∨ x = (3:Int32) ∨ x = (4:Int32) ∨ x = (5:Int32) ∨ (x.toInt < 0 ∨ 5 < x.toInt) := by
  by_cases h1 : x.toInt < 0
  · simp [h1]
  · by_cases h2 : 5 < x.toInt
    · simp [h2]
    · have hh : x.toInt = 0 ∨ x.toInt = 1 ∨ x.toInt = 2 ∨ x.toInt = 3 ∨ x.toInt = 4 ∨ x.toInt = 5 := by omega
      rcases hh with hh | hh | hh | hh | hh | hh
      · exact Or.inl (Int32.toInt_inj.mp hh)
      · exact Or.inr (Or.inl (Int32.toInt_inj.mp hh))
      · exact Or.inr (Or.inr (Or.inl (Int32.toInt_inj.mp hh)))
      · exact Or.inr (Or.inr (Or.inr (Or.inl (Int32.toInt_inj.mp hh))))
      · exact Or.inr (Or.inr (Or.inr (Or.inr (Or.inl (Int32.toInt_inj.mp hh)))))
      · exact Or.inr (Or.inr (Or.inr (Or.inr (Or.inr (Or.inl (Int32.toInt_inj.mp hh))))))
theorem sw_0_8 (x : Int32) : x = (0:Int32) ∨ x = (1:Int32) ∨ x = (2:Int32) ∨ x = (3:Int32) ∨ x = (4:Int32) ∨ x = (5:Int32) ∨ x = (6:Int32) ∨ x = (7:Int32) ∨ x = (8:Int32) ∨ (x.toInt < 0 ∨ 8 < x.toInt) := by
  by_cases h1 : x.toInt < 0
  · simp [h1]
  · by_cases h2 : 8 < x.toInt
    · simp [h2]
    · have hh : x.toInt = 0 ∨ x.toInt = 1 ∨ x.toInt = 2 ∨ x.toInt = 3 ∨ x.toInt = 4 ∨ x.toInt = 5 ∨ x.toInt = 6 ∨ x.toInt = 7 ∨ x.toInt = 8 := by omega
      rcases hh with hh | hh | hh | hh | hh | hh | hh | hh | hh
      · exact Or.inl (Int32.toInt_inj.mp hh)
      · exact Or.inr (Or.inl (Int32.toInt_inj.mp hh))
      · exact Or.inr (Or.inr (Or.inl (Int32.toInt_inj.mp hh)))
      · exact Or.inr (Or.inr (Or.inr (Or.inl (Int32.toInt_inj.mp hh))))
      · exact Or.inr (Or.inr (Or.inr (Or.inr (Or.inl (Int32.toInt_inj.mp hh)))))
      · exact Or.inr (Or.inr (Or.inr (Or.inr (Or.inr (Or.inl (Int32.toInt_inj.mp hh))))))
      · exact Or.inr (Or.inr (Or.inr (Or.inr (Or.inr (Or.inr (Or.inl (Int32.toInt_inj.mp hh)))))))
      · exact Or.inr (Or.inr (Or.inr (Or.inr (Or.inr (Or.inr (Or.inr (Or.inl (Int32.toInt_inj.mp hh))))))))
      · exact Or.inr (Or.inr (Or.inr (Or.inr (Or.inr (Or.inr (Or.inr (Or.inr (Or.inl (Int32.toInt_inj.mp hh)))))))))
theorem sw_0_12 (x : Int32) : x = (0:Int32) ∨ x = (1:Int32) ∨ x = (2:Int32) ∨ x = (3:Int32) ∨ x = (4:Int32) ∨ x = (5:Int32) ∨ x = (6:Int32) ∨ x = (7:Int32) ∨ x = (8:Int32) ∨ x = (9:Int32) ∨ x = (10:Int32) ∨ x = (11:Int32) ∨ x = (12:Int32) ∨ (x.toInt < 0 ∨ 12 < x.toInt) := by
  by_cases h1 : x.toInt < 0
  · simp [h1]
  · by_cases h2 : 12 < x.toInt
    · simp [h2]
    · have hh : x.toInt = 0 ∨ x.toInt = 1 ∨ x.toInt = 2 ∨ x.toInt = 3 ∨ x.toInt = 4 ∨ x.toInt = 5 ∨ x.toInt = 6 ∨ x.toInt = 7 ∨ x.toInt = 8 ∨ x.toInt = 9 ∨ x.toInt = 10 ∨ x.toInt = 11 ∨ x.toInt = 12 := by omega
      rcases hh with hh | hh | hh | hh | hh | hh | hh | hh | hh | hh | hh | hh | hh
      · exact Or.inl (Int32.toInt_inj.mp hh)
      · exact Or.inr (Or.inl (Int32.toInt_inj.mp hh))
      · exact Or.inr (Or.inr (Or.inl (Int32.toInt_inj.mp hh)))
      · exact Or.inr (Or.inr (Or.inr (Or.inl (Int32.toInt_inj.mp hh))))
      · exact Or.inr (Or.inr (Or.inr (Or.inr (Or.inl (Int32.toInt_inj.mp hh)))))
      · exact Or.inr (Or.inr (Or.inr (Or.inr (Or.inr (Or.inl (Int32.toInt_inj.mp hh))))))
      · exact Or.inr (Or.inr (Or.inr (Or.inr (Or.inr (Or.inr (Or.inl (Int32.toInt_inj.mp hh)))))))
      · exact Or.inr (Or.inr (Or.inr (Or.inr (Or.inr (Or.inr (Or.inr (Or.inl (Int32.toInt_inj.mp hh))))))))
      · exact Or.inr (Or.inr (Or.inr (Or.inr (Or.inr (Or.inr (Or.inr (Or.inr (Or.inl (Int32.toInt_inj.mp hh)))))))))
      · exact Or.inr (Or.inr (Or.inr (Or.inr (Or.inr (Or.inr (Or.inr (Or.inr (Or.inr (Or.inl (Int32.toInt_inj.mp hh))))))))))
      · exact Or.inr (Or.inr (Or.inr (Or.inr (Or.inr (Or.inr (Or.inr (Or.inr (Or.inr (Or.inr (Or.inl (Int32.toInt_inj.mp hh)))))))))))
      · exact Or.inr (Or.inr (Or.inr (Or.inr (Or.inr (Or.inr (Or.inr (Or.inr (Or.inr (Or.inr (Or.inr (Or.inl (Int32.toInt_inj.mp hh))))))))))))
      · exact Or.inr (Or.inr (Or.inr (Or.inr (Or.inr (Or.inr (Or.inr (Or.inr (Or.inr (Or.inr (Or.inr (Or.inr (Or.inl (Int32.toInt_inj.mp hh)))))))))))))
theorem sw_0_22 (x : Int32) : x = (0:Int32) ∨ x = (1:Int32) ∨ x = (2:Int32) ∨ x = (3:Int32) ∨ x = (4:Int32) ∨ x = (5:Int32) ∨ x = (6:Int32) ∨ x = (7:Int32) ∨ x = (8:Int32) ∨ x = (9:Int32) ∨ x = (10:Int32) ∨ x = (11:Int32) ∨ x = (12:Int32) ∨ x = (13:Int32) ∨ x = (14:Int32) ∨ x = (15:Int32) ∨ x = (16:Int32) ∨ x = (17:Int32) ∨ x = (18:Int32) ∨ x = (19:Int32) ∨ x = (20:Int32) ∨ x = (21:Int32) ∨ x = (22:Int32) ∨ (x.toInt < 0 ∨ 22 < x.toInt) := by
  by_cases h1 : x.toInt < 0
  · simp [h1]
  · by_cases h2 : 22 < x.toInt
    · simp [h2]
    · have hh : x.toInt = 0 ∨ x.toInt = 1 ∨ x.toInt = 2 ∨ x.toInt = 3 ∨ x.toInt = 4 ∨ x.toInt = 5 ∨ x.toInt = 6 ∨ x.toInt = 7 ∨ x.toInt = 8 ∨ x.toInt = 9 ∨ x.toInt = 10 ∨ x.toInt = 11 ∨ x.toInt = 12 ∨ x.toInt = 13 ∨ x.toInt = 14 ∨ x.toInt = 15 ∨ x.toInt = 16 ∨ x.toInt = 17 ∨ x.toInt = 18 ∨ x.toInt = 19 ∨ x.toInt = 20 ∨ x.toInt = 21 ∨ x.toInt = 22 := by omega
      rcases hh with hh | hh | hh | hh | hh | hh | hh | hh | hh | hh | hh | hh | hh | hh | hh | hh | hh | hh | hh | hh | hh | hh | hh
      · exact Or.inl (Int32.toInt_inj.mp hh)
      · exact Or.inr (Or.inl (Int32.toInt_inj.mp hh))
      · exact Or.inr (Or.inr (Or.inl (Int32.toInt_inj.mp hh)))
      · exact Or.inr (Or.inr (Or.inr (Or.inl (Int32.toInt_inj.mp hh))))
      · exact Or.inr (Or.inr (Or.inr (Or.inr (Or.inl (Int32.toInt_inj.mp hh)))))
      · exact Or.inr (Or.inr (Or.inr (Or.inr (Or.inr (Or.inl (Int32.toInt_inj.mp hh))))))
      · exact Or.inr (Or.inr (Or.inr (Or.inr (Or.inr (Or.inr (Or.inl (Int32.toInt_inj.mp hh)))))))
      · exact Or.inr (Or.inr (Or.inr (Or.inr (Or.inr (Or.inr (Or.inr (Or.inl (Int32.toInt_inj.mp hh))))))))
      · exact Or.inr (Or.inr (Or.inr (Or.inr (Or.inr (Or.inr (Or.inr (Or.inr (Or.inl (Int32.toInt_inj.mp hh)))))))))
      · exact Or.inr (Or.inr (Or.inr (Or.inr (Or.inr (Or.inr (Or.inr (Or.inr (Or.inr (Or.inl (Int32.toInt_inj.mp hh))))))))))
      · exact Or.inr (Or.inr (Or.inr (Or.inr (Or.inr (Or.inr (Or.inr (Or.inr (Or.inr (Or.inr (Or.inl (Int32.toInt_inj.mp hh)))))))))))
      · exact Or.inr (Or.inr (Or.inr (Or.inr (Or.inr (Or.inr (Or.inr (Or.inr (Or.inr (Or.inr (Or.inr (Or.inl (Int32.toInt_inj.mp hh))))))))))))
      · exact Or.inr (Or.inr (Or.inr (Or.inr (Or.inr (Or.inr (Or.inr (Or.inr (Or.inr (Or.inr (Or.inr (Or.inr (Or.inl (Int32.toInt_inj.mp hh)))))))))))))
      · exact Or.inr (Or.inr (Or.inr (Or.inr (Or.inr (Or.inr (Or.inr (Or.inr (Or.inr (Or.inr (Or.inr (Or.inr (Or.inr (Or.inl (Int32.toInt_inj.mp hh))))))))))))))
      · exact Or.inr (Or.inr (Or.inr (Or.inr (Or.inr (Or.inr (Or.inr (Or.inr (Or.inr (Or.inr (Or.inr (Or.inr (Or.inr (Or.inr (Or.inl (Int32.toInt_inj.mp hh)))))))))))))))
      · exact Or.inr (Or.inr (Or.inr (Or.inr (Or.inr (Or.inr (Or.inr (Or.inr (Or.inr (Or.inr (Or.inr (Or.inr (Or.inr (Or.inr (Or.inr (Or.inl (Int32.toInt_inj.mp hh))))))))))))))))
      · exact Or.inr (Or.inr (Or.inr (Or.inr (Or.inr (Or.inr (Or.inr (Or.inr (Or.inr (Or.inr (Or.inr (Or.inr (Or.inr (Or.inr (Or.inr (Or.inr (Or.inl (Int32.toInt_inj.mp hh)))))))))))))))))
      · exact Or.inr (Or.inr (Or.inr (Or.inr (Or.inr (Or.inr (Or.inr (Or.inr (Or.inr (Or.inr (Or.inr (Or.inr (Or.inr (Or.inr (Or.inr (Or.inr (Or.inr (Or.inl (Int32.toInt_inj.mp hh))))))))))))))))))
      · exact Or.inr (Or.inr (Or.inr (Or.inr (Or.inr (Or.inr (Or.inr (Or.inr (Or.inr (Or.inr (Or.inr (Or.inr (Or.inr (Or.inr (Or.inr (Or.inr (Or.inr (Or.inr (Or.inl (Int32.toInt_inj.mp hh)))))))))))))))))))
      · exact Or.inr (Or.inr (Or.inr (Or.inr (Or.inr (Or.inr (Or.inr (Or.inr (Or.inr (Or.inr (Or.inr (Or.inr (Or.inr (Or.inr (Or.inr (Or.inr (Or.inr (Or.inr (Or.inr (Or.inl (Int32.toInt_inj.mp hh))))))))))))))))))))
      · exact Or.inr (Or.inr (Or.inr (Or.inr (Or.inr (Or.inr (Or.inr (Or.inr (Or.inr (Or.inr (Or.inr (Or.inr (Or.inr (Or.inr (Or.inr (Or.inr (Or.inr (Or.inr (Or.inr (Or.inr (Or.inl (Int32.toInt_inj.mp hh)))))))))))))))))))))
      · exact Or.inr (Or.inr (Or.inr (Or.inr (Or.inr (Or.inr (Or.inr (Or.inr (Or.inr (Or.inr (Or.inr (Or.inr (Or.inr (Or.inr (Or.inr (Or.inr (Or.inr (Or.inr (Or.inr (Or.inr (Or.inr (Or.inl (Int32.toInt_inj.mp hh))))))))))))))))))))))
      · exact Or.inr (Or.inr (Or.inr (Or.inr (Or.inr (Or.inr (Or.inr (Or.inr (Or.inr (Or.inr (Or.inr (Or.inr (Or.inr (Or.inr (Or.inr (Or.inr (Or.inr (Or.inr (Or.inr (Or.inr (Or.inr (Or.inr (Or.inl (Int32.toInt_inj.mp hh)))))))))))))))))))))))
theorem ca_X6_init : CaI yX6_init cX6_init 2 RX6 0 := ⟨kim_X6_init, kco_X6_init, kin_X6, rfl, rfl, by decide, by decide, by decide⟩
theorem ca_X6_set : CaV yX6_set cX6_set 4 (some Jvm.ClassFile.FieldType.int) RX6 2 := ⟨kim_X6_set, kse_X6_set, kco_X6_set, kin_X6, rfl, by decide, by decide, by decide⟩
theorem ca_X6_setShare : CaV yX6_setShare cX6_setShare 5 (some Jvm.ClassFile.FieldType.int) RX6 2 := ⟨kim_X6_setShare, kse_X6_setShare, kco_X6_setShare, kin_X6, rfl, by decide, by decide, by decide⟩
theorem ca_X6_setTarget : CaV yX6_setTarget cX6_setTarget 6 (some Jvm.ClassFile.FieldType.int) RX6 3 := ⟨kim_X6_setTarget, kse_X6_setTarget, kco_X6_setTarget, kin_X6, rfl, by decide, by decide, by decide⟩
theorem ca_X6_setCell : CaV yX6_setCell cX6_setCell 6 (some Jvm.ClassFile.FieldType.int) RX6 3 := ⟨kim_X6_setCell, kse_X6_setCell, kco_X6_setCell, kin_X6, rfl, by decide, by decide, by decide⟩
theorem ca_X6_read : CaV yX6_read cX6_read 4 (some Jvm.ClassFile.FieldType.int) RX6 3 := ⟨kim_X6_read, kse_X6_read, kco_X6_read, kin_X6, rfl, by decide, by decide, by decide⟩
theorem ca_X6_write : CaV yX6_write cX6_write 5 (some Jvm.ClassFile.FieldType.int) RX6 4 := ⟨kim_X6_write, kse_X6_write, kco_X6_write, kin_X6, rfl, by decide, by decide, by decide⟩
theorem ca_X6_ask : CaV yX6_ask cX6_ask 4 (some Jvm.ClassFile.FieldType.int) RX6 0 := ⟨kim_X6_ask, kse_X6_ask, kco_X6_ask, kin_X6, rfl, by decide, by decide, by decide⟩
theorem ca_X6_withdraw : CaV yX6_withdraw cX6_withdraw 3 (some Jvm.ClassFile.FieldType.int) RX6 1 := ⟨kim_X6_withdraw, kse_X6_withdraw, kco_X6_withdraw, kin_X6, rfl, by decide, by decide, by decide⟩
theorem ca_X6_pass : CaV yX6_pass cX6_pass 4 (some Jvm.ClassFile.FieldType.int) RX6 1 := ⟨kim_X6_pass, kse_X6_pass, kco_X6_pass, kin_X6, rfl, by decide, by decide, by decide⟩
theorem ca_X6_type : CaV yX6_type cX6_type 2 (some Jvm.ClassFile.FieldType.int) RX6 1 := ⟨kim_X6_type, kse_X6_type, kco_X6_type, kin_X6, rfl, by decide, by decide, by decide⟩
theorem ca_X6_clearText : CaV yX6_clearText cX6_clearText 2 (some Jvm.ClassFile.FieldType.int) RX6 0 := ⟨kim_X6_clearText, kse_X6_clearText, kco_X6_clearText, kin_X6, rfl, by decide, by decide, by decide⟩
theorem ca_X6_undo : CaV yX6_undo cX6_undo 2 (some Jvm.ClassFile.FieldType.int) RX6 0 := ⟨kim_X6_undo, kse_X6_undo, kco_X6_undo, kin_X6, rfl, by decide, by decide, by decide⟩
theorem ca_X6_keep : CaV yX6_keep cX6_keep 1 (some Jvm.ClassFile.FieldType.int) RX6 0 := ⟨kim_X6_keep, kse_X6_keep, kco_X6_keep, kin_X6, rfl, by decide, by decide, by decide⟩
theorem ca_X6_restore : CaV yX6_restore cX6_restore 1 (some Jvm.ClassFile.FieldType.int) RX6 0 := ⟨kim_X6_restore, kse_X6_restore, kco_X6_restore, kin_X6, rfl, by decide, by decide, by decide⟩
theorem ca_X6_question : CaV yX6_question cX6_question 4 (some Jvm.ClassFile.FieldType.int) RX6 2 := ⟨kim_X6_question, kse_X6_question, kco_X6_question, kin_X6, rfl, by decide, by decide, by decide⟩
theorem ca_X6_tag : CaV yX6_tag cX6_tag 2 (some Jvm.ClassFile.FieldType.int) RX6 1 := ⟨kim_X6_tag, kse_X6_tag, kco_X6_tag, kin_X6, rfl, by decide, by decide, by decide⟩
theorem ca_X6_master : CaV yX6_master cX6_master 4 (some Jvm.ClassFile.FieldType.int) RX6 2 := ⟨kim_X6_master, kse_X6_master, kco_X6_master, kin_X6, rfl, by decide, by decide, by decide⟩
theorem ca_X6_row : CaV yX6_row cX6_row 4 (some Jvm.ClassFile.FieldType.int) RX6 2 := ⟨kim_X6_row, kse_X6_row, kco_X6_row, kin_X6, rfl, by decide, by decide, by decide⟩
theorem ca_X6_target : CaV yX6_target cX6_target 4 (some Jvm.ClassFile.FieldType.int) RX6 2 := ⟨kim_X6_target, kse_X6_target, kco_X6_target, kin_X6, rfl, by decide, by decide, by decide⟩
theorem ca_X6_cell : CaV yX6_cell cX6_cell 4 (some Jvm.ClassFile.FieldType.int) RX6 2 := ⟨kim_X6_cell, kse_X6_cell, kco_X6_cell, kin_X6, rfl, by decide, by decide, by decide⟩
theorem ca_X6_next : CaV yX6_next cX6_next 3 (some Jvm.ClassFile.FieldType.int) RX6 1 := ⟨kim_X6_next, kse_X6_next, kco_X6_next, kin_X6, rfl, by decide, by decide, by decide⟩
theorem ca_X6_answeredIn : CaV yX6_answeredIn cX6_answeredIn 4 (some Jvm.ClassFile.FieldType.int) RX6 1 := ⟨kim_X6_answeredIn, kse_X6_answeredIn, kco_X6_answeredIn, kin_X6, rfl, by decide, by decide, by decide⟩
theorem ca_X6_count : CaV yX6_count cX6_count 2 (some Jvm.ClassFile.FieldType.int) RX6 1 := ⟨kim_X6_count, kse_X6_count, kco_X6_count, kin_X6, rfl, by decide, by decide, by decide⟩
theorem ca_X6_isIndex : CaS yX6_isIndex cX6_isIndex 2 (some Jvm.ClassFile.FieldType.boolean) RX6 2 := ⟨kst_X6_isIndex, kco_X6_isIndex, kin_X6, rfl, by decide, by decide, by decide⟩
theorem ca_X6_isBetween : CaS yX6_isBetween cX6_isBetween 3 (some Jvm.ClassFile.FieldType.boolean) RX6 3 := ⟨kst_X6_isBetween, kco_X6_isBetween, kin_X6, rfl, by decide, by decide, by decide⟩
theorem ca_X6_putOne : CaV yX6_putOne cX6_putOne 6 (some Jvm.ClassFile.FieldType.int) RX6 4 := ⟨kim_X6_putOne, kse_X6_putOne, kco_X6_putOne, kin_X6, rfl, by decide, by decide, by decide⟩
theorem ca_X6_hasRoomForText : CaV yX6_hasRoomForText cX6_hasRoomForText 3 (some Jvm.ClassFile.FieldType.boolean) RX6 0 := ⟨kim_X6_hasRoomForText, kse_X6_hasRoomForText, kco_X6_hasRoomForText, kin_X6, rfl, by decide, by decide, by decide⟩
theorem ca_X6_record : CaV yX6_record cX6_record 3 none RX6 0 := ⟨kim_X6_record, kse_X6_record, kco_X6_record, kin_X6, rfl, by decide, by decide, by decide⟩
theorem ca_X7_init : CaI yX7_init cX7_init 2 RX7 0 := ⟨kim_X7_init, kco_X7_init, kin_X7, rfl, rfl, by decide, by decide, by decide⟩
theorem ca_X7_in : CaS yX7_in cX7_in 3 (some Jvm.ClassFile.FieldType.boolean) RX7 3 := ⟨kst_X7_in, kco_X7_in, kin_X7, rfl, by decide, by decide, by decide⟩
theorem ca_X7_isPort : CaS yX7_isPort cX7_isPort 1 (some Jvm.ClassFile.FieldType.boolean) RX7 1 := ⟨kst_X7_isPort, kco_X7_isPort, kin_X7, rfl, by decide, by decide, by decide⟩
theorem ca_X7_ofMaster : CaS yX7_ofMaster cX7_ofMaster 2 (some Jvm.ClassFile.FieldType.int) RX7 2 := ⟨kst_X7_ofMaster, kco_X7_ofMaster, kin_X7, rfl, by decide, by decide, by decide⟩
theorem ca_X7_ofTarget : CaS yX7_ofTarget cX7_ofTarget 2 (some Jvm.ClassFile.FieldType.int) RX7 2 := ⟨kst_X7_ofTarget, kco_X7_ofTarget, kin_X7, rfl, by decide, by decide, by decide⟩
theorem ca_X7_of : CaS yX7_of cX7_of 2 (some Jvm.ClassFile.FieldType.int) RX7 2 := ⟨kst_X7_of, kco_X7_of, kin_X7, rfl, by decide, by decide, by decide⟩
theorem ca_X7_know : CaV yX7_know cX7_know 2 none RX7 0 := ⟨kim_X7_know, kse_X7_know, kco_X7_know, kin_X7, rfl, by decide, by decide, by decide⟩
theorem ca_X7_change : CaV yX7_change cX7_change 4 (some Jvm.ClassFile.FieldType.int) RX7 2 := ⟨kim_X7_change, kse_X7_change, kco_X7_change, kin_X7, rfl, by decide, by decide, by decide⟩
theorem ca_X7_isLentFrom : CaV yX7_isLentFrom cX7_isLentFrom 4 (some Jvm.ClassFile.FieldType.boolean) RX7 1 := ⟨kim_X7_isLentFrom, kse_X7_isLentFrom, kco_X7_isLentFrom, kin_X7, rfl, by decide, by decide, by decide⟩
theorem ca_X7_set : CaV yX7_set cX7_set 3 (some Jvm.ClassFile.FieldType.int) RX7 2 := ⟨kim_X7_set, kse_X7_set, kco_X7_set, kin_X7, rfl, by decide, by decide, by decide⟩
theorem ca_X7_setShare : CaV yX7_setShare cX7_setShare 3 (some Jvm.ClassFile.FieldType.int) RX7 2 := ⟨kim_X7_setShare, kse_X7_setShare, kco_X7_setShare, kin_X7, rfl, by decide, by decide, by decide⟩
theorem ca_X7_setTarget : CaV yX7_setTarget cX7_setTarget 4 (some Jvm.ClassFile.FieldType.int) RX7 3 := ⟨kim_X7_setTarget, kse_X7_setTarget, kco_X7_setTarget, kin_X7, rfl, by decide, by decide, by decide⟩
theorem ca_X7_setCell : CaV yX7_setCell cX7_setCell 4 (some Jvm.ClassFile.FieldType.int) RX7 3 := ⟨kim_X7_setCell, kse_X7_setCell, kco_X7_setCell, kin_X7, rfl, by decide, by decide, by decide⟩
theorem ca_X7_isRoom : CaV yX7_isRoom cX7_isRoom 2 (some Jvm.ClassFile.FieldType.boolean) RX7 1 := ⟨kim_X7_isRoom, kse_X7_isRoom, kco_X7_isRoom, kin_X7, rfl, by decide, by decide, by decide⟩
theorem ca_X7_put : CaV yX7_put cX7_put 6 (some Jvm.ClassFile.FieldType.int) RX7 4 := ⟨kim_X7_put, kse_X7_put, kco_X7_put, kin_X7, rfl, by decide, by decide, by decide⟩
theorem ca_X7_read : CaV yX7_read cX7_read 4 (some Jvm.ClassFile.FieldType.int) RX7 3 := ⟨kim_X7_read, kse_X7_read, kco_X7_read, kin_X7, rfl, by decide, by decide, by decide⟩
theorem ca_X7_write : CaV yX7_write cX7_write 5 (some Jvm.ClassFile.FieldType.int) RX7 4 := ⟨kim_X7_write, kse_X7_write, kco_X7_write, kin_X7, rfl, by decide, by decide, by decide⟩
theorem ca_X7_withdraw : CaV yX7_withdraw cX7_withdraw 4 (some Jvm.ClassFile.FieldType.int) RX7 1 := ⟨kim_X7_withdraw, kse_X7_withdraw, kco_X7_withdraw, kin_X7, rfl, by decide, by decide, by decide⟩
theorem ca_X7_sign : CaV yX7_sign cX7_sign 4 (some Jvm.ClassFile.FieldType.int) RX7 2 := ⟨kim_X7_sign, kse_X7_sign, kco_X7_sign, kin_X7, rfl, by decide, by decide, by decide⟩
theorem ca_X7_number : CaV yX7_number cX7_number 4 (some Jvm.ClassFile.FieldType.int) RX7 1 := ⟨kim_X7_number, kse_X7_number, kco_X7_number, kin_X7, rfl, by decide, by decide, by decide⟩
theorem ca_X7_question : CaV yX7_question cX7_question 5 none RX7 0 := ⟨kim_X7_question, kse_X7_question, kco_X7_question, kin_X7, rfl, by decide, by decide, by decide⟩
theorem ca_X7_go : CaV yX7_go cX7_go 5 (some Jvm.ClassFile.FieldType.int) RX7 1 := ⟨kim_X7_go, kse_X7_go, kco_X7_go, kin_X7, rfl, by decide, by decide, by decide⟩
theorem ca_X7_ask : CaV yX7_ask cX7_ask 4 (some Jvm.ClassFile.FieldType.int) RX7 0 := ⟨kim_X7_ask, kse_X7_ask, kco_X7_ask, kin_X7, rfl, by decide, by decide, by decide⟩
theorem ca_X7_type : CaV yX7_type cX7_type 2 (some Jvm.ClassFile.FieldType.int) RX7 1 := ⟨kim_X7_type, kse_X7_type, kco_X7_type, kin_X7, rfl, by decide, by decide, by decide⟩
theorem ca_X7_clearText : CaV yX7_clearText cX7_clearText 2 (some Jvm.ClassFile.FieldType.int) RX7 0 := ⟨kim_X7_clearText, kse_X7_clearText, kco_X7_clearText, kin_X7, rfl, by decide, by decide, by decide⟩
theorem ca_X7_freeTag : CaV yX7_freeTag cX7_freeTag 2 (some Jvm.ClassFile.FieldType.int) RX7 0 := ⟨kim_X7_freeTag, kse_X7_freeTag, kco_X7_freeTag, kin_X7, rfl, by decide, by decide, by decide⟩
theorem ca_X7_holds : CaV yX7_holds cX7_holds 4 (some Jvm.ClassFile.FieldType.int) RX7 1 := ⟨kim_X7_holds, kse_X7_holds, kco_X7_holds, kin_X7, rfl, by decide, by decide, by decide⟩
theorem ca_X7_doAll : CaV yX7_doAll cX7_doAll 5 none RX7 0 := ⟨kim_X7_doAll, kse_X7_doAll, kco_X7_doAll, kin_X7, rfl, by decide, by decide, by decide⟩
theorem ca_X7_answering : CaV yX7_answering cX7_answering 7 (some Jvm.ClassFile.FieldType.int) RX7 1 := ⟨kim_X7_answering, kse_X7_answering, kco_X7_answering, kin_X7, rfl, by decide, by decide, by decide⟩
theorem ca_X7_targetThatGoes : CaV yX7_targetThatGoes cX7_targetThatGoes 3 (some Jvm.ClassFile.FieldType.int) RX7 0 := ⟨kim_X7_targetThatGoes, kse_X7_targetThatGoes, kco_X7_targetThatGoes, kin_X7, rfl, by decide, by decide, by decide⟩
theorem ca_X7_canSend : CaV yX7_canSend cX7_canSend 2 (some Jvm.ClassFile.FieldType.boolean) RX7 1 := ⟨kim_X7_canSend, kse_X7_canSend, kco_X7_canSend, kin_X7, rfl, by decide, by decide, by decide⟩
theorem ca_X7_masterThatGoes : CaV yX7_masterThatGoes cX7_masterThatGoes 4 (some Jvm.ClassFile.FieldType.int) RX7 0 := ⟨kim_X7_masterThatGoes, kse_X7_masterThatGoes, kco_X7_masterThatGoes, kin_X7, rfl, by decide, by decide, by decide⟩
theorem ca_X7_answers : CaV yX7_answers cX7_answers 5 (some Jvm.ClassFile.FieldType.int) RX7 1 := ⟨kim_X7_answers, kse_X7_answers, kco_X7_answers, kin_X7, rfl, by decide, by decide, by decide⟩
theorem ca_X7_sends : CaV yX7_sends cX7_sends 6 (some Jvm.ClassFile.FieldType.int) RX7 1 := ⟨kim_X7_sends, kse_X7_sends, kco_X7_sends, kin_X7, rfl, by decide, by decide, by decide⟩
theorem ca_X7_tick : CaV yX7_tick cX7_tick 8 (some Jvm.ClassFile.FieldType.int) RX7 0 := ⟨kim_X7_tick, kse_X7_tick, kco_X7_tick, kin_X7, rfl, by decide, by decide, by decide⟩
theorem ca_X7_pass : CaV yX7_pass cX7_pass 4 (some Jvm.ClassFile.FieldType.int) RX7 1 := ⟨kim_X7_pass, kse_X7_pass, kco_X7_pass, kin_X7, rfl, by decide, by decide, by decide⟩
theorem ca_X7_undo : CaV yX7_undo cX7_undo 2 (some Jvm.ClassFile.FieldType.int) RX7 0 := ⟨kim_X7_undo, kse_X7_undo, kco_X7_undo, kin_X7, rfl, by decide, by decide, by decide⟩
theorem ca_X7_keep : CaV yX7_keep cX7_keep 2 (some Jvm.ClassFile.FieldType.int) RX7 0 := ⟨kim_X7_keep, kse_X7_keep, kco_X7_keep, kin_X7, rfl, by decide, by decide, by decide⟩
theorem ca_X7_restore : CaV yX7_restore cX7_restore 2 (some Jvm.ClassFile.FieldType.int) RX7 0 := ⟨kim_X7_restore, kse_X7_restore, kco_X7_restore, kin_X7, rfl, by decide, by decide, by decide⟩
theorem ca_X7_isQuestion : CaV yX7_isQuestion cX7_isQuestion 2 (some Jvm.ClassFile.FieldType.boolean) RX7 1 := ⟨kim_X7_isQuestion, kse_X7_isQuestion, kco_X7_isQuestion, kin_X7, rfl, by decide, by decide, by decide⟩
theorem ca_X7_question_ : CaV yX7_question_ cX7_question_ 3 (some Jvm.ClassFile.FieldType.int) RX7 2 := ⟨kim_X7_question_, kse_X7_question_, kco_X7_question_, kin_X7, rfl, by decide, by decide, by decide⟩
theorem ca_X7_tag : CaV yX7_tag cX7_tag 2 (some Jvm.ClassFile.FieldType.int) RX7 1 := ⟨kim_X7_tag, kse_X7_tag, kco_X7_tag, kin_X7, rfl, by decide, by decide, by decide⟩
theorem ca_X7_answered : CaV yX7_answered cX7_answered 6 (some Jvm.ClassFile.FieldType.int) RX7 2 := ⟨kim_X7_answered, kse_X7_answered, kco_X7_answered, kin_X7, rfl, by decide, by decide, by decide⟩
theorem ca_X7_master : CaV yX7_master cX7_master 5 (some Jvm.ClassFile.FieldType.int) RX7 2 := ⟨kim_X7_master, kse_X7_master, kco_X7_master, kin_X7, rfl, by decide, by decide, by decide⟩
theorem ca_X7_row : CaV yX7_row cX7_row 3 (some Jvm.ClassFile.FieldType.int) RX7 2 := ⟨kim_X7_row, kse_X7_row, kco_X7_row, kin_X7, rfl, by decide, by decide, by decide⟩
theorem ca_X7_doneIn : CaV yX7_doneIn cX7_doneIn 4 (some Jvm.ClassFile.FieldType.int) RX7 1 := ⟨kim_X7_doneIn, kse_X7_doneIn, kco_X7_doneIn, kin_X7, rfl, by decide, by decide, by decide⟩
theorem ca_X7_target : CaV yX7_target cX7_target 4 (some Jvm.ClassFile.FieldType.int) RX7 2 := ⟨kim_X7_target, kse_X7_target, kco_X7_target, kin_X7, rfl, by decide, by decide, by decide⟩
theorem ca_X7_cell : CaV yX7_cell cX7_cell 3 (some Jvm.ClassFile.FieldType.int) RX7 2 := ⟨kim_X7_cell, kse_X7_cell, kco_X7_cell, kin_X7, rfl, by decide, by decide, by decide⟩
theorem ca_X7_putAside : CaV yX7_putAside cX7_putAside 2 none RX7 0 := ⟨kim_X7_putAside, kse_X7_putAside, kco_X7_putAside, kin_X7, rfl, by decide, by decide, by decide⟩
theorem ca_X7_putBack : CaV yX7_putBack cX7_putBack 2 none RX7 0 := ⟨kim_X7_putBack, kse_X7_putBack, kco_X7_putBack, kin_X7, rfl, by decide, by decide, by decide⟩
theorem ca_X7_next : CaV yX7_next cX7_next 3 (some Jvm.ClassFile.FieldType.int) RX7 1 := ⟨kim_X7_next, kse_X7_next, kco_X7_next, kin_X7, rfl, by decide, by decide, by decide⟩
theorem ca_X7_answeredIn : CaV yX7_answeredIn cX7_answeredIn 4 (some Jvm.ClassFile.FieldType.int) RX7 1 := ⟨kim_X7_answeredIn, kse_X7_answeredIn, kco_X7_answeredIn, kin_X7, rfl, by decide, by decide, by decide⟩
theorem ca_X7_freeTags : CaV yX7_freeTags cX7_freeTags 3 (some Jvm.ClassFile.FieldType.int) RX7 0 := ⟨kim_X7_freeTags, kse_X7_freeTags, kco_X7_freeTags, kin_X7, rfl, by decide, by decide, by decide⟩
theorem ca_X7_count : CaV yX7_count cX7_count 2 (some Jvm.ClassFile.FieldType.int) RX7 1 := ⟨kim_X7_count, kse_X7_count, kco_X7_count, kin_X7, rfl, by decide, by decide, by decide⟩
theorem ca_X0_init : CaI yX0_init cX0_init 2 RX0 0 := ⟨kim_X0_init, kco_X0_init, kin_X0, rfl, rfl, by decide, by decide, by decide⟩
theorem ca_X0_copyFrom : CaV yX0_copyFrom cX0_copyFrom 3 none RX0 1 := ⟨kim_X0_copyFrom, kse_X0_copyFrom, kco_X0_copyFrom, kin_X0, rfl, by decide, by decide, by decide⟩
theorem ca_X0_masterAt : CaV yX0_masterAt cX0_masterAt 2 (some (Jvm.ClassFile.FieldType.object "TagBus$Master")) RX0 1 := ⟨kim_X0_masterAt, kse_X0_masterAt, kco_X0_masterAt, kin_X0, rfl, by decide, by decide, by decide⟩
theorem ca_X0_targetAt : CaV yX0_targetAt cX0_targetAt 2 (some (Jvm.ClassFile.FieldType.object "TagBus$Target")) RX0 1 := ⟨kim_X0_targetAt, kse_X0_targetAt, kco_X0_targetAt, kin_X0, rfl, by decide, by decide, by decide⟩
theorem ca_X0_questionAt : CaV yX0_questionAt cX0_questionAt 2 (some (Jvm.ClassFile.FieldType.object "TagBus$Question")) RX0 1 := ⟨kim_X0_questionAt, kse_X0_questionAt, kco_X0_questionAt, kin_X0, rfl, by decide, by decide, by decide⟩
theorem ca_X0_highestLentTag : CaV yX0_highestLentTag cX0_highestLentTag 3 (some Jvm.ClassFile.FieldType.int) RX0 0 := ⟨kim_X0_highestLentTag, kse_X0_highestLentTag, kco_X0_highestLentTag, kin_X0, rfl, by decide, by decide, by decide⟩
theorem ca_X0_freeTags : CaV yX0_freeTags cX0_freeTags 3 (some Jvm.ClassFile.FieldType.int) RX0 0 := ⟨kim_X0_freeTags, kse_X0_freeTags, kco_X0_freeTags, kin_X0, rfl, by decide, by decide, by decide⟩
theorem ca_X0_lowestFreeTag : CaV yX0_lowestFreeTag cX0_lowestFreeTag 2 (some Jvm.ClassFile.FieldType.int) RX0 0 := ⟨kim_X0_lowestFreeTag, kse_X0_lowestFreeTag, kco_X0_lowestFreeTag, kin_X0, rfl, by decide, by decide, by decide⟩
theorem ca_X0_put : CaV yX0_put cX0_put 7 (some Jvm.ClassFile.FieldType.int) RX0 4 := ⟨kim_X0_put, kse_X0_put, kco_X0_put, kin_X0, rfl, by decide, by decide, by decide⟩
theorem ca_X0_takeLastOf : CaV yX0_takeLastOf cX0_takeLastOf 5 (some Jvm.ClassFile.FieldType.int) RX0 1 := ⟨kim_X0_takeLastOf, kse_X0_takeLastOf, kco_X0_takeLastOf, kin_X0, rfl, by decide, by decide, by decide⟩
theorem ca_X0_doneIn : CaV yX0_doneIn cX0_doneIn 5 (some Jvm.ClassFile.FieldType.int) RX0 1 := ⟨kim_X0_doneIn, kse_X0_doneIn, kco_X0_doneIn, kin_X0, rfl, by decide, by decide, by decide⟩
theorem ca_X0_isOutOfPatience : CaV yX0_isOutOfPatience cX0_isOutOfPatience 2 (some Jvm.ClassFile.FieldType.boolean) RX0 1 := ⟨kim_X0_isOutOfPatience, kse_X0_isOutOfPatience, kco_X0_isOutOfPatience, kin_X0, rfl, by decide, by decide, by decide⟩
theorem ca_X0_passTick : CaV yX0_passTick cX0_passTick 3 (some Jvm.ClassFile.FieldType.int) RX0 0 := ⟨kim_X0_passTick, kse_X0_passTick, kco_X0_passTick, kin_X0, rfl, by decide, by decide, by decide⟩
theorem ca_X0_finishQuestions : CaV yX0_finishQuestions cX0_finishQuestions 7 none RX0 0 := ⟨kim_X0_finishQuestions, kse_X0_finishQuestions, kco_X0_finishQuestions, kin_X0, rfl, by decide, by decide, by decide⟩
theorem ca_X0_makeTrip : CaV yX0_makeTrip cX0_makeTrip 3 (some Jvm.ClassFile.FieldType.int) RX0 0 := ⟨kim_X0_makeTrip, kse_X0_makeTrip, kco_X0_makeTrip, kin_X0, rfl, by decide, by decide, by decide⟩
theorem ca_X0_prefersAnswer : CaV yX0_prefersAnswer cX0_prefersAnswer 2 (some Jvm.ClassFile.FieldType.boolean) RX0 0 := ⟨kim_X0_prefersAnswer, kse_X0_prefersAnswer, kco_X0_prefersAnswer, kin_X0, rfl, by decide, by decide, by decide⟩
theorem ca_X0_targetThatAnswers : CaV yX0_targetThatAnswers cX0_targetThatAnswers 4 (some Jvm.ClassFile.FieldType.int) RX0 0 := ⟨kim_X0_targetThatAnswers, kse_X0_targetThatAnswers, kco_X0_targetThatAnswers, kin_X0, rfl, by decide, by decide, by decide⟩
theorem ca_X0_placeOfAnswer : CaV yX0_placeOfAnswer cX0_placeOfAnswer 8 (some Jvm.ClassFile.FieldType.int) RX0 1 := ⟨kim_X0_placeOfAnswer, kse_X0_placeOfAnswer, kco_X0_placeOfAnswer, kin_X0, rfl, by decide, by decide, by decide⟩
theorem ca_X0_masterThatSends : CaV yX0_masterThatSends cX0_masterThatSends 5 (some Jvm.ClassFile.FieldType.int) RX0 0 := ⟨kim_X0_masterThatSends, kse_X0_masterThatSends, kco_X0_masterThatSends, kin_X0, rfl, by decide, by decide, by decide⟩
theorem ca_X0_masterThatWaitedTooLong : CaV yX0_masterThatWaitedTooLong cX0_masterThatWaitedTooLong 5 (some Jvm.ClassFile.FieldType.int) RX0 0 := ⟨kim_X0_masterThatWaitedTooLong, kse_X0_masterThatWaitedTooLong, kco_X0_masterThatWaitedTooLong, kin_X0, rfl, by decide, by decide, by decide⟩
theorem ca_X0_maySend : CaV yX0_maySend cX0_maySend 2 (some Jvm.ClassFile.FieldType.boolean) RX0 1 := ⟨kim_X0_maySend, kse_X0_maySend, kco_X0_maySend, kin_X0, rfl, by decide, by decide, by decide⟩
theorem ca_X0_sendQuestionOf : CaV yX0_sendQuestionOf cX0_sendQuestionOf 6 (some Jvm.ClassFile.FieldType.int) RX0 1 := ⟨kim_X0_sendQuestionOf, kse_X0_sendQuestionOf, kco_X0_sendQuestionOf, kin_X0, rfl, by decide, by decide, by decide⟩
theorem ca_X0_refuse : CaV yX0_refuse cX0_refuse 4 none RX0 2 := ⟨kim_X0_refuse, kse_X0_refuse, kco_X0_refuse, kin_X0, rfl, by decide, by decide, by decide⟩
theorem ca_X0_letIn : CaV yX0_letIn cX0_letIn 6 none RX0 3 := ⟨kim_X0_letIn, kse_X0_letIn, kco_X0_letIn, kin_X0, rfl, by decide, by decide, by decide⟩
theorem ca_X0_sendAnswerOf : CaV yX0_sendAnswerOf cX0_sendAnswerOf 6 (some Jvm.ClassFile.FieldType.int) RX0 1 := ⟨kim_X0_sendAnswerOf, kse_X0_sendAnswerOf, kco_X0_sendAnswerOf, kin_X0, rfl, by decide, by decide, by decide⟩
theorem ca_X0_takeTagBack : CaV yX0_takeTagBack cX0_takeTagBack 2 none RX0 1 := ⟨kim_X0_takeTagBack, kse_X0_takeTagBack, kco_X0_takeTagBack, kin_X0, rfl, by decide, by decide, by decide⟩
theorem ca_X0_noteAnswer : CaV yX0_noteAnswer cX0_noteAnswer 3 none RX0 2 := ⟨kim_X0_noteAnswer, kse_X0_noteAnswer, kco_X0_noteAnswer, kin_X0, rfl, by decide, by decide, by decide⟩
theorem ca_X0_countWaits : CaV yX0_countWaits cX0_countWaits 4 none RX0 1 := ⟨kim_X0_countWaits, kse_X0_countWaits, kco_X0_countWaits, kin_X0, rfl, by decide, by decide, by decide⟩
theorem ca_X1_init : CaI yX1_init cX1_init 1 RX1 0 := ⟨kim_X1_init, kco_X1_init, kin_X1, rfl, rfl, by decide, by decide, by decide⟩
theorem ca_X1_at : CaV yX1_at cX1_at 2 (some Jvm.ClassFile.FieldType.int) RX1 1 := ⟨kim_X1_at, kse_X1_at, kco_X1_at, kin_X1, rfl, by decide, by decide, by decide⟩
theorem ca_X1_append : CaV yX1_append cX1_append 2 none RX1 1 := ⟨kim_X1_append, kse_X1_append, kco_X1_append, kin_X1, rfl, by decide, by decide, by decide⟩
theorem ca_X1_removeAt : CaV yX1_removeAt cX1_removeAt 3 none RX1 1 := ⟨kim_X1_removeAt, kse_X1_removeAt, kco_X1_removeAt, kin_X1, rfl, by decide, by decide, by decide⟩
theorem ca_X1_copyFrom : CaV yX1_copyFrom cX1_copyFrom 2 none RX1 1 := ⟨kim_X1_copyFrom, kse_X1_copyFrom, kco_X1_copyFrom, kin_X1, rfl, by decide, by decide, by decide⟩
theorem ca_X2_init : CaI yX2_init cX2_init 1 RX2 0 := ⟨kim_X2_init, kco_X2_init, kin_X2, rfl, rfl, by decide, by decide, by decide⟩
theorem ca_X2_copyFrom : CaV yX2_copyFrom cX2_copyFrom 2 none RX2 1 := ⟨kim_X2_copyFrom, kse_X2_copyFrom, kco_X2_copyFrom, kin_X2, rfl, by decide, by decide, by decide⟩
theorem ca_X3_init : CaI yX3_init cX3_init 1 RX3 0 := ⟨kim_X3_init, kco_X3_init, kin_X3, rfl, rfl, by decide, by decide, by decide⟩
theorem ca_X3_begin : CaV yX3_begin cX3_begin 6 none RX3 5 := ⟨kim_X3_begin, kse_X3_begin, kco_X3_begin, kin_X3, rfl, by decide, by decide, by decide⟩
theorem ca_X3_copyFrom : CaV yX3_copyFrom cX3_copyFrom 2 none RX3 1 := ⟨kim_X3_copyFrom, kse_X3_copyFrom, kco_X3_copyFrom, kin_X3, rfl, by decide, by decide, by decide⟩
theorem ca_X4_init : CaI yX4_init cX4_init 2 RX4 0 := ⟨kim_X4_init, kco_X4_init, kin_X4, rfl, rfl, by decide, by decide, by decide⟩
theorem ca_X4_append : CaV yX4_append cX4_append 2 (some Jvm.ClassFile.FieldType.boolean) RX4 1 := ⟨kim_X4_append, kse_X4_append, kco_X4_append, kin_X4, rfl, by decide, by decide, by decide⟩
theorem ca_X4_questionAt : CaV yX4_questionAt cX4_questionAt 2 (some (Jvm.ClassFile.FieldType.object "TagBus$Question")) RX4 1 := ⟨kim_X4_questionAt, kse_X4_questionAt, kco_X4_questionAt, kin_X4, rfl, by decide, by decide, by decide⟩
theorem ca_X4_foundOf : CaV yX4_foundOf cX4_foundOf 4 (some Jvm.ClassFile.FieldType.int) RX4 1 := ⟨kim_X4_foundOf, kse_X4_foundOf, kco_X4_foundOf, kin_X4, rfl, by decide, by decide, by decide⟩
theorem ca_X4_findFault : CaV yX4_findFault cX4_findFault 2 (some Jvm.ClassFile.FieldType.int) RX4 0 := ⟨kim_X4_findFault, kse_X4_findFault, kco_X4_findFault, kin_X4, rfl, by decide, by decide, by decide⟩
theorem ca_X4_readQuestion : CaV yX4_readQuestion cX4_readQuestion 7 (some Jvm.ClassFile.FieldType.boolean) RX4 1 := ⟨kim_X4_readQuestion, kse_X4_readQuestion, kco_X4_readQuestion, kin_X4, rfl, by decide, by decide, by decide⟩
theorem ca_X4_skip : CaV yX4_skip cX4_skip 2 (some Jvm.ClassFile.FieldType.boolean) RX4 1 := ⟨kim_X4_skip, kse_X4_skip, kco_X4_skip, kin_X4, rfl, by decide, by decide, by decide⟩
theorem ca_X4_readNumber : CaV yX4_readNumber cX4_readNumber 4 (some Jvm.ClassFile.FieldType.int) RX4 1 := ⟨kim_X4_readNumber, kse_X4_readNumber, kco_X4_readNumber, kin_X4, rfl, by decide, by decide, by decide⟩
theorem ca_X4_digitAt : CaV yX4_digitAt cX4_digitAt 3 (some Jvm.ClassFile.FieldType.int) RX4 1 := ⟨kim_X4_digitAt, kse_X4_digitAt, kco_X4_digitAt, kin_X4, rfl, by decide, by decide, by decide⟩
theorem ca_X5_init : CaI yX5_init cX5_init 1 RX5 0 := ⟨kim_X5_init, kco_X5_init, kin_X5, rfl, rfl, by decide, by decide, by decide⟩
theorem ca_X5_isFull : CaV yX5_isFull cX5_isFull 1 (some Jvm.ClassFile.FieldType.boolean) RX5 0 := ⟨kim_X5_isFull, kse_X5_isFull, kco_X5_isFull, kin_X5, rfl, by decide, by decide, by decide⟩
theorem ca_X5_useCell : CaV yX5_useCell cX5_useCell 4 (some Jvm.ClassFile.FieldType.int) RX5 2 := ⟨kim_X5_useCell, kse_X5_useCell, kco_X5_useCell, kin_X5, rfl, by decide, by decide, by decide⟩
theorem ca_X5_copyFrom : CaV yX5_copyFrom cX5_copyFrom 2 none RX5 1 := ⟨kim_X5_copyFrom, kse_X5_copyFrom, kco_X5_copyFrom, kin_X5, rfl, by decide, by decide, by decide⟩
end
section
def w_X6_isIndex_b14 (K : MK) (R : MR) (x0 : Int32) (x1 : Int32) (Q : Int32 → MI → Prop) (z0_14 : Int32) (I : MI) : Prop := bz z0_14 ∧ Q z0_14 I
def w_X6_isIndex_b13 (K : MK) (R : MR) (x0 : Int32) (x1 : Int32) (Q : Int32 → MI → Prop) (I : MI) : Prop := w_X6_isIndex_b14 K R x0 x1 Q (0:Int32) I
def w_X6_isIndex (K : MK) (R : MR) (x0 : Int32) (x1 : Int32) (I : MI) (Q : Int32 → MI → Prop) : Prop := ((x0 < 0 → w_X6_isIndex_b13 K R x0 x1 Q I) ∧ (¬ x0 < 0 → ((x1 ≤ x0 → w_X6_isIndex_b13 K R x0 x1 Q I) ∧ (¬ x1 ≤ x0 → w_X6_isIndex_b14 K R x0 x1 Q (1:Int32) I))))
def w_X6_isBetween_b15 (K : MK) (R : MR) (x0 : Int32) (x1 : Int32) (x2 : Int32) (Q : Int32 → MI → Prop) (z0_15 : Int32) (I : MI) : Prop := bz z0_15 ∧ Q z0_15 I
def w_X6_isBetween_b14 (K : MK) (R : MR) (x0 : Int32) (x1 : Int32) (x2 : Int32) (Q : Int32 → MI → Prop) (I : MI) : Prop := w_X6_isBetween_b15 K R x0 x1 x2 Q (0:Int32) I
def w_X6_isBetween (K : MK) (R : MR) (x0 : Int32) (x1 : Int32) (x2 : Int32) (I : MI) (Q : Int32 → MI → Prop) : Prop := ((x0 < x1 → w_X6_isBetween_b14 K R x0 x1 x2 Q I) ∧ (¬ x0 < x1 → ((x2 < x0 → w_X6_isBetween_b14 K R x0 x1 x2 Q I) ∧ (¬ x2 < x0 → w_X6_isBetween_b15 K R x0 x1 x2 Q (1:Int32) I))))
def w_X0_highestLentTag_b24 (K : MK) (R : MR) (a0 : Nat) (Q : Int32 → MI → Prop) (X5 : Int32 → Int32 → MI → Prop) (y1_24 : Int32) (y2_24 : Int32) (I : MI) : Prop := X5 y1_24 (y2_24 + (1:Int32)) I
def w_X0_highestLentTag_b5_body (K : MK) (R : MR) (a0 : Nat) (Q : Int32 → MI → Prop) (X5 : Int32 → Int32 → MI → Prop) (y1_5 : Int32) (y2_5 : Int32) (I : MI) : Prop := (((8:Int32) ≤ y2_5 → Q y1_5 I) ∧ (¬ (8:Int32) ≤ y2_5 → IsBus K R a0 ∧ vp_in y2_5 8 ∧ (((I (a0 + 2) (ix y2_5)) = (-5:Int32) → w_X0_highestLentTag_b24 K R a0 Q X5 y1_5 y2_5 I) ∧ (¬ (I (a0 + 2) (ix y2_5)) = (-5:Int32) → w_X0_highestLentTag_b24 K R a0 Q X5 y2_5 y2_5 I))))
def w_X0_highestLentTag_b5 (K : MK) (R : MR) (a0 : Nat) (Q : Int32 → MI → Prop) (y1_5 : Int32) (y2_5 : Int32) (I : MI) : Prop := ∀ X5 : Int32 → Int32 → MI → Prop, (∀ (y1_5 : Int32) (y2_5 : Int32) (I : MI), w_X0_highestLentTag_b5_body K R a0 Q X5 y1_5 y2_5 I → X5 y1_5 y2_5 I) → X5 y1_5 y2_5 I
def w_X0_highestLentTag (K : MK) (R : MR) (a0 : Nat) (I : MI) (Q : Int32 → MI → Prop) : Prop := w_X0_highestLentTag_b5 K R a0 Q (-5:Int32) (0:Int32) I
def w_X1_copyFrom (K : MK) (R : MR) (a0 : Nat) (o1 : Option Nat) (I : MI) (Q : MI → Prop) : Prop := ∃ r1, o1 = some r1 ∧ IsLine K R r1 ∧ IsLine K R a0 ∧ ∀ I4, I4 = upI I a0 1 (I r1 1) → ∀ I5, I5 = cpI I4 (r1 + 1) (a0 + 1) 0 0 6 → Q I5
def w_X2_copyFrom (K : MK) (R : MR) (a0 : Nat) (o1 : Option Nat) (I : MI) (Q : MI → Prop) : Prop := IsMaster K R a0 ∧ ∃ r2, o1 = some r2 ∧ IsMaster K R r2 ∧ w_X1_copyFrom K R (a0 + 1) (some (r2 + 1)) I (fun I4 => ∀ I5, I5 = upI I4 a0 1 (I4 r2 1) → ∀ I6, I6 = upI I5 a0 2 (I5 r2 2) → ∀ I7, I7 = upI I6 a0 3 (I6 r2 3) → ∀ I8, I8 = upI I7 a0 4 (I7 r2 4) → ∀ I9, I9 = upI I8 a0 5 (I8 r2 5) → ∀ I10, I10 = upI I9 a0 6 (I9 r2 6) → ∀ I11, I11 = upI I10 a0 7 (I10 r2 7) → Q I11)
def w_X5_copyFrom (K : MK) (R : MR) (a0 : Nat) (o1 : Option Nat) (I : MI) (Q : MI → Prop) : Prop := ∃ r1, o1 = some r1 ∧ IsTarget K R r1 ∧ IsTarget K R a0 ∧ ∀ I4, I4 = cpI I (r1 + 1) (a0 + 1) 0 0 16 → ∀ I5, I5 = cpI I4 (r1 + 2) (a0 + 2) 0 0 3 → w_X1_copyFrom K R (a0 + 3) (some (r1 + 3)) I5 (fun I6 => Q I6)
def w_X3_copyFrom (K : MK) (R : MR) (a0 : Nat) (o1 : Option Nat) (I : MI) (Q : MI → Prop) : Prop := ∃ r1, o1 = some r1 ∧ IsQ K R r1 ∧ IsQ K R a0 ∧ ∀ I4, I4 = upI I a0 0 (I r1 0) → ∀ I5, I5 = upI I4 a0 1 (I4 r1 1) → ∀ I6, I6 = upI I5 a0 2 (I5 r1 2) → ∀ I7, I7 = upI I6 a0 3 (I6 r1 3) → ∀ I8, I8 = upI I7 a0 4 (I7 r1 4) → ∀ I9, I9 = upI I8 a0 5 (I8 r1 5) → ∀ I10, I10 = upI I9 a0 6 (I9 r1 6) → ∀ I11, I11 = upI I10 a0 7 (I10 r1 7) → ∀ I12, I12 = upI I11 a0 8 (I11 r1 8) → ∀ I13, I13 = upI I12 a0 9 (I12 r1 9) → ∀ I14, I14 = upI I13 a0 10 (I13 r1 10) → Q I14
def w_X0_copyFrom_b127 (K : MK) (R : MR) (a0 : Nat) (o1 : Option Nat) (Q : MI → Prop) (I : MI) : Prop := ∃ r1, o1 = some r1 ∧ IsBus K R r1 ∧ IsBus K R a0 ∧ ∀ I4, I4 = upI I a0 5 (I r1 5) → ∀ I5, I5 = upI I4 a0 6 (I4 r1 6) → ∀ I6, I6 = upI I5 a0 7 (I5 r1 7) → ∀ I7, I7 = upI I6 a0 8 (I6 r1 8) → ∀ I8, I8 = upI I7 a0 9 (I7 r1 9) → ∀ I9, I9 = upI I8 a0 10 (I8 r1 10) → ∀ I10, I10 = upI I9 a0 11 (I9 r1 11) → ∀ I11, I11 = upI I10 a0 12 (I10 r1 12) → ∀ I12, I12 = upI I11 a0 13 (I11 r1 13) → ∀ I13, I13 = upI I12 a0 14 (I12 r1 14) → Q I13
def w_X0_copyFrom_b91_body (K : MK) (R : MR) (a0 : Nat) (o1 : Option Nat) (Q : MI → Prop) (X91 : Int32 → MI → Prop) (y2_91 : Int32) (I : MI) : Prop := ∃ r14, o1 = some r14 ∧ IsBus K R r14 ∧ (((I r14 5) ≤ y2_91 → w_X0_copyFrom_b127 K R a0 o1 Q I) ∧ (¬ (I r14 5) ≤ y2_91 → (((200:Int32) ≤ y2_91 → w_X0_copyFrom_b127 K R a0 o1 Q I) ∧ (¬ (200:Int32) ≤ y2_91 → IsBus K R a0 ∧ vp_in y2_91 200 ∧ vp_in y2_91 200 ∧ w_X3_copyFrom K R (a0 + 38 + (ix y2_91)) (some (r14 + 38 + (ix y2_91))) I (fun I19 => X91 (y2_91 + (1:Int32)) I19)))))
def w_X0_copyFrom_b91 (K : MK) (R : MR) (a0 : Nat) (o1 : Option Nat) (Q : MI → Prop) (y2_91 : Int32) (I : MI) : Prop := ∀ X91 : Int32 → MI → Prop, (∀ (y2_91 : Int32) (I : MI), w_X0_copyFrom_b91_body K R a0 o1 Q X91 y2_91 I → X91 y2_91 I) → X91 y2_91 I
def w_X0_copyFrom_b63_body (K : MK) (R : MR) (a0 : Nat) (o1 : Option Nat) (Q : MI → Prop) (X63 : Int32 → MI → Prop) (y2_63 : Int32) (I : MI) : Prop := (((4:Int32) ≤ y2_63 → w_X0_copyFrom_b91 K R a0 o1 Q (0:Int32) I) ∧ (¬ (4:Int32) ≤ y2_63 → IsBus K R a0 ∧ vp_in y2_63 4 ∧ ∃ r24, o1 = some r24 ∧ IsBus K R r24 ∧ vp_in y2_63 4 ∧ w_X5_copyFrom K R (a0 + 18 + 5 * (ix y2_63)) (some (r24 + 18 + 5 * (ix y2_63))) I (fun I27 => X63 (y2_63 + (1:Int32)) I27)))
def w_X0_copyFrom_b63 (K : MK) (R : MR) (a0 : Nat) (o1 : Option Nat) (Q : MI → Prop) (y2_63 : Int32) (I : MI) : Prop := ∀ X63 : Int32 → MI → Prop, (∀ (y2_63 : Int32) (I : MI), w_X0_copyFrom_b63_body K R a0 o1 Q X63 y2_63 I → X63 y2_63 I) → X63 y2_63 I
def w_X0_copyFrom_b35_body (K : MK) (R : MR) (a0 : Nat) (o1 : Option Nat) (Q : MI → Prop) (X35 : Int32 → MI → Prop) (y2_35 : Int32) (I : MI) : Prop := (((4:Int32) ≤ y2_35 → w_X0_copyFrom_b63 K R a0 o1 Q (0:Int32) I) ∧ (¬ (4:Int32) ≤ y2_35 → IsBus K R a0 ∧ vp_in y2_35 4 ∧ ∃ r31, o1 = some r31 ∧ IsBus K R r31 ∧ vp_in y2_35 4 ∧ w_X2_copyFrom K R (a0 + 6 + 3 * (ix y2_35)) (some (r31 + 6 + 3 * (ix y2_35))) I (fun I34 => X35 (y2_35 + (1:Int32)) I34)))
def w_X0_copyFrom_b35 (K : MK) (R : MR) (a0 : Nat) (o1 : Option Nat) (Q : MI → Prop) (y2_35 : Int32) (I : MI) : Prop := ∀ X35 : Int32 → MI → Prop, (∀ (y2_35 : Int32) (I : MI), w_X0_copyFrom_b35_body K R a0 o1 Q X35 y2_35 I → X35 y2_35 I) → X35 y2_35 I
def w_X0_copyFrom (K : MK) (R : MR) (a0 : Nat) (o1 : Option Nat) (I : MI) (Q : MI → Prop) : Prop := ∃ r36, o1 = some r36 ∧ IsBus K R r36 ∧ IsBus K R a0 ∧ ∀ I39, I39 = cpI I (r36 + 1) (a0 + 1) 0 0 3 → ∀ I40, I40 = cpI I39 (r36 + 2) (a0 + 2) 0 0 8 → w_X0_copyFrom_b35 K R a0 o1 Q (0:Int32) I40
def w_X6_record_b91 (K : MK) (R : MR) (a0 : Nat) (Q : MI → Prop) (I : MI) : Prop := Q I
def w_X6_record_b54 (K : MK) (R : MR) (a0 : Nat) (Q : MI → Prop) (I : MI) : Prop := IsTag K R a0 ∧ w_X6_isIndex K R (I a0 5) (4:Int32) I (fun v3 I2 => ((v3 = 0 → w_X6_record_b91 K R a0 Q I2) ∧ (¬ v3 = 0 → vp_in (I2 a0 5) 4 ∧ IsBus K R (pastA a0 (I2 (a0 + 715) (ix (I2 a0 5)))) ∧ w_X0_copyFrom K R (pastA a0 (I2 (a0 + 715) (ix (I2 a0 5)))) (some (a0 + 1)) I2 (fun I6 => ∀ I7, I7 = upI I6 a0 5 ((I6 a0 5) + (1:Int32)) → w_X6_record_b91 K R a0 Q I7))))
def w_X6_record_b17_body (K : MK) (R : MR) (a0 : Nat) (Q : MI → Prop) (X17 : Int32 → Int32 → MI → Prop) (y1_17 : Int32) (y2_17 : Int32) (I : MI) : Prop := (((4:Int32) ≤ y2_17 → IsTag K R a0 ∧ IsBus K R (pastA a0 y1_17) ∧ ∀ I10, I10 = upI I (a0 + 715) 3 y1_17 → ∀ I12, I12 = upI I10 a0 5 (3:Int32) → w_X6_record_b54 K R a0 Q I12) ∧ (¬ (4:Int32) ≤ y2_17 → IsTag K R a0 ∧ vp_in y2_17 4 ∧ vp_in (y2_17 - (1:Int32)) 4 ∧ IsBus K R (pastA a0 (I (a0 + 715) (ix y2_17))) ∧ ∀ I16, I16 = upI I (a0 + 715) (ix (y2_17 - (1:Int32))) (I (a0 + 715) (ix y2_17)) → X17 y1_17 (y2_17 + (1:Int32)) I16))
def w_X6_record_b17 (K : MK) (R : MR) (a0 : Nat) (Q : MI → Prop) (y1_17 : Int32) (y2_17 : Int32) (I : MI) : Prop := ∀ X17 : Int32 → Int32 → MI → Prop, (∀ (y1_17 : Int32) (y2_17 : Int32) (I : MI), w_X6_record_b17_body K R a0 Q X17 y1_17 y2_17 I → X17 y1_17 y2_17 I) → X17 y1_17 y2_17 I
def w_X6_record (K : MK) (R : MR) (a0 : Nat) (I : MI) (Q : MI → Prop) : Prop := IsTag K R a0 ∧ (((I a0 5) < (4:Int32) → w_X6_record_b54 K R a0 Q I) ∧ (¬ (I a0 5) < (4:Int32) → w_X6_record_b17 K R a0 Q (I (a0 + 715) 0) (1:Int32) I))
def w_X6_set_b28 (K : MK) (R : MR) (a0 : Nat) (x1 : Int32) (x2 : Int32) (Q : Int32 → MI → Prop) (I : MI) : Prop := Q (-2:Int32) I
def w_X6_set_b49 (K : MK) (R : MR) (a0 : Nat) (x1 : Int32) (x2 : Int32) (Q : Int32 → MI → Prop) (I : MI) : Prop := IsTag K R a0 ∧ vp_in x1 3 ∧ ((¬ (I (a0 + 1 + 1) (ix x1)) = x2 → w_X6_record K R a0 I (fun I3 => vp_in x1 3 ∧ ∀ I5, I5 = upI I3 (a0 + 1 + 1) (ix x1) x2 → Q (I (a0 + 1 + 1) (ix x1)) I5)) ∧ ((I (a0 + 1 + 1) (ix x1)) = x2 → Q (-5:Int32) I))
def w_X6_set (K : MK) (R : MR) (a0 : Nat) (x1 : Int32) (x2 : Int32) (I : MI) (Q : Int32 → MI → Prop) : Prop := w_X6_isIndex K R x1 (3:Int32) I (fun v10 I9 => ((v10 = 0 → w_X6_set_b28 K R a0 x1 x2 Q I9) ∧ (¬ v10 = 0 → vp_in x1 3 ∧ vp_in x1 3 ∧ w_X6_isBetween K R x2 ((stL 0).getD (ix x1) 0) ((stL 1).getD (ix x1) 0) I9 (fun v18 I17 => ((¬ v18 = 0 → ((¬ x1 = 0 → w_X6_set_b49 K R a0 x1 x2 Q I17) ∧ (x1 = 0 → IsTag K R a0 ∧ w_X0_highestLentTag K R (a0 + 1) I17 (fun v21 I20 => ((v21 < x2 → w_X6_set_b49 K R a0 x1 x2 Q I20) ∧ (¬ v21 < x2 → Q (-4:Int32) I20)))))) ∧ (v18 = 0 → w_X6_set_b28 K R a0 x1 x2 Q I17))))))
def w_X0_masterAt_b18 (K : MK) (R : MR) (a0 : Nat) (x1 : Int32) (Q : Option Nat → MI → Prop) (z0_18 : Option Nat) (I : MI) : Prop := Q z0_18 I
def w_X0_masterAt (K : MK) (R : MR) (a0 : Nat) (x1 : Int32) (I : MI) (Q : Option Nat → MI → Prop) : Prop := w_X6_isIndex K R x1 (4:Int32) I (fun v2 I1 => ((v2 = 0 → w_X0_masterAt_b18 K R a0 x1 Q none I1) ∧ (¬ v2 = 0 → IsBus K R a0 ∧ vp_in x1 4 ∧ w_X0_masterAt_b18 K R a0 x1 Q (some (a0 + 6 + 3 * (ix x1))) I1)))
def w_X6_setShare (K : MK) (R : MR) (a0 : Nat) (x1 : Int32) (x2 : Int32) (I : MI) (Q : Int32 → MI → Prop) : Prop := IsTag K R a0 ∧ w_X0_masterAt K R (a0 + 1) x1 I (fun o3 I2 => ((o3 = none → Q (-1:Int32) I2) ∧ (∀ r4, o3 = some r4 → w_X6_isBetween K R x2 (1:Int32) (8:Int32) I2 (fun v6 I5 => ((¬ v6 = 0 → IsMaster K R r4 ∧ ((¬ (I5 r4 1) = x2 → w_X6_record K R a0 I5 (fun I8 => ∀ I9, I9 = upI I8 r4 1 x2 → Q (I5 r4 1) I9)) ∧ ((I5 r4 1) = x2 → Q (-5:Int32) I5))) ∧ (v6 = 0 → Q (-2:Int32) I5))))))
def w_X0_targetAt_b18 (K : MK) (R : MR) (a0 : Nat) (x1 : Int32) (Q : Option Nat → MI → Prop) (z0_18 : Option Nat) (I : MI) : Prop := Q z0_18 I
def w_X0_targetAt (K : MK) (R : MR) (a0 : Nat) (x1 : Int32) (I : MI) (Q : Option Nat → MI → Prop) : Prop := w_X6_isIndex K R x1 (4:Int32) I (fun v2 I1 => ((v2 = 0 → w_X0_targetAt_b18 K R a0 x1 Q none I1) ∧ (¬ v2 = 0 → IsBus K R a0 ∧ vp_in x1 4 ∧ w_X0_targetAt_b18 K R a0 x1 Q (some (a0 + 18 + 5 * (ix x1))) I1)))
def w_X6_setTarget_b45 (K : MK) (R : MR) (a0 : Nat) (x1 : Int32) (x2 : Int32) (x3 : Int32) (Q : Int32 → MI → Prop) (I : MI) : Prop := Q (-2:Int32) I
def w_X6_setTarget (K : MK) (R : MR) (a0 : Nat) (x1 : Int32) (x2 : Int32) (x3 : Int32) (I : MI) (Q : Int32 → MI → Prop) : Prop := IsTag K R a0 ∧ w_X0_targetAt K R (a0 + 1) x1 I (fun o3 I2 => ((o3 = none → Q (-1:Int32) I2) ∧ (∀ r4, o3 = some r4 → w_X6_isIndex K R x2 (3:Int32) I2 (fun v8 I7 => ((v8 = 0 → w_X6_setTarget_b45 K R a0 x1 x2 x3 Q I7) ∧ (¬ v8 = 0 → vp_in x2 3 ∧ vp_in x2 3 ∧ w_X6_isBetween K R x3 ((stL 2).getD (ix x2) 0) ((stL 3).getD (ix x2) 0) I7 (fun v16 I15 => ((¬ v16 = 0 → IsTarget K R r4 ∧ vp_in x2 3 ∧ ((¬ (I15 (r4 + 2) (ix x2)) = x3 → w_X6_record K R a0 I15 (fun I19 => vp_in x2 3 ∧ ∀ I21, I21 = upI I19 (r4 + 2) (ix x2) x3 → Q (I15 (r4 + 2) (ix x2)) I21)) ∧ ((I15 (r4 + 2) (ix x2)) = x3 → Q (-5:Int32) I15))) ∧ (v16 = 0 → w_X6_setTarget_b45 K R a0 x1 x2 x3 Q I15)))))))))
def w_X6_setCell_b36 (K : MK) (R : MR) (a0 : Nat) (x1 : Int32) (x2 : Int32) (x3 : Int32) (Q : Int32 → MI → Prop) (I : MI) : Prop := Q (-2:Int32) I
def w_X6_setCell (K : MK) (R : MR) (a0 : Nat) (x1 : Int32) (x2 : Int32) (x3 : Int32) (I : MI) (Q : Int32 → MI → Prop) : Prop := IsTag K R a0 ∧ w_X0_targetAt K R (a0 + 1) x1 I (fun o3 I2 => ((o3 = none → Q (-1:Int32) I2) ∧ (∀ r4, o3 = some r4 → w_X6_isIndex K R x2 (16:Int32) I2 (fun v6 I5 => ((v6 = 0 → w_X6_setCell_b36 K R a0 x1 x2 x3 Q I5) ∧ (¬ v6 = 0 → w_X6_isBetween K R x3 (0:Int32) (99:Int32) I5 (fun v8 I7 => ((¬ v8 = 0 → IsTarget K R r4 ∧ vp_in x2 16 ∧ ((¬ (I7 (r4 + 1) (ix x2)) = x3 → w_X6_record K R a0 I7 (fun I11 => vp_in x2 16 ∧ ∀ I13, I13 = upI I11 (r4 + 1) (ix x2) x3 → Q (I7 (r4 + 1) (ix x2)) I13)) ∧ ((I7 (r4 + 1) (ix x2)) = x3 → Q (-5:Int32) I7))) ∧ (v8 = 0 → w_X6_setCell_b36 K R a0 x1 x2 x3 Q I7)))))))))
def w_X3_begin (K : MK) (R : MR) (a0 : Nat) (x1 : Int32) (x2 : Int32) (x3 : Int32) (x4 : Int32) (x5 : Int32) (I : MI) (Q : MI → Prop) : Prop := IsQ K R a0 ∧ ∀ I2, I2 = upI I a0 0 x1 → ∀ I3, I3 = upI I2 a0 1 x2 → ∀ I4, I4 = upI I3 a0 2 x3 → ∀ I5, I5 = upI I4 a0 3 x4 → ∀ I6, I6 = upI I5 a0 4 (0:Int32) → ∀ I7, I7 = upI I6 a0 5 (-5:Int32) → ∀ I8, I8 = upI I7 a0 6 (-5:Int32) → ∀ I9, I9 = upI I8 a0 7 x5 → ∀ I10, I10 = upI I9 a0 8 (-5:Int32) → ∀ I11, I11 = upI I10 a0 9 (-5:Int32) → ∀ I12, I12 = upI I11 a0 10 (0:Int32) → Q I12
def w_X1_append_b32 (K : MK) (R : MR) (a0 : Nat) (x1 : Int32) (Q : MI → Prop) (I : MI) : Prop := Q I
def w_X1_append (K : MK) (R : MR) (a0 : Nat) (x1 : Int32) (I : MI) (Q : MI → Prop) : Prop := IsLine K R a0 ∧ w_X6_isIndex K R (I a0 1) (6:Int32) I (fun v3 I2 => ((v3 = 0 → w_X1_append_b32 K R a0 x1 Q I2) ∧ (¬ v3 = 0 → vp_in (I2 a0 1) 6 ∧ ∀ I5, I5 = upI I2 (a0 + 1) (ix (I2 a0 1)) x1 → ∀ I6, I6 = upI I5 a0 1 ((I5 a0 1) + (1:Int32)) → w_X1_append_b32 K R a0 x1 Q I6)))
def w_X0_put_b25 (K : MK) (R : MR) (a0 : Nat) (x1 : Int32) (x2 : Int32) (x3 : Int32) (x4 : Int32) (Q : Int32 → MI → Prop) (I : MI) : Prop := Q (-5:Int32) I
def w_X0_put (K : MK) (R : MR) (a0 : Nat) (x1 : Int32) (x2 : Int32) (x3 : Int32) (x4 : Int32) (I : MI) (Q : Int32 → MI → Prop) : Prop := IsBus K R a0 ∧ w_X0_masterAt K R a0 x1 I (fun o3 I2 => ((o3 = none → w_X0_put_b25 K R a0 x1 x2 x3 x4 Q I2) ∧ (∀ r4, o3 = some r4 → w_X6_isIndex K R (I2 a0 5) (200:Int32) I2 (fun v6 I5 => ((¬ v6 = 0 → vp_in (I5 a0 5) 200 ∧ w_X3_begin K R (a0 + 38 + (ix (I5 a0 5))) x1 x2 x3 x4 (I5 a0 6) I5 (fun I8 => ∀ I9, I9 = upI I8 a0 5 ((I8 a0 5) + (1:Int32)) → IsMaster K R r4 ∧ w_X1_append K R (r4 + 1) (I5 a0 5) I9 (fun I11 => Q (I5 a0 5) I11))) ∧ (v6 = 0 → w_X0_put_b25 K R a0 x1 x2 x3 x4 Q I5))))))
def w_X6_putOne_b26 (K : MK) (R : MR) (a0 : Nat) (x1 : Int32) (x2 : Int32) (x3 : Int32) (x4 : Int32) (Q : Int32 → MI → Prop) (I : MI) : Prop := Q (-1:Int32) I
def w_X6_putOne_b66 (K : MK) (R : MR) (a0 : Nat) (x1 : Int32) (x2 : Int32) (x3 : Int32) (x4 : Int32) (Q : Int32 → MI → Prop) (I : MI) : Prop := Q (-3:Int32) I
def w_X6_putOne (K : MK) (R : MR) (a0 : Nat) (x1 : Int32) (x2 : Int32) (x3 : Int32) (x4 : Int32) (I : MI) (Q : Int32 → MI → Prop) : Prop := IsTag K R a0 ∧ w_X0_masterAt K R (a0 + 1) x1 I (fun o3 I2 => ((o3 = none → w_X6_putOne_b26 K R a0 x1 x2 x3 x4 Q I2) ∧ (∀ r4, o3 = some r4 → w_X0_targetAt K R (a0 + 1) x2 I2 (fun o6 I5 => ((o6 = none → w_X6_putOne_b26 K R a0 x1 x2 x3 x4 Q I5) ∧ (∀ r7, o6 = some r7 → w_X6_isIndex K R x3 (16:Int32) I5 (fun v9 I8 => ((¬ v9 = 0 → IsMaster K R r4 ∧ (((6:Int32) ≤ (I8 (r4 + 1) 1) → w_X6_putOne_b66 K R a0 x1 x2 x3 x4 Q I8) ∧ (¬ (6:Int32) ≤ (I8 (r4 + 1) 1) → (((I8 (a0 + 1) 5) < (200:Int32) → w_X6_record K R a0 I8 (fun I11 => w_X0_put K R (a0 + 1) x1 x2 x3 x4 I11 (fun v13 I12 => Q v13 I12))) ∧ (¬ (I8 (a0 + 1) 5) < (200:Int32) → w_X6_putOne_b66 K R a0 x1 x2 x3 x4 Q I8))))) ∧ (v9 = 0 → Q (-2:Int32) I8)))))))))
def w_X6_read (K : MK) (R : MR) (a0 : Nat) (x1 : Int32) (x2 : Int32) (x3 : Int32) (I : MI) (Q : Int32 → MI → Prop) : Prop := IsTag K R a0 ∧ w_X6_putOne K R a0 x1 x2 x3 (-5:Int32) I (fun v3 I2 => Q v3 I2)
def w_X6_write_b22 (K : MK) (R : MR) (a0 : Nat) (x1 : Int32) (x2 : Int32) (x3 : Int32) (x4 : Int32) (Q : Int32 → MI → Prop) (I : MI) : Prop := Q (-1:Int32) I
def w_X6_write (K : MK) (R : MR) (a0 : Nat) (x1 : Int32) (x2 : Int32) (x3 : Int32) (x4 : Int32) (I : MI) (Q : Int32 → MI → Prop) : Prop := IsTag K R a0 ∧ w_X0_masterAt K R (a0 + 1) x1 I (fun o3 I2 => ((o3 = none → w_X6_write_b22 K R a0 x1 x2 x3 x4 Q I2) ∧ (∀ r4, o3 = some r4 → w_X0_targetAt K R (a0 + 1) x2 I2 (fun o6 I5 => ((o6 = none → w_X6_write_b22 K R a0 x1 x2 x3 x4 Q I5) ∧ (∀ r7, o6 = some r7 → w_X6_isBetween K R x4 (0:Int32) (99:Int32) I5 (fun v9 I8 => ((¬ v9 = 0 → w_X6_putOne K R a0 x1 x2 x3 x4 I8 (fun v11 I10 => Q v11 I10)) ∧ (v9 = 0 → Q (-2:Int32) I8)))))))))
def w_X4_digitAt_b17 (K : MK) (R : MR) (a0 : Nat) (x1 : Int32) (Q : Int32 → MI → Prop) (I : MI) : Prop := Q (-5:Int32) I
def w_X4_digitAt_b48 (K : MK) (R : MR) (a0 : Nat) (x1 : Int32) (Q : Int32 → MI → Prop) (z0_48 : Int32) (I : MI) : Prop := Q z0_48 I
def w_X4_digitAt_b46 (K : MK) (R : MR) (a0 : Nat) (x1 : Int32) (Q : Int32 → MI → Prop) (I : MI) : Prop := w_X4_digitAt_b48 K R a0 x1 Q (-5:Int32) I
def w_X4_digitAt (K : MK) (R : MR) (a0 : Nat) (x1 : Int32) (I : MI) (Q : Int32 → MI → Prop) : Prop := IsText K R a0 ∧ (((I a0 1) ≤ x1 → w_X4_digitAt_b17 K R a0 x1 Q I) ∧ (¬ (I a0 1) ≤ x1 → w_X6_isIndex K R x1 (60:Int32) I (fun v3 I2 => ((¬ v3 = 0 → vp_in x1 60 ∧ (((I2 (a0 + 1) (ix x1)) < (48:Int32) → w_X4_digitAt_b46 K R a0 x1 Q I2) ∧ (¬ (I2 (a0 + 1) (ix x1)) < (48:Int32) → (((57:Int32) < (I2 (a0 + 1) (ix x1)) → w_X4_digitAt_b46 K R a0 x1 Q I2) ∧ (¬ (57:Int32) < (I2 (a0 + 1) (ix x1)) → w_X4_digitAt_b48 K R a0 x1 Q ((I2 (a0 + 1) (ix x1)) - (48:Int32)) I2))))) ∧ (v3 = 0 → w_X4_digitAt_b17 K R a0 x1 Q I2)))))
def w_X4_readNumber_b20 (K : MK) (R : MR) (a0 : Nat) (x1 : Int32) (Q : Int32 → MI → Prop) (I : MI) : Prop := Q (-5:Int32) I
def w_X4_readNumber_b62 (K : MK) (R : MR) (a0 : Nat) (x1 : Int32) (Q : Int32 → MI → Prop) (y2_62 : Int32) (I : MI) : Prop := Q y2_62 I
def w_X4_readNumber (K : MK) (R : MR) (a0 : Nat) (x1 : Int32) (I : MI) (Q : Int32 → MI → Prop) : Prop := IsText K R a0 ∧ w_X4_digitAt K R a0 (I a0 4) I (fun v3 I2 => ((v3 = (-5:Int32) → w_X4_readNumber_b20 K R a0 x1 Q I2) ∧ (¬ v3 = (-5:Int32) → ((v3 ≤ x1 → ∀ I4, I4 = upI I2 a0 4 ((I2 a0 4) + (1:Int32)) → w_X4_digitAt K R a0 (I4 a0 4) I4 (fun v6 I5 => ((v3 = 0 → w_X4_readNumber_b62 K R a0 x1 Q v3 I5) ∧ (¬ v3 = 0 → ((v6 = (-5:Int32) → w_X4_readNumber_b62 K R a0 x1 Q v3 I5) ∧ (¬ v6 = (-5:Int32) → ((((v3 * (10:Int32)) + v6) ≤ x1 → ∀ I7, I7 = upI I5 a0 4 ((I5 a0 4) + (1:Int32)) → Q ((v3 * (10:Int32)) + v6) I7) ∧ (¬ ((v3 * (10:Int32)) + v6) ≤ x1 → w_X4_readNumber_b62 K R a0 x1 Q v3 I5)))))))) ∧ (¬ v3 ≤ x1 → w_X4_readNumber_b20 K R a0 x1 Q I2)))))
def w_X4_skip_b36 (K : MK) (R : MR) (a0 : Nat) (x1 : Int32) (Q : Int32 → MI → Prop) (I : MI) : Prop := Q (0:Int32) I
def w_X4_skip (K : MK) (R : MR) (a0 : Nat) (x1 : Int32) (I : MI) (Q : Int32 → MI → Prop) : Prop := IsText K R a0 ∧ (((I a0 1) ≤ (I a0 4) → w_X4_skip_b36 K R a0 x1 Q I) ∧ (¬ (I a0 1) ≤ (I a0 4) → w_X6_isIndex K R (I a0 4) (60:Int32) I (fun v3 I2 => ((v3 = 0 → w_X4_skip_b36 K R a0 x1 Q I2) ∧ (¬ v3 = 0 → vp_in (I2 a0 4) 60 ∧ (((I2 (a0 + 1) (ix (I2 a0 4))) = x1 → ∀ I5, I5 = upI I2 a0 4 ((I2 a0 4) + (1:Int32)) → Q (1:Int32) I5) ∧ (¬ (I2 (a0 + 1) (ix (I2 a0 4))) = x1 → w_X4_skip_b36 K R a0 x1 Q I2)))))))
def w_X4_readQuestion_b21 (K : MK) (R : MR) (a0 : Nat) (o1 : Option Nat) (Q : Int32 → MI → Prop) (I : MI) : Prop := Q (0:Int32) I
def w_X4_readQuestion_b90 (K : MK) (R : MR) (a0 : Nat) (o1 : Option Nat) (Q : Int32 → MI → Prop) (I : MI) : Prop := Q (0:Int32) I
def w_X4_readQuestion_b124 (K : MK) (R : MR) (a0 : Nat) (o1 : Option Nat) (Q : Int32 → MI → Prop) (y2_124 : Int32) (y3_124 : Int32) (y5_124 : Int32) (y6_124 : Int32) (I : MI) : Prop := ∃ r1, o1 = some r1 ∧ IsQ K R r1 ∧ w_X3_begin K R r1 y2_124 y3_124 y5_124 y6_124 (0:Int32) I (fun I3 => Q (1:Int32) I3)
def w_X4_readQuestion_b108 (K : MK) (R : MR) (a0 : Nat) (o1 : Option Nat) (Q : Int32 → MI → Prop) (y2_108 : Int32) (y3_108 : Int32) (y4_108 : Int32) (y5_108 : Int32) (z0_108 : Int32) (I : MI) : Prop := ((y4_108 = 0 → w_X4_readQuestion_b124 K R a0 o1 Q y2_108 y3_108 y5_108 z0_108 I) ∧ (¬ y4_108 = 0 → ((¬ z0_108 = (-5:Int32) → w_X4_readQuestion_b124 K R a0 o1 Q y2_108 y3_108 y5_108 z0_108 I) ∧ (z0_108 = (-5:Int32) → Q (0:Int32) I))))
def w_X4_readQuestion_b92 (K : MK) (R : MR) (a0 : Nat) (o1 : Option Nat) (Q : Int32 → MI → Prop) (y2_92 : Int32) (y3_92 : Int32) (y4_92 : Int32) (y5_92 : Int32) (I : MI) : Prop := ((y4_92 = 0 → w_X4_readQuestion_b108 K R a0 o1 Q y2_92 y3_92 y4_92 y5_92 (-5:Int32) I) ∧ (¬ y4_92 = 0 → IsText K R a0 ∧ w_X4_readNumber K R a0 (99:Int32) I (fun v8 I7 => w_X4_readQuestion_b108 K R a0 o1 Q y2_92 y3_92 y4_92 y5_92 v8 I7)))
def w_X4_readQuestion_b61 (K : MK) (R : MR) (a0 : Nat) (o1 : Option Nat) (Q : Int32 → MI → Prop) (y2_61 : Int32) (y3_61 : Int32) (y4_61 : Int32) (I : MI) : Prop := IsText K R a0 ∧ w_X4_readNumber K R a0 (15:Int32) I (fun v12 I11 => ((v12 = (-5:Int32) → w_X4_readQuestion_b90 K R a0 o1 Q I11) ∧ (¬ v12 = (-5:Int32) → ((y4_61 = 0 → w_X4_readQuestion_b92 K R a0 o1 Q y2_61 y3_61 y4_61 v12 I11) ∧ (¬ y4_61 = 0 → w_X4_skip K R a0 (61:Int32) I11 (fun v14 I13 => ((¬ v14 = 0 → w_X4_readQuestion_b92 K R a0 o1 Q y2_61 y3_61 y4_61 v12 I13) ∧ (v14 = 0 → w_X4_readQuestion_b90 K R a0 o1 Q I13))))))))
def w_X4_readQuestion (K : MK) (R : MR) (a0 : Nat) (o1 : Option Nat) (I : MI) (Q : Int32 → MI → Prop) : Prop := IsText K R a0 ∧ w_X4_readNumber K R a0 (3:Int32) I (fun v20 I19 => ((v20 = (-5:Int32) → w_X4_readQuestion_b21 K R a0 o1 Q I19) ∧ (¬ v20 = (-5:Int32) → w_X4_skip K R a0 (62:Int32) I19 (fun v22 I21 => ((¬ v22 = 0 → w_X4_readNumber K R a0 (3:Int32) I21 (fun v24 I23 => ((¬ v24 = (-5:Int32) → w_X4_skip K R a0 (119:Int32) I23 (fun v26 I25 => ((¬ v26 = 0 → w_X4_readQuestion_b61 K R a0 o1 Q v20 v24 v26 I25) ∧ (v26 = 0 → w_X4_skip K R a0 (114:Int32) I25 (fun v28 I27 => ((¬ v28 = 0 → w_X4_readQuestion_b61 K R a0 o1 Q v20 v24 v26 I27) ∧ (v28 = 0 → Q (0:Int32) I27))))))) ∧ (v24 = (-5:Int32) → Q (0:Int32) I23)))) ∧ (v22 = 0 → w_X4_readQuestion_b21 K R a0 o1 Q I21))))))
def w_X4_findFault_b12_body (K : MK) (R : MR) (a0 : Nat) (Q : Int32 → MI → Prop) (X12 : Int32 → MI → Prop) (y1_12 : Int32) (I : MI) : Prop := (((10:Int32) ≤ y1_12 → IsText K R a0 ∧ Q (I a0 4) I) ∧ (¬ (10:Int32) ≤ y1_12 → IsText K R a0 ∧ vp_in y1_12 10 ∧ w_X4_readQuestion K R a0 (some (a0 + 3 + (ix y1_12))) I (fun v5 I4 => ((¬ v5 = 0 → ∀ I6, I6 = upI I4 a0 3 ((I4 a0 3) + (1:Int32)) → (((I6 a0 4) < (I6 a0 1) → w_X4_skip K R a0 (59:Int32) I6 (fun v8 I7 => ((¬ v8 = 0 → X12 (y1_12 + (1:Int32)) I7) ∧ (v8 = 0 → Q (I7 a0 4) I7)))) ∧ (¬ (I6 a0 4) < (I6 a0 1) → Q (-5:Int32) I6))) ∧ (v5 = 0 → Q (I4 a0 4) I4)))))
def w_X4_findFault_b12 (K : MK) (R : MR) (a0 : Nat) (Q : Int32 → MI → Prop) (y1_12 : Int32) (I : MI) : Prop := ∀ X12 : Int32 → MI → Prop, (∀ (y1_12 : Int32) (I : MI), w_X4_findFault_b12_body K R a0 Q X12 y1_12 I → X12 y1_12 I) → X12 y1_12 I
def w_X4_findFault (K : MK) (R : MR) (a0 : Nat) (I : MI) (Q : Int32 → MI → Prop) : Prop := IsText K R a0 ∧ ∀ I14, I14 = upI I a0 4 (0:Int32) → ∀ I15, I15 = upI I14 a0 3 (0:Int32) → w_X4_findFault_b12 K R a0 Q (0:Int32) I15
def w_X4_foundOf_b34 (K : MK) (R : MR) (a0 : Nat) (x1 : Int32) (Q : Int32 → MI → Prop) (X4 : Int32 → Int32 → MI → Prop) (y2_34 : Int32) (y3_34 : Int32) (I : MI) : Prop := X4 y2_34 (y3_34 + (1:Int32)) I
def w_X4_foundOf_b40 (K : MK) (R : MR) (a0 : Nat) (x1 : Int32) (Q : Int32 → MI → Prop) (y2_40 : Int32) (I : MI) : Prop := Q y2_40 I
def w_X4_foundOf_b4_body (K : MK) (R : MR) (a0 : Nat) (x1 : Int32) (Q : Int32 → MI → Prop) (X4 : Int32 → Int32 → MI → Prop) (y2_4 : Int32) (y3_4 : Int32) (I : MI) : Prop := IsText K R a0 ∧ (((I a0 3) ≤ y3_4 → w_X4_foundOf_b40 K R a0 x1 Q y2_4 I) ∧ (¬ (I a0 3) ≤ y3_4 → (((10:Int32) ≤ y3_4 → w_X4_foundOf_b40 K R a0 x1 Q y2_4 I) ∧ (¬ (10:Int32) ≤ y3_4 → vp_in y3_4 10 ∧ ((¬ (I (a0 + 3 + (ix y3_4)) 0) = x1 → w_X4_foundOf_b34 K R a0 x1 Q X4 y2_4 y3_4 I) ∧ ((I (a0 + 3 + (ix y3_4)) 0) = x1 → w_X4_foundOf_b34 K R a0 x1 Q X4 (y2_4 + (1:Int32)) y3_4 I))))))
def w_X4_foundOf_b4 (K : MK) (R : MR) (a0 : Nat) (x1 : Int32) (Q : Int32 → MI → Prop) (y2_4 : Int32) (y3_4 : Int32) (I : MI) : Prop := ∀ X4 : Int32 → Int32 → MI → Prop, (∀ (y2_4 : Int32) (y3_4 : Int32) (I : MI), w_X4_foundOf_b4_body K R a0 x1 Q X4 y2_4 y3_4 I → X4 y2_4 y3_4 I) → X4 y2_4 y3_4 I
def w_X4_foundOf (K : MK) (R : MR) (a0 : Nat) (x1 : Int32) (I : MI) (Q : Int32 → MI → Prop) : Prop := w_X4_foundOf_b4 K R a0 x1 Q (0:Int32) (0:Int32) I
def w_X6_hasRoomForText_b64 (K : MK) (R : MR) (a0 : Nat) (Q : Int32 → MI → Prop) (I : MI) : Prop := Q (0:Int32) I
def w_X6_hasRoomForText_b25_body (K : MK) (R : MR) (a0 : Nat) (Q : Int32 → MI → Prop) (X25 : Int32 → MI → Prop) (y1_25 : Int32) (I : MI) : Prop := (((4:Int32) ≤ y1_25 → Q (1:Int32) I) ∧ (¬ (4:Int32) ≤ y1_25 → IsTag K R a0 ∧ w_X0_masterAt K R (a0 + 1) y1_25 I (fun o3 I2 => ((o3 = none → w_X6_hasRoomForText_b64 K R a0 Q I2) ∧ (∀ r4, o3 = some r4 → IsMaster K R r4 ∧ w_X4_foundOf K R (a0 + 716) y1_25 I2 (fun v7 I6 => ((((I2 (r4 + 1) 1) + v7) ≤ (6:Int32) → X25 (y1_25 + (1:Int32)) I6) ∧ (¬ ((I2 (r4 + 1) 1) + v7) ≤ (6:Int32) → w_X6_hasRoomForText_b64 K R a0 Q I6))))))))
def w_X6_hasRoomForText_b25 (K : MK) (R : MR) (a0 : Nat) (Q : Int32 → MI → Prop) (y1_25 : Int32) (I : MI) : Prop := ∀ X25 : Int32 → MI → Prop, (∀ (y1_25 : Int32) (I : MI), w_X6_hasRoomForText_b25_body K R a0 Q X25 y1_25 I → X25 y1_25 I) → X25 y1_25 I
def w_X6_hasRoomForText (K : MK) (R : MR) (a0 : Nat) (I : MI) (Q : Int32 → MI → Prop) : Prop := IsTag K R a0 ∧ ((((I (a0 + 1) 5) + (I (a0 + 716) 3)) ≤ (200:Int32) → w_X6_hasRoomForText_b25 K R a0 Q (0:Int32) I) ∧ (¬ ((I (a0 + 1) 5) + (I (a0 + 716) 3)) ≤ (200:Int32) → Q (0:Int32) I))
def w_X4_questionAt_b30 (K : MK) (R : MR) (a0 : Nat) (x1 : Int32) (Q : Option Nat → MI → Prop) (z0_30 : Option Nat) (I : MI) : Prop := Q z0_30 I
def w_X4_questionAt_b29 (K : MK) (R : MR) (a0 : Nat) (x1 : Int32) (Q : Option Nat → MI → Prop) (I : MI) : Prop := w_X4_questionAt_b30 K R a0 x1 Q none I
def w_X4_questionAt (K : MK) (R : MR) (a0 : Nat) (x1 : Int32) (I : MI) (Q : Option Nat → MI → Prop) : Prop := IsText K R a0 ∧ w_X6_isIndex K R x1 (I a0 3) I (fun v3 I2 => ((v3 = 0 → w_X4_questionAt_b29 K R a0 x1 Q I2) ∧ (¬ v3 = 0 → w_X6_isIndex K R x1 (10:Int32) I2 (fun v5 I4 => ((v5 = 0 → w_X4_questionAt_b29 K R a0 x1 Q I4) ∧ (¬ v5 = 0 → vp_in x1 10 ∧ w_X4_questionAt_b30 K R a0 x1 Q (some (a0 + 3 + (ix x1))) I4))))))
def w_X6_ask_b83 (K : MK) (R : MR) (a0 : Nat) (Q : Int32 → MI → Prop) (X35 : Int32 → MI → Prop) (y2_83 : Int32) (I : MI) : Prop := X35 (y2_83 + (1:Int32)) I
def w_X6_ask_b35_body (K : MK) (R : MR) (a0 : Nat) (Q : Int32 → MI → Prop) (X35 : Int32 → MI → Prop) (y2_35 : Int32) (I : MI) : Prop := IsTag K R a0 ∧ (((I (a0 + 716) 3) ≤ y2_35 → Q (I (a0 + 716) 3) I) ∧ (¬ (I (a0 + 716) 3) ≤ y2_35 → w_X4_questionAt K R (a0 + 716) y2_35 I (fun o3 I2 => ((o3 = none → w_X6_ask_b83 K R a0 Q X35 y2_35 I2) ∧ (∀ r4, o3 = some r4 → IsQ K R r4 ∧ w_X0_put K R (a0 + 1) (I2 r4 0) (I2 r4 1) (I2 r4 2) (I2 r4 3) I2 (fun v7 I6 => w_X6_ask_b83 K R a0 Q X35 y2_35 I6))))))
def w_X6_ask_b35 (K : MK) (R : MR) (a0 : Nat) (Q : Int32 → MI → Prop) (y2_35 : Int32) (I : MI) : Prop := ∀ X35 : Int32 → MI → Prop, (∀ (y2_35 : Int32) (I : MI), w_X6_ask_b35_body K R a0 Q X35 y2_35 I → X35 y2_35 I) → X35 y2_35 I
def w_X6_ask (K : MK) (R : MR) (a0 : Nat) (I : MI) (Q : Int32 → MI → Prop) : Prop := IsTag K R a0 ∧ w_X4_findFault K R (a0 + 716) I (fun v11 I10 => ((v11 = (-5:Int32) → w_X6_hasRoomForText K R a0 I10 (fun v13 I12 => ((¬ v13 = 0 → w_X6_record K R a0 I12 (fun I14 => w_X6_ask_b35 K R a0 Q (0:Int32) I14)) ∧ (v13 = 0 → Q (-3:Int32) I12)))) ∧ (¬ v11 = (-5:Int32) → Q ((-100:Int32) - v11) I10)))
def w_X1_at_b31 (K : MK) (R : MR) (a0 : Nat) (x1 : Int32) (Q : Int32 → MI → Prop) (z0_31 : Int32) (I : MI) : Prop := Q z0_31 I
def w_X1_at_b29 (K : MK) (R : MR) (a0 : Nat) (x1 : Int32) (Q : Int32 → MI → Prop) (I : MI) : Prop := w_X1_at_b31 K R a0 x1 Q (-5:Int32) I
def w_X1_at (K : MK) (R : MR) (a0 : Nat) (x1 : Int32) (I : MI) (Q : Int32 → MI → Prop) : Prop := IsLine K R a0 ∧ w_X6_isIndex K R x1 (I a0 1) I (fun v3 I2 => ((v3 = 0 → w_X1_at_b29 K R a0 x1 Q I2) ∧ (¬ v3 = 0 → w_X6_isIndex K R x1 (6:Int32) I2 (fun v5 I4 => ((v5 = 0 → w_X1_at_b29 K R a0 x1 Q I4) ∧ (¬ v5 = 0 → vp_in x1 6 ∧ w_X1_at_b31 K R a0 x1 Q (I4 (a0 + 1) (ix x1)) I4))))))
def w_X1_removeAt_b50 (K : MK) (R : MR) (a0 : Nat) (x1 : Int32) (Q : MI → Prop) (I : MI) : Prop := IsLine K R a0 ∧ ∀ I2, I2 = upI I a0 1 ((I a0 1) - (1:Int32)) → Q I2
def w_X1_removeAt_b16_body (K : MK) (R : MR) (a0 : Nat) (x1 : Int32) (Q : MI → Prop) (X16 : Int32 → MI → Prop) (y2_16 : Int32) (I : MI) : Prop := IsLine K R a0 ∧ (((I a0 1) ≤ y2_16 → w_X1_removeAt_b50 K R a0 x1 Q I) ∧ (¬ (I a0 1) ≤ y2_16 → (((6:Int32) ≤ y2_16 → w_X1_removeAt_b50 K R a0 x1 Q I) ∧ (¬ (6:Int32) ≤ y2_16 → vp_in y2_16 6 ∧ vp_in (y2_16 - (1:Int32)) 6 ∧ ∀ I6, I6 = upI I (a0 + 1) (ix (y2_16 - (1:Int32))) (I (a0 + 1) (ix y2_16)) → X16 (y2_16 + (1:Int32)) I6))))
def w_X1_removeAt_b16 (K : MK) (R : MR) (a0 : Nat) (x1 : Int32) (Q : MI → Prop) (y2_16 : Int32) (I : MI) : Prop := ∀ X16 : Int32 → MI → Prop, (∀ (y2_16 : Int32) (I : MI), w_X1_removeAt_b16_body K R a0 x1 Q X16 y2_16 I → X16 y2_16 I) → X16 y2_16 I
def w_X1_removeAt (K : MK) (R : MR) (a0 : Nat) (x1 : Int32) (I : MI) (Q : MI → Prop) : Prop := IsLine K R a0 ∧ w_X6_isIndex K R x1 (I a0 1) I (fun v11 I10 => ((¬ v11 = 0 → w_X1_removeAt_b16 K R a0 x1 Q (x1 + (1:Int32)) I10) ∧ (v11 = 0 → Q I10)))
def w_X0_questionAt_b31 (K : MK) (R : MR) (a0 : Nat) (x1 : Int32) (Q : Option Nat → MI → Prop) (z0_31 : Option Nat) (I : MI) : Prop := Q z0_31 I
def w_X0_questionAt_b30 (K : MK) (R : MR) (a0 : Nat) (x1 : Int32) (Q : Option Nat → MI → Prop) (I : MI) : Prop := w_X0_questionAt_b31 K R a0 x1 Q none I
def w_X0_questionAt (K : MK) (R : MR) (a0 : Nat) (x1 : Int32) (I : MI) (Q : Option Nat → MI → Prop) : Prop := IsBus K R a0 ∧ w_X6_isIndex K R x1 (I a0 5) I (fun v3 I2 => ((v3 = 0 → w_X0_questionAt_b30 K R a0 x1 Q I2) ∧ (¬ v3 = 0 → w_X6_isIndex K R x1 (200:Int32) I2 (fun v5 I4 => ((v5 = 0 → w_X0_questionAt_b30 K R a0 x1 Q I4) ∧ (¬ v5 = 0 → vp_in x1 200 ∧ w_X0_questionAt_b31 K R a0 x1 Q (some (a0 + 38 + (ix x1))) I4))))))
def w_X0_takeLastOf_b60 (K : MK) (R : MR) (a0 : Nat) (o1 : Option Nat) (Q : Int32 → MI → Prop) (y3_60 : Int32) (I : MI) : Prop := Q y3_60 I
def w_X0_takeLastOf_b42 (K : MK) (R : MR) (a0 : Nat) (o1 : Option Nat) (Q : Int32 → MI → Prop) (y3_42 : Int32) (I : MI) : Prop := IsBus K R a0 ∧ w_X0_questionAt K R a0 y3_42 I (fun o3 I2 => ((o3 = none → w_X0_takeLastOf_b60 K R a0 o1 Q y3_42 I2) ∧ (∀ r4, o3 = some r4 → IsQ K R r4 ∧ ∀ I6, I6 = upI I2 r4 4 (4:Int32) → w_X0_takeLastOf_b60 K R a0 o1 Q y3_42 I6)))
def w_X0_takeLastOf (K : MK) (R : MR) (a0 : Nat) (o1 : Option Nat) (I : MI) (Q : Int32 → MI → Prop) : Prop := ∃ r7, o1 = some r7 ∧ IsMaster K R r7 ∧ w_X1_at K R (r7 + 1) ((I (r7 + 1) 1) - (1:Int32)) I (fun v10 I9 => w_X1_removeAt K R (r7 + 1) ((I (r7 + 1) 1) - (1:Int32)) I9 (fun I11 => ((¬ (I11 (r7 + 1) 1) = 0 → w_X0_takeLastOf_b42 K R a0 o1 Q v10 I11) ∧ ((I11 (r7 + 1) 1) = 0 → ∀ I12, I12 = upI I11 r7 5 (0:Int32) → w_X0_takeLastOf_b42 K R a0 o1 Q v10 I12))))
def w_X6_withdraw (K : MK) (R : MR) (a0 : Nat) (x1 : Int32) (I : MI) (Q : Int32 → MI → Prop) : Prop := IsTag K R a0 ∧ w_X0_masterAt K R (a0 + 1) x1 I (fun o3 I2 => ((o3 = none → Q (-1:Int32) I2) ∧ (∀ r4, o3 = some r4 → IsMaster K R r4 ∧ ((¬ (I2 (r4 + 1) 1) = 0 → w_X6_record K R a0 I2 (fun I6 => w_X0_takeLastOf K R (a0 + 1) (some r4) I6 (fun v8 I7 => Q v8 I7))) ∧ ((I2 (r4 + 1) 1) = 0 → Q (-5:Int32) I2)))))
def w_X5_useCell_b32 (K : MK) (R : MR) (a0 : Nat) (x1 : Int32) (x2 : Int32) (Q : Int32 → MI → Prop) (y3_32 : Int32) (I : MI) : Prop := Q y3_32 I
def w_X5_useCell (K : MK) (R : MR) (a0 : Nat) (x1 : Int32) (x2 : Int32) (I : MI) (Q : Int32 → MI → Prop) : Prop := w_X6_isIndex K R x1 (16:Int32) I (fun v2 I1 => ((¬ v2 = 0 → IsTarget K R a0 ∧ vp_in x1 16 ∧ ((x2 = (-5:Int32) → w_X5_useCell_b32 K R a0 x1 x2 Q (I1 (a0 + 1) (ix x1)) I1) ∧ (¬ x2 = (-5:Int32) → vp_in x1 16 ∧ ∀ I6, I6 = upI I1 (a0 + 1) (ix x1) x2 → w_X5_useCell_b32 K R a0 x1 x2 Q (I1 (a0 + 1) (ix x1)) I6))) ∧ (v2 = 0 → Q (-5:Int32) I1)))
def w_X0_finishQuestions_b104 (K : MK) (R : MR) (a0 : Nat) (Q : MI → Prop) (X10 : Int32 → Int32 → MI → Prop) (X23 : Int32 → Int32 → Nat → Int32 → MI → Prop) (y2_104 : Int32) (y3_104 : Int32) (y4_104 : Nat) (y5_104 : Int32) (I : MI) : Prop := X23 y2_104 y3_104 y4_104 (y5_104 + (1:Int32)) I
def w_X0_finishQuestions_b23_body (K : MK) (R : MR) (a0 : Nat) (Q : MI → Prop) (X10 : Int32 → Int32 → MI → Prop) (X23 : Int32 → Int32 → Nat → Int32 → MI → Prop) (y2_23 : Int32) (y3_23 : Int32) (y4_23 : Nat) (y5_23 : Int32) (I : MI) : Prop := IsTarget K R y4_23 ∧ (((I (y4_23 + 3) 1) ≤ y5_23 → X10 y2_23 (y3_23 + (1:Int32)) I) ∧ (¬ (I (y4_23 + 3) 1) ≤ y5_23 → w_X1_at K R (y4_23 + 3) y5_23 I (fun v3 I2 => IsBus K R a0 ∧ w_X0_questionAt K R a0 v3 I2 (fun o6 I5 => ((o6 = none → w_X0_finishQuestions_b104 K R a0 Q X10 X23 y2_23 y3_23 y4_23 y5_23 I5) ∧ (∀ r7, o6 = some r7 → IsQ K R r7 ∧ ((¬ (I5 r7 4) = (1:Int32) → w_X0_finishQuestions_b104 K R a0 Q X10 X23 y2_23 y3_23 y4_23 y5_23 I5) ∧ ((I5 r7 4) = (1:Int32) → ((¬ (I5 r7 8) = (I5 a0 6) → w_X0_finishQuestions_b104 K R a0 Q X10 X23 y2_23 y3_23 y4_23 y5_23 I5) ∧ ((I5 r7 8) = (I5 a0 6) → w_X5_useCell K R y4_23 (I5 r7 2) (I5 r7 3) I5 (fun v10 I9 => ∀ I11, I11 = upI I9 r7 6 v10 → ∀ I12, I12 = upI I11 r7 4 (2:Int32) → w_X0_finishQuestions_b104 K R a0 Q X10 X23 y2_23 y3_23 y4_23 y5_23 I12)))))))))))
def w_X0_finishQuestions_b23 (K : MK) (R : MR) (a0 : Nat) (Q : MI → Prop) (X10 : Int32 → Int32 → MI → Prop) (y2_23 : Int32) (y3_23 : Int32) (y4_23 : Nat) (y5_23 : Int32) (I : MI) : Prop := ∀ X23 : Int32 → Int32 → Nat → Int32 → MI → Prop, (∀ (y2_23 : Int32) (y3_23 : Int32) (y4_23 : Nat) (y5_23 : Int32) (I : MI), w_X0_finishQuestions_b23_body K R a0 Q X10 X23 y2_23 y3_23 y4_23 y5_23 I → X23 y2_23 y3_23 y4_23 y5_23 I) → X23 y2_23 y3_23 y4_23 y5_23 I
def w_X0_finishQuestions_b10_body (K : MK) (R : MR) (a0 : Nat) (Q : MI → Prop) (X10 : Int32 → Int32 → MI → Prop) (y2_10 : Int32) (y3_10 : Int32) (I : MI) : Prop := ((y2_10 ≤ y3_10 → Q I) ∧ (¬ y2_10 ≤ y3_10 → IsBus K R a0 ∧ vp_in y3_10 4 ∧ w_X0_finishQuestions_b23 K R a0 Q X10 y2_10 y3_10 (a0 + 18 + 5 * (ix y3_10)) (0:Int32) I))
def w_X0_finishQuestions_b10 (K : MK) (R : MR) (a0 : Nat) (Q : MI → Prop) (y2_10 : Int32) (y3_10 : Int32) (I : MI) : Prop := ∀ X10 : Int32 → Int32 → MI → Prop, (∀ (y2_10 : Int32) (y3_10 : Int32) (I : MI), w_X0_finishQuestions_b10_body K R a0 Q X10 y2_10 y3_10 I → X10 y2_10 y3_10 I) → X10 y2_10 y3_10 I
def w_X0_finishQuestions (K : MK) (R : MR) (a0 : Nat) (I : MI) (Q : MI → Prop) : Prop := IsBus K R a0 ∧ w_X0_finishQuestions_b10 K R a0 Q (4:Int32) (0:Int32) I
def w_X0_placeOfAnswer_b114 (K : MK) (R : MR) (a0 : Nat) (o1 : Option Nat) (Q : Int32 → MI → Prop) (X51 : Int32 → Int32 → Int32 → Int32 → MI → Prop) (y3_114 : Int32) (y4_114 : Int32) (y5_114 : Int32) (y6_114 : Int32) (I : MI) : Prop := X51 y3_114 y4_114 y5_114 (y6_114 + (1:Int32)) I
def w_X0_placeOfAnswer_b103 (K : MK) (R : MR) (a0 : Nat) (o1 : Option Nat) (Q : Int32 → MI → Prop) (X51 : Int32 → Int32 → Int32 → Int32 → MI → Prop) (y3_103 : Int32) (y6_103 : Int32) (y7_103 : Option Nat) (I : MI) : Prop := ∃ r1, y7_103 = some r1 ∧ IsQ K R r1 ∧ w_X0_placeOfAnswer_b114 K R a0 o1 Q X51 y3_103 y6_103 (I r1 8) y6_103 I
def w_X0_placeOfAnswer_b51_body (K : MK) (R : MR) (a0 : Nat) (o1 : Option Nat) (Q : Int32 → MI → Prop) (X51 : Int32 → Int32 → Int32 → Int32 → MI → Prop) (y3_51 : Int32) (y4_51 : Int32) (y5_51 : Int32) (y6_51 : Int32) (I : MI) : Prop := ((y3_51 ≤ y6_51 → Q y4_51 I) ∧ (¬ y3_51 ≤ y6_51 → ∃ r3, o1 = some r3 ∧ IsTarget K R r3 ∧ w_X1_at K R (r3 + 3) y6_51 I (fun v6 I5 => IsBus K R a0 ∧ w_X0_questionAt K R a0 v6 I5 (fun o9 I8 => ((o9 = none → w_X0_placeOfAnswer_b114 K R a0 o1 Q X51 y3_51 y4_51 y5_51 y6_51 I8) ∧ (∀ r10, o9 = some r10 → IsQ K R r10 ∧ ((¬ (I8 r10 4) = (2:Int32) → w_X0_placeOfAnswer_b114 K R a0 o1 Q X51 y3_51 y4_51 y5_51 y6_51 I8) ∧ ((I8 r10 4) = (2:Int32) → ((y4_51 = (-5:Int32) → w_X0_placeOfAnswer_b103 K R a0 o1 Q X51 y3_51 y6_51 (some r10) I8) ∧ (¬ y4_51 = (-5:Int32) → ((y5_51 ≤ (I8 r10 8) → w_X0_placeOfAnswer_b114 K R a0 o1 Q X51 y3_51 y4_51 y5_51 y6_51 I8) ∧ (¬ y5_51 ≤ (I8 r10 8) → w_X0_placeOfAnswer_b103 K R a0 o1 Q X51 y3_51 y6_51 (some r10) I8))))))))))))
def w_X0_placeOfAnswer_b51 (K : MK) (R : MR) (a0 : Nat) (o1 : Option Nat) (Q : Int32 → MI → Prop) (y3_51 : Int32) (y4_51 : Int32) (y5_51 : Int32) (y6_51 : Int32) (I : MI) : Prop := ∀ X51 : Int32 → Int32 → Int32 → Int32 → MI → Prop, (∀ (y3_51 : Int32) (y4_51 : Int32) (y5_51 : Int32) (y6_51 : Int32) (I : MI), w_X0_placeOfAnswer_b51_body K R a0 o1 Q X51 y3_51 y4_51 y5_51 y6_51 I → X51 y3_51 y4_51 y5_51 y6_51 I) → X51 y3_51 y4_51 y5_51 y6_51 I
def w_X0_placeOfAnswer_b40 (K : MK) (R : MR) (a0 : Nat) (o1 : Option Nat) (Q : Int32 → MI → Prop) (z0_40 : Int32) (I : MI) : Prop := w_X0_placeOfAnswer_b51 K R a0 o1 Q z0_40 (-5:Int32) (0:Int32) (0:Int32) I
def w_X0_placeOfAnswer_b14 (K : MK) (R : MR) (a0 : Nat) (o1 : Option Nat) (Q : Int32 → MI → Prop) (z0_14 : Int32) (I : MI) : Prop := ((z0_14 = 0 → ∃ r16, o1 = some r16 ∧ IsTarget K R r16 ∧ w_X0_placeOfAnswer_b40 K R a0 o1 Q (I (r16 + 3) 1) I) ∧ (¬ z0_14 = 0 → ∃ r18, o1 = some r18 ∧ IsTarget K R r18 ∧ w_X0_placeOfAnswer_b40 K R a0 o1 Q (if (I (r18 + 3) 1) < (1:Int32) then (I (r18 + 3) 1) else (1:Int32)) I))
def w_X0_placeOfAnswer (K : MK) (R : MR) (a0 : Nat) (o1 : Option Nat) (I : MI) (Q : Int32 → MI → Prop) : Prop := ∃ r21, o1 = some r21 ∧ IsTarget K R r21 ∧ ((¬ (I (r21 + 2) 2) = 0 → w_X0_placeOfAnswer_b14 K R a0 o1 Q (0:Int32) I) ∧ ((I (r21 + 2) 2) = 0 → w_X0_placeOfAnswer_b14 K R a0 o1 Q (1:Int32) I))
def w_X0_targetThatAnswers_b38 (K : MK) (R : MR) (a0 : Nat) (Q : Int32 → MI → Prop) (X2 : Int32 → MI → Prop) (y1_38 : Int32) (I : MI) : Prop := X2 (y1_38 + (1:Int32)) I
def w_X0_targetThatAnswers_b2_body (K : MK) (R : MR) (a0 : Nat) (Q : Int32 → MI → Prop) (X2 : Int32 → MI → Prop) (y1_2 : Int32) (I : MI) : Prop := (((4:Int32) ≤ y1_2 → Q (-5:Int32) I) ∧ (¬ (4:Int32) ≤ y1_2 → IsBus K R a0 ∧ w_X0_targetAt K R a0 (((I a0 9) + y1_2) - ((I a0 9) + y1_2) / (4:Int32) * (4:Int32)) I (fun o3 I2 => ((o3 = none → w_X0_targetThatAnswers_b38 K R a0 Q X2 y1_2 I2) ∧ (∀ r4, o3 = some r4 → w_X0_placeOfAnswer K R a0 (some r4) I2 (fun v6 I5 => ((v6 = (-5:Int32) → w_X0_targetThatAnswers_b38 K R a0 Q X2 y1_2 I5) ∧ (¬ v6 = (-5:Int32) → Q (((I a0 9) + y1_2) - ((I a0 9) + y1_2) / (4:Int32) * (4:Int32)) I5))))))))
def w_X0_targetThatAnswers_b2 (K : MK) (R : MR) (a0 : Nat) (Q : Int32 → MI → Prop) (y1_2 : Int32) (I : MI) : Prop := ∀ X2 : Int32 → MI → Prop, (∀ (y1_2 : Int32) (I : MI), w_X0_targetThatAnswers_b2_body K R a0 Q X2 y1_2 I → X2 y1_2 I) → X2 y1_2 I
def w_X0_targetThatAnswers (K : MK) (R : MR) (a0 : Nat) (I : MI) (Q : Int32 → MI → Prop) : Prop := w_X0_targetThatAnswers_b2 K R a0 Q (0:Int32) I
def w_X0_lowestFreeTag_b37 (K : MK) (R : MR) (a0 : Nat) (Q : Int32 → MI → Prop) (I : MI) : Prop := Q (-5:Int32) I
def w_X0_lowestFreeTag_b2_body (K : MK) (R : MR) (a0 : Nat) (Q : Int32 → MI → Prop) (X2 : Int32 → MI → Prop) (y1_2 : Int32) (I : MI) : Prop := IsBus K R a0 ∧ (((I (a0 + 1) 0) ≤ y1_2 → w_X0_lowestFreeTag_b37 K R a0 Q I) ∧ (¬ (I (a0 + 1) 0) ≤ y1_2 → (((8:Int32) ≤ y1_2 → w_X0_lowestFreeTag_b37 K R a0 Q I) ∧ (¬ (8:Int32) ≤ y1_2 → vp_in y1_2 8 ∧ ((¬ (I (a0 + 2) (ix y1_2)) = (-5:Int32) → X2 (y1_2 + (1:Int32)) I) ∧ ((I (a0 + 2) (ix y1_2)) = (-5:Int32) → Q y1_2 I))))))
def w_X0_lowestFreeTag_b2 (K : MK) (R : MR) (a0 : Nat) (Q : Int32 → MI → Prop) (y1_2 : Int32) (I : MI) : Prop := ∀ X2 : Int32 → MI → Prop, (∀ (y1_2 : Int32) (I : MI), w_X0_lowestFreeTag_b2_body K R a0 Q X2 y1_2 I → X2 y1_2 I) → X2 y1_2 I
def w_X0_lowestFreeTag (K : MK) (R : MR) (a0 : Nat) (I : MI) (Q : Int32 → MI → Prop) : Prop := w_X0_lowestFreeTag_b2 K R a0 Q (0:Int32) I
def w_X0_maySend_b37 (K : MK) (R : MR) (a0 : Nat) (o1 : Option Nat) (Q : Int32 → MI → Prop) (z0_37 : Int32) (I : MI) : Prop := bz z0_37 ∧ Q z0_37 I
def w_X0_maySend_b36 (K : MK) (R : MR) (a0 : Nat) (o1 : Option Nat) (Q : Int32 → MI → Prop) (I : MI) : Prop := w_X0_maySend_b37 K R a0 o1 Q (0:Int32) I
def w_X0_maySend (K : MK) (R : MR) (a0 : Nat) (o1 : Option Nat) (I : MI) (Q : Int32 → MI → Prop) : Prop := ∃ r2, o1 = some r2 ∧ IsMaster K R r2 ∧ (((I (r2 + 1) 1) ≤ 0 → w_X0_maySend_b36 K R a0 o1 Q I) ∧ (¬ (I (r2 + 1) 1) ≤ 0 → IsBus K R a0 ∧ (((I a0 6) < (I r2 4) → w_X0_maySend_b36 K R a0 o1 Q I) ∧ (¬ (I a0 6) < (I r2 4) → (((I r2 1) ≤ (I r2 2) → w_X0_maySend_b36 K R a0 o1 Q I) ∧ (¬ (I r2 1) ≤ (I r2 2) → w_X0_maySend_b37 K R a0 o1 Q (1:Int32) I))))))
def w_X0_isOutOfPatience_b18 (K : MK) (R : MR) (a0 : Nat) (o1 : Option Nat) (Q : Int32 → MI → Prop) (z0_18 : Int32) (I : MI) : Prop := bz z0_18 ∧ Q z0_18 I
def w_X0_isOutOfPatience (K : MK) (R : MR) (a0 : Nat) (o1 : Option Nat) (I : MI) (Q : Int32 → MI → Prop) : Prop := ∃ r2, o1 = some r2 ∧ IsMaster K R r2 ∧ IsBus K R a0 ∧ (((I r2 5) < (I (a0 + 1) 2) → w_X0_isOutOfPatience_b18 K R a0 o1 Q (0:Int32) I) ∧ (¬ (I r2 5) < (I (a0 + 1) 2) → w_X0_isOutOfPatience_b18 K R a0 o1 Q (1:Int32) I))
def w_X0_masterThatWaitedTooLong_b65 (K : MK) (R : MR) (a0 : Nat) (Q : Int32 → MI → Prop) (X7 : Int32 → Int32 → Int32 → MI → Prop) (y1_65 : Int32) (y2_65 : Int32) (y3_65 : Int32) (I : MI) : Prop := X7 y1_65 y2_65 (y3_65 + (1:Int32)) I
def w_X0_masterThatWaitedTooLong_b57 (K : MK) (R : MR) (a0 : Nat) (Q : Int32 → MI → Prop) (X7 : Int32 → Int32 → Int32 → MI → Prop) (y3_57 : Int32) (y4_57 : Option Nat) (I : MI) : Prop := ∃ r1, y4_57 = some r1 ∧ IsMaster K R r1 ∧ w_X0_masterThatWaitedTooLong_b65 K R a0 Q X7 y3_57 (I r1 5) y3_57 I
def w_X0_masterThatWaitedTooLong_b7_body (K : MK) (R : MR) (a0 : Nat) (Q : Int32 → MI → Prop) (X7 : Int32 → Int32 → Int32 → MI → Prop) (y1_7 : Int32) (y2_7 : Int32) (y3_7 : Int32) (I : MI) : Prop := (((4:Int32) ≤ y3_7 → Q y1_7 I) ∧ (¬ (4:Int32) ≤ y3_7 → IsBus K R a0 ∧ w_X0_masterAt K R a0 y3_7 I (fun o5 I4 => ((o5 = none → w_X0_masterThatWaitedTooLong_b65 K R a0 Q X7 y1_7 y2_7 y3_7 I4) ∧ (∀ r6, o5 = some r6 → w_X0_maySend K R a0 (some r6) I4 (fun v8 I7 => ((v8 = 0 → w_X0_masterThatWaitedTooLong_b65 K R a0 Q X7 y1_7 y2_7 y3_7 I7) ∧ (¬ v8 = 0 → w_X0_isOutOfPatience K R a0 (some r6) I7 (fun v10 I9 => ((v10 = 0 → w_X0_masterThatWaitedTooLong_b65 K R a0 Q X7 y1_7 y2_7 y3_7 I9) ∧ (¬ v10 = 0 → ((y1_7 = (-5:Int32) → w_X0_masterThatWaitedTooLong_b57 K R a0 Q X7 y3_7 (some r6) I9) ∧ (¬ y1_7 = (-5:Int32) → IsMaster K R r6 ∧ (((I9 r6 5) ≤ y2_7 → w_X0_masterThatWaitedTooLong_b65 K R a0 Q X7 y1_7 y2_7 y3_7 I9) ∧ (¬ (I9 r6 5) ≤ y2_7 → w_X0_masterThatWaitedTooLong_b57 K R a0 Q X7 y3_7 (some r6) I9)))))))))))))))
def w_X0_masterThatWaitedTooLong_b7 (K : MK) (R : MR) (a0 : Nat) (Q : Int32 → MI → Prop) (y1_7 : Int32) (y2_7 : Int32) (y3_7 : Int32) (I : MI) : Prop := ∀ X7 : Int32 → Int32 → Int32 → MI → Prop, (∀ (y1_7 : Int32) (y2_7 : Int32) (y3_7 : Int32) (I : MI), w_X0_masterThatWaitedTooLong_b7_body K R a0 Q X7 y1_7 y2_7 y3_7 I → X7 y1_7 y2_7 y3_7 I) → X7 y1_7 y2_7 y3_7 I
def w_X0_masterThatWaitedTooLong (K : MK) (R : MR) (a0 : Nat) (I : MI) (Q : Int32 → MI → Prop) : Prop := w_X0_masterThatWaitedTooLong_b7 K R a0 Q (-5:Int32) (0:Int32) (0:Int32) I
def w_X0_masterThatSends_b64 (K : MK) (R : MR) (a0 : Nat) (Q : Int32 → MI → Prop) (X27 : Int32 → MI → Prop) (y2_64 : Int32) (I : MI) : Prop := X27 (y2_64 + (1:Int32)) I
def w_X0_masterThatSends_b27_body (K : MK) (R : MR) (a0 : Nat) (Q : Int32 → MI → Prop) (X27 : Int32 → MI → Prop) (y2_27 : Int32) (I : MI) : Prop := (((4:Int32) ≤ y2_27 → Q (-5:Int32) I) ∧ (¬ (4:Int32) ≤ y2_27 → IsBus K R a0 ∧ w_X0_masterAt K R a0 (((I a0 8) + y2_27) - ((I a0 8) + y2_27) / (4:Int32) * (4:Int32)) I (fun o3 I2 => ((o3 = none → w_X0_masterThatSends_b64 K R a0 Q X27 y2_27 I2) ∧ (∀ r4, o3 = some r4 → w_X0_maySend K R a0 (some r4) I2 (fun v6 I5 => ((v6 = 0 → w_X0_masterThatSends_b64 K R a0 Q X27 y2_27 I5) ∧ (¬ v6 = 0 → Q (((I a0 8) + y2_27) - ((I a0 8) + y2_27) / (4:Int32) * (4:Int32)) I5))))))))
def w_X0_masterThatSends_b27 (K : MK) (R : MR) (a0 : Nat) (Q : Int32 → MI → Prop) (y2_27 : Int32) (I : MI) : Prop := ∀ X27 : Int32 → MI → Prop, (∀ (y2_27 : Int32) (I : MI), w_X0_masterThatSends_b27_body K R a0 Q X27 y2_27 I → X27 y2_27 I) → X27 y2_27 I
def w_X0_masterThatSends (K : MK) (R : MR) (a0 : Nat) (I : MI) (Q : Int32 → MI → Prop) : Prop := IsBus K R a0 ∧ w_X0_lowestFreeTag K R a0 I (fun v11 I10 => ((¬ v11 = (-5:Int32) → w_X0_masterThatWaitedTooLong K R a0 I10 (fun v13 I12 => ((v13 = (-5:Int32) → w_X0_masterThatSends_b27 K R a0 Q (0:Int32) I12) ∧ (¬ v13 = (-5:Int32) → Q v13 I12)))) ∧ (v11 = (-5:Int32) → Q (-5:Int32) I10)))
def w_X0_prefersAnswer_b25 (K : MK) (R : MR) (a0 : Nat) (Q : Int32 → MI → Prop) (z0_25 : Int32) (I : MI) : Prop := bz z0_25 ∧ Q z0_25 I
def w_X0_prefersAnswer_b16 (K : MK) (R : MR) (a0 : Nat) (Q : Int32 → MI → Prop) (y1_16 : Int32) (I : MI) : Prop := ((¬ y1_16 = 0 → w_X0_prefersAnswer_b25 K R a0 Q (0:Int32) I) ∧ (y1_16 = 0 → w_X0_prefersAnswer_b25 K R a0 Q (1:Int32) I))
def w_X0_prefersAnswer_b46 (K : MK) (R : MR) (a0 : Nat) (Q : Int32 → MI → Prop) (z0_46 : Int32) (I : MI) : Prop := bz z0_46 ∧ Q z0_46 I
def w_X0_prefersAnswer_b41 (K : MK) (R : MR) (a0 : Nat) (Q : Int32 → MI → Prop) (I : MI) : Prop := w_X0_prefersAnswer_b46 K R a0 Q (1:Int32) I
def w_X0_prefersAnswer (K : MK) (R : MR) (a0 : Nat) (I : MI) (Q : Int32 → MI → Prop) : Prop := IsBus K R a0 ∧ (((I (a0 + 1) 1) = 0 → w_X0_prefersAnswer_b16 K R a0 Q (I (a0 + 1) 1) I) ∧ (¬ (I (a0 + 1) 1) = 0 → ((¬ (I (a0 + 1) 1) = (1:Int32) → (((I a0 7) = 0 → w_X0_prefersAnswer_b41 K R a0 Q I) ∧ (¬ (I a0 7) = 0 → ((¬ (I a0 7) = (2:Int32) → w_X0_prefersAnswer_b46 K R a0 Q (0:Int32) I) ∧ ((I a0 7) = (2:Int32) → w_X0_prefersAnswer_b41 K R a0 Q I))))) ∧ ((I (a0 + 1) 1) = (1:Int32) → w_X0_prefersAnswer_b16 K R a0 Q (I (a0 + 1) 1) I))))
def w_X0_takeTagBack_b23 (K : MK) (R : MR) (a0 : Nat) (o1 : Option Nat) (Q : MI → Prop) (I : MI) : Prop := ∃ r1, o1 = some r1 ∧ IsQ K R r1 ∧ ∀ I3, I3 = upI I r1 5 (-5:Int32) → Q I3
def w_X0_takeTagBack (K : MK) (R : MR) (a0 : Nat) (o1 : Option Nat) (I : MI) (Q : MI → Prop) : Prop := ∃ r4, o1 = some r4 ∧ IsQ K R r4 ∧ w_X6_isIndex K R (I r4 5) (8:Int32) I (fun v7 I6 => ((v7 = 0 → w_X0_takeTagBack_b23 K R a0 o1 Q I6) ∧ (¬ v7 = 0 → IsBus K R a0 ∧ vp_in (I6 r4 5) 8 ∧ ∀ I10, I10 = upI I6 (a0 + 2) (ix (I6 r4 5)) (-5:Int32) → w_X0_takeTagBack_b23 K R a0 o1 Q I10)))
def w_X0_noteAnswer (K : MK) (R : MR) (a0 : Nat) (o1 : Option Nat) (x2 : Int32) (I : MI) (Q : MI → Prop) : Prop := ((o1 = none → Q I) ∧ (∀ r1, o1 = some r1 → IsMaster K R r1 ∧ ∀ I3, I3 = upI I r1 2 ((I r1 2) - (1:Int32)) → ∀ I4, I4 = upI I3 r1 6 ((I3 r1 6) + (1:Int32)) → ∀ I5, I5 = upI I4 r1 7 (if (I4 r1 7) < x2 then x2 else (I4 r1 7)) → Q I5))
def w_X0_sendAnswerOf_b79 (K : MK) (R : MR) (a0 : Nat) (x1 : Int32) (Q : Int32 → MI → Prop) (y2_79 : Option Nat) (y3_79 : Int32) (y4_79 : Int32) (y5_79 : Option Nat) (I : MI) : Prop := ∃ r1, y2_79 = some r1 ∧ IsTarget K R r1 ∧ w_X1_removeAt K R (r1 + 3) y3_79 I (fun I3 => IsBus K R a0 ∧ w_X0_takeTagBack K R a0 y5_79 I3 (fun I5 => ∃ r6, y5_79 = some r6 ∧ IsQ K R r6 ∧ ∀ I8, I8 = upI I5 r6 4 (3:Int32) → ∀ I9, I9 = upI I8 r6 9 ((I8 a0 6) - (I8 r6 7)) → w_X0_masterAt K R a0 (I9 r6 0) I9 (fun o11 I10 => w_X0_noteAnswer K R a0 o11 (I10 r6 9) I10 (fun I12 => ∀ I13, I13 = upI I12 a0 10 ((I12 a0 10) + (1:Int32)) → ∀ I14, I14 = upI I13 a0 7 (1:Int32) → Q y4_79 I14))))
def w_X0_sendAnswerOf_b38 (K : MK) (R : MR) (a0 : Nat) (x1 : Int32) (Q : Int32 → MI → Prop) (y2_38 : Option Nat) (y3_38 : Int32) (z0_38 : Int32) (I : MI) : Prop := IsBus K R a0 ∧ w_X0_questionAt K R a0 z0_38 I (fun o17 I16 => ((o17 = none → Q (-5:Int32) I16) ∧ (∀ r18, o17 = some r18 → ∀ I19, I19 = upI I16 a0 9 ((x1 + (1:Int32)) - (x1 + (1:Int32)) / (4:Int32) * (4:Int32)) → ((y3_38 ≤ 0 → w_X0_sendAnswerOf_b79 K R a0 x1 Q y2_38 y3_38 z0_38 (some r18) I19) ∧ (¬ y3_38 ≤ 0 → ∀ I20, I20 = upI I19 a0 14 ((I19 a0 14) + (1:Int32)) → w_X0_sendAnswerOf_b79 K R a0 x1 Q y2_38 y3_38 z0_38 (some r18) I20)))))
def w_X0_sendAnswerOf_b20 (K : MK) (R : MR) (a0 : Nat) (x1 : Int32) (Q : Int32 → MI → Prop) (y2_20 : Option Nat) (z0_20 : Int32) (I : MI) : Prop := ((y2_20 = none → w_X0_sendAnswerOf_b38 K R a0 x1 Q none z0_20 (-5:Int32) I) ∧ (∀ r22, y2_20 = some r22 → IsTarget K R r22 ∧ w_X1_at K R (r22 + 3) z0_20 I (fun v25 I24 => w_X0_sendAnswerOf_b38 K R a0 x1 Q (some r22) z0_20 v25 I24)))
def w_X0_sendAnswerOf (K : MK) (R : MR) (a0 : Nat) (x1 : Int32) (I : MI) (Q : Int32 → MI → Prop) : Prop := IsBus K R a0 ∧ w_X0_targetAt K R a0 x1 I (fun o28 I27 => ((o28 = none → w_X0_sendAnswerOf_b20 K R a0 x1 Q none (-5:Int32) I27) ∧ (∀ r29, o28 = some r29 → w_X0_placeOfAnswer K R a0 (some r29) I27 (fun v31 I30 => w_X0_sendAnswerOf_b20 K R a0 x1 Q (some r29) v31 I30))))
def w_X5_isFull_b21 (K : MK) (R : MR) (a0 : Nat) (Q : Int32 → MI → Prop) (z0_21 : Int32) (I : MI) : Prop := bz z0_21 ∧ Q z0_21 I
def w_X5_isFull (K : MK) (R : MR) (a0 : Nat) (I : MI) (Q : Int32 → MI → Prop) : Prop := IsTarget K R a0 ∧ (((I (a0 + 3) 1) < (I (a0 + 2) 0) → w_X5_isFull_b21 K R a0 Q (0:Int32) I) ∧ (¬ (I (a0 + 3) 1) < (I (a0 + 2) 0) → w_X5_isFull_b21 K R a0 Q (1:Int32) I))
def w_X0_refuse_b39 (K : MK) (R : MR) (a0 : Nat) (o1 : Option Nat) (o2 : Option Nat) (Q : MI → Prop) (z0_39 : Int32) (I : MI) : Prop := IsBus K R a0 ∧ ∃ r2, o1 = some r2 ∧ IsMaster K R r2 ∧ ∀ I4, I4 = upI I r2 4 (((I a0 6) + (1:Int32)) + z0_39) → ∀ I5, I5 = upI I4 a0 12 ((I4 a0 12) + (1:Int32)) → ∀ I6, I6 = upI I5 a0 7 (2:Int32) → Q I6
def w_X0_refuse (K : MK) (R : MR) (a0 : Nat) (o1 : Option Nat) (o2 : Option Nat) (I : MI) (Q : MI → Prop) : Prop := ∃ r7, o2 = some r7 ∧ IsQ K R r7 ∧ ∀ I9, I9 = upI I r7 10 ((I r7 10) + (1:Int32)) → ∃ r10, o1 = some r10 ∧ IsMaster K R r10 ∧ ∀ I12, I12 = upI I9 r10 3 ((I9 r10 3) + (1:Int32)) → (((I12 r10 3) < (4:Int32) → w_X0_refuse_b39 K R a0 o1 o2 Q ((1:Int32) <<< ((I12 r10 3) &&& 31)) I12) ∧ (¬ (I12 r10 3) < (4:Int32) → w_X0_refuse_b39 K R a0 o1 o2 Q (16:Int32) I12))
def w_X0_letIn_b28 (K : MK) (R : MR) (a0 : Nat) (o1 : Option Nat) (o2 : Option Nat) (x3 : Int32) (Q : MI → Prop) (I : MI) : Prop := Q I
def w_X0_letIn (K : MK) (R : MR) (a0 : Nat) (o1 : Option Nat) (o2 : Option Nat) (x3 : Int32) (I : MI) (Q : MI → Prop) : Prop := IsBus K R a0 ∧ w_X0_questionAt K R a0 x3 I (fun o3 I2 => w_X0_lowestFreeTag K R a0 I2 (fun v5 I4 => ((o3 = none → w_X0_letIn_b28 K R a0 o1 o2 x3 Q I4) ∧ (∀ r6, o3 = some r6 → w_X6_isIndex K R v5 (8:Int32) I4 (fun v8 I7 => ((¬ v8 = 0 → ∃ r9, o1 = some r9 ∧ IsMaster K R r9 ∧ w_X1_removeAt K R (r9 + 1) (0:Int32) I7 (fun I11 => ∀ I12, I12 = upI I11 r9 3 (0:Int32) → ∀ I13, I13 = upI I12 r9 2 ((I12 r9 2) + (1:Int32)) → vp_in v5 8 ∧ ∀ I15, I15 = upI I13 (a0 + 2) (ix v5) x3 → IsQ K R r6 ∧ ∀ I17, I17 = upI I15 r6 5 v5 → ∀ I18, I18 = upI I17 r6 4 (1:Int32) → ∃ r19, o2 = some r19 ∧ IsTarget K R r19 ∧ ∀ I21, I21 = upI I18 r6 8 (((I18 a0 6) + (I18 (r19 + 2) 1)) + ((I18 r6 2) - (I18 r6 2) / (4:Int32) * (4:Int32))) → w_X1_append K R (r19 + 3) x3 I21 (fun I22 => ∀ I23, I23 = upI I22 a0 11 ((I22 a0 11) + (1:Int32)) → ∀ I24, I24 = upI I23 a0 7 (0:Int32) → Q I24))) ∧ (v8 = 0 → w_X0_letIn_b28 K R a0 o1 o2 x3 Q I7)))))))
def w_X0_sendQuestionOf_b94 (K : MK) (R : MR) (a0 : Nat) (x1 : Int32) (Q : Int32 → MI → Prop) (y3_94 : Int32) (I : MI) : Prop := Q y3_94 I
def w_X0_sendQuestionOf_b49 (K : MK) (R : MR) (a0 : Nat) (x1 : Int32) (Q : Int32 → MI → Prop) (y2_49 : Option Nat) (y3_49 : Int32) (y4_49 : Option Nat) (z0_49 : Option Nat) (I : MI) : Prop := ((z0_49 = none → Q (-5:Int32) I) ∧ (∀ r1, z0_49 = some r1 → IsBus K R a0 ∧ ∀ I3, I3 = upI I a0 8 ((x1 + (1:Int32)) - (x1 + (1:Int32)) / (4:Int32) * (4:Int32)) → IsTarget K R r1 ∧ w_X5_isFull K R r1 I3 (fun v6 I5 => ((v6 = 0 → w_X0_letIn K R a0 y2_49 (some r1) y3_49 I5 (fun I7 => w_X0_sendQuestionOf_b94 K R a0 x1 Q y3_49 I7)) ∧ (¬ v6 = 0 → w_X0_refuse K R a0 y2_49 y4_49 I5 (fun I8 => w_X0_sendQuestionOf_b94 K R a0 x1 Q y3_49 I8))))))
def w_X0_sendQuestionOf_b23 (K : MK) (R : MR) (a0 : Nat) (x1 : Int32) (Q : Int32 → MI → Prop) (y2_23 : Option Nat) (z0_23 : Int32) (I : MI) : Prop := IsBus K R a0 ∧ w_X0_questionAt K R a0 z0_23 I (fun o12 I11 => ((o12 = none → w_X0_sendQuestionOf_b49 K R a0 x1 Q y2_23 z0_23 none none I11) ∧ (∀ r13, o12 = some r13 → IsQ K R r13 ∧ w_X0_targetAt K R a0 (I11 r13 1) I11 (fun o16 I15 => w_X0_sendQuestionOf_b49 K R a0 x1 Q y2_23 z0_23 (some r13) o16 I15))))
def w_X0_sendQuestionOf (K : MK) (R : MR) (a0 : Nat) (x1 : Int32) (I : MI) (Q : Int32 → MI → Prop) : Prop := IsBus K R a0 ∧ w_X0_masterAt K R a0 x1 I (fun o19 I18 => ((o19 = none → w_X0_sendQuestionOf_b23 K R a0 x1 Q none (-5:Int32) I18) ∧ (∀ r20, o19 = some r20 → IsMaster K R r20 ∧ w_X1_at K R (r20 + 1) (0:Int32) I18 (fun v23 I22 => w_X0_sendQuestionOf_b23 K R a0 x1 Q (some r20) v23 I22))))
def w_X0_makeTrip_b29 (K : MK) (R : MR) (a0 : Nat) (Q : Int32 → MI → Prop) (y1_29 : Int32) (I : MI) : Prop := IsBus K R a0 ∧ w_X0_sendAnswerOf K R a0 y1_29 I (fun v3 I2 => Q v3 I2)
def w_X0_makeTrip_b51 (K : MK) (R : MR) (a0 : Nat) (Q : Int32 → MI → Prop) (z0_51 : Int32) (I : MI) : Prop := Q z0_51 I
def w_X0_makeTrip_b35 (K : MK) (R : MR) (a0 : Nat) (Q : Int32 → MI → Prop) (y2_35 : Int32) (I : MI) : Prop := ((¬ y2_35 = (-5:Int32) → IsBus K R a0 ∧ w_X0_sendQuestionOf K R a0 y2_35 I (fun v6 I5 => w_X0_makeTrip_b51 K R a0 Q v6 I5)) ∧ (y2_35 = (-5:Int32) → w_X0_makeTrip_b51 K R a0 Q (-5:Int32) I))
def w_X0_makeTrip (K : MK) (R : MR) (a0 : Nat) (I : MI) (Q : Int32 → MI → Prop) : Prop := IsBus K R a0 ∧ w_X0_targetThatAnswers K R a0 I (fun v10 I9 => w_X0_masterThatSends K R a0 I9 (fun v12 I11 => ((v10 = (-5:Int32) → w_X0_makeTrip_b35 K R a0 Q v12 I11) ∧ (¬ v10 = (-5:Int32) → ((v12 = (-5:Int32) → w_X0_makeTrip_b29 K R a0 Q v10 I11) ∧ (¬ v12 = (-5:Int32) → w_X0_prefersAnswer K R a0 I11 (fun v14 I13 => ((v14 = 0 → w_X0_makeTrip_b35 K R a0 Q v12 I13) ∧ (¬ v14 = 0 → w_X0_makeTrip_b29 K R a0 Q v10 I13)))))))))
def w_X0_countWaits_b47 (K : MK) (R : MR) (a0 : Nat) (x1 : Int32) (Q : MI → Prop) (X2 : Int32 → MI → Prop) (y2_47 : Int32) (I : MI) : Prop := X2 (y2_47 + (1:Int32)) I
def w_X0_countWaits_b29 (K : MK) (R : MR) (a0 : Nat) (x1 : Int32) (Q : MI → Prop) (X2 : Int32 → MI → Prop) (y2_29 : Int32) (y3_29 : Nat) (I : MI) : Prop := IsMaster K R y3_29 ∧ ∀ I2, I2 = upI I y3_29 5 (0:Int32) → w_X0_countWaits_b47 K R a0 x1 Q X2 y2_29 I2
def w_X0_countWaits_b2_body (K : MK) (R : MR) (a0 : Nat) (x1 : Int32) (Q : MI → Prop) (X2 : Int32 → MI → Prop) (y2_2 : Int32) (I : MI) : Prop := (((4:Int32) ≤ y2_2 → Q I) ∧ (¬ (4:Int32) ≤ y2_2 → IsBus K R a0 ∧ vp_in y2_2 4 ∧ ((y2_2 = x1 → w_X0_countWaits_b29 K R a0 x1 Q X2 y2_2 (a0 + 6 + 3 * (ix y2_2)) I) ∧ (¬ y2_2 = x1 → ((¬ (I (a0 + 6 + 3 * (ix y2_2) + 1) 1) = 0 → ∀ I5, I5 = upI I (a0 + 6 + 3 * (ix y2_2)) 5 ((I (a0 + 6 + 3 * (ix y2_2)) 5) + (1:Int32)) → w_X0_countWaits_b47 K R a0 x1 Q X2 y2_2 I5) ∧ ((I (a0 + 6 + 3 * (ix y2_2) + 1) 1) = 0 → w_X0_countWaits_b29 K R a0 x1 Q X2 y2_2 (a0 + 6 + 3 * (ix y2_2)) I))))))
def w_X0_countWaits_b2 (K : MK) (R : MR) (a0 : Nat) (x1 : Int32) (Q : MI → Prop) (y2_2 : Int32) (I : MI) : Prop := ∀ X2 : Int32 → MI → Prop, (∀ (y2_2 : Int32) (I : MI), w_X0_countWaits_b2_body K R a0 x1 Q X2 y2_2 I → X2 y2_2 I) → X2 y2_2 I
def w_X0_countWaits (K : MK) (R : MR) (a0 : Nat) (x1 : Int32) (I : MI) (Q : MI → Prop) : Prop := w_X0_countWaits_b2 K R a0 x1 Q (0:Int32) I
def w_X0_passTick_b56 (K : MK) (R : MR) (a0 : Nat) (Q : Int32 → MI → Prop) (y1_56 : Int32) (z0_56 : Int32) (I : MI) : Prop := IsBus K R a0 ∧ w_X0_countWaits K R a0 z0_56 I (fun I2 => ∀ I3, I3 = upI I2 a0 6 ((I2 a0 6) + (1:Int32)) → Q y1_56 I3)
def w_X0_passTick_b41 (K : MK) (R : MR) (a0 : Nat) (Q : Int32 → MI → Prop) (y1_41 : Int32) (z0_41 : Option Nat) (I : MI) : Prop := ((z0_41 = none → w_X0_passTick_b56 K R a0 Q y1_41 (-5:Int32) I) ∧ (∀ r4, z0_41 = some r4 → IsQ K R r4 ∧ w_X0_passTick_b56 K R a0 Q y1_41 (I r4 0) I))
def w_X0_passTick_b25 (K : MK) (R : MR) (a0 : Nat) (Q : Int32 → MI → Prop) (y1_25 : Int32) (I : MI) : Prop := IsBus K R a0 ∧ ((¬ (I a0 7) = 0 → w_X0_passTick_b41 K R a0 Q y1_25 none I) ∧ ((I a0 7) = 0 → w_X0_questionAt K R a0 y1_25 I (fun o8 I7 => w_X0_passTick_b41 K R a0 Q y1_25 o8 I7)))
def w_X0_passTick (K : MK) (R : MR) (a0 : Nat) (I : MI) (Q : Int32 → MI → Prop) : Prop := IsBus K R a0 ∧ w_X0_finishQuestions K R a0 I (fun I11 => w_X0_makeTrip K R a0 I11 (fun v13 I12 => ((¬ v13 = (-5:Int32) → w_X0_passTick_b25 K R a0 Q v13 I12) ∧ (v13 = (-5:Int32) → ∀ I14, I14 = upI I12 a0 13 ((I12 a0 13) + (1:Int32)) → w_X0_passTick_b25 K R a0 Q v13 I14))))
def w_X6_pass_b59 (K : MK) (R : MR) (a0 : Nat) (x1 : Int32) (Q : Int32 → MI → Prop) (X39 : Int32 → Int32 → MI → Prop) (y2_59 : Int32) (y3_59 : Int32) (I : MI) : Prop := X39 y2_59 (y3_59 + (1:Int32)) I
def w_X6_pass_b39_body (K : MK) (R : MR) (a0 : Nat) (x1 : Int32) (Q : Int32 → MI → Prop) (X39 : Int32 → Int32 → MI → Prop) (y2_39 : Int32) (y3_39 : Int32) (I : MI) : Prop := ((x1 ≤ y3_39 → Q y2_39 I) ∧ (¬ x1 ≤ y3_39 → IsTag K R a0 ∧ w_X0_passTick K R (a0 + 1) I (fun v3 I2 => ((v3 = (-5:Int32) → w_X6_pass_b59 K R a0 x1 Q X39 y2_39 y3_39 I2) ∧ (¬ v3 = (-5:Int32) → w_X6_pass_b59 K R a0 x1 Q X39 (y2_39 + (1:Int32)) y3_39 I2)))))
def w_X6_pass_b39 (K : MK) (R : MR) (a0 : Nat) (x1 : Int32) (Q : Int32 → MI → Prop) (y2_39 : Int32) (y3_39 : Int32) (I : MI) : Prop := ∀ X39 : Int32 → Int32 → MI → Prop, (∀ (y2_39 : Int32) (y3_39 : Int32) (I : MI), w_X6_pass_b39_body K R a0 x1 Q X39 y2_39 y3_39 I → X39 y2_39 y3_39 I) → X39 y2_39 y3_39 I
def w_X6_pass (K : MK) (R : MR) (a0 : Nat) (x1 : Int32) (I : MI) (Q : Int32 → MI → Prop) : Prop := w_X6_isBetween K R x1 (1:Int32) (99:Int32) I (fun v7 I6 => ((¬ v7 = 0 → IsTag K R a0 ∧ ((((I6 (a0 + 1) 6) + x1) ≤ (9999:Int32) → w_X6_record K R a0 I6 (fun I9 => w_X6_pass_b39 K R a0 x1 Q (0:Int32) (0:Int32) I9)) ∧ (¬ ((I6 (a0 + 1) 6) + x1) ≤ (9999:Int32) → Q (-3:Int32) I6))) ∧ (v7 = 0 → Q (-2:Int32) I6)))
def w_X4_append (K : MK) (R : MR) (a0 : Nat) (x1 : Int32) (I : MI) (Q : Int32 → MI → Prop) : Prop := IsText K R a0 ∧ w_X6_isIndex K R (I a0 1) (60:Int32) I (fun v3 I2 => ((¬ v3 = 0 → vp_in (I2 a0 1) 60 ∧ ∀ I5, I5 = upI I2 (a0 + 1) (ix (I2 a0 1)) (vp_nar .char x1) → ∀ I6, I6 = upI I5 a0 1 ((I5 a0 1) + (1:Int32)) → Q (1:Int32) I6) ∧ (v3 = 0 → Q (0:Int32) I2)))
def w_X6_type_b23 (K : MK) (R : MR) (a0 : Nat) (x1 : Int32) (Q : Int32 → MI → Prop) (z0_23 : Int32) (I : MI) : Prop := Q z0_23 I
def w_X6_type (K : MK) (R : MR) (a0 : Nat) (x1 : Int32) (I : MI) (Q : Int32 → MI → Prop) : Prop := IsTag K R a0 ∧ w_X4_append K R (a0 + 716) x1 I (fun v3 I2 => ((v3 = 0 → w_X6_type_b23 K R a0 x1 Q (-3:Int32) I2) ∧ (¬ v3 = 0 → w_X6_type_b23 K R a0 x1 Q (I2 (a0 + 716) 1) I2)))
def w_X6_clearText (K : MK) (R : MR) (a0 : Nat) (I : MI) (Q : Int32 → MI → Prop) : Prop := IsTag K R a0 ∧ ∀ I2, I2 = upI I (a0 + 716) 1 (0:Int32) → Q (I (a0 + 716) 1) I2
def w_X6_undo (K : MK) (R : MR) (a0 : Nat) (I : MI) (Q : Int32 → MI → Prop) : Prop := IsTag K R a0 ∧ w_X6_isIndex K R ((I a0 5) - (1:Int32)) (4:Int32) I (fun v3 I2 => ((¬ v3 = 0 → vp_in ((I a0 5) - (1:Int32)) 4 ∧ w_X0_copyFrom K R (a0 + 1) (some (pastA a0 (I2 (a0 + 715) (ix ((I a0 5) - (1:Int32)))))) I2 (fun I5 => ∀ I6, I6 = upI I5 a0 5 ((I a0 5) - (1:Int32)) → Q (I6 a0 5) I6)) ∧ (v3 = 0 → Q (-5:Int32) I2)))
def w_X6_keep (K : MK) (R : MR) (a0 : Nat) (I : MI) (Q : Int32 → MI → Prop) : Prop := IsTag K R a0 ∧ w_X0_copyFrom K R (a0 + 477) (some (a0 + 1)) I (fun I2 => ∀ I3, I3 = upI I2 a0 3 (1:Int32) → Q (I3 (a0 + 1) 6) I3)
def w_X6_restore (K : MK) (R : MR) (a0 : Nat) (I : MI) (Q : Int32 → MI → Prop) : Prop := IsTag K R a0 ∧ ((¬ (I a0 3) = 0 → w_X6_record K R a0 I (fun I2 => w_X0_copyFrom K R (a0 + 1) (some (a0 + 477)) I2 (fun I3 => Q (I3 (a0 + 1) 6) I3))) ∧ ((I a0 3) = 0 → Q (-5:Int32) I))
def w_X6_question (K : MK) (R : MR) (a0 : Nat) (x1 : Int32) (x2 : Int32) (I : MI) (Q : Int32 → MI → Prop) : Prop := IsTag K R a0 ∧ w_X0_questionAt K R (a0 + 1) x1 I (fun o3 I2 => ((o3 = none → Q (-1:Int32) I2) ∧ (∀ r4, o3 = some r4 → ((x2 = (0:Int32) → IsQ K R r4 ∧ Q (I2 r4 0) I2) ∧ (x2 = (1:Int32) → IsQ K R r4 ∧ Q (I2 r4 1) I2) ∧ (x2 = (2:Int32) → IsQ K R r4 ∧ Q (I2 r4 2) I2) ∧ (x2 = (3:Int32) → IsQ K R r4 ∧ Q (I2 r4 3) I2) ∧ (x2 = (4:Int32) → IsQ K R r4 ∧ Q (I2 r4 4) I2) ∧ (x2 = (5:Int32) → IsQ K R r4 ∧ Q (I2 r4 5) I2) ∧ (x2 = (6:Int32) → IsQ K R r4 ∧ Q (I2 r4 6) I2) ∧ (x2 = (7:Int32) → IsQ K R r4 ∧ Q (I2 r4 9) I2) ∧ (x2 = (8:Int32) → IsQ K R r4 ∧ Q (I2 r4 10) I2) ∧ ((x2).toInt < 0 ∨ 8 < (x2).toInt → Q (-2:Int32) I2)))))
def w_X6_tag_b25 (K : MK) (R : MR) (a0 : Nat) (x1 : Int32) (Q : Int32 → MI → Prop) (I : MI) : Prop := Q (-1:Int32) I
def w_X6_tag (K : MK) (R : MR) (a0 : Nat) (x1 : Int32) (I : MI) (Q : Int32 → MI → Prop) : Prop := IsTag K R a0 ∧ w_X6_isIndex K R x1 (I (a0 + 1 + 1) 0) I (fun v3 I2 => ((v3 = 0 → w_X6_tag_b25 K R a0 x1 Q I2) ∧ (¬ v3 = 0 → w_X6_isIndex K R x1 (8:Int32) I2 (fun v5 I4 => ((¬ v5 = 0 → vp_in x1 8 ∧ Q (I4 (a0 + 1 + 2) (ix x1)) I4) ∧ (v5 = 0 → w_X6_tag_b25 K R a0 x1 Q I4))))))
def w_X6_master_b139 (K : MK) (R : MR) (a0 : Nat) (x1 : Int32) (x2 : Int32) (Q : Int32 → MI → Prop) (z0_139 : Int32) (I : MI) : Prop := Q z0_139 I
def w_X6_master (K : MK) (R : MR) (a0 : Nat) (x1 : Int32) (x2 : Int32) (I : MI) (Q : Int32 → MI → Prop) : Prop := IsTag K R a0 ∧ w_X0_masterAt K R (a0 + 1) x1 I (fun o3 I2 => ((o3 = none → Q (-1:Int32) I2) ∧ (∀ r4, o3 = some r4 → ((x2 = (0:Int32) → IsMaster K R r4 ∧ Q (I2 (r4 + 1) 1) I2) ∧ (x2 = (1:Int32) → IsMaster K R r4 ∧ Q (I2 r4 1) I2) ∧ (x2 = (2:Int32) → IsMaster K R r4 ∧ Q (I2 r4 2) I2) ∧ (x2 = (3:Int32) → IsMaster K R r4 ∧ Q (I2 r4 3) I2) ∧ (x2 = (4:Int32) → IsMaster K R r4 ∧ Q (if (0:Int32) < ((I2 r4 4) - (I2 (a0 + 1) 6)) then ((I2 r4 4) - (I2 (a0 + 1) 6)) else (0:Int32)) I2) ∧ (x2 = (5:Int32) → IsMaster K R r4 ∧ Q (I2 r4 5) I2) ∧ (x2 = (6:Int32) → IsMaster K R r4 ∧ Q (I2 r4 6) I2) ∧ (x2 = (7:Int32) → IsMaster K R r4 ∧ Q (I2 r4 7) I2) ∧ (x2 = (8:Int32) → w_X0_isOutOfPatience K R (a0 + 1) (some r4) I2 (fun v15 I14 => ((v15 = 0 → w_X6_master_b139 K R a0 x1 x2 Q (0:Int32) I14) ∧ (¬ v15 = 0 → w_X6_master_b139 K R a0 x1 x2 Q (1:Int32) I14)))) ∧ ((x2).toInt < 0 ∨ 8 < (x2).toInt → Q (-2:Int32) I2)))))
def w_X6_row (K : MK) (R : MR) (a0 : Nat) (x1 : Int32) (x2 : Int32) (I : MI) (Q : Int32 → MI → Prop) : Prop := IsTag K R a0 ∧ w_X0_masterAt K R (a0 + 1) x1 I (fun o3 I2 => ((o3 = none → Q (-1:Int32) I2) ∧ (∀ r4, o3 = some r4 → ((0 ≤ x2 → IsMaster K R r4 ∧ w_X1_at K R (r4 + 1) x2 I2 (fun v7 I6 => Q v7 I6)) ∧ (¬ 0 ≤ x2 → Q (-2:Int32) I2)))))
def w_X0_doneIn_b46 (K : MK) (R : MR) (a0 : Nat) (o1 : Option Nat) (Q : Int32 → MI → Prop) (X4 : Int32 → Int32 → MI → Prop) (y2_46 : Int32) (y3_46 : Int32) (I : MI) : Prop := X4 y2_46 (y3_46 + (1:Int32)) I
def w_X0_doneIn_b4_body (K : MK) (R : MR) (a0 : Nat) (o1 : Option Nat) (Q : Int32 → MI → Prop) (X4 : Int32 → Int32 → MI → Prop) (y2_4 : Int32) (y3_4 : Int32) (I : MI) : Prop := ∃ r1, o1 = some r1 ∧ IsTarget K R r1 ∧ (((I (r1 + 3) 1) ≤ y3_4 → Q y2_4 I) ∧ (¬ (I (r1 + 3) 1) ≤ y3_4 → w_X1_at K R (r1 + 3) y3_4 I (fun v4 I3 => IsBus K R a0 ∧ w_X0_questionAt K R a0 v4 I3 (fun o7 I6 => ((o7 = none → w_X0_doneIn_b46 K R a0 o1 Q X4 y2_4 y3_4 I6) ∧ (∀ r8, o7 = some r8 → IsQ K R r8 ∧ ((¬ (I6 r8 4) = (2:Int32) → w_X0_doneIn_b46 K R a0 o1 Q X4 y2_4 y3_4 I6) ∧ ((I6 r8 4) = (2:Int32) → w_X0_doneIn_b46 K R a0 o1 Q X4 (y2_4 + (1:Int32)) y3_4 I6))))))))
def w_X0_doneIn_b4 (K : MK) (R : MR) (a0 : Nat) (o1 : Option Nat) (Q : Int32 → MI → Prop) (y2_4 : Int32) (y3_4 : Int32) (I : MI) : Prop := ∀ X4 : Int32 → Int32 → MI → Prop, (∀ (y2_4 : Int32) (y3_4 : Int32) (I : MI), w_X0_doneIn_b4_body K R a0 o1 Q X4 y2_4 y3_4 I → X4 y2_4 y3_4 I) → X4 y2_4 y3_4 I
def w_X0_doneIn (K : MK) (R : MR) (a0 : Nat) (o1 : Option Nat) (I : MI) (Q : Int32 → MI → Prop) : Prop := w_X0_doneIn_b4 K R a0 o1 Q (0:Int32) (0:Int32) I
def w_X6_target (K : MK) (R : MR) (a0 : Nat) (x1 : Int32) (x2 : Int32) (I : MI) (Q : Int32 → MI → Prop) : Prop := IsTag K R a0 ∧ w_X0_targetAt K R (a0 + 1) x1 I (fun o3 I2 => ((o3 = none → Q (-1:Int32) I2) ∧ (∀ r4, o3 = some r4 → ((x2 = (0:Int32) → IsTarget K R r4 ∧ Q (I2 (r4 + 2) 0) I2) ∧ (x2 = (1:Int32) → IsTarget K R r4 ∧ Q (I2 (r4 + 2) 1) I2) ∧ (x2 = (2:Int32) → IsTarget K R r4 ∧ Q (I2 (r4 + 2) 2) I2) ∧ (x2 = (3:Int32) → IsTarget K R r4 ∧ Q (I2 (r4 + 3) 1) I2) ∧ (x2 = (4:Int32) → w_X0_doneIn K R (a0 + 1) (some r4) I2 (fun v11 I10 => Q v11 I10)) ∧ (x2 = (5:Int32) → IsTarget K R r4 ∧ w_X0_placeOfAnswer K R (a0 + 1) (some r4) I2 (fun v14 I13 => w_X1_at K R (r4 + 3) v14 I13 (fun v16 I15 => Q v16 I15))) ∧ ((x2).toInt < 0 ∨ 5 < (x2).toInt → Q (-2:Int32) I2)))))
def w_X6_cell_b35 (K : MK) (R : MR) (a0 : Nat) (x1 : Int32) (x2 : Int32) (Q : Int32 → MI → Prop) (z0_35 : Int32) (I : MI) : Prop := Q z0_35 I
def w_X6_cell (K : MK) (R : MR) (a0 : Nat) (x1 : Int32) (x2 : Int32) (I : MI) (Q : Int32 → MI → Prop) : Prop := IsTag K R a0 ∧ w_X0_targetAt K R (a0 + 1) x1 I (fun o3 I2 => ((o3 = none → Q (-1:Int32) I2) ∧ (∀ r4, o3 = some r4 → w_X6_isIndex K R x2 (16:Int32) I2 (fun v6 I5 => ((v6 = 0 → w_X6_cell_b35 K R a0 x1 x2 Q (-2:Int32) I5) ∧ (¬ v6 = 0 → IsTarget K R r4 ∧ vp_in x2 16 ∧ w_X6_cell_b35 K R a0 x1 x2 Q (I5 (r4 + 1) (ix x2)) I5))))))
def w_X6_next_b55 (K : MK) (R : MR) (a0 : Nat) (x1 : Int32) (Q : Int32 → MI → Prop) (z0_55 : Int32) (I : MI) : Prop := Q z0_55 I
def w_X6_next_b12 (K : MK) (R : MR) (a0 : Nat) (x1 : Int32) (Q : Int32 → MI → Prop) (I : MI) : Prop := IsTag K R a0 ∧ w_X0_copyFrom K R (a0 + 239) (some (a0 + 1)) I (fun I2 => w_X0_passTick K R (a0 + 239) I2 (fun v4 I3 => ((¬ v4 = (-5:Int32) → ((¬ x1 = 0 → w_X6_next_b55 K R a0 x1 Q (I3 (a0 + 239) 7) I3) ∧ (x1 = 0 → w_X6_next_b55 K R a0 x1 Q v4 I3))) ∧ (v4 = (-5:Int32) → Q (-5:Int32) I3))))
def w_X6_next (K : MK) (R : MR) (a0 : Nat) (x1 : Int32) (I : MI) (Q : Int32 → MI → Prop) : Prop := ((x1 = 0 → w_X6_next_b12 K R a0 x1 Q I) ∧ (¬ x1 = 0 → ((x1 = (1:Int32) → w_X6_next_b12 K R a0 x1 Q I) ∧ (¬ x1 = (1:Int32) → Q (-2:Int32) I))))
def w_X6_answeredIn_b31 (K : MK) (R : MR) (a0 : Nat) (x1 : Int32) (Q : Int32 → MI → Prop) (I : MI) : Prop := Q (-4:Int32) I
def w_X6_answeredIn_b78 (K : MK) (R : MR) (a0 : Nat) (x1 : Int32) (Q : Int32 → MI → Prop) (X47 : Int32 → MI → Prop) (y3_78 : Int32) (I : MI) : Prop := X47 (y3_78 + (1:Int32)) I
def w_X6_answeredIn_b47_body (K : MK) (R : MR) (a0 : Nat) (x1 : Int32) (Q : Int32 → MI → Prop) (X47 : Int32 → MI → Prop) (y3_47 : Int32) (I : MI) : Prop := (((999:Int32) < y3_47 → Q (-5:Int32) I) ∧ (¬ (999:Int32) < y3_47 → IsTag K R a0 ∧ w_X0_passTick K R (a0 + 239) I (fun v3 I2 => ((¬ v3 = x1 → w_X6_answeredIn_b78 K R a0 x1 Q X47 y3_47 I2) ∧ (v3 = x1 → ((¬ (I2 (a0 + 239) 7) = (1:Int32) → w_X6_answeredIn_b78 K R a0 x1 Q X47 y3_47 I2) ∧ ((I2 (a0 + 239) 7) = (1:Int32) → Q y3_47 I2)))))))
def w_X6_answeredIn_b47 (K : MK) (R : MR) (a0 : Nat) (x1 : Int32) (Q : Int32 → MI → Prop) (y3_47 : Int32) (I : MI) : Prop := ∀ X47 : Int32 → MI → Prop, (∀ (y3_47 : Int32) (I : MI), w_X6_answeredIn_b47_body K R a0 x1 Q X47 y3_47 I → X47 y3_47 I) → X47 y3_47 I
def w_X6_answeredIn (K : MK) (R : MR) (a0 : Nat) (x1 : Int32) (I : MI) (Q : Int32 → MI → Prop) : Prop := IsTag K R a0 ∧ w_X0_questionAt K R (a0 + 1) x1 I (fun o9 I8 => ((o9 = none → Q (-1:Int32) I8) ∧ (∀ r10, o9 = some r10 → IsQ K R r10 ∧ (((I8 r10 4) = (3:Int32) → w_X6_answeredIn_b31 K R a0 x1 Q I8) ∧ (¬ (I8 r10 4) = (3:Int32) → ((¬ (I8 r10 4) = (4:Int32) → w_X0_copyFrom K R (a0 + 239) (some (a0 + 1)) I8 (fun I12 => w_X6_answeredIn_b47 K R a0 x1 Q (1:Int32) I12)) ∧ ((I8 r10 4) = (4:Int32) → w_X6_answeredIn_b31 K R a0 x1 Q I8)))))))
def w_X0_freeTags_b34 (K : MK) (R : MR) (a0 : Nat) (Q : Int32 → MI → Prop) (X4 : Int32 → Int32 → MI → Prop) (y1_34 : Int32) (y2_34 : Int32) (I : MI) : Prop := X4 y1_34 (y2_34 + (1:Int32)) I
def w_X0_freeTags_b40 (K : MK) (R : MR) (a0 : Nat) (Q : Int32 → MI → Prop) (y1_40 : Int32) (I : MI) : Prop := Q y1_40 I
def w_X0_freeTags_b4_body (K : MK) (R : MR) (a0 : Nat) (Q : Int32 → MI → Prop) (X4 : Int32 → Int32 → MI → Prop) (y1_4 : Int32) (y2_4 : Int32) (I : MI) : Prop := IsBus K R a0 ∧ (((I (a0 + 1) 0) ≤ y2_4 → w_X0_freeTags_b40 K R a0 Q y1_4 I) ∧ (¬ (I (a0 + 1) 0) ≤ y2_4 → (((8:Int32) ≤ y2_4 → w_X0_freeTags_b40 K R a0 Q y1_4 I) ∧ (¬ (8:Int32) ≤ y2_4 → vp_in y2_4 8 ∧ ((¬ (I (a0 + 2) (ix y2_4)) = (-5:Int32) → w_X0_freeTags_b34 K R a0 Q X4 y1_4 y2_4 I) ∧ ((I (a0 + 2) (ix y2_4)) = (-5:Int32) → w_X0_freeTags_b34 K R a0 Q X4 (y1_4 + (1:Int32)) y2_4 I))))))
def w_X0_freeTags_b4 (K : MK) (R : MR) (a0 : Nat) (Q : Int32 → MI → Prop) (y1_4 : Int32) (y2_4 : Int32) (I : MI) : Prop := ∀ X4 : Int32 → Int32 → MI → Prop, (∀ (y1_4 : Int32) (y2_4 : Int32) (I : MI), w_X0_freeTags_b4_body K R a0 Q X4 y1_4 y2_4 I → X4 y1_4 y2_4 I) → X4 y1_4 y2_4 I
def w_X0_freeTags (K : MK) (R : MR) (a0 : Nat) (I : MI) (Q : Int32 → MI → Prop) : Prop := w_X0_freeTags_b4 K R a0 Q (0:Int32) (0:Int32) I
def w_X6_count (K : MK) (R : MR) (a0 : Nat) (x1 : Int32) (I : MI) (Q : Int32 → MI → Prop) : Prop := ((x1 = (0:Int32) → IsTag K R a0 ∧ Q (I (a0 + 1) 6) I) ∧ (x1 = (1:Int32) → IsTag K R a0 ∧ Q (I (a0 + 1 + 1) 0) I) ∧ (x1 = (2:Int32) → IsTag K R a0 ∧ Q (I (a0 + 1 + 1) 1) I) ∧ (x1 = (3:Int32) → IsTag K R a0 ∧ Q (I (a0 + 1 + 1) 2) I) ∧ (x1 = (4:Int32) → IsTag K R a0 ∧ Q (I (a0 + 1) 5) I) ∧ (x1 = (5:Int32) → IsTag K R a0 ∧ w_X0_freeTags K R (a0 + 1) I (fun v9 I8 => Q v9 I8)) ∧ (x1 = (6:Int32) → IsTag K R a0 ∧ Q (I (a0 + 1) 10) I) ∧ (x1 = (7:Int32) → IsTag K R a0 ∧ Q (I (a0 + 1) 11) I) ∧ (x1 = (8:Int32) → IsTag K R a0 ∧ Q (I (a0 + 1) 12) I) ∧ (x1 = (9:Int32) → IsTag K R a0 ∧ Q (I (a0 + 1) 13) I) ∧ (x1 = (10:Int32) → IsTag K R a0 ∧ Q (I (a0 + 1) 14) I) ∧ (x1 = (11:Int32) → IsTag K R a0 ∧ Q (I a0 5) I) ∧ (x1 = (12:Int32) → IsTag K R a0 ∧ Q (I (a0 + 716) 1) I) ∧ ((x1).toInt < 0 ∨ 12 < (x1).toInt → Q (-2:Int32) I))
end
section
def w_X7_in_b15 (K : MK) (R : MR) (x0 : Int32) (x1 : Int32) (x2 : Int32) (Q : Int32 → MI → Prop) (z0_15 : Int32) (I : MI) : Prop := bz z0_15 ∧ Q z0_15 I
def w_X7_in_b14 (K : MK) (R : MR) (x0 : Int32) (x1 : Int32) (x2 : Int32) (Q : Int32 → MI → Prop) (I : MI) : Prop := w_X7_in_b15 K R x0 x1 x2 Q (0:Int32) I
def w_X7_in (K : MK) (R : MR) (x0 : Int32) (x1 : Int32) (x2 : Int32) (I : MI) (Q : Int32 → MI → Prop) : Prop := ((x0 < x1 → w_X7_in_b14 K R x0 x1 x2 Q I) ∧ (¬ x0 < x1 → ((x2 < x0 → w_X7_in_b14 K R x0 x1 x2 Q I) ∧ (¬ x2 < x0 → w_X7_in_b15 K R x0 x1 x2 Q (1:Int32) I))))
def w_X7_isPort (K : MK) (R : MR) (x0 : Int32) (I : MI) (Q : Int32 → MI → Prop) : Prop := w_X7_in K R x0 (0:Int32) (3:Int32) I (fun v2 I1 => bz v2 ∧ Q v2 I1)
def w_X7_ofMaster (K : MK) (R : MR) (x0 : Int32) (x1 : Int32) (I : MI) (Q : Int32 → MI → Prop) : Prop := Q (((21:Int32) + ((11:Int32) * x0)) + x1) I
def w_X7_ofTarget (K : MK) (R : MR) (x0 : Int32) (x1 : Int32) (I : MI) (Q : Int32 → MI → Prop) : Prop := Q (((65:Int32) + ((24:Int32) * x0)) + x1) I
def w_X7_of (K : MK) (R : MR) (x0 : Int32) (x1 : Int32) (I : MI) (Q : Int32 → MI → Prop) : Prop := Q (((161:Int32) + ((11:Int32) * x0)) + x1) I
def w_X7_know_b51_body (K : MK) (R : MR) (a0 : Nat) (Q : MI → Prop) (X51 : Int32 → MI → Prop) (y1_51 : Int32) (I : MI) : Prop := (((2361:Int32) ≤ y1_51 → IsModel K R a0 ∧ ∀ I2, I2 = upI I a0 3 ((I a0 3) + (1:Int32)) → Q I2) ∧ (¬ (2361:Int32) ≤ y1_51 → IsModel K R a0 ∧ vp_in y1_51 2361 ∧ vp_in (((2361:Int32) * (I a0 3)) + y1_51) 9444 ∧ ∀ I6, I6 = upI I (a0 + 3) (ix (((2361:Int32) * (I a0 3)) + y1_51)) (I (a0 + 1) (ix y1_51)) → X51 (y1_51 + (1:Int32)) I6))
def w_X7_know_b51 (K : MK) (R : MR) (a0 : Nat) (Q : MI → Prop) (y1_51 : Int32) (I : MI) : Prop := ∀ X51 : Int32 → MI → Prop, (∀ (y1_51 : Int32) (I : MI), w_X7_know_b51_body K R a0 Q X51 y1_51 I → X51 y1_51 I) → X51 y1_51 I
def w_X7_know_b49 (K : MK) (R : MR) (a0 : Nat) (Q : MI → Prop) (I : MI) : Prop := w_X7_know_b51 K R a0 Q (0:Int32) I
def w_X7_know_b10_body (K : MK) (R : MR) (a0 : Nat) (Q : MI → Prop) (X10 : Int32 → MI → Prop) (y1_10 : Int32) (I : MI) : Prop := (((7083:Int32) ≤ y1_10 → IsModel K R a0 ∧ ∀ I9, I9 = upI I a0 3 ((I a0 3) - (1:Int32)) → w_X7_know_b49 K R a0 Q I9) ∧ (¬ (7083:Int32) ≤ y1_10 → IsModel K R a0 ∧ vp_in ((2361:Int32) + y1_10) 9444 ∧ vp_in y1_10 9444 ∧ ∀ I13, I13 = upI I (a0 + 3) (ix y1_10) (I (a0 + 3) (ix ((2361:Int32) + y1_10))) → X10 (y1_10 + (1:Int32)) I13))
def w_X7_know_b10 (K : MK) (R : MR) (a0 : Nat) (Q : MI → Prop) (y1_10 : Int32) (I : MI) : Prop := ∀ X10 : Int32 → MI → Prop, (∀ (y1_10 : Int32) (I : MI), w_X7_know_b10_body K R a0 Q X10 y1_10 I → X10 y1_10 I) → X10 y1_10 I
def w_X7_know (K : MK) (R : MR) (a0 : Nat) (I : MI) (Q : MI → Prop) : Prop := IsModel K R a0 ∧ ((¬ (I a0 3) = (4:Int32) → w_X7_know_b49 K R a0 Q I) ∧ ((I a0 3) = (4:Int32) → w_X7_know_b10 K R a0 Q (0:Int32) I))
def w_X7_change (K : MK) (R : MR) (a0 : Nat) (x1 : Int32) (x2 : Int32) (I : MI) (Q : Int32 → MI → Prop) : Prop := IsModel K R a0 ∧ vp_in x1 2361 ∧ ((¬ (I (a0 + 1) (ix x1)) = x2 → w_X7_know K R a0 I (fun I3 => vp_in x1 2361 ∧ ∀ I5, I5 = upI I3 (a0 + 1) (ix x1) x2 → Q (I (a0 + 1) (ix x1)) I5)) ∧ ((I (a0 + 1) (ix x1)) = x2 → Q (-5:Int32) I))
def w_X7_isLentFrom_b37 (K : MK) (R : MR) (a0 : Nat) (x1 : Int32) (Q : Int32 → MI → Prop) (X4 : Int32 → Int32 → MI → Prop) (y3_37 : Int32) (z0_37 : Int32) (I : MI) : Prop := X4 z0_37 (y3_37 + (1:Int32)) I
def w_X7_isLentFrom_b32 (K : MK) (R : MR) (a0 : Nat) (x1 : Int32) (Q : Int32 → MI → Prop) (X4 : Int32 → Int32 → MI → Prop) (y3_32 : Int32) (I : MI) : Prop := w_X7_isLentFrom_b37 K R a0 x1 Q X4 y3_32 (1:Int32) I
def w_X7_isLentFrom_b4_body (K : MK) (R : MR) (a0 : Nat) (x1 : Int32) (Q : Int32 → MI → Prop) (X4 : Int32 → Int32 → MI → Prop) (y2_4 : Int32) (y3_4 : Int32) (I : MI) : Prop := IsModel K R a0 ∧ (((I (a0 + 1) 1) ≤ y3_4 → bz y2_4 ∧ Q y2_4 I) ∧ (¬ (I (a0 + 1) 1) ≤ y3_4 → ((¬ y2_4 = 0 → w_X7_isLentFrom_b32 K R a0 x1 Q X4 y3_4 I) ∧ (y2_4 = 0 → vp_in ((13:Int32) + y3_4) 2361 ∧ (((I (a0 + 1) (ix ((13:Int32) + y3_4))) = (-5:Int32) → w_X7_isLentFrom_b37 K R a0 x1 Q X4 y3_4 (0:Int32) I) ∧ (¬ (I (a0 + 1) (ix ((13:Int32) + y3_4))) = (-5:Int32) → w_X7_isLentFrom_b32 K R a0 x1 Q X4 y3_4 I))))))
def w_X7_isLentFrom_b4 (K : MK) (R : MR) (a0 : Nat) (x1 : Int32) (Q : Int32 → MI → Prop) (y2_4 : Int32) (y3_4 : Int32) (I : MI) : Prop := ∀ X4 : Int32 → Int32 → MI → Prop, (∀ (y2_4 : Int32) (y3_4 : Int32) (I : MI), w_X7_isLentFrom_b4_body K R a0 x1 Q X4 y2_4 y3_4 I → X4 y2_4 y3_4 I) → X4 y2_4 y3_4 I
def w_X7_isLentFrom (K : MK) (R : MR) (a0 : Nat) (x1 : Int32) (I : MI) (Q : Int32 → MI → Prop) : Prop := w_X7_isLentFrom_b4 K R a0 x1 Q (0:Int32) x1 I
def w_X7_set_b46 (K : MK) (R : MR) (a0 : Nat) (x1 : Int32) (x2 : Int32) (Q : Int32 → MI → Prop) (I : MI) : Prop := Q (-2:Int32) I
def w_X7_set_b64 (K : MK) (R : MR) (a0 : Nat) (x1 : Int32) (x2 : Int32) (Q : Int32 → MI → Prop) (I : MI) : Prop := IsModel K R a0 ∧ w_X7_change K R a0 ((1:Int32) + x1) x2 I (fun v3 I2 => Q v3 I2)
def w_X7_set_b40 (K : MK) (R : MR) (a0 : Nat) (x1 : Int32) (x2 : Int32) (Q : Int32 → MI → Prop) (z0_40 : Int32) (z1_40 : Int32) (I : MI) : Prop := w_X7_in K R x2 z1_40 z0_40 I (fun v5 I4 => ((¬ v5 = 0 → ((¬ x1 = 0 → w_X7_set_b64 K R a0 x1 x2 Q I4) ∧ (x1 = 0 → IsModel K R a0 ∧ w_X7_isLentFrom K R a0 x2 I4 (fun v8 I7 => ((v8 = 0 → w_X7_set_b64 K R a0 x1 x2 Q I7) ∧ (¬ v8 = 0 → Q (-4:Int32) I7)))))) ∧ (v5 = 0 → w_X7_set_b46 K R a0 x1 x2 Q I4)))
def w_X7_set_b20 (K : MK) (R : MR) (a0 : Nat) (x1 : Int32) (x2 : Int32) (Q : Int32 → MI → Prop) (z0_20 : Int32) (I : MI) : Prop := ((¬ x1 = 0 → ((¬ x1 = (1:Int32) → w_X7_set_b40 K R a0 x1 x2 Q (50:Int32) z0_20 I) ∧ (x1 = (1:Int32) → w_X7_set_b40 K R a0 x1 x2 Q (2:Int32) z0_20 I))) ∧ (x1 = 0 → w_X7_set_b40 K R a0 x1 x2 Q (8:Int32) z0_20 I))
def w_X7_set (K : MK) (R : MR) (a0 : Nat) (x1 : Int32) (x2 : Int32) (I : MI) (Q : Int32 → MI → Prop) : Prop := w_X7_in K R x1 (0:Int32) (2:Int32) I (fun v15 I14 => ((v15 = 0 → w_X7_set_b46 K R a0 x1 x2 Q I14) ∧ (¬ v15 = 0 → ((¬ x1 = (1:Int32) → w_X7_set_b20 K R a0 x1 x2 Q (1:Int32) I14) ∧ (x1 = (1:Int32) → w_X7_set_b20 K R a0 x1 x2 Q (0:Int32) I14)))))
def w_X7_setShare_b35 (K : MK) (R : MR) (a0 : Nat) (x1 : Int32) (x2 : Int32) (Q : Int32 → MI → Prop) (z0_35 : Int32) (I : MI) : Prop := Q z0_35 I
def w_X7_setShare (K : MK) (R : MR) (a0 : Nat) (x1 : Int32) (x2 : Int32) (I : MI) (Q : Int32 → MI → Prop) : Prop := w_X7_isPort K R x1 I (fun v2 I1 => ((¬ v2 = 0 → w_X7_in K R x2 (1:Int32) (8:Int32) I1 (fun v4 I3 => ((v4 = 0 → w_X7_setShare_b35 K R a0 x1 x2 Q (-2:Int32) I3) ∧ (¬ v4 = 0 → w_X7_ofMaster K R x1 (7:Int32) I3 (fun v6 I5 => IsModel K R a0 ∧ w_X7_change K R a0 v6 x2 I5 (fun v9 I8 => w_X7_setShare_b35 K R a0 x1 x2 Q v9 I8)))))) ∧ (v2 = 0 → Q (-1:Int32) I1)))
def w_X7_setTarget_b54 (K : MK) (R : MR) (a0 : Nat) (x1 : Int32) (x2 : Int32) (x3 : Int32) (Q : Int32 → MI → Prop) (I : MI) : Prop := Q (-2:Int32) I
def w_X7_setTarget_b48 (K : MK) (R : MR) (a0 : Nat) (x1 : Int32) (x2 : Int32) (x3 : Int32) (Q : Int32 → MI → Prop) (z0_48 : Int32) (z1_48 : Int32) (I : MI) : Prop := w_X7_in K R x3 z1_48 z0_48 I (fun v2 I1 => ((¬ v2 = 0 → w_X7_ofTarget K R x1 ((16:Int32) + x2) I1 (fun v4 I3 => IsModel K R a0 ∧ w_X7_change K R a0 v4 x3 I3 (fun v7 I6 => Q v7 I6))) ∧ (v2 = 0 → w_X7_setTarget_b54 K R a0 x1 x2 x3 Q I1)))
def w_X7_setTarget_b29 (K : MK) (R : MR) (a0 : Nat) (x1 : Int32) (x2 : Int32) (x3 : Int32) (Q : Int32 → MI → Prop) (z0_29 : Int32) (I : MI) : Prop := ((¬ x2 = 0 → ((¬ x2 = (1:Int32) → w_X7_setTarget_b48 K R a0 x1 x2 x3 Q (1:Int32) z0_29 I) ∧ (x2 = (1:Int32) → w_X7_setTarget_b48 K R a0 x1 x2 x3 Q (9:Int32) z0_29 I))) ∧ (x2 = 0 → w_X7_setTarget_b48 K R a0 x1 x2 x3 Q (4:Int32) z0_29 I))
def w_X7_setTarget (K : MK) (R : MR) (a0 : Nat) (x1 : Int32) (x2 : Int32) (x3 : Int32) (I : MI) (Q : Int32 → MI → Prop) : Prop := w_X7_isPort K R x1 I (fun v12 I11 => ((¬ v12 = 0 → w_X7_in K R x2 (0:Int32) (2:Int32) I11 (fun v14 I13 => ((v14 = 0 → w_X7_setTarget_b54 K R a0 x1 x2 x3 Q I13) ∧ (¬ v14 = 0 → ((¬ x2 = (2:Int32) → w_X7_setTarget_b29 K R a0 x1 x2 x3 Q (1:Int32) I13) ∧ (x2 = (2:Int32) → w_X7_setTarget_b29 K R a0 x1 x2 x3 Q (0:Int32) I13)))))) ∧ (v12 = 0 → Q (-1:Int32) I11)))
def w_X7_setCell_b44 (K : MK) (R : MR) (a0 : Nat) (x1 : Int32) (x2 : Int32) (x3 : Int32) (Q : Int32 → MI → Prop) (z0_44 : Int32) (I : MI) : Prop := Q z0_44 I
def w_X7_setCell_b42 (K : MK) (R : MR) (a0 : Nat) (x1 : Int32) (x2 : Int32) (x3 : Int32) (Q : Int32 → MI → Prop) (I : MI) : Prop := w_X7_setCell_b44 K R a0 x1 x2 x3 Q (-2:Int32) I
def w_X7_setCell (K : MK) (R : MR) (a0 : Nat) (x1 : Int32) (x2 : Int32) (x3 : Int32) (I : MI) (Q : Int32 → MI → Prop) : Prop := w_X7_isPort K R x1 I (fun v2 I1 => ((¬ v2 = 0 → w_X7_in K R x2 (0:Int32) (15:Int32) I1 (fun v4 I3 => ((v4 = 0 → w_X7_setCell_b42 K R a0 x1 x2 x3 Q I3) ∧ (¬ v4 = 0 → w_X7_in K R x3 (0:Int32) (99:Int32) I3 (fun v6 I5 => ((v6 = 0 → w_X7_setCell_b42 K R a0 x1 x2 x3 Q I5) ∧ (¬ v6 = 0 → w_X7_ofTarget K R x1 x2 I5 (fun v8 I7 => IsModel K R a0 ∧ w_X7_change K R a0 v8 x3 I7 (fun v11 I10 => w_X7_setCell_b44 K R a0 x1 x2 x3 Q v11 I10))))))))) ∧ (v2 = 0 → Q (-1:Int32) I1)))
def w_X7_isRoom_b32 (K : MK) (R : MR) (a0 : Nat) (x1 : Int32) (Q : Int32 → MI → Prop) (z0_32 : Int32) (I : MI) : Prop := bz z0_32 ∧ Q z0_32 I
def w_X7_isRoom_b31 (K : MK) (R : MR) (a0 : Nat) (x1 : Int32) (Q : Int32 → MI → Prop) (I : MI) : Prop := w_X7_isRoom_b32 K R a0 x1 Q (0:Int32) I
def w_X7_isRoom (K : MK) (R : MR) (a0 : Nat) (x1 : Int32) (I : MI) (Q : Int32 → MI → Prop) : Prop := IsModel K R a0 ∧ w_X7_ofMaster K R x1 (0:Int32) I (fun v4 I3 => vp_in v4 2361 ∧ (((6:Int32) ≤ (I3 (a0 + 1) (ix v4)) → w_X7_isRoom_b31 K R a0 x1 Q I3) ∧ (¬ (6:Int32) ≤ (I3 (a0 + 1) (ix v4)) → (((200:Int32) ≤ (I3 (a0 + 1) 4) → w_X7_isRoom_b31 K R a0 x1 Q I3) ∧ (¬ (200:Int32) ≤ (I3 (a0 + 1) 4) → w_X7_isRoom_b32 K R a0 x1 Q (1:Int32) I3)))))
def w_X7_put (K : MK) (R : MR) (a0 : Nat) (x1 : Int32) (x2 : Int32) (x3 : Int32) (x4 : Int32) (I : MI) (Q : Int32 → MI → Prop) : Prop := IsModel K R a0 ∧ w_X7_of K R (I (a0 + 1) 4) (0:Int32) I (fun v3 I2 => vp_in v3 2361 ∧ ∀ I5, I5 = upI I2 (a0 + 1) (ix v3) x1 → w_X7_of K R (I (a0 + 1) 4) (1:Int32) I5 (fun v7 I6 => vp_in v7 2361 ∧ ∀ I9, I9 = upI I6 (a0 + 1) (ix v7) x2 → w_X7_of K R (I (a0 + 1) 4) (2:Int32) I9 (fun v11 I10 => vp_in v11 2361 ∧ ∀ I13, I13 = upI I10 (a0 + 1) (ix v11) x3 → w_X7_of K R (I (a0 + 1) 4) (3:Int32) I13 (fun v15 I14 => vp_in v15 2361 ∧ ∀ I17, I17 = upI I14 (a0 + 1) (ix v15) x4 → w_X7_of K R (I (a0 + 1) 4) (4:Int32) I17 (fun v19 I18 => vp_in v19 2361 ∧ ∀ I21, I21 = upI I18 (a0 + 1) (ix v19) (0:Int32) → w_X7_of K R (I (a0 + 1) 4) (5:Int32) I21 (fun v23 I22 => vp_in v23 2361 ∧ ∀ I25, I25 = upI I22 (a0 + 1) (ix v23) (-5:Int32) → w_X7_of K R (I (a0 + 1) 4) (6:Int32) I25 (fun v27 I26 => vp_in v27 2361 ∧ ∀ I29, I29 = upI I26 (a0 + 1) (ix v27) (-5:Int32) → w_X7_of K R (I (a0 + 1) 4) (7:Int32) I29 (fun v31 I30 => vp_in v31 2361 ∧ ∀ I33, I33 = upI I30 (a0 + 1) (ix v31) (I30 (a0 + 1) 0) → w_X7_of K R (I (a0 + 1) 4) (8:Int32) I33 (fun v35 I34 => vp_in v35 2361 ∧ ∀ I37, I37 = upI I34 (a0 + 1) (ix v35) (-5:Int32) → w_X7_of K R (I (a0 + 1) 4) (9:Int32) I37 (fun v39 I38 => vp_in v39 2361 ∧ ∀ I41, I41 = upI I38 (a0 + 1) (ix v39) (0:Int32) → w_X7_of K R (I (a0 + 1) 4) (10:Int32) I41 (fun v43 I42 => vp_in v43 2361 ∧ ∀ I45, I45 = upI I42 (a0 + 1) (ix v43) (0:Int32) → w_X7_ofMaster K R x1 (0:Int32) I45 (fun v47 I46 => vp_in v47 2361 ∧ w_X7_ofMaster K R x1 ((1:Int32) + (I46 (a0 + 1) (ix v47))) I46 (fun v50 I49 => vp_in v50 2361 ∧ ∀ I52, I52 = upI I49 (a0 + 1) (ix v50) (I (a0 + 1) 4) → w_X7_ofMaster K R x1 (0:Int32) I52 (fun v54 I53 => vp_in v54 2361 ∧ vp_in v54 2361 ∧ ∀ I57, I57 = upI I53 (a0 + 1) (ix v54) ((I53 (a0 + 1) (ix v54)) + (1:Int32)) → ∀ I58, I58 = upI I57 (a0 + 1) 4 ((I57 (a0 + 1) 4) + (1:Int32)) → Q (I (a0 + 1) 4) I58))))))))))))))
def w_X7_read_b14 (K : MK) (R : MR) (a0 : Nat) (x1 : Int32) (x2 : Int32) (x3 : Int32) (Q : Int32 → MI → Prop) (I : MI) : Prop := Q (-1:Int32) I
def w_X7_read (K : MK) (R : MR) (a0 : Nat) (x1 : Int32) (x2 : Int32) (x3 : Int32) (I : MI) (Q : Int32 → MI → Prop) : Prop := w_X7_isPort K R x1 I (fun v2 I1 => ((v2 = 0 → w_X7_read_b14 K R a0 x1 x2 x3 Q I1) ∧ (¬ v2 = 0 → w_X7_isPort K R x2 I1 (fun v4 I3 => ((¬ v4 = 0 → w_X7_in K R x3 (0:Int32) (15:Int32) I3 (fun v6 I5 => ((¬ v6 = 0 → IsModel K R a0 ∧ w_X7_isRoom K R a0 x1 I5 (fun v9 I8 => ((¬ v9 = 0 → w_X7_know K R a0 I8 (fun I10 => w_X7_put K R a0 x1 x2 x3 (-5:Int32) I10 (fun v12 I11 => Q v12 I11))) ∧ (v9 = 0 → Q (-3:Int32) I8)))) ∧ (v6 = 0 → Q (-2:Int32) I5)))) ∧ (v4 = 0 → w_X7_read_b14 K R a0 x1 x2 x3 Q I3))))))
def w_X7_write_b14 (K : MK) (R : MR) (a0 : Nat) (x1 : Int32) (x2 : Int32) (x3 : Int32) (x4 : Int32) (Q : Int32 → MI → Prop) (I : MI) : Prop := Q (-1:Int32) I
def w_X7_write_b37 (K : MK) (R : MR) (a0 : Nat) (x1 : Int32) (x2 : Int32) (x3 : Int32) (x4 : Int32) (Q : Int32 → MI → Prop) (I : MI) : Prop := Q (-2:Int32) I
def w_X7_write (K : MK) (R : MR) (a0 : Nat) (x1 : Int32) (x2 : Int32) (x3 : Int32) (x4 : Int32) (I : MI) (Q : Int32 → MI → Prop) : Prop := w_X7_isPort K R x1 I (fun v2 I1 => ((v2 = 0 → w_X7_write_b14 K R a0 x1 x2 x3 x4 Q I1) ∧ (¬ v2 = 0 → w_X7_isPort K R x2 I1 (fun v4 I3 => ((¬ v4 = 0 → w_X7_in K R x3 (0:Int32) (15:Int32) I3 (fun v6 I5 => ((v6 = 0 → w_X7_write_b37 K R a0 x1 x2 x3 x4 Q I5) ∧ (¬ v6 = 0 → w_X7_in K R x4 (0:Int32) (99:Int32) I5 (fun v8 I7 => ((¬ v8 = 0 → IsModel K R a0 ∧ w_X7_isRoom K R a0 x1 I7 (fun v11 I10 => ((¬ v11 = 0 → w_X7_know K R a0 I10 (fun I12 => w_X7_put K R a0 x1 x2 x3 x4 I12 (fun v14 I13 => Q v14 I13))) ∧ (v11 = 0 → Q (-3:Int32) I10)))) ∧ (v8 = 0 → w_X7_write_b37 K R a0 x1 x2 x3 x4 Q I7))))))) ∧ (v4 = 0 → w_X7_write_b14 K R a0 x1 x2 x3 x4 Q I3))))))
def w_X7_withdraw_b107 (K : MK) (R : MR) (a0 : Nat) (x1 : Int32) (Q : Int32 → MI → Prop) (y3_107 : Int32) (z0_107 : Int32) (z1_107 : Int32) (I : MI) : Prop := IsModel K R a0 ∧ vp_in z1_107 2361 ∧ ∀ I3, I3 = upI I (a0 + 1) (ix z1_107) z0_107 → Q y3_107 I3
def w_X7_withdraw (K : MK) (R : MR) (a0 : Nat) (x1 : Int32) (I : MI) (Q : Int32 → MI → Prop) : Prop := w_X7_isPort K R x1 I (fun v5 I4 => ((¬ v5 = 0 → IsModel K R a0 ∧ w_X7_ofMaster K R x1 (0:Int32) I4 (fun v8 I7 => vp_in v8 2361 ∧ ((¬ (I7 (a0 + 1) (ix v8)) = 0 → w_X7_know K R a0 I7 (fun I10 => w_X7_ofMaster K R x1 (0:Int32) I10 (fun v12 I11 => vp_in v12 2361 ∧ vp_in v12 2361 ∧ ∀ I15, I15 = upI I11 (a0 + 1) (ix v12) ((I11 (a0 + 1) (ix v12)) - (1:Int32)) → w_X7_ofMaster K R x1 (0:Int32) I15 (fun v17 I16 => vp_in v17 2361 ∧ w_X7_ofMaster K R x1 ((1:Int32) + (I16 (a0 + 1) (ix v17))) I16 (fun v20 I19 => vp_in v20 2361 ∧ w_X7_of K R (I19 (a0 + 1) (ix v20)) (4:Int32) I19 (fun v23 I22 => vp_in v23 2361 ∧ ∀ I25, I25 = upI I22 (a0 + 1) (ix v23) (4:Int32) → w_X7_ofMaster K R x1 (10:Int32) I25 (fun v27 I26 => ((¬ (I16 (a0 + 1) (ix v17)) = 0 → w_X7_ofMaster K R x1 (10:Int32) I26 (fun v29 I28 => vp_in v29 2361 ∧ w_X7_withdraw_b107 K R a0 x1 Q (I19 (a0 + 1) (ix v20)) (I28 (a0 + 1) (ix v29)) v27 I28)) ∧ ((I16 (a0 + 1) (ix v17)) = 0 → w_X7_withdraw_b107 K R a0 x1 Q (I19 (a0 + 1) (ix v20)) (0:Int32) v27 I26))))))))) ∧ ((I7 (a0 + 1) (ix v8)) = 0 → Q (-5:Int32) I7)))) ∧ (v5 = 0 → Q (-1:Int32) I4)))
def w_X7_sign_b67 (K : MK) (R : MR) (a0 : Nat) (x1 : Int32) (x2 : Int32) (Q : Int32 → MI → Prop) (y3_67 : Int32) (z0_67 : Int32) (z1_67 : Int32) (I : MI) : Prop := IsModel K R a0 ∧ ∀ I2, I2 = upI I a0 8 (z1_67 + z0_67) → Q y3_67 I2
def w_X7_sign_b47 (K : MK) (R : MR) (a0 : Nat) (x1 : Int32) (x2 : Int32) (Q : Int32 → MI → Prop) (y3_47 : Int32) (z0_47 : Int32) (I : MI) : Prop := IsModel K R a0 ∧ bz z0_47 ∧ ∀ I4, I4 = upI I a0 9 z0_47 → (((I4 a0 9) = 0 → w_X7_sign_b67 K R a0 x1 x2 Q y3_47 (1:Int32) (I4 a0 8) I4) ∧ (¬ (I4 a0 9) = 0 → w_X7_sign_b67 K R a0 x1 x2 Q y3_47 (0:Int32) (I4 a0 8) I4))
def w_X7_sign_b42 (K : MK) (R : MR) (a0 : Nat) (x1 : Int32) (x2 : Int32) (Q : Int32 → MI → Prop) (y3_42 : Int32) (I : MI) : Prop := w_X7_sign_b47 K R a0 x1 x2 Q y3_42 (1:Int32) I
def w_X7_sign_b24 (K : MK) (R : MR) (a0 : Nat) (x1 : Int32) (x2 : Int32) (Q : Int32 → MI → Prop) (z0_24 : Int32) (I : MI) : Prop := IsModel K R a0 ∧ ((¬ (I a0 9) = 0 → w_X7_sign_b42 K R a0 x1 x2 Q z0_24 I) ∧ ((I a0 9) = 0 → w_X7_in K R z0_24 x1 x2 I (fun v9 I8 => ((¬ v9 = 0 → w_X7_sign_b47 K R a0 x1 x2 Q z0_24 (0:Int32) I8) ∧ (v9 = 0 → w_X7_sign_b42 K R a0 x1 x2 Q z0_24 I8)))))
def w_X7_sign (K : MK) (R : MR) (a0 : Nat) (x1 : Int32) (x2 : Int32) (I : MI) (Q : Int32 → MI → Prop) : Prop := IsModel K R a0 ∧ (((I a0 7) ≤ (I a0 8) → w_X7_sign_b24 K R a0 x1 x2 Q (0:Int32) I) ∧ (¬ (I a0 7) ≤ (I a0 8) → vp_in (I a0 8) 60 ∧ w_X7_sign_b24 K R a0 x1 x2 Q (I (a0 + 5) (ix (I a0 8))) I))
def w_X7_number_b104 (K : MK) (R : MR) (a0 : Nat) (x1 : Int32) (Q : Int32 → MI → Prop) (z0_104 : Int32) (I : MI) : Prop := Q z0_104 I
def w_X7_number_b79 (K : MK) (R : MR) (a0 : Nat) (x1 : Int32) (Q : Int32 → MI → Prop) (y2_79 : Int32) (z0_79 : Int32) (I : MI) : Prop := ((z0_79 = 0 → w_X7_number_b104 K R a0 x1 Q y2_79 I) ∧ (¬ z0_79 = 0 → IsModel K R a0 ∧ w_X7_sign K R a0 (48:Int32) (57:Int32) I (fun v3 I2 => w_X7_number_b104 K R a0 x1 Q ((((10:Int32) * y2_79) + v3) - (48:Int32)) I2)))
def w_X7_number_b78 (K : MK) (R : MR) (a0 : Nat) (x1 : Int32) (Q : Int32 → MI → Prop) (y2_78 : Int32) (I : MI) : Prop := w_X7_number_b79 K R a0 x1 Q y2_78 (0:Int32) I
def w_X7_number (K : MK) (R : MR) (a0 : Nat) (x1 : Int32) (I : MI) (Q : Int32 → MI → Prop) : Prop := IsModel K R a0 ∧ w_X7_sign K R a0 (48:Int32) (57:Int32) I (fun v7 I6 => ((¬ (I6 a0 9) = 0 → w_X7_number_b78 K R a0 x1 Q (v7 - (48:Int32)) I6) ∧ ((I6 a0 9) = 0 → (((v7 - (48:Int32)) ≤ 0 → w_X7_number_b78 K R a0 x1 Q (v7 - (48:Int32)) I6) ∧ (¬ (v7 - (48:Int32)) ≤ 0 → (((I6 a0 7) ≤ (I6 a0 8) → w_X7_number_b78 K R a0 x1 Q (v7 - (48:Int32)) I6) ∧ (¬ (I6 a0 7) ≤ (I6 a0 8) → vp_in (I6 a0 8) 60 ∧ w_X7_in K R (I6 (a0 + 5) (ix (I6 a0 8))) (48:Int32) (57:Int32) I6 (fun v10 I9 => ((v10 = 0 → w_X7_number_b78 K R a0 x1 Q (v7 - (48:Int32)) I9) ∧ (¬ v10 = 0 → vp_in (I9 a0 8) 60 ∧ ((x1 < ((((10:Int32) * (v7 - (48:Int32))) + (I9 (a0 + 5) (ix (I9 a0 8)))) - (48:Int32)) → w_X7_number_b78 K R a0 x1 Q (v7 - (48:Int32)) I9) ∧ (¬ x1 < ((((10:Int32) * (v7 - (48:Int32))) + (I9 (a0 + 5) (ix (I9 a0 8)))) - (48:Int32)) → w_X7_number_b79 K R a0 x1 Q (v7 - (48:Int32)) (1:Int32) I9))))))))))))
def w_X7_question_b148 (K : MK) (R : MR) (a0 : Nat) (Q : MI → Prop) (z0_148 : Int32) (z1_148 : Int32) (I : MI) : Prop := IsModel K R a0 ∧ vp_in z1_148 4 ∧ ∀ I3, I3 = upI I (a0 + 6) (ix z1_148) z0_148 → Q I3
def w_X7_question_b126 (K : MK) (R : MR) (a0 : Nat) (Q : MI → Prop) (y2_126 : Int32) (z0_126 : Int32) (I : MI) : Prop := IsModel K R a0 ∧ ((y2_126 = 0 → w_X7_question_b148 K R a0 Q (-5:Int32) (3:Int32) I) ∧ (¬ y2_126 = 0 → w_X7_number K R a0 (99:Int32) I (fun v6 I5 => w_X7_question_b148 K R a0 Q v6 (3:Int32) I5)))
def w_X7_question_b97 (K : MK) (R : MR) (a0 : Nat) (Q : MI → Prop) (y2_97 : Int32) (z0_97 : Int32) (I : MI) : Prop := IsModel K R a0 ∧ w_X7_number K R a0 (15:Int32) I (fun v10 I9 => ∀ I11, I11 = upI I9 (a0 + 6) 2 v10 → ((y2_97 = 0 → w_X7_question_b126 K R a0 Q y2_97 (0:Int32) I11) ∧ (¬ y2_97 = 0 → w_X7_sign K R a0 (61:Int32) (61:Int32) I11 (fun v13 I12 => w_X7_question_b126 K R a0 Q y2_97 v13 I12))))
def w_X7_question_b73 (K : MK) (R : MR) (a0 : Nat) (Q : MI → Prop) (z0_73 : Int32) (I : MI) : Prop := ((z0_73 = 0 → IsModel K R a0 ∧ w_X7_sign K R a0 (114:Int32) (114:Int32) I (fun v17 I16 => w_X7_question_b97 K R a0 Q z0_73 v17 I16)) ∧ (¬ z0_73 = 0 → IsModel K R a0 ∧ w_X7_sign K R a0 (119:Int32) (119:Int32) I (fun v20 I19 => w_X7_question_b97 K R a0 Q z0_73 v20 I19)))
def w_X7_question_b72 (K : MK) (R : MR) (a0 : Nat) (Q : MI → Prop) (I : MI) : Prop := w_X7_question_b73 K R a0 Q (0:Int32) I
def w_X7_question (K : MK) (R : MR) (a0 : Nat) (I : MI) (Q : MI → Prop) : Prop := IsModel K R a0 ∧ w_X7_sign K R a0 (48:Int32) (51:Int32) I (fun v24 I23 => ∀ I25, I25 = upI I23 (a0 + 6) 0 (v24 - (48:Int32)) → w_X7_sign K R a0 (62:Int32) (62:Int32) I25 (fun v27 I26 => w_X7_sign K R a0 (48:Int32) (51:Int32) I26 (fun v29 I28 => ∀ I30, I30 = upI I28 (a0 + 6) 1 (v29 - (48:Int32)) → (((I30 a0 7) ≤ (I30 a0 8) → w_X7_question_b72 K R a0 Q I30) ∧ (¬ (I30 a0 7) ≤ (I30 a0 8) → vp_in (I30 a0 8) 60 ∧ ((¬ (I30 (a0 + 5) (ix (I30 a0 8))) = (119:Int32) → w_X7_question_b72 K R a0 Q I30) ∧ ((I30 (a0 + 5) (ix (I30 a0 8))) = (119:Int32) → w_X7_question_b73 K R a0 Q (1:Int32) I30)))))))
def w_X7_go_b134 (K : MK) (R : MR) (a0 : Nat) (x1 : Int32) (Q : Int32 → MI → Prop) (X14 : Int32 → Int32 → MI → Prop) (y2_134 : Int32) (z0_134 : Int32) (I : MI) : Prop := X14 y2_134 z0_134 I
def w_X7_go_b107 (K : MK) (R : MR) (a0 : Nat) (x1 : Int32) (Q : Int32 → MI → Prop) (X14 : Int32 → Int32 → MI → Prop) (y2_107 : Int32) (z0_107 : Int32) (I : MI) : Prop := ((z0_107 = 0 → X14 y2_107 z0_107 I) ∧ (¬ z0_107 = 0 → IsModel K R a0 ∧ w_X7_sign K R a0 (59:Int32) (59:Int32) I (fun v3 I2 => ((¬ (I2 a0 9) = 0 → w_X7_go_b134 K R a0 x1 Q X14 y2_107 (0:Int32) I2) ∧ ((I2 a0 9) = 0 → w_X7_go_b134 K R a0 x1 Q X14 y2_107 (1:Int32) I2)))))
def w_X7_go_b106 (K : MK) (R : MR) (a0 : Nat) (x1 : Int32) (Q : Int32 → MI → Prop) (X14 : Int32 → Int32 → MI → Prop) (y2_106 : Int32) (I : MI) : Prop := w_X7_go_b107 K R a0 x1 Q X14 y2_106 (0:Int32) I
def w_X7_go_b84 (K : MK) (R : MR) (a0 : Nat) (x1 : Int32) (Q : Int32 → MI → Prop) (X14 : Int32 → Int32 → MI → Prop) (y2_84 : Int32) (I : MI) : Prop := IsModel K R a0 ∧ ((¬ (I a0 9) = 0 → w_X7_go_b106 K R a0 x1 Q X14 y2_84 I) ∧ ((I a0 9) = 0 → (((I a0 7) ≤ (I a0 8) → w_X7_go_b106 K R a0 x1 Q X14 y2_84 I) ∧ (¬ (I a0 7) ≤ (I a0 8) → w_X7_go_b107 K R a0 x1 Q X14 y2_84 (1:Int32) I))))
def w_X7_go_b14_body (K : MK) (R : MR) (a0 : Nat) (x1 : Int32) (Q : Int32 → MI → Prop) (X14 : Int32 → Int32 → MI → Prop) (y2_14 : Int32) (y3_14 : Int32) (I : MI) : Prop := ((y3_14 = 0 → Q y2_14 I) ∧ (¬ y3_14 = 0 → IsModel K R a0 ∧ w_X7_question K R a0 I (fun I10 => ((x1 = 0 → ((¬ (I10 a0 9) = 0 → w_X7_go_b84 K R a0 x1 Q X14 (y2_14 + (1:Int32)) I10) ∧ ((I10 a0 9) = 0 → vp_in (I10 (a0 + 6) 0) 4 ∧ vp_in (I10 (a0 + 6) 0) 4 ∧ ∀ I13, I13 = upI I10 (a0 + 7) (ix (I10 (a0 + 6) 0)) ((I10 (a0 + 7) (ix (I10 (a0 + 6) 0))) + (1:Int32)) → w_X7_go_b84 K R a0 x1 Q X14 (y2_14 + (1:Int32)) I13))) ∧ (¬ x1 = 0 → w_X7_put K R a0 (I10 (a0 + 6) 0) (I10 (a0 + 6) 1) (I10 (a0 + 6) 2) (I10 (a0 + 6) 3) I10 (fun v16 I15 => w_X7_go_b84 K R a0 x1 Q X14 (y2_14 + (1:Int32)) I15))))))
def w_X7_go_b14 (K : MK) (R : MR) (a0 : Nat) (x1 : Int32) (Q : Int32 → MI → Prop) (y2_14 : Int32) (y3_14 : Int32) (I : MI) : Prop := ∀ X14 : Int32 → Int32 → MI → Prop, (∀ (y2_14 : Int32) (y3_14 : Int32) (I : MI), w_X7_go_b14_body K R a0 x1 Q X14 y2_14 y3_14 I → X14 y2_14 y3_14 I) → X14 y2_14 y3_14 I
def w_X7_go (K : MK) (R : MR) (a0 : Nat) (x1 : Int32) (I : MI) (Q : Int32 → MI → Prop) : Prop := IsModel K R a0 ∧ ∀ I20, I20 = upI I a0 8 (0:Int32) → ∀ I21, I21 = upI I20 a0 9 (0:Int32) → w_X7_go_b14 K R a0 x1 Q (0:Int32) (1:Int32) I21
def w_X7_ask_b97 (K : MK) (R : MR) (a0 : Nat) (Q : Int32 → MI → Prop) (X72 : Int32 → Int32 → MI → Prop) (y3_97 : Int32) (z0_97 : Int32) (I : MI) : Prop := X72 z0_97 (y3_97 + (1:Int32)) I
def w_X7_ask_b92 (K : MK) (R : MR) (a0 : Nat) (Q : Int32 → MI → Prop) (X72 : Int32 → Int32 → MI → Prop) (y3_92 : Int32) (I : MI) : Prop := w_X7_ask_b97 K R a0 Q X72 y3_92 (1:Int32) I
def w_X7_ask_b72_body (K : MK) (R : MR) (a0 : Nat) (Q : Int32 → MI → Prop) (X72 : Int32 → Int32 → MI → Prop) (y2_72 : Int32) (y3_72 : Int32) (I : MI) : Prop := (((4:Int32) ≤ y3_72 → ((y2_72 = 0 → IsModel K R a0 ∧ w_X7_know K R a0 I (fun I2 => w_X7_go K R a0 (1:Int32) I2 (fun v4 I3 => Q v4 I3))) ∧ (¬ y2_72 = 0 → Q (-3:Int32) I))) ∧ (¬ (4:Int32) ≤ y3_72 → ((¬ y2_72 = 0 → w_X7_ask_b92 K R a0 Q X72 y3_72 I) ∧ (y2_72 = 0 → IsModel K R a0 ∧ vp_in y3_72 4 ∧ (((I (a0 + 7) (ix y3_72)) ≤ (6:Int32) → w_X7_ask_b97 K R a0 Q X72 y3_72 (0:Int32) I) ∧ (¬ (I (a0 + 7) (ix y3_72)) ≤ (6:Int32) → w_X7_ask_b92 K R a0 Q X72 y3_72 I))))))
def w_X7_ask_b72 (K : MK) (R : MR) (a0 : Nat) (Q : Int32 → MI → Prop) (y2_72 : Int32) (y3_72 : Int32) (I : MI) : Prop := ∀ X72 : Int32 → Int32 → MI → Prop, (∀ (y2_72 : Int32) (y3_72 : Int32) (I : MI), w_X7_ask_b72_body K R a0 Q X72 y2_72 y3_72 I → X72 y2_72 y3_72 I) → X72 y2_72 y3_72 I
def w_X7_ask_b69 (K : MK) (R : MR) (a0 : Nat) (Q : Int32 → MI → Prop) (z0_69 : Int32) (I : MI) : Prop := w_X7_ask_b72 K R a0 Q z0_69 (0:Int32) I
def w_X7_ask_b2_body (K : MK) (R : MR) (a0 : Nat) (Q : Int32 → MI → Prop) (X2 : Int32 → MI → Prop) (y1_2 : Int32) (I : MI) : Prop := (((4:Int32) ≤ y1_2 → IsModel K R a0 ∧ w_X7_go K R a0 (0:Int32) I (fun v13 I12 => (((I12 a0 9) = 0 → ((((I12 (a0 + 1) 4) + v13) ≤ (200:Int32) → w_X7_ask_b69 K R a0 Q (0:Int32) I12) ∧ (¬ ((I12 (a0 + 1) 4) + v13) ≤ (200:Int32) → w_X7_ask_b69 K R a0 Q (1:Int32) I12))) ∧ (¬ (I12 a0 9) = 0 → Q ((-100:Int32) - (I12 a0 8)) I12)))) ∧ (¬ (4:Int32) ≤ y1_2 → IsModel K R a0 ∧ w_X7_ofMaster K R y1_2 (0:Int32) I (fun v18 I17 => vp_in v18 2361 ∧ vp_in y1_2 4 ∧ ∀ I21, I21 = upI I17 (a0 + 7) (ix y1_2) (I17 (a0 + 1) (ix v18)) → X2 (y1_2 + (1:Int32)) I21)))
def w_X7_ask_b2 (K : MK) (R : MR) (a0 : Nat) (Q : Int32 → MI → Prop) (y1_2 : Int32) (I : MI) : Prop := ∀ X2 : Int32 → MI → Prop, (∀ (y1_2 : Int32) (I : MI), w_X7_ask_b2_body K R a0 Q X2 y1_2 I → X2 y1_2 I) → X2 y1_2 I
def w_X7_ask (K : MK) (R : MR) (a0 : Nat) (I : MI) (Q : Int32 → MI → Prop) : Prop := w_X7_ask_b2 K R a0 Q (0:Int32) I
def w_X7_type (K : MK) (R : MR) (a0 : Nat) (x1 : Int32) (I : MI) (Q : Int32 → MI → Prop) : Prop := IsModel K R a0 ∧ ((¬ (I a0 7) = (60:Int32) → vp_in (I a0 7) 60 ∧ ∀ I3, I3 = upI I (a0 + 5) (ix (I a0 7)) x1 → ∀ I4, I4 = upI I3 a0 7 ((I3 a0 7) + (1:Int32)) → Q (I4 a0 7) I4) ∧ ((I a0 7) = (60:Int32) → Q (-3:Int32) I))
def w_X7_clearText (K : MK) (R : MR) (a0 : Nat) (I : MI) (Q : Int32 → MI → Prop) : Prop := IsModel K R a0 ∧ ∀ I2, I2 = upI I a0 7 (0:Int32) → Q (I a0 7) I2
def w_X7_freeTag_b2_body (K : MK) (R : MR) (a0 : Nat) (Q : Int32 → MI → Prop) (X2 : Int32 → MI → Prop) (y1_2 : Int32) (I : MI) : Prop := IsModel K R a0 ∧ (((I (a0 + 1) 1) ≤ y1_2 → Q (-5:Int32) I) ∧ (¬ (I (a0 + 1) 1) ≤ y1_2 → vp_in ((13:Int32) + y1_2) 2361 ∧ ((¬ (I (a0 + 1) (ix ((13:Int32) + y1_2))) = (-5:Int32) → X2 (y1_2 + (1:Int32)) I) ∧ ((I (a0 + 1) (ix ((13:Int32) + y1_2))) = (-5:Int32) → Q y1_2 I))))
def w_X7_freeTag_b2 (K : MK) (R : MR) (a0 : Nat) (Q : Int32 → MI → Prop) (y1_2 : Int32) (I : MI) : Prop := ∀ X2 : Int32 → MI → Prop, (∀ (y1_2 : Int32) (I : MI), w_X7_freeTag_b2_body K R a0 Q X2 y1_2 I → X2 y1_2 I) → X2 y1_2 I
def w_X7_freeTag (K : MK) (R : MR) (a0 : Nat) (I : MI) (Q : Int32 → MI → Prop) : Prop := w_X7_freeTag_b2 K R a0 Q (0:Int32) I
def w_X7_holds_b56 (K : MK) (R : MR) (a0 : Nat) (x1 : Int32) (Q : Int32 → MI → Prop) (X4 : Int32 → Int32 → MI → Prop) (y3_56 : Int32) (z0_56 : Int32) (z1_56 : Int32) (I : MI) : Prop := X4 (z1_56 + z0_56) (y3_56 + (1:Int32)) I
def w_X7_holds_b55 (K : MK) (R : MR) (a0 : Nat) (x1 : Int32) (Q : Int32 → MI → Prop) (X4 : Int32 → Int32 → MI → Prop) (y3_55 : Int32) (z0_55 : Int32) (I : MI) : Prop := w_X7_holds_b56 K R a0 x1 Q X4 y3_55 (0:Int32) z0_55 I
def w_X7_holds_b4_body (K : MK) (R : MR) (a0 : Nat) (x1 : Int32) (Q : Int32 → MI → Prop) (X4 : Int32 → Int32 → MI → Prop) (y2_4 : Int32) (y3_4 : Int32) (I : MI) : Prop := IsModel K R a0 ∧ (((I (a0 + 1) 1) ≤ y3_4 → Q y2_4 I) ∧ (¬ (I (a0 + 1) 1) ≤ y3_4 → vp_in ((13:Int32) + y3_4) 2361 ∧ (((I (a0 + 1) (ix ((13:Int32) + y3_4))) = (-5:Int32) → w_X7_holds_b55 K R a0 x1 Q X4 y3_4 y2_4 I) ∧ (¬ (I (a0 + 1) (ix ((13:Int32) + y3_4))) = (-5:Int32) → vp_in ((13:Int32) + y3_4) 2361 ∧ w_X7_of K R (I (a0 + 1) (ix ((13:Int32) + y3_4))) (0:Int32) I (fun v5 I4 => vp_in v5 2361 ∧ ((¬ (I4 (a0 + 1) (ix v5)) = x1 → w_X7_holds_b55 K R a0 x1 Q X4 y3_4 y2_4 I4) ∧ ((I4 (a0 + 1) (ix v5)) = x1 → w_X7_holds_b56 K R a0 x1 Q X4 y3_4 (1:Int32) y2_4 I4)))))))
def w_X7_holds_b4 (K : MK) (R : MR) (a0 : Nat) (x1 : Int32) (Q : Int32 → MI → Prop) (y2_4 : Int32) (y3_4 : Int32) (I : MI) : Prop := ∀ X4 : Int32 → Int32 → MI → Prop, (∀ (y2_4 : Int32) (y3_4 : Int32) (I : MI), w_X7_holds_b4_body K R a0 x1 Q X4 y2_4 y3_4 I → X4 y2_4 y3_4 I) → X4 y2_4 y3_4 I
def w_X7_holds (K : MK) (R : MR) (a0 : Nat) (x1 : Int32) (I : MI) (Q : Int32 → MI → Prop) : Prop := w_X7_holds_b4 K R a0 x1 Q (0:Int32) (0:Int32) I
def w_X7_doAll_b159 (K : MK) (R : MR) (a0 : Nat) (Q : MI → Prop) (X2 : Int32 → MI → Prop) (X9 : Int32 → Int32 → MI → Prop) (y1_159 : Int32) (y2_159 : Int32) (I : MI) : Prop := X9 y1_159 (y2_159 + (1:Int32)) I
def w_X7_doAll_b147 (K : MK) (R : MR) (a0 : Nat) (Q : MI → Prop) (X2 : Int32 → MI → Prop) (X9 : Int32 → Int32 → MI → Prop) (y1_147 : Int32) (y2_147 : Int32) (y3_147 : Int32) (z0_147 : Int32) (z1_147 : Int32) (I : MI) : Prop := IsModel K R a0 ∧ vp_in z1_147 2361 ∧ ∀ I3, I3 = upI I (a0 + 1) (ix z1_147) z0_147 → w_X7_of K R y3_147 (4:Int32) I3 (fun v5 I4 => vp_in v5 2361 ∧ ∀ I7, I7 = upI I4 (a0 + 1) (ix v5) (2:Int32) → w_X7_doAll_b159 K R a0 Q X2 X9 y1_147 y2_147 I7)
def w_X7_doAll_b9_body (K : MK) (R : MR) (a0 : Nat) (Q : MI → Prop) (X2 : Int32 → MI → Prop) (X9 : Int32 → Int32 → MI → Prop) (y1_9 : Int32) (y2_9 : Int32) (I : MI) : Prop := IsModel K R a0 ∧ w_X7_ofTarget K R y1_9 (19:Int32) I (fun v10 I9 => vp_in v10 2361 ∧ (((I9 (a0 + 1) (ix v10)) ≤ y2_9 → X2 (y1_9 + (1:Int32)) I9) ∧ (¬ (I9 (a0 + 1) (ix v10)) ≤ y2_9 → w_X7_ofTarget K R y1_9 ((20:Int32) + y2_9) I9 (fun v13 I12 => vp_in v13 2361 ∧ w_X7_of K R (I12 (a0 + 1) (ix v13)) (4:Int32) I12 (fun v16 I15 => vp_in v16 2361 ∧ ((¬ (I15 (a0 + 1) (ix v16)) = (1:Int32) → w_X7_doAll_b159 K R a0 Q X2 X9 y1_9 y2_9 I15) ∧ ((I15 (a0 + 1) (ix v16)) = (1:Int32) → w_X7_of K R (I12 (a0 + 1) (ix v13)) (10:Int32) I15 (fun v19 I18 => vp_in v19 2361 ∧ ((¬ (I18 (a0 + 1) (ix v19)) = (I18 (a0 + 1) 0) → w_X7_doAll_b159 K R a0 Q X2 X9 y1_9 y2_9 I18) ∧ ((I18 (a0 + 1) (ix v19)) = (I18 (a0 + 1) 0) → w_X7_of K R (I12 (a0 + 1) (ix v13)) (2:Int32) I18 (fun v22 I21 => vp_in v22 2361 ∧ w_X7_ofTarget K R y1_9 (I21 (a0 + 1) (ix v22)) I21 (fun v25 I24 => w_X7_of K R (I12 (a0 + 1) (ix v13)) (6:Int32) I24 (fun v27 I26 => vp_in v25 2361 ∧ vp_in v27 2361 ∧ ∀ I30, I30 = upI I26 (a0 + 1) (ix v27) (I26 (a0 + 1) (ix v25)) → w_X7_of K R (I12 (a0 + 1) (ix v13)) (3:Int32) I30 (fun v32 I31 => vp_in v32 2361 ∧ ((¬ (I31 (a0 + 1) (ix v32)) = (-5:Int32) → w_X7_of K R (I12 (a0 + 1) (ix v13)) (3:Int32) I31 (fun v35 I34 => vp_in v35 2361 ∧ w_X7_doAll_b147 K R a0 Q X2 X9 y1_9 y2_9 (I12 (a0 + 1) (ix v13)) (I34 (a0 + 1) (ix v35)) v25 I34)) ∧ ((I31 (a0 + 1) (ix v32)) = (-5:Int32) → vp_in v25 2361 ∧ w_X7_doAll_b147 K R a0 Q X2 X9 y1_9 y2_9 (I12 (a0 + 1) (ix v13)) (I31 (a0 + 1) (ix v25)) v25 I31))))))))))))))))
def w_X7_doAll_b9 (K : MK) (R : MR) (a0 : Nat) (Q : MI → Prop) (X2 : Int32 → MI → Prop) (y1_9 : Int32) (y2_9 : Int32) (I : MI) : Prop := ∀ X9 : Int32 → Int32 → MI → Prop, (∀ (y1_9 : Int32) (y2_9 : Int32) (I : MI), w_X7_doAll_b9_body K R a0 Q X2 X9 y1_9 y2_9 I → X9 y1_9 y2_9 I) → X9 y1_9 y2_9 I
def w_X7_doAll_b2_body (K : MK) (R : MR) (a0 : Nat) (Q : MI → Prop) (X2 : Int32 → MI → Prop) (y1_2 : Int32) (I : MI) : Prop := (((4:Int32) ≤ y1_2 → Q I) ∧ (¬ (4:Int32) ≤ y1_2 → w_X7_doAll_b9 K R a0 Q X2 y1_2 (0:Int32) I))
def w_X7_doAll_b2 (K : MK) (R : MR) (a0 : Nat) (Q : MI → Prop) (y1_2 : Int32) (I : MI) : Prop := ∀ X2 : Int32 → MI → Prop, (∀ (y1_2 : Int32) (I : MI), w_X7_doAll_b2_body K R a0 Q X2 y1_2 I → X2 y1_2 I) → X2 y1_2 I
def w_X7_doAll (K : MK) (R : MR) (a0 : Nat) (I : MI) (Q : MI → Prop) : Prop := w_X7_doAll_b2 K R a0 Q (0:Int32) I
def w_X7_answering_b150 (K : MK) (R : MR) (a0 : Nat) (x1 : Int32) (Q : Int32 → MI → Prop) (X51 : Int32 → Int32 → Int32 → MI → Prop) (y3_150 : Int32) (y4_150 : Int32) (z0_150 : Int32) (I : MI) : Prop := X51 z0_150 y3_150 (y4_150 + (1:Int32)) I
def w_X7_answering_b149 (K : MK) (R : MR) (a0 : Nat) (x1 : Int32) (Q : Int32 → MI → Prop) (X51 : Int32 → Int32 → Int32 → MI → Prop) (y2_149 : Int32) (y3_149 : Int32) (y4_149 : Int32) (I : MI) : Prop := w_X7_answering_b150 K R a0 x1 Q X51 y3_149 y4_149 y2_149 I
def w_X7_answering_b122 (K : MK) (R : MR) (a0 : Nat) (x1 : Int32) (Q : Int32 → MI → Prop) (X51 : Int32 → Int32 → Int32 → MI → Prop) (y2_122 : Int32) (y3_122 : Int32) (y4_122 : Int32) (y5_122 : Int32) (z0_122 : Int32) (I : MI) : Prop := IsModel K R a0 ∧ w_X7_of K R y5_122 (4:Int32) I (fun v3 I2 => vp_in v3 2361 ∧ ((¬ (I2 (a0 + 1) (ix v3)) = (2:Int32) → w_X7_answering_b149 K R a0 x1 Q X51 y2_122 y3_122 y4_122 I2) ∧ ((I2 (a0 + 1) (ix v3)) = (2:Int32) → ((z0_122 = 0 → w_X7_answering_b149 K R a0 x1 Q X51 y2_122 y3_122 y4_122 I2) ∧ (¬ z0_122 = 0 → w_X7_answering_b150 K R a0 x1 Q X51 y3_122 y4_122 y4_122 I2)))))
def w_X7_answering_b117 (K : MK) (R : MR) (a0 : Nat) (x1 : Int32) (Q : Int32 → MI → Prop) (X51 : Int32 → Int32 → Int32 → MI → Prop) (y2_117 : Int32) (y3_117 : Int32) (y4_117 : Int32) (y5_117 : Int32) (I : MI) : Prop := w_X7_answering_b122 K R a0 x1 Q X51 y2_117 y3_117 y4_117 y5_117 (1:Int32) I
def w_X7_answering_b51_body (K : MK) (R : MR) (a0 : Nat) (x1 : Int32) (Q : Int32 → MI → Prop) (X51 : Int32 → Int32 → Int32 → MI → Prop) (y2_51 : Int32) (y3_51 : Int32) (y4_51 : Int32) (I : MI) : Prop := ((y3_51 ≤ y4_51 → Q y2_51 I) ∧ (¬ y3_51 ≤ y4_51 → IsModel K R a0 ∧ w_X7_ofTarget K R x1 ((20:Int32) + y4_51) I (fun v9 I8 => vp_in v9 2361 ∧ ((y2_51 = (-5:Int32) → w_X7_answering_b117 K R a0 x1 Q X51 y2_51 y3_51 y4_51 (I8 (a0 + 1) (ix v9)) I8) ∧ (¬ y2_51 = (-5:Int32) → w_X7_of K R (I8 (a0 + 1) (ix v9)) (10:Int32) I8 (fun v12 I11 => vp_in v12 2361 ∧ w_X7_ofTarget K R x1 ((20:Int32) + y2_51) I11 (fun v15 I14 => vp_in v15 2361 ∧ w_X7_of K R (I14 (a0 + 1) (ix v15)) (10:Int32) I14 (fun v18 I17 => vp_in v18 2361 ∧ (((I17 (a0 + 1) (ix v18)) ≤ (I11 (a0 + 1) (ix v12)) → w_X7_answering_b122 K R a0 x1 Q X51 y2_51 y3_51 y4_51 (I8 (a0 + 1) (ix v9)) (0:Int32) I17) ∧ (¬ (I17 (a0 + 1) (ix v18)) ≤ (I11 (a0 + 1) (ix v12)) → w_X7_answering_b117 K R a0 x1 Q X51 y2_51 y3_51 y4_51 (I8 (a0 + 1) (ix v9)) I17))))))))))
def w_X7_answering_b51 (K : MK) (R : MR) (a0 : Nat) (x1 : Int32) (Q : Int32 → MI → Prop) (y2_51 : Int32) (y3_51 : Int32) (y4_51 : Int32) (I : MI) : Prop := ∀ X51 : Int32 → Int32 → Int32 → MI → Prop, (∀ (y2_51 : Int32) (y3_51 : Int32) (y4_51 : Int32) (I : MI), w_X7_answering_b51_body K R a0 x1 Q X51 y2_51 y3_51 y4_51 I → X51 y2_51 y3_51 y4_51 I) → X51 y2_51 y3_51 y4_51 I
def w_X7_answering_b47 (K : MK) (R : MR) (a0 : Nat) (x1 : Int32) (Q : Int32 → MI → Prop) (y2_47 : Int32) (z0_47 : Int32) (I : MI) : Prop := w_X7_answering_b51 K R a0 x1 Q y2_47 z0_47 (0:Int32) I
def w_X7_answering_b36 (K : MK) (R : MR) (a0 : Nat) (x1 : Int32) (Q : Int32 → MI → Prop) (y2_36 : Int32) (I : MI) : Prop := IsModel K R a0 ∧ w_X7_ofTarget K R x1 (19:Int32) I (fun v25 I24 => vp_in v25 2361 ∧ w_X7_answering_b47 K R a0 x1 Q y2_36 (I24 (a0 + 1) (ix v25)) I24)
def w_X7_answering (K : MK) (R : MR) (a0 : Nat) (x1 : Int32) (I : MI) (Q : Int32 → MI → Prop) : Prop := IsModel K R a0 ∧ w_X7_ofTarget K R x1 (18:Int32) I (fun v29 I28 => vp_in v29 2361 ∧ ((¬ (I28 (a0 + 1) (ix v29)) = 0 → w_X7_answering_b36 K R a0 x1 Q (-5:Int32) I28) ∧ ((I28 (a0 + 1) (ix v29)) = 0 → w_X7_ofTarget K R x1 (19:Int32) I28 (fun v32 I31 => vp_in v32 2361 ∧ (((I31 (a0 + 1) (ix v32)) ≤ (1:Int32) → w_X7_answering_b36 K R a0 x1 Q (-5:Int32) I31) ∧ (¬ (I31 (a0 + 1) (ix v32)) ≤ (1:Int32) → w_X7_answering_b47 K R a0 x1 Q (-5:Int32) (1:Int32) I31))))))
def w_X7_targetThatGoes_b2_body (K : MK) (R : MR) (a0 : Nat) (Q : Int32 → MI → Prop) (X2 : Int32 → MI → Prop) (y1_2 : Int32) (I : MI) : Prop := (((4:Int32) ≤ y1_2 → Q (-5:Int32) I) ∧ (¬ (4:Int32) ≤ y1_2 → IsModel K R a0 ∧ w_X7_answering K R a0 (((I (a0 + 1) 6) + y1_2) - ((I (a0 + 1) 6) + y1_2) / (4:Int32) * (4:Int32)) I (fun v3 I2 => ((v3 = (-5:Int32) → X2 (y1_2 + (1:Int32)) I2) ∧ (¬ v3 = (-5:Int32) → Q (((I (a0 + 1) 6) + y1_2) - ((I (a0 + 1) 6) + y1_2) / (4:Int32) * (4:Int32)) I2)))))
def w_X7_targetThatGoes_b2 (K : MK) (R : MR) (a0 : Nat) (Q : Int32 → MI → Prop) (y1_2 : Int32) (I : MI) : Prop := ∀ X2 : Int32 → MI → Prop, (∀ (y1_2 : Int32) (I : MI), w_X7_targetThatGoes_b2_body K R a0 Q X2 y1_2 I → X2 y1_2 I) → X2 y1_2 I
def w_X7_targetThatGoes (K : MK) (R : MR) (a0 : Nat) (I : MI) (Q : Int32 → MI → Prop) : Prop := w_X7_targetThatGoes_b2 K R a0 Q (0:Int32) I
def w_X7_canSend_b66 (K : MK) (R : MR) (a0 : Nat) (x1 : Int32) (Q : Int32 → MI → Prop) (z0_66 : Int32) (I : MI) : Prop := bz z0_66 ∧ Q z0_66 I
def w_X7_canSend_b65 (K : MK) (R : MR) (a0 : Nat) (x1 : Int32) (Q : Int32 → MI → Prop) (I : MI) : Prop := w_X7_canSend_b66 K R a0 x1 Q (0:Int32) I
def w_X7_canSend (K : MK) (R : MR) (a0 : Nat) (x1 : Int32) (I : MI) (Q : Int32 → MI → Prop) : Prop := IsModel K R a0 ∧ w_X7_ofMaster K R x1 (0:Int32) I (fun v4 I3 => vp_in v4 2361 ∧ (((I3 (a0 + 1) (ix v4)) ≤ 0 → w_X7_canSend_b65 K R a0 x1 Q I3) ∧ (¬ (I3 (a0 + 1) (ix v4)) ≤ 0 → w_X7_ofMaster K R x1 (9:Int32) I3 (fun v7 I6 => vp_in v7 2361 ∧ (((I3 (a0 + 1) 0) < (I6 (a0 + 1) (ix v7)) → w_X7_canSend_b65 K R a0 x1 Q I6) ∧ (¬ (I3 (a0 + 1) 0) < (I6 (a0 + 1) (ix v7)) → w_X7_freeTag K R a0 I6 (fun v10 I9 => ((v10 = (-5:Int32) → w_X7_canSend_b65 K R a0 x1 Q I9) ∧ (¬ v10 = (-5:Int32) → w_X7_holds K R a0 x1 I9 (fun v12 I11 => w_X7_ofMaster K R x1 (7:Int32) I11 (fun v14 I13 => vp_in v14 2361 ∧ (((I13 (a0 + 1) (ix v14)) ≤ v12 → w_X7_canSend_b65 K R a0 x1 Q I13) ∧ (¬ (I13 (a0 + 1) (ix v14)) ≤ v12 → w_X7_canSend_b66 K R a0 x1 Q (1:Int32) I13)))))))))))))
def w_X7_masterThatGoes_b66 (K : MK) (R : MR) (a0 : Nat) (Q : Int32 → MI → Prop) (X5 : Int32 → Int32 → MI → Prop) (y2_66 : Int32) (z0_66 : Int32) (I : MI) : Prop := X5 z0_66 (y2_66 + (1:Int32)) I
def w_X7_masterThatGoes_b61 (K : MK) (R : MR) (a0 : Nat) (Q : Int32 → MI → Prop) (X5 : Int32 → Int32 → MI → Prop) (y2_61 : Int32) (I : MI) : Prop := w_X7_masterThatGoes_b66 K R a0 Q X5 y2_61 y2_61 I
def w_X7_masterThatGoes_b65 (K : MK) (R : MR) (a0 : Nat) (Q : Int32 → MI → Prop) (X5 : Int32 → Int32 → MI → Prop) (y1_65 : Int32) (y2_65 : Int32) (I : MI) : Prop := w_X7_masterThatGoes_b66 K R a0 Q X5 y2_65 y1_65 I
def w_X7_masterThatGoes_b111 (K : MK) (R : MR) (a0 : Nat) (Q : Int32 → MI → Prop) (X75 : Int32 → Int32 → MI → Prop) (y2_111 : Int32) (z0_111 : Int32) (I : MI) : Prop := X75 z0_111 (y2_111 + (1:Int32)) I
def w_X7_masterThatGoes_b118 (K : MK) (R : MR) (a0 : Nat) (Q : Int32 → MI → Prop) (y1_118 : Int32) (I : MI) : Prop := Q y1_118 I
def w_X7_masterThatGoes_b75_body (K : MK) (R : MR) (a0 : Nat) (Q : Int32 → MI → Prop) (X75 : Int32 → Int32 → MI → Prop) (y1_75 : Int32) (y2_75 : Int32) (I : MI) : Prop := (((4:Int32) ≤ y2_75 → w_X7_masterThatGoes_b118 K R a0 Q y1_75 I) ∧ (¬ (4:Int32) ≤ y2_75 → ((¬ y1_75 = (-5:Int32) → w_X7_masterThatGoes_b118 K R a0 Q y1_75 I) ∧ (y1_75 = (-5:Int32) → IsModel K R a0 ∧ w_X7_canSend K R a0 (((I (a0 + 1) 7) + y2_75) - ((I (a0 + 1) 7) + y2_75) / (4:Int32) * (4:Int32)) I (fun v3 I2 => ((v3 = 0 → w_X7_masterThatGoes_b111 K R a0 Q X75 y2_75 y1_75 I2) ∧ (¬ v3 = 0 → w_X7_masterThatGoes_b111 K R a0 Q X75 y2_75 (((I (a0 + 1) 7) + y2_75) - ((I (a0 + 1) 7) + y2_75) / (4:Int32) * (4:Int32)) I2)))))))
def w_X7_masterThatGoes_b75 (K : MK) (R : MR) (a0 : Nat) (Q : Int32 → MI → Prop) (y1_75 : Int32) (y2_75 : Int32) (I : MI) : Prop := ∀ X75 : Int32 → Int32 → MI → Prop, (∀ (y1_75 : Int32) (y2_75 : Int32) (I : MI), w_X7_masterThatGoes_b75_body K R a0 Q X75 y1_75 y2_75 I → X75 y1_75 y2_75 I) → X75 y1_75 y2_75 I
def w_X7_masterThatGoes_b5_body (K : MK) (R : MR) (a0 : Nat) (Q : Int32 → MI → Prop) (X5 : Int32 → Int32 → MI → Prop) (y1_5 : Int32) (y2_5 : Int32) (I : MI) : Prop := (((4:Int32) ≤ y2_5 → w_X7_masterThatGoes_b75 K R a0 Q y1_5 (0:Int32) I) ∧ (¬ (4:Int32) ≤ y2_5 → IsModel K R a0 ∧ w_X7_ofMaster K R y2_5 (10:Int32) I (fun v9 I8 => vp_in v9 2361 ∧ w_X7_canSend K R a0 y2_5 I8 (fun v12 I11 => ((v12 = 0 → w_X7_masterThatGoes_b65 K R a0 Q X5 y1_5 y2_5 I11) ∧ (¬ v12 = 0 → (((I8 (a0 + 1) (ix v9)) < (I11 (a0 + 1) 3) → w_X7_masterThatGoes_b65 K R a0 Q X5 y1_5 y2_5 I11) ∧ (¬ (I8 (a0 + 1) (ix v9)) < (I11 (a0 + 1) 3) → ((y1_5 = (-5:Int32) → w_X7_masterThatGoes_b61 K R a0 Q X5 y2_5 I11) ∧ (¬ y1_5 = (-5:Int32) → w_X7_ofMaster K R y1_5 (10:Int32) I11 (fun v14 I13 => vp_in v14 2361 ∧ (((I8 (a0 + 1) (ix v9)) ≤ (I13 (a0 + 1) (ix v14)) → w_X7_masterThatGoes_b65 K R a0 Q X5 y1_5 y2_5 I13) ∧ (¬ (I8 (a0 + 1) (ix v9)) ≤ (I13 (a0 + 1) (ix v14)) → w_X7_masterThatGoes_b61 K R a0 Q X5 y2_5 I13)))))))))))))
def w_X7_masterThatGoes_b5 (K : MK) (R : MR) (a0 : Nat) (Q : Int32 → MI → Prop) (y1_5 : Int32) (y2_5 : Int32) (I : MI) : Prop := ∀ X5 : Int32 → Int32 → MI → Prop, (∀ (y1_5 : Int32) (y2_5 : Int32) (I : MI), w_X7_masterThatGoes_b5_body K R a0 Q X5 y1_5 y2_5 I → X5 y1_5 y2_5 I) → X5 y1_5 y2_5 I
def w_X7_masterThatGoes (K : MK) (R : MR) (a0 : Nat) (I : MI) (Q : Int32 → MI → Prop) : Prop := w_X7_masterThatGoes_b5 K R a0 Q (-5:Int32) (0:Int32) I
def w_X7_answers_b77_body (K : MK) (R : MR) (a0 : Nat) (x1 : Int32) (Q : Int32 → MI → Prop) (X77 : Int32 → Int32 → MI → Prop) (y3_77 : Int32) (y4_77 : Int32) (I : MI) : Prop := IsModel K R a0 ∧ w_X7_ofTarget K R x1 (19:Int32) I (fun v3 I2 => vp_in v3 2361 ∧ (((I2 (a0 + 1) (ix v3)) ≤ (y4_77 + (1:Int32)) → w_X7_ofTarget K R x1 (19:Int32) I2 (fun v6 I5 => vp_in v6 2361 ∧ vp_in v6 2361 ∧ ∀ I9, I9 = upI I5 (a0 + 1) (ix v6) ((I5 (a0 + 1) (ix v6)) - (1:Int32)) → w_X7_of K R y3_77 (5:Int32) I9 (fun v11 I10 => vp_in v11 2361 ∧ vp_in ((13:Int32) + (I10 (a0 + 1) (ix v11))) 2361 ∧ ∀ I14, I14 = upI I10 (a0 + 1) (ix ((13:Int32) + (I10 (a0 + 1) (ix v11)))) (-5:Int32) → w_X7_of K R y3_77 (5:Int32) I14 (fun v16 I15 => vp_in v16 2361 ∧ ∀ I18, I18 = upI I15 (a0 + 1) (ix v16) (-5:Int32) → w_X7_of K R y3_77 (4:Int32) I18 (fun v20 I19 => vp_in v20 2361 ∧ ∀ I22, I22 = upI I19 (a0 + 1) (ix v20) (3:Int32) → w_X7_of K R y3_77 (8:Int32) I22 (fun v24 I23 => w_X7_of K R y3_77 (7:Int32) I23 (fun v26 I25 => vp_in v26 2361 ∧ vp_in v24 2361 ∧ ∀ I29, I29 = upI I25 (a0 + 1) (ix v24) ((I23 (a0 + 1) 0) - (I25 (a0 + 1) (ix v26))) → Q (1:Int32) I29))))))) ∧ (¬ (I2 (a0 + 1) (ix v3)) ≤ (y4_77 + (1:Int32)) → w_X7_ofTarget K R x1 ((20:Int32) + y4_77) I2 (fun v31 I30 => w_X7_ofTarget K R x1 (((20:Int32) + y4_77) + (1:Int32)) I30 (fun v33 I32 => vp_in v33 2361 ∧ vp_in v31 2361 ∧ ∀ I36, I36 = upI I32 (a0 + 1) (ix v31) (I32 (a0 + 1) (ix v33)) → X77 y3_77 (y4_77 + (1:Int32)) I36)))))
def w_X7_answers_b77 (K : MK) (R : MR) (a0 : Nat) (x1 : Int32) (Q : Int32 → MI → Prop) (y3_77 : Int32) (y4_77 : Int32) (I : MI) : Prop := ∀ X77 : Int32 → Int32 → MI → Prop, (∀ (y3_77 : Int32) (y4_77 : Int32) (I : MI), w_X7_answers_b77_body K R a0 x1 Q X77 y3_77 y4_77 I → X77 y3_77 y4_77 I) → X77 y3_77 y4_77 I
def w_X7_answers_b72 (K : MK) (R : MR) (a0 : Nat) (x1 : Int32) (Q : Int32 → MI → Prop) (y2_72 : Int32) (y3_72 : Int32) (z0_72 : Int32) (z1_72 : Int32) (z2_72 : Int32) (I : MI) : Prop := IsModel K R a0 ∧ vp_in z2_72 2361 ∧ ∀ I40, I40 = upI I (a0 + 1) (ix z2_72) (z1_72 + z0_72) → w_X7_answers_b77 K R a0 x1 Q y3_72 y2_72 I40
def w_X7_answers (K : MK) (R : MR) (a0 : Nat) (x1 : Int32) (I : MI) (Q : Int32 → MI → Prop) : Prop := IsModel K R a0 ∧ w_X7_answering K R a0 x1 I (fun v43 I42 => w_X7_ofTarget K R x1 ((20:Int32) + v43) I42 (fun v45 I44 => vp_in v45 2361 ∧ ∀ I47, I47 = upI I44 a0 12 (I44 (a0 + 1) (ix v45)) → ∀ I48, I48 = upI I47 (a0 + 1) 6 ((x1 + (1:Int32)) - (x1 + (1:Int32)) / (4:Int32) * (4:Int32)) → ∀ I49, I49 = upI I48 (a0 + 1) 5 (1:Int32) → ∀ I50, I50 = upI I49 (a0 + 1) 8 ((I49 (a0 + 1) 8) + (1:Int32)) → ((v43 ≤ 0 → w_X7_answers_b72 K R a0 x1 Q v43 (I44 (a0 + 1) (ix v45)) (0:Int32) (I50 (a0 + 1) 12) (12:Int32) I50) ∧ (¬ v43 ≤ 0 → w_X7_answers_b72 K R a0 x1 Q v43 (I44 (a0 + 1) (ix v45)) (1:Int32) (I50 (a0 + 1) 12) (12:Int32) I50))))
def w_X7_sends_b158 (K : MK) (R : MR) (a0 : Nat) (x1 : Int32) (Q : Int32 → MI → Prop) (z0_158 : Int32) (z1_158 : Int32) (z2_158 : Int32) (I : MI) : Prop := IsModel K R a0 ∧ vp_in z2_158 2361 ∧ ∀ I3, I3 = upI I (a0 + 1) (ix z2_158) (z1_158 + z0_158) → Q (2:Int32) I3
def w_X7_sends_b171_body (K : MK) (R : MR) (a0 : Nat) (x1 : Int32) (Q : Int32 → MI → Prop) (X171 : Int32 → Int32 → Int32 → Int32 → MI → Prop) (y2_171 : Int32) (y3_171 : Int32) (y4_171 : Int32) (y5_171 : Int32) (I : MI) : Prop := IsModel K R a0 ∧ w_X7_ofMaster K R x1 (0:Int32) I (fun v6 I5 => vp_in v6 2361 ∧ (((I5 (a0 + 1) (ix v6)) ≤ (y5_171 + (1:Int32)) → w_X7_ofMaster K R x1 (0:Int32) I5 (fun v9 I8 => vp_in v9 2361 ∧ vp_in v9 2361 ∧ ∀ I12, I12 = upI I8 (a0 + 1) (ix v9) ((I8 (a0 + 1) (ix v9)) - (1:Int32)) → w_X7_ofMaster K R x1 (8:Int32) I12 (fun v14 I13 => vp_in v14 2361 ∧ ∀ I16, I16 = upI I13 (a0 + 1) (ix v14) (0:Int32) → vp_in ((13:Int32) + y4_171) 2361 ∧ ∀ I18, I18 = upI I16 (a0 + 1) (ix ((13:Int32) + y4_171)) y2_171 → w_X7_of K R y2_171 (5:Int32) I18 (fun v20 I19 => vp_in v20 2361 ∧ ∀ I22, I22 = upI I19 (a0 + 1) (ix v20) y4_171 → w_X7_of K R y2_171 (4:Int32) I22 (fun v24 I23 => vp_in v24 2361 ∧ ∀ I26, I26 = upI I23 (a0 + 1) (ix v24) (1:Int32) → w_X7_of K R y2_171 (10:Int32) I26 (fun v28 I27 => w_X7_ofTarget K R y3_171 (17:Int32) I27 (fun v30 I29 => vp_in v30 2361 ∧ w_X7_of K R y2_171 (2:Int32) I29 (fun v33 I32 => vp_in v33 2361 ∧ vp_in v28 2361 ∧ ∀ I36, I36 = upI I32 (a0 + 1) (ix v28) (((I27 (a0 + 1) 0) + (I29 (a0 + 1) (ix v30))) + ((I32 (a0 + 1) (ix v33)) - (I32 (a0 + 1) (ix v33)) / (4:Int32) * (4:Int32))) → w_X7_ofTarget K R y3_171 (19:Int32) I36 (fun v38 I37 => vp_in v38 2361 ∧ w_X7_ofTarget K R y3_171 ((20:Int32) + (I37 (a0 + 1) (ix v38))) I37 (fun v41 I40 => vp_in v41 2361 ∧ ∀ I43, I43 = upI I40 (a0 + 1) (ix v41) y2_171 → w_X7_ofTarget K R y3_171 (19:Int32) I43 (fun v45 I44 => vp_in v45 2361 ∧ vp_in v45 2361 ∧ ∀ I48, I48 = upI I44 (a0 + 1) (ix v45) ((I44 (a0 + 1) (ix v45)) + (1:Int32)) → ∀ I49, I49 = upI I48 (a0 + 1) 9 ((I48 (a0 + 1) 9) + (1:Int32)) → Q (0:Int32) I49))))))))))) ∧ (¬ (I5 (a0 + 1) (ix v6)) ≤ (y5_171 + (1:Int32)) → w_X7_ofMaster K R x1 ((1:Int32) + y5_171) I5 (fun v51 I50 => w_X7_ofMaster K R x1 (((1:Int32) + y5_171) + (1:Int32)) I50 (fun v53 I52 => vp_in v53 2361 ∧ vp_in v51 2361 ∧ ∀ I56, I56 = upI I52 (a0 + 1) (ix v51) (I52 (a0 + 1) (ix v53)) → X171 y2_171 y3_171 y4_171 (y5_171 + (1:Int32)) I56)))))
def w_X7_sends_b171 (K : MK) (R : MR) (a0 : Nat) (x1 : Int32) (Q : Int32 → MI → Prop) (y2_171 : Int32) (y3_171 : Int32) (y4_171 : Int32) (y5_171 : Int32) (I : MI) : Prop := ∀ X171 : Int32 → Int32 → Int32 → Int32 → MI → Prop, (∀ (y2_171 : Int32) (y3_171 : Int32) (y4_171 : Int32) (y5_171 : Int32) (I : MI), w_X7_sends_b171_body K R a0 x1 Q X171 y2_171 y3_171 y4_171 y5_171 I → X171 y2_171 y3_171 y4_171 y5_171 I) → X171 y2_171 y3_171 y4_171 y5_171 I
def w_X7_sends (K : MK) (R : MR) (a0 : Nat) (x1 : Int32) (I : MI) (Q : Int32 → MI → Prop) : Prop := IsModel K R a0 ∧ w_X7_ofMaster K R x1 (1:Int32) I (fun v60 I59 => vp_in v60 2361 ∧ w_X7_of K R (I59 (a0 + 1) (ix v60)) (1:Int32) I59 (fun v63 I62 => vp_in v63 2361 ∧ ∀ I65, I65 = upI I62 a0 12 (I59 (a0 + 1) (ix v60)) → ∀ I66, I66 = upI I65 (a0 + 1) 7 ((x1 + (1:Int32)) - (x1 + (1:Int32)) / (4:Int32) * (4:Int32)) → ∀ I67, I67 = upI I66 (a0 + 1) 5 (0:Int32) → w_X7_ofTarget K R (I62 (a0 + 1) (ix v63)) (19:Int32) I67 (fun v69 I68 => vp_in v69 2361 ∧ w_X7_ofTarget K R (I62 (a0 + 1) (ix v63)) (16:Int32) I68 (fun v72 I71 => vp_in v72 2361 ∧ (((I68 (a0 + 1) (ix v69)) < (I71 (a0 + 1) (ix v72)) → w_X7_freeTag K R a0 I71 (fun v75 I74 => w_X7_sends_b171 K R a0 x1 Q (I59 (a0 + 1) (ix v60)) (I62 (a0 + 1) (ix v63)) v75 (0:Int32) I74)) ∧ (¬ (I68 (a0 + 1) (ix v69)) < (I71 (a0 + 1) (ix v72)) → w_X7_ofMaster K R x1 (8:Int32) I71 (fun v77 I76 => vp_in v77 2361 ∧ vp_in v77 2361 ∧ ∀ I80, I80 = upI I76 (a0 + 1) (ix v77) ((I76 (a0 + 1) (ix v77)) + (1:Int32)) → w_X7_of K R (I59 (a0 + 1) (ix v60)) (9:Int32) I80 (fun v82 I81 => vp_in v82 2361 ∧ vp_in v82 2361 ∧ ∀ I85, I85 = upI I81 (a0 + 1) (ix v82) ((I81 (a0 + 1) (ix v82)) + (1:Int32)) → ∀ I86, I86 = upI I85 (a0 + 1) 10 ((I85 (a0 + 1) 10) + (1:Int32)) → w_X7_ofMaster K R x1 (8:Int32) I86 (fun v88 I87 => vp_in v88 2361 ∧ w_X7_ofMaster K R x1 (9:Int32) I87 (fun v91 I90 => (((I87 (a0 + 1) (ix v88)) ≤ (3:Int32) → w_X7_sends_b158 K R a0 x1 Q ((1:Int32) <<< ((I87 (a0 + 1) (ix v88)) &&& 31)) ((I90 (a0 + 1) 0) + (1:Int32)) v91 I90) ∧ (¬ (I87 (a0 + 1) (ix v88)) ≤ (3:Int32) → w_X7_sends_b158 K R a0 x1 Q (16:Int32) ((I90 (a0 + 1) 0) + (1:Int32)) v91 I90))))))))))))
def w_X7_tick_b205 (K : MK) (R : MR) (a0 : Nat) (Q : Int32 → MI → Prop) (X133 : Int32 → Int32 → Int32 → MI → Prop) (y2_205 : Int32) (y5_205 : Int32) (y6_205 : Int32) (z0_205 : Int32) (z1_205 : Int32) (I : MI) : Prop := IsModel K R a0 ∧ vp_in z1_205 2361 ∧ ∀ I3, I3 = upI I (a0 + 1) (ix z1_205) z0_205 → X133 y2_205 y5_205 (y6_205 + (1:Int32)) I3
def w_X7_tick_b169 (K : MK) (R : MR) (a0 : Nat) (Q : Int32 → MI → Prop) (X133 : Int32 → Int32 → Int32 → MI → Prop) (y2_169 : Int32) (y5_169 : Int32) (y6_169 : Int32) (z0_169 : Int32) (I : MI) : Prop := IsModel K R a0 ∧ w_X7_ofMaster K R y6_169 (10:Int32) I (fun v6 I5 => ((z0_169 = 0 → w_X7_ofMaster K R y6_169 (10:Int32) I5 (fun v8 I7 => vp_in v8 2361 ∧ w_X7_tick_b205 K R a0 Q X133 y2_169 y5_169 y6_169 ((I7 (a0 + 1) (ix v8)) + (1:Int32)) v6 I7)) ∧ (¬ z0_169 = 0 → w_X7_tick_b205 K R a0 Q X133 y2_169 y5_169 y6_169 (0:Int32) v6 I5)))
def w_X7_tick_b164 (K : MK) (R : MR) (a0 : Nat) (Q : Int32 → MI → Prop) (X133 : Int32 → Int32 → Int32 → MI → Prop) (y2_164 : Int32) (y5_164 : Int32) (y6_164 : Int32) (I : MI) : Prop := w_X7_tick_b169 K R a0 Q X133 y2_164 y5_164 y6_164 (1:Int32) I
def w_X7_tick_b168 (K : MK) (R : MR) (a0 : Nat) (Q : Int32 → MI → Prop) (X133 : Int32 → Int32 → Int32 → MI → Prop) (y2_168 : Int32) (y5_168 : Int32) (y6_168 : Int32) (I : MI) : Prop := w_X7_tick_b169 K R a0 Q X133 y2_168 y5_168 y6_168 (0:Int32) I
def w_X7_tick_b133_body (K : MK) (R : MR) (a0 : Nat) (Q : Int32 → MI → Prop) (X133 : Int32 → Int32 → Int32 → MI → Prop) (y2_133 : Int32) (y5_133 : Int32) (y6_133 : Int32) (I : MI) : Prop := (((4:Int32) ≤ y6_133 → IsModel K R a0 ∧ ∀ I12, I12 = upI I (a0 + 1) 0 ((I (a0 + 1) 0) + (1:Int32)) → Q y5_133 I12) ∧ (¬ (4:Int32) ≤ y6_133 → IsModel K R a0 ∧ w_X7_ofMaster K R y6_133 (0:Int32) I (fun v15 I14 => vp_in v15 2361 ∧ (((I14 (a0 + 1) (ix v15)) = 0 → w_X7_tick_b164 K R a0 Q X133 y2_133 y5_133 y6_133 I14) ∧ (¬ (I14 (a0 + 1) (ix v15)) = 0 → ((¬ y5_133 = 0 → w_X7_tick_b168 K R a0 Q X133 y2_133 y5_133 y6_133 I14) ∧ (y5_133 = 0 → ((¬ y6_133 = y2_133 → w_X7_tick_b168 K R a0 Q X133 y2_133 y5_133 y6_133 I14) ∧ (y6_133 = y2_133 → w_X7_tick_b164 K R a0 Q X133 y2_133 y5_133 y6_133 I14)))))))))
def w_X7_tick_b133 (K : MK) (R : MR) (a0 : Nat) (Q : Int32 → MI → Prop) (y2_133 : Int32) (y5_133 : Int32) (y6_133 : Int32) (I : MI) : Prop := ∀ X133 : Int32 → Int32 → Int32 → MI → Prop, (∀ (y2_133 : Int32) (y5_133 : Int32) (y6_133 : Int32) (I : MI), w_X7_tick_b133_body K R a0 Q X133 y2_133 y5_133 y6_133 I → X133 y2_133 y5_133 y6_133 I) → X133 y2_133 y5_133 y6_133 I
def w_X7_tick_b128 (K : MK) (R : MR) (a0 : Nat) (Q : Int32 → MI → Prop) (y2_128 : Int32) (y5_128 : Int32) (z0_128 : Int32) (z1_128 : Int32) (z2_128 : Int32) (I : MI) : Prop := IsModel K R a0 ∧ vp_in z2_128 2361 ∧ ∀ I23, I23 = upI I (a0 + 1) (ix z2_128) (z1_128 + z0_128) → w_X7_tick_b133 K R a0 Q y2_128 y5_128 (0:Int32) I23
def w_X7_tick_b106 (K : MK) (R : MR) (a0 : Nat) (Q : Int32 → MI → Prop) (y2_106 : Int32) (z0_106 : Int32) (I : MI) : Prop := IsModel K R a0 ∧ ((¬ z0_106 = (-5:Int32) → w_X7_tick_b128 K R a0 Q y2_106 z0_106 (0:Int32) (I (a0 + 1) 11) (11:Int32) I) ∧ (z0_106 = (-5:Int32) → w_X7_tick_b128 K R a0 Q y2_106 z0_106 (1:Int32) (I (a0 + 1) 11) (11:Int32) I))
def w_X7_tick_b69 (K : MK) (R : MR) (a0 : Nat) (Q : Int32 → MI → Prop) (y1_69 : Int32) (y2_69 : Int32) (z0_69 : Int32) (I : MI) : Prop := IsModel K R a0 ∧ ∀ I27, I27 = upI I a0 12 (-5:Int32) → ((z0_69 = 0 → ((y2_69 = (-5:Int32) → w_X7_tick_b106 K R a0 Q y2_69 (-5:Int32) I27) ∧ (¬ y2_69 = (-5:Int32) → w_X7_sends K R a0 y2_69 I27 (fun v29 I28 => w_X7_tick_b106 K R a0 Q y2_69 v29 I28)))) ∧ (¬ z0_69 = 0 → w_X7_answers K R a0 y1_69 I27 (fun v32 I31 => w_X7_tick_b106 K R a0 Q y2_69 v32 I31)))
def w_X7_tick_b64 (K : MK) (R : MR) (a0 : Nat) (Q : Int32 → MI → Prop) (y1_64 : Int32) (y2_64 : Int32) (I : MI) : Prop := w_X7_tick_b69 K R a0 Q y1_64 y2_64 (1:Int32) I
def w_X7_tick_b68 (K : MK) (R : MR) (a0 : Nat) (Q : Int32 → MI → Prop) (y1_68 : Int32) (y2_68 : Int32) (I : MI) : Prop := w_X7_tick_b69 K R a0 Q y1_68 y2_68 (0:Int32) I
def w_X7_tick_b47 (K : MK) (R : MR) (a0 : Nat) (Q : Int32 → MI → Prop) (y1_47 : Int32) (y2_47 : Int32) (z0_47 : Int32) (I : MI) : Prop := ((y1_47 = (-5:Int32) → w_X7_tick_b68 K R a0 Q y1_47 y2_47 I) ∧ (¬ y1_47 = (-5:Int32) → ((¬ z0_47 = 0 → w_X7_tick_b64 K R a0 Q y1_47 y2_47 I) ∧ (z0_47 = 0 → ((¬ y2_47 = (-5:Int32) → w_X7_tick_b68 K R a0 Q y1_47 y2_47 I) ∧ (y2_47 = (-5:Int32) → w_X7_tick_b64 K R a0 Q y1_47 y2_47 I))))))
def w_X7_tick_b42 (K : MK) (R : MR) (a0 : Nat) (Q : Int32 → MI → Prop) (y1_42 : Int32) (y2_42 : Int32) (I : MI) : Prop := w_X7_tick_b47 K R a0 Q y1_42 y2_42 (1:Int32) I
def w_X7_tick_b46 (K : MK) (R : MR) (a0 : Nat) (Q : Int32 → MI → Prop) (y1_46 : Int32) (y2_46 : Int32) (I : MI) : Prop := w_X7_tick_b47 K R a0 Q y1_46 y2_46 (0:Int32) I
def w_X7_tick (K : MK) (R : MR) (a0 : Nat) (I : MI) (Q : Int32 → MI → Prop) : Prop := IsModel K R a0 ∧ w_X7_doAll K R a0 I (fun I38 => w_X7_targetThatGoes K R a0 I38 (fun v40 I39 => w_X7_masterThatGoes K R a0 I39 (fun v42 I41 => (((I41 (a0 + 1) 2) = 0 → w_X7_tick_b42 K R a0 Q v40 v42 I41) ∧ (¬ (I41 (a0 + 1) 2) = 0 → ((¬ (I41 (a0 + 1) 2) = (2:Int32) → w_X7_tick_b46 K R a0 Q v40 v42 I41) ∧ ((I41 (a0 + 1) 2) = (2:Int32) → ((¬ (I41 (a0 + 1) 5) = 0 → w_X7_tick_b46 K R a0 Q v40 v42 I41) ∧ ((I41 (a0 + 1) 5) = 0 → w_X7_tick_b42 K R a0 Q v40 v42 I41)))))))))
def w_X7_pass_b58 (K : MK) (R : MR) (a0 : Nat) (x1 : Int32) (Q : Int32 → MI → Prop) (X38 : Int32 → Int32 → MI → Prop) (y3_58 : Int32) (z0_58 : Int32) (z1_58 : Int32) (I : MI) : Prop := X38 (z1_58 + z0_58) (y3_58 + (1:Int32)) I
def w_X7_pass_b38_body (K : MK) (R : MR) (a0 : Nat) (x1 : Int32) (Q : Int32 → MI → Prop) (X38 : Int32 → Int32 → MI → Prop) (y2_38 : Int32) (y3_38 : Int32) (I : MI) : Prop := ((x1 ≤ y3_38 → Q y2_38 I) ∧ (¬ x1 ≤ y3_38 → IsModel K R a0 ∧ w_X7_tick K R a0 I (fun v3 I2 => ((¬ v3 = (-5:Int32) → w_X7_pass_b58 K R a0 x1 Q X38 y3_38 (1:Int32) y2_38 I2) ∧ (v3 = (-5:Int32) → w_X7_pass_b58 K R a0 x1 Q X38 y3_38 (0:Int32) y2_38 I2)))))
def w_X7_pass_b38 (K : MK) (R : MR) (a0 : Nat) (x1 : Int32) (Q : Int32 → MI → Prop) (y2_38 : Int32) (y3_38 : Int32) (I : MI) : Prop := ∀ X38 : Int32 → Int32 → MI → Prop, (∀ (y2_38 : Int32) (y3_38 : Int32) (I : MI), w_X7_pass_b38_body K R a0 x1 Q X38 y2_38 y3_38 I → X38 y2_38 y3_38 I) → X38 y2_38 y3_38 I
def w_X7_pass (K : MK) (R : MR) (a0 : Nat) (x1 : Int32) (I : MI) (Q : Int32 → MI → Prop) : Prop := w_X7_in K R x1 (1:Int32) (99:Int32) I (fun v7 I6 => ((¬ v7 = 0 → IsModel K R a0 ∧ ((((I6 (a0 + 1) 0) + x1) ≤ (9999:Int32) → w_X7_know K R a0 I6 (fun I9 => w_X7_pass_b38 K R a0 x1 Q (0:Int32) (0:Int32) I9)) ∧ (¬ ((I6 (a0 + 1) 0) + x1) ≤ (9999:Int32) → Q (-3:Int32) I6))) ∧ (v7 = 0 → Q (-2:Int32) I6)))
def w_X7_undo_b22_body (K : MK) (R : MR) (a0 : Nat) (Q : Int32 → MI → Prop) (X22 : Int32 → MI → Prop) (y1_22 : Int32) (I : MI) : Prop := (((2361:Int32) ≤ y1_22 → IsModel K R a0 ∧ Q (I a0 3) I) ∧ (¬ (2361:Int32) ≤ y1_22 → IsModel K R a0 ∧ vp_in (((2361:Int32) * (I a0 3)) + y1_22) 9444 ∧ vp_in y1_22 2361 ∧ ∀ I5, I5 = upI I (a0 + 1) (ix y1_22) (I (a0 + 3) (ix (((2361:Int32) * (I a0 3)) + y1_22))) → X22 (y1_22 + (1:Int32)) I5))
def w_X7_undo_b22 (K : MK) (R : MR) (a0 : Nat) (Q : Int32 → MI → Prop) (y1_22 : Int32) (I : MI) : Prop := ∀ X22 : Int32 → MI → Prop, (∀ (y1_22 : Int32) (I : MI), w_X7_undo_b22_body K R a0 Q X22 y1_22 I → X22 y1_22 I) → X22 y1_22 I
def w_X7_undo (K : MK) (R : MR) (a0 : Nat) (I : MI) (Q : Int32 → MI → Prop) : Prop := IsModel K R a0 ∧ ((¬ (I a0 3) = 0 → ∀ I8, I8 = upI I a0 3 ((I a0 3) - (1:Int32)) → w_X7_undo_b22 K R a0 Q (0:Int32) I8) ∧ ((I a0 3) = 0 → Q (-5:Int32) I))
def w_X7_keep_b2_body (K : MK) (R : MR) (a0 : Nat) (Q : Int32 → MI → Prop) (X2 : Int32 → MI → Prop) (y1_2 : Int32) (I : MI) : Prop := (((2361:Int32) ≤ y1_2 → IsModel K R a0 ∧ ∀ I2, I2 = upI I a0 5 (1:Int32) → Q (I2 (a0 + 1) 0) I2) ∧ (¬ (2361:Int32) ≤ y1_2 → IsModel K R a0 ∧ vp_in y1_2 2361 ∧ vp_in y1_2 2361 ∧ ∀ I6, I6 = upI I (a0 + 4) (ix y1_2) (I (a0 + 1) (ix y1_2)) → X2 (y1_2 + (1:Int32)) I6))
def w_X7_keep_b2 (K : MK) (R : MR) (a0 : Nat) (Q : Int32 → MI → Prop) (y1_2 : Int32) (I : MI) : Prop := ∀ X2 : Int32 → MI → Prop, (∀ (y1_2 : Int32) (I : MI), w_X7_keep_b2_body K R a0 Q X2 y1_2 I → X2 y1_2 I) → X2 y1_2 I
def w_X7_keep (K : MK) (R : MR) (a0 : Nat) (I : MI) (Q : Int32 → MI → Prop) : Prop := w_X7_keep_b2 K R a0 Q (0:Int32) I
def w_X7_restore_b16_body (K : MK) (R : MR) (a0 : Nat) (Q : Int32 → MI → Prop) (X16 : Int32 → MI → Prop) (y1_16 : Int32) (I : MI) : Prop := (((2361:Int32) ≤ y1_16 → IsModel K R a0 ∧ Q (I (a0 + 1) 0) I) ∧ (¬ (2361:Int32) ≤ y1_16 → IsModel K R a0 ∧ vp_in y1_16 2361 ∧ vp_in y1_16 2361 ∧ ∀ I5, I5 = upI I (a0 + 1) (ix y1_16) (I (a0 + 4) (ix y1_16)) → X16 (y1_16 + (1:Int32)) I5))
def w_X7_restore_b16 (K : MK) (R : MR) (a0 : Nat) (Q : Int32 → MI → Prop) (y1_16 : Int32) (I : MI) : Prop := ∀ X16 : Int32 → MI → Prop, (∀ (y1_16 : Int32) (I : MI), w_X7_restore_b16_body K R a0 Q X16 y1_16 I → X16 y1_16 I) → X16 y1_16 I
def w_X7_restore (K : MK) (R : MR) (a0 : Nat) (I : MI) (Q : Int32 → MI → Prop) : Prop := IsModel K R a0 ∧ ((¬ (I a0 5) = 0 → w_X7_know K R a0 I (fun I8 => w_X7_restore_b16 K R a0 Q (0:Int32) I8)) ∧ ((I a0 5) = 0 → Q (-5:Int32) I))
def w_X7_isQuestion (K : MK) (R : MR) (a0 : Nat) (x1 : Int32) (I : MI) (Q : Int32 → MI → Prop) : Prop := IsModel K R a0 ∧ w_X7_in K R x1 (0:Int32) ((I (a0 + 1) 4) - (1:Int32)) I (fun v3 I2 => bz v3 ∧ Q v3 I2)
def w_X7_question__b73 (K : MK) (R : MR) (a0 : Nat) (x1 : Int32) (x2 : Int32) (Q : Int32 → MI → Prop) (z0_73 : Int32) (I : MI) : Prop := Q z0_73 I
def w_X7_question_ (K : MK) (R : MR) (a0 : Nat) (x1 : Int32) (x2 : Int32) (I : MI) (Q : Int32 → MI → Prop) : Prop := IsModel K R a0 ∧ w_X7_isQuestion K R a0 x1 I (fun v3 I2 => ((¬ v3 = 0 → w_X7_in K R x2 (0:Int32) (8:Int32) I2 (fun v5 I4 => ((¬ v5 = 0 → ((¬ x2 = (7:Int32) → ((¬ x2 = (8:Int32) → w_X7_of K R x1 x2 I4 (fun v7 I6 => vp_in v7 2361 ∧ w_X7_question__b73 K R a0 x1 x2 Q (I6 (a0 + 1) (ix v7)) I6)) ∧ (x2 = (8:Int32) → w_X7_of K R x1 (9:Int32) I4 (fun v10 I9 => vp_in v10 2361 ∧ w_X7_question__b73 K R a0 x1 x2 Q (I9 (a0 + 1) (ix v10)) I9)))) ∧ (x2 = (7:Int32) → w_X7_of K R x1 (8:Int32) I4 (fun v14 I13 => vp_in v14 2361 ∧ w_X7_question__b73 K R a0 x1 x2 Q (I13 (a0 + 1) (ix v14)) I13)))) ∧ (v5 = 0 → Q (-2:Int32) I4)))) ∧ (v3 = 0 → Q (-1:Int32) I2)))
def w_X7_tag_b29 (K : MK) (R : MR) (a0 : Nat) (x1 : Int32) (Q : Int32 → MI → Prop) (z0_29 : Int32) (I : MI) : Prop := Q z0_29 I
def w_X7_tag (K : MK) (R : MR) (a0 : Nat) (x1 : Int32) (I : MI) (Q : Int32 → MI → Prop) : Prop := IsModel K R a0 ∧ w_X7_in K R x1 (0:Int32) ((I (a0 + 1) 1) - (1:Int32)) I (fun v3 I2 => ((v3 = 0 → w_X7_tag_b29 K R a0 x1 Q (-1:Int32) I2) ∧ (¬ v3 = 0 → vp_in ((13:Int32) + x1) 2361 ∧ w_X7_tag_b29 K R a0 x1 Q (I2 (a0 + 1) (ix ((13:Int32) + x1))) I2)))
def w_X7_answered_b89 (K : MK) (R : MR) (a0 : Nat) (x1 : Int32) (x2 : Int32) (Q : Int32 → MI → Prop) (X9 : Int32 → Int32 → Int32 → MI → Prop) (y3_89 : Int32) (y4_89 : Int32) (y5_89 : Int32) (I : MI) : Prop := X9 y3_89 y4_89 (y5_89 + (1:Int32)) I
def w_X7_answered_b87 (K : MK) (R : MR) (a0 : Nat) (x1 : Int32) (x2 : Int32) (Q : Int32 → MI → Prop) (X9 : Int32 → Int32 → Int32 → MI → Prop) (y3_87 : Int32) (y5_87 : Int32) (z0_87 : Int32) (I : MI) : Prop := w_X7_answered_b89 K R a0 x1 x2 Q X9 y3_87 z0_87 y5_87 I
def w_X7_answered_b105 (K : MK) (R : MR) (a0 : Nat) (x1 : Int32) (x2 : Int32) (Q : Int32 → MI → Prop) (z0_105 : Int32) (I : MI) : Prop := Q z0_105 I
def w_X7_answered_b9_body (K : MK) (R : MR) (a0 : Nat) (x1 : Int32) (x2 : Int32) (Q : Int32 → MI → Prop) (X9 : Int32 → Int32 → Int32 → MI → Prop) (y3_9 : Int32) (y4_9 : Int32) (y5_9 : Int32) (I : MI) : Prop := IsModel K R a0 ∧ (((I (a0 + 1) 4) ≤ y5_9 → ((x2 = 0 → w_X7_answered_b105 K R a0 x1 x2 Q y3_9 I) ∧ (¬ x2 = 0 → w_X7_answered_b105 K R a0 x1 x2 Q y4_9 I))) ∧ (¬ (I (a0 + 1) 4) ≤ y5_9 → w_X7_of K R y5_9 (0:Int32) I (fun v4 I3 => vp_in v4 2361 ∧ ((¬ (I3 (a0 + 1) (ix v4)) = x1 → w_X7_answered_b89 K R a0 x1 x2 Q X9 y3_9 y4_9 y5_9 I3) ∧ ((I3 (a0 + 1) (ix v4)) = x1 → w_X7_of K R y5_9 (4:Int32) I3 (fun v7 I6 => vp_in v7 2361 ∧ ((¬ (I6 (a0 + 1) (ix v7)) = (3:Int32) → w_X7_answered_b89 K R a0 x1 x2 Q X9 y3_9 y4_9 y5_9 I6) ∧ ((I6 (a0 + 1) (ix v7)) = (3:Int32) → w_X7_of K R y5_9 (8:Int32) I6 (fun v10 I9 => vp_in v10 2361 ∧ (((I9 (a0 + 1) (ix v10)) ≤ y4_9 → w_X7_answered_b87 K R a0 x1 x2 Q X9 (y3_9 + (1:Int32)) y5_9 y4_9 I9) ∧ (¬ (I9 (a0 + 1) (ix v10)) ≤ y4_9 → w_X7_of K R y5_9 (8:Int32) I9 (fun v13 I12 => vp_in v13 2361 ∧ w_X7_answered_b87 K R a0 x1 x2 Q X9 (y3_9 + (1:Int32)) y5_9 (I12 (a0 + 1) (ix v13)) I12))))))))))))
def w_X7_answered_b9 (K : MK) (R : MR) (a0 : Nat) (x1 : Int32) (x2 : Int32) (Q : Int32 → MI → Prop) (y3_9 : Int32) (y4_9 : Int32) (y5_9 : Int32) (I : MI) : Prop := ∀ X9 : Int32 → Int32 → Int32 → MI → Prop, (∀ (y3_9 : Int32) (y4_9 : Int32) (y5_9 : Int32) (I : MI), w_X7_answered_b9_body K R a0 x1 x2 Q X9 y3_9 y4_9 y5_9 I → X9 y3_9 y4_9 y5_9 I) → X9 y3_9 y4_9 y5_9 I
def w_X7_answered (K : MK) (R : MR) (a0 : Nat) (x1 : Int32) (x2 : Int32) (I : MI) (Q : Int32 → MI → Prop) : Prop := w_X7_answered_b9 K R a0 x1 x2 Q (0:Int32) (-5:Int32) (0:Int32) I
def w_X7_master_b144 (K : MK) (R : MR) (a0 : Nat) (x1 : Int32) (x2 : Int32) (Q : Int32 → MI → Prop) (z0_144 : Int32) (I : MI) : Prop := Q z0_144 I
def w_X7_master_b160 (K : MK) (R : MR) (a0 : Nat) (x1 : Int32) (x2 : Int32) (Q : Int32 → MI → Prop) (z0_160 : Int32) (I : MI) : Prop := IsModel K R a0 ∧ w_X7_answered K R a0 x1 z0_160 I (fun v3 I2 => Q v3 I2)
def w_X7_master_b147 (K : MK) (R : MR) (a0 : Nat) (x1 : Int32) (x2 : Int32) (Q : Int32 → MI → Prop) (I : MI) : Prop := ((¬ x2 = (7:Int32) → w_X7_master_b160 K R a0 x1 x2 Q (0:Int32) I) ∧ (x2 = (7:Int32) → w_X7_master_b160 K R a0 x1 x2 Q (1:Int32) I))
def w_X7_master_b179 (K : MK) (R : MR) (a0 : Nat) (x1 : Int32) (x2 : Int32) (Q : Int32 → MI → Prop) (z0_179 : Int32) (I : MI) : Prop := Q z0_179 I
def w_X7_master (K : MK) (R : MR) (a0 : Nat) (x1 : Int32) (x2 : Int32) (I : MI) (Q : Int32 → MI → Prop) : Prop := w_X7_isPort K R x1 I (fun v6 I5 => ((¬ v6 = 0 → IsModel K R a0 ∧ w_X7_ofMaster K R x1 (10:Int32) I5 (fun v9 I8 => vp_in v9 2361 ∧ ((x2 = (0:Int32) → w_X7_ofMaster K R x1 (0:Int32) I8 (fun v13 I12 => vp_in v13 2361 ∧ Q (I12 (a0 + 1) (ix v13)) I12)) ∧ (x2 = (1:Int32) → w_X7_ofMaster K R x1 (7:Int32) I8 (fun v16 I15 => vp_in v16 2361 ∧ Q (I15 (a0 + 1) (ix v16)) I15)) ∧ (x2 = (2:Int32) → w_X7_holds K R a0 x1 I8 (fun v19 I18 => Q v19 I18)) ∧ (x2 = (3:Int32) → w_X7_ofMaster K R x1 (8:Int32) I8 (fun v21 I20 => vp_in v21 2361 ∧ Q (I20 (a0 + 1) (ix v21)) I20)) ∧ (x2 = (4:Int32) → w_X7_ofMaster K R x1 (9:Int32) I8 (fun v24 I23 => vp_in v24 2361 ∧ ((0 ≤ ((I23 (a0 + 1) (ix v24)) - (I23 (a0 + 1) 0)) → w_X7_master_b144 K R a0 x1 x2 Q ((I23 (a0 + 1) (ix v24)) - (I23 (a0 + 1) 0)) I23) ∧ (¬ 0 ≤ ((I23 (a0 + 1) (ix v24)) - (I23 (a0 + 1) 0)) → w_X7_master_b144 K R a0 x1 x2 Q (0:Int32) I23)))) ∧ (x2 = (5:Int32) → Q (I8 (a0 + 1) (ix v9)) I8) ∧ (x2 = (6:Int32) → w_X7_master_b147 K R a0 x1 x2 Q I8) ∧ (x2 = (7:Int32) → w_X7_master_b147 K R a0 x1 x2 Q I8) ∧ (x2 = (8:Int32) → (((I8 (a0 + 1) (ix v9)) < (I8 (a0 + 1) 3) → w_X7_master_b179 K R a0 x1 x2 Q (0:Int32) I8) ∧ (¬ (I8 (a0 + 1) (ix v9)) < (I8 (a0 + 1) 3) → w_X7_master_b179 K R a0 x1 x2 Q (1:Int32) I8))) ∧ ((x2).toInt < 0 ∨ 8 < (x2).toInt → Q (-2:Int32) I8)))) ∧ (v6 = 0 → Q (-1:Int32) I5)))
def w_X7_row_b47 (K : MK) (R : MR) (a0 : Nat) (x1 : Int32) (x2 : Int32) (Q : Int32 → MI → Prop) (z0_47 : Int32) (I : MI) : Prop := Q z0_47 I
def w_X7_row (K : MK) (R : MR) (a0 : Nat) (x1 : Int32) (x2 : Int32) (I : MI) (Q : Int32 → MI → Prop) : Prop := w_X7_isPort K R x1 I (fun v2 I1 => ((¬ v2 = 0 → ((0 ≤ x2 → IsModel K R a0 ∧ w_X7_ofMaster K R x1 (0:Int32) I1 (fun v5 I4 => vp_in v5 2361 ∧ (((I4 (a0 + 1) (ix v5)) ≤ x2 → w_X7_row_b47 K R a0 x1 x2 Q (-5:Int32) I4) ∧ (¬ (I4 (a0 + 1) (ix v5)) ≤ x2 → w_X7_ofMaster K R x1 ((1:Int32) + x2) I4 (fun v8 I7 => vp_in v8 2361 ∧ w_X7_row_b47 K R a0 x1 x2 Q (I7 (a0 + 1) (ix v8)) I7))))) ∧ (¬ 0 ≤ x2 → Q (-2:Int32) I1))) ∧ (v2 = 0 → Q (-1:Int32) I1)))
def w_X7_doneIn_b51 (K : MK) (R : MR) (a0 : Nat) (x1 : Int32) (Q : Int32 → MI → Prop) (X4 : Int32 → Int32 → MI → Prop) (y3_51 : Int32) (z0_51 : Int32) (z1_51 : Int32) (I : MI) : Prop := X4 (z1_51 + z0_51) (y3_51 + (1:Int32)) I
def w_X7_doneIn_b4_body (K : MK) (R : MR) (a0 : Nat) (x1 : Int32) (Q : Int32 → MI → Prop) (X4 : Int32 → Int32 → MI → Prop) (y2_4 : Int32) (y3_4 : Int32) (I : MI) : Prop := IsModel K R a0 ∧ w_X7_ofTarget K R x1 (19:Int32) I (fun v3 I2 => vp_in v3 2361 ∧ (((I2 (a0 + 1) (ix v3)) ≤ y3_4 → Q y2_4 I2) ∧ (¬ (I2 (a0 + 1) (ix v3)) ≤ y3_4 → w_X7_ofTarget K R x1 ((20:Int32) + y3_4) I2 (fun v6 I5 => vp_in v6 2361 ∧ w_X7_of K R (I5 (a0 + 1) (ix v6)) (4:Int32) I5 (fun v9 I8 => vp_in v9 2361 ∧ ((¬ (I8 (a0 + 1) (ix v9)) = (2:Int32) → w_X7_doneIn_b51 K R a0 x1 Q X4 y3_4 (0:Int32) y2_4 I8) ∧ ((I8 (a0 + 1) (ix v9)) = (2:Int32) → w_X7_doneIn_b51 K R a0 x1 Q X4 y3_4 (1:Int32) y2_4 I8)))))))
def w_X7_doneIn_b4 (K : MK) (R : MR) (a0 : Nat) (x1 : Int32) (Q : Int32 → MI → Prop) (y2_4 : Int32) (y3_4 : Int32) (I : MI) : Prop := ∀ X4 : Int32 → Int32 → MI → Prop, (∀ (y2_4 : Int32) (y3_4 : Int32) (I : MI), w_X7_doneIn_b4_body K R a0 x1 Q X4 y2_4 y3_4 I → X4 y2_4 y3_4 I) → X4 y2_4 y3_4 I
def w_X7_doneIn (K : MK) (R : MR) (a0 : Nat) (x1 : Int32) (I : MI) (Q : Int32 → MI → Prop) : Prop := w_X7_doneIn_b4 K R a0 x1 Q (0:Int32) (0:Int32) I
def w_X7_target_b48 (K : MK) (R : MR) (a0 : Nat) (x1 : Int32) (x2 : Int32) (Q : Int32 → MI → Prop) (I : MI) : Prop := IsModel K R a0 ∧ w_X7_ofTarget K R x1 ((16:Int32) + x2) I (fun v3 I2 => vp_in v3 2361 ∧ Q (I2 (a0 + 1) (ix v3)) I2)
def w_X7_target_b98 (K : MK) (R : MR) (a0 : Nat) (x1 : Int32) (x2 : Int32) (Q : Int32 → MI → Prop) (z0_98 : Int32) (I : MI) : Prop := Q z0_98 I
def w_X7_target (K : MK) (R : MR) (a0 : Nat) (x1 : Int32) (x2 : Int32) (I : MI) (Q : Int32 → MI → Prop) : Prop := w_X7_isPort K R x1 I (fun v6 I5 => ((¬ v6 = 0 → ((x2 = (0:Int32) → w_X7_target_b48 K R a0 x1 x2 Q I5) ∧ (x2 = (1:Int32) → w_X7_target_b48 K R a0 x1 x2 Q I5) ∧ (x2 = (2:Int32) → w_X7_target_b48 K R a0 x1 x2 Q I5) ∧ (x2 = (3:Int32) → w_X7_target_b48 K R a0 x1 x2 Q I5) ∧ (x2 = (4:Int32) → IsModel K R a0 ∧ w_X7_doneIn K R a0 x1 I5 (fun v10 I9 => Q v10 I9)) ∧ (x2 = (5:Int32) → IsModel K R a0 ∧ w_X7_answering K R a0 x1 I5 (fun v13 I12 => ((¬ v13 = (-5:Int32) → w_X7_ofTarget K R x1 ((20:Int32) + v13) I12 (fun v15 I14 => vp_in v15 2361 ∧ w_X7_target_b98 K R a0 x1 x2 Q (I14 (a0 + 1) (ix v15)) I14)) ∧ (v13 = (-5:Int32) → w_X7_target_b98 K R a0 x1 x2 Q (-5:Int32) I12)))) ∧ ((x2).toInt < 0 ∨ 5 < (x2).toInt → Q (-2:Int32) I5))) ∧ (v6 = 0 → Q (-1:Int32) I5)))
def w_X7_cell_b34 (K : MK) (R : MR) (a0 : Nat) (x1 : Int32) (x2 : Int32) (Q : Int32 → MI → Prop) (z0_34 : Int32) (I : MI) : Prop := Q z0_34 I
def w_X7_cell (K : MK) (R : MR) (a0 : Nat) (x1 : Int32) (x2 : Int32) (I : MI) (Q : Int32 → MI → Prop) : Prop := w_X7_isPort K R x1 I (fun v2 I1 => ((¬ v2 = 0 → w_X7_in K R x2 (0:Int32) (15:Int32) I1 (fun v4 I3 => ((v4 = 0 → w_X7_cell_b34 K R a0 x1 x2 Q (-2:Int32) I3) ∧ (¬ v4 = 0 → IsModel K R a0 ∧ w_X7_ofTarget K R x1 x2 I3 (fun v7 I6 => vp_in v7 2361 ∧ w_X7_cell_b34 K R a0 x1 x2 Q (I6 (a0 + 1) (ix v7)) I6))))) ∧ (v2 = 0 → Q (-1:Int32) I1)))
def w_X7_putAside_b2_body (K : MK) (R : MR) (a0 : Nat) (Q : MI → Prop) (X2 : Int32 → MI → Prop) (y1_2 : Int32) (I : MI) : Prop := (((2361:Int32) ≤ y1_2 → Q I) ∧ (¬ (2361:Int32) ≤ y1_2 → IsModel K R a0 ∧ vp_in y1_2 2361 ∧ vp_in y1_2 2361 ∧ ∀ I4, I4 = upI I (a0 + 2) (ix y1_2) (I (a0 + 1) (ix y1_2)) → X2 (y1_2 + (1:Int32)) I4))
def w_X7_putAside_b2 (K : MK) (R : MR) (a0 : Nat) (Q : MI → Prop) (y1_2 : Int32) (I : MI) : Prop := ∀ X2 : Int32 → MI → Prop, (∀ (y1_2 : Int32) (I : MI), w_X7_putAside_b2_body K R a0 Q X2 y1_2 I → X2 y1_2 I) → X2 y1_2 I
def w_X7_putAside (K : MK) (R : MR) (a0 : Nat) (I : MI) (Q : MI → Prop) : Prop := w_X7_putAside_b2 K R a0 Q (0:Int32) I
def w_X7_putBack_b2_body (K : MK) (R : MR) (a0 : Nat) (Q : MI → Prop) (X2 : Int32 → MI → Prop) (y1_2 : Int32) (I : MI) : Prop := (((2361:Int32) ≤ y1_2 → Q I) ∧ (¬ (2361:Int32) ≤ y1_2 → IsModel K R a0 ∧ vp_in y1_2 2361 ∧ vp_in y1_2 2361 ∧ ∀ I4, I4 = upI I (a0 + 1) (ix y1_2) (I (a0 + 2) (ix y1_2)) → X2 (y1_2 + (1:Int32)) I4))
def w_X7_putBack_b2 (K : MK) (R : MR) (a0 : Nat) (Q : MI → Prop) (y1_2 : Int32) (I : MI) : Prop := ∀ X2 : Int32 → MI → Prop, (∀ (y1_2 : Int32) (I : MI), w_X7_putBack_b2_body K R a0 Q X2 y1_2 I → X2 y1_2 I) → X2 y1_2 I
def w_X7_putBack (K : MK) (R : MR) (a0 : Nat) (I : MI) (Q : MI → Prop) : Prop := w_X7_putBack_b2 K R a0 Q (0:Int32) I
def w_X7_next_b37 (K : MK) (R : MR) (a0 : Nat) (x1 : Int32) (Q : Int32 → MI → Prop) (z0_37 : Int32) (I : MI) : Prop := Q z0_37 I
def w_X7_next (K : MK) (R : MR) (a0 : Nat) (x1 : Int32) (I : MI) (Q : Int32 → MI → Prop) : Prop := w_X7_in K R x1 (0:Int32) (1:Int32) I (fun v2 I1 => ((¬ v2 = 0 → IsModel K R a0 ∧ w_X7_putAside K R a0 I1 (fun I4 => w_X7_tick K R a0 I4 (fun v6 I5 => w_X7_putBack K R a0 I5 (fun I7 => ((¬ x1 = 0 → w_X7_next_b37 K R a0 x1 Q v6 I7) ∧ (x1 = 0 → w_X7_next_b37 K R a0 x1 Q (I7 a0 12) I7)))))) ∧ (v2 = 0 → Q (-2:Int32) I1)))
def w_X7_answeredIn_b99 (K : MK) (R : MR) (a0 : Nat) (x1 : Int32) (Q : Int32 → MI → Prop) (z0_99 : Int32) (I : MI) : Prop := Q z0_99 I
def w_X7_answeredIn_b84 (K : MK) (R : MR) (a0 : Nat) (x1 : Int32) (Q : Int32 → MI → Prop) (y2_84 : Int32) (z0_84 : Int32) (I : MI) : Prop := IsModel K R a0 ∧ w_X7_putBack K R a0 I (fun I2 => ((z0_84 = 0 → w_X7_answeredIn_b99 K R a0 x1 Q (-5:Int32) I2) ∧ (¬ z0_84 = 0 → w_X7_answeredIn_b99 K R a0 x1 Q y2_84 I2)))
def w_X7_answeredIn_b65 (K : MK) (R : MR) (a0 : Nat) (x1 : Int32) (Q : Int32 → MI → Prop) (y2_65 : Int32) (I : MI) : Prop := IsModel K R a0 ∧ w_X7_of K R x1 (4:Int32) I (fun v6 I5 => vp_in v6 2361 ∧ ((¬ (I5 (a0 + 1) (ix v6)) = (3:Int32) → w_X7_answeredIn_b84 K R a0 x1 Q y2_65 (0:Int32) I5) ∧ ((I5 (a0 + 1) (ix v6)) = (3:Int32) → w_X7_answeredIn_b84 K R a0 x1 Q y2_65 (1:Int32) I5)))
def w_X7_answeredIn_b33_body (K : MK) (R : MR) (a0 : Nat) (x1 : Int32) (Q : Int32 → MI → Prop) (X33 : Int32 → MI → Prop) (y2_33 : Int32) (I : MI) : Prop := (((999:Int32) ≤ y2_33 → w_X7_answeredIn_b65 K R a0 x1 Q y2_33 I) ∧ (¬ (999:Int32) ≤ y2_33 → IsModel K R a0 ∧ w_X7_of K R x1 (4:Int32) I (fun v11 I10 => vp_in v11 2361 ∧ (((I10 (a0 + 1) (ix v11)) = (3:Int32) → w_X7_answeredIn_b65 K R a0 x1 Q y2_33 I10) ∧ (¬ (I10 (a0 + 1) (ix v11)) = (3:Int32) → w_X7_tick K R a0 I10 (fun v14 I13 => X33 (y2_33 + (1:Int32)) I13))))))
def w_X7_answeredIn_b33 (K : MK) (R : MR) (a0 : Nat) (x1 : Int32) (Q : Int32 → MI → Prop) (y2_33 : Int32) (I : MI) : Prop := ∀ X33 : Int32 → MI → Prop, (∀ (y2_33 : Int32) (I : MI), w_X7_answeredIn_b33_body K R a0 x1 Q X33 y2_33 I → X33 y2_33 I) → X33 y2_33 I
def w_X7_answeredIn (K : MK) (R : MR) (a0 : Nat) (x1 : Int32) (I : MI) (Q : Int32 → MI → Prop) : Prop := IsModel K R a0 ∧ w_X7_isQuestion K R a0 x1 I (fun v19 I18 => ((¬ v19 = 0 → w_X7_of K R x1 (4:Int32) I18 (fun v21 I20 => vp_in v21 2361 ∧ (((I20 (a0 + 1) (ix v21)) ≤ (2:Int32) → w_X7_putAside K R a0 I20 (fun I23 => w_X7_answeredIn_b33 K R a0 x1 Q (0:Int32) I23)) ∧ (¬ (I20 (a0 + 1) (ix v21)) ≤ (2:Int32) → Q (-4:Int32) I20)))) ∧ (v19 = 0 → Q (-1:Int32) I18)))
def w_X7_freeTags_b34 (K : MK) (R : MR) (a0 : Nat) (Q : Int32 → MI → Prop) (X4 : Int32 → Int32 → MI → Prop) (y2_34 : Int32) (z0_34 : Int32) (z1_34 : Int32) (I : MI) : Prop := X4 (z1_34 + z0_34) (y2_34 + (1:Int32)) I
def w_X7_freeTags_b4_body (K : MK) (R : MR) (a0 : Nat) (Q : Int32 → MI → Prop) (X4 : Int32 → Int32 → MI → Prop) (y1_4 : Int32) (y2_4 : Int32) (I : MI) : Prop := IsModel K R a0 ∧ (((I (a0 + 1) 1) ≤ y2_4 → Q y1_4 I) ∧ (¬ (I (a0 + 1) 1) ≤ y2_4 → vp_in ((13:Int32) + y2_4) 2361 ∧ ((¬ (I (a0 + 1) (ix ((13:Int32) + y2_4))) = (-5:Int32) → w_X7_freeTags_b34 K R a0 Q X4 y2_4 (0:Int32) y1_4 I) ∧ ((I (a0 + 1) (ix ((13:Int32) + y2_4))) = (-5:Int32) → w_X7_freeTags_b34 K R a0 Q X4 y2_4 (1:Int32) y1_4 I))))
def w_X7_freeTags_b4 (K : MK) (R : MR) (a0 : Nat) (Q : Int32 → MI → Prop) (y1_4 : Int32) (y2_4 : Int32) (I : MI) : Prop := ∀ X4 : Int32 → Int32 → MI → Prop, (∀ (y1_4 : Int32) (y2_4 : Int32) (I : MI), w_X7_freeTags_b4_body K R a0 Q X4 y1_4 y2_4 I → X4 y1_4 y2_4 I) → X4 y1_4 y2_4 I
def w_X7_freeTags (K : MK) (R : MR) (a0 : Nat) (I : MI) (Q : Int32 → MI → Prop) : Prop := w_X7_freeTags_b4 K R a0 Q (0:Int32) (0:Int32) I
def w_X7_count_b68 (K : MK) (R : MR) (a0 : Nat) (x1 : Int32) (Q : Int32 → MI → Prop) (I : MI) : Prop := IsModel K R a0 ∧ vp_in x1 2361 ∧ Q (I (a0 + 1) (ix x1)) I
def w_X7_count_b80 (K : MK) (R : MR) (a0 : Nat) (x1 : Int32) (Q : Int32 → MI → Prop) (I : MI) : Prop := IsModel K R a0 ∧ vp_in (((8:Int32) + x1) - (6:Int32)) 2361 ∧ Q (I (a0 + 1) (ix (((8:Int32) + x1) - (6:Int32)))) I
def w_X7_count (K : MK) (R : MR) (a0 : Nat) (x1 : Int32) (I : MI) (Q : Int32 → MI → Prop) : Prop := ((x1 = (0:Int32) → w_X7_count_b68 K R a0 x1 Q I) ∧ (x1 = (1:Int32) → w_X7_count_b68 K R a0 x1 Q I) ∧ (x1 = (2:Int32) → w_X7_count_b68 K R a0 x1 Q I) ∧ (x1 = (3:Int32) → w_X7_count_b68 K R a0 x1 Q I) ∧ (x1 = (4:Int32) → w_X7_count_b68 K R a0 x1 Q I) ∧ (x1 = (5:Int32) → IsModel K R a0 ∧ w_X7_freeTags K R a0 I (fun v8 I7 => Q v8 I7)) ∧ (x1 = (6:Int32) → w_X7_count_b80 K R a0 x1 Q I) ∧ (x1 = (7:Int32) → w_X7_count_b80 K R a0 x1 Q I) ∧ (x1 = (8:Int32) → w_X7_count_b80 K R a0 x1 Q I) ∧ (x1 = (9:Int32) → w_X7_count_b80 K R a0 x1 Q I) ∧ (x1 = (10:Int32) → w_X7_count_b80 K R a0 x1 Q I) ∧ (x1 = (11:Int32) → IsModel K R a0 ∧ Q (I a0 3) I) ∧ (x1 = (12:Int32) → IsModel K R a0 ∧ Q (I a0 7) I) ∧ ((x1).toInt < 0 ∨ 12 < (x1).toInt → Q (-2:Int32) I))
end
