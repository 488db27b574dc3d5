-- ===== PART A: goes FIRST, ahead of the names: the tables' words, and 'selects' of the private methods out of them =====
/-- a private method of a class that the tables say can be made, by its rows of tables_1 -/
def lw_okq (q : MethodName × Nat) : Prop := (q.1.cls ≠ "java/lang/invoke/MethodHandle" ∧ q.1.cls ≠ "java/lang/invoke/VarHandle") ∧ Cond.instantiable q.1.cls q.2 ∈ tables_1 ∧ Cond.privateMethod q.1 ∈ tables_1 ∧ Cond.instanceMethod q.1 ∈ tables_1
theorem lw_p0 : lw_okq (⟨"TagBus", "putOne", "(IIII)I"⟩, 7) := ⟨⟨by decide +kernel, by decide +kernel⟩, List.mem_of_getElem? (i := 11) (by decide +kernel), List.mem_of_getElem? (i := 298) (by decide +kernel), List.mem_of_getElem? (i := 299) (by decide +kernel)⟩
theorem lw_p1 : lw_okq (⟨"TagBus", "record", "()V"⟩, 7) := ⟨⟨by decide +kernel, by decide +kernel⟩, List.mem_of_getElem? (i := 11) (by decide +kernel), List.mem_of_getElem? (i := 314) (by decide +kernel), List.mem_of_getElem? (i := 315) (by decide +kernel)⟩
theorem lw_p2 : lw_okq (⟨"TagBus$Bus", "finishQuestions", "()V"⟩, 15) := ⟨⟨by decide +kernel, by decide +kernel⟩, List.mem_of_getElem? (i := 19) (by decide +kernel), List.mem_of_getElem? (i := 421) (by decide +kernel), List.mem_of_getElem? (i := 422) (by decide +kernel)⟩
theorem lw_p3 : lw_okq (⟨"TagBus$Bus", "makeTrip", "()I"⟩, 15) := ⟨⟨by decide +kernel, by decide +kernel⟩, List.mem_of_getElem? (i := 19) (by decide +kernel), List.mem_of_getElem? (i := 430) (by decide +kernel), List.mem_of_getElem? (i := 431) (by decide +kernel)⟩
theorem lw_p4 : lw_okq (⟨"TagBus$Bus", "targetThatAnswers", "()I"⟩, 15) := ⟨⟨by decide +kernel, by decide +kernel⟩, List.mem_of_getElem? (i := 19) (by decide +kernel), List.mem_of_getElem? (i := 434) (by decide +kernel), List.mem_of_getElem? (i := 435) (by decide +kernel)⟩
theorem lw_p5 : lw_okq (⟨"TagBus$Bus", "masterThatSends", "()I"⟩, 15) := ⟨⟨by decide +kernel, by decide +kernel⟩, List.mem_of_getElem? (i := 19) (by decide +kernel), List.mem_of_getElem? (i := 446) (by decide +kernel), List.mem_of_getElem? (i := 447) (by decide +kernel)⟩
theorem lw_p6 : lw_okq (⟨"TagBus$Bus", "masterThatWaitedTooLong", "()I"⟩, 15) := ⟨⟨by decide +kernel, by decide +kernel⟩, List.mem_of_getElem? (i := 19) (by decide +kernel), List.mem_of_getElem? (i := 454) (by decide +kernel), List.mem_of_getElem? (i := 455) (by decide +kernel)⟩
theorem lw_p7 : lw_okq (⟨"TagBus$Bus", "maySend", "(LTagBus$Master;)Z"⟩, 15) := ⟨⟨by decide +kernel, by decide +kernel⟩, List.mem_of_getElem? (i := 19) (by decide +kernel), List.mem_of_getElem? (i := 458) (by decide +kernel), List.mem_of_getElem? (i := 459) (by decide +kernel)⟩
theorem lw_p8 : lw_okq (⟨"TagBus$Bus", "prefersAnswer", "()Z"⟩, 15) := ⟨⟨by decide +kernel, by decide +kernel⟩, List.mem_of_getElem? (i := 19) (by decide +kernel), List.mem_of_getElem? (i := 466) (by decide +kernel), List.mem_of_getElem? (i := 467) (by decide +kernel)⟩
theorem lw_p9 : lw_okq (⟨"TagBus$Bus", "sendAnswerOf", "(I)I"⟩, 15) := ⟨⟨by decide +kernel, by decide +kernel⟩, List.mem_of_getElem? (i := 19) (by decide +kernel), List.mem_of_getElem? (i := 470) (by decide +kernel), List.mem_of_getElem? (i := 471) (by decide +kernel)⟩
theorem lw_p10 : lw_okq (⟨"TagBus$Bus", "takeTagBack", "(LTagBus$Question;)V"⟩, 15) := ⟨⟨by decide +kernel, by decide +kernel⟩, List.mem_of_getElem? (i := 19) (by decide +kernel), List.mem_of_getElem? (i := 474) (by decide +kernel), List.mem_of_getElem? (i := 475) (by decide +kernel)⟩
theorem lw_p11 : lw_okq (⟨"TagBus$Bus", "noteAnswer", "(LTagBus$Master;I)V"⟩, 15) := ⟨⟨by decide +kernel, by decide +kernel⟩, List.mem_of_getElem? (i := 19) (by decide +kernel), List.mem_of_getElem? (i := 478) (by decide +kernel), List.mem_of_getElem? (i := 479) (by decide +kernel)⟩
theorem lw_p12 : lw_okq (⟨"TagBus$Bus", "sendQuestionOf", "(I)I"⟩, 15) := ⟨⟨by decide +kernel, by decide +kernel⟩, List.mem_of_getElem? (i := 19) (by decide +kernel), List.mem_of_getElem? (i := 485) (by decide +kernel), List.mem_of_getElem? (i := 486) (by decide +kernel)⟩
theorem lw_p13 : lw_okq (⟨"TagBus$Bus", "refuse", "(LTagBus$Master;LTagBus$Question;)V"⟩, 15) := ⟨⟨by decide +kernel, by decide +kernel⟩, List.mem_of_getElem? (i := 19) (by decide +kernel), List.mem_of_getElem? (i := 493) (by decide +kernel), List.mem_of_getElem? (i := 494) (by decide +kernel)⟩
theorem lw_p14 : lw_okq (⟨"TagBus$Bus", "letIn", "(LTagBus$Master;LTagBus$Target;I)V"⟩, 15) := ⟨⟨by decide +kernel, by decide +kernel⟩, List.mem_of_getElem? (i := 19) (by decide +kernel), List.mem_of_getElem? (i := 497) (by decide +kernel), List.mem_of_getElem? (i := 498) (by decide +kernel)⟩
theorem lw_p15 : lw_okq (⟨"TagBus$Bus", "countWaits", "(I)V"⟩, 15) := ⟨⟨by decide +kernel, by decide +kernel⟩, List.mem_of_getElem? (i := 19) (by decide +kernel), List.mem_of_getElem? (i := 501) (by decide +kernel), List.mem_of_getElem? (i := 502) (by decide +kernel)⟩
def lw_privs_1 : List (MethodName × Nat) := [(⟨"TagBus", "putOne", "(IIII)I"⟩, 7), (⟨"TagBus", "record", "()V"⟩, 7), (⟨"TagBus$Bus", "finishQuestions", "()V"⟩, 15), (⟨"TagBus$Bus", "makeTrip", "()I"⟩, 15), (⟨"TagBus$Bus", "targetThatAnswers", "()I"⟩, 15), (⟨"TagBus$Bus", "masterThatSends", "()I"⟩, 15), (⟨"TagBus$Bus", "masterThatWaitedTooLong", "()I"⟩, 15), (⟨"TagBus$Bus", "maySend", "(LTagBus$Master;)Z"⟩, 15), (⟨"TagBus$Bus", "prefersAnswer", "()Z"⟩, 15), (⟨"TagBus$Bus", "sendAnswerOf", "(I)I"⟩, 15), (⟨"TagBus$Bus", "takeTagBack", "(LTagBus$Question;)V"⟩, 15), (⟨"TagBus$Bus", "noteAnswer", "(LTagBus$Master;I)V"⟩, 15), (⟨"TagBus$Bus", "sendQuestionOf", "(I)I"⟩, 15), (⟨"TagBus$Bus", "refuse", "(LTagBus$Master;LTagBus$Question;)V"⟩, 15), (⟨"TagBus$Bus", "letIn", "(LTagBus$Master;LTagBus$Target;I)V"⟩, 15), (⟨"TagBus$Bus", "countWaits", "(I)V"⟩, 15)]
theorem lw_r1 : ∀ q ∈ lw_privs_1, lw_okq q := List.forall_mem_cons.mpr ⟨lw_p0, List.forall_mem_cons.mpr ⟨lw_p1, List.forall_mem_cons.mpr ⟨lw_p2, List.forall_mem_cons.mpr ⟨lw_p3, List.forall_mem_cons.mpr ⟨lw_p4, List.forall_mem_cons.mpr ⟨lw_p5, List.forall_mem_cons.mpr ⟨lw_p6, List.forall_mem_cons.mpr ⟨lw_p7, List.forall_mem_cons.mpr ⟨lw_p8, List.forall_mem_cons.mpr ⟨lw_p9, List.forall_mem_cons.mpr ⟨lw_p10, List.forall_mem_cons.mpr ⟨lw_p11, List.forall_mem_cons.mpr ⟨lw_p12, List.forall_mem_cons.mpr ⟨lw_p13, List.forall_mem_cons.mpr ⟨lw_p14, List.forall_mem_cons.mpr ⟨lw_p15, fun _ h => absurd h List.not_mem_nil⟩⟩⟩⟩⟩⟩⟩⟩⟩⟩⟩⟩⟩⟩⟩⟩
def lw_privs : List (MethodName × Nat) := lw_privs_1
def lw_tbl : List Cond := k2_sels lw_privs ++ tables_1
theorem lw_privs_ok : ∀ q ∈ lw_privs, lw_okq q := lw_r1

def RX0 : String := "TagBus$Bus"
def TX0 : u_T := fun k => match k with
  | 0 => ("TagBus$Bus", "settings", "[I", true)
  | 1 => ("TagBus$Bus", "lentTo", "[I", true)
  | 2 => ("TagBus$Bus", "masters", "[LTagBus$Master;", true)
  | 3 => ("TagBus$Bus", "targets", "[LTagBus$Target;", true)
  | 4 => ("TagBus$Bus", "questions", "[LTagBus$Question;", true)
  | 5 => ("TagBus$Bus", "questionsSoFar", "I", false)
  | 6 => ("TagBus$Bus", "tick", "I", false)
  | 7 => ("TagBus$Bus", "latestTrip", "I", false)
  | 8 => ("TagBus$Bus", "turnOfMaster", "I", false)
  | 9 => ("TagBus$Bus", "turnOfTarget", "I", false)
  | 10 => ("TagBus$Bus", "answerTrips", "I", false)
  | 11 => ("TagBus$Bus", "questionTrips", "I", false)
  | 12 => ("TagBus$Bus", "refusedTrips", "I", false)
  | 13 => ("TagBus$Bus", "idleTicks", "I", false)
  | _ => ("TagBus$Bus", "overtakings", "I", false)
def tyX0 : Nat → FieldType := fun k => match k with
  | 0 => .array .int
  | 1 => .array .int
  | 2 => .array (.object "TagBus$Master")
  | 3 => .array (.object "TagBus$Target")
  | 4 => .array (.object "TagBus$Question")
  | 5 => .int
  | 6 => .int
  | 7 => .int
  | 8 => .int
  | 9 => .int
  | 10 => .int
  | 11 => .int
  | 12 => .int
  | 13 => .int
  | _ => .int
theorem nmX0 : ∀ a, a < 15 → ∀ b, b < 15 → a ≠ b → (TX0 a).2.1 ≠ (TX0 b).2.1 := by decide +kernel
theorem tyX0_ok : ∀ k, k < 15 → parseFieldDescriptor (TX0 k).2.2.1 = some (tyX0 k) := by decide +kernel
abbrev cX0_init : ByteArray := prog_2_method_1_code
def yX0_init : MethodName := ⟨RX0, "<init>", "()V"⟩
abbrev cX0_copyFrom : ByteArray := prog_2_method_2_code
def yX0_copyFrom : MethodName := ⟨RX0, "copyFrom", "(LTagBus$Bus;)V"⟩
abbrev cX0_masterAt : ByteArray := prog_2_method_3_code
def yX0_masterAt : MethodName := ⟨RX0, "masterAt", "(I)LTagBus$Master;"⟩
abbrev cX0_targetAt : ByteArray := prog_2_method_4_code
def yX0_targetAt : MethodName := ⟨RX0, "targetAt", "(I)LTagBus$Target;"⟩
abbrev cX0_questionAt : ByteArray := prog_2_method_5_code
def yX0_questionAt : MethodName := ⟨RX0, "questionAt", "(I)LTagBus$Question;"⟩
abbrev cX0_highestLentTag : ByteArray := prog_2_method_6_code
def yX0_highestLentTag : MethodName := ⟨RX0, "highestLentTag", "()I"⟩
abbrev cX0_freeTags : ByteArray := prog_2_method_7_code
def yX0_freeTags : MethodName := ⟨RX0, "freeTags", "()I"⟩
abbrev cX0_lowestFreeTag : ByteArray := prog_2_method_8_code
def yX0_lowestFreeTag : MethodName := ⟨RX0, "lowestFreeTag", "()I"⟩
abbrev cX0_put : ByteArray := prog_2_method_9_code
def yX0_put : MethodName := ⟨RX0, "put", "(IIII)I"⟩
abbrev cX0_takeLastOf : ByteArray := prog_2_method_10_code
def yX0_takeLastOf : MethodName := ⟨RX0, "takeLastOf", "(LTagBus$Master;)I"⟩
abbrev cX0_doneIn : ByteArray := prog_2_method_11_code
def yX0_doneIn : MethodName := ⟨RX0, "doneIn", "(LTagBus$Target;)I"⟩
abbrev cX0_isOutOfPatience : ByteArray := prog_2_method_12_code
def yX0_isOutOfPatience : MethodName := ⟨RX0, "isOutOfPatience", "(LTagBus$Master;)Z"⟩
abbrev cX0_passTick : ByteArray := prog_2_method_13_code
def yX0_passTick : MethodName := ⟨RX0, "passTick", "()I"⟩
abbrev cX0_finishQuestions : ByteArray := prog_2_method_14_code
def yX0_finishQuestions : MethodName := ⟨RX0, "finishQuestions", "()V"⟩
abbrev cX0_makeTrip : ByteArray := prog_2_method_15_code
def yX0_makeTrip : MethodName := ⟨RX0, "makeTrip", "()I"⟩
abbrev cX0_prefersAnswer : ByteArray := prog_2_method_16_code
def yX0_prefersAnswer : MethodName := ⟨RX0, "prefersAnswer", "()Z"⟩
abbrev cX0_targetThatAnswers : ByteArray := prog_2_method_17_code
def yX0_targetThatAnswers : MethodName := ⟨RX0, "targetThatAnswers", "()I"⟩
abbrev cX0_placeOfAnswer : ByteArray := prog_2_method_18_code
def yX0_placeOfAnswer : MethodName := ⟨RX0, "placeOfAnswer", "(LTagBus$Target;)I"⟩
abbrev cX0_masterThatSends : ByteArray := prog_2_method_19_code
def yX0_masterThatSends : MethodName := ⟨RX0, "masterThatSends", "()I"⟩
abbrev cX0_masterThatWaitedTooLong : ByteArray := prog_2_method_20_code
def yX0_masterThatWaitedTooLong : MethodName := ⟨RX0, "masterThatWaitedTooLong", "()I"⟩
abbrev cX0_maySend : ByteArray := prog_2_method_21_code
def yX0_maySend : MethodName := ⟨RX0, "maySend", "(LTagBus$Master;)Z"⟩
abbrev cX0_sendQuestionOf : ByteArray := prog_2_method_22_code
def yX0_sendQuestionOf : MethodName := ⟨RX0, "sendQuestionOf", "(I)I"⟩
abbrev cX0_refuse : ByteArray := prog_2_method_23_code
def yX0_refuse : MethodName := ⟨RX0, "refuse", "(LTagBus$Master;LTagBus$Question;)V"⟩
abbrev cX0_letIn : ByteArray := prog_2_method_24_code
def yX0_letIn : MethodName := ⟨RX0, "letIn", "(LTagBus$Master;LTagBus$Target;I)V"⟩
abbrev cX0_sendAnswerOf : ByteArray := prog_2_method_25_code
def yX0_sendAnswerOf : MethodName := ⟨RX0, "sendAnswerOf", "(I)I"⟩
abbrev cX0_takeTagBack : ByteArray := prog_2_method_26_code
def yX0_takeTagBack : MethodName := ⟨RX0, "takeTagBack", "(LTagBus$Question;)V"⟩
abbrev cX0_noteAnswer : ByteArray := prog_2_method_27_code
def yX0_noteAnswer : MethodName := ⟨RX0, "noteAnswer", "(LTagBus$Master;I)V"⟩
abbrev cX0_countWaits : ByteArray := prog_2_method_28_code
def yX0_countWaits : MethodName := ⟨RX0, "countWaits", "(I)V"⟩
def RX1 : String := "TagBus$Line"
def TX1 : u_T := fun k => match k with
  | 0 => ("TagBus$Line", "numbers", "[I", true)
  | _ => ("TagBus$Line", "length", "I", false)
def tyX1 : Nat → FieldType := fun k => match k with
  | 0 => .array .int
  | _ => .int
theorem nmX1 : ∀ a, a < 2 → ∀ b, b < 2 → a ≠ b → (TX1 a).2.1 ≠ (TX1 b).2.1 := by decide +kernel
theorem tyX1_ok : ∀ k, k < 2 → parseFieldDescriptor (TX1 k).2.2.1 = some (tyX1 k) := by decide +kernel
abbrev cX1_init : ByteArray := prog_3_method_1_code
def yX1_init : MethodName := ⟨RX1, "<init>", "()V"⟩
abbrev cX1_at : ByteArray := prog_3_method_2_code
def yX1_at : MethodName := ⟨RX1, "at", "(I)I"⟩
abbrev cX1_append : ByteArray := prog_3_method_3_code
def yX1_append : MethodName := ⟨RX1, "append", "(I)V"⟩
abbrev cX1_removeAt : ByteArray := prog_3_method_4_code
def yX1_removeAt : MethodName := ⟨RX1, "removeAt", "(I)V"⟩
abbrev cX1_copyFrom : ByteArray := prog_3_method_5_code
def yX1_copyFrom : MethodName := ⟨RX1, "copyFrom", "(LTagBus$Line;)V"⟩
def RX2 : String := "TagBus$Master"
def TX2 : u_T := fun k => match k with
  | 0 => ("TagBus$Master", "row", "LTagBus$Line;", true)
  | 1 => ("TagBus$Master", "share", "I", false)
  | 2 => ("TagBus$Master", "holds", "I", false)
  | 3 => ("TagBus$Master", "refusals", "I", false)
  | 4 => ("TagBus$Master", "notBefore", "I", false)
  | 5 => ("TagBus$Master", "waited", "I", false)
  | 6 => ("TagBus$Master", "answered", "I", false)
  | _ => ("TagBus$Master", "longest", "I", false)
def tyX2 : Nat → FieldType := fun k => match k with
  | 0 => .object "TagBus$Line"
  | 1 => .int
  | 2 => .int
  | 3 => .int
  | 4 => .int
  | 5 => .int
  | 6 => .int
  | _ => .int
theorem nmX2 : ∀ a, a < 8 → ∀ b, b < 8 → a ≠ b → (TX2 a).2.1 ≠ (TX2 b).2.1 := by decide +kernel
theorem tyX2_ok : ∀ k, k < 8 → parseFieldDescriptor (TX2 k).2.2.1 = some (tyX2 k) := by decide +kernel
abbrev cX2_init : ByteArray := prog_4_method_1_code
def yX2_init : MethodName := ⟨RX2, "<init>", "()V"⟩
abbrev cX2_copyFrom : ByteArray := prog_4_method_2_code
def yX2_copyFrom : MethodName := ⟨RX2, "copyFrom", "(LTagBus$Master;)V"⟩
def RX3 : String := "TagBus$Question"
def TX3 : u_T := fun k => match k with
  | 0 => ("TagBus$Question", "master", "I", false)
  | 1 => ("TagBus$Question", "target", "I", false)
  | 2 => ("TagBus$Question", "address", "I", false)
  | 3 => ("TagBus$Question", "written", "I", false)
  | 4 => ("TagBus$Question", "where", "I", false)
  | 5 => ("TagBus$Question", "tag", "I", false)
  | 6 => ("TagBus$Question", "answer", "I", false)
  | 7 => ("TagBus$Question", "putAt", "I", false)
  | 8 => ("TagBus$Question", "doneAt", "I", false)
  | 9 => ("TagBus$Question", "took", "I", false)
  | _ => ("TagBus$Question", "refusals", "I", false)
def tyX3 : Nat → FieldType := fun k => match k with
  | 0 => .int
  | 1 => .int
  | 2 => .int
  | 3 => .int
  | 4 => .int
  | 5 => .int
  | 6 => .int
  | 7 => .int
  | 8 => .int
  | 9 => .int
  | _ => .int
theorem nmX3 : ∀ a, a < 11 → ∀ b, b < 11 → a ≠ b → (TX3 a).2.1 ≠ (TX3 b).2.1 := by decide +kernel
theorem tyX3_ok : ∀ k, k < 11 → parseFieldDescriptor (TX3 k).2.2.1 = some (tyX3 k) := by decide +kernel
abbrev cX3_init : ByteArray := prog_5_method_1_code
def yX3_init : MethodName := ⟨RX3, "<init>", "()V"⟩
abbrev cX3_begin : ByteArray := prog_5_method_2_code
def yX3_begin : MethodName := ⟨RX3, "begin", "(IIIII)V"⟩
abbrev cX3_copyFrom : ByteArray := prog_5_method_3_code
def yX3_copyFrom : MethodName := ⟨RX3, "copyFrom", "(LTagBus$Question;)V"⟩
def RX4 : String := "TagBus$QuestionText"
def TX4 : u_T := fun k => match k with
  | 0 => ("TagBus$QuestionText", "signs", "[C", true)
  | 1 => ("TagBus$QuestionText", "length", "I", false)
  | 2 => ("TagBus$QuestionText", "questions", "[LTagBus$Question;", true)
  | 3 => ("TagBus$QuestionText", "found", "I", false)
  | _ => ("TagBus$QuestionText", "at", "I", false)
def tyX4 : Nat → FieldType := fun k => match k with
  | 0 => .array .char
  | 1 => .int
  | 2 => .array (.object "TagBus$Question")
  | 3 => .int
  | _ => .int
theorem nmX4 : ∀ a, a < 5 → ∀ b, b < 5 → a ≠ b → (TX4 a).2.1 ≠ (TX4 b).2.1 := by decide +kernel
theorem tyX4_ok : ∀ k, k < 5 → parseFieldDescriptor (TX4 k).2.2.1 = some (tyX4 k) := by decide +kernel
abbrev cX4_init : ByteArray := prog_6_method_1_code
def yX4_init : MethodName := ⟨RX4, "<init>", "()V"⟩
def RX5 : String := "TagBus$Target"
def TX5 : u_T := fun k => match k with
  | 0 => ("TagBus$Target", "cells", "[I", true)
  | 1 => ("TagBus$Target", "numbers", "[I", true)
  | _ => ("TagBus$Target", "inside", "LTagBus$Line;", true)
def tyX5 : Nat → FieldType := fun k => match k with
  | 0 => .array .int
  | 1 => .array .int
  | _ => .object "TagBus$Line"
theorem nmX5 : ∀ a, a < 3 → ∀ b, b < 3 → a ≠ b → (TX5 a).2.1 ≠ (TX5 b).2.1 := by decide +kernel
theorem tyX5_ok : ∀ k, k < 3 → parseFieldDescriptor (TX5 k).2.2.1 = some (tyX5 k) := by decide +kernel
abbrev cX5_init : ByteArray := prog_7_method_1_code
def yX5_init : MethodName := ⟨RX5, "<init>", "()V"⟩
abbrev cX5_isFull : ByteArray := prog_7_method_2_code
def yX5_isFull : MethodName := ⟨RX5, "isFull", "()Z"⟩
abbrev cX5_useCell : ByteArray := prog_7_method_3_code
def yX5_useCell : MethodName := ⟨RX5, "useCell", "(II)I"⟩
abbrev cX5_copyFrom : ByteArray := prog_7_method_4_code
def yX5_copyFrom : MethodName := ⟨RX5, "copyFrom", "(LTagBus$Target;)V"⟩
def RX6 : String := "TagBus"
def TX6 : u_T := fun k => match k with
  | 0 => ("TagBus", "bus", "LTagBus$Bus;", true)
  | 1 => ("TagBus", "trial", "LTagBus$Bus;", true)
  | 2 => ("TagBus", "snapshot", "LTagBus$Bus;", true)
  | 3 => ("TagBus", "hasSnapshot", "Z", false)
  | 4 => ("TagBus", "past", "[LTagBus$Bus;", true)
  | 5 => ("TagBus", "pastCount", "I", false)
  | _ => ("TagBus", "text", "LTagBus$QuestionText;", true)
def tyX6 : Nat → FieldType := fun k => match k with
  | 0 => .object "TagBus$Bus"
  | 1 => .object "TagBus$Bus"
  | 2 => .object "TagBus$Bus"
  | 3 => .boolean
  | 4 => .array (.object "TagBus$Bus")
  | 5 => .int
  | _ => .object "TagBus$QuestionText"
theorem nmX6 : ∀ a, a < 7 → ∀ b, b < 7 → a ≠ b → (TX6 a).2.1 ≠ (TX6 b).2.1 := by decide +kernel
theorem tyX6_ok : ∀ k, k < 7 → parseFieldDescriptor (TX6 k).2.2.1 = some (tyX6 k) := by decide +kernel
abbrev cX6_init : ByteArray := prog_1_method_1_code
def yX6_init : MethodName := ⟨RX6, "<init>", "()V"⟩
abbrev cX6_set : ByteArray := prog_1_method_2_code
def yX6_set : MethodName := ⟨RX6, "set", "(II)I"⟩
abbrev cX6_setShare : ByteArray := prog_1_method_3_code
def yX6_setShare : MethodName := ⟨RX6, "setShare", "(II)I"⟩
abbrev cX6_setTarget : ByteArray := prog_1_method_4_code
def yX6_setTarget : MethodName := ⟨RX6, "setTarget", "(III)I"⟩
abbrev cX6_setCell : ByteArray := prog_1_method_5_code
def yX6_setCell : MethodName := ⟨RX6, "setCell", "(III)I"⟩
abbrev cX6_read : ByteArray := prog_1_method_6_code
def yX6_read : MethodName := ⟨RX6, "read", "(III)I"⟩
abbrev cX6_write : ByteArray := prog_1_method_7_code
def yX6_write : MethodName := ⟨RX6, "write", "(IIII)I"⟩
abbrev cX6_withdraw : ByteArray := prog_1_method_9_code
def yX6_withdraw : MethodName := ⟨RX6, "withdraw", "(I)I"⟩
abbrev cX6_pass : ByteArray := prog_1_method_10_code
def yX6_pass : MethodName := ⟨RX6, "pass", "(I)I"⟩
abbrev cX6_undo : ByteArray := prog_1_method_13_code
def yX6_undo : MethodName := ⟨RX6, "undo", "()I"⟩
abbrev cX6_question : ByteArray := prog_1_method_16_code
def yX6_question : MethodName := ⟨RX6, "question", "(II)I"⟩
abbrev cX6_tag : ByteArray := prog_1_method_17_code
def yX6_tag : MethodName := ⟨RX6, "tag", "(I)I"⟩
abbrev cX6_master : ByteArray := prog_1_method_18_code
def yX6_master : MethodName := ⟨RX6, "master", "(II)I"⟩
abbrev cX6_row : ByteArray := prog_1_method_19_code
def yX6_row : MethodName := ⟨RX6, "row", "(II)I"⟩
abbrev cX6_target : ByteArray := prog_1_method_20_code
def yX6_target : MethodName := ⟨RX6, "target", "(II)I"⟩
abbrev cX6_next : ByteArray := prog_1_method_22_code
def yX6_next : MethodName := ⟨RX6, "next", "(I)I"⟩
abbrev cX6_answeredIn : ByteArray := prog_1_method_23_code
def yX6_answeredIn : MethodName := ⟨RX6, "answeredIn", "(I)I"⟩
abbrev cX6_count : ByteArray := prog_1_method_24_code
def yX6_count : MethodName := ⟨RX6, "count", "(I)I"⟩
abbrev cX6_isIndex : ByteArray := prog_1_method_25_code
def yX6_isIndex : MethodName := ⟨RX6, "isIndex", "(II)Z"⟩
abbrev cX6_isBetween : ByteArray := prog_1_method_26_code
def yX6_isBetween : MethodName := ⟨RX6, "isBetween", "(III)Z"⟩
abbrev cX6_putOne : ByteArray := prog_1_method_27_code
def yX6_putOne : MethodName := ⟨RX6, "putOne", "(IIII)I"⟩
abbrev cX6_record : ByteArray := prog_1_method_29_code
def yX6_record : MethodName := ⟨RX6, "record", "()V"⟩
def RX7 : String := "TagBusModel"
def TX7 : u_T := fun k => match k with
  | _ => ("", "", "", false)
def tyX7 : Nat → FieldType := fun k => match k with
  | _ => .int
theorem nmX7 : ∀ a, a < 0 → ∀ b, b < 0 → a ≠ b → (TX7 a).2.1 ≠ (TX7 b).2.1 := by decide +kernel
theorem tyX7_ok : ∀ k, k < 0 → parseFieldDescriptor (TX7 k).2.2.1 = some (tyX7 k) := by decide +kernel
def RL : String := "TagBusLaw"
abbrev cL_cell : ByteArray := method_2_code
def yL_cell : MethodName := ⟨RL, "cell", "([II)I"⟩
abbrev cL_low : ByteArray := method_3_code
def yL_low : MethodName := ⟨RL, "low", "(II)I"⟩
abbrev cL_does : ByteArray := method_4_code
def yL_does : MethodName := ⟨RL, "does", "(LTagBus;I)I"⟩
abbrev cL_areTagsSo : ByteArray := method_5_code
def yL_areTagsSo : MethodName := ⟨RL, "areTagsSo", "(LTagBus;)Z"⟩
abbrev cL_areRowsSo : ByteArray := method_6_code
def yL_areRowsSo : MethodName := ⟨RL, "areRowsSo", "(LTagBus;)Z"⟩
abbrev cL_isNextSo : ByteArray := method_7_code
def yL_isNextSo : MethodName := ⟨RL, "isNextSo", "(LTagBus;)Z"⟩
abbrev cL_isAnsweredSo : ByteArray := method_8_code
def yL_isAnsweredSo : MethodName := ⟨RL, "isAnsweredSo", "(LTagBus;I)Z"⟩
abbrev cL_law : ByteArray := code
def yL_law : MethodName := ⟨RL, "law", "([I)Z"⟩
abbrev vwCl : List vw_C := [(RX0, TX0, 15), (RX1, TX1, 2), (RX2, TX2, 8), (RX3, TX3, 11), (RX4, TX4, 5), (RX5, TX5, 3), (RX6, TX6, 7)]
/-- the words of the tables that stay good in every later state -/
def Gt : List Cond := lw_tbl.filter goodWord
theorem gt_mem {w : Cond} (i : Nat) (h : lw_tbl[i]? = some w) (g : goodWord w = true) : w ∈ Gt := List.mem_filter.mpr ⟨List.mem_of_getElem? h, g⟩
theorem gt_tbl {w : Cond} (h : w ∈ Gt) : w ∈ lw_tbl := (List.mem_filter.mp h).1
theorem gt_good {ws : List Cond} {c : Cond} (hc : c ∈ Gt) {c' : Cond} : GoodIn (c' :: Gt) (c :: Gt) := fun w hw => by
  rcases List.mem_cons.mp hw with rfl | h
  · exact ⟨List.mem_cons_of_mem _ hc, good_of_word (List.mem_filter.mp hc).2⟩
  · exact ⟨List.mem_cons_of_mem _ h, good_of_word (List.mem_filter.mp h).2⟩
theorem kls_LEAST_SETTING : (Cond.laysStatic "TagBus" "LEAST_SETTING" "[I") ∈ lw_tbl := List.mem_of_getElem? (i := 405) (by decide +kernel)
theorem kls_MOST_SETTING : (Cond.laysStatic "TagBus" "MOST_SETTING" "[I") ∈ lw_tbl := List.mem_of_getElem? (i := 407) (by decide +kernel)
theorem kls_LEAST_OF_TARGET : (Cond.laysStatic "TagBus" "LEAST_OF_TARGET" "[I") ∈ lw_tbl := List.mem_of_getElem? (i := 421) (by decide +kernel)
theorem kls_MOST_OF_TARGET : (Cond.laysStatic "TagBus" "MOST_OF_TARGET" "[I") ∈ lw_tbl := List.mem_of_getElem? (i := 423) (by decide +kernel)
set_option maxRecDepth 20000 in
theorem kse_X6_putOne : (Cond.selects RX6 yX6_putOne yX6_putOne) ∈ Gt := gt_mem 0 rfl rfl
set_option maxRecDepth 20000 in
theorem kse_X6_record : (Cond.selects RX6 yX6_record yX6_record) ∈ Gt := gt_mem 1 rfl rfl
set_option maxRecDepth 20000 in
theorem kse_X0_finishQuestions : (Cond.selects RX0 yX0_finishQuestions yX0_finishQuestions) ∈ Gt := gt_mem 2 rfl rfl
set_option maxRecDepth 20000 in
theorem kse_X0_makeTrip : (Cond.selects RX0 yX0_makeTrip yX0_makeTrip) ∈ Gt := gt_mem 3 rfl rfl
set_option maxRecDepth 20000 in
theorem kse_X0_targetThatAnswers : (Cond.selects RX0 yX0_targetThatAnswers yX0_targetThatAnswers) ∈ Gt := gt_mem 4 rfl rfl
set_option maxRecDepth 20000 in
theorem kse_X0_masterThatSends : (Cond.selects RX0 yX0_masterThatSends yX0_masterThatSends) ∈ Gt := gt_mem 5 rfl rfl
set_option maxRecDepth 20000 in
theorem kse_X0_masterThatWaitedTooLong : (Cond.selects RX0 yX0_masterThatWaitedTooLong yX0_masterThatWaitedTooLong) ∈ Gt := gt_mem 6 rfl rfl
set_option maxRecDepth 20000 in
theorem kse_X0_maySend : (Cond.selects RX0 yX0_maySend yX0_maySend) ∈ Gt := gt_mem 7 rfl rfl
set_option maxRecDepth 20000 in
theorem kse_X0_prefersAnswer : (Cond.selects RX0 yX0_prefersAnswer yX0_prefersAnswer) ∈ Gt := gt_mem 8 rfl rfl
set_option maxRecDepth 20000 in
theorem kse_X0_sendAnswerOf : (Cond.selects RX0 yX0_sendAnswerOf yX0_sendAnswerOf) ∈ Gt := gt_mem 9 rfl rfl
set_option maxRecDepth 20000 in
theorem kse_X0_takeTagBack : (Cond.selects RX0 yX0_takeTagBack yX0_takeTagBack) ∈ Gt := gt_mem 10 rfl rfl
set_option maxRecDepth 20000 in
theorem kse_X0_noteAnswer : (Cond.selects RX0 yX0_noteAnswer yX0_noteAnswer) ∈ Gt := gt_mem 11 rfl rfl
set_option maxRecDepth 20000 in
theorem kse_X0_sendQuestionOf : (Cond.selects RX0 yX0_sendQuestionOf yX0_sendQuestionOf) ∈ Gt := gt_mem 12 rfl rfl
set_option maxRecDepth 20000 in
theorem kse_X0_refuse : (Cond.selects RX0 yX0_refuse yX0_refuse) ∈ Gt := gt_mem 13 rfl rfl
set_option maxRecDepth 20000 in
theorem kse_X0_letIn : (Cond.selects RX0 yX0_letIn yX0_letIn) ∈ Gt := gt_mem 14 rfl rfl
set_option maxRecDepth 20000 in
theorem kse_X0_countWaits : (Cond.selects RX0 yX0_countWaits yX0_countWaits) ∈ Gt := gt_mem 15 rfl rfl
set_option maxRecDepth 20000 in
theorem kin_L : (Cond.initialized RL) ∈ Gt := gt_mem 16 rfl rfl
set_option maxRecDepth 20000 in
theorem kin_X6 : (Cond.initialized RX6) ∈ Gt := gt_mem 17 rfl rfl
set_option maxRecDepth 20000 in
theorem kin_X0 : (Cond.initialized RX0) ∈ Gt := gt_mem 18 rfl rfl
set_option maxRecDepth 20000 in
theorem kin_X2 : (Cond.initialized RX2) ∈ Gt := gt_mem 19 rfl rfl
set_option maxRecDepth 20000 in
theorem kin_X1 : (Cond.initialized RX1) ∈ Gt := gt_mem 20 rfl rfl
set_option maxRecDepth 20000 in
theorem kin_X5 : (Cond.initialized RX5) ∈ Gt := gt_mem 21 rfl rfl
set_option maxRecDepth 20000 in
theorem kin_X3 : (Cond.initialized RX3) ∈ Gt := gt_mem 22 rfl rfl
set_option maxRecDepth 20000 in
theorem kin_X4 : (Cond.initialized RX4) ∈ Gt := gt_mem 23 rfl rfl
set_option maxRecDepth 20000 in
theorem kin_System : (Cond.initialized "java/lang/System") ∈ Gt := gt_mem 24 rfl rfl
set_option maxRecDepth 20000 in
theorem kin_Math : (Cond.initialized "java/lang/Math") ∈ Gt := gt_mem 25 rfl rfl
set_option maxRecDepth 20000 in
theorem kcl_L_9 : (Cond.classLink RL 9 RX6) ∈ Gt := gt_mem 26 rfl rfl
set_option maxRecDepth 20000 in
theorem kia_X6 : (Cond.instantiable RX6 7) ∈ Gt := gt_mem 27 rfl rfl
set_option maxRecDepth 20000 in
theorem kml_L_71 : (Cond.methodLink RL 71 yX6_init) ∈ Gt := gt_mem 28 rfl rfl
set_option maxRecDepth 20000 in
theorem kim_X6_init : (Cond.instanceMethod yX6_init) ∈ Gt := gt_mem 29 rfl rfl
set_option maxRecDepth 20000 in
theorem kco_X6_init : (Cond.code yX6_init cX6_init 2 none) ∈ Gt := gt_mem 30 rfl rfl
set_option maxRecDepth 20000 in
theorem kml_X6_1 : (Cond.methodLink RX6 1 Lib.objectInit) ∈ Gt := gt_mem 31 rfl rfl
set_option maxRecDepth 20000 in
theorem kim_Lib_objectInit : (Cond.instanceMethod Lib.objectInit) ∈ Gt := gt_mem 32 rfl rfl
set_option maxRecDepth 20000 in
theorem kco_objectInit : (Cond.code Lib.objectInit ⟨#[0xb1]⟩ 1 none) ∈ Gt := gt_mem 33 rfl rfl
set_option maxRecDepth 20000 in
theorem kcl_X6_7 : (Cond.classLink RX6 7 RX0) ∈ Gt := gt_mem 34 rfl rfl
set_option maxRecDepth 20000 in
theorem kia_X0 : (Cond.instantiable RX0 15) ∈ Gt := gt_mem 35 rfl rfl
set_option maxRecDepth 20000 in
theorem kml_X6_9 : (Cond.methodLink RX6 9 yX0_init) ∈ Gt := gt_mem 36 rfl rfl
set_option maxRecDepth 20000 in
theorem kim_X0_init : (Cond.instanceMethod yX0_init) ∈ Gt := gt_mem 37 rfl rfl
set_option maxRecDepth 20000 in
theorem kco_X0_init : (Cond.code yX0_init cX0_init 2 none) ∈ Gt := gt_mem 38 rfl rfl
set_option maxRecDepth 20000 in
theorem kml_X0_3 : (Cond.methodLink RX0 3 Lib.objectInit) ∈ Gt := gt_mem 39 rfl rfl
set_option maxRecDepth 20000 in
theorem kcl_X0_18 : (Cond.classLink RX0 18 RX2) ∈ Gt := gt_mem 40 rfl rfl
set_option maxRecDepth 20000 in
theorem kcl_X0_24 : (Cond.classLink RX0 24 RX5) ∈ Gt := gt_mem 42 rfl rfl
set_option maxRecDepth 20000 in
theorem kcl_X0_30 : (Cond.classLink RX0 30 RX3) ∈ Gt := gt_mem 44 rfl rfl
set_option maxRecDepth 20000 in
theorem kia_X2 : (Cond.instantiable RX2 8) ∈ Gt := gt_mem 46 rfl rfl
set_option maxRecDepth 20000 in
theorem kim_X2_init : (Cond.instanceMethod yX2_init) ∈ Gt := gt_mem 48 rfl rfl
set_option maxRecDepth 20000 in
theorem kco_X2_init : (Cond.code yX2_init cX2_init 1 none) ∈ Gt := gt_mem 49 rfl rfl
set_option maxRecDepth 20000 in
theorem kml_X2_3 : (Cond.methodLink RX2 3 Lib.objectInit) ∈ Gt := gt_mem 50 rfl rfl
set_option maxRecDepth 20000 in
theorem kcl_X2_9 : (Cond.classLink RX2 9 RX1) ∈ Gt := gt_mem 51 rfl rfl
set_option maxRecDepth 20000 in
theorem kia_X1 : (Cond.instantiable RX1 2) ∈ Gt := gt_mem 52 rfl rfl
set_option maxRecDepth 20000 in
theorem kim_X1_init : (Cond.instanceMethod yX1_init) ∈ Gt := gt_mem 54 rfl rfl
set_option maxRecDepth 20000 in
theorem kco_X1_init : (Cond.code yX1_init cX1_init 1 none) ∈ Gt := gt_mem 55 rfl rfl
set_option maxRecDepth 20000 in
theorem kml_X1_3 : (Cond.methodLink RX1 3 Lib.objectInit) ∈ Gt := gt_mem 56 rfl rfl
set_option maxRecDepth 20000 in
theorem kfl_X1_9 : (Cond.fieldLink RX1 9 "TagBus$Line" "numbers" "[I") ∈ Gt := gt_mem 57 rfl rfl
set_option maxRecDepth 20000 in
theorem kfl_X1_15 : (Cond.fieldLink RX1 15 "TagBus$Line" "length" "I") ∈ Gt := gt_mem 58 rfl rfl
set_option maxRecDepth 20000 in
theorem kfl_X5_25 : (Cond.fieldLink RX5 25 "TagBus$Line" "length" "I") ∈ Gt := gt_mem 59 rfl rfl
set_option maxRecDepth 20000 in
theorem kfl_X6_125 : (Cond.fieldLink RX6 125 "TagBus$Line" "length" "I") ∈ Gt := gt_mem 60 rfl rfl
set_option maxRecDepth 20000 in
theorem kfl_X0_108 : (Cond.fieldLink RX0 108 "TagBus$Line" "length" "I") ∈ Gt := gt_mem 61 rfl rfl
set_option maxRecDepth 20000 in
theorem kac_int : (Cond.arrayClass Jvm.ClassFile.FieldType.int) ∈ Gt := gt_mem 67 rfl rfl
set_option maxRecDepth 20000 in
theorem kfl_X2_12 : (Cond.fieldLink RX2 12 "TagBus$Master" "row" "LTagBus$Line;") ∈ Gt := gt_mem 68 rfl rfl
set_option maxRecDepth 20000 in
theorem kfl_X6_121 : (Cond.fieldLink RX6 121 "TagBus$Master" "row" "LTagBus$Line;") ∈ Gt := gt_mem 69 rfl rfl
set_option maxRecDepth 20000 in
theorem kfl_X0_98 : (Cond.fieldLink RX0 98 "TagBus$Master" "row" "LTagBus$Line;") ∈ Gt := gt_mem 70 rfl rfl
set_option maxRecDepth 20000 in
theorem kfl_X2_18 : (Cond.fieldLink RX2 18 "TagBus$Master" "share" "I") ∈ Gt := gt_mem 71 rfl rfl
set_option maxRecDepth 20000 in
theorem kfl_X6_62 : (Cond.fieldLink RX6 62 "TagBus$Master" "share" "I") ∈ Gt := gt_mem 72 rfl rfl
set_option maxRecDepth 20000 in
theorem kfl_X0_211 : (Cond.fieldLink RX0 211 "TagBus$Master" "share" "I") ∈ Gt := gt_mem 73 rfl rfl
set_option maxRecDepth 20000 in
theorem kfl_X2_29 : (Cond.fieldLink RX2 29 "TagBus$Master" "holds" "I") ∈ Gt := gt_mem 74 rfl rfl
set_option maxRecDepth 20000 in
theorem kfl_X6_175 : (Cond.fieldLink RX6 175 "TagBus$Master" "holds" "I") ∈ Gt := gt_mem 75 rfl rfl
set_option maxRecDepth 20000 in
theorem kfl_X0_208 : (Cond.fieldLink RX0 208 "TagBus$Master" "holds" "I") ∈ Gt := gt_mem 76 rfl rfl
set_option maxRecDepth 20000 in
theorem kfl_X2_32 : (Cond.fieldLink RX2 32 "TagBus$Master" "refusals" "I") ∈ Gt := gt_mem 77 rfl rfl
set_option maxRecDepth 20000 in
theorem kfl_X6_178 : (Cond.fieldLink RX6 178 "TagBus$Master" "refusals" "I") ∈ Gt := gt_mem 78 rfl rfl
set_option maxRecDepth 20000 in
theorem kfl_X0_231 : (Cond.fieldLink RX0 231 "TagBus$Master" "refusals" "I") ∈ Gt := gt_mem 79 rfl rfl
set_option maxRecDepth 20000 in
theorem kfl_X2_35 : (Cond.fieldLink RX2 35 "TagBus$Master" "notBefore" "I") ∈ Gt := gt_mem 80 rfl rfl
set_option maxRecDepth 20000 in
theorem kfl_X6_179 : (Cond.fieldLink RX6 179 "TagBus$Master" "notBefore" "I") ∈ Gt := gt_mem 81 rfl rfl
set_option maxRecDepth 20000 in
theorem kfl_X0_205 : (Cond.fieldLink RX0 205 "TagBus$Master" "notBefore" "I") ∈ Gt := gt_mem 82 rfl rfl
set_option maxRecDepth 20000 in
theorem kfl_X2_38 : (Cond.fieldLink RX2 38 "TagBus$Master" "waited" "I") ∈ Gt := gt_mem 83 rfl rfl
set_option maxRecDepth 20000 in
theorem kfl_X0_118 : (Cond.fieldLink RX0 118 "TagBus$Master" "waited" "I") ∈ Gt := gt_mem 84 rfl rfl
set_option maxRecDepth 20000 in
theorem kfl_X6_188 : (Cond.fieldLink RX6 188 "TagBus$Master" "waited" "I") ∈ Gt := gt_mem 85 rfl rfl
set_option maxRecDepth 20000 in
theorem kfl_X2_41 : (Cond.fieldLink RX2 41 "TagBus$Master" "answered" "I") ∈ Gt := gt_mem 86 rfl rfl
set_option maxRecDepth 20000 in
theorem kfl_X6_191 : (Cond.fieldLink RX6 191 "TagBus$Master" "answered" "I") ∈ Gt := gt_mem 87 rfl rfl
set_option maxRecDepth 20000 in
theorem kfl_X0_248 : (Cond.fieldLink RX0 248 "TagBus$Master" "answered" "I") ∈ Gt := gt_mem 88 rfl rfl
set_option maxRecDepth 20000 in
theorem kfl_X2_22 : (Cond.fieldLink RX2 22 "TagBus$Master" "longest" "I") ∈ Gt := gt_mem 89 rfl rfl
set_option maxRecDepth 20000 in
theorem kfl_X6_194 : (Cond.fieldLink RX6 194 "TagBus$Master" "longest" "I") ∈ Gt := gt_mem 90 rfl rfl
set_option maxRecDepth 20000 in
theorem kfl_X0_251 : (Cond.fieldLink RX0 251 "TagBus$Master" "longest" "I") ∈ Gt := gt_mem 91 rfl rfl
set_option maxRecDepth 20000 in
theorem kia_X5 : (Cond.instantiable RX5 3) ∈ Gt := gt_mem 109 rfl rfl
set_option maxRecDepth 20000 in
theorem kim_X5_init : (Cond.instanceMethod yX5_init) ∈ Gt := gt_mem 111 rfl rfl
set_option maxRecDepth 20000 in
theorem kco_X5_init : (Cond.code yX5_init cX5_init 1 none) ∈ Gt := gt_mem 112 rfl rfl
set_option maxRecDepth 20000 in
theorem kml_X5_3 : (Cond.methodLink RX5 3 Lib.objectInit) ∈ Gt := gt_mem 113 rfl rfl
set_option maxRecDepth 20000 in
theorem kcl_X5_18 : (Cond.classLink RX5 18 RX1) ∈ Gt := gt_mem 114 rfl rfl
set_option maxRecDepth 20000 in
theorem kfl_X5_9 : (Cond.fieldLink RX5 9 "TagBus$Target" "cells" "[I") ∈ Gt := gt_mem 116 rfl rfl
set_option maxRecDepth 20000 in
theorem kfl_X6_83 : (Cond.fieldLink RX6 83 "TagBus$Target" "cells" "[I") ∈ Gt := gt_mem 117 rfl rfl
set_option maxRecDepth 20000 in
theorem kfl_X5_15 : (Cond.fieldLink RX5 15 "TagBus$Target" "numbers" "[I") ∈ Gt := gt_mem 118 rfl rfl
set_option maxRecDepth 20000 in
theorem kfl_X6_78 : (Cond.fieldLink RX6 78 "TagBus$Target" "numbers" "[I") ∈ Gt := gt_mem 119 rfl rfl
set_option maxRecDepth 20000 in
theorem kfl_X0_184 : (Cond.fieldLink RX0 184 "TagBus$Target" "numbers" "[I") ∈ Gt := gt_mem 120 rfl rfl
set_option maxRecDepth 20000 in
theorem kfl_X5_21 : (Cond.fieldLink RX5 21 "TagBus$Target" "inside" "LTagBus$Line;") ∈ Gt := gt_mem 121 rfl rfl
set_option maxRecDepth 20000 in
theorem kfl_X0_128 : (Cond.fieldLink RX0 128 "TagBus$Target" "inside" "LTagBus$Line;") ∈ Gt := gt_mem 122 rfl rfl
set_option maxRecDepth 20000 in
theorem kfl_X6_205 : (Cond.fieldLink RX6 205 "TagBus$Target" "inside" "LTagBus$Line;") ∈ Gt := gt_mem 123 rfl rfl
set_option maxRecDepth 20000 in
theorem kia_X3 : (Cond.instantiable RX3 11) ∈ Gt := gt_mem 131 rfl rfl
set_option maxRecDepth 20000 in
theorem kim_X3_init : (Cond.instanceMethod yX3_init) ∈ Gt := gt_mem 133 rfl rfl
set_option maxRecDepth 20000 in
theorem kco_X3_init : (Cond.code yX3_init cX3_init 1 none) ∈ Gt := gt_mem 134 rfl rfl
set_option maxRecDepth 20000 in
theorem kml_X3_3 : (Cond.methodLink RX3 3 Lib.objectInit) ∈ Gt := gt_mem 135 rfl rfl
set_option maxRecDepth 20000 in
theorem kfl_X3_9 : (Cond.fieldLink RX3 9 "TagBus$Question" "master" "I") ∈ Gt := gt_mem 136 rfl rfl
set_option maxRecDepth 20000 in
theorem kfl_X0_138 : (Cond.fieldLink RX0 138 "TagBus$Question" "master" "I") ∈ Gt := gt_mem 137 rfl rfl
set_option maxRecDepth 20000 in
theorem kfl_X6_104 : (Cond.fieldLink RX6 104 "TagBus$Question" "master" "I") ∈ Gt := gt_mem 138 rfl rfl
set_option maxRecDepth 20000 in
theorem kfl_X3_15 : (Cond.fieldLink RX3 15 "TagBus$Question" "target" "I") ∈ Gt := gt_mem 139 rfl rfl
set_option maxRecDepth 20000 in
theorem kfl_X6_109 : (Cond.fieldLink RX6 109 "TagBus$Question" "target" "I") ∈ Gt := gt_mem 140 rfl rfl
set_option maxRecDepth 20000 in
theorem kfl_X0_214 : (Cond.fieldLink RX0 214 "TagBus$Question" "target" "I") ∈ Gt := gt_mem 141 rfl rfl
set_option maxRecDepth 20000 in
theorem kfl_X3_18 : (Cond.fieldLink RX3 18 "TagBus$Question" "address" "I") ∈ Gt := gt_mem 142 rfl rfl
set_option maxRecDepth 20000 in
theorem kfl_X0_147 : (Cond.fieldLink RX0 147 "TagBus$Question" "address" "I") ∈ Gt := gt_mem 143 rfl rfl
set_option maxRecDepth 20000 in
theorem kfl_X6_112 : (Cond.fieldLink RX6 112 "TagBus$Question" "address" "I") ∈ Gt := gt_mem 144 rfl rfl
set_option maxRecDepth 20000 in
theorem kfl_X3_21 : (Cond.fieldLink RX3 21 "TagBus$Question" "written" "I") ∈ Gt := gt_mem 145 rfl rfl
set_option maxRecDepth 20000 in
theorem kfl_X0_150 : (Cond.fieldLink RX0 150 "TagBus$Question" "written" "I") ∈ Gt := gt_mem 146 rfl rfl
set_option maxRecDepth 20000 in
theorem kfl_X6_115 : (Cond.fieldLink RX6 115 "TagBus$Question" "written" "I") ∈ Gt := gt_mem 147 rfl rfl
set_option maxRecDepth 20000 in
theorem kfl_X3_24 : (Cond.fieldLink RX3 24 "TagBus$Question" "where" "I") ∈ Gt := gt_mem 148 rfl rfl
set_option maxRecDepth 20000 in
theorem kfl_X0_125 : (Cond.fieldLink RX0 125 "TagBus$Question" "where" "I") ∈ Gt := gt_mem 149 rfl rfl
set_option maxRecDepth 20000 in
theorem kfl_X6_157 : (Cond.fieldLink RX6 157 "TagBus$Question" "where" "I") ∈ Gt := gt_mem 150 rfl rfl
set_option maxRecDepth 20000 in
theorem kfl_X3_27 : (Cond.fieldLink RX3 27 "TagBus$Question" "tag" "I") ∈ Gt := gt_mem 151 rfl rfl
set_option maxRecDepth 20000 in
theorem kfl_X6_160 : (Cond.fieldLink RX6 160 "TagBus$Question" "tag" "I") ∈ Gt := gt_mem 152 rfl rfl
set_option maxRecDepth 20000 in
theorem kfl_X0_232 : (Cond.fieldLink RX0 232 "TagBus$Question" "tag" "I") ∈ Gt := gt_mem 153 rfl rfl
set_option maxRecDepth 20000 in
theorem kfl_X3_30 : (Cond.fieldLink RX3 30 "TagBus$Question" "answer" "I") ∈ Gt := gt_mem 154 rfl rfl
set_option maxRecDepth 20000 in
theorem kfl_X0_157 : (Cond.fieldLink RX0 157 "TagBus$Question" "answer" "I") ∈ Gt := gt_mem 155 rfl rfl
set_option maxRecDepth 20000 in
theorem kfl_X6_163 : (Cond.fieldLink RX6 163 "TagBus$Question" "answer" "I") ∈ Gt := gt_mem 156 rfl rfl
set_option maxRecDepth 20000 in
theorem kfl_X3_33 : (Cond.fieldLink RX3 33 "TagBus$Question" "putAt" "I") ∈ Gt := gt_mem 157 rfl rfl
set_option maxRecDepth 20000 in
theorem kfl_X0_238 : (Cond.fieldLink RX0 238 "TagBus$Question" "putAt" "I") ∈ Gt := gt_mem 158 rfl rfl
set_option maxRecDepth 20000 in
theorem kfl_X3_36 : (Cond.fieldLink RX3 36 "TagBus$Question" "doneAt" "I") ∈ Gt := gt_mem 159 rfl rfl
set_option maxRecDepth 20000 in
theorem kfl_X0_144 : (Cond.fieldLink RX0 144 "TagBus$Question" "doneAt" "I") ∈ Gt := gt_mem 160 rfl rfl
set_option maxRecDepth 20000 in
theorem kfl_X3_39 : (Cond.fieldLink RX3 39 "TagBus$Question" "took" "I") ∈ Gt := gt_mem 161 rfl rfl
set_option maxRecDepth 20000 in
theorem kfl_X6_166 : (Cond.fieldLink RX6 166 "TagBus$Question" "took" "I") ∈ Gt := gt_mem 162 rfl rfl
set_option maxRecDepth 20000 in
theorem kfl_X0_241 : (Cond.fieldLink RX0 241 "TagBus$Question" "took" "I") ∈ Gt := gt_mem 163 rfl rfl
set_option maxRecDepth 20000 in
theorem kfl_X3_42 : (Cond.fieldLink RX3 42 "TagBus$Question" "refusals" "I") ∈ Gt := gt_mem 164 rfl rfl
set_option maxRecDepth 20000 in
theorem kfl_X6_169 : (Cond.fieldLink RX6 169 "TagBus$Question" "refusals" "I") ∈ Gt := gt_mem 165 rfl rfl
set_option maxRecDepth 20000 in
theorem kfl_X0_228 : (Cond.fieldLink RX0 228 "TagBus$Question" "refusals" "I") ∈ Gt := gt_mem 166 rfl rfl
set_option maxRecDepth 20000 in
theorem kfl_X0_9 : (Cond.fieldLink RX0 9 "TagBus$Bus" "settings" "[I") ∈ Gt := gt_mem 190 rfl rfl
set_option maxRecDepth 20000 in
theorem kfl_X6_52 : (Cond.fieldLink RX6 52 "TagBus$Bus" "settings" "[I") ∈ Gt := gt_mem 191 rfl rfl
set_option maxRecDepth 20000 in
theorem kfl_X0_15 : (Cond.fieldLink RX0 15 "TagBus$Bus" "lentTo" "[I") ∈ Gt := gt_mem 192 rfl rfl
set_option maxRecDepth 20000 in
theorem kfl_X6_172 : (Cond.fieldLink RX6 172 "TagBus$Bus" "lentTo" "[I") ∈ Gt := gt_mem 193 rfl rfl
set_option maxRecDepth 20000 in
theorem kfl_X0_20 : (Cond.fieldLink RX0 20 "TagBus$Bus" "masters" "[LTagBus$Master;") ∈ Gt := gt_mem 194 rfl rfl
set_option maxRecDepth 20000 in
theorem kfl_X0_26 : (Cond.fieldLink RX0 26 "TagBus$Bus" "targets" "[LTagBus$Target;") ∈ Gt := gt_mem 195 rfl rfl
set_option maxRecDepth 20000 in
theorem kfl_X0_32 : (Cond.fieldLink RX0 32 "TagBus$Bus" "questions" "[LTagBus$Question;") ∈ Gt := gt_mem 196 rfl rfl
set_option maxRecDepth 20000 in
theorem kfl_X0_56 : (Cond.fieldLink RX0 56 "TagBus$Bus" "questionsSoFar" "I") ∈ Gt := gt_mem 197 rfl rfl
set_option maxRecDepth 20000 in
theorem kfl_X6_218 : (Cond.fieldLink RX6 218 "TagBus$Bus" "questionsSoFar" "I") ∈ Gt := gt_mem 198 rfl rfl
set_option maxRecDepth 20000 in
theorem kfl_X0_62 : (Cond.fieldLink RX0 62 "TagBus$Bus" "tick" "I") ∈ Gt := gt_mem 199 rfl rfl
set_option maxRecDepth 20000 in
theorem kfl_X6_134 : (Cond.fieldLink RX6 134 "TagBus$Bus" "tick" "I") ∈ Gt := gt_mem 200 rfl rfl
set_option maxRecDepth 20000 in
theorem kfl_X0_36 : (Cond.fieldLink RX0 36 "TagBus$Bus" "latestTrip" "I") ∈ Gt := gt_mem 201 rfl rfl
set_option maxRecDepth 20000 in
theorem kfl_X6_215 : (Cond.fieldLink RX6 215 "TagBus$Bus" "latestTrip" "I") ∈ Gt := gt_mem 202 rfl rfl
set_option maxRecDepth 20000 in
theorem kfl_X0_65 : (Cond.fieldLink RX0 65 "TagBus$Bus" "turnOfMaster" "I") ∈ Gt := gt_mem 203 rfl rfl
set_option maxRecDepth 20000 in
theorem kfl_X0_68 : (Cond.fieldLink RX0 68 "TagBus$Bus" "turnOfTarget" "I") ∈ Gt := gt_mem 204 rfl rfl
set_option maxRecDepth 20000 in
theorem kfl_X0_71 : (Cond.fieldLink RX0 71 "TagBus$Bus" "answerTrips" "I") ∈ Gt := gt_mem 205 rfl rfl
set_option maxRecDepth 20000 in
theorem kfl_X6_224 : (Cond.fieldLink RX6 224 "TagBus$Bus" "answerTrips" "I") ∈ Gt := gt_mem 206 rfl rfl
set_option maxRecDepth 20000 in
theorem kfl_X0_74 : (Cond.fieldLink RX0 74 "TagBus$Bus" "questionTrips" "I") ∈ Gt := gt_mem 207 rfl rfl
set_option maxRecDepth 20000 in
theorem kfl_X6_227 : (Cond.fieldLink RX6 227 "TagBus$Bus" "questionTrips" "I") ∈ Gt := gt_mem 208 rfl rfl
set_option maxRecDepth 20000 in
theorem kfl_X0_77 : (Cond.fieldLink RX0 77 "TagBus$Bus" "refusedTrips" "I") ∈ Gt := gt_mem 209 rfl rfl
set_option maxRecDepth 20000 in
theorem kfl_X6_230 : (Cond.fieldLink RX6 230 "TagBus$Bus" "refusedTrips" "I") ∈ Gt := gt_mem 210 rfl rfl
set_option maxRecDepth 20000 in
theorem kfl_X0_80 : (Cond.fieldLink RX0 80 "TagBus$Bus" "idleTicks" "I") ∈ Gt := gt_mem 211 rfl rfl
set_option maxRecDepth 20000 in
theorem kfl_X6_233 : (Cond.fieldLink RX6 233 "TagBus$Bus" "idleTicks" "I") ∈ Gt := gt_mem 212 rfl rfl
set_option maxRecDepth 20000 in
theorem kfl_X0_83 : (Cond.fieldLink RX0 83 "TagBus$Bus" "overtakings" "I") ∈ Gt := gt_mem 213 rfl rfl
set_option maxRecDepth 20000 in
theorem kfl_X6_236 : (Cond.fieldLink RX6 236 "TagBus$Bus" "overtakings" "I") ∈ Gt := gt_mem 214 rfl rfl
set_option maxRecDepth 20000 in
theorem kcl_X6_26 : (Cond.classLink RX6 26 RX4) ∈ Gt := gt_mem 247 rfl rfl
set_option maxRecDepth 20000 in
theorem kia_X4 : (Cond.instantiable RX4 5) ∈ Gt := gt_mem 248 rfl rfl
set_option maxRecDepth 20000 in
theorem kml_X6_28 : (Cond.methodLink RX6 28 yX4_init) ∈ Gt := gt_mem 249 rfl rfl
set_option maxRecDepth 20000 in
theorem kim_X4_init : (Cond.instanceMethod yX4_init) ∈ Gt := gt_mem 250 rfl rfl
set_option maxRecDepth 20000 in
theorem kco_X4_init : (Cond.code yX4_init cX4_init 2 none) ∈ Gt := gt_mem 251 rfl rfl
set_option maxRecDepth 20000 in
theorem kml_X4_3 : (Cond.methodLink RX4 3 Lib.objectInit) ∈ Gt := gt_mem 252 rfl rfl
set_option maxRecDepth 20000 in
theorem kcl_X4_15 : (Cond.classLink RX4 15 RX3) ∈ Gt := gt_mem 253 rfl rfl
set_option maxRecDepth 20000 in
theorem kfl_X4_9 : (Cond.fieldLink RX4 9 "TagBus$QuestionText" "signs" "[C") ∈ Gt := gt_mem 255 rfl rfl
set_option maxRecDepth 20000 in
theorem kfl_X6_144 : (Cond.fieldLink RX6 144 "TagBus$QuestionText" "length" "I") ∈ Gt := gt_mem 256 rfl rfl
set_option maxRecDepth 20000 in
theorem kfl_X4_17 : (Cond.fieldLink RX4 17 "TagBus$QuestionText" "questions" "[LTagBus$Question;") ∈ Gt := gt_mem 257 rfl rfl
set_option maxRecDepth 20000 in
theorem kac_char : (Cond.arrayClass Jvm.ClassFile.FieldType.char) ∈ Gt := gt_mem 269 rfl rfl
set_option maxRecDepth 20000 in
theorem kfl_X6_10 : (Cond.fieldLink RX6 10 "TagBus" "bus" "LTagBus$Bus;") ∈ Gt := gt_mem 270 rfl rfl
set_option maxRecDepth 20000 in
theorem kfl_X6_16 : (Cond.fieldLink RX6 16 "TagBus" "trial" "LTagBus$Bus;") ∈ Gt := gt_mem 271 rfl rfl
set_option maxRecDepth 20000 in
theorem kfl_X6_19 : (Cond.fieldLink RX6 19 "TagBus" "snapshot" "LTagBus$Bus;") ∈ Gt := gt_mem 272 rfl rfl
set_option maxRecDepth 20000 in
theorem kfl_X6_22 : (Cond.fieldLink RX6 22 "TagBus" "past" "[LTagBus$Bus;") ∈ Gt := gt_mem 273 rfl rfl
set_option maxRecDepth 20000 in
theorem kfl_X6_145 : (Cond.fieldLink RX6 145 "TagBus" "pastCount" "I") ∈ Gt := gt_mem 274 rfl rfl
set_option maxRecDepth 20000 in
theorem kfl_X6_29 : (Cond.fieldLink RX6 29 "TagBus" "text" "LTagBus$QuestionText;") ∈ Gt := gt_mem 275 rfl rfl
set_option maxRecDepth 20000 in
theorem kml_L_43 : (Cond.methodLink RL 43 yX6_count) ∈ Gt := gt_mem 291 rfl rfl
set_option maxRecDepth 20000 in
theorem kim_X6_count : (Cond.instanceMethod yX6_count) ∈ Gt := gt_mem 292 rfl rfl
set_option maxRecDepth 20000 in
theorem kse_X6_count : (Cond.selects RX6 yX6_count yX6_count) ∈ Gt := gt_mem 293 rfl rfl
set_option maxRecDepth 20000 in
theorem kco_X6_count : (Cond.code yX6_count cX6_count 2 (some Jvm.ClassFile.FieldType.int)) ∈ Gt := gt_mem 294 rfl rfl
set_option maxRecDepth 20000 in
theorem kml_X6_221 : (Cond.methodLink RX6 221 yX0_freeTags) ∈ Gt := gt_mem 295 rfl rfl
set_option maxRecDepth 20000 in
theorem kim_X0_freeTags : (Cond.instanceMethod yX0_freeTags) ∈ Gt := gt_mem 296 rfl rfl
set_option maxRecDepth 20000 in
theorem kse_X0_freeTags : (Cond.selects RX0 yX0_freeTags yX0_freeTags) ∈ Gt := gt_mem 297 rfl rfl
set_option maxRecDepth 20000 in
theorem kco_X0_freeTags : (Cond.code yX0_freeTags cX0_freeTags 3 (some Jvm.ClassFile.FieldType.int)) ∈ Gt := gt_mem 298 rfl rfl
set_option maxRecDepth 20000 in
theorem kml_L_72 : (Cond.methodLink RL 72 yL_cell) ∈ Gt := gt_mem 299 rfl rfl
set_option maxRecDepth 20000 in
theorem kst_L_cell : (Cond.static yL_cell) ∈ Gt := gt_mem 300 rfl rfl
set_option maxRecDepth 20000 in
theorem kco_L_cell : (Cond.code yL_cell cL_cell 2 (some Jvm.ClassFile.FieldType.int)) ∈ Gt := gt_mem 301 rfl rfl
set_option maxRecDepth 20000 in
theorem kml_L_14 : (Cond.methodLink RL 14 yL_low) ∈ Gt := gt_mem 302 rfl rfl
set_option maxRecDepth 20000 in
theorem kst_L_low : (Cond.static yL_low) ∈ Gt := gt_mem 303 rfl rfl
set_option maxRecDepth 20000 in
theorem kco_L_low : (Cond.code yL_low cL_low 2 (some Jvm.ClassFile.FieldType.int)) ∈ Gt := gt_mem 304 rfl rfl
set_option maxRecDepth 20000 in
theorem kcn_L_7 : (Cond.constant RL 7 2147483647) ∈ Gt := gt_mem 305 rfl rfl
set_option maxRecDepth 20000 in
theorem kml_L_76 : (Cond.methodLink RL 76 yL_does) ∈ Gt := gt_mem 306 rfl rfl
set_option maxRecDepth 20000 in
theorem kst_L_does : (Cond.static yL_does) ∈ Gt := gt_mem 307 rfl rfl
set_option maxRecDepth 20000 in
theorem kco_L_does : (Cond.code yL_does cL_does 4 (some Jvm.ClassFile.FieldType.int)) ∈ Gt := gt_mem 308 rfl rfl
set_option maxRecDepth 20000 in
theorem kml_L_8 : (Cond.methodLink RL 8 yX6_read) ∈ Gt := gt_mem 309 rfl rfl
set_option maxRecDepth 20000 in
theorem kim_X6_read : (Cond.instanceMethod yX6_read) ∈ Gt := gt_mem 310 rfl rfl
set_option maxRecDepth 20000 in
theorem kse_X6_read : (Cond.selects RX6 yX6_read yX6_read) ∈ Gt := gt_mem 311 rfl rfl
set_option maxRecDepth 20000 in
theorem kco_X6_read : (Cond.code yX6_read cX6_read 4 (some Jvm.ClassFile.FieldType.int)) ∈ Gt := gt_mem 312 rfl rfl
set_option maxRecDepth 20000 in
theorem kml_X6_86 : (Cond.methodLink RX6 86 yX6_putOne) ∈ Gt := gt_mem 313 rfl rfl
set_option maxRecDepth 20000 in
theorem kim_X6_putOne : (Cond.instanceMethod yX6_putOne) ∈ Gt := gt_mem 315 rfl rfl
set_option maxRecDepth 20000 in
theorem kco_X6_putOne : (Cond.code yX6_putOne cX6_putOne 6 (some Jvm.ClassFile.FieldType.int)) ∈ Gt := gt_mem 316 rfl rfl
set_option maxRecDepth 20000 in
theorem kml_X6_58 : (Cond.methodLink RX6 58 yX0_masterAt) ∈ Gt := gt_mem 317 rfl rfl
set_option maxRecDepth 20000 in
theorem kim_X0_masterAt : (Cond.instanceMethod yX0_masterAt) ∈ Gt := gt_mem 318 rfl rfl
set_option maxRecDepth 20000 in
theorem kse_X0_masterAt : (Cond.selects RX0 yX0_masterAt yX0_masterAt) ∈ Gt := gt_mem 319 rfl rfl
set_option maxRecDepth 20000 in
theorem kco_X0_masterAt : (Cond.code yX0_masterAt cX0_masterAt 2 (some (Jvm.ClassFile.FieldType.object "TagBus$Master"))) ∈ Gt := gt_mem 320 rfl rfl
set_option maxRecDepth 20000 in
theorem kst_X6_isIndex : (Cond.static yX6_isIndex) ∈ Gt := gt_mem 322 rfl rfl
set_option maxRecDepth 20000 in
theorem kco_X6_isIndex : (Cond.code yX6_isIndex cX6_isIndex 2 (some Jvm.ClassFile.FieldType.boolean)) ∈ Gt := gt_mem 323 rfl rfl
set_option maxRecDepth 20000 in
theorem kml_X6_68 : (Cond.methodLink RX6 68 yX0_targetAt) ∈ Gt := gt_mem 324 rfl rfl
set_option maxRecDepth 20000 in
theorem kim_X0_targetAt : (Cond.instanceMethod yX0_targetAt) ∈ Gt := gt_mem 325 rfl rfl
set_option maxRecDepth 20000 in
theorem kse_X0_targetAt : (Cond.selects RX0 yX0_targetAt yX0_targetAt) ∈ Gt := gt_mem 326 rfl rfl
set_option maxRecDepth 20000 in
theorem kco_X0_targetAt : (Cond.code yX0_targetAt cX0_targetAt 2 (some (Jvm.ClassFile.FieldType.object "TagBus$Target"))) ∈ Gt := gt_mem 327 rfl rfl
set_option maxRecDepth 20000 in
theorem kml_X6_37 : (Cond.methodLink RX6 37 yX6_isIndex) ∈ Gt := gt_mem 328 rfl rfl
set_option maxRecDepth 20000 in
theorem kml_X6_55 : (Cond.methodLink RX6 55 yX6_record) ∈ Gt := gt_mem 329 rfl rfl
set_option maxRecDepth 20000 in
theorem kim_X6_record : (Cond.instanceMethod yX6_record) ∈ Gt := gt_mem 331 rfl rfl
set_option maxRecDepth 20000 in
theorem kco_X6_record : (Cond.code yX6_record cX6_record 3 none) ∈ Gt := gt_mem 332 rfl rfl
set_option maxRecDepth 20000 in
theorem kml_X6_148 : (Cond.methodLink RX6 148 yX0_copyFrom) ∈ Gt := gt_mem 333 rfl rfl
set_option maxRecDepth 20000 in
theorem kim_X0_copyFrom : (Cond.instanceMethod yX0_copyFrom) ∈ Gt := gt_mem 334 rfl rfl
set_option maxRecDepth 20000 in
theorem kse_X0_copyFrom : (Cond.selects RX0 yX0_copyFrom yX0_copyFrom) ∈ Gt := gt_mem 335 rfl rfl
set_option maxRecDepth 20000 in
theorem kco_X0_copyFrom : (Cond.code yX0_copyFrom cX0_copyFrom 3 none) ∈ Gt := gt_mem 336 rfl rfl
set_option maxRecDepth 20000 in
theorem kml_X0_43 : (Cond.methodLink RX0 43 arraycopyName) ∈ Gt := gt_mem 337 rfl rfl
set_option maxRecDepth 20000 in
theorem kst_arraycopyName : (Cond.static arraycopyName) ∈ Gt := gt_mem 338 rfl rfl
set_option maxRecDepth 20000 in
theorem kna_arraycopyName : (Cond.native arraycopyName) ∈ Gt := gt_mem 339 rfl rfl
set_option maxRecDepth 20000 in
theorem kml_X0_49 : (Cond.methodLink RX0 49 yX2_copyFrom) ∈ Gt := gt_mem 340 rfl rfl
set_option maxRecDepth 20000 in
theorem kim_X2_copyFrom : (Cond.instanceMethod yX2_copyFrom) ∈ Gt := gt_mem 341 rfl rfl
set_option maxRecDepth 20000 in
theorem kse_X2_copyFrom : (Cond.selects RX2 yX2_copyFrom yX2_copyFrom) ∈ Gt := gt_mem 342 rfl rfl
set_option maxRecDepth 20000 in
theorem kco_X2_copyFrom : (Cond.code yX2_copyFrom cX2_copyFrom 2 none) ∈ Gt := gt_mem 343 rfl rfl
set_option maxRecDepth 20000 in
theorem kml_X2_25 : (Cond.methodLink RX2 25 yX1_copyFrom) ∈ Gt := gt_mem 344 rfl rfl
set_option maxRecDepth 20000 in
theorem kim_X1_copyFrom : (Cond.instanceMethod yX1_copyFrom) ∈ Gt := gt_mem 345 rfl rfl
set_option maxRecDepth 20000 in
theorem kse_X1_copyFrom : (Cond.selects RX1 yX1_copyFrom yX1_copyFrom) ∈ Gt := gt_mem 346 rfl rfl
set_option maxRecDepth 20000 in
theorem kco_X1_copyFrom : (Cond.code yX1_copyFrom cX1_copyFrom 2 none) ∈ Gt := gt_mem 347 rfl rfl
set_option maxRecDepth 20000 in
theorem kml_X1_23 : (Cond.methodLink RX1 23 arraycopyName) ∈ Gt := gt_mem 348 rfl rfl
set_option maxRecDepth 20000 in
theorem kml_X0_53 : (Cond.methodLink RX0 53 yX5_copyFrom) ∈ Gt := gt_mem 349 rfl rfl
set_option maxRecDepth 20000 in
theorem kim_X5_copyFrom : (Cond.instanceMethod yX5_copyFrom) ∈ Gt := gt_mem 350 rfl rfl
set_option maxRecDepth 20000 in
theorem kse_X5_copyFrom : (Cond.selects RX5 yX5_copyFrom yX5_copyFrom) ∈ Gt := gt_mem 351 rfl rfl
set_option maxRecDepth 20000 in
theorem kco_X5_copyFrom : (Cond.code yX5_copyFrom cX5_copyFrom 2 none) ∈ Gt := gt_mem 352 rfl rfl
set_option maxRecDepth 20000 in
theorem kml_X5_33 : (Cond.methodLink RX5 33 arraycopyName) ∈ Gt := gt_mem 353 rfl rfl
set_option maxRecDepth 20000 in
theorem kml_X5_39 : (Cond.methodLink RX5 39 yX1_copyFrom) ∈ Gt := gt_mem 354 rfl rfl
set_option maxRecDepth 20000 in
theorem kml_X0_59 : (Cond.methodLink RX0 59 yX3_copyFrom) ∈ Gt := gt_mem 355 rfl rfl
set_option maxRecDepth 20000 in
theorem kim_X3_copyFrom : (Cond.instanceMethod yX3_copyFrom) ∈ Gt := gt_mem 356 rfl rfl
set_option maxRecDepth 20000 in
theorem kse_X3_copyFrom : (Cond.selects RX3 yX3_copyFrom yX3_copyFrom) ∈ Gt := gt_mem 357 rfl rfl
set_option maxRecDepth 20000 in
theorem kco_X3_copyFrom : (Cond.code yX3_copyFrom cX3_copyFrom 2 none) ∈ Gt := gt_mem 358 rfl rfl
set_option maxRecDepth 20000 in
theorem kml_X6_118 : (Cond.methodLink RX6 118 yX0_put) ∈ Gt := gt_mem 359 rfl rfl
set_option maxRecDepth 20000 in
theorem kim_X0_put : (Cond.instanceMethod yX0_put) ∈ Gt := gt_mem 360 rfl rfl
set_option maxRecDepth 20000 in
theorem kse_X0_put : (Cond.selects RX0 yX0_put yX0_put) ∈ Gt := gt_mem 361 rfl rfl
set_option maxRecDepth 20000 in
theorem kco_X0_put : (Cond.code yX0_put cX0_put 7 (some Jvm.ClassFile.FieldType.int)) ∈ Gt := gt_mem 362 rfl rfl
set_option maxRecDepth 20000 in
theorem kml_X0_90 : (Cond.methodLink RX0 90 yX0_masterAt) ∈ Gt := gt_mem 363 rfl rfl
set_option maxRecDepth 20000 in
theorem kml_X0_94 : (Cond.methodLink RX0 94 yX3_begin) ∈ Gt := gt_mem 364 rfl rfl
set_option maxRecDepth 20000 in
theorem kim_X3_begin : (Cond.instanceMethod yX3_begin) ∈ Gt := gt_mem 365 rfl rfl
set_option maxRecDepth 20000 in
theorem kse_X3_begin : (Cond.selects RX3 yX3_begin yX3_begin) ∈ Gt := gt_mem 366 rfl rfl
set_option maxRecDepth 20000 in
theorem kco_X3_begin : (Cond.code yX3_begin cX3_begin 6 none) ∈ Gt := gt_mem 367 rfl rfl
set_option maxRecDepth 20000 in
theorem kml_X0_102 : (Cond.methodLink RX0 102 yX1_append) ∈ Gt := gt_mem 368 rfl rfl
set_option maxRecDepth 20000 in
theorem kim_X1_append : (Cond.instanceMethod yX1_append) ∈ Gt := gt_mem 369 rfl rfl
set_option maxRecDepth 20000 in
theorem kse_X1_append : (Cond.selects RX1 yX1_append yX1_append) ∈ Gt := gt_mem 370 rfl rfl
set_option maxRecDepth 20000 in
theorem kco_X1_append : (Cond.code yX1_append cX1_append 2 none) ∈ Gt := gt_mem 371 rfl rfl
set_option maxRecDepth 20000 in
theorem kml_L_20 : (Cond.methodLink RL 20 yX6_write) ∈ Gt := gt_mem 373 rfl rfl
set_option maxRecDepth 20000 in
theorem kim_X6_write : (Cond.instanceMethod yX6_write) ∈ Gt := gt_mem 374 rfl rfl
set_option maxRecDepth 20000 in
theorem kse_X6_write : (Cond.selects RX6 yX6_write yX6_write) ∈ Gt := gt_mem 375 rfl rfl
set_option maxRecDepth 20000 in
theorem kco_X6_write : (Cond.code yX6_write cX6_write 5 (some Jvm.ClassFile.FieldType.int)) ∈ Gt := gt_mem 376 rfl rfl
set_option maxRecDepth 20000 in
theorem kml_X6_44 : (Cond.methodLink RX6 44 yX6_isBetween) ∈ Gt := gt_mem 377 rfl rfl
set_option maxRecDepth 20000 in
theorem kst_X6_isBetween : (Cond.static yX6_isBetween) ∈ Gt := gt_mem 378 rfl rfl
set_option maxRecDepth 20000 in
theorem kco_X6_isBetween : (Cond.code yX6_isBetween cX6_isBetween 3 (some Jvm.ClassFile.FieldType.boolean)) ∈ Gt := gt_mem 379 rfl rfl
set_option maxRecDepth 20000 in
theorem kml_L_24 : (Cond.methodLink RL 24 yX6_withdraw) ∈ Gt := gt_mem 380 rfl rfl
set_option maxRecDepth 20000 in
theorem kim_X6_withdraw : (Cond.instanceMethod yX6_withdraw) ∈ Gt := gt_mem 381 rfl rfl
set_option maxRecDepth 20000 in
theorem kse_X6_withdraw : (Cond.selects RX6 yX6_withdraw yX6_withdraw) ∈ Gt := gt_mem 382 rfl rfl
set_option maxRecDepth 20000 in
theorem kco_X6_withdraw : (Cond.code yX6_withdraw cX6_withdraw 3 (some Jvm.ClassFile.FieldType.int)) ∈ Gt := gt_mem 383 rfl rfl
set_option maxRecDepth 20000 in
theorem kml_X6_130 : (Cond.methodLink RX6 130 yX0_takeLastOf) ∈ Gt := gt_mem 384 rfl rfl
set_option maxRecDepth 20000 in
theorem kim_X0_takeLastOf : (Cond.instanceMethod yX0_takeLastOf) ∈ Gt := gt_mem 385 rfl rfl
set_option maxRecDepth 20000 in
theorem kse_X0_takeLastOf : (Cond.selects RX0 yX0_takeLastOf yX0_takeLastOf) ∈ Gt := gt_mem 386 rfl rfl
set_option maxRecDepth 20000 in
theorem kco_X0_takeLastOf : (Cond.code yX0_takeLastOf cX0_takeLastOf 5 (some Jvm.ClassFile.FieldType.int)) ∈ Gt := gt_mem 387 rfl rfl
set_option maxRecDepth 20000 in
theorem kml_X0_111 : (Cond.methodLink RX0 111 yX1_at) ∈ Gt := gt_mem 388 rfl rfl
set_option maxRecDepth 20000 in
theorem kim_X1_at : (Cond.instanceMethod yX1_at) ∈ Gt := gt_mem 389 rfl rfl
set_option maxRecDepth 20000 in
theorem kse_X1_at : (Cond.selects RX1 yX1_at yX1_at) ∈ Gt := gt_mem 390 rfl rfl
set_option maxRecDepth 20000 in
theorem kco_X1_at : (Cond.code yX1_at cX1_at 2 (some Jvm.ClassFile.FieldType.int)) ∈ Gt := gt_mem 391 rfl rfl
set_option maxRecDepth 20000 in
theorem kml_X0_115 : (Cond.methodLink RX0 115 yX1_removeAt) ∈ Gt := gt_mem 392 rfl rfl
set_option maxRecDepth 20000 in
theorem kim_X1_removeAt : (Cond.instanceMethod yX1_removeAt) ∈ Gt := gt_mem 393 rfl rfl
set_option maxRecDepth 20000 in
theorem kse_X1_removeAt : (Cond.selects RX1 yX1_removeAt yX1_removeAt) ∈ Gt := gt_mem 394 rfl rfl
set_option maxRecDepth 20000 in
theorem kco_X1_removeAt : (Cond.code yX1_removeAt cX1_removeAt 3 none) ∈ Gt := gt_mem 395 rfl rfl
set_option maxRecDepth 20000 in
theorem kml_X0_121 : (Cond.methodLink RX0 121 yX0_questionAt) ∈ Gt := gt_mem 396 rfl rfl
set_option maxRecDepth 20000 in
theorem kim_X0_questionAt : (Cond.instanceMethod yX0_questionAt) ∈ Gt := gt_mem 397 rfl rfl
set_option maxRecDepth 20000 in
theorem kse_X0_questionAt : (Cond.selects RX0 yX0_questionAt yX0_questionAt) ∈ Gt := gt_mem 398 rfl rfl
set_option maxRecDepth 20000 in
theorem kco_X0_questionAt : (Cond.code yX0_questionAt cX0_questionAt 2 (some (Jvm.ClassFile.FieldType.object "TagBus$Question"))) ∈ Gt := gt_mem 399 rfl rfl
set_option maxRecDepth 20000 in
theorem kml_L_28 : (Cond.methodLink RL 28 yX6_set) ∈ Gt := gt_mem 400 rfl rfl
set_option maxRecDepth 20000 in
theorem kim_X6_set : (Cond.instanceMethod yX6_set) ∈ Gt := gt_mem 401 rfl rfl
set_option maxRecDepth 20000 in
theorem kse_X6_set : (Cond.selects RX6 yX6_set yX6_set) ∈ Gt := gt_mem 402 rfl rfl
set_option maxRecDepth 20000 in
theorem kco_X6_set : (Cond.code yX6_set cX6_set 4 (some Jvm.ClassFile.FieldType.int)) ∈ Gt := gt_mem 403 rfl rfl
set_option maxRecDepth 20000 in
theorem kfl_X6_33 : (Cond.fieldLink RX6 33 "TagBus" "LEAST_SETTING" "[I") ∈ Gt := gt_mem 404 rfl rfl
set_option maxRecDepth 20000 in
theorem kfl_X6_41 : (Cond.fieldLink RX6 41 "TagBus" "MOST_SETTING" "[I") ∈ Gt := gt_mem 406 rfl rfl
set_option maxRecDepth 20000 in
theorem kml_X6_48 : (Cond.methodLink RX6 48 yX0_highestLentTag) ∈ Gt := gt_mem 408 rfl rfl
set_option maxRecDepth 20000 in
theorem kim_X0_highestLentTag : (Cond.instanceMethod yX0_highestLentTag) ∈ Gt := gt_mem 409 rfl rfl
set_option maxRecDepth 20000 in
theorem kse_X0_highestLentTag : (Cond.selects RX0 yX0_highestLentTag yX0_highestLentTag) ∈ Gt := gt_mem 410 rfl rfl
set_option maxRecDepth 20000 in
theorem kco_X0_highestLentTag : (Cond.code yX0_highestLentTag cX0_highestLentTag 3 (some Jvm.ClassFile.FieldType.int)) ∈ Gt := gt_mem 411 rfl rfl
set_option maxRecDepth 20000 in
theorem kml_L_31 : (Cond.methodLink RL 31 yX6_setShare) ∈ Gt := gt_mem 412 rfl rfl
set_option maxRecDepth 20000 in
theorem kim_X6_setShare : (Cond.instanceMethod yX6_setShare) ∈ Gt := gt_mem 413 rfl rfl
set_option maxRecDepth 20000 in
theorem kse_X6_setShare : (Cond.selects RX6 yX6_setShare yX6_setShare) ∈ Gt := gt_mem 414 rfl rfl
set_option maxRecDepth 20000 in
theorem kco_X6_setShare : (Cond.code yX6_setShare cX6_setShare 5 (some Jvm.ClassFile.FieldType.int)) ∈ Gt := gt_mem 415 rfl rfl
set_option maxRecDepth 20000 in
theorem kml_L_34 : (Cond.methodLink RL 34 yX6_setTarget) ∈ Gt := gt_mem 416 rfl rfl
set_option maxRecDepth 20000 in
theorem kim_X6_setTarget : (Cond.instanceMethod yX6_setTarget) ∈ Gt := gt_mem 417 rfl rfl
set_option maxRecDepth 20000 in
theorem kse_X6_setTarget : (Cond.selects RX6 yX6_setTarget yX6_setTarget) ∈ Gt := gt_mem 418 rfl rfl
set_option maxRecDepth 20000 in
theorem kco_X6_setTarget : (Cond.code yX6_setTarget cX6_setTarget 6 (some Jvm.ClassFile.FieldType.int)) ∈ Gt := gt_mem 419 rfl rfl
set_option maxRecDepth 20000 in
theorem kfl_X6_72 : (Cond.fieldLink RX6 72 "TagBus" "LEAST_OF_TARGET" "[I") ∈ Gt := gt_mem 420 rfl rfl
set_option maxRecDepth 20000 in
theorem kfl_X6_75 : (Cond.fieldLink RX6 75 "TagBus" "MOST_OF_TARGET" "[I") ∈ Gt := gt_mem 422 rfl rfl
set_option maxRecDepth 20000 in
theorem kml_L_37 : (Cond.methodLink RL 37 yX6_setCell) ∈ Gt := gt_mem 424 rfl rfl
set_option maxRecDepth 20000 in
theorem kim_X6_setCell : (Cond.instanceMethod yX6_setCell) ∈ Gt := gt_mem 425 rfl rfl
set_option maxRecDepth 20000 in
theorem kse_X6_setCell : (Cond.selects RX6 yX6_setCell yX6_setCell) ∈ Gt := gt_mem 426 rfl rfl
set_option maxRecDepth 20000 in
theorem kco_X6_setCell : (Cond.code yX6_setCell cX6_setCell 6 (some Jvm.ClassFile.FieldType.int)) ∈ Gt := gt_mem 427 rfl rfl
set_option maxRecDepth 20000 in
theorem kml_L_40 : (Cond.methodLink RL 40 yX6_pass) ∈ Gt := gt_mem 428 rfl rfl
set_option maxRecDepth 20000 in
theorem kim_X6_pass : (Cond.instanceMethod yX6_pass) ∈ Gt := gt_mem 429 rfl rfl
set_option maxRecDepth 20000 in
theorem kse_X6_pass : (Cond.selects RX6 yX6_pass yX6_pass) ∈ Gt := gt_mem 430 rfl rfl
set_option maxRecDepth 20000 in
theorem kco_X6_pass : (Cond.code yX6_pass cX6_pass 4 (some Jvm.ClassFile.FieldType.int)) ∈ Gt := gt_mem 431 rfl rfl
set_option maxRecDepth 20000 in
theorem kml_X6_137 : (Cond.methodLink RX6 137 yX0_passTick) ∈ Gt := gt_mem 432 rfl rfl
set_option maxRecDepth 20000 in
theorem kim_X0_passTick : (Cond.instanceMethod yX0_passTick) ∈ Gt := gt_mem 433 rfl rfl
set_option maxRecDepth 20000 in
theorem kse_X0_passTick : (Cond.selects RX0 yX0_passTick yX0_passTick) ∈ Gt := gt_mem 434 rfl rfl
set_option maxRecDepth 20000 in
theorem kco_X0_passTick : (Cond.code yX0_passTick cX0_passTick 3 (some Jvm.ClassFile.FieldType.int)) ∈ Gt := gt_mem 435 rfl rfl
set_option maxRecDepth 20000 in
theorem kml_X0_131 : (Cond.methodLink RX0 131 yX0_finishQuestions) ∈ Gt := gt_mem 436 rfl rfl
set_option maxRecDepth 20000 in
theorem kim_X0_finishQuestions : (Cond.instanceMethod yX0_finishQuestions) ∈ Gt := gt_mem 438 rfl rfl
set_option maxRecDepth 20000 in
theorem kco_X0_finishQuestions : (Cond.code yX0_finishQuestions cX0_finishQuestions 7 none) ∈ Gt := gt_mem 439 rfl rfl
set_option maxRecDepth 20000 in
theorem kml_X0_153 : (Cond.methodLink RX0 153 yX5_useCell) ∈ Gt := gt_mem 440 rfl rfl
set_option maxRecDepth 20000 in
theorem kim_X5_useCell : (Cond.instanceMethod yX5_useCell) ∈ Gt := gt_mem 441 rfl rfl
set_option maxRecDepth 20000 in
theorem kse_X5_useCell : (Cond.selects RX5 yX5_useCell yX5_useCell) ∈ Gt := gt_mem 442 rfl rfl
set_option maxRecDepth 20000 in
theorem kco_X5_useCell : (Cond.code yX5_useCell cX5_useCell 4 (some Jvm.ClassFile.FieldType.int)) ∈ Gt := gt_mem 443 rfl rfl
set_option maxRecDepth 20000 in
theorem kml_X0_134 : (Cond.methodLink RX0 134 yX0_makeTrip) ∈ Gt := gt_mem 445 rfl rfl
set_option maxRecDepth 20000 in
theorem kim_X0_makeTrip : (Cond.instanceMethod yX0_makeTrip) ∈ Gt := gt_mem 447 rfl rfl
set_option maxRecDepth 20000 in
theorem kco_X0_makeTrip : (Cond.code yX0_makeTrip cX0_makeTrip 3 (some Jvm.ClassFile.FieldType.int)) ∈ Gt := gt_mem 448 rfl rfl
set_option maxRecDepth 20000 in
theorem kml_X0_160 : (Cond.methodLink RX0 160 yX0_targetThatAnswers) ∈ Gt := gt_mem 449 rfl rfl
set_option maxRecDepth 20000 in
theorem kim_X0_targetThatAnswers : (Cond.instanceMethod yX0_targetThatAnswers) ∈ Gt := gt_mem 451 rfl rfl
set_option maxRecDepth 20000 in
theorem kco_X0_targetThatAnswers : (Cond.code yX0_targetThatAnswers cX0_targetThatAnswers 4 (some Jvm.ClassFile.FieldType.int)) ∈ Gt := gt_mem 452 rfl rfl
set_option maxRecDepth 20000 in
theorem kml_X0_176 : (Cond.methodLink RX0 176 yX0_targetAt) ∈ Gt := gt_mem 453 rfl rfl
set_option maxRecDepth 20000 in
theorem kml_X0_180 : (Cond.methodLink RX0 180 yX0_placeOfAnswer) ∈ Gt := gt_mem 454 rfl rfl
set_option maxRecDepth 20000 in
theorem kim_X0_placeOfAnswer : (Cond.instanceMethod yX0_placeOfAnswer) ∈ Gt := gt_mem 455 rfl rfl
set_option maxRecDepth 20000 in
theorem kse_X0_placeOfAnswer : (Cond.selects RX0 yX0_placeOfAnswer yX0_placeOfAnswer) ∈ Gt := gt_mem 456 rfl rfl
set_option maxRecDepth 20000 in
theorem kco_X0_placeOfAnswer : (Cond.code yX0_placeOfAnswer cX0_placeOfAnswer 8 (some Jvm.ClassFile.FieldType.int)) ∈ Gt := gt_mem 457 rfl rfl
set_option maxRecDepth 20000 in
theorem kml_X0_187 : (Cond.methodLink RX0 187 Lib.Math.min.name) ∈ Gt := gt_mem 458 rfl rfl
set_option maxRecDepth 20000 in
theorem kst_Lib_Math_min_name : (Cond.static Lib.Math.min.name) ∈ Gt := gt_mem 459 rfl rfl
set_option maxRecDepth 20000 in
theorem kco_Lib_Math_min_name : (Cond.code Lib.Math.min.name Lib.Math.min.code 2 (some Jvm.ClassFile.FieldType.int)) ∈ Gt := gt_mem 460 rfl rfl
set_option maxRecDepth 20000 in
theorem kml_X0_163 : (Cond.methodLink RX0 163 yX0_masterThatSends) ∈ Gt := gt_mem 461 rfl rfl
set_option maxRecDepth 20000 in
theorem kim_X0_masterThatSends : (Cond.instanceMethod yX0_masterThatSends) ∈ Gt := gt_mem 463 rfl rfl
set_option maxRecDepth 20000 in
theorem kco_X0_masterThatSends : (Cond.code yX0_masterThatSends cX0_masterThatSends 5 (some Jvm.ClassFile.FieldType.int)) ∈ Gt := gt_mem 464 rfl rfl
set_option maxRecDepth 20000 in
theorem kml_X0_192 : (Cond.methodLink RX0 192 yX0_lowestFreeTag) ∈ Gt := gt_mem 465 rfl rfl
set_option maxRecDepth 20000 in
theorem kim_X0_lowestFreeTag : (Cond.instanceMethod yX0_lowestFreeTag) ∈ Gt := gt_mem 466 rfl rfl
set_option maxRecDepth 20000 in
theorem kse_X0_lowestFreeTag : (Cond.selects RX0 yX0_lowestFreeTag yX0_lowestFreeTag) ∈ Gt := gt_mem 467 rfl rfl
set_option maxRecDepth 20000 in
theorem kco_X0_lowestFreeTag : (Cond.code yX0_lowestFreeTag cX0_lowestFreeTag 2 (some Jvm.ClassFile.FieldType.int)) ∈ Gt := gt_mem 468 rfl rfl
set_option maxRecDepth 20000 in
theorem kml_X0_195 : (Cond.methodLink RX0 195 yX0_masterThatWaitedTooLong) ∈ Gt := gt_mem 469 rfl rfl
set_option maxRecDepth 20000 in
theorem kim_X0_masterThatWaitedTooLong : (Cond.instanceMethod yX0_masterThatWaitedTooLong) ∈ Gt := gt_mem 471 rfl rfl
set_option maxRecDepth 20000 in
theorem kco_X0_masterThatWaitedTooLong : (Cond.code yX0_masterThatWaitedTooLong cX0_masterThatWaitedTooLong 5 (some Jvm.ClassFile.FieldType.int)) ∈ Gt := gt_mem 472 rfl rfl
set_option maxRecDepth 20000 in
theorem kml_X0_198 : (Cond.methodLink RX0 198 yX0_maySend) ∈ Gt := gt_mem 473 rfl rfl
set_option maxRecDepth 20000 in
theorem kim_X0_maySend : (Cond.instanceMethod yX0_maySend) ∈ Gt := gt_mem 475 rfl rfl
set_option maxRecDepth 20000 in
theorem kco_X0_maySend : (Cond.code yX0_maySend cX0_maySend 2 (some Jvm.ClassFile.FieldType.boolean)) ∈ Gt := gt_mem 476 rfl rfl
set_option maxRecDepth 20000 in
theorem kml_X0_202 : (Cond.methodLink RX0 202 yX0_isOutOfPatience) ∈ Gt := gt_mem 477 rfl rfl
set_option maxRecDepth 20000 in
theorem kim_X0_isOutOfPatience : (Cond.instanceMethod yX0_isOutOfPatience) ∈ Gt := gt_mem 478 rfl rfl
set_option maxRecDepth 20000 in
theorem kse_X0_isOutOfPatience : (Cond.selects RX0 yX0_isOutOfPatience yX0_isOutOfPatience) ∈ Gt := gt_mem 479 rfl rfl
set_option maxRecDepth 20000 in
theorem kco_X0_isOutOfPatience : (Cond.code yX0_isOutOfPatience cX0_isOutOfPatience 2 (some Jvm.ClassFile.FieldType.boolean)) ∈ Gt := gt_mem 480 rfl rfl
set_option maxRecDepth 20000 in
theorem kml_X0_166 : (Cond.methodLink RX0 166 yX0_prefersAnswer) ∈ Gt := gt_mem 481 rfl rfl
set_option maxRecDepth 20000 in
theorem kim_X0_prefersAnswer : (Cond.instanceMethod yX0_prefersAnswer) ∈ Gt := gt_mem 483 rfl rfl
set_option maxRecDepth 20000 in
theorem kco_X0_prefersAnswer : (Cond.code yX0_prefersAnswer cX0_prefersAnswer 2 (some Jvm.ClassFile.FieldType.boolean)) ∈ Gt := gt_mem 484 rfl rfl
set_option maxRecDepth 20000 in
theorem kml_X0_170 : (Cond.methodLink RX0 170 yX0_sendAnswerOf) ∈ Gt := gt_mem 485 rfl rfl
set_option maxRecDepth 20000 in
theorem kim_X0_sendAnswerOf : (Cond.instanceMethod yX0_sendAnswerOf) ∈ Gt := gt_mem 487 rfl rfl
set_option maxRecDepth 20000 in
theorem kco_X0_sendAnswerOf : (Cond.code yX0_sendAnswerOf cX0_sendAnswerOf 6 (some Jvm.ClassFile.FieldType.int)) ∈ Gt := gt_mem 488 rfl rfl
set_option maxRecDepth 20000 in
theorem kml_X0_235 : (Cond.methodLink RX0 235 yX0_takeTagBack) ∈ Gt := gt_mem 489 rfl rfl
set_option maxRecDepth 20000 in
theorem kim_X0_takeTagBack : (Cond.instanceMethod yX0_takeTagBack) ∈ Gt := gt_mem 491 rfl rfl
set_option maxRecDepth 20000 in
theorem kco_X0_takeTagBack : (Cond.code yX0_takeTagBack cX0_takeTagBack 2 none) ∈ Gt := gt_mem 492 rfl rfl
set_option maxRecDepth 20000 in
theorem kml_X0_244 : (Cond.methodLink RX0 244 yX0_noteAnswer) ∈ Gt := gt_mem 493 rfl rfl
set_option maxRecDepth 20000 in
theorem kim_X0_noteAnswer : (Cond.instanceMethod yX0_noteAnswer) ∈ Gt := gt_mem 495 rfl rfl
set_option maxRecDepth 20000 in
theorem kco_X0_noteAnswer : (Cond.code yX0_noteAnswer cX0_noteAnswer 3 none) ∈ Gt := gt_mem 496 rfl rfl
set_option maxRecDepth 20000 in
theorem kml_X0_254 : (Cond.methodLink RX0 254 Lib.Math.max.name) ∈ Gt := gt_mem 497 rfl rfl
set_option maxRecDepth 20000 in
theorem kst_Lib_Math_max_name : (Cond.static Lib.Math.max.name) ∈ Gt := gt_mem 498 rfl rfl
set_option maxRecDepth 20000 in
theorem kco_Lib_Math_max_name : (Cond.code Lib.Math.max.name Lib.Math.max.code 2 (some Jvm.ClassFile.FieldType.int)) ∈ Gt := gt_mem 499 rfl rfl
set_option maxRecDepth 20000 in
theorem kml_X0_173 : (Cond.methodLink RX0 173 yX0_sendQuestionOf) ∈ Gt := gt_mem 500 rfl rfl
set_option maxRecDepth 20000 in
theorem kim_X0_sendQuestionOf : (Cond.instanceMethod yX0_sendQuestionOf) ∈ Gt := gt_mem 502 rfl rfl
set_option maxRecDepth 20000 in
theorem kco_X0_sendQuestionOf : (Cond.code yX0_sendQuestionOf cX0_sendQuestionOf 6 (some Jvm.ClassFile.FieldType.int)) ∈ Gt := gt_mem 503 rfl rfl
set_option maxRecDepth 20000 in
theorem kml_X0_217 : (Cond.methodLink RX0 217 yX5_isFull) ∈ Gt := gt_mem 504 rfl rfl
set_option maxRecDepth 20000 in
theorem kim_X5_isFull : (Cond.instanceMethod yX5_isFull) ∈ Gt := gt_mem 505 rfl rfl
set_option maxRecDepth 20000 in
theorem kse_X5_isFull : (Cond.selects RX5 yX5_isFull yX5_isFull) ∈ Gt := gt_mem 506 rfl rfl
set_option maxRecDepth 20000 in
theorem kco_X5_isFull : (Cond.code yX5_isFull cX5_isFull 1 (some Jvm.ClassFile.FieldType.boolean)) ∈ Gt := gt_mem 507 rfl rfl
set_option maxRecDepth 20000 in
theorem kml_X0_220 : (Cond.methodLink RX0 220 yX0_refuse) ∈ Gt := gt_mem 508 rfl rfl
set_option maxRecDepth 20000 in
theorem kim_X0_refuse : (Cond.instanceMethod yX0_refuse) ∈ Gt := gt_mem 510 rfl rfl
set_option maxRecDepth 20000 in
theorem kco_X0_refuse : (Cond.code yX0_refuse cX0_refuse 4 none) ∈ Gt := gt_mem 511 rfl rfl
set_option maxRecDepth 20000 in
theorem kml_X0_224 : (Cond.methodLink RX0 224 yX0_letIn) ∈ Gt := gt_mem 512 rfl rfl
set_option maxRecDepth 20000 in
theorem kim_X0_letIn : (Cond.instanceMethod yX0_letIn) ∈ Gt := gt_mem 514 rfl rfl
set_option maxRecDepth 20000 in
theorem kco_X0_letIn : (Cond.code yX0_letIn cX0_letIn 6 none) ∈ Gt := gt_mem 515 rfl rfl
set_option maxRecDepth 20000 in
theorem kml_X0_141 : (Cond.methodLink RX0 141 yX0_countWaits) ∈ Gt := gt_mem 516 rfl rfl
set_option maxRecDepth 20000 in
theorem kim_X0_countWaits : (Cond.instanceMethod yX0_countWaits) ∈ Gt := gt_mem 518 rfl rfl
set_option maxRecDepth 20000 in
theorem kco_X0_countWaits : (Cond.code yX0_countWaits cX0_countWaits 4 none) ∈ Gt := gt_mem 519 rfl rfl
set_option maxRecDepth 20000 in
theorem kml_L_80 : (Cond.methodLink RL 80 yL_areTagsSo) ∈ Gt := gt_mem 520 rfl rfl
set_option maxRecDepth 20000 in
theorem kst_L_areTagsSo : (Cond.static yL_areTagsSo) ∈ Gt := gt_mem 521 rfl rfl
set_option maxRecDepth 20000 in
theorem kco_L_areTagsSo : (Cond.code yL_areTagsSo cL_areTagsSo 6 (some Jvm.ClassFile.FieldType.boolean)) ∈ Gt := gt_mem 522 rfl rfl
set_option maxRecDepth 20000 in
theorem kml_L_46 : (Cond.methodLink RL 46 yX6_tag) ∈ Gt := gt_mem 523 rfl rfl
set_option maxRecDepth 20000 in
theorem kim_X6_tag : (Cond.instanceMethod yX6_tag) ∈ Gt := gt_mem 524 rfl rfl
set_option maxRecDepth 20000 in
theorem kse_X6_tag : (Cond.selects RX6 yX6_tag yX6_tag) ∈ Gt := gt_mem 525 rfl rfl
set_option maxRecDepth 20000 in
theorem kco_X6_tag : (Cond.code yX6_tag cX6_tag 2 (some Jvm.ClassFile.FieldType.int)) ∈ Gt := gt_mem 526 rfl rfl
set_option maxRecDepth 20000 in
theorem kml_L_49 : (Cond.methodLink RL 49 yX6_question) ∈ Gt := gt_mem 527 rfl rfl
set_option maxRecDepth 20000 in
theorem kim_X6_question : (Cond.instanceMethod yX6_question) ∈ Gt := gt_mem 528 rfl rfl
set_option maxRecDepth 20000 in
theorem kse_X6_question : (Cond.selects RX6 yX6_question yX6_question) ∈ Gt := gt_mem 529 rfl rfl
set_option maxRecDepth 20000 in
theorem kco_X6_question : (Cond.code yX6_question cX6_question 4 (some Jvm.ClassFile.FieldType.int)) ∈ Gt := gt_mem 530 rfl rfl
set_option maxRecDepth 20000 in
theorem kml_X6_156 : (Cond.methodLink RX6 156 yX0_questionAt) ∈ Gt := gt_mem 531 rfl rfl
set_option maxRecDepth 20000 in
theorem kml_L_52 : (Cond.methodLink RL 52 yX6_target) ∈ Gt := gt_mem 532 rfl rfl
set_option maxRecDepth 20000 in
theorem kim_X6_target : (Cond.instanceMethod yX6_target) ∈ Gt := gt_mem 533 rfl rfl
set_option maxRecDepth 20000 in
theorem kse_X6_target : (Cond.selects RX6 yX6_target yX6_target) ∈ Gt := gt_mem 534 rfl rfl
set_option maxRecDepth 20000 in
theorem kco_X6_target : (Cond.code yX6_target cX6_target 4 (some Jvm.ClassFile.FieldType.int)) ∈ Gt := gt_mem 535 rfl rfl
set_option maxRecDepth 20000 in
theorem kml_X6_208 : (Cond.methodLink RX6 208 yX0_doneIn) ∈ Gt := gt_mem 536 rfl rfl
set_option maxRecDepth 20000 in
theorem kim_X0_doneIn : (Cond.instanceMethod yX0_doneIn) ∈ Gt := gt_mem 537 rfl rfl
set_option maxRecDepth 20000 in
theorem kse_X0_doneIn : (Cond.selects RX0 yX0_doneIn yX0_doneIn) ∈ Gt := gt_mem 538 rfl rfl
set_option maxRecDepth 20000 in
theorem kco_X0_doneIn : (Cond.code yX0_doneIn cX0_doneIn 5 (some Jvm.ClassFile.FieldType.int)) ∈ Gt := gt_mem 539 rfl rfl
set_option maxRecDepth 20000 in
theorem kml_X6_212 : (Cond.methodLink RX6 212 yX0_placeOfAnswer) ∈ Gt := gt_mem 540 rfl rfl
set_option maxRecDepth 20000 in
theorem kml_X6_201 : (Cond.methodLink RX6 201 yX1_at) ∈ Gt := gt_mem 541 rfl rfl
set_option maxRecDepth 20000 in
theorem kml_L_55 : (Cond.methodLink RL 55 yX6_master) ∈ Gt := gt_mem 542 rfl rfl
set_option maxRecDepth 20000 in
theorem kim_X6_master : (Cond.instanceMethod yX6_master) ∈ Gt := gt_mem 543 rfl rfl
set_option maxRecDepth 20000 in
theorem kse_X6_master : (Cond.selects RX6 yX6_master yX6_master) ∈ Gt := gt_mem 544 rfl rfl
set_option maxRecDepth 20000 in
theorem kco_X6_master : (Cond.code yX6_master cX6_master 4 (some Jvm.ClassFile.FieldType.int)) ∈ Gt := gt_mem 545 rfl rfl
set_option maxRecDepth 20000 in
theorem kml_X6_182 : (Cond.methodLink RX6 182 Lib.Math.max.name) ∈ Gt := gt_mem 546 rfl rfl
set_option maxRecDepth 20000 in
theorem kml_X6_197 : (Cond.methodLink RX6 197 yX0_isOutOfPatience) ∈ Gt := gt_mem 547 rfl rfl
set_option maxRecDepth 20000 in
theorem kml_L_84 : (Cond.methodLink RL 84 yL_areRowsSo) ∈ Gt := gt_mem 548 rfl rfl
set_option maxRecDepth 20000 in
theorem kst_L_areRowsSo : (Cond.static yL_areRowsSo) ∈ Gt := gt_mem 549 rfl rfl
set_option maxRecDepth 20000 in
theorem kco_L_areRowsSo : (Cond.code yL_areRowsSo cL_areRowsSo 8 (some Jvm.ClassFile.FieldType.boolean)) ∈ Gt := gt_mem 550 rfl rfl
set_option maxRecDepth 20000 in
theorem kml_L_58 : (Cond.methodLink RL 58 yX6_row) ∈ Gt := gt_mem 551 rfl rfl
set_option maxRecDepth 20000 in
theorem kim_X6_row : (Cond.instanceMethod yX6_row) ∈ Gt := gt_mem 552 rfl rfl
set_option maxRecDepth 20000 in
theorem kse_X6_row : (Cond.selects RX6 yX6_row yX6_row) ∈ Gt := gt_mem 553 rfl rfl
set_option maxRecDepth 20000 in
theorem kco_X6_row : (Cond.code yX6_row cX6_row 4 (some Jvm.ClassFile.FieldType.int)) ∈ Gt := gt_mem 554 rfl rfl
set_option maxRecDepth 20000 in
theorem kml_L_87 : (Cond.methodLink RL 87 yL_isNextSo) ∈ Gt := gt_mem 555 rfl rfl
set_option maxRecDepth 20000 in
theorem kst_L_isNextSo : (Cond.static yL_isNextSo) ∈ Gt := gt_mem 556 rfl rfl
set_option maxRecDepth 20000 in
theorem kco_L_isNextSo : (Cond.code yL_isNextSo cL_isNextSo 5 (some Jvm.ClassFile.FieldType.boolean)) ∈ Gt := gt_mem 557 rfl rfl
set_option maxRecDepth 20000 in
theorem kml_L_61 : (Cond.methodLink RL 61 yX6_next) ∈ Gt := gt_mem 558 rfl rfl
set_option maxRecDepth 20000 in
theorem kim_X6_next : (Cond.instanceMethod yX6_next) ∈ Gt := gt_mem 559 rfl rfl
set_option maxRecDepth 20000 in
theorem kse_X6_next : (Cond.selects RX6 yX6_next yX6_next) ∈ Gt := gt_mem 560 rfl rfl
set_option maxRecDepth 20000 in
theorem kco_X6_next : (Cond.code yX6_next cX6_next 3 (some Jvm.ClassFile.FieldType.int)) ∈ Gt := gt_mem 561 rfl rfl
set_option maxRecDepth 20000 in
theorem kml_L_64 : (Cond.methodLink RL 64 yX6_undo) ∈ Gt := gt_mem 562 rfl rfl
set_option maxRecDepth 20000 in
theorem kim_X6_undo : (Cond.instanceMethod yX6_undo) ∈ Gt := gt_mem 563 rfl rfl
set_option maxRecDepth 20000 in
theorem kse_X6_undo : (Cond.selects RX6 yX6_undo yX6_undo) ∈ Gt := gt_mem 564 rfl rfl
set_option maxRecDepth 20000 in
theorem kco_X6_undo : (Cond.code yX6_undo cX6_undo 2 (some Jvm.ClassFile.FieldType.int)) ∈ Gt := gt_mem 565 rfl rfl
set_option maxRecDepth 20000 in
theorem kml_L_90 : (Cond.methodLink RL 90 yL_isAnsweredSo) ∈ Gt := gt_mem 566 rfl rfl
set_option maxRecDepth 20000 in
theorem kst_L_isAnsweredSo : (Cond.static yL_isAnsweredSo) ∈ Gt := gt_mem 567 rfl rfl
set_option maxRecDepth 20000 in
theorem kco_L_isAnsweredSo : (Cond.code yL_isAnsweredSo cL_isAnsweredSo 4 (some Jvm.ClassFile.FieldType.boolean)) ∈ Gt := gt_mem 568 rfl rfl
set_option maxRecDepth 20000 in
theorem kml_L_68 : (Cond.methodLink RL 68 yX6_answeredIn) ∈ Gt := gt_mem 569 rfl rfl
set_option maxRecDepth 20000 in
theorem kim_X6_answeredIn : (Cond.instanceMethod yX6_answeredIn) ∈ Gt := gt_mem 570 rfl rfl
set_option maxRecDepth 20000 in
theorem kse_X6_answeredIn : (Cond.selects RX6 yX6_answeredIn yX6_answeredIn) ∈ Gt := gt_mem 571 rfl rfl
set_option maxRecDepth 20000 in
theorem kco_X6_answeredIn : (Cond.code yX6_answeredIn cX6_answeredIn 4 (some Jvm.ClassFile.FieldType.int)) ∈ Gt := gt_mem 572 rfl rfl
set_option maxRecDepth 20000 in
theorem inG0 : ∀ w ∈ u_ws RX0 TX0 15, w ∈ Gt := by decide +kernel
set_option maxRecDepth 20000 in
theorem inG1 : ∀ w ∈ u_ws RX1 TX1 2, w ∈ Gt := by decide +kernel
set_option maxRecDepth 20000 in
theorem inG2 : ∀ w ∈ u_ws RX2 TX2 8, w ∈ Gt := by decide +kernel
set_option maxRecDepth 20000 in
theorem inG3 : ∀ w ∈ u_ws RX3 TX3 11, w ∈ Gt := by decide +kernel
set_option maxRecDepth 20000 in
theorem inG4 : ∀ w ∈ u_ws RX4 TX4 5, w ∈ Gt := by decide +kernel
set_option maxRecDepth 20000 in
theorem inG5 : ∀ w ∈ u_ws RX5 TX5 3, w ∈ Gt := by decide +kernel
set_option maxRecDepth 20000 in
theorem inG6 : ∀ w ∈ u_ws RX6 TX6 7, w ∈ Gt := by decide +kernel
set_option maxRecDepth 20000 in
theorem inG7 : ∀ w ∈ u_ws RX7 TX7 0, w ∈ Gt := by decide +kernel
def nestM : List (String × Nat × MethodName × String) := [(RX0, 40, yX2_init, "TagBus"), (RX2, 11, yX1_init, "TagBus"), (RX0, 41, yX5_init, "TagBus"), (RX5, 20, yX1_init, "TagBus"), (RX0, 42, yX3_init, "TagBus"), (RX4, 21, yX3_init, "TagBus"), (RX0, 86, yX6_isIndex, "TagBus"), (RX1, 19, yX6_isIndex, "TagBus"), (RX5, 29, yX6_isIndex, "TagBus")]
set_option maxRecDepth 20000 in
theorem nestM_tbl : ∀ q ∈ nestM, Cond.methodLinkNest q.1 q.2.1 q.2.2.1 q.2.2.2 ∈ lw_tbl := by decide +kernel
theorem knm_X0_40 : (RX0, 40, yX2_init, "TagBus") ∈ nestM := List.mem_of_getElem? (i := 0) rfl
theorem knm_X2_11 : (RX2, 11, yX1_init, "TagBus") ∈ nestM := List.mem_of_getElem? (i := 1) rfl
theorem knm_X0_41 : (RX0, 41, yX5_init, "TagBus") ∈ nestM := List.mem_of_getElem? (i := 2) rfl
theorem knm_X5_20 : (RX5, 20, yX1_init, "TagBus") ∈ nestM := List.mem_of_getElem? (i := 3) rfl
theorem knm_X0_42 : (RX0, 42, yX3_init, "TagBus") ∈ nestM := List.mem_of_getElem? (i := 4) rfl
theorem knm_X4_21 : (RX4, 21, yX3_init, "TagBus") ∈ nestM := List.mem_of_getElem? (i := 5) rfl
theorem knm_X0_86 : (RX0, 86, yX6_isIndex, "TagBus") ∈ nestM := List.mem_of_getElem? (i := 6) rfl
theorem knm_X1_19 : (RX1, 19, yX6_isIndex, "TagBus") ∈ nestM := List.mem_of_getElem? (i := 7) rfl
theorem knm_X5_29 : (RX5, 29, yX6_isIndex, "TagBus") ∈ nestM := List.mem_of_getElem? (i := 8) rfl
theorem kao_Master : Cond.arrayOver (.object "TagBus$Master") ∈ lw_tbl := List.mem_of_getElem? (i := 41) (by decide +kernel)
theorem kao_Target : Cond.arrayOver (.object "TagBus$Target") ∈ lw_tbl := List.mem_of_getElem? (i := 43) (by decide +kernel)
theorem kao_Question : Cond.arrayOver (.object "TagBus$Question") ∈ lw_tbl := List.mem_of_getElem? (i := 45) (by decide +kernel)
theorem kao_Bus : Cond.arrayOver (.object "TagBus$Bus") ∈ lw_tbl := List.mem_of_getElem? (i := 246) (by decide +kernel)
