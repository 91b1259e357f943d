section
-- ===== PART A: goes FIRST, ahead of the names: the tables' words, and 'selects' of the private methods out of them =====
/-- a private method of a class that the tables say can be made, by its rows of tables_1 -/
def lw_okq (q : MethodName × Nat) : Prop := (q.1.cls ≠ "java/lang/invoke/MethodHandle" ∧ q.1.cls ≠ "java/lang/invoke/VarHandle") ∧ Cond.instantiable q.1.cls q.2 ∈ tables_1 ∧ Cond.privateMethod q.1 ∈ tables_1 ∧ Cond.instanceMethod q.1 ∈ tables_1
theorem lw_p0 : lw_okq (⟨"EffectTrain", "readText", "()I"⟩, 11) := ⟨⟨by decide +kernel, by decide +kernel⟩, List.mem_of_getElem? (i := 14) (by decide +kernel), List.mem_of_getElem? (i := 123) (by decide +kernel), List.mem_of_getElem? (i := 124) (by decide +kernel)⟩
theorem lw_p1 : lw_okq (⟨"EffectTrain", "numberError", "(II)I"⟩, 11) := ⟨⟨by decide +kernel, by decide +kernel⟩, List.mem_of_getElem? (i := 14) (by decide +kernel), List.mem_of_getElem? (i := 127) (by decide +kernel), List.mem_of_getElem? (i := 128) (by decide +kernel)⟩
theorem lw_p2 : lw_okq (⟨"EffectTrain", "numberAt", "(II)I"⟩, 11) := ⟨⟨by decide +kernel, by decide +kernel⟩, List.mem_of_getElem? (i := 14) (by decide +kernel), List.mem_of_getElem? (i := 137) (by decide +kernel), List.mem_of_getElem? (i := 138) (by decide +kernel)⟩
theorem lw_p3 : lw_okq (⟨"java/lang/Throwable", "fillInStackTrace", "(I)Ljava/lang/Throwable;"⟩, 6) := ⟨⟨by decide +kernel, by decide +kernel⟩, List.mem_of_getElem? (i := 195) (by decide +kernel), List.mem_of_getElem? (i := 193) (by decide +kernel), List.mem_of_getElem? (i := 194) (by decide +kernel)⟩
theorem lw_p4 : lw_okq (⟨"EffectTrain$State", "takeNumbers", "([I)V"⟩, 12) := ⟨⟨by decide +kernel, by decide +kernel⟩, List.mem_of_getElem? (i := 22) (by decide +kernel), List.mem_of_getElem? (i := 249) (by decide +kernel), List.mem_of_getElem? (i := 250) (by decide +kernel)⟩
theorem lw_p5 : lw_okq (⟨"EffectTrain$State", "allWater", "()I"⟩, 12) := ⟨⟨by decide +kernel, by decide +kernel⟩, List.mem_of_getElem? (i := 22) (by decide +kernel), List.mem_of_getElem? (i := 256) (by decide +kernel), List.mem_of_getElem? (i := 257) (by decide +kernel)⟩
theorem lw_p6 : lw_okq (⟨"EffectTrain$State", "allSolids", "()I"⟩, 12) := ⟨⟨by decide +kernel, by decide +kernel⟩, List.mem_of_getElem? (i := 22) (by decide +kernel), List.mem_of_getElem? (i := 260) (by decide +kernel), List.mem_of_getElem? (i := 261) (by decide +kernel)⟩
theorem lw_p7 : lw_okq (⟨"EffectTrain$State", "washedEffects", "()I"⟩, 12) := ⟨⟨by decide +kernel, by decide +kernel⟩, List.mem_of_getElem? (i := 22) (by decide +kernel), List.mem_of_getElem? (i := 271) (by decide +kernel), List.mem_of_getElem? (i := 272) (by decide +kernel)⟩
theorem lw_p8 : lw_okq (⟨"EffectTrain", "checkEffect", "(I)V"⟩, 11) := ⟨⟨by decide +kernel, by decide +kernel⟩, List.mem_of_getElem? (i := 14) (by decide +kernel), List.mem_of_getElem? (i := 290) (by decide +kernel), List.mem_of_getElem? (i := 291) (by decide +kernel)⟩
theorem lw_p9 : lw_okq (⟨"EffectTrain$State", "numberOf", "(II)I"⟩, 12) := ⟨⟨by decide +kernel, by decide +kernel⟩, List.mem_of_getElem? (i := 22) (by decide +kernel), List.mem_of_getElem? (i := 310) (by decide +kernel), List.mem_of_getElem? (i := 311) (by decide +kernel)⟩
theorem lw_p10 : lw_okq (⟨"EffectTrain$State", "thickness", "(I)I"⟩, 12) := ⟨⟨by decide +kernel, by decide +kernel⟩, List.mem_of_getElem? (i := 22) (by decide +kernel), List.mem_of_getElem? (i := 314) (by decide +kernel), List.mem_of_getElem? (i := 315) (by decide +kernel)⟩
theorem lw_p11 : lw_okq (⟨"EffectTrain$State", "power", "(I)I"⟩, 12) := ⟨⟨by decide +kernel, by decide +kernel⟩, List.mem_of_getElem? (i := 22) (by decide +kernel), List.mem_of_getElem? (i := 318) (by decide +kernel), List.mem_of_getElem? (i := 319) (by decide +kernel)⟩
theorem lw_p12 : lw_okq (⟨"EffectTrain$State", "effectBehind", "(I)I"⟩, 12) := ⟨⟨by decide +kernel, by decide +kernel⟩, List.mem_of_getElem? (i := 22) (by decide +kernel), List.mem_of_getElem? (i := 329) (by decide +kernel), List.mem_of_getElem? (i := 330) (by decide +kernel)⟩
theorem lw_p13 : lw_okq (⟨"EffectTrain$State", "effectBefore", "(I)I"⟩, 12) := ⟨⟨by decide +kernel, by decide +kernel⟩, List.mem_of_getElem? (i := 22) (by decide +kernel), List.mem_of_getElem? (i := 333) (by decide +kernel), List.mem_of_getElem? (i := 334) (by decide +kernel)⟩
theorem lw_p14 : lw_okq (⟨"EffectTrain$State", "amount", "(I)I"⟩, 12) := ⟨⟨by decide +kernel, by decide +kernel⟩, List.mem_of_getElem? (i := 22) (by decide +kernel), List.mem_of_getElem? (i := 344) (by decide +kernel), List.mem_of_getElem? (i := 345) (by decide +kernel)⟩
theorem lw_p15 : lw_okq (⟨"EffectTrain", "remember", "()V"⟩, 11) := ⟨⟨by decide +kernel, by decide +kernel⟩, List.mem_of_getElem? (i := 14) (by decide +kernel), List.mem_of_getElem? (i := 355) (by decide +kernel), List.mem_of_getElem? (i := 356) (by decide +kernel)⟩
def lw_privs_1 : List (MethodName × Nat) := [(⟨"EffectTrain", "readText", "()I"⟩, 11), (⟨"EffectTrain", "numberError", "(II)I"⟩, 11), (⟨"EffectTrain", "numberAt", "(II)I"⟩, 11), (⟨"java/lang/Throwable", "fillInStackTrace", "(I)Ljava/lang/Throwable;"⟩, 6), (⟨"EffectTrain$State", "takeNumbers", "([I)V"⟩, 12), (⟨"EffectTrain$State", "allWater", "()I"⟩, 12), (⟨"EffectTrain$State", "allSolids", "()I"⟩, 12), (⟨"EffectTrain$State", "washedEffects", "()I"⟩, 12), (⟨"EffectTrain", "checkEffect", "(I)V"⟩, 11), (⟨"EffectTrain$State", "numberOf", "(II)I"⟩, 12), (⟨"EffectTrain$State", "thickness", "(I)I"⟩, 12), (⟨"EffectTrain$State", "power", "(I)I"⟩, 12), (⟨"EffectTrain$State", "effectBehind", "(I)I"⟩, 12), (⟨"EffectTrain$State", "effectBefore", "(I)I"⟩, 12), (⟨"EffectTrain$State", "amount", "(I)I"⟩, 12), (⟨"EffectTrain", "remember", "()V"⟩, 11)]
theorem lw_r1 : ∀ q ∈ lw_privs_1, lw_okq q := List.forall_mem_cons.mpr ⟨lw_p0, List.forall_mem_cons.mpr ⟨lw_p1, List.forall_mem_cons.mpr ⟨lw_p2, List.forall_mem_cons.mpr ⟨lw_p3, List.forall_mem_cons.mpr ⟨lw_p4, List.forall_mem_cons.mpr ⟨lw_p5, List.forall_mem_cons.mpr ⟨lw_p6, List.forall_mem_cons.mpr ⟨lw_p7, List.forall_mem_cons.mpr ⟨lw_p8, List.forall_mem_cons.mpr ⟨lw_p9, List.forall_mem_cons.mpr ⟨lw_p10, List.forall_mem_cons.mpr ⟨lw_p11, List.forall_mem_cons.mpr ⟨lw_p12, List.forall_mem_cons.mpr ⟨lw_p13, List.forall_mem_cons.mpr ⟨lw_p14, List.forall_mem_cons.mpr ⟨lw_p15, fun _ h => absurd h List.not_mem_nil⟩⟩⟩⟩⟩⟩⟩⟩⟩⟩⟩⟩⟩⟩⟩⟩
theorem lw_p16 : lw_okq (⟨"EffectTrain$State", "copyFrom", "(LEffectTrain$State;)V"⟩, 12) := ⟨⟨by decide +kernel, by decide +kernel⟩, List.mem_of_getElem? (i := 22) (by decide +kernel), List.mem_of_getElem? (i := 362) (by decide +kernel), List.mem_of_getElem? (i := 363) (by decide +kernel)⟩
theorem lw_p17 : lw_okq (⟨"EffectTrain$State", "pass", "(I)I"⟩, 12) := ⟨⟨by decide +kernel, by decide +kernel⟩, List.mem_of_getElem? (i := 22) (by decide +kernel), List.mem_of_getElem? (i := 366) (by decide +kernel), List.mem_of_getElem? (i := 367) (by decide +kernel)⟩
theorem lw_p18 : lw_okq (⟨"EffectTrain$State", "beginWashInTurn", "()V"⟩, 12) := ⟨⟨by decide +kernel, by decide +kernel⟩, List.mem_of_getElem? (i := 22) (by decide +kernel), List.mem_of_getElem? (i := 370) (by decide +kernel), List.mem_of_getElem? (i := 371) (by decide +kernel)⟩
theorem lw_p19 : lw_okq (⟨"EffectTrain$State", "boilAll", "()V"⟩, 12) := ⟨⟨by decide +kernel, by decide +kernel⟩, List.mem_of_getElem? (i := 22) (by decide +kernel), List.mem_of_getElem? (i := 375) (by decide +kernel), List.mem_of_getElem? (i := 376) (by decide +kernel)⟩
theorem lw_p20 : lw_okq (⟨"EffectTrain$State", "boil", "(II)I"⟩, 12) := ⟨⟨by decide +kernel, by decide +kernel⟩, List.mem_of_getElem? (i := 22) (by decide +kernel), List.mem_of_getElem? (i := 379) (by decide +kernel), List.mem_of_getElem? (i := 380) (by decide +kernel)⟩
theorem lw_p21 : lw_okq (⟨"EffectTrain$State", "flowOn", "()V"⟩, 12) := ⟨⟨by decide +kernel, by decide +kernel⟩, List.mem_of_getElem? (i := 22) (by decide +kernel), List.mem_of_getElem? (i := 386) (by decide +kernel), List.mem_of_getElem? (i := 387) (by decide +kernel)⟩
theorem lw_p22 : lw_okq (⟨"EffectTrain$State", "flowFrom", "(I)I"⟩, 12) := ⟨⟨by decide +kernel, by decide +kernel⟩, List.mem_of_getElem? (i := 22) (by decide +kernel), List.mem_of_getElem? (i := 392) (by decide +kernel), List.mem_of_getElem? (i := 393) (by decide +kernel)⟩
theorem lw_p23 : lw_okq (⟨"EffectTrain$State", "washOn", "()V"⟩, 12) := ⟨⟨by decide +kernel, by decide +kernel⟩, List.mem_of_getElem? (i := 22) (by decide +kernel), List.mem_of_getElem? (i := 396) (by decide +kernel), List.mem_of_getElem? (i := 397) (by decide +kernel)⟩
theorem lw_p24 : lw_okq (⟨"EffectTrain", "checkWorks", "(I)V"⟩, 11) := ⟨⟨by decide +kernel, by decide +kernel⟩, List.mem_of_getElem? (i := 14) (by decide +kernel), List.mem_of_getElem? (i := 431) (by decide +kernel), List.mem_of_getElem? (i := 432) (by decide +kernel)⟩
theorem lw_p25 : lw_okq (⟨"EffectTrain", "vaporWithChoice", "(LEffectTrain$State;II)I"⟩, 11) := ⟨⟨by decide +kernel, by decide +kernel⟩, List.mem_of_getElem? (i := 14) (by decide +kernel), List.mem_of_getElem? (i := 480) (by decide +kernel), List.mem_of_getElem? (i := 481) (by decide +kernel)⟩
theorem lw_p26 : lw_okq (⟨"EffectTrain", "greatestVapor", "(LEffectTrain$State;I)I"⟩, 11) := ⟨⟨by decide +kernel, by decide +kernel⟩, List.mem_of_getElem? (i := 14) (by decide +kernel), List.mem_of_getElem? (i := 484) (by decide +kernel), List.mem_of_getElem? (i := 485) (by decide +kernel)⟩
theorem lw_p27 : lw_okq (⟨"EffectTrain", "runCommand", "(I)Z"⟩, 11) := ⟨⟨by decide +kernel, by decide +kernel⟩, List.mem_of_getElem? (i := 14) (by decide +kernel), List.mem_of_getElem? (i := 515) (by decide +kernel), List.mem_of_getElem? (i := 516) (by decide +kernel)⟩
theorem lw_p28 : lw_okq (⟨"EffectTrain", "runEffectCommand", "(III)Z"⟩, 11) := ⟨⟨by decide +kernel, by decide +kernel⟩, List.mem_of_getElem? (i := 14) (by decide +kernel), List.mem_of_getElem? (i := 519) (by decide +kernel), List.mem_of_getElem? (i := 520) (by decide +kernel)⟩
theorem lw_p29 : lw_okq (⟨"EffectTrain", "disturb", "(I)V"⟩, 11) := ⟨⟨by decide +kernel, by decide +kernel⟩, List.mem_of_getElem? (i := 14) (by decide +kernel), List.mem_of_getElem? (i := 533) (by decide +kernel), List.mem_of_getElem? (i := 534) (by decide +kernel)⟩
theorem lw_p30 : lw_okq (⟨"EffectTrainModel", "refused", "(I)Z"⟩, 15) := ⟨⟨by decide +kernel, by decide +kernel⟩, List.mem_of_getElem? (i := 556) (by decide +kernel), List.mem_of_getElem? (i := 620) (by decide +kernel), List.mem_of_getElem? (i := 621) (by decide +kernel)⟩
theorem lw_p31 : lw_okq (⟨"EffectTrainModel", "readText", "()I"⟩, 15) := ⟨⟨by decide +kernel, by decide +kernel⟩, List.mem_of_getElem? (i := 556) (by decide +kernel), List.mem_of_getElem? (i := 632) (by decide +kernel), List.mem_of_getElem? (i := 633) (by decide +kernel)⟩
def lw_privs_2 : List (MethodName × Nat) := [(⟨"EffectTrain$State", "copyFrom", "(LEffectTrain$State;)V"⟩, 12), (⟨"EffectTrain$State", "pass", "(I)I"⟩, 12), (⟨"EffectTrain$State", "beginWashInTurn", "()V"⟩, 12), (⟨"EffectTrain$State", "boilAll", "()V"⟩, 12), (⟨"EffectTrain$State", "boil", "(II)I"⟩, 12), (⟨"EffectTrain$State", "flowOn", "()V"⟩, 12), (⟨"EffectTrain$State", "flowFrom", "(I)I"⟩, 12), (⟨"EffectTrain$State", "washOn", "()V"⟩, 12), (⟨"EffectTrain", "checkWorks", "(I)V"⟩, 11), (⟨"EffectTrain", "vaporWithChoice", "(LEffectTrain$State;II)I"⟩, 11), (⟨"EffectTrain", "greatestVapor", "(LEffectTrain$State;I)I"⟩, 11), (⟨"EffectTrain", "runCommand", "(I)Z"⟩, 11), (⟨"EffectTrain", "runEffectCommand", "(III)Z"⟩, 11), (⟨"EffectTrain", "disturb", "(I)V"⟩, 11), (⟨"EffectTrainModel", "refused", "(I)Z"⟩, 15), (⟨"EffectTrainModel", "readText", "()I"⟩, 15)]
theorem lw_r2 : ∀ q ∈ lw_privs_2, lw_okq q := List.forall_mem_cons.mpr ⟨lw_p16, List.forall_mem_cons.mpr ⟨lw_p17, List.forall_mem_cons.mpr ⟨lw_p18, List.forall_mem_cons.mpr ⟨lw_p19, List.forall_mem_cons.mpr ⟨lw_p20, List.forall_mem_cons.mpr ⟨lw_p21, List.forall_mem_cons.mpr ⟨lw_p22, List.forall_mem_cons.mpr ⟨lw_p23, List.forall_mem_cons.mpr ⟨lw_p24, List.forall_mem_cons.mpr ⟨lw_p25, List.forall_mem_cons.mpr ⟨lw_p26, List.forall_mem_cons.mpr ⟨lw_p27, List.forall_mem_cons.mpr ⟨lw_p28, List.forall_mem_cons.mpr ⟨lw_p29, List.forall_mem_cons.mpr ⟨lw_p30, List.forall_mem_cons.mpr ⟨lw_p31, fun _ h => absurd h List.not_mem_nil⟩⟩⟩⟩⟩⟩⟩⟩⟩⟩⟩⟩⟩⟩⟩⟩
theorem lw_p32 : lw_okq (⟨"EffectTrainModel", "number", "(III)I"⟩, 15) := ⟨⟨by decide +kernel, by decide +kernel⟩, List.mem_of_getElem? (i := 556) (by decide +kernel), List.mem_of_getElem? (i := 636) (by decide +kernel), List.mem_of_getElem? (i := 637) (by decide +kernel)⟩
theorem lw_p33 : lw_okq (⟨"EffectTrainModel", "readEffect", "(I)I"⟩, 15) := ⟨⟨by decide +kernel, by decide +kernel⟩, List.mem_of_getElem? (i := 556) (by decide +kernel), List.mem_of_getElem? (i := 645) (by decide +kernel), List.mem_of_getElem? (i := 646) (by decide +kernel)⟩
theorem lw_p34 : lw_okq (⟨"EffectTrainModel", "sumOf", "([II)I"⟩, 15) := ⟨⟨by decide +kernel, by decide +kernel⟩, List.mem_of_getElem? (i := 556) (by decide +kernel), List.mem_of_getElem? (i := 656) (by decide +kernel), List.mem_of_getElem? (i := 657) (by decide +kernel)⟩
theorem lw_p35 : lw_okq (⟨"EffectTrainModel", "washed", "([I)I"⟩, 15) := ⟨⟨by decide +kernel, by decide +kernel⟩, List.mem_of_getElem? (i := 556) (by decide +kernel), List.mem_of_getElem? (i := 664) (by decide +kernel), List.mem_of_getElem? (i := 665) (by decide +kernel)⟩
theorem lw_p36 : lw_okq (⟨"EffectTrainModel", "isEffect", "(I)Z"⟩, 15) := ⟨⟨by decide +kernel, by decide +kernel⟩, List.mem_of_getElem? (i := 556) (by decide +kernel), List.mem_of_getElem? (i := 679) (by decide +kernel), List.mem_of_getElem? (i := 680) (by decide +kernel)⟩
theorem lw_p37 : lw_okq (⟨"EffectTrainModel", "behind", "([II)I"⟩, 15) := ⟨⟨by decide +kernel, by decide +kernel⟩, List.mem_of_getElem? (i := 556) (by decide +kernel), List.mem_of_getElem? (i := 699) (by decide +kernel), List.mem_of_getElem? (i := 700) (by decide +kernel)⟩
theorem lw_p38 : lw_okq (⟨"EffectTrainModel", "note", "()V"⟩, 15) := ⟨⟨by decide +kernel, by decide +kernel⟩, List.mem_of_getElem? (i := 556) (by decide +kernel), List.mem_of_getElem? (i := 719) (by decide +kernel), List.mem_of_getElem? (i := 720) (by decide +kernel)⟩
theorem lw_p39 : lw_okq (⟨"EffectTrainModel", "ticksOn", "([II)I"⟩, 15) := ⟨⟨by decide +kernel, by decide +kernel⟩, List.mem_of_getElem? (i := 556) (by decide +kernel), List.mem_of_getElem? (i := 723) (by decide +kernel), List.mem_of_getElem? (i := 724) (by decide +kernel)⟩
theorem lw_p40 : lw_okq (⟨"EffectTrainModel", "tickOn", "([I)V"⟩, 15) := ⟨⟨by decide +kernel, by decide +kernel⟩, List.mem_of_getElem? (i := 556) (by decide +kernel), List.mem_of_getElem? (i := 727) (by decide +kernel), List.mem_of_getElem? (i := 728) (by decide +kernel)⟩
theorem lw_p41 : lw_okq (⟨"EffectTrainModel", "boil", "([I)V"⟩, 15) := ⟨⟨by decide +kernel, by decide +kernel⟩, List.mem_of_getElem? (i := 556) (by decide +kernel), List.mem_of_getElem? (i := 731) (by decide +kernel), List.mem_of_getElem? (i := 732) (by decide +kernel)⟩
theorem lw_p42 : lw_okq (⟨"EffectTrainModel", "go", "([I)V"⟩, 15) := ⟨⟨by decide +kernel, by decide +kernel⟩, List.mem_of_getElem? (i := 556) (by decide +kernel), List.mem_of_getElem? (i := 738) (by decide +kernel), List.mem_of_getElem? (i := 739) (by decide +kernel)⟩
theorem lw_p43 : lw_okq (⟨"EffectTrainModel", "change", "(II)I"⟩, 15) := ⟨⟨by decide +kernel, by decide +kernel⟩, List.mem_of_getElem? (i := 556) (by decide +kernel), List.mem_of_getElem? (i := 753) (by decide +kernel), List.mem_of_getElem? (i := 754) (by decide +kernel)⟩
theorem lw_p44 : lw_okq (⟨"EffectTrainModel", "turns", "(II)I"⟩, 15) := ⟨⟨by decide +kernel, by decide +kernel⟩, List.mem_of_getElem? (i := 556) (by decide +kernel), List.mem_of_getElem? (i := 791) (by decide +kernel), List.mem_of_getElem? (i := 792) (by decide +kernel)⟩
theorem lw_p45 : lw_okq (⟨"EffectTrainModel", "command", "(I)Z"⟩, 15) := ⟨⟨by decide +kernel, by decide +kernel⟩, List.mem_of_getElem? (i := 556) (by decide +kernel), List.mem_of_getElem? (i := 809) (by decide +kernel), List.mem_of_getElem? (i := 810) (by decide +kernel)⟩
def lw_privs_3 : List (MethodName × Nat) := [(⟨"EffectTrainModel", "number", "(III)I"⟩, 15), (⟨"EffectTrainModel", "readEffect", "(I)I"⟩, 15), (⟨"EffectTrainModel", "sumOf", "([II)I"⟩, 15), (⟨"EffectTrainModel", "washed", "([I)I"⟩, 15), (⟨"EffectTrainModel", "isEffect", "(I)Z"⟩, 15), (⟨"EffectTrainModel", "behind", "([II)I"⟩, 15), (⟨"EffectTrainModel", "note", "()V"⟩, 15), (⟨"EffectTrainModel", "ticksOn", "([II)I"⟩, 15), (⟨"EffectTrainModel", "tickOn", "([I)V"⟩, 15), (⟨"EffectTrainModel", "boil", "([I)V"⟩, 15), (⟨"EffectTrainModel", "go", "([I)V"⟩, 15), (⟨"EffectTrainModel", "change", "(II)I"⟩, 15), (⟨"EffectTrainModel", "turns", "(II)I"⟩, 15), (⟨"EffectTrainModel", "command", "(I)Z"⟩, 15)]
theorem lw_r3 : ∀ q ∈ lw_privs_3, lw_okq q := List.forall_mem_cons.mpr ⟨lw_p32, List.forall_mem_cons.mpr ⟨lw_p33, List.forall_mem_cons.mpr ⟨lw_p34, List.forall_mem_cons.mpr ⟨lw_p35, List.forall_mem_cons.mpr ⟨lw_p36, List.forall_mem_cons.mpr ⟨lw_p37, List.forall_mem_cons.mpr ⟨lw_p38, List.forall_mem_cons.mpr ⟨lw_p39, List.forall_mem_cons.mpr ⟨lw_p40, List.forall_mem_cons.mpr ⟨lw_p41, List.forall_mem_cons.mpr ⟨lw_p42, List.forall_mem_cons.mpr ⟨lw_p43, List.forall_mem_cons.mpr ⟨lw_p44, List.forall_mem_cons.mpr ⟨lw_p45, fun _ h => absurd h List.not_mem_nil⟩⟩⟩⟩⟩⟩⟩⟩⟩⟩⟩⟩⟩⟩
def lw_privs : List (MethodName × Nat) := lw_privs_1 ++ (lw_privs_2 ++ (lw_privs_3))
def lw_tbl : List Cond := k2_sels lw_privs ++ tables_1
theorem lw_privs_ok : ∀ q ∈ lw_privs, lw_okq q := by
  show ∀ q ∈ lw_privs_1 ++ (lw_privs_2 ++ (lw_privs_3)), lw_okq q
  exact List.forall_mem_append.mpr ⟨lw_r1, List.forall_mem_append.mpr ⟨lw_r2, lw_r3⟩⟩
/-- the streams that the claim lets the run draw from -/
abbrev lw_cs : List Choice := [Jvm.Choice.named "NaN.bits"]
theorem lw_bits : nanBits ∈ lw_cs := by first | decide | exact List.mem_cons_self | simp [lw_cs, nanBits]
/-! ===== BEGIN words of one list among another's, by their places ===== -/
theorem goodIn_r {big : List Cond} (ws : List Cond) (ps : List Nat) (hp : ws = ps.filterMap (fun i => big[i]?)) (h : ws.all goodWord = true) : GoodIn big ws := by
  intro w hw
  have h1 := List.all_eq_true.mp h w hw
  rw [hp] at hw
  obtain ⟨i, -, hi⟩ := List.mem_filterMap.mp hw
  have hm : w ∈ big := by first | exact List.mem_of_getElem? hi | exact List.getElem?_mem hi
  exact ⟨hm, good_of_word h1⟩
theorem goodIn_app {big a b : List Cond} (ha : GoodIn big a) (hb : GoodIn big b) : GoodIn big (a ++ b) := fun w h => (List.mem_append.mp h).elim (ha w) (hb w)
theorem goodIn_ca {big a b : List Cond} {c : Cond} (ha : GoodIn big (c :: a)) (hb : GoodIn big b) : GoodIn big (c :: (a ++ b)) := fun w h => (List.mem_cons.mp h).elim (fun e => ha w (List.mem_cons.mpr (Or.inl e))) (fun h => (List.mem_append.mp h).elim (fun h => ha w (List.mem_cons.mpr (Or.inr h))) (hb w))
theorem goodIn_sub {big ws : List Cond} (hm : ∀ w ∈ ws, w ∈ big) (h : ws.all goodWord = true) : GoodIn big ws := fun w hw => ⟨hm w hw, good_of_word (List.all_eq_true.mp h w hw)⟩
/-! ===== END ===== -/

/-! ===== BEGIN exceptions that leave a method, and their catching by the caller (launches without stack traces) ===== -/
section VXA
/-! The laws vx_back, vx_callV, vx_callS, vx_callSW, vx_throw0, vx_throwS follow proofs of the library, with one case more: JvmDerived/Free/Laws.lean (Back.of_free), Shelf42/LK1.lean (callV, callS), Shelf/KitTraced.lean (throwNew0V, throwNewS). -/
/-- where a method has thrown q: the class by its name, the cell, what was written, the world -/
def vx_T (XC : String → State → State → Prop) (st : State) (q : Addr) (t : State) (mc ms : Nat) (free : Addr → Prop) : Prop :=
  ∃ (E : String) (ce : Cell) (L : List Loc), XC E st t ∧ t.heap[q]? = some ce ∧ ce.vm = .none ∧ st.vm.findClass E = some ce.cls ∧ st.WarmedH t.vm ∧ st.sameButNew ({ t with vm := st.vm } : State) L mc ms ∧ ∀ z ∈ L, free z.base
def vx_Q (Qc : Array Value → State → Outcome → State → Prop) (XC : String → State → State → Prop) (mc ms : Nat) (free : Addr → Prop) : Array Value → State → Outcome → State → Prop := fun a st o t =>
  (Qc a st o t ∧ ∃ L, FrameEnd st o t L mc ms ∧ ∀ q ∈ L, free q.base) ∨ ∃ q, o = .threw q ∧ vx_T XC st q t mc ms free
/-- a callee that returns or throws -/
def vx_Met (l : Launch) (y : MethodName) (ws : List Cond) (rm : Room) (Pc : Array Value → State → Prop) (Qc : Array Value → State → Outcome → State → Prop) (XC : String → State → State → Prop) (mc ms : Nat) (free : Addr → Prop) : Prop :=
  MetFree l y (headSpec ws rm) Pc (fun _ _ _ _ _ => True) (vx_Q Qc XC mc ms free)
def vx_Post (XC : String → State → State → Prop) (mc ms : Nat) (free : Addr → Prop) : Pt → Array Value → Addr → Pt → Prop := fun A a q B =>
  ∃ (g : JFrame) (mk : MethodId) (t : State) (L : List Loc) (E : String) (ce : Cell), B.U.heap = t.heap ∧ B.U.vm = t.vm ∧ XC E (A.U.calling g mk a) t ∧ t.heap[q]? = some ce ∧ ce.vm = .none ∧ A.U.vm.findClass E = some ce.cls ∧ B.locs = A.locs ++ L ∧ (∀ z ∈ L, free z.base) ∧ B.cells = A.cells + mc ∧ B.slots = A.slots + ms
def vx_Back (l : Launch) (R : Room) (p : Program) (e : Env) (below : List Frame) (s : State) (sargs : Array Value) (y : MethodName) (len W9 : Nat)
    (Pre : Pt → Array Value → Prop) (Post : Pt → Array Value → Option Value → Pt → Prop) (PostX : Pt → Array Value → Addr → Pt → Prop) : Prop :=
  ∀ (m : MethodId) (meth : Method) (c : Code) (A : Pt) (g : JFrame) (ig : Instr) (mk : MethodId) (a : Array Value),
    Stand p l e R s m sargs below meth c A.U A.locs A.cells A.slots → g.method = m → g.locals.size = c.maxLocals → decode c.code g.pc = .ok (ig, len) →
    2 * g.monitorRoom + (g.stack.map fun v => v.category).sum ≤ W9 → A.U.methodNamed? y = some mk → Pre A a →
    (∃ (v : Option Value) (B : Pt), Stand p l e R s m sargs below meth c B.U B.locs B.cells B.slots ∧ Post A a v B ∧
      Steps p.tables e below (doInvoke e (A.U.setTop g) [] mk a).1 (B.U.setTop { g with pc := g.pc + len, stack := v.toList ++ g.stack })) ∨
    (∃ (q : Addr) (B : Pt), Stand p l e R s m sargs below meth c B.U B.locs B.cells B.slots ∧ PostX A a q B ∧
      Steps p.tables e below (doInvoke e (A.U.setTop g) [] mk a).1 ((B.U.setTop g).pushFrame (.throwing q)))
section Payer
variable {l : Launch} {R : Room} {p : Program} {e : Env} {below : List Frame} {s : State} {sargs : Array Value} {y : MethodName} {len W9 : Nat}
theorem vx_back {ws : List Cond} {rm : Room} {Pc : Array Value → State → Prop} {Qc : Array Value → State → Outcome → State → Prop} {XC : String → State → State → Prop} {mc ms : Nat} {free : Addr → Prop} {bytes : ByteArray} {maxL : Nat} {ret : Option FieldType}
    (hM : vx_Met l y ws rm Pc Qc XC mc ms free) (hblind : FrameBlind Pc) (hrc : rm.cells = mc) (hrs : rm.slots = ms)
    (hframes : rm.frames + 1 ≤ R.frames) (hlocals : W9 + (maxL + 11) + rm.locals ≤ R.locals)
    (hws : ∀ w ∈ ws, ∀ a' U, s.WarmedH U.vm → w.before a' U = true) (hcode : Cond.code y bytes maxL ret ∈ ws) (hinit : ∀ a' U, s.WarmedH U.vm → (Cond.initialized y.cls).before a' U = true) :
    vx_Back l R p e below s sargs y len W9 (PreOf R mc ms Pc) (PostOf Qc mc ms free) (vx_Post XC mc ms free) := by
  intro m meth c A g ig mk a X hg hsize hdg hW hn hp
  have h1 : (headSpec ws rm).pre.before a A.U = true := atoms_intro fun w hw => hws w hw _ _ X.warmed
  have h2 : (Cond.code y bytes maxL ret).before a A.U = true := hws _ hcode _ _ X.warmed
  have h3 : (Cond.initialized y.cls).before a A.U = true := hinit _ _ X.warmed
  have h4 : A.cells + (headSpec ws rm).room.cells ≤ R.cells := by rw [show (headSpec ws rm).room.cells = mc from hrc]; exact hp.1
  have h5 : A.slots + (headSpec ws rm).room.slots ≤ R.slots := by rw [show (headSpec ws rm).room.slots = ms from hrs]; exact hp.2.1
  have hPc : Pc a (A.U.calling g mk a) := hblind _ _ _ _ hp.2.2
  obtain ⟨U, Ls, c0, s0⟩ := A
  dsimp only [Pt.U, Pt.locs, Pt.cells, Pt.slots] at h1 h2 h3 h4 h5 X hn hPc ⊢
  obtain ⟨methY, cY, hmY, hcY, -, hlY, -, -, -, -⟩ := Cond.code_spec hn h2
  obtain ⟨kY, hkY, -⟩ := className_of_methodNamed hn
  have hinitY : kY.init = .initialized := Cond.initialized_spec (findClass_of_methodNamed hn) hkY h3
  have h : At U g.method c below := by rw [hg]; exact X.here
  have hlocals9 : W9 + (maxL + 11) + (headSpec ws rm).room.locals ≤ R.locals := hlocals
  have happ : (headSpec ws rm).appliesLoose y e.platform (U.calling g mk a) = true :=
    Spec.appliesLoose_calling (g := g) h hdg hn hkY hinitY
      (X.room_calling (g := g) (R' := (headSpec ws rm).room) hsize hmY hcY hframes (by rw [hlY]; omega) h4 h5) h1
  obtain ⟨mid, hmid⟩ := h.above
  have hfr : (U.setTop g).frames = (.java g :: mid) ++ below := by rw [State.frames_setTop' g h.top, hmid]; rfl
  obtain ⟨o, s₂, hsteps, -, hend, hq⟩ := Steps.callFree hM p X.admits X.cas X.clock (acts := []) hfr happ hPc trivial
  have hq' : vx_Q Qc XC mc ms free a (U.calling g mk a) o s₂ := hq
  rw [State.frames_setTop' g h.top] at hend
  obtain ⟨g₀, hg0⟩ := Option.isSome_iff_exists.mp h.top
  obtain ⟨r, hr⟩ := State.topJava?_eq_some.mp hg0
  have hr' : (({ U with heap := s₂.heap, slotsUsed := s₂.slotsUsed } : State).setVm s₂.vm).frames = .java g₀ :: r := hr
  rcases hq' with ⟨hqc, L, hfe, hL⟩ | ⟨q, rfl, E, ce, L, hx, hce, hcv, hcl, hW₂, hsm, hL⟩
  · obtain ⟨⟨v, rfl⟩, hW₂, e2, q2, q3, q4, q5, q6⟩ := id hfe
    have e3 : s₂ = ({ (U.calling g mk a).setFrames s₂.frames with heap := s₂.heap, slotsUsed := s₂.slotsUsed } : State).setVm s₂.vm := by
      have : s₂ = ({ s₂ with vm := (U.calling g mk a).vm } : State).setVm s₂.vm := rfl
      rw [e2] at this
      exact this
    obtain ⟨c₂, i₂, len₂, hc₂, hd₂, hf₂⟩ := hend
    have hW' : U.WarmedH s₂.vm := hW₂
    have hcc : c₂ = c := by
      have h1 : s₂.code? g.method = U.code? g.method := by
        rw [State.code?_eq, State.code?_eq, hW'.alike.method?]
      exact Option.some.inj (hc₂.symm.trans (h1.trans h.code))
    subst hcc
    have hlen : len₂ = len := by rw [hdg] at hd₂; cases hd₂; rfl
    subst hlen
    have hs₂ : s₂ = (({ U with heap := s₂.heap, slotsUsed := s₂.slotsUsed } : State).setVm s₂.vm).setTop { g with pc := g.pc + len₂, stack := v.toList ++ g.stack } := by
      refine e3.trans ?_
      rw [hf₂, State.calling_eq h.top, State.setFrames_setFrames, State.setTop_of_frames _ hr', hr]
      rfl
    have hsame : U.sameButNew ({ U with heap := s₂.heap, slotsUsed := s₂.slotsUsed } : State) L mc ms := by
      refine ⟨?_, q2, q3, q4, q5, q6⟩
      obtain ⟨t, ht, -⟩ := State.frames_cons hr
      show ({ U with heap := s₂.heap, slotsUsed := s₂.slotsUsed } : State) = { U.setFrames U.frames with heap := s₂.heap, slotsUsed := s₂.slotsUsed }
      rw [State.setFrames_self ht]
    subst hg
    refine Or.inl ⟨v, ⟨(({ U with heap := s₂.heap, slotsUsed := s₂.slotsUsed } : State).setVm s₂.vm), Ls ++ L, c0 + mc, s0 + ms⟩,
      ⟨X.admits, X.cas, X.clock, X.frames, X.room, X.hears, X.method, X.code, (X.here.setHeapUsed s₂.heap s₂.slotsUsed).setVm hW'.alike, X.tail, State.WarmedH.trans X.warmed hW', X.limits, X.bytes, X.same.trans (hsame.setVm s.vm)⟩,
      ⟨g, mk, s₂, L, rfl, rfl, hqc, rfl, hL, rfl, rfl⟩, ?_⟩
    show Steps p.tables e below _ ((({ U with heap := s₂.heap, slotsUsed := s₂.slotsUsed } : State).setVm s₂.vm).setTop { g with pc := g.pc + len₂, stack := v.toList ++ g.stack })
    rw [← hs₂]
    exact hsteps
  · obtain ⟨e2, q2, q3, q4, q5, q6⟩ := id hsm
    have e3 : s₂ = ({ (U.calling g mk a).setFrames s₂.frames with heap := s₂.heap, slotsUsed := s₂.slotsUsed } : State).setVm s₂.vm := by
      have : s₂ = ({ s₂ with vm := (U.calling g mk a).vm } : State).setVm s₂.vm := rfl
      rw [e2] at this
      exact this
    have hf₂ : s₂.frames = .throwing q :: .java g :: U.frames.tail := hend
    have hW' : U.WarmedH s₂.vm := hW₂
    have hs₂ : s₂ = ((({ U with heap := s₂.heap, slotsUsed := s₂.slotsUsed } : State).setVm s₂.vm).setTop g).pushFrame (.throwing q) := by
      refine e3.trans ?_
      rw [hf₂, State.calling_eq h.top, State.setFrames_setFrames, State.pushFrame, State.frames_setTop _ hr', State.setTop_of_frames _ hr', State.setFrames_setFrames, hr]
      rfl
    have hsame : U.sameButNew ({ U with heap := s₂.heap, slotsUsed := s₂.slotsUsed } : State) L mc ms := by
      refine ⟨?_, q2, q3, q4, q5, q6⟩
      obtain ⟨t, ht, -⟩ := State.frames_cons hr
      show ({ U with heap := s₂.heap, slotsUsed := s₂.slotsUsed } : State) = { U.setFrames U.frames with heap := s₂.heap, slotsUsed := s₂.slotsUsed }
      rw [State.setFrames_self ht]
    subst hg
    refine Or.inr ⟨q, ⟨(({ U with heap := s₂.heap, slotsUsed := s₂.slotsUsed } : State).setVm s₂.vm), Ls ++ L, c0 + mc, s0 + ms⟩,
      ⟨X.admits, X.cas, X.clock, X.frames, X.room, X.hears, X.method, X.code, (X.here.setHeapUsed s₂.heap s₂.slotsUsed).setVm hW'.alike, X.tail, State.WarmedH.trans X.warmed hW', X.limits, X.bytes, X.same.trans (hsame.setVm s.vm)⟩,
      ⟨g, mk, s₂, L, E, ce, rfl, rfl, hx, hce, hcv, hcl, rfl, hL, rfl, rfl⟩, ?_⟩
    show Steps p.tables e below _ (((({ U with heap := s₂.heap, slotsUsed := s₂.slotsUsed } : State).setVm s₂.vm).setTop g).pushFrame (.throwing q))
    rw [← hs₂]
    exact hsteps
end Payer
section Calls
variable {p : Program} {l : Launch} {e : Env} {R : Room} {s : State} {m : MethodId} {args : Array Value} {below : List Frame} {meth : Method} {c : Code} {T : State} {locs : List Loc} {cells slots : Nat}
theorem vx_callV (X : Stand p l e R s m args below meth c T locs cells slots) (hexec : p.tables.exec = Jvm.exec) {own C : String} {index : Nat} {y : MethodName} {bytes : ByteArray} {maxL : Nat} {ret : Option FieldType}
    (hown : s.vm.findClass own = some m.cls) (hlink : (Cond.methodLink own index y).before args s = true) (hinst : (Cond.instanceMethod y).before args s = true) (hsel : (Cond.selects C y y).before args s = true)
    (hcode : (Cond.code y bytes maxL ret).before args s = true) (hy : y.cls ≠ "java/lang/invoke/MethodHandle" ∧ y.cls ≠ "java/lang/invoke/VarHandle")
    {W9 : Nat} {Pre : Pt → Array Value → Prop} {Post : Pt → Array Value → Option Value → Pt → Prop} {PostX : Pt → Array Value → Addr → Pt → Prop} (hK : vx_Back l R p e below s args y 3 W9 Pre Post PostX)
    {b : Addr} {cellB : Cell} (hcell : T.heap[b]? = some cellB) (hobj : cellB.vm.isStatics = false) (hcls : s.vm.findClass C = some cellB.cls)
    {g : JFrame} (hg : g.method = m) (hsize : g.locals.size = c.maxLocals) {argsL rest : List Value} (hlen : ∀ sig, parseMethodDescriptor y.desc = some sig → argsL.length = sig.parameters.length)
    (hstack : g.stack = argsL.reverse ++ .ref b :: rest) (hW : 2 * g.monitorRoom + (rest.map fun v => v.category).sum ≤ W9) (hdg : decode c.code g.pc = .ok (.invokevirtual index, 3))
    (hpre : ∀ vm₁, s.WarmedH vm₁ → Pre ⟨T.setVm vm₁, locs, cells, slots⟩ (Value.ref b :: argsL).toArray) :
    (∃ (v : Option Value) (vm₁ : Vm) (B : Pt), s.WarmedH vm₁ ∧ Stand p l e R s m args below meth c B.U B.locs B.cells B.slots ∧ Post ⟨T.setVm vm₁, locs, cells, slots⟩ (Value.ref b :: argsL).toArray v B ∧
      ∀ target, Steps p.tables e below (B.U.setTop { g with pc := g.pc + 3, stack := v.toList ++ rest }) target → Steps p.tables e below (T.setTop g) target) ∨
    (∃ (q : Addr) (vm₁ : Vm) (B : Pt), s.WarmedH vm₁ ∧ Stand p l e R s m args below meth c B.U B.locs B.cells B.slots ∧ PostX ⟨T.setVm vm₁, locs, cells, slots⟩ (Value.ref b :: argsL).toArray q B ∧
      Steps p.tables e below (T.setTop g) ((B.U.setTop { g with stack := rest }).pushFrame (.throwing q))) := by
  obtain ⟨mk, methM, hnamed, hmethM, hstM, habM⟩ := Cond.instanceMethod_spec hinst
  obtain ⟨methM', cM, hmethM', -, -, -, -, -, -, hsigM⟩ := Cond.code_spec hnamed hcode
  cases hmethM.symm.trans hmethM'
  obtain ⟨c2, r2, m2, q1, q2, q3, q4, kP, hkP, hkPi⟩ := Cond.selects_spec hsel
  cases hcls.symm.trans q1
  cases (State.methodFound?_of_named hnamed hy).symm.trans q2
  cases hnamed.symm.trans q3
  have hselP : selectMethod e.platform s.vm cellB.cls mk = .method mk := by rw [Launch.admits_selectMethod X.admits]; exact q4
  obtain ⟨vm₁, X₁, hstep₁⟩ := X.invokevirtual hexec hown hlink hnamed hmethM hstM hkP hkPi hy (a := b) (cell := cellB) hcell
    (fun z h => by rw [h] at hobj; cases hobj) hselP hmethM habM hkP hkPi (g := g) hg (argsL := argsL) (rest := rest) (hlen _ hsigM) hstack hdg
  rcases hK m meth c ⟨T.setVm vm₁, locs, cells, slots⟩ { g with stack := rest } (.invokevirtual index) mk (Value.ref b :: argsL).toArray X₁ hg hsize hdg hW (X₁.named hnamed) (hpre vm₁ X₁.warmed) with ⟨v, B, X', hpost, hsteps⟩ | ⟨q, B, X', hpost, hsteps⟩
  · exact Or.inl ⟨v, vm₁, B, X₁.warmed, X', hpost, fun target h => hstep₁ _ fun acts => by rw [doInvoke_state]; exact hsteps.trans h⟩
  · exact Or.inr ⟨q, vm₁, B, X₁.warmed, X', hpost, hstep₁ _ fun acts => by rw [doInvoke_state]; exact hsteps⟩
theorem vx_callS (X : Stand p l e R s m args below meth c T locs cells slots) (hexec : p.tables.exec = Jvm.exec) {own : String} {index : Nat} {y : MethodName} {bytes : ByteArray} {maxL : Nat} {ret : Option FieldType}
    (hown : s.vm.findClass own = some m.cls) (hlink : (Cond.methodLink own index y).before args s = true) (hstat : (Cond.static y).before args s = true) (hinit : (Cond.initialized y.cls).before args s = true)
    (hcode : (Cond.code y bytes maxL ret).before args s = true) (hy : y.cls ≠ "java/lang/invoke/MethodHandle" ∧ y.cls ≠ "java/lang/invoke/VarHandle")
    {W9 : Nat} {Pre : Pt → Array Value → Prop} {Post : Pt → Array Value → Option Value → Pt → Prop} {PostX : Pt → Array Value → Addr → Pt → Prop} (hK : vx_Back l R p e below s args y 3 W9 Pre Post PostX)
    {g : JFrame} (hg : g.method = m) (hsize : g.locals.size = c.maxLocals) {argsL rest : List Value} (hlen : ∀ sig, parseMethodDescriptor y.desc = some sig → argsL.length = sig.parameters.length)
    (hstack : g.stack = argsL.reverse ++ rest) (hW : 2 * g.monitorRoom + (rest.map fun v => v.category).sum ≤ W9) (hdg : decode c.code g.pc = .ok (.invokestatic index, 3))
    (hpre : ∀ vm₁, s.WarmedH vm₁ → Pre ⟨T.setVm vm₁, locs, cells, slots⟩ argsL.toArray) :
    (∃ (v : Option Value) (vm₁ : Vm) (B : Pt), s.WarmedH vm₁ ∧ Stand p l e R s m args below meth c B.U B.locs B.cells B.slots ∧ Post ⟨T.setVm vm₁, locs, cells, slots⟩ argsL.toArray v B ∧
      ∀ target, Steps p.tables e below (B.U.setTop { g with pc := g.pc + 3, stack := v.toList ++ rest }) target → Steps p.tables e below (T.setTop g) target) ∨
    (∃ (q : Addr) (vm₁ : Vm) (B : Pt), s.WarmedH vm₁ ∧ Stand p l e R s m args below meth c B.U B.locs B.cells B.slots ∧ PostX ⟨T.setVm vm₁, locs, cells, slots⟩ argsL.toArray q B ∧
      Steps p.tables e below (T.setTop g) ((B.U.setTop { g with stack := rest }).pushFrame (.throwing q))) := by
  obtain ⟨mk, hnamed⟩ := Cond.code_named hcode
  obtain ⟨methM, cM, hmethM, -, -, -, -, -, -, hsigM⟩ := Cond.code_spec hnamed hcode
  have hstatic : methM.isStatic = true := Cond.static_spec hnamed hmethM hstat
  obtain ⟨kP, hkP, -⟩ := className_of_methodNamed hnamed
  have hinitP : kP.init = .initialized := Cond.initialized_spec (findClass_of_methodNamed hnamed) hkP hinit
  obtain ⟨vm₁, X₁, hstep₁⟩ := X.invokestatic hexec hown hlink hnamed hmethM hstatic hkP hinitP hy (g := g) hg (argsL := argsL) (rest := rest) (hlen _ hsigM) hstack hdg
  rcases hK m meth c ⟨T.setVm vm₁, locs, cells, slots⟩ { g with stack := rest } (.invokestatic index) mk argsL.toArray X₁ hg hsize hdg hW (X₁.named hnamed) (hpre vm₁ X₁.warmed) with ⟨v, B, X', hpost, hsteps⟩ | ⟨q, B, X', hpost, hsteps⟩
  · exact Or.inl ⟨v, vm₁, B, X₁.warmed, X', hpost, fun target h => hstep₁ _ fun acts => by rw [doInvoke_state]; exact hsteps.trans h⟩
  · exact Or.inr ⟨q, vm₁, B, X₁.warmed, X', hpost, hstep₁ _ fun acts => by rw [doInvoke_state]; exact hsteps⟩
end Calls
theorem vx_cls {s : State} {T : State} {vm₁ : Vm} {E : String} {k : ClassId} (hW : s.WarmedH vm₁) (h : (T.setVm vm₁).vm.findClass E = some k) : s.vm.findClass E = some k := by
  have h1 : vm₁.findClass E = some k := h
  rw [hW.alike.findClass] at h1
  exact h1
/-- the method's frame g, with q thrown over it -/
def vx_W (p : Program) (l : Launch) (e : Env) (R : Room) (s : State) (m : MethodId) (args : Array Value) (below : List Frame) (meth : Method) (c : Code) (H : Heap) (locs : List Loc) (cells slots : Nat) (Q : State → Prop) (g : JFrame) (q : Addr) : Prop :=
  ∀ T : State, T.heap = H → Stand p l e R s m args below meth c T locs cells slots → ∃ t, Steps p.tables e below ((T.setTop g).pushFrame (.throwing q)) t ∧ Q t
def vx_Run (p : Program) (l : Launch) (e : Env) (R : Room) (s : State) (m : MethodId) (args : Array Value) (below : List Frame) (meth : Method) (c : Code) (H : Heap) (locs : List Loc) (cells slots mc ms : Nat) (g : JFrame) (rest : List Value) (Qa : State → Outcome → State → Prop) (XC : String → State → State → Prop) (free : Addr → Prop) : Prop :=
  ∀ T : State, T.heap = H → Stand p l e R s m args below meth c T locs cells slots →
    (∃ (v : Option Value) (st₀ t T' : State) (L : List Loc), st₀.heap = H ∧ Stand p l e R s m args below meth c T' (locs ++ L) (cells + mc) (slots + ms) ∧ (∀ q ∈ L, free q.base) ∧ T'.heap = t.heap ∧ T'.vm = t.vm ∧ Qa st₀ (.returned v) t ∧
      Goes p e below T g T' { g with pc := g.pc + 3, stack := v.toList ++ rest }) ∨
    (∃ (q : Addr) (st₀ t T' : State) (L : List Loc) (E : String) (ce : Cell), st₀.heap = H ∧ Stand p l e R s m args below meth c T' (locs ++ L) (cells + mc) (slots + ms) ∧ (∀ z ∈ L, free z.base) ∧ T'.heap = t.heap ∧ T'.vm = t.vm ∧ XC E st₀ t ∧ t.heap[q]? = some ce ∧ ce.vm = .none ∧ s.vm.findClass E = some ce.cls ∧
      Steps p.tables e below (T.setTop g) ((T'.setTop { g with stack := rest }).pushFrame (.throwing q)))
def vx_X {S : Type} (px : S → Prop) (B : String → S → State → Prop) (A : Nat → Prop) : String → State → State → Prop := fun E st t => ∃ u : S, px u ∧ B E u t ∧ va_F A st t
section Runs
variable {p : Program} {l : Launch} {e : Env} {R : Room} {s : State} {m : MethodId} {args : Array Value} {below : List Frame} {meth : Method} {c : Code} {H : Heap} {locs : List Loc} {cells slots : Nat}
variable {y : MethodName} {bytes cc : ByteArray} {maxL nL mc ms n index : Nat} {ret : Option FieldType} {ws : List Cond} {rm : Room} {Pc : Array Value → State → Prop} {Qc : Array Value → State → Outcome → State → Prop} {XC : String → State → State → Prop} {free : Addr → Prop} {Ts : List Cond} {own C : String} {b : Addr} {As rest : List Value} {g : JFrame}
theorem vx_callBack (cb : CallB R s args own index y bytes maxL ret ws rm mc ms n) (hM : vx_Met l y ws rm Pc Qc XC mc ms free) (hbl : FrameBlind Pc) : vx_Back l R p e below s args y 3 8 (PreOf R mc ms Pc) (PostOf Qc mc ms free) (vx_Post XC mc ms free) := by
  obtain ⟨hrc, hrs, hfr, hlo, hws, hcw, -, hini, -⟩ := cb
  exact vx_back (bytes := bytes) (maxL := maxL) (ret := ret) hM hbl hrc hrs hfr hlo hws hcw (fun a' U hW => word_at hW (Or.inl (by first | rfl | simp [Cond.onTables, Cond.keeps, Cond.steady])) hini)
theorem vx_runV (S : CallFix p m c cc nL s args Ts own) (hM : vx_Met l y ws rm Pc Qc XC mc ms free) (cw : CallW R s args own C index y bytes maxL ret ws rm mc ms n) (hp : PreV s H C b Pc As)
    (hg : g.method = m) (hn : As.length = n) (hsize : g.locals.size = nL) (hstack : g.stack = As.reverse ++ .ref b :: rest) (hW : 2 * g.monitorRoom + (rest.map fun v => v.category).sum ≤ 8) (hdg : decode cc g.pc = .ok (.invokevirtual index, 3)) (hf : cells + mc ≤ R.cells ∧ slots + ms ≤ R.slots) :
    vx_Run p l e R s m args below meth c H locs cells slots mc ms g rest (Qc (Value.ref b :: As).toArray) XC free := by
  have hK : vx_Back l R p e below s args y 3 8 (PreOf R mc ms Pc) (PostOf Qc mc ms free) (vx_Post XC mc ms free) := vx_callBack cw.1 hM hp.1
  obtain ⟨⟨-, -, -, -, -, -, hcode, -, hy, hlen, hl⟩, hin, hse⟩ := cw
  obtain ⟨hx, hb, hml, ho, -⟩ := S
  obtain ⟨-, ⟨cellB, hcB, hoB, hclB⟩, hPc⟩ := hp
  intro T hT X
  rcases vx_callV X hx (C := C) (bytes := bytes) (maxL := maxL) (ret := ret) ho hl hin hse hcode hy hK (by rw [hT]; exact hcB) hoB hclB hg (hsize.trans hml.symm) (argsL := As) (rest := rest) (fun sig h => hn.trans (hlen sig h)) hstack hW (by rw [hb]; exact hdg)
    (fun vm₁ hW₁ => ⟨hf.1, hf.2, hPc (T.setVm vm₁) hT hW₁⟩) with ⟨v, vm₁, ⟨U', l2, c2, s2⟩, hW₁, X', ⟨g', mk, t, L, e1, e2, hq, h1, hL, h2, h3⟩, st⟩ | ⟨q, vm₁, ⟨U', l2, c2, s2⟩, hW₁, X', ⟨g', mk, t, L, E, ce, e1, e2, hq, hce, hcv, hcl, h1, hL, h2, h3⟩, st⟩
  · dsimp only [Pt.U, Pt.locs, Pt.cells, Pt.slots] at X' e1 e2 h1 h2 h3 st
    subst h1; subst h2; subst h3
    exact Or.inl ⟨v, (T.setVm vm₁).calling g' mk (Value.ref b :: As).toArray, t, U', L, hT, X', hL, e1, e2, hq, st⟩
  · dsimp only [Pt.U, Pt.locs, Pt.cells, Pt.slots] at X' e1 e2 h1 h2 h3 st hcl
    subst h1; subst h2; subst h3
    exact Or.inr ⟨q, (T.setVm vm₁).calling g' mk (Value.ref b :: As).toArray, t, U', L, E, ce, hT, X', hL, e1, e2, hq, hce, hcv, vx_cls hW₁ hcl, st⟩
theorem vx_runS (S : CallFix p m c cc nL s args Ts own) (hM : vx_Met l y ws rm Pc Qc XC mc ms free) (cw : CallB R s args own index y bytes maxL ret ws rm mc ms n ∧ (Cond.static y).before args s = true) (hp : PreS s H Pc As)
    (hg : g.method = m) (hn : As.length = n) (hsize : g.locals.size = nL) (hstack : g.stack = As.reverse ++ rest) (hW : 2 * g.monitorRoom + (rest.map fun v => v.category).sum ≤ 8) (hdg : decode cc g.pc = .ok (.invokestatic index, 3)) (hf : cells + mc ≤ R.cells ∧ slots + ms ≤ R.slots) :
    vx_Run p l e R s m args below meth c H locs cells slots mc ms g rest (Qc As.toArray) XC free := by
  have hK : vx_Back l R p e below s args y 3 8 (PreOf R mc ms Pc) (PostOf Qc mc ms free) (vx_Post XC mc ms free) := vx_callBack cw.1 hM hp.1
  obtain ⟨⟨-, -, -, -, -, -, hcode, hini, hy, hlen, hl⟩, hstt⟩ := cw
  obtain ⟨hx, hb, hml, ho, -⟩ := S
  intro T hT X
  rcases vx_callS X hx (bytes := bytes) (maxL := maxL) (ret := ret) ho hl hstt hini hcode hy hK hg (hsize.trans hml.symm) (argsL := As) (rest := rest) (fun sig h => hn.trans (hlen sig h)) hstack hW (by rw [hb]; exact hdg)
    (fun vm₁ hW₁ => ⟨hf.1, hf.2, hp.2 (T.setVm vm₁) hT hW₁⟩) with ⟨v, vm₁, ⟨U', l2, c2, s2⟩, hW₁, X', ⟨g', mk, t, L, e1, e2, hq, h1, hL, h2, h3⟩, st⟩ | ⟨q, vm₁, ⟨U', l2, c2, s2⟩, hW₁, X', ⟨g', mk, t, L, E, ce, e1, e2, hq, hce, hcv, hcl, h1, hL, h2, h3⟩, st⟩
  · dsimp only [Pt.U, Pt.locs, Pt.cells, Pt.slots] at X' e1 e2 h1 h2 h3 st
    subst h1; subst h2; subst h3
    exact Or.inl ⟨v, (T.setVm vm₁).calling g' mk As.toArray, t, U', L, hT, X', hL, e1, e2, hq, st⟩
  · dsimp only [Pt.U, Pt.locs, Pt.cells, Pt.slots] at X' e1 e2 h1 h2 h3 st hcl
    subst h1; subst h2; subst h3
    exact Or.inr ⟨q, (T.setVm vm₁).calling g' mk As.toArray, t, U', L, E, ce, hT, X', hL, e1, e2, hq, hce, hcv, vx_cls hW₁ hcl, st⟩
end Runs
section Rows
variable {p : Program} {l : Launch} {e : Env} {R : Room} {s : State} {m : MethodId} {args : Array Value} {below : List Frame} {meth : Method} {c : Code} {H : Heap} {locs : List Loc} {cells slots : Nat} {Q : State → Prop}
variable {mc ms : Nat} {free : Addr → Prop} {A0 A1 : Nat → Prop} {H0 : Heap} {a : Array Value} {pc : Nat} {ls : Array Slot} {st0 rest : List Value}
theorem vx_keep {st₀ t T' : State} {L : List Loc} (h0 : st₀.heap = H) (e1 : T'.heap = t.heap) (hS : va_S A0 H0 H locs) (hA : ∀ q, q < H.size → A1 q → A0 q) (hf : ∀ q, free q → A0 q) (hL : ∀ q ∈ L, free q.base) (hF : va_F A1 st₀ t) :
    H.size ≤ T'.heap.size ∧ (∀ q : Nat, q < H.size → ¬ A1 q → T'.heap[q]? = H[q]?) ∧ va_S A0 H0 T'.heap (locs ++ L) := by
  obtain ⟨hz, hk⟩ := hF
  rw [h0] at hz hk
  exact ⟨by rw [e1]; exact hz, fun q h1 h2 => by rw [e1]; exact hk q h1 h2,
    ⟨Nat.le_trans hS.1 (by rw [e1]; exact hz), fun q h1 h2 => by rw [e1, hk q (Nat.lt_of_lt_of_le h1 hS.1) (fun z => h2 (hA q (Nat.lt_of_lt_of_le h1 hS.1) z))]; exact hS.2.1 q h1 h2, fun q hq => by
      rcases List.mem_append.mp hq with h | h
      · exact hS.2.2 q h
      · exact hf _ (hL q h)⟩⟩
theorem vx_calli {S SX : Type} {post : Int32 → S → Prop} {px : SX → Prop} {B : S → State → Prop} {BX : String → SX → State → Prop} {AX : Nat → Prop} (hr : vx_Run p l e R s m args below meth c H locs cells slots mc ms (F0 m pc ls st0) rest (va_Qi post B A1 a) (vx_X px BX AX) free) (hS : va_S A0 H0 H locs) (hA : ∀ q, q < H.size → A1 q → A0 q) (hf : ∀ q, free q → A0 q) (hAX : ∀ q, q < H.size → AX q → A0 q)
    (kx : ∀ (E : String) (ce : Cell) (q9 : Addr) (u : SX) (t : State) (H1 : Heap) (locs1 : List Loc), t.heap = H1 → s.vm.Alike t.vm → px u → BX E u t → H.size ≤ H1.size → (∀ q : Nat, q < H.size → ¬ AX q → H1[q]? = H[q]?) → va_S A0 H0 H1 locs1 → H1[q9]? = some ce → ce.vm = .none → s.vm.findClass E = some ce.cls → vx_W p l e R s m args below meth c H1 locs1 (cells + mc) (slots + ms) Q (F0 m pc ls rest) q9)
    (kk : ∀ (r : Int32) (u : S) (t : State) (H1 : Heap) (locs1 : List Loc), t.heap = H1 → s.vm.Alike t.vm → post r u → B u t → H.size ≤ H1.size → (∀ q : Nat, q < H.size → ¬ A1 q → H1[q]? = H[q]?) → va_S A0 H0 H1 locs1 → W p l e R s m args below meth c H1 locs1 (cells + mc) (slots + ms) Q (F0 m (pc + 3) ls (.int r :: rest))) : W p l e R s m args below meth c H locs cells slots Q (F0 m pc ls st0) := by
  intro T hT X
  rcases hr T hT X with ⟨v, st₀, t, T', L, h0, X', hL, e1, e2, ⟨⟨r, u, hv, hp, hb⟩, hF⟩, st⟩ | ⟨q, st₀, t, T', L, E, ce, h0, X', hL, e1, e2, ⟨u, hp, hb, hF⟩, hce, hcv, hcl, st⟩
  · cases hv
    obtain ⟨k1, k2, k3⟩ := vx_keep h0 e1 hS hA hf hL hF
    obtain ⟨t2, a1, b1⟩ := kk r u t T'.heap (locs ++ L) e1.symm (by rw [← e2]; exact X'.warmed.alike) hp hb k1 k2 k3 T' rfl X'
    exact ⟨t2, st t2 a1, b1⟩
  · obtain ⟨k1, k2, k3⟩ := vx_keep h0 e1 hS hAX hf hL hF
    obtain ⟨t2, a1, b1⟩ := kx E ce q u t T'.heap (locs ++ L) e1.symm (by rw [← e2]; exact X'.warmed.alike) hp hb k1 k2 k3 (by rw [e1]; exact hce) hcv hcl T' rfl X'
    exact ⟨t2, st.trans a1, b1⟩
theorem vx_calll {S SX : Type} {post : Int64 → S → Prop} {px : SX → Prop} {B : S → State → Prop} {BX : String → SX → State → Prop} {AX : Nat → Prop} (hr : vx_Run p l e R s m args below meth c H locs cells slots mc ms (F0 m pc ls st0) rest (va_Ql post B A1 a) (vx_X px BX AX) free) (hS : va_S A0 H0 H locs) (hA : ∀ q, q < H.size → A1 q → A0 q) (hf : ∀ q, free q → A0 q) (hAX : ∀ q, q < H.size → AX q → A0 q)
    (kx : ∀ (E : String) (ce : Cell) (q9 : Addr) (u : SX) (t : State) (H1 : Heap) (locs1 : List Loc), t.heap = H1 → s.vm.Alike t.vm → px u → BX E u t → H.size ≤ H1.size → (∀ q : Nat, q < H.size → ¬ AX q → H1[q]? = H[q]?) → va_S A0 H0 H1 locs1 → H1[q9]? = some ce → ce.vm = .none → s.vm.findClass E = some ce.cls → vx_W p l e R s m args below meth c H1 locs1 (cells + mc) (slots + ms) Q (F0 m pc ls rest) q9)
    (kk : ∀ (r : Int64) (u : S) (t : State) (H1 : Heap) (locs1 : List Loc), t.heap = H1 → s.vm.Alike t.vm → post r u → B u t → H.size ≤ H1.size → (∀ q : Nat, q < H.size → ¬ A1 q → H1[q]? = H[q]?) → va_S A0 H0 H1 locs1 → W p l e R s m args below meth c H1 locs1 (cells + mc) (slots + ms) Q (F0 m (pc + 3) ls (.long r :: rest))) : W p l e R s m args below meth c H locs cells slots Q (F0 m pc ls st0) := by
  intro T hT X
  rcases hr T hT X with ⟨v, st₀, t, T', L, h0, X', hL, e1, e2, ⟨⟨r, u, hv, hp, hb⟩, hF⟩, st⟩ | ⟨q, st₀, t, T', L, E, ce, h0, X', hL, e1, e2, ⟨u, hp, hb, hF⟩, hce, hcv, hcl, st⟩
  · cases hv
    obtain ⟨k1, k2, k3⟩ := vx_keep h0 e1 hS hA hf hL hF
    obtain ⟨t2, a1, b1⟩ := kk r u t T'.heap (locs ++ L) e1.symm (by rw [← e2]; exact X'.warmed.alike) hp hb k1 k2 k3 T' rfl X'
    exact ⟨t2, st t2 a1, b1⟩
  · obtain ⟨k1, k2, k3⟩ := vx_keep h0 e1 hS hAX hf hL hF
    obtain ⟨t2, a1, b1⟩ := kx E ce q u t T'.heap (locs ++ L) e1.symm (by rw [← e2]; exact X'.warmed.alike) hp hb k1 k2 k3 (by rw [e1]; exact hce) hcv hcl T' rfl X'
    exact ⟨t2, st.trans a1, b1⟩
theorem vx_callf {S SX : Type} {post : UInt32 → S → Prop} {px : SX → Prop} {B : S → State → Prop} {BX : String → SX → State → Prop} {AX : Nat → Prop} (hr : vx_Run p l e R s m args below meth c H locs cells slots mc ms (F0 m pc ls st0) rest (va_Qf post B A1 a) (vx_X px BX AX) free) (hS : va_S A0 H0 H locs) (hA : ∀ q, q < H.size → A1 q → A0 q) (hf : ∀ q, free q → A0 q) (hAX : ∀ q, q < H.size → AX q → A0 q)
    (kx : ∀ (E : String) (ce : Cell) (q9 : Addr) (u : SX) (t : State) (H1 : Heap) (locs1 : List Loc), t.heap = H1 → s.vm.Alike t.vm → px u → BX E u t → H.size ≤ H1.size → (∀ q : Nat, q < H.size → ¬ AX q → H1[q]? = H[q]?) → va_S A0 H0 H1 locs1 → H1[q9]? = some ce → ce.vm = .none → s.vm.findClass E = some ce.cls → vx_W p l e R s m args below meth c H1 locs1 (cells + mc) (slots + ms) Q (F0 m pc ls rest) q9)
    (kk : ∀ (r : UInt32) (u : S) (t : State) (H1 : Heap) (locs1 : List Loc), t.heap = H1 → s.vm.Alike t.vm → post r u → B u t → H.size ≤ H1.size → (∀ q : Nat, q < H.size → ¬ A1 q → H1[q]? = H[q]?) → va_S A0 H0 H1 locs1 → W p l e R s m args below meth c H1 locs1 (cells + mc) (slots + ms) Q (F0 m (pc + 3) ls (.float r :: rest))) : W p l e R s m args below meth c H locs cells slots Q (F0 m pc ls st0) := by
  intro T hT X
  rcases hr T hT X with ⟨v, st₀, t, T', L, h0, X', hL, e1, e2, ⟨⟨r, u, hv, hp, hb⟩, hF⟩, st⟩ | ⟨q, st₀, t, T', L, E, ce, h0, X', hL, e1, e2, ⟨u, hp, hb, hF⟩, hce, hcv, hcl, st⟩
  · cases hv
    obtain ⟨k1, k2, k3⟩ := vx_keep h0 e1 hS hA hf hL hF
    obtain ⟨t2, a1, b1⟩ := kk r u t T'.heap (locs ++ L) e1.symm (by rw [← e2]; exact X'.warmed.alike) hp hb k1 k2 k3 T' rfl X'
    exact ⟨t2, st t2 a1, b1⟩
  · obtain ⟨k1, k2, k3⟩ := vx_keep h0 e1 hS hAX hf hL hF
    obtain ⟨t2, a1, b1⟩ := kx E ce q u t T'.heap (locs ++ L) e1.symm (by rw [← e2]; exact X'.warmed.alike) hp hb k1 k2 k3 (by rw [e1]; exact hce) hcv hcl T' rfl X'
    exact ⟨t2, st.trans a1, b1⟩
theorem vx_calld {S SX : Type} {post : UInt64 → S → Prop} {px : SX → Prop} {B : S → State → Prop} {BX : String → SX → State → Prop} {AX : Nat → Prop} (hr : vx_Run p l e R s m args below meth c H locs cells slots mc ms (F0 m pc ls st0) rest (va_Qd post B A1 a) (vx_X px BX AX) free) (hS : va_S A0 H0 H locs) (hA : ∀ q, q < H.size → A1 q → A0 q) (hf : ∀ q, free q → A0 q) (hAX : ∀ q, q < H.size → AX q → A0 q)
    (kx : ∀ (E : String) (ce : Cell) (q9 : Addr) (u : SX) (t : State) (H1 : Heap) (locs1 : List Loc), t.heap = H1 → s.vm.Alike t.vm → px u → BX E u t → H.size ≤ H1.size → (∀ q : Nat, q < H.size → ¬ AX q → H1[q]? = H[q]?) → va_S A0 H0 H1 locs1 → H1[q9]? = some ce → ce.vm = .none → s.vm.findClass E = some ce.cls → vx_W p l e R s m args below meth c H1 locs1 (cells + mc) (slots + ms) Q (F0 m pc ls rest) q9)
    (kk : ∀ (r : UInt64) (u : S) (t : State) (H1 : Heap) (locs1 : List Loc), t.heap = H1 → s.vm.Alike t.vm → post r u → B u t → H.size ≤ H1.size → (∀ q : Nat, q < H.size → ¬ A1 q → H1[q]? = H[q]?) → va_S A0 H0 H1 locs1 → W p l e R s m args below meth c H1 locs1 (cells + mc) (slots + ms) Q (F0 m (pc + 3) ls (.double r :: rest))) : W p l e R s m args below meth c H locs cells slots Q (F0 m pc ls st0) := by
  intro T hT X
  rcases hr T hT X with ⟨v, st₀, t, T', L, h0, X', hL, e1, e2, ⟨⟨r, u, hv, hp, hb⟩, hF⟩, st⟩ | ⟨q, st₀, t, T', L, E, ce, h0, X', hL, e1, e2, ⟨u, hp, hb, hF⟩, hce, hcv, hcl, st⟩
  · cases hv
    obtain ⟨k1, k2, k3⟩ := vx_keep h0 e1 hS hA hf hL hF
    obtain ⟨t2, a1, b1⟩ := kk r u t T'.heap (locs ++ L) e1.symm (by rw [← e2]; exact X'.warmed.alike) hp hb k1 k2 k3 T' rfl X'
    exact ⟨t2, st t2 a1, b1⟩
  · obtain ⟨k1, k2, k3⟩ := vx_keep h0 e1 hS hAX hf hL hF
    obtain ⟨t2, a1, b1⟩ := kx E ce q u t T'.heap (locs ++ L) e1.symm (by rw [← e2]; exact X'.warmed.alike) hp hb k1 k2 k3 (by rw [e1]; exact hce) hcv hcl T' rfl X'
    exact ⟨t2, st.trans a1, b1⟩
theorem vx_callv {S SX : Type} {post : S → Prop} {px : SX → Prop} {B : S → State → Prop} {BX : String → SX → State → Prop} {AX : Nat → Prop} (hr : vx_Run p l e R s m args below meth c H locs cells slots mc ms (F0 m pc ls st0) rest (va_Qv post B A1 a) (vx_X px BX AX) free) (hS : va_S A0 H0 H locs) (hA : ∀ q, q < H.size → A1 q → A0 q) (hf : ∀ q, free q → A0 q) (hAX : ∀ q, q < H.size → AX q → A0 q)
    (kx : ∀ (E : String) (ce : Cell) (q9 : Addr) (u : SX) (t : State) (H1 : Heap) (locs1 : List Loc), t.heap = H1 → s.vm.Alike t.vm → px u → BX E u t → H.size ≤ H1.size → (∀ q : Nat, q < H.size → ¬ AX q → H1[q]? = H[q]?) → va_S A0 H0 H1 locs1 → H1[q9]? = some ce → ce.vm = .none → s.vm.findClass E = some ce.cls → vx_W p l e R s m args below meth c H1 locs1 (cells + mc) (slots + ms) Q (F0 m pc ls rest) q9)
    (kk : ∀ (u : S) (t : State) (H1 : Heap) (locs1 : List Loc), t.heap = H1 → s.vm.Alike t.vm → post u → B u t → H.size ≤ H1.size → (∀ q : Nat, q < H.size → ¬ A1 q → H1[q]? = H[q]?) → va_S A0 H0 H1 locs1 → W p l e R s m args below meth c H1 locs1 (cells + mc) (slots + ms) Q (F0 m (pc + 3) ls (rest))) : W p l e R s m args below meth c H locs cells slots Q (F0 m pc ls st0) := by
  intro T hT X
  rcases hr T hT X with ⟨v, st₀, t, T', L, h0, X', hL, e1, e2, ⟨⟨u, hv, hp, hb⟩, hF⟩, st⟩ | ⟨q, st₀, t, T', L, E, ce, h0, X', hL, e1, e2, ⟨u, hp, hb, hF⟩, hce, hcv, hcl, st⟩
  · cases hv
    obtain ⟨k1, k2, k3⟩ := vx_keep h0 e1 hS hA hf hL hF
    obtain ⟨t2, a1, b1⟩ := kk u t T'.heap (locs ++ L) e1.symm (by rw [← e2]; exact X'.warmed.alike) hp hb k1 k2 k3 T' rfl X'
    exact ⟨t2, st t2 a1, b1⟩
  · obtain ⟨k1, k2, k3⟩ := vx_keep h0 e1 hS hAX hf hL hF
    obtain ⟨t2, a1, b1⟩ := kx E ce q u t T'.heap (locs ++ L) e1.symm (by rw [← e2]; exact X'.warmed.alike) hp hb k1 k2 k3 (by rw [e1]; exact hce) hcv hcl T' rfl X'
    exact ⟨t2, st.trans a1, b1⟩
/-- caught by the row x of this method's table; the rows ahead don't take it -/
theorem vx_catch {own name : String} {E : String} {ce : Cell} {q : Addr} (hown : s.vm.findClass own = some m.cls) (pre : List ExceptionTableEntry) (x : ExceptionTableEntry) (suf : List ExceptionTableEntry) (hsplit : c.exceptionTable.toList = pre ++ x :: suf)
    (hpass : ∀ z ∈ pre, covers z pc = false ∨ (z.catchType ≠ 0 ∧ ∃ nm : String, (Cond.classLink own z.catchType nm).before args s = true ∧ va_Nc E nm s)) (hx : covers x pc = true) (h0 : x.catchType ≠ 0)
    (hlink : (Cond.classLink own x.catchType name).before args s = true) (hcast : (Cond.castable E name).before args s = true) (hcell : H[q]? = some ce) (hv : ce.vm = .none) (hcl : s.vm.findClass E = some ce.cls)
    (kk : W p l e R s m args below meth c H locs cells slots Q (F0 m x.handlerPc ls [.ref q])) : vx_W p l e R s m args below meth c H locs cells slots Q (F0 m pc ls rest) q := by
  intro T hT X
  have hpl : e.platform.magicAccessors = ({} : Platform).magicAccessors := by rw [X.admits.platform]
  obtain ⟨c3, c4, hc3, hc4, hasg⟩ := Cond.castable_spec hcast
  cases Option.some.inj (hc3.symm.trans hcl)
  obtain ⟨c5, hc5, hcl5⟩ := Cond.classLink_spec hown hlink e.platform hpl
  cases Option.some.inj (hc4.symm.trans hc5)
  obtain ⟨vm', X', st⟩ := X.thenCaughtThrough q (g := F0 m pc ls rest) rfl (Steps.refl _) (by rw [hT]; exact hcell) (by rw [hv]; rfl) (by obtain ⟨k9, h9, -⟩ := Vm.findClass_spec hcl; exact ⟨k9, h9⟩) pre x suf hsplit
    (fun z hz => by
      rcases hpass z hz with h | ⟨hz0, nm, hl1, hn1⟩
      · exact Or.inl h
      · obtain ⟨c6, hc6, hcl6⟩ := Cond.classLink_spec hown hl1 e.platform hpl
        obtain ⟨a8, b8, h1, h2, h3⟩ := hn1
        cases Option.some.inj (h1.symm.trans hcl)
        cases Option.some.inj (h2.symm.trans hc6)
        exact Or.inr ⟨hz0, _, hcl6, h3⟩) hx (Or.inr ⟨h0, c4, hcl5, hasg⟩)
  obtain ⟨t, a1, b1⟩ := kk (T.setVm vm') hT X'
  exact ⟨t, st.trans a1, b1⟩
end Rows
section Ends
variable {p : Program} {l : Launch} {e : Env} {R : Room} {s : State} {m : MethodId} {args : Array Value} {below : List Frame} {meth : Method} {c : Code} {H : Heap} {locs : List Loc} {cells slots : Nat} {Q : State → Prop}
variable {mc ms : Nat} {free : Addr → Prop} {A0 A1 : Nat → Prop} {H0 : Heap} {a : Array Value} {ls : Array Slot} {st0 rest : List Value}
variable {Qc : Array Value → State → Outcome → State → Prop} {XC : String → State → State → Prop}
/-- what a body that may throw owes at its end -/
def vx_MQ (below : List Frame) (Qc : Array Value → State → Outcome → State → Prop) (XC : String → State → State → Prop) (a : Array Value) (s : State) (mc ms : Nat) (free : Addr → Prop) : State → Prop := fun t =>
  ∃ o, t.status = .running ∧ Ended t below o ∧ vx_Q Qc XC mc ms free a s o t
theorem vx_ret {g : JFrame} {mc ms : Nat} (k : W p l e R s m args below meth c H locs cells slots (MQ below Qc args s mc ms free) g) : W p l e R s m args below meth c H locs cells slots (vx_MQ below Qc XC args s mc ms free) g := by
  intro T hT X
  obtain ⟨t, a1, o, b1, b2, b3, b4⟩ := k T hT X
  exact ⟨t, a1, o, b1, b2, Or.inl ⟨b3, b4⟩⟩
/-- not caught here: it goes on to the caller -/
theorem vx_widen {g : JFrame} {q : Addr} {k n : Nat} (h1 : cells ≤ k) (h2 : slots ≤ n) (kk : vx_W p l e R s m args below meth c H locs k n Q g q) : vx_W p l e R s m args below meth c H locs cells slots Q g q := fun T hT X => kk T hT (stand_widen X h1 h2)
theorem vx_out {pc : Nat} {E : String} {ce : Cell} {q : Addr} {mc ms : Nat} (hout : ∀ x ∈ c.exceptionTable.toList, covers x pc = false) (hlocks : meth.locks = false) (hcell : H[q]? = some ce) (hv : ce.vm = .none) (hcl : s.vm.findClass E = some ce.cls)
    (hx : ∀ t : State, t.heap = H → s.vm.Alike t.vm → XC E s t) (hf : ∀ z ∈ locs, free z.base) (hc : cells ≤ mc) (hs : slots ≤ ms) :
    vx_W p l e R s m args below meth c H locs cells slots (vx_MQ below Qc XC args s mc ms free) (F0 m pc ls rest) q := by
  intro T hT X
  obtain ⟨st1, hrun, hend, hW, hsm⟩ := X.leaveThrown q (g := F0 m pc ls rest) rfl rfl rfl hout hlocks
  have hcell9 : (T.setFrames (.throwing q :: below)).heap[q]? = some ce := by
    show T.heap[q]? = some ce
    rw [hT]; exact hcell
  exact ⟨_, st1, .threw q, hrun, hend, Or.inr ⟨q, rfl, E, ce, locs, hx _ hT hW.alike, hcell9, hv, hcl, hW, hsm.mono hc hs, hf⟩⟩
theorem vx_frame {U : State} {k n : Nat} (h : s.sameButNew ({ U with vm := s.vm } : State) locs k n) : s.heap.size ≤ U.heap.size ∧ ∀ q : Nat, q < s.heap.size → (∀ z ∈ locs, z.base ≠ q) → U.heap[q]? = s.heap[q]? := by
  obtain ⟨-, h2, -, -, -, h6⟩ := h
  refine ⟨h2, fun q hq hz => ?_⟩
  obtain ⟨c9, e1, e2, e3, e4⟩ := h6 q _ (Array.getElem?_eq_getElem hq)
  have hs : c9.slots = (s.heap[q]).slots := Array.ext_getElem? fun i => e4 i fun hm => hz _ hm rfl
  have h9 : c9 = s.heap[q] := by
    rw [hs] at e2
    exact e2
  have e5 : U.heap[q]? = some c9 := e1
  rw [e5, h9, Array.getElem?_eq_getElem hq]
/-- the words of a throw but the four that speak of the heap -/
def vx_no (w : Cond) : Bool := decide (w ≠ .isRef (.static Bundle.tN "UNASSIGNED_STACK" Bundle.steD)) && decide (w ≠ .isRef (.static Bundle.tN "SUPPRESSED_SENTINEL" Bundle.listD)) && decide (w ≠ .laysStatic Bundle.tN "UNASSIGNED_STACK" Bundle.steD) && decide (w ≠ .laysStatic Bundle.tN "SUPPRESSED_SENTINEL" Bundle.listD)
def vx_at0 (own : String) (ic : Nat) (X : String) (names : List String) : List Cond := (Bundle.ownAtoms0 own ic X names).filter vx_no
def vx_atS (own : String) (ic : Nat) (X : String) (names : List String) : List Cond := (Bundle.ownAtoms own ic X names).filter vx_no
/-- a word that the tables alone decide, or a good one -/
def vx_ot (w : Cond) : Bool := w.onTables || goodWord w
theorem vx_ot_at {args a' : Array Value} {s U : State} {w : Cond} (hW : s.WarmedH U.vm) (hvm : s.vm = U.vm) (hg : vx_ot w = true) (h : w.before args s = true) : w.before a' U = true := by
  simp only [vx_ot, Bool.or_eq_true] at hg
  rcases hg with hg | hg
  · exact va_tabs hg hvm h
  · exact word_at hW (good_of_word hg) h
/-- a list's words: the good ones out of the method's own list, the others by premises of their own -/
theorem vx_hat {args : Array Value} {s : State} {L B : List Cond} (h1 : ∀ w ∈ L.filter goodWord, w.before args s = true) (h2 : ∀ w ∈ L.filter (fun w => !goodWord w), w ∈ B) (h3 : ∀ w ∈ B, w.before args s = true) : ∀ w ∈ L, w.before args s = true := by
  intro w hw
  by_cases g : goodWord w = true
  · exact h1 w (List.mem_filter.mpr ⟨hw, g⟩)
  · refine h3 w (h2 w (List.mem_filter.mpr ⟨hw, ?_⟩))
    show (!goodWord w) = true
    cases hgw : goodWord w
    · rfl
    · exact absurd hgw g
theorem vx_c {args : Array Value} {s : State} {w : Cond} {B : List Cond} (h : w.before args s = true) (t : ∀ w ∈ B, w.before args s = true) : ∀ w' ∈ w :: B, w'.before args s = true := fun w' h' => (List.mem_cons.mp h').elim (fun e => by rw [e]; exact h) (t w')
theorem vx_n {args : Array Value} {s : State} : ∀ w ∈ ([] : List Cond), w.before args s = true := fun _ h => nomatch h
theorem vx_own {args : Array Value} {s : State} {L : List Cond} (h1 : ∀ w ∈ L.filter vx_no, w.before args s = true)
    (hU : (Cond.isRef (.static Bundle.tN "UNASSIGNED_STACK" Bundle.steD)).before args s = true) (hN : (Cond.isRef (.static Bundle.tN "SUPPRESSED_SENTINEL" Bundle.listD)).before args s = true)
    (lU : (Cond.laysStatic Bundle.tN "UNASSIGNED_STACK" Bundle.steD).before args s = true) (lN : (Cond.laysStatic Bundle.tN "SUPPRESSED_SENTINEL" Bundle.listD).before args s = true) : ∀ w ∈ L, w.before args s = true := by
  intro w hw
  by_cases e1 : w = .isRef (.static Bundle.tN "UNASSIGNED_STACK" Bundle.steD)
  · rw [e1]; exact hU
  · by_cases e2 : w = .isRef (.static Bundle.tN "SUPPRESSED_SENTINEL" Bundle.listD)
    · rw [e2]; exact hN
    · by_cases e3 : w = .laysStatic Bundle.tN "UNASSIGNED_STACK" Bundle.steD
      · rw [e3]; exact lU
      · by_cases e4 : w = .laysStatic Bundle.tN "SUPPRESSED_SENTINEL" Bundle.listD
        · rw [e4]; exact lN
        · exact h1 w (List.mem_filter.mpr ⟨hw, by unfold vx_no; rw [decide_eq_true e1, decide_eq_true e2, decide_eq_true e3, decide_eq_true e4]; rfl⟩)
/-- where a static field lies, its class's statics cell in H -/
def vx_L (C n d : String) (A : Nat → Prop) (U : State) (H : Heap) : Prop := ∃ (c : ClassId) (k : Class) (i : Nat) (f : Field) (a : Nat) (cell : Cell), U.vm.findClass C = some c ∧ U.fieldFound? C n d = some (c, k, i, f) ∧ f.isStatic = true ∧ k.statics = some a ∧ H[a]? = some cell ∧ cell.vm.isStatics = true ∧ cell.cls = c ∧ f.slot < cell.slots.size ∧ k.staticTypes[f.slot]? = some f.type ∧ ¬ A a
theorem vx_L.moved {C n d : String} {A : Nat → Prop} {u U : State} {H : Heap} (hvm : u.vm.Alike U.vm) (h : vx_L C n d A u H) : vx_L C n d A U H := by
  obtain ⟨c, k, i, f, a, cell, h1, h2, h3, h4, h5, h6, h7, h8, h9, h10⟩ := h
  obtain ⟨k', hi', he⟩ := State.fieldFound?_setVm hvm h2
  exact ⟨c, k', i, f, a, cell, by rw [hvm.findClass]; exact h1, hi', h3, by rw [he]; exact h4, h5, h6, h7, h8, by rw [he]; exact h9, h10⟩
theorem vx_L.kept {C n d : String} {A : Nat → Prop} {U : State} {H H1 : Heap} (h : vx_L C n d A U H) (hq : ∀ a : Nat, a < H.size → ¬ A a → H1[a]? = H[a]?) : vx_L C n d A U H1 := by
  obtain ⟨c, k, i, f, a, cell, h1, h2, h3, h4, h5, h6, h7, h8, h9, h10⟩ := h
  exact ⟨c, k, i, f, a, cell, h1, h2, h3, h4, by rw [hq a (Array.getElem?_eq_some_iff.mp h5).1 h10]; exact h5, h6, h7, h8, h9, h10⟩
theorem vx_L.narrow {C n d : String} {A B : Nat → Prop} {U : State} {H : Heap} (h : vx_L C n d A U H) (hAB : ∀ q, B q → A q) : vx_L C n d B U H := by
  obtain ⟨c, k, i, f, a, cell, h1, h2, h3, h4, h5, h6, h7, h8, h9, h10⟩ := h
  exact ⟨c, k, i, f, a, cell, h1, h2, h3, h4, h5, h6, h7, h8, h9, fun z => h10 (hAB _ z)⟩
theorem vx_L.word {C n d : String} {A : Nat → Prop} {s : State} {args : Array Value} (h : vx_L C n d A s s.heap) : (Cond.laysStatic C n d).before args s = true := by
  obtain ⟨c, k, i, f, a, cell, h1, h2, h3, h4, h5, h6, h7, h8, h9, -⟩ := h
  show (Cond.laysStatic C n d).holds args s none s [] = true
  exact Cond.laysStatic_of h1 h2 h3 h4 h5 h6 h7 h8 h9
/-- .. and what it holds: null or some reference -/
def vx_Zq (C n d : String) (A : Nat → Prop) (U : State) (H : Heap) : Prop := va_Zq C n d A U H ∧ vx_L C n d A U H
theorem vx_Zq.moved {C n d : String} {A : Nat → Prop} {u U : State} {H : Heap} (hvm : u.vm.Alike U.vm) (h : vx_Zq C n d A u H) : vx_Zq C n d A U H := ⟨va_Zq.moved hvm h.1, vx_L.moved hvm h.2⟩
theorem vx_Zq.kept {C n d : String} {A : Nat → Prop} {U : State} {H H1 : Heap} (h : vx_Zq C n d A U H) (hq : ∀ a : Nat, a < H.size → ¬ A a → H1[a]? = H[a]?) : vx_Zq C n d A U H1 := ⟨va_Zq.kept h.1 hq, vx_L.kept h.2 hq⟩
theorem vx_Zq.narrow {C n d : String} {A B : Nat → Prop} {U : State} {H : Heap} (h : vx_Zq C n d A U H) (hAB : ∀ q, B q → A q) : vx_Zq C n d B U H := ⟨va_Zq.narrow h.1 hAB, vx_L.narrow h.2 hAB⟩
theorem vx_Zqof {args : Array Value} {s : State} {C n d : String} {A : Nat → Prop} (hl : (Cond.laysStatic C n d).before args s = true) (hini : (Cond.initialized C).before args s = true) (h : (Cond.isRef (.static C n d)).before args s = true) (hA : ∀ a : Nat, a < s.heap.size → ¬ A a) : vx_Zq C n d A s s.heap := by
  refine ⟨va_Zqof hl hini h hA, ?_⟩
  obtain ⟨c, k, i, f, a, cell, h1, h2, h3, h4, h5, h6, h7, h8, h9⟩ := Cond.laysStatic_spec hl
  exact ⟨c, k, i, f, a, cell, h1, h2, h3, h4, h5, h6, h7, h8, h9, hA a (Array.getElem?_eq_some_iff.mp h5).1⟩
theorem vx_isRef {C n d : String} {v : Value} {A : Nat → Prop} {s : State} {args : Array Value} (h : va_Z C n d v A s s.heap) (hv : v.isRef = true) : (Cond.isRef (.static C n d)).before args s = true := by
  obtain ⟨cf, kf, fi, f, a, cell, h1, h2, h3, h4, h5, h6, h7, -⟩ := h
  have he : (Term.static C n d).eval args s none [] s = some v := by
    simp [Term.eval, State.fieldNamed?, h1, h2, h4, h5, h6, h7]
  simp only [Cond.before, Cond.holds, Cond.value, he]
  cases v <;> simp_all [Value.isRef]
theorem vx_isRefq {C n d : String} {A : Nat → Prop} {s : State} {args : Array Value} (h : va_Zq C n d A s s.heap) : (Cond.isRef (.static C n d)).before args s = true := by
  rcases h with h | ⟨t, h⟩
  · exact vx_isRef h rfl
  · exact vx_isRef h rfl
/-- the same frame, seen from here: as if the method were called anew in this heap -/
theorem vx_rebase {T : State} (X : Stand p l e R s m args below meth c T locs cells slots) {R' : Room} (hf : R'.frames ≤ R.frames) (hl : R'.locals ≤ R.locals) (hc : cells + R'.cells ≤ R.cells) (hs : slots + R'.slots ≤ R.slots) :
    Stand p l e R' ((T.setVm s.vm).setFrames (.invoking m args :: below)) m args below meth c T [] 0 0 := by
  have htop : (T.setVm s.vm).topJava?.isSome := X.here.top
  have hF : ((T.setVm s.vm).setFrames (.invoking m args :: below)).frames = .invoking m args :: below := State.frames_setFrames _ (State.cur_lt_of_top htop)
  obtain ⟨g₀, hg0⟩ := Option.isSome_iff_exists.mp htop
  obtain ⟨r, hr⟩ := State.topJava?_eq_some.mp hg0
  have hl9 : e.platform.stackLimits (T.setVm s.vm).me = e.platform.stackLimits s.me := X.limits
  have hb9 : (T.setVm s.vm).me.stackBytes = s.me.stackBytes := X.bytes
  refine ⟨X.admits, X.cas, X.clock, hF, ?_, X.hears, X.method, X.code, X.here, X.tail, X.warmed, ?_, ?_, ?_⟩
  · have h := X.room
    have hU : ((T.setVm s.vm).setFrames (.invoking m args :: below)).localsInUse = s.localsInUse := by
      rw [State.localsInUse_invoking hF (meth := meth) (c := c) X.method X.code, State.localsInUse_invoking X.frames X.method X.code]
    simp only [State.hasRoom, Bool.and_eq_true, decide_eq_true_eq] at h ⊢
    obtain ⟨⟨⟨⟨h1, h2, h3, h4, h5, h6⟩, h7⟩, h8⟩, h9⟩ := h
    rw [X.frames, List.length_cons] at h2 h3
    have q1 := X.heapSize
    have q2 := X.used
    simp only [hF, hU, List.length_cons, State.stackLimits_setFrames, State.stackBytes_setFrames, hl9, hb9]
    refine ⟨⟨⟨⟨by omega, by omega, by omega, by omega, by omega, h6⟩, ?_⟩, ?_⟩, X.book⟩
    · show T.heap.size + R'.cells ≤ e.platform.maxCells
      omega
    · show T.slotsUsed + R'.slots ≤ e.platform.maxSlots
      omega
  · rw [State.stackLimits_setFrames]; rfl
  · rw [State.stackBytes_setFrames]; rfl
  · refine ⟨?_, Nat.le_refl _, Nat.le_refl _, ?_, ?_, fun a c9 h9 => ⟨c9, h9, rfl, rfl, fun _ _ => rfl⟩⟩
    · obtain ⟨t, ht, -⟩ := State.frames_cons hr
      show T.setVm s.vm = { ((T.setVm s.vm).setFrames (.invoking m args :: below)).setFrames (T.setVm s.vm).frames with heap := T.heap, slotsUsed := T.slotsUsed }
      rw [State.setFrames_setFrames, State.setFrames_self ht]
      rfl
    · show T.slotsUsed = T.slotsUsed + ((T.heap.toList.drop T.heap.size).map (·.slots.size)).sum
      rw [List.drop_eq_nil_of_le (Nat.le_of_eq Array.length_toList)]
      rfl
    · show ((T.heap.toList.drop T.heap.size).map (·.slots.size)).sum ≤ 0
      rw [List.drop_eq_nil_of_le (Nat.le_of_eq Array.length_toList)]
      exact Nat.le_refl _
/-- 'throw new E()': new; dup; invokespecial; athrow -/
theorem vx_throw0 {cc : ByteArray} {pc : Nat} (hexec : p.tables.exec = Jvm.exec) (hb : c.code = cc) (hl : l.stackTraces = false) {own cls : String} {names : List String} {ik ic mc ms : Nat} {A : Nat → Prop}
    (hown : s.vm.findClass own = some m.cls) (hcls : Bundle.fit cls = true) (hnames : ∀ n ∈ names, Bundle.fit n = true)
    (hk : (Cond.classLink own ik cls).before args s = true) (hini : (Cond.initialized cls).before args s = true) (hat : ∀ w ∈ vx_at0 own ic cls names, w.before args s = true)
    (hgood : ∀ w ∈ Cond.classLink own ik cls :: Cond.initialized cls :: vx_at0 own ic cls names, vx_ot w = true)
    (hU : vx_Zq Bundle.tN "UNASSIGNED_STACK" Bundle.steD A s s.heap) (hN : vx_Zq Bundle.tN "SUPPRESSED_SENTINEL" Bundle.listD A s s.heap) (hS : va_S A s.heap H locs) (hsize : ls.size = c.maxLocals)
    (d0 : decode cc pc = .ok (.new ik, 3)) (d3 : decode cc (pc + 3) = .ok (.dup, 1)) (d4 : decode cc (pc + 4) = .ok (.invokespecial ic, 3)) (d7 : decode cc (pc + 7) = .ok (.athrow, 1))
    (hout : ∀ x ∈ c.exceptionTable.toList, covers x (pc + 7) = false)
    (hRframes : names.length + 3 < R.frames) (hRlocals : (rest.map fun v => v.category).sum + (13 * (names.length + 1) + 42) ≤ R.locals) (hRcells : cells + 1 ≤ R.cells) (hRslots : slots + 6 ≤ R.slots) (hlocks : meth.locks = false)
    (hx : ∀ t : State, s.vm.Alike t.vm → H.size ≤ t.heap.size → (∀ q : Nat, q < H.size → t.heap[q]? = H[q]?) → XC cls s t)
    (hf : ∀ z ∈ locs, free z.base) (hc : cells + 1 ≤ mc) (hs : slots + 6 ≤ ms) :
    W p l e R s m args below meth c H locs cells slots (vx_MQ below Qc XC args s mc ms free) (F0 m pc ls rest) := by
  intro T hT X
  have htr : e.platform.stackTraces = false := (show e.platform.stackTraces = l.stackTraces by rw [X.admits.platform]).trans hl
  have Y := vx_rebase X (R' := { frames := R.frames, locals := R.locals, cells := 1, slots := 6 }) (Nat.le_refl _) (Nat.le_refl _) hRcells hRslots
  obtain ⟨s', hA⟩ : ∃ z, z = (T.setVm s.vm).setFrames (.invoking m args :: below) := ⟨_, rfl⟩
  rw [← hA] at Y
  have hvm : s'.vm = s.vm := by rw [hA]; rfl
  have hhp : s'.heap = H := by rw [hA]; exact hT
  have hW0 : s.WarmedH s'.vm := by rw [hvm]; exact State.WarmedH.refl s
  have hat' : ∀ w ∈ vx_at0 own ic cls names, w.before args s' = true := fun w hw => vx_ot_at hW0 hvm.symm (hgood w (List.mem_cons_of_mem _ (List.mem_cons_of_mem _ hw))) (hat w hw)
  have hk' : (Cond.classLink own ik cls).before args s' = true := vx_ot_at hW0 hvm.symm (hgood _ List.mem_cons_self) hk
  have hini' : (Cond.initialized cls).before args s' = true := vx_ot_at hW0 hvm.symm (hgood _ (List.mem_cons_of_mem _ List.mem_cons_self)) hini
  have hU' : vx_Zq Bundle.tN "UNASSIGNED_STACK" Bundle.steD A s' s'.heap := by rw [hhp]; exact vx_Zq.moved hW0.alike (hU.kept hS.2.1)
  have hN' : vx_Zq Bundle.tN "SUPPRESSED_SENTINEL" Bundle.listD A s' s'.heap := by rw [hhp]; exact vx_Zq.moved hW0.alike (hN.kept hS.2.1)
  have h : ∀ w ∈ Bundle.ownAtoms0 own ic cls names, w.before args s' = true := vx_own hat' (vx_isRefq hU'.1) (vx_isRefq hN'.1) hU'.2.word hN'.2.word
  have hown' : s'.vm.findClass own = some m.cls := by rw [hvm]; exact hown
  have hins : (Cond.instantiable cls 6).before args s' = true := h _ (by simp [Bundle.ownAtoms0])
  obtain ⟨vm₁, cX, kX, hfX, hkX, -, -, X₁, st1⟩ := Y.newCold hexec (own := own) (C := cls) (index := ik) (n := 6) hown' hk' hins hini'
    (g := F0 m pc ls rest) rfl (by rw [hb]; exact d0) (Nat.le_refl _) (Nat.le_refl _)
  generalize hT1 : (T.setVm vm₁).pushCell { cls := cX, slots := kX.instanceTypes.map defaultValue, vm := .none } = T1 at X₁ st1
  have hcat : (Value.ref T.heap.size).category = 1 := rfl
  have hcellA : T1.heap[T.heap.size]? = some (freshCell cX kX) := by rw [← hT1]; exact State.heap_pushCell_size _ _
  have d3' : decode c.code (pc + 3) = .ok (.dup, 1) := by rw [hb]; exact d3
  obtain ⟨U, hsteps, hrun, hend, hW, hsame, ce, hce, hO⟩ := X₁.ctorThrow0 hexec htr (own := own) (cls := cls) (names := names) (ic := ic) hown' hcls hnames h (fun x hx => nomatch hx) hfX hkX hcellA (by rw [hhp, hT]; exact Nat.le_refl _)
    (g := { method := m, pc := pc + 4, locals := ls, stack := .ref T.heap.size :: .ref T.heap.size :: rest, locked := none }) rfl hsize rfl rfl (rest := rest) rfl
    (by rw [hb]; exact d4) (by rw [hb]; exact d7) hout hRframes (by simp only [List.map_cons, List.sum_cons, hcat]; omega) hlocks
  obtain ⟨f1, f2⟩ := vx_frame hsame
  rw [hhp] at f1 f2
  have hWs : s.WarmedH U.vm := State.WarmedH.trans hW0 hW
  have hcl : s.vm.findClass cls = some ce.cls := by
    have h9 := hO.cls
    rw [hvm] at h9
    exact h9
  have hall : s.sameButNew ({ U with vm := s.vm } : State) locs mc ms := by
    subst hA
    obtain ⟨e1, e2⟩ := hsame
    rw [State.setFrames_setFrames] at e1
    have h2 : (T.setVm s.vm).sameButNew ({ U with vm := s.vm } : State) [] (0 + 1) (0 + 6) := ⟨e1, e2⟩
    have h3 := X.same.trans h2
    rw [List.append_nil] at h3
    exact h3.mono hc hs
  refine ⟨U, ?_, .threw T.heap.size, hrun, hend, Or.inr ⟨T.heap.size, rfl, cls, ce, locs, hx U hWs.alike f1 (fun q hq => f2 q hq (fun z hz => nomatch hz)), hce, hO.vm, hcl, hWs, hall, hf⟩⟩
  refine st1 _ ?_
  show Steps p.tables e below (T1.setTop { method := m, pc := pc + 3, locals := ls, stack := .ref T.heap.size :: rest, locked := none }) _
  jvm_step X₁.here [X₁.here.top, hexec, d3', Value.category]
  exact hsteps
/-- 'throw new E("text")': new; dup; ldc; invokespecial; athrow -/
theorem vx_throwS {cc : ByteArray} {pc : Nat} (hexec : p.tables.exec = Jvm.exec) (hb : c.code = cc) (hl : l.stackTraces = false) {own cls text : String} {names : List String} {ik is ic mc ms sa : Nat} {A : Nat → Prop}
    (hown : s.vm.findClass own = some m.cls) (hcls : Bundle.fit cls = true) (hnames : ∀ n ∈ names, Bundle.fit n = true)
    (hk : (Cond.classLink own ik cls).before args s = true) (hini : (Cond.initialized cls).before args s = true) (hstr : vk_R own is text sa s) (hat : ∀ w ∈ vx_atS own ic cls names, w.before args s = true)
    (hgood : ∀ w ∈ Cond.classLink own ik cls :: Cond.initialized cls :: vx_atS own ic cls names, vx_ot w = true)
    (hU : vx_Zq Bundle.tN "UNASSIGNED_STACK" Bundle.steD A s s.heap) (hN : vx_Zq Bundle.tN "SUPPRESSED_SENTINEL" Bundle.listD A s s.heap) (hS : va_S A s.heap H locs) (hsize : ls.size = c.maxLocals)
    (d0 : decode cc pc = .ok (.new ik, 3)) (d3 : decode cc (pc + 3) = .ok (.dup, 1)) (d4 : decode cc (pc + 4) = .ok (.ldc is, 2)) (d6 : decode cc (pc + 6) = .ok (.invokespecial ic, 3)) (d9 : decode cc (pc + 9) = .ok (.athrow, 1))
    (hout : ∀ x ∈ c.exceptionTable.toList, covers x (pc + 9) = false)
    (hRframes : names.length + 3 < R.frames) (hRlocals : (rest.map fun v => v.category).sum + (13 * (names.length + 1) + 43) ≤ R.locals) (hRcells : cells + 1 ≤ R.cells) (hRslots : slots + 6 ≤ R.slots) (hlocks : meth.locks = false)
    (hx : ∀ t : State, s.vm.Alike t.vm → H.size ≤ t.heap.size → (∀ q : Nat, q < H.size → t.heap[q]? = H[q]?) → XC cls s t)
    (hf : ∀ z ∈ locs, free z.base) (hc : cells + 1 ≤ mc) (hs : slots + 6 ≤ ms) :
    W p l e R s m args below meth c H locs cells slots (vx_MQ below Qc XC args s mc ms free) (F0 m pc ls rest) := by
  intro T hT X
  have htr : e.platform.stackTraces = false := (show e.platform.stackTraces = l.stackTraces by rw [X.admits.platform]).trans hl
  have Y := vx_rebase X (R' := { frames := R.frames, locals := R.locals, cells := 1, slots := 6 }) (Nat.le_refl _) (Nat.le_refl _) hRcells hRslots
  obtain ⟨s', hA⟩ : ∃ z, z = (T.setVm s.vm).setFrames (.invoking m args :: below) := ⟨_, rfl⟩
  rw [← hA] at Y
  have hvm : s'.vm = s.vm := by rw [hA]; rfl
  have hhp : s'.heap = H := by rw [hA]; exact hT
  have hW0 : s.WarmedH s'.vm := by rw [hvm]; exact State.WarmedH.refl s
  have hat' : ∀ w ∈ vx_atS own ic cls names, w.before args s' = true := fun w hw => vx_ot_at hW0 hvm.symm (hgood w (List.mem_cons_of_mem _ (List.mem_cons_of_mem _ hw))) (hat w hw)
  have hk' : (Cond.classLink own ik cls).before args s' = true := vx_ot_at hW0 hvm.symm (hgood _ List.mem_cons_self) hk
  have hini' : (Cond.initialized cls).before args s' = true := vx_ot_at hW0 hvm.symm (hgood _ (List.mem_cons_of_mem _ List.mem_cons_self)) hini
  have hU' : vx_Zq Bundle.tN "UNASSIGNED_STACK" Bundle.steD A s' s'.heap := by rw [hhp]; exact vx_Zq.moved hW0.alike (hU.kept hS.2.1)
  have hN' : vx_Zq Bundle.tN "SUPPRESSED_SENTINEL" Bundle.listD A s' s'.heap := by rw [hhp]; exact vx_Zq.moved hW0.alike (hN.kept hS.2.1)
  have h : ∀ w ∈ Bundle.ownAtoms own ic cls names, w.before args s' = true := vx_own hat' (vx_isRefq hU'.1) (vx_isRefq hN'.1) hU'.2.word hN'.2.word
  have hown' : s'.vm.findClass own = some m.cls := by rw [hvm]; exact hown
  have hins : (Cond.instantiable cls 6).before args s' = true := h _ (by simp [Bundle.ownAtoms])
  obtain ⟨vm₁, cX, kX, hfX, hkX, -, -, X₁, st1⟩ := Y.newCold hexec (own := own) (C := cls) (index := ik) (n := 6) hown' hk' hins hini'
    (g := F0 m pc ls rest) rfl (by rw [hb]; exact d0) (Nat.le_refl _) (Nat.le_refl _)
  generalize hT1 : (T.setVm vm₁).pushCell { cls := cX, slots := kX.instanceTypes.map defaultValue, vm := .none } = T1 at X₁ st1
  have hcat : (Value.ref T.heap.size).category = 1 := rfl
  have hcellA : T1.heap[T.heap.size]? = some (freshCell cX kX) := by rw [← hT1]; exact State.heap_pushCell_size _ _
  have d3' : decode c.code (pc + 3) = .ok (.dup, 1) := by rw [hb]; exact d3
  have d4' : decode c.code (pc + 4) = .ok (.ldc is, 2) := by rw [hb]; exact d4
  have hstr' : vk_R own is text sa s' := vk_R.warm hW0 hstr
  obtain ⟨U, hsteps, hrun, hend, hW, hsame, ce, hce, hO⟩ := X₁.ctorThrowS hexec htr (own := own) (cls := cls) (names := names) (ic := ic) hown' hcls hnames h (fun x hx => nomatch hx) hfX hkX hcellA (by rw [hhp, hT]; exact Nat.le_refl _) (msg := .ref sa) rfl
    (g := { method := m, pc := pc + 6, locals := ls, stack := .ref sa :: .ref T.heap.size :: .ref T.heap.size :: rest, locked := none }) rfl hsize rfl rfl (rest := rest) rfl
    (by rw [hb]; exact d6) (by rw [hb]; exact d9) hout hRframes (by simp only [List.map_cons, List.sum_cons, hcat]; omega) hlocks
  obtain ⟨f1, f2⟩ := vx_frame hsame
  rw [hhp] at f1 f2
  have hWs : s.WarmedH U.vm := State.WarmedH.trans hW0 hW
  have hcl : s.vm.findClass cls = some ce.cls := by
    have h9 := hO.cls
    rw [hvm] at h9
    exact h9
  have hall : s.sameButNew ({ U with vm := s.vm } : State) locs mc ms := by
    subst hA
    obtain ⟨e1, e2⟩ := hsame
    rw [State.setFrames_setFrames] at e1
    have h2 : (T.setVm s.vm).sameButNew ({ U with vm := s.vm } : State) [] (0 + 1) (0 + 6) := ⟨e1, e2⟩
    have h3 := X.same.trans h2
    rw [List.append_nil] at h3
    exact h3.mono hc hs
  refine ⟨U, ?_, .threw T.heap.size, hrun, hend, Or.inr ⟨T.heap.size, rfl, cls, ce, locs, hx U hWs.alike f1 (fun q hq => f2 q hq (fun z hz => nomatch hz)), hce, hO.vm, hcl, hWs, hall, hf⟩⟩
  refine st1 _ ?_
  show Steps p.tables e below (T1.setTop { method := m, pc := pc + 3, locals := ls, stack := .ref T.heap.size :: rest, locked := none }) _
  jvm_step X₁.here [X₁.here.top, hexec, d3', Value.category]
  exact X₁.ldcString hexec (own := own) (text := text) (index := is) (a := sa) hown' hstr'.1 hstr'.2
    (g := { method := m, pc := pc + 4, locals := ls, stack := .ref T.heap.size :: .ref T.heap.size :: rest, locked := none }) rfl d4' _ hsteps
/-- 'throw new E("text")', the text by a wide index -/
theorem vx_throwSW {cc : ByteArray} {pc : Nat} (hexec : p.tables.exec = Jvm.exec) (hb : c.code = cc) (hl : l.stackTraces = false) {own cls text : String} {names : List String} {ik is ic mc ms sa : Nat} {A : Nat → Prop}
    (hown : s.vm.findClass own = some m.cls) (hcls : Bundle.fit cls = true) (hnames : ∀ n ∈ names, Bundle.fit n = true)
    (hk : (Cond.classLink own ik cls).before args s = true) (hini : (Cond.initialized cls).before args s = true) (hstr : vk_R own is text sa s) (hat : ∀ w ∈ vx_atS own ic cls names, w.before args s = true)
    (hgood : ∀ w ∈ Cond.classLink own ik cls :: Cond.initialized cls :: vx_atS own ic cls names, vx_ot w = true)
    (hU : vx_Zq Bundle.tN "UNASSIGNED_STACK" Bundle.steD A s s.heap) (hN : vx_Zq Bundle.tN "SUPPRESSED_SENTINEL" Bundle.listD A s s.heap) (hS : va_S A s.heap H locs) (hsize : ls.size = c.maxLocals)
    (d0 : decode cc pc = .ok (.new ik, 3)) (d3 : decode cc (pc + 3) = .ok (.dup, 1)) (d4 : decode cc (pc + 4) = .ok (.ldc_w is, 3)) (d7 : decode cc (pc + 7) = .ok (.invokespecial ic, 3)) (d10 : decode cc (pc + 10) = .ok (.athrow, 1))
    (hout : ∀ x ∈ c.exceptionTable.toList, covers x (pc + 10) = false)
    (hRframes : names.length + 3 < R.frames) (hRlocals : (rest.map fun v => v.category).sum + (13 * (names.length + 1) + 43) ≤ R.locals) (hRcells : cells + 1 ≤ R.cells) (hRslots : slots + 6 ≤ R.slots) (hlocks : meth.locks = false)
    (hx : ∀ t : State, s.vm.Alike t.vm → H.size ≤ t.heap.size → (∀ q : Nat, q < H.size → t.heap[q]? = H[q]?) → XC cls s t)
    (hf : ∀ z ∈ locs, free z.base) (hc : cells + 1 ≤ mc) (hs : slots + 6 ≤ ms) :
    W p l e R s m args below meth c H locs cells slots (vx_MQ below Qc XC args s mc ms free) (F0 m pc ls rest) := by
  intro T hT X
  have htr : e.platform.stackTraces = false := (show e.platform.stackTraces = l.stackTraces by rw [X.admits.platform]).trans hl
  have Y := vx_rebase X (R' := { frames := R.frames, locals := R.locals, cells := 1, slots := 6 }) (Nat.le_refl _) (Nat.le_refl _) hRcells hRslots
  obtain ⟨s', hA⟩ : ∃ z, z = (T.setVm s.vm).setFrames (.invoking m args :: below) := ⟨_, rfl⟩
  rw [← hA] at Y
  have hvm : s'.vm = s.vm := by rw [hA]; rfl
  have hhp : s'.heap = H := by rw [hA]; exact hT
  have hW0 : s.WarmedH s'.vm := by rw [hvm]; exact State.WarmedH.refl s
  have hat' : ∀ w ∈ vx_atS own ic cls names, w.before args s' = true := fun w hw => vx_ot_at hW0 hvm.symm (hgood w (List.mem_cons_of_mem _ (List.mem_cons_of_mem _ hw))) (hat w hw)
  have hk' : (Cond.classLink own ik cls).before args s' = true := vx_ot_at hW0 hvm.symm (hgood _ List.mem_cons_self) hk
  have hini' : (Cond.initialized cls).before args s' = true := vx_ot_at hW0 hvm.symm (hgood _ (List.mem_cons_of_mem _ List.mem_cons_self)) hini
  have hU' : vx_Zq Bundle.tN "UNASSIGNED_STACK" Bundle.steD A s' s'.heap := by rw [hhp]; exact vx_Zq.moved hW0.alike (hU.kept hS.2.1)
  have hN' : vx_Zq Bundle.tN "SUPPRESSED_SENTINEL" Bundle.listD A s' s'.heap := by rw [hhp]; exact vx_Zq.moved hW0.alike (hN.kept hS.2.1)
  have h : ∀ w ∈ Bundle.ownAtoms own ic cls names, w.before args s' = true := vx_own hat' (vx_isRefq hU'.1) (vx_isRefq hN'.1) hU'.2.word hN'.2.word
  have hown' : s'.vm.findClass own = some m.cls := by rw [hvm]; exact hown
  have hins : (Cond.instantiable cls 6).before args s' = true := h _ (by simp [Bundle.ownAtoms])
  obtain ⟨vm₁, cX, kX, hfX, hkX, -, -, X₁, st1⟩ := Y.newCold hexec (own := own) (C := cls) (index := ik) (n := 6) hown' hk' hins hini'
    (g := F0 m pc ls rest) rfl (by rw [hb]; exact d0) (Nat.le_refl _) (Nat.le_refl _)
  generalize hT1 : (T.setVm vm₁).pushCell { cls := cX, slots := kX.instanceTypes.map defaultValue, vm := .none } = T1 at X₁ st1
  have hcat : (Value.ref T.heap.size).category = 1 := rfl
  have hcellA : T1.heap[T.heap.size]? = some (freshCell cX kX) := by rw [← hT1]; exact State.heap_pushCell_size _ _
  have d3' : decode c.code (pc + 3) = .ok (.dup, 1) := by rw [hb]; exact d3
  have d4' : decode c.code (pc + 4) = .ok (.ldc_w is, 3) := by rw [hb]; exact d4
  have hstr' : vk_R own is text sa s' := vk_R.warm hW0 hstr
  obtain ⟨U, hsteps, hrun, hend, hW, hsame, ce, hce, hO⟩ := X₁.ctorThrowS hexec htr (own := own) (cls := cls) (names := names) (ic := ic) hown' hcls hnames h (fun x hx => nomatch hx) hfX hkX hcellA (by rw [hhp, hT]; exact Nat.le_refl _) (msg := .ref sa) rfl
    (g := { method := m, pc := pc + 7, locals := ls, stack := .ref sa :: .ref T.heap.size :: .ref T.heap.size :: rest, locked := none }) rfl hsize rfl rfl (rest := rest) rfl
    (by rw [hb]; exact d7) (by rw [hb]; exact d10) hout hRframes (by simp only [List.map_cons, List.sum_cons, hcat]; omega) hlocks
  obtain ⟨f1, f2⟩ := vx_frame hsame
  rw [hhp] at f1 f2
  have hWs : s.WarmedH U.vm := State.WarmedH.trans hW0 hW
  have hcl : s.vm.findClass cls = some ce.cls := by
    have h9 := hO.cls
    rw [hvm] at h9
    exact h9
  have hall : s.sameButNew ({ U with vm := s.vm } : State) locs mc ms := by
    subst hA
    obtain ⟨e1, e2⟩ := hsame
    rw [State.setFrames_setFrames] at e1
    have h2 : (T.setVm s.vm).sameButNew ({ U with vm := s.vm } : State) [] (0 + 1) (0 + 6) := ⟨e1, e2⟩
    have h3 := X.same.trans h2
    rw [List.append_nil] at h3
    exact h3.mono hc hs
  refine ⟨U, ?_, .threw T.heap.size, hrun, hend, Or.inr ⟨T.heap.size, rfl, cls, ce, locs, hx U hWs.alike f1 (fun q hq => f2 q hq (fun z hz => nomatch hz)), hce, hO.vm, hcl, hWs, hall, hf⟩⟩
  refine st1 _ ?_
  show Steps p.tables e below (T1.setTop { method := m, pc := pc + 3, locals := ls, stack := .ref T.heap.size :: rest, locked := none }) _
  jvm_step X₁.here [X₁.here.top, hexec, d3', Value.category]
  exact X₁.ldcStringW hexec (own := own) (text := text) (index := is) (a := sa) hown' hstr'.1 hstr'.2
    (g := { method := m, pc := pc + 4, locals := ls, stack := .ref T.heap.size :: .ref T.heap.size :: rest, locked := none }) rfl d4' _ hsteps
end Ends
section Bodies
variable {l : Launch}
theorem vx_ofW {y : MethodName} {ws ws' : List Cond} {rm : Room} {Pc : Array Value → State → Prop} {Qc : Array Value → State → Outcome → State → Prop} {XC : String → State → State → Prop} {mc ms : Nat} {free : Addr → Prop} {cc : ByteArray} {maxL : Nat} {ret : Option FieldType}
    (hy : plainName y.cls = true) (hw : ws = Cond.code y cc maxL ret :: ws')
    (body : ∀ p e s m args below meth c s₁, BodyLoose p l y (headSpec ws rm) cc maxL ret e s m args below meth c s₁ → c.maxLocals = maxL → (∀ x ∈ c.exceptionTable.toList, False) → Pc args s →
      W p l e (headSpec ws rm).room s m args below meth c s.heap [] 0 0 (vx_MQ below Qc XC args s mc ms free) (entryFrame m args maxL)) : vx_Met l y ws rm Pc Qc XC mc ms free := by
  refine MetFree.of_bodyS (code := cc) (maxLocals := maxL) (ret := ret) hy ?_ ?_
  · intro args s m h hn
    obtain ⟨meth, c, h1, h2, h3, h4, h5, h6, -, -⟩ := Cond.code_spec hn (atoms_spec (ws := ws) h _ (by rw [hw]; exact List.mem_cons_self))
    exact ⟨meth, c, h1, h2, h3, h4, h5, h6⟩
  · intro p e s m args below meth c s₁ B hml hP _
    have hh0 : s₁.heap = s.heap := by rw [B.state]; rfl
    have ht : ∀ x ∈ c.exceptionTable.toList, False := by
      obtain ⟨meth9, c9, h1, h2, -, -, -, -, h7, -⟩ := Cond.code_spec B.named (atoms_spec (ws := ws) B.pre _ (by rw [hw]; exact List.mem_cons_self))
      cases Option.some.inj (h1.symm.trans B.method)
      cases Option.some.inj (h2.symm.trans (Stand.of_body B).code)
      intro x hx
      rw [Array.isEmpty_iff.mp h7] at hx
      cases hx
    obtain ⟨t, a1, o, b1, b2, b3⟩ := body p e s m args below meth c s₁ B hml ht hP s₁ hh0 (Stand.of_body B)
    exact ⟨t, o, a1, b1, b2, b3⟩
/-- the table of a body with handlers -/
theorem vx_table {p : Program} {x y : MethodName} {S : Spec} {cc bytes : ByteArray} {maxL maxL' : Nat} {ret ret' : Option FieldType} {e : Env} {s s₁ : State} {m : MethodId} {args : Array Value} {below : List Frame} {meth : Method} {c : Code} {hh : List (Nat × Nat × Nat × Nat)}
    (B : BodyLoose p l y S cc maxL ret e s m args below meth c s₁) (h : (Cond.codeWith y bytes maxL' ret' hh).before args s = true) : c.exceptionTable.toList = tableOf hh := by
  obtain ⟨m9, meth9, c9, hn9, h1, h2, -, -, h6, -⟩ := Cond.codeWith_spec h
  cases Option.some.inj (hn9.symm.trans B.named)
  cases Option.some.inj (h1.symm.trans B.method)
  cases Option.some.inj (h2.symm.trans (Stand.of_body B).code)
  rw [← h6, table_eq]
end Bodies
end VXA
/-! ===== END ===== -/
/-! ===== BEGIN a static call of a method with an exception table ===== -/
section VXS
variable {p : Program} {l : Launch} {e : Env} {R : Room} {s : State} {m : MethodId} {args : Array Value} {below : List Frame} {meth : Method} {c : Code} {T : State} {H : Heap} {locs : List Loc} {cells slots : Nat}
abbrev vx_CSW (R : Room) (s : State) (args : Array Value) (own : String) (index : Nat) (y : MethodName) (bytes : ByteArray) (maxL : Nat) (ret : Option FieldType) (hh : List (Nat × Nat × Nat × Nat)) (ws : List Cond) (rm : Room) (mc ms n : Nat) : Prop :=
  (rm.cells = mc ∧ rm.slots = ms ∧ rm.frames + 1 ≤ R.frames ∧ 8 + (maxL + 11) + rm.locals ≤ R.locals ∧ (∀ w ∈ ws, ∀ (a' : Array Value) (U : State), s.WarmedH U.vm → w.before a' U = true) ∧ Cond.codeWith y bytes maxL ret hh ∈ ws) ∧
  (Cond.codeWith y bytes maxL ret hh).before args s = true ∧ (Cond.initialized y.cls).before args s = true ∧ (y.cls ≠ "java/lang/invoke/MethodHandle" ∧ y.cls ≠ "java/lang/invoke/VarHandle") ∧
  (∀ sig, parseMethodDescriptor y.desc = some sig → n = sig.parameters.length) ∧ (Cond.methodLink own index y).before args s = true ∧ (Cond.static y).before args s = true
theorem vx_cwSW {own : String} {index maxL mc ms : Nat} {y : MethodName} {bytes : ByteArray} {ret : Option FieldType} {hh : List (Nat × Nat × Nat × Nat)} {Ts ws ws' : List Cond} {rm : Room} (n : Nat) (ht : ∀ w ∈ Ts, w.before args s = true) (hT : GoodIn Ts (va_wsS own index y ws)) (hw : ws = Cond.codeWith y bytes maxL ret hh :: ws') (hrc : rm.cells = mc) (hrs : rm.slots = ms)
    (hd : y.cls ≠ "java/lang/invoke/MethodHandle" ∧ y.cls ≠ "java/lang/invoke/VarHandle" ∧ (parseMethodDescriptor y.desc).map (fun d => d.parameters.length) = some n) (hR : rm.frames + 1 ≤ R.frames ∧ 8 + (maxL + 11) + rm.locals ≤ R.locals) :
    vx_CSW R s args own index y bytes maxL ret hh ws rm mc ms n := by
  have ok : ∀ w ∈ va_wsS own index y ws, w.before args s = true := fun w h => ht w (hT w h).1
  have hG : GoodIn Ts ws := fun w h => hT w (by unfold va_wsS; exact List.mem_append_right _ h)
  have hc : Cond.codeWith y bytes maxL ret hh ∈ ws := by rw [hw]; exact List.mem_cons_self
  refine ⟨⟨hrc, hrs, hR.1, hR.2, pay_in ht hG, hc⟩, ht _ (hG _ hc).1, ok _ (by simp [va_wsS]), ⟨hd.1, hd.2.1⟩, fun sig h => ?_, ok _ (by simp [va_wsS]), ok _ (by simp [va_wsS])⟩
  have h2 := hd.2.2
  rw [h] at h2
  exact (Option.some.inj h2).symm
theorem vx_callSW (X : Stand p l e R s m args below meth c T locs cells slots) (hexec : p.tables.exec = Jvm.exec) {own : String} {index : Nat} {y : MethodName} {bytes : ByteArray} {maxL : Nat} {ret : Option FieldType} {hh : List (Nat × Nat × Nat × Nat)}
    (hown : s.vm.findClass own = some m.cls) (hlink : (Cond.methodLink own index y).before args s = true) (hstat : (Cond.static y).before args s = true) (hinit : (Cond.initialized y.cls).before args s = true)
    (hcode : (Cond.codeWith y bytes maxL ret hh).before args s = true) (hy : y.cls ≠ "java/lang/invoke/MethodHandle" ∧ y.cls ≠ "java/lang/invoke/VarHandle")
    {W9 : Nat} {Pre : Pt → Array Value → Prop} {Post : Pt → Array Value → Option Value → Pt → Prop} (hK : Back l R p e below s args y 3 W9 Pre Post)
    {g : JFrame} (hg : g.method = m) (hsize : g.locals.size = c.maxLocals) {argsL rest : List Value} (hlen : ∀ sig, parseMethodDescriptor y.desc = some sig → argsL.length = sig.parameters.length)
    (hstack : g.stack = argsL.reverse ++ rest) (hW : 2 * g.monitorRoom + (rest.map fun v => v.category).sum ≤ W9) (hdg : decode c.code g.pc = .ok (.invokestatic index, 3))
    (hpre : ∀ vm₁, s.WarmedH vm₁ → Pre ⟨T.setVm vm₁, locs, cells, slots⟩ argsL.toArray) :
    ∃ (v : Option Value) (vm₁ : Vm) (B : Pt), s.WarmedH vm₁ ∧ Stand p l e R s m args below meth c B.U B.locs B.cells B.slots ∧ Post ⟨T.setVm vm₁, locs, cells, slots⟩ argsL.toArray v B ∧
      ∀ target, Steps p.tables e below (B.U.setTop { g with pc := g.pc + 3, stack := v.toList ++ rest }) target → Steps p.tables e below (T.setTop g) target := by
  obtain ⟨mk, methM, cM, hnamed, hmethM, -, -, -, -, -, -, hsigM⟩ := Cond.codeWith_spec hcode
  have hstatic : methM.isStatic = true := Cond.static_spec hnamed hmethM hstat
  obtain ⟨kP, hkP, -⟩ := className_of_methodNamed hnamed
  have hinitP : kP.init = .initialized := Cond.initialized_spec (findClass_of_methodNamed hnamed) hkP hinit
  obtain ⟨vm₁, X₁, hstep₁⟩ := X.invokestatic hexec hown hlink hnamed hmethM hstatic hkP hinitP hy (g := g) hg (argsL := argsL) (rest := rest) (hlen _ hsigM) hstack hdg
  obtain ⟨v, B, X', hpost, hsteps⟩ := hK m meth c ⟨T.setVm vm₁, locs, cells, slots⟩ { g with stack := rest } (.invokestatic index) mk argsL.toArray X₁ hg hsize hdg hW (X₁.named hnamed) (hpre vm₁ X₁.warmed)
  exact ⟨v, vm₁, B, X₁.warmed, X', hpost, fun target h => hstep₁ _ fun acts => by rw [doInvoke_state]; exact hsteps.trans h⟩
theorem vx_runSW {y : MethodName} {bytes cc : ByteArray} {maxL nL mc ms n index : Nat} {ret : Option FieldType} {hh : List (Nat × Nat × Nat × Nat)} {ws : List Cond} {rm : Room} {Pc : Array Value → State → Prop} {Qc : Array Value → State → Outcome → State → Prop} {free : Addr → Prop} {Ts : List Cond} {own : String} {As rest : List Value} {g : JFrame}
    (S : CallFix p m c cc nL s args Ts own) (hM : Met l y ws rm Pc Qc mc ms free) (cw : vx_CSW R s args own index y bytes maxL ret hh ws rm mc ms n) (hp : PreS s H Pc As)
    (hg : g.method = m) (hn : As.length = n) (hsize : g.locals.size = nL) (hstack : g.stack = As.reverse ++ rest) (hW : 2 * g.monitorRoom + (rest.map fun v => v.category).sum ≤ 8) (hdg : decode cc g.pc = .ok (.invokestatic index, 3)) (hf : cells + mc ≤ R.cells ∧ slots + ms ≤ R.slots) :
    va_Run p l e R s m args below meth c H locs cells slots mc ms g rest (Qc As.toArray) (free) := by
  obtain ⟨⟨hrc, hrs, hfr, hlo, hws, hcw⟩, hcode, hini, hy, hlen, hl, hstt⟩ := cw
  have hK : Back l R p e below s args y 3 8 (PreOf R mc ms Pc) (PostOf Qc mc ms free) := va_backW (hh := hh) (bytes := bytes) (maxL := maxL) (ret := ret) hM hp.1 hrc hrs hfr hlo hws hcw (fun a' U hW => word_at hW (Or.inl (by first | rfl | simp [Cond.onTables, Cond.keeps, Cond.steady])) hini)
  obtain ⟨hx, hb, hml, ho, -⟩ := S
  intro T hT X
  obtain ⟨v, vm₁, ⟨U', l2, c2, s2⟩, hW₁, X', ⟨g', mk, t, L, e1, e2, hq, h1, hL, h2, h3⟩, st⟩ := vx_callSW X hx (hh := hh) (bytes := bytes) (maxL := maxL) (ret := ret) ho hl hstt hini hcode hy hK hg (hsize.trans hml.symm) (argsL := As) (rest := rest) (fun sig h => hn.trans (hlen sig h)) hstack hW (by rw [hb]; exact hdg)
    (fun vm₁ hW₁ => ⟨hf.1, hf.2, hp.2 (T.setVm vm₁) hT hW₁⟩)
  dsimp only [Pt.U, Pt.locs, Pt.cells, Pt.slots] at X' e1 e2 h1 h2 h3 st
  subst h1; subst h2; subst h3
  exact ⟨v, (T.setVm vm₁).calling g' mk As.toArray, t, U', L, hT, X', hL, e1, e2, hq, st⟩
/-- not caught here, past rows that name other classes: it goes on to the caller -/
theorem vx_outP {p : Program} {l : Launch} {e : Env} {R : Room} {s : State} {m : MethodId} {args : Array Value} {below : List Frame} {meth : Method} {c : Code} {H : Heap} {locs : List Loc} {cells slots : Nat} {free : Addr → Prop} {ls : Array Slot} {rest : List Value} {Qc : Array Value → State → Outcome → State → Prop} {XC : String → State → State → Prop}
    {pc : Nat} {own E : String} {ce : Cell} {q : Addr} {mc ms : Nat} (hown : s.vm.findClass own = some m.cls) (hlocks : meth.locks = false)
    (hpass : ∀ z ∈ c.exceptionTable.toList, covers z pc = false ∨ (z.catchType ≠ 0 ∧ ∃ nm : String, (Cond.classLink own z.catchType nm).before args s = true ∧ va_Nc E nm s)) (hcell : H[q]? = some ce) (hv : ce.vm = .none) (hcl : s.vm.findClass E = some ce.cls)
    (hx : ∀ t : State, t.heap = H → s.vm.Alike t.vm → XC E s t) (hf : ∀ z ∈ locs, free z.base) (hc : cells ≤ mc) (hs : slots ≤ ms) :
    vx_W p l e R s m args below meth c H locs cells slots (vx_MQ below Qc XC args s mc ms free) (F0 m pc ls rest) q := by
  intro T hT X
  have hpl : e.platform.magicAccessors = ({} : Platform).magicAccessors := by rw [X.admits.platform]
  obtain ⟨vm', hW', X', st⟩ := X.outThrough hlocks q (g := F0 m pc ls rest) rfl rfl rfl (cell := ce) (by rw [hT]; exact hcell) (by rw [hv]; rfl)
    (by obtain ⟨k9, h9, -⟩ := Vm.findClass_spec hcl; exact ⟨k9, h9⟩) (fun z hz => by
      rcases hpass z hz with h | ⟨hz0, nm, hl1, hn1⟩
      · exact Or.inl h
      · obtain ⟨c6, hc6, hcl6⟩ := Cond.classLink_spec hown hl1 e.platform hpl
        obtain ⟨a8, b8, h1, h2, h3⟩ := hn1
        cases Option.some.inj (h1.symm.trans hcl)
        cases Option.some.inj (h2.symm.trans hc6)
        exact Or.inr ⟨hz0, _, hcl6, h3⟩)
  obtain ⟨g₀, hfr⟩ := X'.frames_eq
  have hcell9 : ((T.setVm vm').setFrames (.throwing q :: below)).heap[q]? = some ce := by
    show T.heap[q]? = some ce
    rw [hT]; exact hcell
  have hend : Ended ((T.setVm vm').setFrames (.throwing q :: below)) below (.threw q) := State.frames_setFrames _ (State.cur_lt_of_frames hfr)
  refine ⟨(T.setVm vm').setFrames (.throwing q :: below), ?_, .threw q, X'.here.running, hend, Or.inr ⟨q, rfl, E, ce, locs, hx _ hT (X'.ends _).1.alike, hcell9, hv, hcl, (X'.ends _).1, (X'.ends _).2.mono hc hs, hf⟩⟩
  rw [X.pushThrowing_eq]
  exact st
/-- a thing of a world lies in the heap -/
theorem vx_lt {D : va_G} {cl : List vw_C} {ws : va_W} {H1 : Heap} (h : va_P D cl ws H1) {k : Nat} {q : Nat × va_E} (hk : ws[k]? = some q) : q.1 < H1.size := (h k q hk).lt
end VXS
/-! ===== END ===== -/
/-! ===== BEGIN methods with a table of their own: called by a name, returning or throwing ===== -/
section VXH
/-! vx_backW, vx_callVX, vx_callSX, vx_callVW, vx_runVW, vx_runVX, vx_runSX, vx_ofWH follow the same proofs as their sisters above (Free/Laws.lean, Shelf42/LK1.lean); vx_outP calls Shelf42/NT130.lean (outThrough). -/
section
variable {l : Launch} {R : Room} {p : Program} {e : Env} {below : List Frame} {s : State} {sargs : Array Value} {y : MethodName} {len W9 : Nat}
theorem vx_backW {ws : List Cond} {rm : Room} {Pc : Array Value → State → Prop} {Qc : Array Value → State → Outcome → State → Prop} {XC : String → State → State → Prop} {mc ms : Nat} {free : Addr → Prop} {bytes : ByteArray} {maxL : Nat} {ret : Option FieldType} {hh : List (Nat × Nat × Nat × Nat)}
    (hM : vx_Met l y ws rm Pc Qc XC mc ms free) (hblind : FrameBlind Pc) (hrc : rm.cells = mc) (hrs : rm.slots = ms)
    (hframes : rm.frames + 1 ≤ R.frames) (hlocals : W9 + (maxL + 11) + rm.locals ≤ R.locals)
    (hws : ∀ w ∈ ws, ∀ a' U, s.WarmedH U.vm → w.before a' U = true) (hcode : Cond.codeWith y bytes maxL ret hh ∈ ws) (hinit : ∀ a' U, s.WarmedH U.vm → (Cond.initialized y.cls).before a' U = true) :
    vx_Back l R p e below s sargs y len W9 (PreOf R mc ms Pc) (PostOf Qc mc ms free) (vx_Post XC mc ms free) := by
  intro m meth c A g ig mk a X hg hsize hdg hW hn hp
  have h1 : (headSpec ws rm).pre.before a A.U = true := atoms_intro fun w hw => hws w hw _ _ X.warmed
  have h2 : (Cond.codeWith y bytes maxL ret hh).before a A.U = true := hws _ hcode _ _ X.warmed
  have h3 : (Cond.initialized y.cls).before a A.U = true := hinit _ _ X.warmed
  have h4 : A.cells + (headSpec ws rm).room.cells ≤ R.cells := by rw [show (headSpec ws rm).room.cells = mc from hrc]; exact hp.1
  have h5 : A.slots + (headSpec ws rm).room.slots ≤ R.slots := by rw [show (headSpec ws rm).room.slots = ms from hrs]; exact hp.2.1
  have hPc : Pc a (A.U.calling g mk a) := hblind _ _ _ _ hp.2.2
  obtain ⟨U, Ls, c0, s0⟩ := A
  dsimp only [Pt.U, Pt.locs, Pt.cells, Pt.slots] at h1 h2 h3 h4 h5 X hn hPc ⊢
  obtain ⟨m9, methY, cY, hn9, hmY, hcY, -, hlY, -⟩ := Cond.codeWith_spec h2
  cases Option.some.inj (hn9.symm.trans hn)
  obtain ⟨kY, hkY, -⟩ := className_of_methodNamed hn
  have hinitY : kY.init = .initialized := Cond.initialized_spec (findClass_of_methodNamed hn) hkY h3
  have h : At U g.method c below := by rw [hg]; exact X.here
  have hlocals9 : W9 + (maxL + 11) + (headSpec ws rm).room.locals ≤ R.locals := hlocals
  have happ : (headSpec ws rm).appliesLoose y e.platform (U.calling g mk a) = true :=
    Spec.appliesLoose_calling (g := g) h hdg hn hkY hinitY
      (X.room_calling (g := g) (R' := (headSpec ws rm).room) hsize hmY hcY hframes (by rw [hlY]; omega) h4 h5) h1
  obtain ⟨mid, hmid⟩ := h.above
  have hfr : (U.setTop g).frames = (.java g :: mid) ++ below := by rw [State.frames_setTop' g h.top, hmid]; rfl
  obtain ⟨o, s₂, hsteps, -, hend, hq⟩ := Steps.callFree hM p X.admits X.cas X.clock (acts := []) hfr happ hPc trivial
  have hq' : vx_Q Qc XC mc ms free a (U.calling g mk a) o s₂ := hq
  rw [State.frames_setTop' g h.top] at hend
  obtain ⟨g₀, hg0⟩ := Option.isSome_iff_exists.mp h.top
  obtain ⟨r, hr⟩ := State.topJava?_eq_some.mp hg0
  have hr' : (({ U with heap := s₂.heap, slotsUsed := s₂.slotsUsed } : State).setVm s₂.vm).frames = .java g₀ :: r := hr
  rcases hq' with ⟨hqc, L, hfe, hL⟩ | ⟨q, rfl, E, ce, L, hx, hce, hcv, hcl, hW₂, hsm, hL⟩
  · obtain ⟨⟨v, rfl⟩, hW₂, e2, q2, q3, q4, q5, q6⟩ := id hfe
    have e3 : s₂ = ({ (U.calling g mk a).setFrames s₂.frames with heap := s₂.heap, slotsUsed := s₂.slotsUsed } : State).setVm s₂.vm := by
      have : s₂ = ({ s₂ with vm := (U.calling g mk a).vm } : State).setVm s₂.vm := rfl
      rw [e2] at this
      exact this
    obtain ⟨c₂, i₂, len₂, hc₂, hd₂, hf₂⟩ := hend
    have hW' : U.WarmedH s₂.vm := hW₂
    have hcc : c₂ = c := by
      have h1 : s₂.code? g.method = U.code? g.method := by
        rw [State.code?_eq, State.code?_eq, hW'.alike.method?]
      exact Option.some.inj (hc₂.symm.trans (h1.trans h.code))
    subst hcc
    have hlen : len₂ = len := by rw [hdg] at hd₂; cases hd₂; rfl
    subst hlen
    have hs₂ : s₂ = (({ U with heap := s₂.heap, slotsUsed := s₂.slotsUsed } : State).setVm s₂.vm).setTop { g with pc := g.pc + len₂, stack := v.toList ++ g.stack } := by
      refine e3.trans ?_
      rw [hf₂, State.calling_eq h.top, State.setFrames_setFrames, State.setTop_of_frames _ hr', hr]
      rfl
    have hsame : U.sameButNew ({ U with heap := s₂.heap, slotsUsed := s₂.slotsUsed } : State) L mc ms := by
      refine ⟨?_, q2, q3, q4, q5, q6⟩
      obtain ⟨t, ht, -⟩ := State.frames_cons hr
      show ({ U with heap := s₂.heap, slotsUsed := s₂.slotsUsed } : State) = { U.setFrames U.frames with heap := s₂.heap, slotsUsed := s₂.slotsUsed }
      rw [State.setFrames_self ht]
    subst hg
    refine Or.inl ⟨v, ⟨(({ U with heap := s₂.heap, slotsUsed := s₂.slotsUsed } : State).setVm s₂.vm), Ls ++ L, c0 + mc, s0 + ms⟩,
      ⟨X.admits, X.cas, X.clock, X.frames, X.room, X.hears, X.method, X.code, (X.here.setHeapUsed s₂.heap s₂.slotsUsed).setVm hW'.alike, X.tail, State.WarmedH.trans X.warmed hW', X.limits, X.bytes, X.same.trans (hsame.setVm s.vm)⟩,
      ⟨g, mk, s₂, L, rfl, rfl, hqc, rfl, hL, rfl, rfl⟩, ?_⟩
    show Steps p.tables e below _ ((({ U with heap := s₂.heap, slotsUsed := s₂.slotsUsed } : State).setVm s₂.vm).setTop { g with pc := g.pc + len₂, stack := v.toList ++ g.stack })
    rw [← hs₂]
    exact hsteps
  · obtain ⟨e2, q2, q3, q4, q5, q6⟩ := id hsm
    have e3 : s₂ = ({ (U.calling g mk a).setFrames s₂.frames with heap := s₂.heap, slotsUsed := s₂.slotsUsed } : State).setVm s₂.vm := by
      have : s₂ = ({ s₂ with vm := (U.calling g mk a).vm } : State).setVm s₂.vm := rfl
      rw [e2] at this
      exact this
    have hf₂ : s₂.frames = .throwing q :: .java g :: U.frames.tail := hend
    have hW' : U.WarmedH s₂.vm := hW₂
    have hs₂ : s₂ = ((({ U with heap := s₂.heap, slotsUsed := s₂.slotsUsed } : State).setVm s₂.vm).setTop g).pushFrame (.throwing q) := by
      refine e3.trans ?_
      rw [hf₂, State.calling_eq h.top, State.setFrames_setFrames, State.pushFrame, State.frames_setTop _ hr', State.setTop_of_frames _ hr', State.setFrames_setFrames, hr]
      rfl
    have hsame : U.sameButNew ({ U with heap := s₂.heap, slotsUsed := s₂.slotsUsed } : State) L mc ms := by
      refine ⟨?_, q2, q3, q4, q5, q6⟩
      obtain ⟨t, ht, -⟩ := State.frames_cons hr
      show ({ U with heap := s₂.heap, slotsUsed := s₂.slotsUsed } : State) = { U.setFrames U.frames with heap := s₂.heap, slotsUsed := s₂.slotsUsed }
      rw [State.setFrames_self ht]
    subst hg
    refine Or.inr ⟨q, ⟨(({ U with heap := s₂.heap, slotsUsed := s₂.slotsUsed } : State).setVm s₂.vm), Ls ++ L, c0 + mc, s0 + ms⟩,
      ⟨X.admits, X.cas, X.clock, X.frames, X.room, X.hears, X.method, X.code, (X.here.setHeapUsed s₂.heap s₂.slotsUsed).setVm hW'.alike, X.tail, State.WarmedH.trans X.warmed hW', X.limits, X.bytes, X.same.trans (hsame.setVm s.vm)⟩,
      ⟨g, mk, s₂, L, E, ce, rfl, rfl, hx, hce, hcv, hcl, rfl, hL, rfl, rfl⟩, ?_⟩
    show Steps p.tables e below _ (((({ U with heap := s₂.heap, slotsUsed := s₂.slotsUsed } : State).setVm s₂.vm).setTop g).pushFrame (.throwing q))
    rw [← hs₂]
    exact hsteps
end
variable {p : Program} {l : Launch} {e : Env} {R : Room} {s : State} {m : MethodId} {args : Array Value} {below : List Frame} {meth : Method} {c : Code} {T : State} {H : Heap} {locs : List Loc} {cells slots : Nat}
theorem vx_callVX (X : Stand p l e R s m args below meth c T locs cells slots) (hexec : p.tables.exec = Jvm.exec) {own C : String} {index : Nat} {y : MethodName} {bytes : ByteArray} {maxL : Nat} {ret : Option FieldType} {hh : List (Nat × Nat × Nat × Nat)}
    (hown : s.vm.findClass own = some m.cls) (hlink : (Cond.methodLink own index y).before args s = true) (hinst : (Cond.instanceMethod y).before args s = true) (hsel : (Cond.selects C y y).before args s = true)
    (hcode : (Cond.codeWith y bytes maxL ret hh).before args s = true) (hy : y.cls ≠ "java/lang/invoke/MethodHandle" ∧ y.cls ≠ "java/lang/invoke/VarHandle")
    {W9 : Nat} {Pre : Pt → Array Value → Prop} {Post : Pt → Array Value → Option Value → Pt → Prop} {PostX : Pt → Array Value → Addr → Pt → Prop} (hK : vx_Back l R p e below s args y 3 W9 Pre Post PostX)
    {b : Addr} {cellB : Cell} (hcell : T.heap[b]? = some cellB) (hobj : cellB.vm.isStatics = false) (hcls : s.vm.findClass C = some cellB.cls)
    {g : JFrame} (hg : g.method = m) (hsize : g.locals.size = c.maxLocals) {argsL rest : List Value} (hlen : ∀ sig, parseMethodDescriptor y.desc = some sig → argsL.length = sig.parameters.length)
    (hstack : g.stack = argsL.reverse ++ .ref b :: rest) (hW : 2 * g.monitorRoom + (rest.map fun v => v.category).sum ≤ W9) (hdg : decode c.code g.pc = .ok (.invokevirtual index, 3))
    (hpre : ∀ vm₁, s.WarmedH vm₁ → Pre ⟨T.setVm vm₁, locs, cells, slots⟩ (Value.ref b :: argsL).toArray) :
    (∃ (v : Option Value) (vm₁ : Vm) (B : Pt), s.WarmedH vm₁ ∧ Stand p l e R s m args below meth c B.U B.locs B.cells B.slots ∧ Post ⟨T.setVm vm₁, locs, cells, slots⟩ (Value.ref b :: argsL).toArray v B ∧
      ∀ target, Steps p.tables e below (B.U.setTop { g with pc := g.pc + 3, stack := v.toList ++ rest }) target → Steps p.tables e below (T.setTop g) target) ∨
    (∃ (q : Addr) (vm₁ : Vm) (B : Pt), s.WarmedH vm₁ ∧ Stand p l e R s m args below meth c B.U B.locs B.cells B.slots ∧ PostX ⟨T.setVm vm₁, locs, cells, slots⟩ (Value.ref b :: argsL).toArray q B ∧
      Steps p.tables e below (T.setTop g) ((B.U.setTop { g with stack := rest }).pushFrame (.throwing q))) := by
  obtain ⟨mk, methM, hnamed, hmethM, hstM, habM⟩ := Cond.instanceMethod_spec hinst
  obtain ⟨m8, methM', cM, hn8, hmethM', -, -, -, -, -, -, hsigM⟩ := Cond.codeWith_spec hcode
  cases Option.some.inj (hn8.symm.trans hnamed)
  cases hmethM.symm.trans hmethM'
  obtain ⟨c2, r2, m2, q1, q2, q3, q4, kP, hkP, hkPi⟩ := Cond.selects_spec hsel
  cases hcls.symm.trans q1
  cases (State.methodFound?_of_named hnamed hy).symm.trans q2
  cases hnamed.symm.trans q3
  have hselP : selectMethod e.platform s.vm cellB.cls mk = .method mk := by rw [Launch.admits_selectMethod X.admits]; exact q4
  obtain ⟨vm₁, X₁, hstep₁⟩ := X.invokevirtual hexec hown hlink hnamed hmethM hstM hkP hkPi hy (a := b) (cell := cellB) hcell
    (fun z h => by rw [h] at hobj; cases hobj) hselP hmethM habM hkP hkPi (g := g) hg (argsL := argsL) (rest := rest) (hlen _ hsigM) hstack hdg
  rcases hK m meth c ⟨T.setVm vm₁, locs, cells, slots⟩ { g with stack := rest } (.invokevirtual index) mk (Value.ref b :: argsL).toArray X₁ hg hsize hdg hW (X₁.named hnamed) (hpre vm₁ X₁.warmed) with ⟨v, B, X', hpost, hsteps⟩ | ⟨q, B, X', hpost, hsteps⟩
  · exact Or.inl ⟨v, vm₁, B, X₁.warmed, X', hpost, fun target h => hstep₁ _ fun acts => by rw [doInvoke_state]; exact hsteps.trans h⟩
  · exact Or.inr ⟨q, vm₁, B, X₁.warmed, X', hpost, hstep₁ _ fun acts => by rw [doInvoke_state]; exact hsteps⟩
theorem vx_callSX (X : Stand p l e R s m args below meth c T locs cells slots) (hexec : p.tables.exec = Jvm.exec) {own : String} {index : Nat} {y : MethodName} {bytes : ByteArray} {maxL : Nat} {ret : Option FieldType} {hh : List (Nat × Nat × Nat × Nat)}
    (hown : s.vm.findClass own = some m.cls) (hlink : (Cond.methodLink own index y).before args s = true) (hstat : (Cond.static y).before args s = true) (hinit : (Cond.initialized y.cls).before args s = true)
    (hcode : (Cond.codeWith y bytes maxL ret hh).before args s = true) (hy : y.cls ≠ "java/lang/invoke/MethodHandle" ∧ y.cls ≠ "java/lang/invoke/VarHandle")
    {W9 : Nat} {Pre : Pt → Array Value → Prop} {Post : Pt → Array Value → Option Value → Pt → Prop} {PostX : Pt → Array Value → Addr → Pt → Prop} (hK : vx_Back l R p e below s args y 3 W9 Pre Post PostX)
    {g : JFrame} (hg : g.method = m) (hsize : g.locals.size = c.maxLocals) {argsL rest : List Value} (hlen : ∀ sig, parseMethodDescriptor y.desc = some sig → argsL.length = sig.parameters.length)
    (hstack : g.stack = argsL.reverse ++ rest) (hW : 2 * g.monitorRoom + (rest.map fun v => v.category).sum ≤ W9) (hdg : decode c.code g.pc = .ok (.invokestatic index, 3))
    (hpre : ∀ vm₁, s.WarmedH vm₁ → Pre ⟨T.setVm vm₁, locs, cells, slots⟩ argsL.toArray) :
    (∃ (v : Option Value) (vm₁ : Vm) (B : Pt), s.WarmedH vm₁ ∧ Stand p l e R s m args below meth c B.U B.locs B.cells B.slots ∧ Post ⟨T.setVm vm₁, locs, cells, slots⟩ argsL.toArray v B ∧
      ∀ target, Steps p.tables e below (B.U.setTop { g with pc := g.pc + 3, stack := v.toList ++ rest }) target → Steps p.tables e below (T.setTop g) target) ∨
    (∃ (q : Addr) (vm₁ : Vm) (B : Pt), s.WarmedH vm₁ ∧ Stand p l e R s m args below meth c B.U B.locs B.cells B.slots ∧ PostX ⟨T.setVm vm₁, locs, cells, slots⟩ argsL.toArray q B ∧
      Steps p.tables e below (T.setTop g) ((B.U.setTop { g with stack := rest }).pushFrame (.throwing q))) := by
  obtain ⟨mk, methM, cM, hnamed, hmethM, -, -, -, -, -, -, hsigM⟩ := Cond.codeWith_spec hcode
  have hstatic : methM.isStatic = true := Cond.static_spec hnamed hmethM hstat
  obtain ⟨kP, hkP, -⟩ := className_of_methodNamed hnamed
  have hinitP : kP.init = .initialized := Cond.initialized_spec (findClass_of_methodNamed hnamed) hkP hinit
  obtain ⟨vm₁, X₁, hstep₁⟩ := X.invokestatic hexec hown hlink hnamed hmethM hstatic hkP hinitP hy (g := g) hg (argsL := argsL) (rest := rest) (hlen _ hsigM) hstack hdg
  rcases hK m meth c ⟨T.setVm vm₁, locs, cells, slots⟩ { g with stack := rest } (.invokestatic index) mk argsL.toArray X₁ hg hsize hdg hW (X₁.named hnamed) (hpre vm₁ X₁.warmed) with ⟨v, B, X', hpost, hsteps⟩ | ⟨q, B, X', hpost, hsteps⟩
  · exact Or.inl ⟨v, vm₁, B, X₁.warmed, X', hpost, fun target h => hstep₁ _ fun acts => by rw [doInvoke_state]; exact hsteps.trans h⟩
  · exact Or.inr ⟨q, vm₁, B, X₁.warmed, X', hpost, hstep₁ _ fun acts => by rw [doInvoke_state]; exact hsteps⟩
theorem vx_callVW (X : Stand p l e R s m args below meth c T locs cells slots) (hexec : p.tables.exec = Jvm.exec) {own C : String} {index : Nat} {y : MethodName} {bytes : ByteArray} {maxL : Nat} {ret : Option FieldType} {hh : List (Nat × Nat × Nat × Nat)}
    (hown : s.vm.findClass own = some m.cls) (hlink : (Cond.methodLink own index y).before args s = true) (hinst : (Cond.instanceMethod y).before args s = true) (hsel : (Cond.selects C y y).before args s = true)
    (hcode : (Cond.codeWith y bytes maxL ret hh).before args s = true) (hy : y.cls ≠ "java/lang/invoke/MethodHandle" ∧ y.cls ≠ "java/lang/invoke/VarHandle")
    {W9 : Nat} {Pre : Pt → Array Value → Prop} {Post : Pt → Array Value → Option Value → Pt → Prop} (hK : Back l R p e below s args y 3 W9 Pre Post)
    {b : Addr} {cellB : Cell} (hcell : T.heap[b]? = some cellB) (hobj : cellB.vm.isStatics = false) (hcls : s.vm.findClass C = some cellB.cls)
    {g : JFrame} (hg : g.method = m) (hsize : g.locals.size = c.maxLocals) {argsL rest : List Value} (hlen : ∀ sig, parseMethodDescriptor y.desc = some sig → argsL.length = sig.parameters.length)
    (hstack : g.stack = argsL.reverse ++ .ref b :: rest) (hW : 2 * g.monitorRoom + (rest.map fun v => v.category).sum ≤ W9) (hdg : decode c.code g.pc = .ok (.invokevirtual index, 3))
    (hpre : ∀ vm₁, s.WarmedH vm₁ → Pre ⟨T.setVm vm₁, locs, cells, slots⟩ (Value.ref b :: argsL).toArray) :
    ∃ (v : Option Value) (vm₁ : Vm) (B : Pt), s.WarmedH vm₁ ∧ Stand p l e R s m args below meth c B.U B.locs B.cells B.slots ∧ Post ⟨T.setVm vm₁, locs, cells, slots⟩ (Value.ref b :: argsL).toArray v B ∧
      ∀ target, Steps p.tables e below (B.U.setTop { g with pc := g.pc + 3, stack := v.toList ++ rest }) target → Steps p.tables e below (T.setTop g) target := by
  obtain ⟨mk, methM, hnamed, hmethM, hstM, habM⟩ := Cond.instanceMethod_spec hinst
  obtain ⟨m8, methM', cM, hn8, hmethM', -, -, -, -, -, -, hsigM⟩ := Cond.codeWith_spec hcode
  cases Option.some.inj (hn8.symm.trans hnamed)
  cases hmethM.symm.trans hmethM'
  obtain ⟨c2, r2, m2, q1, q2, q3, q4, kP, hkP, hkPi⟩ := Cond.selects_spec hsel
  cases hcls.symm.trans q1
  cases (State.methodFound?_of_named hnamed hy).symm.trans q2
  cases hnamed.symm.trans q3
  have hselP : selectMethod e.platform s.vm cellB.cls mk = .method mk := by rw [Launch.admits_selectMethod X.admits]; exact q4
  obtain ⟨vm₁, X₁, hstep₁⟩ := X.invokevirtual hexec hown hlink hnamed hmethM hstM hkP hkPi hy (a := b) (cell := cellB) hcell
    (fun z h => by rw [h] at hobj; cases hobj) hselP hmethM habM hkP hkPi (g := g) hg (argsL := argsL) (rest := rest) (hlen _ hsigM) hstack hdg
  obtain ⟨v, B, X', hpost, hsteps⟩ := hK m meth c ⟨T.setVm vm₁, locs, cells, slots⟩ { g with stack := rest } (.invokevirtual index) mk (Value.ref b :: argsL).toArray X₁ hg hsize hdg hW (X₁.named hnamed) (hpre vm₁ X₁.warmed)
  exact ⟨v, vm₁, B, X₁.warmed, X', hpost, fun target h => hstep₁ _ fun acts => by rw [doInvoke_state]; exact hsteps.trans h⟩
abbrev vx_CVW (R : Room) (s : State) (args : Array Value) (own C : String) (index : Nat) (y : MethodName) (bytes : ByteArray) (maxL : Nat) (ret : Option FieldType) (hh : List (Nat × Nat × Nat × Nat)) (ws : List Cond) (rm : Room) (mc ms n : Nat) : Prop :=
  (rm.cells = mc ∧ rm.slots = ms ∧ rm.frames + 1 ≤ R.frames ∧ 8 + (maxL + 11) + rm.locals ≤ R.locals ∧ (∀ w ∈ ws, ∀ (a' : Array Value) (U : State), s.WarmedH U.vm → w.before a' U = true) ∧ Cond.codeWith y bytes maxL ret hh ∈ ws) ∧
  (Cond.codeWith y bytes maxL ret hh).before args s = true ∧ (Cond.initialized y.cls).before args s = true ∧ (y.cls ≠ "java/lang/invoke/MethodHandle" ∧ y.cls ≠ "java/lang/invoke/VarHandle") ∧
  (∀ sig, parseMethodDescriptor y.desc = some sig → n = sig.parameters.length) ∧ (Cond.methodLink own index y).before args s = true ∧ (Cond.instanceMethod y).before args s = true ∧ (Cond.selects C y y).before args s = true
theorem vx_cwVW {own C : String} {index maxL mc ms : Nat} {y : MethodName} {bytes : ByteArray} {ret : Option FieldType} {hh : List (Nat × Nat × Nat × Nat)} {Ts ws ws' : List Cond} {rm : Room} (n : Nat) (ht : ∀ w ∈ Ts, w.before args s = true) (hT : GoodIn Ts (wsV own index C y ws)) (hw : ws = Cond.codeWith y bytes maxL ret hh :: ws') (hrc : rm.cells = mc) (hrs : rm.slots = ms)
    (hd : y.cls = C ∧ y.cls ≠ "java/lang/invoke/MethodHandle" ∧ y.cls ≠ "java/lang/invoke/VarHandle" ∧ (parseMethodDescriptor y.desc).map (fun d => d.parameters.length) = some n) (hR : rm.frames + 1 ≤ R.frames ∧ 8 + (maxL + 11) + rm.locals ≤ R.locals) :
    vx_CVW R s args own C index y bytes maxL ret hh ws rm mc ms n := by
  obtain ⟨hC, hd⟩ := hd
  subst hC
  have ok : ∀ w ∈ wsV own index y.cls y ws, w.before args s = true := fun w h => ht w (hT w h).1
  have hG : GoodIn Ts ws := fun w h => hT w (by unfold wsV; exact List.mem_append_right _ h)
  have hc : Cond.codeWith y bytes maxL ret hh ∈ ws := by rw [hw]; exact List.mem_cons_self
  refine ⟨⟨hrc, hrs, hR.1, hR.2, pay_in ht hG, hc⟩, ht _ (hG _ hc).1, ok _ (by simp [wsV]), ⟨hd.1, hd.2.1⟩, fun sig h => ?_, ok _ (by simp [wsV]), ok _ (by simp [wsV]), ok _ (by simp [wsV])⟩
  have h2 := hd.2.2
  rw [h] at h2
  exact (Option.some.inj h2).symm
theorem vx_runVW {y : MethodName} {bytes cc : ByteArray} {maxL nL mc ms n index : Nat} {ret : Option FieldType} {hh : List (Nat × Nat × Nat × Nat)} {ws : List Cond} {rm : Room} {Pc : Array Value → State → Prop} {Qc : Array Value → State → Outcome → State → Prop} {free : Addr → Prop} {Ts : List Cond} {own C : String} {b : Addr} {As rest : List Value} {g : JFrame}
    (S : CallFix p m c cc nL s args Ts own) (hM : Met l y ws rm Pc Qc mc ms free) (cw : vx_CVW R s args own C index y bytes maxL ret hh ws rm mc ms n) (hp : PreV s H C b Pc As)
    (hg : g.method = m) (hn : As.length = n) (hsize : g.locals.size = nL) (hstack : g.stack = As.reverse ++ .ref b :: rest) (hW : 2 * g.monitorRoom + (rest.map fun v => v.category).sum ≤ 8) (hdg : decode cc g.pc = .ok (.invokevirtual index, 3)) (hf : cells + mc ≤ R.cells ∧ slots + ms ≤ R.slots) :
    va_Run p l e R s m args below meth c H locs cells slots mc ms g rest (Qc (Value.ref b :: As).toArray) free := by
  obtain ⟨⟨hrc, hrs, hfr, hlo, hws, hcw⟩, hcode, hini, hy, hlen, hl, hin, hse⟩ := cw
  have hK : Back l R p e below s args y 3 8 (PreOf R mc ms Pc) (PostOf Qc mc ms free) := va_backW (hh := hh) (bytes := bytes) (maxL := maxL) (ret := ret) hM hp.1 hrc hrs hfr hlo hws hcw (fun a' U hW => word_at hW (Or.inl (by first | rfl | simp [Cond.onTables, Cond.keeps, Cond.steady])) hini)
  obtain ⟨hx, hb, hml, ho, -⟩ := S
  obtain ⟨-, ⟨cellB, hcB, hoB, hclB⟩, hPc⟩ := hp
  intro T hT X
  obtain ⟨v, vm₁, ⟨U', l2, c2, s2⟩, hW₁, X', ⟨g', mk, t, L, e1, e2, hq, h1, hL, h2, h3⟩, st⟩ := vx_callVW X hx (C := C) (hh := hh) (bytes := bytes) (maxL := maxL) (ret := ret) ho hl hin hse hcode hy hK (by rw [hT]; exact hcB) hoB hclB hg (hsize.trans hml.symm) (argsL := As) (rest := rest) (fun sig h => hn.trans (hlen sig h)) hstack hW (by rw [hb]; exact hdg)
    (fun vm₁ hW₁ => ⟨hf.1, hf.2, hPc (T.setVm vm₁) hT hW₁⟩)
  dsimp only [Pt.U, Pt.locs, Pt.cells, Pt.slots] at X' e1 e2 h1 h2 h3 st
  subst h1; subst h2; subst h3
  exact ⟨v, (T.setVm vm₁).calling g' mk (Value.ref b :: As).toArray, t, U', L, hT, X', hL, e1, e2, hq, st⟩
section
variable {y : MethodName} {bytes cc : ByteArray} {maxL nL mc ms n index : Nat} {ret : Option FieldType} {ws : List Cond} {rm : Room} {Pc : Array Value → State → Prop} {Qc : Array Value → State → Outcome → State → Prop} {XC : String → State → State → Prop} {free : Addr → Prop} {Ts : List Cond} {own C : String} {b : Addr} {As rest : List Value} {g : JFrame}
theorem vx_runVX {hh : List (Nat × Nat × Nat × Nat)} (S : CallFix p m c cc nL s args Ts own) (hM : vx_Met l y ws rm Pc Qc XC mc ms free) (cw : vx_CVW R s args own C index y bytes maxL ret hh ws rm mc ms n) (hp : PreV s H C b Pc As)
    (hg : g.method = m) (hn : As.length = n) (hsize : g.locals.size = nL) (hstack : g.stack = As.reverse ++ .ref b :: rest) (hW : 2 * g.monitorRoom + (rest.map fun v => v.category).sum ≤ 8) (hdg : decode cc g.pc = .ok (.invokevirtual index, 3)) (hf : cells + mc ≤ R.cells ∧ slots + ms ≤ R.slots) :
    vx_Run p l e R s m args below meth c H locs cells slots mc ms g rest (Qc (Value.ref b :: As).toArray) XC free := by
  obtain ⟨⟨hrc, hrs, hfr, hlo, hws, hcw⟩, hcode, hini, hy, hlen, hl, hin, hse⟩ := cw
  have hK : vx_Back l R p e below s args y 3 8 (PreOf R mc ms Pc) (PostOf Qc mc ms free) (vx_Post XC mc ms free) := vx_backW (hh := hh) (bytes := bytes) (maxL := maxL) (ret := ret) hM hp.1 hrc hrs hfr hlo hws hcw (fun a' U hW => word_at hW (Or.inl (by first | rfl | simp [Cond.onTables, Cond.keeps, Cond.steady])) hini)
  obtain ⟨hx, hb, hml, ho, -⟩ := S
  obtain ⟨-, ⟨cellB, hcB, hoB, hclB⟩, hPc⟩ := hp
  intro T hT X
  rcases vx_callVX X hx (C := C) (hh := hh) (bytes := bytes) (maxL := maxL) (ret := ret) ho hl hin hse hcode hy hK (by rw [hT]; exact hcB) hoB hclB hg (hsize.trans hml.symm) (argsL := As) (rest := rest) (fun sig h => hn.trans (hlen sig h)) hstack hW (by rw [hb]; exact hdg)
    (fun vm₁ hW₁ => ⟨hf.1, hf.2, hPc (T.setVm vm₁) hT hW₁⟩) with ⟨v, vm₁, ⟨U', l2, c2, s2⟩, hW₁, X', ⟨g', mk, t, L, e1, e2, hq, h1, hL, h2, h3⟩, st⟩ | ⟨q, vm₁, ⟨U', l2, c2, s2⟩, hW₁, X', ⟨g', mk, t, L, E, ce, e1, e2, hq, hce, hcv, hcl, h1, hL, h2, h3⟩, st⟩
  · dsimp only [Pt.U, Pt.locs, Pt.cells, Pt.slots] at X' e1 e2 h1 h2 h3 st
    subst h1; subst h2; subst h3
    exact Or.inl ⟨v, (T.setVm vm₁).calling g' mk (Value.ref b :: As).toArray, t, U', L, hT, X', hL, e1, e2, hq, st⟩
  · dsimp only [Pt.U, Pt.locs, Pt.cells, Pt.slots] at X' e1 e2 h1 h2 h3 st hcl
    subst h1; subst h2; subst h3
    exact Or.inr ⟨q, (T.setVm vm₁).calling g' mk (Value.ref b :: As).toArray, t, U', L, E, ce, hT, X', hL, e1, e2, hq, hce, hcv, vx_cls hW₁ hcl, st⟩
theorem vx_runSX {hh : List (Nat × Nat × Nat × Nat)} (S : CallFix p m c cc nL s args Ts own) (hM : vx_Met l y ws rm Pc Qc XC mc ms free) (cw : vx_CSW R s args own index y bytes maxL ret hh ws rm mc ms n) (hp : PreS s H Pc As)
    (hg : g.method = m) (hn : As.length = n) (hsize : g.locals.size = nL) (hstack : g.stack = As.reverse ++ rest) (hW : 2 * g.monitorRoom + (rest.map fun v => v.category).sum ≤ 8) (hdg : decode cc g.pc = .ok (.invokestatic index, 3)) (hf : cells + mc ≤ R.cells ∧ slots + ms ≤ R.slots) :
    vx_Run p l e R s m args below meth c H locs cells slots mc ms g rest (Qc As.toArray) XC free := by
  obtain ⟨⟨hrc, hrs, hfr, hlo, hws, hcw⟩, hcode, hini, hy, hlen, hl, hstt⟩ := cw
  have hK : vx_Back l R p e below s args y 3 8 (PreOf R mc ms Pc) (PostOf Qc mc ms free) (vx_Post XC mc ms free) := vx_backW (hh := hh) (bytes := bytes) (maxL := maxL) (ret := ret) hM hp.1 hrc hrs hfr hlo hws hcw (fun a' U hW => word_at hW (Or.inl (by first | rfl | simp [Cond.onTables, Cond.keeps, Cond.steady])) hini)
  obtain ⟨hx, hb, hml, ho, -⟩ := S
  intro T hT X
  rcases vx_callSX X hx (hh := hh) (bytes := bytes) (maxL := maxL) (ret := ret) ho hl hstt hini hcode hy hK hg (hsize.trans hml.symm) (argsL := As) (rest := rest) (fun sig h => hn.trans (hlen sig h)) hstack hW (by rw [hb]; exact hdg)
    (fun vm₁ hW₁ => ⟨hf.1, hf.2, hp.2 (T.setVm vm₁) hT hW₁⟩) with ⟨v, vm₁, ⟨U', l2, c2, s2⟩, hW₁, X', ⟨g', mk, t, L, e1, e2, hq, h1, hL, h2, h3⟩, st⟩ | ⟨q, vm₁, ⟨U', l2, c2, s2⟩, hW₁, X', ⟨g', mk, t, L, E, ce, e1, e2, hq, hce, hcv, hcl, h1, hL, h2, h3⟩, st⟩
  · dsimp only [Pt.U, Pt.locs, Pt.cells, Pt.slots] at X' e1 e2 h1 h2 h3 st
    subst h1; subst h2; subst h3
    exact Or.inl ⟨v, (T.setVm vm₁).calling g' mk As.toArray, t, U', L, hT, X', hL, e1, e2, hq, st⟩
  · dsimp only [Pt.U, Pt.locs, Pt.cells, Pt.slots] at X' e1 e2 h1 h2 h3 st hcl
    subst h1; subst h2; subst h3
    exact Or.inr ⟨q, (T.setVm vm₁).calling g' mk As.toArray, t, U', L, E, ce, hT, X', hL, e1, e2, hq, hce, hcv, vx_cls hW₁ hcl, st⟩
end
end VXH
theorem vx_ofWH {l : Launch} {y : MethodName} {ws ws' : List Cond} {rm : Room} {Pc : Array Value → State → Prop} {Qc : Array Value → State → Outcome → State → Prop} {XC : String → State → State → Prop} {mc ms : Nat} {free : Addr → Prop} {cc : ByteArray} {maxL : Nat} {ret : Option FieldType} {hh : List (Nat × Nat × Nat × Nat)}
    (hy : plainName y.cls = true) (hw : ws = Cond.codeWith y cc maxL ret hh :: ws')
    (body : ∀ p e s m args below meth c s₁, BodyLoose p l y (headSpec ws rm) cc maxL ret e s m args below meth c s₁ → c.maxLocals = maxL → Pc args s →
      W p l e (headSpec ws rm).room s m args below meth c s.heap [] 0 0 (vx_MQ below Qc XC args s mc ms free) (entryFrame m args maxL)) : vx_Met l y ws rm Pc Qc XC mc ms free := by
  refine MetFree.of_bodyS (code := cc) (maxLocals := maxL) (ret := ret) hy ?_ ?_
  · intro args s m h hn
    obtain ⟨m9, meth, c, hn9, h1, h2, h3, h4, -, h5, h6, -⟩ := Cond.codeWith_spec (atoms_spec (ws := ws) h _ (by rw [hw]; exact List.mem_cons_self))
    cases hn.symm.trans hn9
    exact ⟨meth, c, h1, h2, h3, h4, h5, h6⟩
  · intro p e s m args below meth c s₁ B hml hP _
    have hh0 : s₁.heap = s.heap := by rw [B.state]; rfl
    obtain ⟨t, a1, o, b1, b2, b3⟩ := body p e s m args below meth c s₁ B hml hP s₁ hh0 (Stand.of_body B)
    exact ⟨t, o, a1, b1, b2, b3⟩
/-! ===== END ===== -/

/-! ===== BEGIN printed: names, fields, word lists, decode rows ===== -/
def RX0 : String := "EffectTrain$State"
def TX0 : u_T := fun k => match k with
  | 0 => ("EffectTrain$State", "n", "I", false)
  | 1 => ("EffectTrain$State", "settings", "[I", true)
  | 2 => ("EffectTrain$State", "clock", "I", false)
  | 3 => ("EffectTrain$State", "counts", "[I", true)
  | 4 => ("EffectTrain$State", "area", "[I", true)
  | 5 => ("EffectTrain$State", "water", "[I", true)
  | 6 => ("EffectTrain$State", "solids", "[I", true)
  | 7 => ("EffectTrain$State", "valve", "[I", true)
  | 8 => ("EffectTrain$State", "bleed", "[I", true)
  | 9 => ("EffectTrain$State", "scale", "[I", true)
  | 10 => ("EffectTrain$State", "scaling", "[I", true)
  | _ => ("EffectTrain$State", "left", "[I", true)
def tyX0 : Nat → FieldType := fun k => match k with
  | 0 => .int
  | 1 => .array .int
  | 2 => .int
  | 3 => .array .int
  | 4 => .array .int
  | 5 => .array .int
  | 6 => .array .int
  | 7 => .array .int
  | 8 => .array .int
  | 9 => .array .int
  | 10 => .array .int
  | _ => .array .int
abbrev wsX00 : List Cond := u_ws RX0 TX0 12
theorem nmX0 : ∀ a, a < 12 → ∀ b, b < 12 → a ≠ b → (TX0 a).2.1 ≠ (TX0 b).2.1 := by decide +kernel
theorem tyX0_ok : ∀ k, k < 12 → parseFieldDescriptor (TX0 k).2.2.1 = some (tyX0 k) := by decide +kernel
abbrev cX0_init : ByteArray := prog_2_method_1_code
def yX0_init : MethodName := ⟨RX0, "<init>", "()V"⟩
abbrev cX0_copyFrom : ByteArray := prog_2_method_2_code
def yX0_copyFrom : MethodName := ⟨RX0, "copyFrom", "(LEffectTrain$State;)V"⟩
abbrev cX0_takeNumbers : ByteArray := prog_2_method_3_code
def yX0_takeNumbers : MethodName := ⟨RX0, "takeNumbers", "([I)V"⟩
abbrev cX0_numberOf : ByteArray := prog_2_method_4_code
def yX0_numberOf : MethodName := ⟨RX0, "numberOf", "(II)I"⟩
abbrev cX0_amount : ByteArray := prog_2_method_5_code
def yX0_amount : MethodName := ⟨RX0, "amount", "(I)I"⟩
abbrev cX0_thickness : ByteArray := prog_2_method_6_code
def yX0_thickness : MethodName := ⟨RX0, "thickness", "(I)I"⟩
abbrev cX0_power : ByteArray := prog_2_method_7_code
def yX0_power : MethodName := ⟨RX0, "power", "(I)I"⟩
abbrev cX0_allWater : ByteArray := prog_2_method_8_code
def yX0_allWater : MethodName := ⟨RX0, "allWater", "()I"⟩
abbrev cX0_allSolids : ByteArray := prog_2_method_9_code
def yX0_allSolids : MethodName := ⟨RX0, "allSolids", "()I"⟩
abbrev cX0_washedEffects : ByteArray := prog_2_method_10_code
def yX0_washedEffects : MethodName := ⟨RX0, "washedEffects", "()I"⟩
abbrev cX0_effectBehind : ByteArray := prog_2_method_11_code
def yX0_effectBehind : MethodName := ⟨RX0, "effectBehind", "(I)I"⟩
abbrev cX0_effectBefore : ByteArray := prog_2_method_12_code
def yX0_effectBefore : MethodName := ⟨RX0, "effectBefore", "(I)I"⟩
abbrev cX0_pass : ByteArray := prog_2_method_13_code
def yX0_pass : MethodName := ⟨RX0, "pass", "(I)I"⟩
abbrev cX0_beginWashInTurn : ByteArray := prog_2_method_14_code
def yX0_beginWashInTurn : MethodName := ⟨RX0, "beginWashInTurn", "()V"⟩
abbrev cX0_boilAll : ByteArray := prog_2_method_15_code
def yX0_boilAll : MethodName := ⟨RX0, "boilAll", "()V"⟩
abbrev cX0_boil : ByteArray := prog_2_method_16_code
def yX0_boil : MethodName := ⟨RX0, "boil", "(II)I"⟩
abbrev cX0_flowOn : ByteArray := prog_2_method_17_code
def yX0_flowOn : MethodName := ⟨RX0, "flowOn", "()V"⟩
abbrev cX0_flowFrom : ByteArray := prog_2_method_18_code
def yX0_flowFrom : MethodName := ⟨RX0, "flowFrom", "(I)I"⟩
abbrev cX0_washOn : ByteArray := prog_2_method_19_code
def yX0_washOn : MethodName := ⟨RX0, "washOn", "()V"⟩
def RX1 : String := "EffectTrain"
def TX1 : u_T := fun k => match k with
  | 0 => ("EffectTrain", "text", "[C", true)
  | 1 => ("EffectTrain", "textLength", "I", false)
  | 2 => ("EffectTrain", "textNumbers", "[I", true)
  | 3 => ("EffectTrain", "now", "LEffectTrain$State;", true)
  | 4 => ("EffectTrain", "trial", "LEffectTrain$State;", true)
  | 5 => ("EffectTrain", "turnStates", "[LEffectTrain$State;", true)
  | 6 => ("EffectTrain", "remembered", "[LEffectTrain$State;", true)
  | 7 => ("EffectTrain", "newest", "I", false)
  | 8 => ("EffectTrain", "rememberedCount", "I", false)
  | 9 => ("EffectTrain", "slots", "[LEffectTrain$State;", true)
  | _ => ("EffectTrain", "slotFilled", "[Z", true)
def tyX1 : Nat → FieldType := fun k => match k with
  | 0 => .array .char
  | 1 => .int
  | 2 => .array .int
  | 3 => .object "EffectTrain$State"
  | 4 => .object "EffectTrain$State"
  | 5 => .array (.object "EffectTrain$State")
  | 6 => .array (.object "EffectTrain$State")
  | 7 => .int
  | 8 => .int
  | 9 => .array (.object "EffectTrain$State")
  | _ => .array .boolean
abbrev wsX10 : List Cond := u_ws RX1 TX1 11
theorem nmX1 : ∀ a, a < 11 → ∀ b, b < 11 → a ≠ b → (TX1 a).2.1 ≠ (TX1 b).2.1 := by decide +kernel
theorem tyX1_ok : ∀ k, k < 11 → parseFieldDescriptor (TX1 k).2.2.1 = some (tyX1 k) := by decide +kernel
abbrev cX1_init : ByteArray := prog_1_method_1_code
def yX1_init : MethodName := ⟨RX1, "<init>", "()V"⟩
abbrev cX1_append : ByteArray := prog_1_method_2_code
def yX1_append : MethodName := ⟨RX1, "append", "(I)I"⟩
abbrev cX1_clearText : ByteArray := prog_1_method_3_code
def yX1_clearText : MethodName := ⟨RX1, "clearText", "()I"⟩
abbrev cX1_errorPosition : ByteArray := prog_1_method_4_code
def yX1_errorPosition : MethodName := ⟨RX1, "errorPosition", "()I"⟩
abbrev cX1_load : ByteArray := prog_1_method_5_code
def yX1_load : MethodName := ⟨RX1, "load", "()I"⟩
abbrev cX1_readText : ByteArray := prog_1_method_6_code
def yX1_readText : MethodName := ⟨RX1, "readText", "()I"⟩
abbrev cX1_numberError : ByteArray := prog_1_method_7_code
def yX1_numberError : MethodName := ⟨RX1, "numberError", "(II)I"⟩
abbrev cX1_numberAt : ByteArray := prog_1_method_8_code
def yX1_numberAt : MethodName := ⟨RX1, "numberAt", "(II)I"⟩
abbrev cX1_about : ByteArray := prog_1_method_9_code
def yX1_about : MethodName := ⟨RX1, "about", "(I)I"⟩
abbrev cX1_total : ByteArray := prog_1_method_10_code
def yX1_total : MethodName := ⟨RX1, "total", "(I)I"⟩
abbrev cX1_effect : ByteArray := prog_1_method_11_code
def yX1_effect : MethodName := ⟨RX1, "effect", "(II)I"⟩
abbrev cX1_neighbor : ByteArray := prog_1_method_12_code
def yX1_neighbor : MethodName := ⟨RX1, "neighbor", "(IZ)I"⟩
abbrev cX1_economy : ByteArray := prog_1_method_13_code
def yX1_economy : MethodName := ⟨RX1, "economy", "()F"⟩
abbrev cX1_share : ByteArray := prog_1_method_14_code
def yX1_share : MethodName := ⟨RX1, "share", "(I)F"⟩
abbrev cX1_tick : ByteArray := prog_1_method_15_code
def yX1_tick : MethodName := ⟨RX1, "tick", "(I)I"⟩
abbrev cX1_set : ByteArray := prog_1_method_16_code
def yX1_set : MethodName := ⟨RX1, "set", "(II)I"⟩
abbrev cX1_setValve : ByteArray := prog_1_method_17_code
def yX1_setValve : MethodName := ⟨RX1, "setValve", "(II)I"⟩
abbrev cX1_setBleed : ByteArray := prog_1_method_18_code
def yX1_setBleed : MethodName := ⟨RX1, "setBleed", "(II)I"⟩
abbrev cX1_wash : ByteArray := prog_1_method_19_code
def yX1_wash : MethodName := ⟨RX1, "wash", "(II)I"⟩
abbrev cX1_endWash : ByteArray := prog_1_method_20_code
def yX1_endWash : MethodName := ⟨RX1, "endWash", "(I)I"⟩
abbrev cX1_undo : ByteArray := prog_1_method_21_code
def yX1_undo : MethodName := ⟨RX1, "undo", "()I"⟩
abbrev cX1_remember : ByteArray := prog_1_method_22_code
def yX1_remember : MethodName := ⟨RX1, "remember", "()V"⟩
abbrev cX1_ahead : ByteArray := prog_1_method_23_code
def yX1_ahead : MethodName := ⟨RX1, "ahead", "(III)I"⟩
abbrev cX1_growth : ByteArray := prog_1_method_24_code
def yX1_growth : MethodName := ⟨RX1, "growth", "(II)I"⟩
abbrev cX1_washGain : ByteArray := prog_1_method_25_code
def yX1_washGain : MethodName := ⟨RX1, "washGain", "(III)I"⟩
abbrev cX1_bestTurns : ByteArray := prog_1_method_26_code
def yX1_bestTurns : MethodName := ⟨RX1, "bestTurns", "(IZ)I"⟩
abbrev cX1_vaporWithChoice : ByteArray := prog_1_method_27_code
def yX1_vaporWithChoice : MethodName := ⟨RX1, "vaporWithChoice", "(LEffectTrain$State;II)I"⟩
abbrev cX1_greatestVapor : ByteArray := prog_1_method_28_code
def yX1_greatestVapor : MethodName := ⟨RX1, "greatestVapor", "(LEffectTrain$State;I)I"⟩
abbrev cX1_scaledAfter : ByteArray := prog_1_method_29_code
def yX1_scaledAfter : MethodName := ⟨RX1, "scaledAfter", "(II)I"⟩
abbrev cX1_steamFor : ByteArray := prog_1_method_30_code
def yX1_steamFor : MethodName := ⟨RX1, "steamFor", "(II)I"⟩
abbrev cX1_runScript : ByteArray := prog_1_method_31_code
def yX1_runScript : MethodName := ⟨RX1, "runScript", "(IJ)I"⟩
abbrev cX1_withoutLastGroups : ByteArray := prog_1_method_32_code
def yX1_withoutLastGroups : MethodName := ⟨RX1, "withoutLastGroups", "(JI)J"⟩
abbrev cX1_runCommand : ByteArray := prog_1_method_33_code
def yX1_runCommand : MethodName := ⟨RX1, "runCommand", "(I)Z"⟩
abbrev cX1_runEffectCommand : ByteArray := prog_1_method_34_code
def yX1_runEffectCommand : MethodName := ⟨RX1, "runEffectCommand", "(III)Z"⟩
abbrev cX1_simulate : ByteArray := prog_1_method_35_code
def yX1_simulate : MethodName := ⟨RX1, "simulate", "(JI)I"⟩
abbrev cX1_disturb : ByteArray := prog_1_method_36_code
def yX1_disturb : MethodName := ⟨RX1, "disturb", "(I)V"⟩
abbrev cX1_save : ByteArray := prog_1_method_37_code
def yX1_save : MethodName := ⟨RX1, "save", "(I)I"⟩
abbrev cX1_restore : ByteArray := prog_1_method_38_code
def yX1_restore : MethodName := ⟨RX1, "restore", "(I)I"⟩
abbrev cX1_checkRange : ByteArray := prog_1_method_39_code
def yX1_checkRange : MethodName := ⟨RX1, "checkRange", "(III)V"⟩
abbrev cX1_checkEffect : ByteArray := prog_1_method_40_code
def yX1_checkEffect : MethodName := ⟨RX1, "checkEffect", "(I)V"⟩
abbrev cX1_checkSlot : ByteArray := prog_1_method_41_code
def yX1_checkSlot : MethodName := ⟨RX1, "checkSlot", "(I)V"⟩
abbrev cX1_checkWorks : ByteArray := prog_1_method_42_code
def yX1_checkWorks : MethodName := ⟨RX1, "checkWorks", "(I)V"⟩
abbrev cX1_stateAt : ByteArray := prog_1_method_43_code
def yX1_stateAt : MethodName := ⟨RX1, "stateAt", "([LEffectTrain$State;I)LEffectTrain$State;"⟩
def RX2 : String := "EffectTrainModel"
def TX2 : u_T := fun k => match k with
  | 0 => ("EffectTrainModel", "refusal", "I", false)
  | 1 => ("EffectTrainModel", "script", "[I", true)
  | 2 => ("EffectTrainModel", "scriptSize", "I", false)
  | 3 => ("EffectTrainModel", "spot", "I", false)
  | 4 => ("EffectTrainModel", "readN", "I", false)
  | 5 => ("EffectTrainModel", "readRow", "[I", true)
  | 6 => ("EffectTrainModel", "n", "I", false)
  | 7 => ("EffectTrainModel", "now", "[I", true)
  | 8 => ("EffectTrainModel", "trial", "[I", true)
  | 9 => ("EffectTrainModel", "diary", "[I", true)
  | 10 => ("EffectTrainModel", "acts", "I", false)
  | 11 => ("EffectTrainModel", "kept", "[I", true)
  | 12 => ("EffectTrainModel", "isKept", "[Z", true)
  | 13 => ("EffectTrainModel", "flow", "[I", true)
  | _ => ("EffectTrainModel", "salt", "[I", true)
def tyX2 : Nat → FieldType := fun k => match k with
  | 0 => .int
  | 1 => .array .int
  | 2 => .int
  | 3 => .int
  | 4 => .int
  | 5 => .array .int
  | 6 => .int
  | 7 => .array .int
  | 8 => .array .int
  | 9 => .array .int
  | 10 => .int
  | 11 => .array .int
  | 12 => .array .boolean
  | 13 => .array .int
  | _ => .array .int
abbrev wsX20 : List Cond := u_ws RX2 TX2 15
theorem nmX2 : ∀ a, a < 15 → ∀ b, b < 15 → a ≠ b → (TX2 a).2.1 ≠ (TX2 b).2.1 := by decide +kernel
theorem tyX2_ok : ∀ k, k < 15 → parseFieldDescriptor (TX2 k).2.2.1 = some (tyX2 k) := by decide +kernel
abbrev cX2_init : ByteArray := prog_4_method_1_code
def yX2_init : MethodName := ⟨RX2, "<init>", "()V"⟩
abbrev cX2_thrown : ByteArray := prog_4_method_2_code
def yX2_thrown : MethodName := ⟨RX2, "thrown", "()I"⟩
abbrev cX2_refused : ByteArray := prog_4_method_3_code
def yX2_refused : MethodName := ⟨RX2, "refused", "(I)Z"⟩
abbrev cX2_in : ByteArray := prog_4_method_4_code
def yX2_in : MethodName := ⟨RX2, "in", "(JJJ)Z"⟩
abbrev cX2_copy : ByteArray := prog_4_method_5_code
def yX2_copy : MethodName := ⟨RX2, "copy", "([II[III)V"⟩
abbrev cX2_tenTo : ByteArray := prog_4_method_6_code
def yX2_tenTo : MethodName := ⟨RX2, "tenTo", "(I)J"⟩
abbrev cX2_less : ByteArray := prog_4_method_7_code
def yX2_less : MethodName := ⟨RX2, "less", "(II)I"⟩
abbrev cX2_note : ByteArray := prog_4_method_8_code
def yX2_note : MethodName := ⟨RX2, "note", "()V"⟩
abbrev cX2_isEffect : ByteArray := prog_4_method_9_code
def yX2_isEffect : MethodName := ⟨RX2, "isEffect", "(I)Z"⟩
abbrev cX2_amount : ByteArray := prog_4_method_10_code
def yX2_amount : MethodName := ⟨RX2, "amount", "([II)I"⟩
abbrev cX2_thickness : ByteArray := prog_4_method_11_code
def yX2_thickness : MethodName := ⟨RX2, "thickness", "([II)I"⟩
abbrev cX2_power : ByteArray := prog_4_method_12_code
def yX2_power : MethodName := ⟨RX2, "power", "([II)I"⟩
abbrev cX2_works : ByteArray := prog_4_method_13_code
def yX2_works : MethodName := ⟨RX2, "works", "([II)Z"⟩
abbrev cX2_before : ByteArray := prog_4_method_14_code
def yX2_before : MethodName := ⟨RX2, "before", "([II)I"⟩
abbrev cX2_behind : ByteArray := prog_4_method_15_code
def yX2_behind : MethodName := ⟨RX2, "behind", "([II)I"⟩
abbrev cX2_washed : ByteArray := prog_4_method_16_code
def yX2_washed : MethodName := ⟨RX2, "washed", "([I)I"⟩
abbrev cX2_tickOn : ByteArray := prog_4_method_17_code
def yX2_tickOn : MethodName := ⟨RX2, "tickOn", "([I)V"⟩
abbrev cX2_boil : ByteArray := prog_4_method_18_code
def yX2_boil : MethodName := ⟨RX2, "boil", "([I)V"⟩
abbrev cX2_go : ByteArray := prog_4_method_19_code
def yX2_go : MethodName := ⟨RX2, "go", "([I)V"⟩
abbrev cX2_ticksOn : ByteArray := prog_4_method_20_code
def yX2_ticksOn : MethodName := ⟨RX2, "ticksOn", "([II)I"⟩
abbrev cX2_append : ByteArray := prog_4_method_21_code
def yX2_append : MethodName := ⟨RX2, "append", "(I)I"⟩
abbrev cX2_clearText : ByteArray := prog_4_method_22_code
def yX2_clearText : MethodName := ⟨RX2, "clearText", "()I"⟩
abbrev cX2_number : ByteArray := prog_4_method_23_code
def yX2_number : MethodName := ⟨RX2, "number", "(III)I"⟩
abbrev cX2_readEffect : ByteArray := prog_4_method_24_code
def yX2_readEffect : MethodName := ⟨RX2, "readEffect", "(I)I"⟩
abbrev cX2_readText : ByteArray := prog_4_method_25_code
def yX2_readText : MethodName := ⟨RX2, "readText", "()I"⟩
abbrev cX2_errorPosition : ByteArray := prog_4_method_26_code
def yX2_errorPosition : MethodName := ⟨RX2, "errorPosition", "()I"⟩
abbrev cX2_sumOf : ByteArray := prog_4_method_27_code
def yX2_sumOf : MethodName := ⟨RX2, "sumOf", "([II)I"⟩
abbrev cX2_load : ByteArray := prog_4_method_28_code
def yX2_load : MethodName := ⟨RX2, "load", "()I"⟩
abbrev cX2_about : ByteArray := prog_4_method_29_code
def yX2_about : MethodName := ⟨RX2, "about", "(I)I"⟩
abbrev cX2_total : ByteArray := prog_4_method_30_code
def yX2_total : MethodName := ⟨RX2, "total", "(I)I"⟩
abbrev cX2_detail : ByteArray := prog_4_method_31_code
def yX2_detail : MethodName := ⟨RX2, "detail", "([III)I"⟩
abbrev cX2_effect : ByteArray := prog_4_method_32_code
def yX2_effect : MethodName := ⟨RX2, "effect", "(II)I"⟩
abbrev cX2_neighbor : ByteArray := prog_4_method_33_code
def yX2_neighbor : MethodName := ⟨RX2, "neighbor", "(IZ)I"⟩
abbrev cX2_economy : ByteArray := prog_4_method_34_code
def yX2_economy : MethodName := ⟨RX2, "economy", "()F"⟩
abbrev cX2_share : ByteArray := prog_4_method_35_code
def yX2_share : MethodName := ⟨RX2, "share", "(I)F"⟩
abbrev cX2_tick : ByteArray := prog_4_method_36_code
def yX2_tick : MethodName := ⟨RX2, "tick", "(I)I"⟩
abbrev cX2_set : ByteArray := prog_4_method_37_code
def yX2_set : MethodName := ⟨RX2, "set", "(II)I"⟩
abbrev cX2_change : ByteArray := prog_4_method_38_code
def yX2_change : MethodName := ⟨RX2, "change", "(II)I"⟩
abbrev cX2_setValve : ByteArray := prog_4_method_39_code
def yX2_setValve : MethodName := ⟨RX2, "setValve", "(II)I"⟩
abbrev cX2_setBleed : ByteArray := prog_4_method_40_code
def yX2_setBleed : MethodName := ⟨RX2, "setBleed", "(II)I"⟩
abbrev cX2_wash : ByteArray := prog_4_method_41_code
def yX2_wash : MethodName := ⟨RX2, "wash", "(II)I"⟩
abbrev cX2_endWash : ByteArray := prog_4_method_42_code
def yX2_endWash : MethodName := ⟨RX2, "endWash", "(I)I"⟩
abbrev cX2_undo : ByteArray := prog_4_method_43_code
def yX2_undo : MethodName := ⟨RX2, "undo", "()I"⟩
abbrev cX2_ahead : ByteArray := prog_4_method_44_code
def yX2_ahead : MethodName := ⟨RX2, "ahead", "(III)I"⟩
abbrev cX2_growth : ByteArray := prog_4_method_45_code
def yX2_growth : MethodName := ⟨RX2, "growth", "(II)I"⟩
abbrev cX2_washGain : ByteArray := prog_4_method_46_code
def yX2_washGain : MethodName := ⟨RX2, "washGain", "(III)I"⟩
abbrev cX2_turns : ByteArray := prog_4_method_47_code
def yX2_turns : MethodName := ⟨RX2, "turns", "(II)I"⟩
abbrev cX2_bestTurns : ByteArray := prog_4_method_48_code
def yX2_bestTurns : MethodName := ⟨RX2, "bestTurns", "(IZ)I"⟩
abbrev cX2_scaledAfter : ByteArray := prog_4_method_49_code
def yX2_scaledAfter : MethodName := ⟨RX2, "scaledAfter", "(II)I"⟩
abbrev cX2_steamFor : ByteArray := prog_4_method_50_code
def yX2_steamFor : MethodName := ⟨RX2, "steamFor", "(II)I"⟩
abbrev cX2_command : ByteArray := prog_4_method_51_code
def yX2_command : MethodName := ⟨RX2, "command", "(I)Z"⟩
abbrev cX2_runScript : ByteArray := prog_4_method_52_code
def yX2_runScript : MethodName := ⟨RX2, "runScript", "(IJ)I"⟩
abbrev cX2_simulate : ByteArray := prog_4_method_53_code
def yX2_simulate : MethodName := ⟨RX2, "simulate", "(JI)I"⟩
abbrev cX2_save : ByteArray := prog_4_method_54_code
def yX2_save : MethodName := ⟨RX2, "save", "(I)I"⟩
abbrev cX2_restore : ByteArray := prog_4_method_55_code
def yX2_restore : MethodName := ⟨RX2, "restore", "(I)I"⟩
def RJx145de : String := "java/io/Serializable"
def TJx145de : u_T := fun k => match k with
  | _ => ("", "", "", false)
def tyJx145de : Nat → FieldType := fun k => match k with
  | _ => .int
abbrev wsJx145de0 : List Cond := u_ws RJx145de TJx145de 0
theorem nmJx145de : ∀ a, a < 0 → ∀ b, b < 0 → a ≠ b → (TJx145de a).2.1 ≠ (TJx145de b).2.1 := by decide +kernel
theorem tyJx145de_ok : ∀ k, k < 0 → parseFieldDescriptor (TJx145de k).2.2.1 = some (tyJx145de k) := by decide +kernel
def RJ9 : String := "java/lang/Math"
def TJ9 : u_T := fun k => match k with
  | _ => ("", "", "", false)
def tyJ9 : Nat → FieldType := fun k => match k with
  | _ => .int
abbrev wsJ90 : List Cond := u_ws RJ9 TJ9 0
theorem nmJ9 : ∀ a, a < 0 → ∀ b, b < 0 → a ≠ b → (TJ9 a).2.1 ≠ (TJ9 b).2.1 := by decide +kernel
theorem tyJ9_ok : ∀ k, k < 0 → parseFieldDescriptor (TJ9 k).2.2.1 = some (tyJ9 k) := by decide +kernel
abbrev cJ9_max_7cf53 : ByteArray := prog_9_method_65_code
def yJ9_max_7cf53 : MethodName := ⟨RJ9, "max", "(II)I"⟩
abbrev cJ9_min_7cf53 : ByteArray := prog_9_method_69_code
def yJ9_min_7cf53 : MethodName := ⟨RJ9, "min", "(II)I"⟩
def RJ0 : String := "java/lang/String"
def TJ0 : u_T := fun k => match k with
  | _ => ("", "", "", false)
def tyJ0 : Nat → FieldType := fun k => match k with
  | _ => .int
abbrev wsJ00 : List Cond := u_ws RJ0 TJ0 0
theorem nmJ0 : ∀ a, a < 0 → ∀ b, b < 0 → a ≠ b → (TJ0 a).2.1 ≠ (TJ0 b).2.1 := by decide +kernel
theorem tyJ0_ok : ∀ k, k < 0 → parseFieldDescriptor (TJ0 k).2.2.1 = some (tyJ0 k) := by decide +kernel
def RJ10 : String := "java/lang/System"
def TJ10 : u_T := fun k => match k with
  | _ => ("", "", "", false)
def tyJ10 : Nat → FieldType := fun k => match k with
  | _ => .int
abbrev wsJ100 : List Cond := u_ws RJ10 TJ10 0
theorem nmJ10 : ∀ a, a < 0 → ∀ b, b < 0 → a ≠ b → (TJ10 a).2.1 ≠ (TJ10 b).2.1 := by decide +kernel
theorem tyJ10_ok : ∀ k, k < 0 → parseFieldDescriptor (TJ10 k).2.2.1 = some (tyJ10 k) := by decide +kernel
def RJ7 : String := "java/util/Arrays"
def TJ7 : u_T := fun k => match k with
  | _ => ("", "", "", false)
def tyJ7 : Nat → FieldType := fun k => match k with
  | _ => .int
abbrev wsJ70 : List Cond := u_ws RJ7 TJ7 0
theorem nmJ7 : ∀ a, a < 0 → ∀ b, b < 0 → a ≠ b → (TJ7 a).2.1 ≠ (TJ7 b).2.1 := by decide +kernel
theorem tyJ7_ok : ∀ k, k < 0 → parseFieldDescriptor (TJ7 k).2.2.1 = some (tyJ7 k) := by decide +kernel
abbrev cJ7_fill_53178 : ByteArray := prog_14_method_103_code
def yJ7_fill_53178 : MethodName := ⟨RJ7, "fill", "([II)V"⟩
def RL : String := "EffectTrainLaw"
abbrev cL_append : ByteArray := method_3_code
def yL_append : MethodName := ⟨RL, "append", "(LEffectTrain;I[J)I"⟩
abbrev cL_load : ByteArray := method_4_code
def yL_load : MethodName := ⟨RL, "load", "(LEffectTrain;[J)I"⟩
abbrev cL_about : ByteArray := method_5_code
def yL_about : MethodName := ⟨RL, "about", "(LEffectTrain;I[J)I"⟩
abbrev cL_total : ByteArray := method_6_code
def yL_total : MethodName := ⟨RL, "total", "(LEffectTrain;I[J)I"⟩
abbrev cL_effect : ByteArray := method_7_code
def yL_effect : MethodName := ⟨RL, "effect", "(LEffectTrain;II[J)I"⟩
abbrev cL_neighbor : ByteArray := method_8_code
def yL_neighbor : MethodName := ⟨RL, "neighbor", "(LEffectTrain;IZ[J)I"⟩
abbrev cL_share : ByteArray := method_9_code
def yL_share : MethodName := ⟨RL, "share", "(LEffectTrain;I[D)I"⟩
abbrev cL_tick : ByteArray := method_10_code
def yL_tick : MethodName := ⟨RL, "tick", "(LEffectTrain;I[J)I"⟩
abbrev cL_set : ByteArray := method_11_code
def yL_set : MethodName := ⟨RL, "set", "(LEffectTrain;II[J)I"⟩
abbrev cL_setValve : ByteArray := method_12_code
def yL_setValve : MethodName := ⟨RL, "setValve", "(LEffectTrain;II[J)I"⟩
abbrev cL_setBleed : ByteArray := method_13_code
def yL_setBleed : MethodName := ⟨RL, "setBleed", "(LEffectTrain;II[J)I"⟩
abbrev cL_wash : ByteArray := method_14_code
def yL_wash : MethodName := ⟨RL, "wash", "(LEffectTrain;II[J)I"⟩
abbrev cL_endWash : ByteArray := method_15_code
def yL_endWash : MethodName := ⟨RL, "endWash", "(LEffectTrain;I[J)I"⟩
abbrev cL_undo : ByteArray := method_16_code
def yL_undo : MethodName := ⟨RL, "undo", "(LEffectTrain;[J)I"⟩
abbrev cL_ahead : ByteArray := method_17_code
def yL_ahead : MethodName := ⟨RL, "ahead", "(LEffectTrain;III[J)I"⟩
abbrev cL_growth : ByteArray := method_18_code
def yL_growth : MethodName := ⟨RL, "growth", "(LEffectTrain;II[J)I"⟩
abbrev cL_washGain : ByteArray := method_19_code
def yL_washGain : MethodName := ⟨RL, "washGain", "(LEffectTrain;III[J)I"⟩
abbrev cL_bestTurns : ByteArray := method_20_code
def yL_bestTurns : MethodName := ⟨RL, "bestTurns", "(LEffectTrain;IZ[J)I"⟩
abbrev cL_scaledAfter : ByteArray := method_21_code
def yL_scaledAfter : MethodName := ⟨RL, "scaledAfter", "(LEffectTrain;II[J)I"⟩
abbrev cL_steamFor : ByteArray := method_22_code
def yL_steamFor : MethodName := ⟨RL, "steamFor", "(LEffectTrain;II[J)I"⟩
abbrev cL_runScript : ByteArray := method_23_code
def yL_runScript : MethodName := ⟨RL, "runScript", "(LEffectTrain;IJ[J)I"⟩
abbrev cL_simulate : ByteArray := method_24_code
def yL_simulate : MethodName := ⟨RL, "simulate", "(LEffectTrain;JI[J)I"⟩
abbrev cL_save : ByteArray := method_25_code
def yL_save : MethodName := ⟨RL, "save", "(LEffectTrain;I[J)I"⟩
abbrev cL_restore : ByteArray := method_26_code
def yL_restore : MethodName := ⟨RL, "restore", "(LEffectTrain;I[J)I"⟩
abbrev cL_law : ByteArray := code
def yL_law : MethodName := ⟨RL, "law", "([I)Z"⟩
def wsJ7_fill_53178 : List Cond := .code yJ7_fill_53178 cJ7_fill_53178 4 none :: ([])
def wsX0_init : List Cond := .code yX0_init cX0_init 1 none :: ([.methodLink RX0 3 objectInit, .instanceMethod objectInit, .code objectInit ⟨#[0xb1]⟩ 1 none, .fieldLink RX0 9 "EffectTrain$State" "n" "I", .arrayClass .int, .fieldLink RX0 15 "EffectTrain$State" "settings" "[I", .fieldLink RX0 19 "EffectTrain$State" "clock" "I", .fieldLink RX0 22 "EffectTrain$State" "counts" "[I", .fieldLink RX0 25 "EffectTrain$State" "area" "[I", .fieldLink RX0 28 "EffectTrain$State" "water" "[I", .fieldLink RX0 31 "EffectTrain$State" "solids" "[I", .fieldLink RX0 34 "EffectTrain$State" "valve" "[I", .fieldLink RX0 37 "EffectTrain$State" "bleed" "[I", .fieldLink RX0 40 "EffectTrain$State" "scale" "[I", .fieldLink RX0 43 "EffectTrain$State" "scaling" "[I", .fieldLink RX0 46 "EffectTrain$State" "left" "[I", .methodLink RX0 49 yJ7_fill_53178, .static yJ7_fill_53178, .initialized RJ7, .code yJ7_fill_53178 cJ7_fill_53178 4 none] ++ wsX00)
def wsX0_copyFrom : List Cond := .code yX0_copyFrom cX0_copyFrom 2 none :: ([.fieldLink RX0 9 "EffectTrain$State" "n" "I", .fieldLink RX0 19 "EffectTrain$State" "clock" "I", .fieldLink RX0 15 "EffectTrain$State" "settings" "[I", .methodLink RX0 55 arraycopyName, .native arraycopyName, .static arraycopyName, .initialized "java/lang/System", .fieldLink RX0 22 "EffectTrain$State" "counts" "[I", .fieldLink RX0 25 "EffectTrain$State" "area" "[I", .fieldLink RX0 28 "EffectTrain$State" "water" "[I", .fieldLink RX0 31 "EffectTrain$State" "solids" "[I", .fieldLink RX0 34 "EffectTrain$State" "valve" "[I", .fieldLink RX0 37 "EffectTrain$State" "bleed" "[I", .fieldLink RX0 40 "EffectTrain$State" "scale" "[I", .fieldLink RX0 43 "EffectTrain$State" "scaling" "[I", .fieldLink RX0 46 "EffectTrain$State" "left" "[I"] ++ wsX00)
def wsX0_takeNumbers : List Cond := .code yX0_takeNumbers cX0_takeNumbers 4 none :: ([.fieldLink RX0 9 "EffectTrain$State" "n" "I", .fieldLink RX0 15 "EffectTrain$State" "settings" "[I", .methodLink RX0 55 arraycopyName, .native arraycopyName, .static arraycopyName, .initialized "java/lang/System", .fieldLink RX0 19 "EffectTrain$State" "clock" "I", .fieldLink RX0 22 "EffectTrain$State" "counts" "[I", .fieldLink RX0 43 "EffectTrain$State" "scaling" "[I", .fieldLink RX0 46 "EffectTrain$State" "left" "[I", .fieldLink RX0 25 "EffectTrain$State" "area" "[I", .fieldLink RX0 28 "EffectTrain$State" "water" "[I", .fieldLink RX0 31 "EffectTrain$State" "solids" "[I", .fieldLink RX0 34 "EffectTrain$State" "valve" "[I", .fieldLink RX0 37 "EffectTrain$State" "bleed" "[I", .fieldLink RX0 40 "EffectTrain$State" "scale" "[I", .methodLink RX0 49 yJ7_fill_53178, .static yJ7_fill_53178, .initialized RJ7, .code yJ7_fill_53178 cJ7_fill_53178 4 none] ++ wsX00)
def wsX0_thickness : List Cond := .code yX0_thickness cX0_thickness 3 (some .int) :: ([.fieldLink RX0 28 "EffectTrain$State" "water" "[I", .fieldLink RX0 31 "EffectTrain$State" "solids" "[I"] ++ wsX00)
def wsX0_power : List Cond := .code yX0_power cX0_power 3 (some .int) :: ([.fieldLink RX0 40 "EffectTrain$State" "scale" "[I", .fieldLink RX0 25 "EffectTrain$State" "area" "[I"] ++ wsX00)
def wsX0_numberOf : List Cond := .code yX0_numberOf cX0_numberOf 3 (some .int) :: ([.fieldLink RX0 25 "EffectTrain$State" "area" "[I", .fieldLink RX0 28 "EffectTrain$State" "water" "[I", .fieldLink RX0 31 "EffectTrain$State" "solids" "[I", .fieldLink RX0 34 "EffectTrain$State" "valve" "[I", .fieldLink RX0 37 "EffectTrain$State" "bleed" "[I", .fieldLink RX0 40 "EffectTrain$State" "scale" "[I", .fieldLink RX0 43 "EffectTrain$State" "scaling" "[I", .fieldLink RX0 46 "EffectTrain$State" "left" "[I", .methodLink RX0 61 yX0_thickness, .instanceMethod yX0_thickness, .selects RX0 yX0_thickness yX0_thickness, .initialized RX0, .code yX0_thickness cX0_thickness 3 (some .int), .methodLink RX0 65 yX0_power, .instanceMethod yX0_power, .selects RX0 yX0_power yX0_power, .code yX0_power cX0_power 3 (some .int)] ++ wsX00)
def wsX0_amount : List Cond := .code yX0_amount cX0_amount 2 (some .int) :: ([.fieldLink RX0 28 "EffectTrain$State" "water" "[I", .fieldLink RX0 31 "EffectTrain$State" "solids" "[I"] ++ wsX00)
def wsX0_allWater : List Cond := .code yX0_allWater cX0_allWater 3 (some .int) :: ([.fieldLink RX0 9 "EffectTrain$State" "n" "I", .fieldLink RX0 28 "EffectTrain$State" "water" "[I"] ++ wsX00)
def wsX0_allSolids : List Cond := .code yX0_allSolids cX0_allSolids 3 (some .int) :: ([.fieldLink RX0 9 "EffectTrain$State" "n" "I", .fieldLink RX0 31 "EffectTrain$State" "solids" "[I"] ++ wsX00)
def wsX0_washedEffects : List Cond := .code yX0_washedEffects cX0_washedEffects 3 (some .int) :: ([.fieldLink RX0 9 "EffectTrain$State" "n" "I", .fieldLink RX0 46 "EffectTrain$State" "left" "[I"] ++ wsX00)
def wsX0_effectBehind : List Cond := .code yX0_effectBehind cX0_effectBehind 3 (some .int) :: ([.fieldLink RX0 9 "EffectTrain$State" "n" "I", .fieldLink RX0 46 "EffectTrain$State" "left" "[I"] ++ wsX00)
def wsX0_effectBefore : List Cond := .code yX0_effectBefore cX0_effectBefore 3 (some .int) :: ([.fieldLink RX0 46 "EffectTrain$State" "left" "[I"] ++ wsX00)
def wsX0_beginWashInTurn : List Cond := .code yX0_beginWashInTurn cX0_beginWashInTurn 4 none :: ([.fieldLink RX0 15 "EffectTrain$State" "settings" "[I", .fieldLink RX0 19 "EffectTrain$State" "clock" "I", .fieldLink RX0 9 "EffectTrain$State" "n" "I", .fieldLink RX0 40 "EffectTrain$State" "scale" "[I", .fieldLink RX0 46 "EffectTrain$State" "left" "[I", .methodLink RX0 80 yX0_washedEffects, .instanceMethod yX0_washedEffects, .selects RX0 yX0_washedEffects yX0_washedEffects, .initialized RX0, .code yX0_washedEffects cX0_washedEffects 3 (some .int)] ++ wsX00)
def wsX0_boil : List Cond := .code yX0_boil cX0_boil 7 (some .int) :: ([.methodLink RX0 88 Lib.Math.min.name, .static Lib.Math.min.name, .initialized "java/lang/Math", .code Lib.Math.min.name Lib.Math.min.code 2 (some .int), .fieldLink RX0 28 "EffectTrain$State" "water" "[I", .fieldLink RX0 37 "EffectTrain$State" "bleed" "[I", .fieldLink RX0 22 "EffectTrain$State" "counts" "[I", .fieldLink RX0 43 "EffectTrain$State" "scaling" "[I", .fieldLink RX0 40 "EffectTrain$State" "scale" "[I", .methodLink RX0 61 yX0_thickness, .instanceMethod yX0_thickness, .selects RX0 yX0_thickness yX0_thickness, .initialized RX0, .code yX0_thickness cX0_thickness 3 (some .int), .fieldLink RX0 31 "EffectTrain$State" "solids" "[I", .methodLink RX0 65 yX0_power, .instanceMethod yX0_power, .selects RX0 yX0_power yX0_power, .code yX0_power cX0_power 3 (some .int), .fieldLink RX0 25 "EffectTrain$State" "area" "[I"] ++ wsX00)
def wsX0_boilAll_r1 : List Cond := [Cond.fieldLink RX0 15 "EffectTrain$State" "settings" "[I", Cond.fieldLink RX0 9 "EffectTrain$State" "n" "I", Cond.fieldLink RX0 46 "EffectTrain$State" "left" "[I", Cond.fieldLink RX0 22 "EffectTrain$State" "counts" "[I", Cond.methodLink RX0 84 yX0_boil, Cond.instanceMethod yX0_boil, Cond.selects RX0 yX0_boil yX0_boil, Cond.initialized RX0, Cond.code yX0_boil cX0_boil 7 (some .int), Cond.methodLink RX0 88 Lib.Math.min.name, Cond.static Lib.Math.min.name, Cond.initialized "java/lang/Math", Cond.code Lib.Math.min.name Lib.Math.min.code 2 (some .int), Cond.fieldLink RX0 28 "EffectTrain$State" "water" "[I", Cond.fieldLink RX0 37 "EffectTrain$State" "bleed" "[I", Cond.fieldLink RX0 43 "EffectTrain$State" "scaling" "[I", Cond.fieldLink RX0 40 "EffectTrain$State" "scale" "[I", Cond.methodLink RX0 61 yX0_thickness, Cond.instanceMethod yX0_thickness, Cond.selects RX0 yX0_thickness yX0_thickness, Cond.code yX0_thickness cX0_thickness 3 (some .int), Cond.fieldLink RX0 31 "EffectTrain$State" "solids" "[I", Cond.methodLink RX0 65 yX0_power, Cond.instanceMethod yX0_power]
def wsX0_boilAll_r2 : List Cond := [Cond.selects RX0 yX0_power yX0_power, Cond.code yX0_power cX0_power 3 (some .int), Cond.fieldLink RX0 25 "EffectTrain$State" "area" "[I"]
def wsX0_boilAll : List Cond := .code yX0_boilAll cX0_boilAll 4 none :: ((wsX0_boilAll_r1 ++ wsX0_boilAll_r2) ++ wsX00)
def wsX0_flowFrom : List Cond := .code yX0_flowFrom cX0_flowFrom 4 (some .int) :: ([.fieldLink RX0 34 "EffectTrain$State" "valve" "[I", .methodLink RX0 88 Lib.Math.min.name, .static Lib.Math.min.name, .initialized "java/lang/Math", .code Lib.Math.min.name Lib.Math.min.code 2 (some .int), .methodLink RX0 96 yX0_amount, .instanceMethod yX0_amount, .selects RX0 yX0_amount yX0_amount, .initialized RX0, .code yX0_amount cX0_amount 2 (some .int), .fieldLink RX0 28 "EffectTrain$State" "water" "[I", .fieldLink RX0 31 "EffectTrain$State" "solids" "[I", .methodLink RX0 93 yX0_effectBehind, .instanceMethod yX0_effectBehind, .selects RX0 yX0_effectBehind yX0_effectBehind, .code yX0_effectBehind cX0_effectBehind 3 (some .int), .fieldLink RX0 9 "EffectTrain$State" "n" "I", .fieldLink RX0 46 "EffectTrain$State" "left" "[I"] ++ wsX00)
def wsX0_flowOn : List Cond := .code yX0_flowOn cX0_flowOn 9 none :: ([.fieldLink RX0 15 "EffectTrain$State" "settings" "[I", .fieldLink RX0 22 "EffectTrain$State" "counts" "[I", .fieldLink RX0 9 "EffectTrain$State" "n" "I", .fieldLink RX0 46 "EffectTrain$State" "left" "[I", .fieldLink RX0 31 "EffectTrain$State" "solids" "[I", .fieldLink RX0 28 "EffectTrain$State" "water" "[I", .methodLink RX0 93 yX0_effectBehind, .instanceMethod yX0_effectBehind, .selects RX0 yX0_effectBehind yX0_effectBehind, .initialized RX0, .code yX0_effectBehind cX0_effectBehind 3 (some .int), .methodLink RX0 96 yX0_amount, .instanceMethod yX0_amount, .selects RX0 yX0_amount yX0_amount, .code yX0_amount cX0_amount 2 (some .int), .methodLink RX0 99 yX0_flowFrom, .instanceMethod yX0_flowFrom, .selects RX0 yX0_flowFrom yX0_flowFrom, .code yX0_flowFrom cX0_flowFrom 4 (some .int), .fieldLink RX0 34 "EffectTrain$State" "valve" "[I", .methodLink RX0 88 Lib.Math.min.name, .static Lib.Math.min.name, .initialized "java/lang/Math", .code Lib.Math.min.name Lib.Math.min.code 2 (some .int)] ++ wsX00)
def wsX0_washOn : List Cond := .code yX0_washOn cX0_washOn 2 none :: ([.fieldLink RX0 9 "EffectTrain$State" "n" "I", .fieldLink RX0 46 "EffectTrain$State" "left" "[I", .fieldLink RX0 40 "EffectTrain$State" "scale" "[I", .methodLink RX0 102 Lib.Math.max.name, .static Lib.Math.max.name, .initialized "java/lang/Math", .code Lib.Math.max.name Lib.Math.max.code 2 (some .int)] ++ wsX00)
def wsX0_pass_r1 : List Cond := [Cond.fieldLink RX0 22 "EffectTrain$State" "counts" "[I", Cond.fieldLink RX0 19 "EffectTrain$State" "clock" "I", Cond.methodLink RX0 68 yX0_beginWashInTurn, Cond.instanceMethod yX0_beginWashInTurn, Cond.selects RX0 yX0_beginWashInTurn yX0_beginWashInTurn, Cond.initialized RX0, Cond.code yX0_beginWashInTurn cX0_beginWashInTurn 4 none, Cond.fieldLink RX0 15 "EffectTrain$State" "settings" "[I", Cond.fieldLink RX0 9 "EffectTrain$State" "n" "I", Cond.fieldLink RX0 40 "EffectTrain$State" "scale" "[I", Cond.fieldLink RX0 46 "EffectTrain$State" "left" "[I", Cond.methodLink RX0 80 yX0_washedEffects, Cond.instanceMethod yX0_washedEffects, Cond.selects RX0 yX0_washedEffects yX0_washedEffects, Cond.code yX0_washedEffects cX0_washedEffects 3 (some .int), Cond.methodLink RX0 71 yX0_boilAll, Cond.instanceMethod yX0_boilAll, Cond.selects RX0 yX0_boilAll yX0_boilAll, Cond.code yX0_boilAll cX0_boilAll 4 none, Cond.methodLink RX0 84 yX0_boil, Cond.instanceMethod yX0_boil, Cond.selects RX0 yX0_boil yX0_boil, Cond.code yX0_boil cX0_boil 7 (some .int), Cond.methodLink RX0 88 Lib.Math.min.name]
def wsX0_pass_r2 : List Cond := [Cond.static Lib.Math.min.name, Cond.initialized "java/lang/Math", Cond.code Lib.Math.min.name Lib.Math.min.code 2 (some .int), Cond.fieldLink RX0 28 "EffectTrain$State" "water" "[I", Cond.fieldLink RX0 37 "EffectTrain$State" "bleed" "[I", Cond.fieldLink RX0 43 "EffectTrain$State" "scaling" "[I", Cond.methodLink RX0 61 yX0_thickness, Cond.instanceMethod yX0_thickness, Cond.selects RX0 yX0_thickness yX0_thickness, Cond.code yX0_thickness cX0_thickness 3 (some .int), Cond.fieldLink RX0 31 "EffectTrain$State" "solids" "[I", Cond.methodLink RX0 65 yX0_power, Cond.instanceMethod yX0_power, Cond.selects RX0 yX0_power yX0_power, Cond.code yX0_power cX0_power 3 (some .int), Cond.fieldLink RX0 25 "EffectTrain$State" "area" "[I", Cond.methodLink RX0 74 yX0_flowOn, Cond.instanceMethod yX0_flowOn, Cond.selects RX0 yX0_flowOn yX0_flowOn, Cond.code yX0_flowOn cX0_flowOn 9 none, Cond.methodLink RX0 93 yX0_effectBehind, Cond.instanceMethod yX0_effectBehind, Cond.selects RX0 yX0_effectBehind yX0_effectBehind, Cond.code yX0_effectBehind cX0_effectBehind 3 (some .int)]
def wsX0_pass_r3 : List Cond := [Cond.methodLink RX0 96 yX0_amount, Cond.instanceMethod yX0_amount, Cond.selects RX0 yX0_amount yX0_amount, Cond.code yX0_amount cX0_amount 2 (some .int), Cond.methodLink RX0 99 yX0_flowFrom, Cond.instanceMethod yX0_flowFrom, Cond.selects RX0 yX0_flowFrom yX0_flowFrom, Cond.code yX0_flowFrom cX0_flowFrom 4 (some .int), Cond.fieldLink RX0 34 "EffectTrain$State" "valve" "[I", Cond.methodLink RX0 77 yX0_washOn, Cond.instanceMethod yX0_washOn, Cond.selects RX0 yX0_washOn yX0_washOn, Cond.code yX0_washOn cX0_washOn 2 none, Cond.methodLink RX0 102 Lib.Math.max.name, Cond.static Lib.Math.max.name, Cond.code Lib.Math.max.name Lib.Math.max.code 2 (some .int)]
def wsX0_pass : List Cond := .code yX0_pass cX0_pass 4 (some .int) :: ((wsX0_pass_r1 ++ (wsX0_pass_r2 ++ wsX0_pass_r3)) ++ wsX00)
def wsX1_init_r1 : List Cond := [Cond.methodLink RX1 3 objectInit, Cond.instanceMethod objectInit, Cond.code objectInit ⟨#[0xb1]⟩ 1 none, Cond.arrayClass .char, Cond.fieldLink RX1 9 "EffectTrain" "text" "[C", Cond.fieldLink RX1 13 "EffectTrain" "textLength" "I", Cond.arrayClass .int, Cond.fieldLink RX1 17 "EffectTrain" "textNumbers" "[I", Cond.classLink RX1 21 RX0, Cond.instantiable RX0 12, Cond.initialized RX0, Cond.fieldLink RX1 24 "EffectTrain" "now" "LEffectTrain$State;", Cond.fieldLink RX1 28 "EffectTrain" "trial" "LEffectTrain$State;", Cond.fieldLink RX1 31 "EffectTrain" "turnStates" "[LEffectTrain$State;", Cond.fieldLink RX1 35 "EffectTrain" "remembered" "[LEffectTrain$State;", Cond.fieldLink RX1 38 "EffectTrain" "newest" "I", Cond.fieldLink RX1 41 "EffectTrain" "rememberedCount" "I", Cond.fieldLink RX1 44 "EffectTrain" "slots" "[LEffectTrain$State;", Cond.arrayClass .boolean, Cond.fieldLink RX1 47 "EffectTrain" "slotFilled" "[Z", Cond.instanceMethod yX0_init, Cond.code yX0_init cX0_init 1 none, Cond.methodLink RX0 3 objectInit, Cond.fieldLink RX0 9 "EffectTrain$State" "n" "I"]
def wsX1_init_r2 : List Cond := [Cond.fieldLink RX0 15 "EffectTrain$State" "settings" "[I", Cond.fieldLink RX0 19 "EffectTrain$State" "clock" "I", Cond.fieldLink RX0 22 "EffectTrain$State" "counts" "[I", Cond.fieldLink RX0 25 "EffectTrain$State" "area" "[I", Cond.fieldLink RX0 28 "EffectTrain$State" "water" "[I", Cond.fieldLink RX0 31 "EffectTrain$State" "solids" "[I", Cond.fieldLink RX0 34 "EffectTrain$State" "valve" "[I", Cond.fieldLink RX0 37 "EffectTrain$State" "bleed" "[I", Cond.fieldLink RX0 40 "EffectTrain$State" "scale" "[I", Cond.fieldLink RX0 43 "EffectTrain$State" "scaling" "[I", Cond.fieldLink RX0 46 "EffectTrain$State" "left" "[I", Cond.methodLink RX0 49 yJ7_fill_53178, Cond.static yJ7_fill_53178, Cond.initialized RJ7, Cond.code yJ7_fill_53178 cJ7_fill_53178 4 none]
def wsX1_init : List Cond := .code yX1_init cX1_init 1 none :: ((wsX1_init_r1 ++ wsX1_init_r2) ++ wsX10 ++ wsX00)
def wsX1_checkRange : List Cond := .code yX1_checkRange cX1_checkRange 3 none :: ([.classLink RX1 179 "java/lang/IllegalArgumentException", .initialized "java/lang/IllegalArgumentException"] ++ (vx_atS RX1 183 "java/lang/IllegalArgumentException" ["java/lang/RuntimeException", "java/lang/Exception"]).filter goodWord)
def wsX1_append : List Cond := .code yX1_append cX1_append 2 (some .int) :: ([.classLink RX1 55 "java/lang/IllegalStateException", .initialized "java/lang/IllegalStateException", .fieldLink RX1 13 "EffectTrain" "textLength" "I", .fieldLink RX1 9 "EffectTrain" "text" "[C", .methodLink RX1 51 yX1_checkRange, .static yX1_checkRange, .initialized RX1, .code yX1_checkRange cX1_checkRange 3 none, .classLink RX1 179 "java/lang/IllegalArgumentException", .initialized "java/lang/IllegalArgumentException"] ++ wsX10 ++ (vx_atS RX1 59 "java/lang/IllegalStateException" ["java/lang/RuntimeException", "java/lang/Exception"]).filter goodWord ++ (vx_atS RX1 183 "java/lang/IllegalArgumentException" ["java/lang/RuntimeException", "java/lang/Exception"]).filter goodWord)
def wsX1_clearText : List Cond := .code yX1_clearText cX1_clearText 2 (some .int) :: ([.fieldLink RX1 13 "EffectTrain" "textLength" "I"] ++ wsX10)
def wsX1_numberError : List Cond := .code yX1_numberError cX1_numberError 8 (some .int) :: ([.fieldLink RX1 82 "EffectTrain" "DIGITS" "[I", .fieldLink RX1 13 "EffectTrain" "textLength" "I", .fieldLink RX1 9 "EffectTrain" "text" "[C", .fieldLink RX1 88 "EffectTrain" "GREATEST" "[I", .fieldLink RX1 91 "EffectTrain" "LEAST" "[I"] ++ wsX10)
def wsX1_numberAt : List Cond := .code yX1_numberAt cX1_numberAt 5 (some .int) :: ([.fieldLink RX1 13 "EffectTrain" "textLength" "I", .fieldLink RX1 9 "EffectTrain" "text" "[C"] ++ wsX10)
def wsX1_readText : List Cond := .code yX1_readText cX1_readText 6 (some .int) :: ([.fieldLink RX1 13 "EffectTrain" "textLength" "I", .fieldLink RX1 9 "EffectTrain" "text" "[C", .fieldLink RX1 17 "EffectTrain" "textNumbers" "[I", .fieldLink RX1 82 "EffectTrain" "DIGITS" "[I", .methodLink RX1 78 yX1_numberError, .instanceMethod yX1_numberError, .selects RX1 yX1_numberError yX1_numberError, .initialized RX1, .code yX1_numberError cX1_numberError 8 (some .int), .fieldLink RX1 88 "EffectTrain" "GREATEST" "[I", .fieldLink RX1 91 "EffectTrain" "LEAST" "[I", .methodLink RX1 85 yX1_numberAt, .instanceMethod yX1_numberAt, .selects RX1 yX1_numberAt yX1_numberAt, .code yX1_numberAt cX1_numberAt 5 (some .int)] ++ wsX10)
def wsX1_errorPosition : List Cond := .code yX1_errorPosition cX1_errorPosition 1 (some .int) :: ([.methodLink RX1 62 yX1_readText, .instanceMethod yX1_readText, .selects RX1 yX1_readText yX1_readText, .initialized RX1, .code yX1_readText cX1_readText 6 (some .int), .fieldLink RX1 13 "EffectTrain" "textLength" "I", .fieldLink RX1 9 "EffectTrain" "text" "[C", .fieldLink RX1 17 "EffectTrain" "textNumbers" "[I", .fieldLink RX1 82 "EffectTrain" "DIGITS" "[I", .methodLink RX1 78 yX1_numberError, .instanceMethod yX1_numberError, .selects RX1 yX1_numberError yX1_numberError, .code yX1_numberError cX1_numberError 8 (some .int), .fieldLink RX1 88 "EffectTrain" "GREATEST" "[I", .fieldLink RX1 91 "EffectTrain" "LEAST" "[I", .methodLink RX1 85 yX1_numberAt, .instanceMethod yX1_numberAt, .selects RX1 yX1_numberAt yX1_numberAt, .code yX1_numberAt cX1_numberAt 5 (some .int)] ++ wsX10)
def wsX1_load_r1 : List Cond := [Cond.classLink RX1 55 "java/lang/IllegalStateException", Cond.initialized "java/lang/IllegalStateException", Cond.fieldLink RX1 24 "EffectTrain" "now" "LEffectTrain$State;", Cond.fieldLink RX1 17 "EffectTrain" "textNumbers" "[I", Cond.fieldLink RX1 41 "EffectTrain" "rememberedCount" "I", Cond.fieldLink RX1 47 "EffectTrain" "slotFilled" "[Z", Cond.methodLink RX1 62 yX1_readText, Cond.instanceMethod yX1_readText, Cond.selects RX1 yX1_readText yX1_readText, Cond.initialized RX1, Cond.code yX1_readText cX1_readText 6 (some .int), Cond.fieldLink RX1 13 "EffectTrain" "textLength" "I", Cond.fieldLink RX1 9 "EffectTrain" "text" "[C", Cond.fieldLink RX1 82 "EffectTrain" "DIGITS" "[I", Cond.methodLink RX1 78 yX1_numberError, Cond.instanceMethod yX1_numberError, Cond.selects RX1 yX1_numberError yX1_numberError, Cond.code yX1_numberError cX1_numberError 8 (some .int), Cond.fieldLink RX1 88 "EffectTrain" "GREATEST" "[I", Cond.fieldLink RX1 91 "EffectTrain" "LEAST" "[I", Cond.methodLink RX1 85 yX1_numberAt, Cond.instanceMethod yX1_numberAt, Cond.selects RX1 yX1_numberAt yX1_numberAt, Cond.code yX1_numberAt cX1_numberAt 5 (some .int)]
def wsX1_load_r2 : List Cond := [Cond.instanceMethod yX0_takeNumbers, Cond.initialized RX0, Cond.selects RX0 yX0_takeNumbers yX0_takeNumbers, Cond.code yX0_takeNumbers cX0_takeNumbers 4 none, Cond.fieldLink RX0 9 "EffectTrain$State" "n" "I", Cond.fieldLink RX0 15 "EffectTrain$State" "settings" "[I", Cond.methodLink RX0 55 arraycopyName, Cond.native arraycopyName, Cond.static arraycopyName, Cond.initialized "java/lang/System", Cond.fieldLink RX0 19 "EffectTrain$State" "clock" "I", Cond.fieldLink RX0 22 "EffectTrain$State" "counts" "[I", Cond.fieldLink RX0 43 "EffectTrain$State" "scaling" "[I", Cond.fieldLink RX0 46 "EffectTrain$State" "left" "[I", Cond.fieldLink RX0 25 "EffectTrain$State" "area" "[I", Cond.fieldLink RX0 28 "EffectTrain$State" "water" "[I", Cond.fieldLink RX0 31 "EffectTrain$State" "solids" "[I", Cond.fieldLink RX0 34 "EffectTrain$State" "valve" "[I", Cond.fieldLink RX0 37 "EffectTrain$State" "bleed" "[I", Cond.fieldLink RX0 40 "EffectTrain$State" "scale" "[I", Cond.methodLink RX0 49 yJ7_fill_53178, Cond.static yJ7_fill_53178, Cond.initialized RJ7, Cond.code yJ7_fill_53178 cJ7_fill_53178 4 none]
def wsX1_load_r3 : List Cond := [Cond.instanceMethod yX0_allWater, Cond.selects RX0 yX0_allWater yX0_allWater, Cond.code yX0_allWater cX0_allWater 3 (some .int), Cond.instanceMethod yX0_allSolids, Cond.selects RX0 yX0_allSolids yX0_allSolids, Cond.code yX0_allSolids cX0_allSolids 3 (some .int)]
def wsX1_load : List Cond := .code yX1_load cX1_load 2 (some .int) :: ((wsX1_load_r1 ++ (wsX1_load_r2 ++ wsX1_load_r3)) ++ wsX10 ++ wsX00 ++ (vx_atS RX1 59 "java/lang/IllegalStateException" ["java/lang/RuntimeException", "java/lang/Exception"]).filter goodWord)
def wsX1_about : List Cond := .code yX1_about cX1_about 2 (some .int) :: ([.fieldLink RX1 24 "EffectTrain" "now" "LEffectTrain$State;", .methodLink RX1 51 yX1_checkRange, .static yX1_checkRange, .initialized RX1, .code yX1_checkRange cX1_checkRange 3 none, .classLink RX1 179 "java/lang/IllegalArgumentException", .initialized "java/lang/IllegalArgumentException", .instanceMethod yX0_washedEffects, .initialized RX0, .selects RX0 yX0_washedEffects yX0_washedEffects, .code yX0_washedEffects cX0_washedEffects 3 (some .int), .fieldLink RX0 9 "EffectTrain$State" "n" "I", .fieldLink RX0 46 "EffectTrain$State" "left" "[I", .instanceMethod yX0_allWater, .selects RX0 yX0_allWater yX0_allWater, .code yX0_allWater cX0_allWater 3 (some .int), .fieldLink RX0 28 "EffectTrain$State" "water" "[I", .instanceMethod yX0_allSolids, .selects RX0 yX0_allSolids yX0_allSolids, .code yX0_allSolids cX0_allSolids 3 (some .int), .fieldLink RX0 31 "EffectTrain$State" "solids" "[I"] ++ wsX10 ++ wsX00 ++ (vx_atS RX1 183 "java/lang/IllegalArgumentException" ["java/lang/RuntimeException", "java/lang/Exception"]).filter goodWord)
def wsX1_total : List Cond := .code yX1_total cX1_total 2 (some .int) :: ([.fieldLink RX1 24 "EffectTrain" "now" "LEffectTrain$State;", .methodLink RX1 51 yX1_checkRange, .static yX1_checkRange, .initialized RX1, .code yX1_checkRange cX1_checkRange 3 none, .classLink RX1 179 "java/lang/IllegalArgumentException", .initialized "java/lang/IllegalArgumentException"] ++ wsX10 ++ wsX00 ++ (vx_atS RX1 183 "java/lang/IllegalArgumentException" ["java/lang/RuntimeException", "java/lang/Exception"]).filter goodWord)
def wsX1_checkEffect : List Cond := .code yX1_checkEffect cX1_checkEffect 2 none :: ([.classLink RX1 211 "java/lang/IndexOutOfBoundsException", .initialized "java/lang/IndexOutOfBoundsException", .fieldLink RX1 24 "EffectTrain" "now" "LEffectTrain$State;"] ++ wsX10 ++ wsX00 ++ (vx_atS RX1 215 "java/lang/IndexOutOfBoundsException" ["java/lang/RuntimeException", "java/lang/Exception"]).filter goodWord)
def wsX1_effect_r1 : List Cond := [Cond.fieldLink RX1 24 "EffectTrain" "now" "LEffectTrain$State;", Cond.methodLink RX1 109 yX1_checkEffect, Cond.instanceMethod yX1_checkEffect, Cond.selects RX1 yX1_checkEffect yX1_checkEffect, Cond.initialized RX1, Cond.code yX1_checkEffect cX1_checkEffect 2 none, Cond.classLink RX1 211 "java/lang/IndexOutOfBoundsException", Cond.initialized "java/lang/IndexOutOfBoundsException", Cond.methodLink RX1 51 yX1_checkRange, Cond.static yX1_checkRange, Cond.code yX1_checkRange cX1_checkRange 3 none, Cond.classLink RX1 179 "java/lang/IllegalArgumentException", Cond.initialized "java/lang/IllegalArgumentException", Cond.instanceMethod yX0_numberOf, Cond.initialized RX0, Cond.selects RX0 yX0_numberOf yX0_numberOf, Cond.code yX0_numberOf cX0_numberOf 3 (some .int), Cond.fieldLink RX0 25 "EffectTrain$State" "area" "[I", Cond.fieldLink RX0 28 "EffectTrain$State" "water" "[I", Cond.fieldLink RX0 31 "EffectTrain$State" "solids" "[I", Cond.fieldLink RX0 34 "EffectTrain$State" "valve" "[I", Cond.fieldLink RX0 37 "EffectTrain$State" "bleed" "[I", Cond.fieldLink RX0 40 "EffectTrain$State" "scale" "[I", Cond.fieldLink RX0 43 "EffectTrain$State" "scaling" "[I"]
def wsX1_effect_r2 : List Cond := [Cond.fieldLink RX0 46 "EffectTrain$State" "left" "[I", Cond.methodLink RX0 61 yX0_thickness, Cond.instanceMethod yX0_thickness, Cond.selects RX0 yX0_thickness yX0_thickness, Cond.code yX0_thickness cX0_thickness 3 (some .int), Cond.methodLink RX0 65 yX0_power, Cond.instanceMethod yX0_power, Cond.selects RX0 yX0_power yX0_power, Cond.code yX0_power cX0_power 3 (some .int)]
def wsX1_effect : List Cond := .code yX1_effect cX1_effect 3 (some .int) :: ((wsX1_effect_r1 ++ wsX1_effect_r2) ++ wsX10 ++ wsX00 ++ (vx_atS RX1 215 "java/lang/IndexOutOfBoundsException" ["java/lang/RuntimeException", "java/lang/Exception"]).filter goodWord ++ (vx_atS RX1 183 "java/lang/IllegalArgumentException" ["java/lang/RuntimeException", "java/lang/Exception"]).filter goodWord)
def wsX1_neighbor : List Cond := .code yX1_neighbor cX1_neighbor 3 (some .int) :: ([.fieldLink RX1 24 "EffectTrain" "now" "LEffectTrain$State;", .methodLink RX1 109 yX1_checkEffect, .instanceMethod yX1_checkEffect, .selects RX1 yX1_checkEffect yX1_checkEffect, .initialized RX1, .code yX1_checkEffect cX1_checkEffect 2 none, .classLink RX1 211 "java/lang/IndexOutOfBoundsException", .initialized "java/lang/IndexOutOfBoundsException", .instanceMethod yX0_effectBehind, .initialized RX0, .selects RX0 yX0_effectBehind yX0_effectBehind, .code yX0_effectBehind cX0_effectBehind 3 (some .int), .fieldLink RX0 9 "EffectTrain$State" "n" "I", .fieldLink RX0 46 "EffectTrain$State" "left" "[I", .instanceMethod yX0_effectBefore, .selects RX0 yX0_effectBefore yX0_effectBefore, .code yX0_effectBefore cX0_effectBefore 3 (some .int)] ++ wsX10 ++ wsX00 ++ (vx_atS RX1 215 "java/lang/IndexOutOfBoundsException" ["java/lang/RuntimeException", "java/lang/Exception"]).filter goodWord)
def wsX1_economy : List Cond := .code yX1_economy cX1_economy 2 (some .float) :: ([.fieldLink RX1 24 "EffectTrain" "now" "LEffectTrain$State;"] ++ wsX10 ++ wsX00)
def wsX1_share : List Cond := .code yX1_share cX1_share 3 (some .float) :: ([.fieldLink RX1 24 "EffectTrain" "now" "LEffectTrain$State;", .methodLink RX1 109 yX1_checkEffect, .instanceMethod yX1_checkEffect, .selects RX1 yX1_checkEffect yX1_checkEffect, .initialized RX1, .code yX1_checkEffect cX1_checkEffect 2 none, .classLink RX1 211 "java/lang/IndexOutOfBoundsException", .initialized "java/lang/IndexOutOfBoundsException", .instanceMethod yX0_amount, .initialized RX0, .selects RX0 yX0_amount yX0_amount, .code yX0_amount cX0_amount 2 (some .int), .fieldLink RX0 28 "EffectTrain$State" "water" "[I", .fieldLink RX0 31 "EffectTrain$State" "solids" "[I"] ++ wsX10 ++ wsX00 ++ (vx_atS RX1 215 "java/lang/IndexOutOfBoundsException" ["java/lang/RuntimeException", "java/lang/Exception"]).filter goodWord)
def wsX1_stateAt_r1 : List Cond := [Cond.classLink RX1 21 RX0, Cond.instantiable RX0 12, Cond.initialized RX0, Cond.instanceMethod yX0_init, Cond.code yX0_init cX0_init 1 none, Cond.methodLink RX0 3 objectInit, Cond.instanceMethod objectInit, Cond.code objectInit ⟨#[0xb1]⟩ 1 none, Cond.fieldLink RX0 9 "EffectTrain$State" "n" "I", Cond.arrayClass .int, Cond.fieldLink RX0 15 "EffectTrain$State" "settings" "[I", Cond.fieldLink RX0 19 "EffectTrain$State" "clock" "I", Cond.fieldLink RX0 22 "EffectTrain$State" "counts" "[I", Cond.fieldLink RX0 25 "EffectTrain$State" "area" "[I", Cond.fieldLink RX0 28 "EffectTrain$State" "water" "[I", Cond.fieldLink RX0 31 "EffectTrain$State" "solids" "[I", Cond.fieldLink RX0 34 "EffectTrain$State" "valve" "[I", Cond.fieldLink RX0 37 "EffectTrain$State" "bleed" "[I", Cond.fieldLink RX0 40 "EffectTrain$State" "scale" "[I", Cond.fieldLink RX0 43 "EffectTrain$State" "scaling" "[I", Cond.fieldLink RX0 46 "EffectTrain$State" "left" "[I", Cond.methodLink RX0 49 yJ7_fill_53178, Cond.static yJ7_fill_53178, Cond.initialized RJ7]
def wsX1_stateAt_r2 : List Cond := [Cond.code yJ7_fill_53178 cJ7_fill_53178 4 none]
def wsX1_stateAt : List Cond := .code yX1_stateAt cX1_stateAt 3 (some (.object "EffectTrain$State")) :: ((wsX1_stateAt_r1 ++ wsX1_stateAt_r2) ++ wsX00)
def wsX1_remember_r1 : List Cond := [Cond.fieldLink RX1 38 "EffectTrain" "newest" "I", Cond.fieldLink RX1 35 "EffectTrain" "remembered" "[LEffectTrain$State;", Cond.fieldLink RX1 24 "EffectTrain" "now" "LEffectTrain$State;", Cond.fieldLink RX1 41 "EffectTrain" "rememberedCount" "I", Cond.methodLink RX1 151 yX1_stateAt, Cond.static yX1_stateAt, Cond.initialized RX1, Cond.code yX1_stateAt cX1_stateAt 3 (some (.object "EffectTrain$State")), Cond.classLink RX1 21 RX0, Cond.instantiable RX0 12, Cond.initialized RX0, Cond.instanceMethod yX0_init, Cond.code yX0_init cX0_init 1 none, Cond.methodLink RX0 3 objectInit, Cond.instanceMethod objectInit, Cond.code objectInit ⟨#[0xb1]⟩ 1 none, Cond.fieldLink RX0 9 "EffectTrain$State" "n" "I", Cond.arrayClass .int, Cond.fieldLink RX0 15 "EffectTrain$State" "settings" "[I", Cond.fieldLink RX0 19 "EffectTrain$State" "clock" "I", Cond.fieldLink RX0 22 "EffectTrain$State" "counts" "[I", Cond.fieldLink RX0 25 "EffectTrain$State" "area" "[I", Cond.fieldLink RX0 28 "EffectTrain$State" "water" "[I", Cond.fieldLink RX0 31 "EffectTrain$State" "solids" "[I"]
def wsX1_remember_r2 : List Cond := [Cond.fieldLink RX0 34 "EffectTrain$State" "valve" "[I", Cond.fieldLink RX0 37 "EffectTrain$State" "bleed" "[I", Cond.fieldLink RX0 40 "EffectTrain$State" "scale" "[I", Cond.fieldLink RX0 43 "EffectTrain$State" "scaling" "[I", Cond.fieldLink RX0 46 "EffectTrain$State" "left" "[I", Cond.methodLink RX0 49 yJ7_fill_53178, Cond.static yJ7_fill_53178, Cond.initialized RJ7, Cond.code yJ7_fill_53178 cJ7_fill_53178 4 none, Cond.instanceMethod yX0_copyFrom, Cond.selects RX0 yX0_copyFrom yX0_copyFrom, Cond.code yX0_copyFrom cX0_copyFrom 2 none, Cond.methodLink RX0 55 arraycopyName, Cond.native arraycopyName, Cond.static arraycopyName, Cond.initialized "java/lang/System"]
def wsX1_remember : List Cond := .code yX1_remember cX1_remember 1 none :: ((wsX1_remember_r1 ++ wsX1_remember_r2) ++ wsX10 ++ wsX00)
def wsX1_tick_r1 : List Cond := [Cond.fieldLink RX1 24 "EffectTrain" "now" "LEffectTrain$State;", Cond.methodLink RX1 51 yX1_checkRange, Cond.static yX1_checkRange, Cond.initialized RX1, Cond.code yX1_checkRange cX1_checkRange 3 none, Cond.classLink RX1 179 "java/lang/IllegalArgumentException", Cond.initialized "java/lang/IllegalArgumentException", Cond.methodLink RX1 129 yX1_remember, Cond.instanceMethod yX1_remember, Cond.selects RX1 yX1_remember yX1_remember, Cond.code yX1_remember cX1_remember 1 none, Cond.fieldLink RX1 38 "EffectTrain" "newest" "I", Cond.fieldLink RX1 35 "EffectTrain" "remembered" "[LEffectTrain$State;", Cond.fieldLink RX1 41 "EffectTrain" "rememberedCount" "I", Cond.methodLink RX1 151 yX1_stateAt, Cond.static yX1_stateAt, Cond.code yX1_stateAt cX1_stateAt 3 (some (.object "EffectTrain$State")), Cond.classLink RX1 21 RX0, Cond.instantiable RX0 12, Cond.initialized RX0, Cond.instanceMethod yX0_init, Cond.code yX0_init cX0_init 1 none, Cond.methodLink RX0 3 objectInit, Cond.instanceMethod objectInit]
def wsX1_tick_r2 : List Cond := [Cond.code objectInit ⟨#[0xb1]⟩ 1 none, Cond.fieldLink RX0 9 "EffectTrain$State" "n" "I", Cond.arrayClass .int, Cond.fieldLink RX0 15 "EffectTrain$State" "settings" "[I", Cond.fieldLink RX0 19 "EffectTrain$State" "clock" "I", Cond.fieldLink RX0 22 "EffectTrain$State" "counts" "[I", Cond.fieldLink RX0 25 "EffectTrain$State" "area" "[I", Cond.fieldLink RX0 28 "EffectTrain$State" "water" "[I", Cond.fieldLink RX0 31 "EffectTrain$State" "solids" "[I", Cond.fieldLink RX0 34 "EffectTrain$State" "valve" "[I", Cond.fieldLink RX0 37 "EffectTrain$State" "bleed" "[I", Cond.fieldLink RX0 40 "EffectTrain$State" "scale" "[I", Cond.fieldLink RX0 43 "EffectTrain$State" "scaling" "[I", Cond.fieldLink RX0 46 "EffectTrain$State" "left" "[I", Cond.methodLink RX0 49 yJ7_fill_53178, Cond.static yJ7_fill_53178, Cond.initialized RJ7, Cond.code yJ7_fill_53178 cJ7_fill_53178 4 none, Cond.instanceMethod yX0_copyFrom, Cond.selects RX0 yX0_copyFrom yX0_copyFrom, Cond.code yX0_copyFrom cX0_copyFrom 2 none, Cond.methodLink RX0 55 arraycopyName, Cond.native arraycopyName, Cond.static arraycopyName]
def wsX1_tick_r3 : List Cond := [Cond.initialized "java/lang/System", Cond.instanceMethod yX0_pass, Cond.selects RX0 yX0_pass yX0_pass, Cond.code yX0_pass cX0_pass 4 (some .int), Cond.methodLink RX0 68 yX0_beginWashInTurn, Cond.instanceMethod yX0_beginWashInTurn, Cond.selects RX0 yX0_beginWashInTurn yX0_beginWashInTurn, Cond.code yX0_beginWashInTurn cX0_beginWashInTurn 4 none, Cond.methodLink RX0 80 yX0_washedEffects, Cond.instanceMethod yX0_washedEffects, Cond.selects RX0 yX0_washedEffects yX0_washedEffects, Cond.code yX0_washedEffects cX0_washedEffects 3 (some .int), Cond.methodLink RX0 71 yX0_boilAll, Cond.instanceMethod yX0_boilAll, Cond.selects RX0 yX0_boilAll yX0_boilAll, Cond.code yX0_boilAll cX0_boilAll 4 none, Cond.methodLink RX0 84 yX0_boil, Cond.instanceMethod yX0_boil, Cond.selects RX0 yX0_boil yX0_boil, Cond.code yX0_boil cX0_boil 7 (some .int), Cond.methodLink RX0 88 Lib.Math.min.name, Cond.static Lib.Math.min.name, Cond.initialized "java/lang/Math", Cond.code Lib.Math.min.name Lib.Math.min.code 2 (some .int)]
def wsX1_tick_r4 : List Cond := [Cond.methodLink RX0 61 yX0_thickness, Cond.instanceMethod yX0_thickness, Cond.selects RX0 yX0_thickness yX0_thickness, Cond.code yX0_thickness cX0_thickness 3 (some .int), Cond.methodLink RX0 65 yX0_power, Cond.instanceMethod yX0_power, Cond.selects RX0 yX0_power yX0_power, Cond.code yX0_power cX0_power 3 (some .int), Cond.methodLink RX0 74 yX0_flowOn, Cond.instanceMethod yX0_flowOn, Cond.selects RX0 yX0_flowOn yX0_flowOn, Cond.code yX0_flowOn cX0_flowOn 9 none, Cond.methodLink RX0 93 yX0_effectBehind, Cond.instanceMethod yX0_effectBehind, Cond.selects RX0 yX0_effectBehind yX0_effectBehind, Cond.code yX0_effectBehind cX0_effectBehind 3 (some .int), Cond.methodLink RX0 96 yX0_amount, Cond.instanceMethod yX0_amount, Cond.selects RX0 yX0_amount yX0_amount, Cond.code yX0_amount cX0_amount 2 (some .int), Cond.methodLink RX0 99 yX0_flowFrom, Cond.instanceMethod yX0_flowFrom, Cond.selects RX0 yX0_flowFrom yX0_flowFrom, Cond.code yX0_flowFrom cX0_flowFrom 4 (some .int)]
def wsX1_tick_r5 : List Cond := [Cond.methodLink RX0 77 yX0_washOn, Cond.instanceMethod yX0_washOn, Cond.selects RX0 yX0_washOn yX0_washOn, Cond.code yX0_washOn cX0_washOn 2 none, Cond.methodLink RX0 102 Lib.Math.max.name, Cond.static Lib.Math.max.name, Cond.code Lib.Math.max.name Lib.Math.max.code 2 (some .int)]
def wsX1_tick : List Cond := .code yX1_tick cX1_tick 2 (some .int) :: ((wsX1_tick_r1 ++ (wsX1_tick_r2 ++ (wsX1_tick_r3 ++ (wsX1_tick_r4 ++ wsX1_tick_r5)))) ++ wsX10 ++ wsX00 ++ (vx_atS RX1 183 "java/lang/IllegalArgumentException" ["java/lang/RuntimeException", "java/lang/Exception"]).filter goodWord)
def wsX1_set_r1 : List Cond := [Cond.fieldLink RX1 91 "EffectTrain" "LEAST" "[I", Cond.fieldLink RX1 88 "EffectTrain" "GREATEST" "[I", Cond.fieldLink RX1 24 "EffectTrain" "now" "LEffectTrain$State;", Cond.methodLink RX1 51 yX1_checkRange, Cond.static yX1_checkRange, Cond.initialized RX1, Cond.code yX1_checkRange cX1_checkRange 3 none, Cond.classLink RX1 179 "java/lang/IllegalArgumentException", Cond.initialized "java/lang/IllegalArgumentException", Cond.methodLink RX1 129 yX1_remember, Cond.instanceMethod yX1_remember, Cond.selects RX1 yX1_remember yX1_remember, Cond.code yX1_remember cX1_remember 1 none, Cond.fieldLink RX1 38 "EffectTrain" "newest" "I", Cond.fieldLink RX1 35 "EffectTrain" "remembered" "[LEffectTrain$State;", Cond.fieldLink RX1 41 "EffectTrain" "rememberedCount" "I", Cond.methodLink RX1 151 yX1_stateAt, Cond.static yX1_stateAt, Cond.code yX1_stateAt cX1_stateAt 3 (some (.object "EffectTrain$State")), Cond.classLink RX1 21 RX0, Cond.instantiable RX0 12, Cond.initialized RX0, Cond.instanceMethod yX0_init, Cond.code yX0_init cX0_init 1 none]
def wsX1_set_r2 : List Cond := [Cond.methodLink RX0 3 objectInit, Cond.instanceMethod objectInit, Cond.code objectInit ⟨#[0xb1]⟩ 1 none, Cond.fieldLink RX0 9 "EffectTrain$State" "n" "I", Cond.arrayClass .int, Cond.fieldLink RX0 15 "EffectTrain$State" "settings" "[I", Cond.fieldLink RX0 19 "EffectTrain$State" "clock" "I", Cond.fieldLink RX0 22 "EffectTrain$State" "counts" "[I", Cond.fieldLink RX0 25 "EffectTrain$State" "area" "[I", Cond.fieldLink RX0 28 "EffectTrain$State" "water" "[I", Cond.fieldLink RX0 31 "EffectTrain$State" "solids" "[I", Cond.fieldLink RX0 34 "EffectTrain$State" "valve" "[I", Cond.fieldLink RX0 37 "EffectTrain$State" "bleed" "[I", Cond.fieldLink RX0 40 "EffectTrain$State" "scale" "[I", Cond.fieldLink RX0 43 "EffectTrain$State" "scaling" "[I", Cond.fieldLink RX0 46 "EffectTrain$State" "left" "[I", Cond.methodLink RX0 49 yJ7_fill_53178, Cond.static yJ7_fill_53178, Cond.initialized RJ7, Cond.code yJ7_fill_53178 cJ7_fill_53178 4 none, Cond.instanceMethod yX0_copyFrom, Cond.selects RX0 yX0_copyFrom yX0_copyFrom, Cond.code yX0_copyFrom cX0_copyFrom 2 none, Cond.methodLink RX0 55 arraycopyName]
def wsX1_set_r3 : List Cond := [Cond.native arraycopyName, Cond.static arraycopyName, Cond.initialized "java/lang/System"]
def wsX1_set : List Cond := .code yX1_set cX1_set 4 (some .int) :: ((wsX1_set_r1 ++ (wsX1_set_r2 ++ wsX1_set_r3)) ++ wsX10 ++ wsX00 ++ (vx_atS RX1 183 "java/lang/IllegalArgumentException" ["java/lang/RuntimeException", "java/lang/Exception"]).filter goodWord)
def wsX1_setValve_r1 : List Cond := [Cond.fieldLink RX1 24 "EffectTrain" "now" "LEffectTrain$State;", Cond.methodLink RX1 109 yX1_checkEffect, Cond.instanceMethod yX1_checkEffect, Cond.selects RX1 yX1_checkEffect yX1_checkEffect, Cond.initialized RX1, Cond.code yX1_checkEffect cX1_checkEffect 2 none, Cond.classLink RX1 211 "java/lang/IndexOutOfBoundsException", Cond.initialized "java/lang/IndexOutOfBoundsException", Cond.methodLink RX1 51 yX1_checkRange, Cond.static yX1_checkRange, Cond.code yX1_checkRange cX1_checkRange 3 none, Cond.classLink RX1 179 "java/lang/IllegalArgumentException", Cond.initialized "java/lang/IllegalArgumentException", Cond.methodLink RX1 129 yX1_remember, Cond.instanceMethod yX1_remember, Cond.selects RX1 yX1_remember yX1_remember, Cond.code yX1_remember cX1_remember 1 none, Cond.fieldLink RX1 38 "EffectTrain" "newest" "I", Cond.fieldLink RX1 35 "EffectTrain" "remembered" "[LEffectTrain$State;", Cond.fieldLink RX1 41 "EffectTrain" "rememberedCount" "I", Cond.methodLink RX1 151 yX1_stateAt, Cond.static yX1_stateAt, Cond.code yX1_stateAt cX1_stateAt 3 (some (.object "EffectTrain$State")), Cond.classLink RX1 21 RX0]
def wsX1_setValve_r2 : List Cond := [Cond.instantiable RX0 12, Cond.initialized RX0, Cond.instanceMethod yX0_init, Cond.code yX0_init cX0_init 1 none, Cond.methodLink RX0 3 objectInit, Cond.instanceMethod objectInit, Cond.code objectInit ⟨#[0xb1]⟩ 1 none, Cond.fieldLink RX0 9 "EffectTrain$State" "n" "I", Cond.arrayClass .int, Cond.fieldLink RX0 15 "EffectTrain$State" "settings" "[I", Cond.fieldLink RX0 19 "EffectTrain$State" "clock" "I", Cond.fieldLink RX0 22 "EffectTrain$State" "counts" "[I", Cond.fieldLink RX0 25 "EffectTrain$State" "area" "[I", Cond.fieldLink RX0 28 "EffectTrain$State" "water" "[I", Cond.fieldLink RX0 31 "EffectTrain$State" "solids" "[I", Cond.fieldLink RX0 34 "EffectTrain$State" "valve" "[I", Cond.fieldLink RX0 37 "EffectTrain$State" "bleed" "[I", Cond.fieldLink RX0 40 "EffectTrain$State" "scale" "[I", Cond.fieldLink RX0 43 "EffectTrain$State" "scaling" "[I", Cond.fieldLink RX0 46 "EffectTrain$State" "left" "[I", Cond.methodLink RX0 49 yJ7_fill_53178, Cond.static yJ7_fill_53178, Cond.initialized RJ7, Cond.code yJ7_fill_53178 cJ7_fill_53178 4 none]
def wsX1_setValve_r3 : List Cond := [Cond.instanceMethod yX0_copyFrom, Cond.selects RX0 yX0_copyFrom yX0_copyFrom, Cond.code yX0_copyFrom cX0_copyFrom 2 none, Cond.methodLink RX0 55 arraycopyName, Cond.native arraycopyName, Cond.static arraycopyName, Cond.initialized "java/lang/System"]
def wsX1_setValve : List Cond := .code yX1_setValve cX1_setValve 4 (some .int) :: ((wsX1_setValve_r1 ++ (wsX1_setValve_r2 ++ wsX1_setValve_r3)) ++ wsX10 ++ wsX00 ++ (vx_atS RX1 215 "java/lang/IndexOutOfBoundsException" ["java/lang/RuntimeException", "java/lang/Exception"]).filter goodWord ++ (vx_atS RX1 183 "java/lang/IllegalArgumentException" ["java/lang/RuntimeException", "java/lang/Exception"]).filter goodWord)
def wsX1_setBleed_r1 : List Cond := [Cond.fieldLink RX1 24 "EffectTrain" "now" "LEffectTrain$State;", Cond.methodLink RX1 109 yX1_checkEffect, Cond.instanceMethod yX1_checkEffect, Cond.selects RX1 yX1_checkEffect yX1_checkEffect, Cond.initialized RX1, Cond.code yX1_checkEffect cX1_checkEffect 2 none, Cond.classLink RX1 211 "java/lang/IndexOutOfBoundsException", Cond.initialized "java/lang/IndexOutOfBoundsException", Cond.methodLink RX1 51 yX1_checkRange, Cond.static yX1_checkRange, Cond.code yX1_checkRange cX1_checkRange 3 none, Cond.classLink RX1 179 "java/lang/IllegalArgumentException", Cond.initialized "java/lang/IllegalArgumentException", Cond.methodLink RX1 129 yX1_remember, Cond.instanceMethod yX1_remember, Cond.selects RX1 yX1_remember yX1_remember, Cond.code yX1_remember cX1_remember 1 none, Cond.fieldLink RX1 38 "EffectTrain" "newest" "I", Cond.fieldLink RX1 35 "EffectTrain" "remembered" "[LEffectTrain$State;", Cond.fieldLink RX1 41 "EffectTrain" "rememberedCount" "I", Cond.methodLink RX1 151 yX1_stateAt, Cond.static yX1_stateAt, Cond.code yX1_stateAt cX1_stateAt 3 (some (.object "EffectTrain$State")), Cond.classLink RX1 21 RX0]
def wsX1_setBleed_r2 : List Cond := [Cond.instantiable RX0 12, Cond.initialized RX0, Cond.instanceMethod yX0_init, Cond.code yX0_init cX0_init 1 none, Cond.methodLink RX0 3 objectInit, Cond.instanceMethod objectInit, Cond.code objectInit ⟨#[0xb1]⟩ 1 none, Cond.fieldLink RX0 9 "EffectTrain$State" "n" "I", Cond.arrayClass .int, Cond.fieldLink RX0 15 "EffectTrain$State" "settings" "[I", Cond.fieldLink RX0 19 "EffectTrain$State" "clock" "I", Cond.fieldLink RX0 22 "EffectTrain$State" "counts" "[I", Cond.fieldLink RX0 25 "EffectTrain$State" "area" "[I", Cond.fieldLink RX0 28 "EffectTrain$State" "water" "[I", Cond.fieldLink RX0 31 "EffectTrain$State" "solids" "[I", Cond.fieldLink RX0 34 "EffectTrain$State" "valve" "[I", Cond.fieldLink RX0 37 "EffectTrain$State" "bleed" "[I", Cond.fieldLink RX0 40 "EffectTrain$State" "scale" "[I", Cond.fieldLink RX0 43 "EffectTrain$State" "scaling" "[I", Cond.fieldLink RX0 46 "EffectTrain$State" "left" "[I", Cond.methodLink RX0 49 yJ7_fill_53178, Cond.static yJ7_fill_53178, Cond.initialized RJ7, Cond.code yJ7_fill_53178 cJ7_fill_53178 4 none]
def wsX1_setBleed_r3 : List Cond := [Cond.instanceMethod yX0_copyFrom, Cond.selects RX0 yX0_copyFrom yX0_copyFrom, Cond.code yX0_copyFrom cX0_copyFrom 2 none, Cond.methodLink RX0 55 arraycopyName, Cond.native arraycopyName, Cond.static arraycopyName, Cond.initialized "java/lang/System"]
def wsX1_setBleed : List Cond := .code yX1_setBleed cX1_setBleed 4 (some .int) :: ((wsX1_setBleed_r1 ++ (wsX1_setBleed_r2 ++ wsX1_setBleed_r3)) ++ wsX10 ++ wsX00 ++ (vx_atS RX1 215 "java/lang/IndexOutOfBoundsException" ["java/lang/RuntimeException", "java/lang/Exception"]).filter goodWord ++ (vx_atS RX1 183 "java/lang/IllegalArgumentException" ["java/lang/RuntimeException", "java/lang/Exception"]).filter goodWord)
def wsX1_checkWorks : List Cond := .code yX1_checkWorks cX1_checkWorks 2 none :: ([.classLink RX1 55 "java/lang/IllegalStateException", .initialized "java/lang/IllegalStateException", .fieldLink RX1 24 "EffectTrain" "now" "LEffectTrain$State;"] ++ wsX10 ++ wsX00 ++ (vx_atS RX1 59 "java/lang/IllegalStateException" ["java/lang/RuntimeException", "java/lang/Exception"]).filter goodWord)
def wsX1_wash_r1 : List Cond := [Cond.fieldLink RX1 24 "EffectTrain" "now" "LEffectTrain$State;", Cond.methodLink RX1 109 yX1_checkEffect, Cond.instanceMethod yX1_checkEffect, Cond.selects RX1 yX1_checkEffect yX1_checkEffect, Cond.initialized RX1, Cond.code yX1_checkEffect cX1_checkEffect 2 none, Cond.classLink RX1 211 "java/lang/IndexOutOfBoundsException", Cond.initialized "java/lang/IndexOutOfBoundsException", Cond.methodLink RX1 51 yX1_checkRange, Cond.static yX1_checkRange, Cond.code yX1_checkRange cX1_checkRange 3 none, Cond.classLink RX1 179 "java/lang/IllegalArgumentException", Cond.initialized "java/lang/IllegalArgumentException", Cond.methodLink RX1 141 yX1_checkWorks, Cond.instanceMethod yX1_checkWorks, Cond.selects RX1 yX1_checkWorks yX1_checkWorks, Cond.code yX1_checkWorks cX1_checkWorks 2 none, Cond.classLink RX1 55 "java/lang/IllegalStateException", Cond.initialized "java/lang/IllegalStateException", Cond.methodLink RX1 129 yX1_remember, Cond.instanceMethod yX1_remember, Cond.selects RX1 yX1_remember yX1_remember, Cond.code yX1_remember cX1_remember 1 none, Cond.fieldLink RX1 38 "EffectTrain" "newest" "I"]
def wsX1_wash_r2 : List Cond := [Cond.fieldLink RX1 35 "EffectTrain" "remembered" "[LEffectTrain$State;", Cond.fieldLink RX1 41 "EffectTrain" "rememberedCount" "I", Cond.methodLink RX1 151 yX1_stateAt, Cond.static yX1_stateAt, Cond.code yX1_stateAt cX1_stateAt 3 (some (.object "EffectTrain$State")), Cond.classLink RX1 21 RX0, Cond.instantiable RX0 12, Cond.initialized RX0, Cond.instanceMethod yX0_init, Cond.code yX0_init cX0_init 1 none, Cond.methodLink RX0 3 objectInit, Cond.instanceMethod objectInit, Cond.code objectInit ⟨#[0xb1]⟩ 1 none, Cond.fieldLink RX0 9 "EffectTrain$State" "n" "I", Cond.arrayClass .int, Cond.fieldLink RX0 15 "EffectTrain$State" "settings" "[I", Cond.fieldLink RX0 19 "EffectTrain$State" "clock" "I", Cond.fieldLink RX0 22 "EffectTrain$State" "counts" "[I", Cond.fieldLink RX0 25 "EffectTrain$State" "area" "[I", Cond.fieldLink RX0 28 "EffectTrain$State" "water" "[I", Cond.fieldLink RX0 31 "EffectTrain$State" "solids" "[I", Cond.fieldLink RX0 34 "EffectTrain$State" "valve" "[I", Cond.fieldLink RX0 37 "EffectTrain$State" "bleed" "[I", Cond.fieldLink RX0 40 "EffectTrain$State" "scale" "[I"]
def wsX1_wash_r3 : List Cond := [Cond.fieldLink RX0 43 "EffectTrain$State" "scaling" "[I", Cond.fieldLink RX0 46 "EffectTrain$State" "left" "[I", Cond.methodLink RX0 49 yJ7_fill_53178, Cond.static yJ7_fill_53178, Cond.initialized RJ7, Cond.code yJ7_fill_53178 cJ7_fill_53178 4 none, Cond.instanceMethod yX0_copyFrom, Cond.selects RX0 yX0_copyFrom yX0_copyFrom, Cond.code yX0_copyFrom cX0_copyFrom 2 none, Cond.methodLink RX0 55 arraycopyName, Cond.native arraycopyName, Cond.static arraycopyName, Cond.initialized "java/lang/System", Cond.instanceMethod yX0_washedEffects, Cond.selects RX0 yX0_washedEffects yX0_washedEffects, Cond.code yX0_washedEffects cX0_washedEffects 3 (some .int)]
def wsX1_wash : List Cond := .code yX1_wash cX1_wash 3 (some .int) :: ((wsX1_wash_r1 ++ (wsX1_wash_r2 ++ wsX1_wash_r3)) ++ wsX10 ++ wsX00 ++ (vx_atS RX1 215 "java/lang/IndexOutOfBoundsException" ["java/lang/RuntimeException", "java/lang/Exception"]).filter goodWord ++ (vx_atS RX1 183 "java/lang/IllegalArgumentException" ["java/lang/RuntimeException", "java/lang/Exception"]).filter goodWord ++ (vx_atS RX1 59 "java/lang/IllegalStateException" ["java/lang/RuntimeException", "java/lang/Exception"]).filter goodWord)
def wsX1_endWash_r1 : List Cond := [Cond.classLink RX1 55 "java/lang/IllegalStateException", Cond.initialized "java/lang/IllegalStateException", Cond.fieldLink RX1 24 "EffectTrain" "now" "LEffectTrain$State;", Cond.methodLink RX1 109 yX1_checkEffect, Cond.instanceMethod yX1_checkEffect, Cond.selects RX1 yX1_checkEffect yX1_checkEffect, Cond.initialized RX1, Cond.code yX1_checkEffect cX1_checkEffect 2 none, Cond.classLink RX1 211 "java/lang/IndexOutOfBoundsException", Cond.initialized "java/lang/IndexOutOfBoundsException", Cond.methodLink RX1 129 yX1_remember, Cond.instanceMethod yX1_remember, Cond.selects RX1 yX1_remember yX1_remember, Cond.code yX1_remember cX1_remember 1 none, Cond.fieldLink RX1 38 "EffectTrain" "newest" "I", Cond.fieldLink RX1 35 "EffectTrain" "remembered" "[LEffectTrain$State;", Cond.fieldLink RX1 41 "EffectTrain" "rememberedCount" "I", Cond.methodLink RX1 151 yX1_stateAt, Cond.static yX1_stateAt, Cond.code yX1_stateAt cX1_stateAt 3 (some (.object "EffectTrain$State")), Cond.classLink RX1 21 RX0, Cond.instantiable RX0 12, Cond.initialized RX0, Cond.instanceMethod yX0_init]
def wsX1_endWash_r2 : List Cond := [Cond.code yX0_init cX0_init 1 none, Cond.methodLink RX0 3 objectInit, Cond.instanceMethod objectInit, Cond.code objectInit ⟨#[0xb1]⟩ 1 none, Cond.fieldLink RX0 9 "EffectTrain$State" "n" "I", Cond.arrayClass .int, Cond.fieldLink RX0 15 "EffectTrain$State" "settings" "[I", Cond.fieldLink RX0 19 "EffectTrain$State" "clock" "I", Cond.fieldLink RX0 22 "EffectTrain$State" "counts" "[I", Cond.fieldLink RX0 25 "EffectTrain$State" "area" "[I", Cond.fieldLink RX0 28 "EffectTrain$State" "water" "[I", Cond.fieldLink RX0 31 "EffectTrain$State" "solids" "[I", Cond.fieldLink RX0 34 "EffectTrain$State" "valve" "[I", Cond.fieldLink RX0 37 "EffectTrain$State" "bleed" "[I", Cond.fieldLink RX0 40 "EffectTrain$State" "scale" "[I", Cond.fieldLink RX0 43 "EffectTrain$State" "scaling" "[I", Cond.fieldLink RX0 46 "EffectTrain$State" "left" "[I", Cond.methodLink RX0 49 yJ7_fill_53178, Cond.static yJ7_fill_53178, Cond.initialized RJ7, Cond.code yJ7_fill_53178 cJ7_fill_53178 4 none, Cond.instanceMethod yX0_copyFrom, Cond.selects RX0 yX0_copyFrom yX0_copyFrom, Cond.code yX0_copyFrom cX0_copyFrom 2 none]
def wsX1_endWash_r3 : List Cond := [Cond.methodLink RX0 55 arraycopyName, Cond.native arraycopyName, Cond.static arraycopyName, Cond.initialized "java/lang/System"]
def wsX1_endWash : List Cond := .code yX1_endWash cX1_endWash 3 (some .int) :: ((wsX1_endWash_r1 ++ (wsX1_endWash_r2 ++ wsX1_endWash_r3)) ++ wsX10 ++ wsX00 ++ (vx_atS RX1 59 "java/lang/IllegalStateException" ["java/lang/RuntimeException", "java/lang/Exception"]).filter goodWord ++ (vx_atS RX1 215 "java/lang/IndexOutOfBoundsException" ["java/lang/RuntimeException", "java/lang/Exception"]).filter goodWord)
def wsX1_undo_r1 : List Cond := [Cond.classLink RX1 55 "java/lang/IllegalStateException", Cond.initialized "java/lang/IllegalStateException", Cond.fieldLink RX1 41 "EffectTrain" "rememberedCount" "I", Cond.fieldLink RX1 24 "EffectTrain" "now" "LEffectTrain$State;", Cond.fieldLink RX1 35 "EffectTrain" "remembered" "[LEffectTrain$State;", Cond.fieldLink RX1 38 "EffectTrain" "newest" "I", Cond.methodLink RX1 151 yX1_stateAt, Cond.static yX1_stateAt, Cond.initialized RX1, Cond.code yX1_stateAt cX1_stateAt 3 (some (.object "EffectTrain$State")), Cond.classLink RX1 21 RX0, Cond.instantiable RX0 12, Cond.initialized RX0, Cond.instanceMethod yX0_init, Cond.code yX0_init cX0_init 1 none, Cond.methodLink RX0 3 objectInit, Cond.instanceMethod objectInit, Cond.code objectInit ⟨#[0xb1]⟩ 1 none, Cond.fieldLink RX0 9 "EffectTrain$State" "n" "I", Cond.arrayClass .int, Cond.fieldLink RX0 15 "EffectTrain$State" "settings" "[I", Cond.fieldLink RX0 19 "EffectTrain$State" "clock" "I", Cond.fieldLink RX0 22 "EffectTrain$State" "counts" "[I", Cond.fieldLink RX0 25 "EffectTrain$State" "area" "[I"]
def wsX1_undo_r2 : List Cond := [Cond.fieldLink RX0 28 "EffectTrain$State" "water" "[I", Cond.fieldLink RX0 31 "EffectTrain$State" "solids" "[I", Cond.fieldLink RX0 34 "EffectTrain$State" "valve" "[I", Cond.fieldLink RX0 37 "EffectTrain$State" "bleed" "[I", Cond.fieldLink RX0 40 "EffectTrain$State" "scale" "[I", Cond.fieldLink RX0 43 "EffectTrain$State" "scaling" "[I", Cond.fieldLink RX0 46 "EffectTrain$State" "left" "[I", Cond.methodLink RX0 49 yJ7_fill_53178, Cond.static yJ7_fill_53178, Cond.initialized RJ7, Cond.code yJ7_fill_53178 cJ7_fill_53178 4 none, Cond.instanceMethod yX0_copyFrom, Cond.selects RX0 yX0_copyFrom yX0_copyFrom, Cond.code yX0_copyFrom cX0_copyFrom 2 none, Cond.methodLink RX0 55 arraycopyName, Cond.native arraycopyName, Cond.static arraycopyName, Cond.initialized "java/lang/System"]
def wsX1_undo : List Cond := .code yX1_undo cX1_undo 1 (some .int) :: ((wsX1_undo_r1 ++ wsX1_undo_r2) ++ wsX10 ++ wsX00 ++ (vx_atS RX1 59 "java/lang/IllegalStateException" ["java/lang/RuntimeException", "java/lang/Exception"]).filter goodWord)
def wsX1_ahead_r1 : List Cond := [Cond.fieldLink RX1 28 "EffectTrain" "trial" "LEffectTrain$State;", Cond.fieldLink RX1 24 "EffectTrain" "now" "LEffectTrain$State;", Cond.methodLink RX1 109 yX1_checkEffect, Cond.instanceMethod yX1_checkEffect, Cond.selects RX1 yX1_checkEffect yX1_checkEffect, Cond.initialized RX1, Cond.code yX1_checkEffect cX1_checkEffect 2 none, Cond.classLink RX1 211 "java/lang/IndexOutOfBoundsException", Cond.initialized "java/lang/IndexOutOfBoundsException", Cond.methodLink RX1 51 yX1_checkRange, Cond.static yX1_checkRange, Cond.code yX1_checkRange cX1_checkRange 3 none, Cond.classLink RX1 179 "java/lang/IllegalArgumentException", Cond.initialized "java/lang/IllegalArgumentException", Cond.instanceMethod yX0_copyFrom, Cond.initialized RX0, Cond.selects RX0 yX0_copyFrom yX0_copyFrom, Cond.code yX0_copyFrom cX0_copyFrom 2 none, Cond.fieldLink RX0 9 "EffectTrain$State" "n" "I", Cond.fieldLink RX0 19 "EffectTrain$State" "clock" "I", Cond.fieldLink RX0 15 "EffectTrain$State" "settings" "[I", Cond.methodLink RX0 55 arraycopyName, Cond.native arraycopyName, Cond.static arraycopyName]
def wsX1_ahead_r2 : List Cond := [Cond.initialized "java/lang/System", Cond.fieldLink RX0 22 "EffectTrain$State" "counts" "[I", Cond.fieldLink RX0 25 "EffectTrain$State" "area" "[I", Cond.fieldLink RX0 28 "EffectTrain$State" "water" "[I", Cond.fieldLink RX0 31 "EffectTrain$State" "solids" "[I", Cond.fieldLink RX0 34 "EffectTrain$State" "valve" "[I", Cond.fieldLink RX0 37 "EffectTrain$State" "bleed" "[I", Cond.fieldLink RX0 40 "EffectTrain$State" "scale" "[I", Cond.fieldLink RX0 43 "EffectTrain$State" "scaling" "[I", Cond.fieldLink RX0 46 "EffectTrain$State" "left" "[I", Cond.instanceMethod yX0_pass, Cond.selects RX0 yX0_pass yX0_pass, Cond.code yX0_pass cX0_pass 4 (some .int), Cond.methodLink RX0 68 yX0_beginWashInTurn, Cond.instanceMethod yX0_beginWashInTurn, Cond.selects RX0 yX0_beginWashInTurn yX0_beginWashInTurn, Cond.code yX0_beginWashInTurn cX0_beginWashInTurn 4 none, Cond.methodLink RX0 80 yX0_washedEffects, Cond.instanceMethod yX0_washedEffects, Cond.selects RX0 yX0_washedEffects yX0_washedEffects, Cond.code yX0_washedEffects cX0_washedEffects 3 (some .int), Cond.methodLink RX0 71 yX0_boilAll, Cond.instanceMethod yX0_boilAll, Cond.selects RX0 yX0_boilAll yX0_boilAll]
def wsX1_ahead_r3 : List Cond := [Cond.code yX0_boilAll cX0_boilAll 4 none, Cond.methodLink RX0 84 yX0_boil, Cond.instanceMethod yX0_boil, Cond.selects RX0 yX0_boil yX0_boil, Cond.code yX0_boil cX0_boil 7 (some .int), Cond.methodLink RX0 88 Lib.Math.min.name, Cond.static Lib.Math.min.name, Cond.initialized "java/lang/Math", Cond.code Lib.Math.min.name Lib.Math.min.code 2 (some .int), Cond.methodLink RX0 61 yX0_thickness, Cond.instanceMethod yX0_thickness, Cond.selects RX0 yX0_thickness yX0_thickness, Cond.code yX0_thickness cX0_thickness 3 (some .int), Cond.methodLink RX0 65 yX0_power, Cond.instanceMethod yX0_power, Cond.selects RX0 yX0_power yX0_power, Cond.code yX0_power cX0_power 3 (some .int), Cond.methodLink RX0 74 yX0_flowOn, Cond.instanceMethod yX0_flowOn, Cond.selects RX0 yX0_flowOn yX0_flowOn, Cond.code yX0_flowOn cX0_flowOn 9 none, Cond.methodLink RX0 93 yX0_effectBehind, Cond.instanceMethod yX0_effectBehind, Cond.selects RX0 yX0_effectBehind yX0_effectBehind]
def wsX1_ahead_r4 : List Cond := [Cond.code yX0_effectBehind cX0_effectBehind 3 (some .int), Cond.methodLink RX0 96 yX0_amount, Cond.instanceMethod yX0_amount, Cond.selects RX0 yX0_amount yX0_amount, Cond.code yX0_amount cX0_amount 2 (some .int), Cond.methodLink RX0 99 yX0_flowFrom, Cond.instanceMethod yX0_flowFrom, Cond.selects RX0 yX0_flowFrom yX0_flowFrom, Cond.code yX0_flowFrom cX0_flowFrom 4 (some .int), Cond.methodLink RX0 77 yX0_washOn, Cond.instanceMethod yX0_washOn, Cond.selects RX0 yX0_washOn yX0_washOn, Cond.code yX0_washOn cX0_washOn 2 none, Cond.methodLink RX0 102 Lib.Math.max.name, Cond.static Lib.Math.max.name, Cond.code Lib.Math.max.name Lib.Math.max.code 2 (some .int), Cond.instanceMethod yX0_numberOf, Cond.selects RX0 yX0_numberOf yX0_numberOf, Cond.code yX0_numberOf cX0_numberOf 3 (some .int)]
def wsX1_ahead : List Cond := .code yX1_ahead cX1_ahead 4 (some .int) :: ((wsX1_ahead_r1 ++ (wsX1_ahead_r2 ++ (wsX1_ahead_r3 ++ wsX1_ahead_r4))) ++ wsX10 ++ wsX00 ++ (vx_atS RX1 215 "java/lang/IndexOutOfBoundsException" ["java/lang/RuntimeException", "java/lang/Exception"]).filter goodWord ++ (vx_atS RX1 183 "java/lang/IllegalArgumentException" ["java/lang/RuntimeException", "java/lang/Exception"]).filter goodWord)
def wsX1_growth_r1 : List Cond := [Cond.fieldLink RX1 28 "EffectTrain" "trial" "LEffectTrain$State;", Cond.fieldLink RX1 24 "EffectTrain" "now" "LEffectTrain$State;", Cond.methodLink RX1 51 yX1_checkRange, Cond.static yX1_checkRange, Cond.initialized RX1, Cond.code yX1_checkRange cX1_checkRange 3 none, Cond.classLink RX1 179 "java/lang/IllegalArgumentException", Cond.initialized "java/lang/IllegalArgumentException", Cond.instanceMethod yX0_copyFrom, Cond.initialized RX0, Cond.selects RX0 yX0_copyFrom yX0_copyFrom, Cond.code yX0_copyFrom cX0_copyFrom 2 none, Cond.fieldLink RX0 9 "EffectTrain$State" "n" "I", Cond.fieldLink RX0 19 "EffectTrain$State" "clock" "I", Cond.fieldLink RX0 15 "EffectTrain$State" "settings" "[I", Cond.methodLink RX0 55 arraycopyName, Cond.native arraycopyName, Cond.static arraycopyName, Cond.initialized "java/lang/System", Cond.fieldLink RX0 22 "EffectTrain$State" "counts" "[I", Cond.fieldLink RX0 25 "EffectTrain$State" "area" "[I", Cond.fieldLink RX0 28 "EffectTrain$State" "water" "[I", Cond.fieldLink RX0 31 "EffectTrain$State" "solids" "[I", Cond.fieldLink RX0 34 "EffectTrain$State" "valve" "[I"]
def wsX1_growth_r2 : List Cond := [Cond.fieldLink RX0 37 "EffectTrain$State" "bleed" "[I", Cond.fieldLink RX0 40 "EffectTrain$State" "scale" "[I", Cond.fieldLink RX0 43 "EffectTrain$State" "scaling" "[I", Cond.fieldLink RX0 46 "EffectTrain$State" "left" "[I", Cond.instanceMethod yX0_pass, Cond.selects RX0 yX0_pass yX0_pass, Cond.code yX0_pass cX0_pass 4 (some .int), Cond.methodLink RX0 68 yX0_beginWashInTurn, Cond.instanceMethod yX0_beginWashInTurn, Cond.selects RX0 yX0_beginWashInTurn yX0_beginWashInTurn, Cond.code yX0_beginWashInTurn cX0_beginWashInTurn 4 none, Cond.methodLink RX0 80 yX0_washedEffects, Cond.instanceMethod yX0_washedEffects, Cond.selects RX0 yX0_washedEffects yX0_washedEffects, Cond.code yX0_washedEffects cX0_washedEffects 3 (some .int), Cond.methodLink RX0 71 yX0_boilAll, Cond.instanceMethod yX0_boilAll, Cond.selects RX0 yX0_boilAll yX0_boilAll, Cond.code yX0_boilAll cX0_boilAll 4 none, Cond.methodLink RX0 84 yX0_boil, Cond.instanceMethod yX0_boil, Cond.selects RX0 yX0_boil yX0_boil, Cond.code yX0_boil cX0_boil 7 (some .int), Cond.methodLink RX0 88 Lib.Math.min.name]
def wsX1_growth_r3 : List Cond := [Cond.static Lib.Math.min.name, Cond.initialized "java/lang/Math", Cond.code Lib.Math.min.name Lib.Math.min.code 2 (some .int), Cond.methodLink RX0 61 yX0_thickness, Cond.instanceMethod yX0_thickness, Cond.selects RX0 yX0_thickness yX0_thickness, Cond.code yX0_thickness cX0_thickness 3 (some .int), Cond.methodLink RX0 65 yX0_power, Cond.instanceMethod yX0_power, Cond.selects RX0 yX0_power yX0_power, Cond.code yX0_power cX0_power 3 (some .int), Cond.methodLink RX0 74 yX0_flowOn, Cond.instanceMethod yX0_flowOn, Cond.selects RX0 yX0_flowOn yX0_flowOn, Cond.code yX0_flowOn cX0_flowOn 9 none, Cond.methodLink RX0 93 yX0_effectBehind, Cond.instanceMethod yX0_effectBehind, Cond.selects RX0 yX0_effectBehind yX0_effectBehind, Cond.code yX0_effectBehind cX0_effectBehind 3 (some .int), Cond.methodLink RX0 96 yX0_amount, Cond.instanceMethod yX0_amount, Cond.selects RX0 yX0_amount yX0_amount, Cond.code yX0_amount cX0_amount 2 (some .int), Cond.methodLink RX0 99 yX0_flowFrom]
def wsX1_growth_r4 : List Cond := [Cond.instanceMethod yX0_flowFrom, Cond.selects RX0 yX0_flowFrom yX0_flowFrom, Cond.code yX0_flowFrom cX0_flowFrom 4 (some .int), Cond.methodLink RX0 77 yX0_washOn, Cond.instanceMethod yX0_washOn, Cond.selects RX0 yX0_washOn yX0_washOn, Cond.code yX0_washOn cX0_washOn 2 none, Cond.methodLink RX0 102 Lib.Math.max.name, Cond.static Lib.Math.max.name, Cond.code Lib.Math.max.name Lib.Math.max.code 2 (some .int)]
def wsX1_growth : List Cond := .code yX1_growth cX1_growth 3 (some .int) :: ((wsX1_growth_r1 ++ (wsX1_growth_r2 ++ (wsX1_growth_r3 ++ wsX1_growth_r4))) ++ wsX10 ++ wsX00 ++ (vx_atS RX1 183 "java/lang/IllegalArgumentException" ["java/lang/RuntimeException", "java/lang/Exception"]).filter goodWord)
def wsX1_washGain_r1 : List Cond := [Cond.fieldLink RX1 28 "EffectTrain" "trial" "LEffectTrain$State;", Cond.fieldLink RX1 24 "EffectTrain" "now" "LEffectTrain$State;", Cond.methodLink RX1 109 yX1_checkEffect, Cond.instanceMethod yX1_checkEffect, Cond.selects RX1 yX1_checkEffect yX1_checkEffect, Cond.initialized RX1, Cond.code yX1_checkEffect cX1_checkEffect 2 none, Cond.classLink RX1 211 "java/lang/IndexOutOfBoundsException", Cond.initialized "java/lang/IndexOutOfBoundsException", Cond.methodLink RX1 51 yX1_checkRange, Cond.static yX1_checkRange, Cond.code yX1_checkRange cX1_checkRange 3 none, Cond.classLink RX1 179 "java/lang/IllegalArgumentException", Cond.initialized "java/lang/IllegalArgumentException", Cond.methodLink RX1 141 yX1_checkWorks, Cond.instanceMethod yX1_checkWorks, Cond.selects RX1 yX1_checkWorks yX1_checkWorks, Cond.code yX1_checkWorks cX1_checkWorks 2 none, Cond.classLink RX1 55 "java/lang/IllegalStateException", Cond.initialized "java/lang/IllegalStateException", Cond.instanceMethod yX0_copyFrom, Cond.initialized RX0, Cond.selects RX0 yX0_copyFrom yX0_copyFrom, Cond.code yX0_copyFrom cX0_copyFrom 2 none]
def wsX1_washGain_r2 : List Cond := [Cond.fieldLink RX0 9 "EffectTrain$State" "n" "I", Cond.fieldLink RX0 19 "EffectTrain$State" "clock" "I", Cond.fieldLink RX0 15 "EffectTrain$State" "settings" "[I", Cond.methodLink RX0 55 arraycopyName, Cond.native arraycopyName, Cond.static arraycopyName, Cond.initialized "java/lang/System", Cond.fieldLink RX0 22 "EffectTrain$State" "counts" "[I", Cond.fieldLink RX0 25 "EffectTrain$State" "area" "[I", Cond.fieldLink RX0 28 "EffectTrain$State" "water" "[I", Cond.fieldLink RX0 31 "EffectTrain$State" "solids" "[I", Cond.fieldLink RX0 34 "EffectTrain$State" "valve" "[I", Cond.fieldLink RX0 37 "EffectTrain$State" "bleed" "[I", Cond.fieldLink RX0 40 "EffectTrain$State" "scale" "[I", Cond.fieldLink RX0 43 "EffectTrain$State" "scaling" "[I", Cond.fieldLink RX0 46 "EffectTrain$State" "left" "[I", Cond.instanceMethod yX0_pass, Cond.selects RX0 yX0_pass yX0_pass, Cond.code yX0_pass cX0_pass 4 (some .int), Cond.methodLink RX0 68 yX0_beginWashInTurn, Cond.instanceMethod yX0_beginWashInTurn, Cond.selects RX0 yX0_beginWashInTurn yX0_beginWashInTurn, Cond.code yX0_beginWashInTurn cX0_beginWashInTurn 4 none, Cond.methodLink RX0 80 yX0_washedEffects]
def wsX1_washGain_r3 : List Cond := [Cond.instanceMethod yX0_washedEffects, Cond.selects RX0 yX0_washedEffects yX0_washedEffects, Cond.code yX0_washedEffects cX0_washedEffects 3 (some .int), Cond.methodLink RX0 71 yX0_boilAll, Cond.instanceMethod yX0_boilAll, Cond.selects RX0 yX0_boilAll yX0_boilAll, Cond.code yX0_boilAll cX0_boilAll 4 none, Cond.methodLink RX0 84 yX0_boil, Cond.instanceMethod yX0_boil, Cond.selects RX0 yX0_boil yX0_boil, Cond.code yX0_boil cX0_boil 7 (some .int), Cond.methodLink RX0 88 Lib.Math.min.name, Cond.static Lib.Math.min.name, Cond.initialized "java/lang/Math", Cond.code Lib.Math.min.name Lib.Math.min.code 2 (some .int), Cond.methodLink RX0 61 yX0_thickness, Cond.instanceMethod yX0_thickness, Cond.selects RX0 yX0_thickness yX0_thickness, Cond.code yX0_thickness cX0_thickness 3 (some .int), Cond.methodLink RX0 65 yX0_power, Cond.instanceMethod yX0_power, Cond.selects RX0 yX0_power yX0_power, Cond.code yX0_power cX0_power 3 (some .int), Cond.methodLink RX0 74 yX0_flowOn]
def wsX1_washGain_r4 : List Cond := [Cond.instanceMethod yX0_flowOn, Cond.selects RX0 yX0_flowOn yX0_flowOn, Cond.code yX0_flowOn cX0_flowOn 9 none, Cond.methodLink RX0 93 yX0_effectBehind, Cond.instanceMethod yX0_effectBehind, Cond.selects RX0 yX0_effectBehind yX0_effectBehind, Cond.code yX0_effectBehind cX0_effectBehind 3 (some .int), Cond.methodLink RX0 96 yX0_amount, Cond.instanceMethod yX0_amount, Cond.selects RX0 yX0_amount yX0_amount, Cond.code yX0_amount cX0_amount 2 (some .int), Cond.methodLink RX0 99 yX0_flowFrom, Cond.instanceMethod yX0_flowFrom, Cond.selects RX0 yX0_flowFrom yX0_flowFrom, Cond.code yX0_flowFrom cX0_flowFrom 4 (some .int), Cond.methodLink RX0 77 yX0_washOn, Cond.instanceMethod yX0_washOn, Cond.selects RX0 yX0_washOn yX0_washOn, Cond.code yX0_washOn cX0_washOn 2 none, Cond.methodLink RX0 102 Lib.Math.max.name, Cond.static Lib.Math.max.name, Cond.code Lib.Math.max.name Lib.Math.max.code 2 (some .int)]
def wsX1_washGain : List Cond := .code yX1_washGain cX1_washGain 5 (some .int) :: ((wsX1_washGain_r1 ++ (wsX1_washGain_r2 ++ (wsX1_washGain_r3 ++ wsX1_washGain_r4))) ++ wsX10 ++ wsX00 ++ (vx_atS RX1 215 "java/lang/IndexOutOfBoundsException" ["java/lang/RuntimeException", "java/lang/Exception"]).filter goodWord ++ (vx_atS RX1 183 "java/lang/IllegalArgumentException" ["java/lang/RuntimeException", "java/lang/Exception"]).filter goodWord ++ (vx_atS RX1 59 "java/lang/IllegalStateException" ["java/lang/RuntimeException", "java/lang/Exception"]).filter goodWord)
def wsX1_greatestVapor_r1 : List Cond := [Cond.methodLink RX1 167 Lib.Math.max.name, Cond.static Lib.Math.max.name, Cond.initialized "java/lang/Math", Cond.code Lib.Math.max.name Lib.Math.max.code 2 (some .int), Cond.methodLink RX1 159 yX1_vaporWithChoice, Cond.instanceMethod yX1_vaporWithChoice, Cond.selects RX1 yX1_vaporWithChoice yX1_vaporWithChoice, Cond.initialized RX1, Cond.code yX1_vaporWithChoice cX1_vaporWithChoice 5 (some .int), Cond.fieldLink RX1 31 "EffectTrain" "turnStates" "[LEffectTrain$State;", Cond.methodLink RX1 151 yX1_stateAt, Cond.static yX1_stateAt, Cond.code yX1_stateAt cX1_stateAt 3 (some (.object "EffectTrain$State")), Cond.classLink RX1 21 RX0, Cond.instantiable RX0 12, Cond.initialized RX0, Cond.instanceMethod yX0_init, Cond.code yX0_init cX0_init 1 none, Cond.methodLink RX0 3 objectInit, Cond.instanceMethod objectInit, Cond.code objectInit ⟨#[0xb1]⟩ 1 none, Cond.fieldLink RX0 9 "EffectTrain$State" "n" "I", Cond.arrayClass .int, Cond.fieldLink RX0 15 "EffectTrain$State" "settings" "[I"]
def wsX1_greatestVapor_r2 : List Cond := [Cond.fieldLink RX0 19 "EffectTrain$State" "clock" "I", Cond.fieldLink RX0 22 "EffectTrain$State" "counts" "[I", Cond.fieldLink RX0 25 "EffectTrain$State" "area" "[I", Cond.fieldLink RX0 28 "EffectTrain$State" "water" "[I", Cond.fieldLink RX0 31 "EffectTrain$State" "solids" "[I", Cond.fieldLink RX0 34 "EffectTrain$State" "valve" "[I", Cond.fieldLink RX0 37 "EffectTrain$State" "bleed" "[I", Cond.fieldLink RX0 40 "EffectTrain$State" "scale" "[I", Cond.fieldLink RX0 43 "EffectTrain$State" "scaling" "[I", Cond.fieldLink RX0 46 "EffectTrain$State" "left" "[I", Cond.methodLink RX0 49 yJ7_fill_53178, Cond.static yJ7_fill_53178, Cond.initialized RJ7, Cond.code yJ7_fill_53178 cJ7_fill_53178 4 none, Cond.instanceMethod yX0_copyFrom, Cond.selects RX0 yX0_copyFrom yX0_copyFrom, Cond.code yX0_copyFrom cX0_copyFrom 2 none, Cond.methodLink RX0 55 arraycopyName, Cond.native arraycopyName, Cond.static arraycopyName, Cond.initialized "java/lang/System", Cond.instanceMethod yX0_pass, Cond.selects RX0 yX0_pass yX0_pass, Cond.code yX0_pass cX0_pass 4 (some .int)]
def wsX1_greatestVapor_r3 : List Cond := [Cond.methodLink RX0 68 yX0_beginWashInTurn, Cond.instanceMethod yX0_beginWashInTurn, Cond.selects RX0 yX0_beginWashInTurn yX0_beginWashInTurn, Cond.code yX0_beginWashInTurn cX0_beginWashInTurn 4 none, Cond.methodLink RX0 80 yX0_washedEffects, Cond.instanceMethod yX0_washedEffects, Cond.selects RX0 yX0_washedEffects yX0_washedEffects, Cond.code yX0_washedEffects cX0_washedEffects 3 (some .int), Cond.methodLink RX0 71 yX0_boilAll, Cond.instanceMethod yX0_boilAll, Cond.selects RX0 yX0_boilAll yX0_boilAll, Cond.code yX0_boilAll cX0_boilAll 4 none, Cond.methodLink RX0 84 yX0_boil, Cond.instanceMethod yX0_boil, Cond.selects RX0 yX0_boil yX0_boil, Cond.code yX0_boil cX0_boil 7 (some .int), Cond.methodLink RX0 88 Lib.Math.min.name, Cond.static Lib.Math.min.name, Cond.code Lib.Math.min.name Lib.Math.min.code 2 (some .int), Cond.methodLink RX0 61 yX0_thickness, Cond.instanceMethod yX0_thickness, Cond.selects RX0 yX0_thickness yX0_thickness, Cond.code yX0_thickness cX0_thickness 3 (some .int), Cond.methodLink RX0 65 yX0_power]
def wsX1_greatestVapor_r4 : List Cond := [Cond.instanceMethod yX0_power, Cond.selects RX0 yX0_power yX0_power, Cond.code yX0_power cX0_power 3 (some .int), Cond.methodLink RX0 74 yX0_flowOn, Cond.instanceMethod yX0_flowOn, Cond.selects RX0 yX0_flowOn yX0_flowOn, Cond.code yX0_flowOn cX0_flowOn 9 none, Cond.methodLink RX0 93 yX0_effectBehind, Cond.instanceMethod yX0_effectBehind, Cond.selects RX0 yX0_effectBehind yX0_effectBehind, Cond.code yX0_effectBehind cX0_effectBehind 3 (some .int), Cond.methodLink RX0 96 yX0_amount, Cond.instanceMethod yX0_amount, Cond.selects RX0 yX0_amount yX0_amount, Cond.code yX0_amount cX0_amount 2 (some .int), Cond.methodLink RX0 99 yX0_flowFrom, Cond.instanceMethod yX0_flowFrom, Cond.selects RX0 yX0_flowFrom yX0_flowFrom, Cond.code yX0_flowFrom cX0_flowFrom 4 (some .int), Cond.methodLink RX0 77 yX0_washOn, Cond.instanceMethod yX0_washOn, Cond.selects RX0 yX0_washOn yX0_washOn, Cond.code yX0_washOn cX0_washOn 2 none, Cond.methodLink RX0 102 Lib.Math.max.name]
def wsX1_greatestVapor_r5 : List Cond := [Cond.methodLink RX1 163 yX1_greatestVapor, Cond.instanceMethod yX1_greatestVapor, Cond.selects RX1 yX1_greatestVapor yX1_greatestVapor]
def wsX1_greatestVapor : List Cond := .code yX1_greatestVapor cX1_greatestVapor 5 (some .int) :: ((wsX1_greatestVapor_r1 ++ (wsX1_greatestVapor_r2 ++ (wsX1_greatestVapor_r3 ++ (wsX1_greatestVapor_r4 ++ wsX1_greatestVapor_r5)))) ++ wsX00 ++ wsX10)
def wsX1_vaporWithChoice_r1 : List Cond := [Cond.fieldLink RX1 31 "EffectTrain" "turnStates" "[LEffectTrain$State;", Cond.methodLink RX1 151 yX1_stateAt, Cond.static yX1_stateAt, Cond.initialized RX1, Cond.code yX1_stateAt cX1_stateAt 3 (some (.object "EffectTrain$State")), Cond.classLink RX1 21 RX0, Cond.instantiable RX0 12, Cond.initialized RX0, Cond.instanceMethod yX0_init, Cond.code yX0_init cX0_init 1 none, Cond.methodLink RX0 3 objectInit, Cond.instanceMethod objectInit, Cond.code objectInit ⟨#[0xb1]⟩ 1 none, Cond.fieldLink RX0 9 "EffectTrain$State" "n" "I", Cond.arrayClass .int, Cond.fieldLink RX0 15 "EffectTrain$State" "settings" "[I", Cond.fieldLink RX0 19 "EffectTrain$State" "clock" "I", Cond.fieldLink RX0 22 "EffectTrain$State" "counts" "[I", Cond.fieldLink RX0 25 "EffectTrain$State" "area" "[I", Cond.fieldLink RX0 28 "EffectTrain$State" "water" "[I", Cond.fieldLink RX0 31 "EffectTrain$State" "solids" "[I", Cond.fieldLink RX0 34 "EffectTrain$State" "valve" "[I", Cond.fieldLink RX0 37 "EffectTrain$State" "bleed" "[I", Cond.fieldLink RX0 40 "EffectTrain$State" "scale" "[I"]
def wsX1_vaporWithChoice_r2 : List Cond := [Cond.fieldLink RX0 43 "EffectTrain$State" "scaling" "[I", Cond.fieldLink RX0 46 "EffectTrain$State" "left" "[I", Cond.methodLink RX0 49 yJ7_fill_53178, Cond.static yJ7_fill_53178, Cond.initialized RJ7, Cond.code yJ7_fill_53178 cJ7_fill_53178 4 none, Cond.instanceMethod yX0_copyFrom, Cond.selects RX0 yX0_copyFrom yX0_copyFrom, Cond.code yX0_copyFrom cX0_copyFrom 2 none, Cond.methodLink RX0 55 arraycopyName, Cond.native arraycopyName, Cond.static arraycopyName, Cond.initialized "java/lang/System", Cond.instanceMethod yX0_pass, Cond.selects RX0 yX0_pass yX0_pass, Cond.code yX0_pass cX0_pass 4 (some .int), Cond.methodLink RX0 68 yX0_beginWashInTurn, Cond.instanceMethod yX0_beginWashInTurn, Cond.selects RX0 yX0_beginWashInTurn yX0_beginWashInTurn, Cond.code yX0_beginWashInTurn cX0_beginWashInTurn 4 none, Cond.methodLink RX0 80 yX0_washedEffects, Cond.instanceMethod yX0_washedEffects, Cond.selects RX0 yX0_washedEffects yX0_washedEffects, Cond.code yX0_washedEffects cX0_washedEffects 3 (some .int)]
def wsX1_vaporWithChoice_r3 : List Cond := [Cond.methodLink RX0 71 yX0_boilAll, Cond.instanceMethod yX0_boilAll, Cond.selects RX0 yX0_boilAll yX0_boilAll, Cond.code yX0_boilAll cX0_boilAll 4 none, Cond.methodLink RX0 84 yX0_boil, Cond.instanceMethod yX0_boil, Cond.selects RX0 yX0_boil yX0_boil, Cond.code yX0_boil cX0_boil 7 (some .int), Cond.methodLink RX0 88 Lib.Math.min.name, Cond.static Lib.Math.min.name, Cond.initialized "java/lang/Math", Cond.code Lib.Math.min.name Lib.Math.min.code 2 (some .int), Cond.methodLink RX0 61 yX0_thickness, Cond.instanceMethod yX0_thickness, Cond.selects RX0 yX0_thickness yX0_thickness, Cond.code yX0_thickness cX0_thickness 3 (some .int), Cond.methodLink RX0 65 yX0_power, Cond.instanceMethod yX0_power, Cond.selects RX0 yX0_power yX0_power, Cond.code yX0_power cX0_power 3 (some .int), Cond.methodLink RX0 74 yX0_flowOn, Cond.instanceMethod yX0_flowOn, Cond.selects RX0 yX0_flowOn yX0_flowOn, Cond.code yX0_flowOn cX0_flowOn 9 none]
def wsX1_vaporWithChoice_r4 : List Cond := [Cond.methodLink RX0 93 yX0_effectBehind, Cond.instanceMethod yX0_effectBehind, Cond.selects RX0 yX0_effectBehind yX0_effectBehind, Cond.code yX0_effectBehind cX0_effectBehind 3 (some .int), Cond.methodLink RX0 96 yX0_amount, Cond.instanceMethod yX0_amount, Cond.selects RX0 yX0_amount yX0_amount, Cond.code yX0_amount cX0_amount 2 (some .int), Cond.methodLink RX0 99 yX0_flowFrom, Cond.instanceMethod yX0_flowFrom, Cond.selects RX0 yX0_flowFrom yX0_flowFrom, Cond.code yX0_flowFrom cX0_flowFrom 4 (some .int), Cond.methodLink RX0 77 yX0_washOn, Cond.instanceMethod yX0_washOn, Cond.selects RX0 yX0_washOn yX0_washOn, Cond.code yX0_washOn cX0_washOn 2 none, Cond.methodLink RX0 102 Lib.Math.max.name, Cond.static Lib.Math.max.name, Cond.code Lib.Math.max.name Lib.Math.max.code 2 (some .int), Cond.methodLink RX1 163 yX1_greatestVapor, Cond.instanceMethod yX1_greatestVapor, Cond.selects RX1 yX1_greatestVapor yX1_greatestVapor, Cond.code yX1_greatestVapor cX1_greatestVapor 5 (some .int), Cond.methodLink RX1 167 Lib.Math.max.name]
def wsX1_vaporWithChoice_r5 : List Cond := [Cond.methodLink RX1 159 yX1_vaporWithChoice, Cond.instanceMethod yX1_vaporWithChoice, Cond.selects RX1 yX1_vaporWithChoice yX1_vaporWithChoice]
def wsX1_vaporWithChoice : List Cond := .code yX1_vaporWithChoice cX1_vaporWithChoice 5 (some .int) :: ((wsX1_vaporWithChoice_r1 ++ (wsX1_vaporWithChoice_r2 ++ (wsX1_vaporWithChoice_r3 ++ (wsX1_vaporWithChoice_r4 ++ wsX1_vaporWithChoice_r5)))) ++ wsX00 ++ wsX10)
def wsX1_bestTurns_r1 : List Cond := [Cond.fieldLink RX1 24 "EffectTrain" "now" "LEffectTrain$State;", Cond.methodLink RX1 51 yX1_checkRange, Cond.static yX1_checkRange, Cond.initialized RX1, Cond.code yX1_checkRange cX1_checkRange 3 none, Cond.classLink RX1 179 "java/lang/IllegalArgumentException", Cond.initialized "java/lang/IllegalArgumentException", Cond.methodLink RX1 159 yX1_vaporWithChoice, Cond.instanceMethod yX1_vaporWithChoice, Cond.selects RX1 yX1_vaporWithChoice yX1_vaporWithChoice, Cond.code yX1_vaporWithChoice cX1_vaporWithChoice 5 (some .int), Cond.fieldLink RX1 31 "EffectTrain" "turnStates" "[LEffectTrain$State;", Cond.methodLink RX1 151 yX1_stateAt, Cond.static yX1_stateAt, Cond.code yX1_stateAt cX1_stateAt 3 (some (.object "EffectTrain$State")), Cond.classLink RX1 21 RX0, Cond.instantiable RX0 12, Cond.initialized RX0, Cond.instanceMethod yX0_init, Cond.code yX0_init cX0_init 1 none, Cond.methodLink RX0 3 objectInit, Cond.instanceMethod objectInit, Cond.code objectInit ⟨#[0xb1]⟩ 1 none, Cond.fieldLink RX0 9 "EffectTrain$State" "n" "I"]
def wsX1_bestTurns_r2 : List Cond := [Cond.arrayClass .int, Cond.fieldLink RX0 15 "EffectTrain$State" "settings" "[I", Cond.fieldLink RX0 19 "EffectTrain$State" "clock" "I", Cond.fieldLink RX0 22 "EffectTrain$State" "counts" "[I", Cond.fieldLink RX0 25 "EffectTrain$State" "area" "[I", Cond.fieldLink RX0 28 "EffectTrain$State" "water" "[I", Cond.fieldLink RX0 31 "EffectTrain$State" "solids" "[I", Cond.fieldLink RX0 34 "EffectTrain$State" "valve" "[I", Cond.fieldLink RX0 37 "EffectTrain$State" "bleed" "[I", Cond.fieldLink RX0 40 "EffectTrain$State" "scale" "[I", Cond.fieldLink RX0 43 "EffectTrain$State" "scaling" "[I", Cond.fieldLink RX0 46 "EffectTrain$State" "left" "[I", Cond.methodLink RX0 49 yJ7_fill_53178, Cond.static yJ7_fill_53178, Cond.initialized RJ7, Cond.code yJ7_fill_53178 cJ7_fill_53178 4 none, Cond.instanceMethod yX0_copyFrom, Cond.selects RX0 yX0_copyFrom yX0_copyFrom, Cond.code yX0_copyFrom cX0_copyFrom 2 none, Cond.methodLink RX0 55 arraycopyName, Cond.native arraycopyName, Cond.static arraycopyName, Cond.initialized "java/lang/System", Cond.instanceMethod yX0_pass]
def wsX1_bestTurns_r3 : List Cond := [Cond.selects RX0 yX0_pass yX0_pass, Cond.code yX0_pass cX0_pass 4 (some .int), Cond.methodLink RX0 68 yX0_beginWashInTurn, Cond.instanceMethod yX0_beginWashInTurn, Cond.selects RX0 yX0_beginWashInTurn yX0_beginWashInTurn, Cond.code yX0_beginWashInTurn cX0_beginWashInTurn 4 none, Cond.methodLink RX0 80 yX0_washedEffects, Cond.instanceMethod yX0_washedEffects, Cond.selects RX0 yX0_washedEffects yX0_washedEffects, Cond.code yX0_washedEffects cX0_washedEffects 3 (some .int), Cond.methodLink RX0 71 yX0_boilAll, Cond.instanceMethod yX0_boilAll, Cond.selects RX0 yX0_boilAll yX0_boilAll, Cond.code yX0_boilAll cX0_boilAll 4 none, Cond.methodLink RX0 84 yX0_boil, Cond.instanceMethod yX0_boil, Cond.selects RX0 yX0_boil yX0_boil, Cond.code yX0_boil cX0_boil 7 (some .int), Cond.methodLink RX0 88 Lib.Math.min.name, Cond.static Lib.Math.min.name, Cond.initialized "java/lang/Math", Cond.code Lib.Math.min.name Lib.Math.min.code 2 (some .int), Cond.methodLink RX0 61 yX0_thickness, Cond.instanceMethod yX0_thickness]
def wsX1_bestTurns_r4 : List Cond := [Cond.selects RX0 yX0_thickness yX0_thickness, Cond.code yX0_thickness cX0_thickness 3 (some .int), Cond.methodLink RX0 65 yX0_power, Cond.instanceMethod yX0_power, Cond.selects RX0 yX0_power yX0_power, Cond.code yX0_power cX0_power 3 (some .int), Cond.methodLink RX0 74 yX0_flowOn, Cond.instanceMethod yX0_flowOn, Cond.selects RX0 yX0_flowOn yX0_flowOn, Cond.code yX0_flowOn cX0_flowOn 9 none, Cond.methodLink RX0 93 yX0_effectBehind, Cond.instanceMethod yX0_effectBehind, Cond.selects RX0 yX0_effectBehind yX0_effectBehind, Cond.code yX0_effectBehind cX0_effectBehind 3 (some .int), Cond.methodLink RX0 96 yX0_amount, Cond.instanceMethod yX0_amount, Cond.selects RX0 yX0_amount yX0_amount, Cond.code yX0_amount cX0_amount 2 (some .int), Cond.methodLink RX0 99 yX0_flowFrom, Cond.instanceMethod yX0_flowFrom, Cond.selects RX0 yX0_flowFrom yX0_flowFrom, Cond.code yX0_flowFrom cX0_flowFrom 4 (some .int), Cond.methodLink RX0 77 yX0_washOn, Cond.instanceMethod yX0_washOn]
def wsX1_bestTurns_r5 : List Cond := [Cond.selects RX0 yX0_washOn yX0_washOn, Cond.code yX0_washOn cX0_washOn 2 none, Cond.methodLink RX0 102 Lib.Math.max.name, Cond.static Lib.Math.max.name, Cond.code Lib.Math.max.name Lib.Math.max.code 2 (some .int), Cond.methodLink RX1 163 yX1_greatestVapor, Cond.instanceMethod yX1_greatestVapor, Cond.selects RX1 yX1_greatestVapor yX1_greatestVapor, Cond.code yX1_greatestVapor cX1_greatestVapor 5 (some .int), Cond.methodLink RX1 167 Lib.Math.max.name]
def wsX1_bestTurns : List Cond := .code yX1_bestTurns cX1_bestTurns 7 (some .int) :: ((wsX1_bestTurns_r1 ++ (wsX1_bestTurns_r2 ++ (wsX1_bestTurns_r3 ++ (wsX1_bestTurns_r4 ++ wsX1_bestTurns_r5)))) ++ wsX10 ++ wsX00 ++ (vx_atS RX1 183 "java/lang/IllegalArgumentException" ["java/lang/RuntimeException", "java/lang/Exception"]).filter goodWord)
def wsX1_scaledAfter_r1 : List Cond := [Cond.fieldLink RX1 28 "EffectTrain" "trial" "LEffectTrain$State;", Cond.fieldLink RX1 24 "EffectTrain" "now" "LEffectTrain$State;", Cond.methodLink RX1 109 yX1_checkEffect, Cond.instanceMethod yX1_checkEffect, Cond.selects RX1 yX1_checkEffect yX1_checkEffect, Cond.initialized RX1, Cond.code yX1_checkEffect cX1_checkEffect 2 none, Cond.classLink RX1 211 "java/lang/IndexOutOfBoundsException", Cond.initialized "java/lang/IndexOutOfBoundsException", Cond.methodLink RX1 51 yX1_checkRange, Cond.static yX1_checkRange, Cond.code yX1_checkRange cX1_checkRange 3 none, Cond.classLink RX1 179 "java/lang/IllegalArgumentException", Cond.initialized "java/lang/IllegalArgumentException", Cond.instanceMethod yX0_copyFrom, Cond.initialized RX0, Cond.selects RX0 yX0_copyFrom yX0_copyFrom, Cond.code yX0_copyFrom cX0_copyFrom 2 none, Cond.fieldLink RX0 9 "EffectTrain$State" "n" "I", Cond.fieldLink RX0 19 "EffectTrain$State" "clock" "I", Cond.fieldLink RX0 15 "EffectTrain$State" "settings" "[I", Cond.methodLink RX0 55 arraycopyName, Cond.native arraycopyName, Cond.static arraycopyName]
def wsX1_scaledAfter_r2 : List Cond := [Cond.initialized "java/lang/System", Cond.fieldLink RX0 22 "EffectTrain$State" "counts" "[I", Cond.fieldLink RX0 25 "EffectTrain$State" "area" "[I", Cond.fieldLink RX0 28 "EffectTrain$State" "water" "[I", Cond.fieldLink RX0 31 "EffectTrain$State" "solids" "[I", Cond.fieldLink RX0 34 "EffectTrain$State" "valve" "[I", Cond.fieldLink RX0 37 "EffectTrain$State" "bleed" "[I", Cond.fieldLink RX0 40 "EffectTrain$State" "scale" "[I", Cond.fieldLink RX0 43 "EffectTrain$State" "scaling" "[I", Cond.fieldLink RX0 46 "EffectTrain$State" "left" "[I", Cond.instanceMethod yX0_pass, Cond.selects RX0 yX0_pass yX0_pass, Cond.code yX0_pass cX0_pass 4 (some .int), Cond.methodLink RX0 68 yX0_beginWashInTurn, Cond.instanceMethod yX0_beginWashInTurn, Cond.selects RX0 yX0_beginWashInTurn yX0_beginWashInTurn, Cond.code yX0_beginWashInTurn cX0_beginWashInTurn 4 none, Cond.methodLink RX0 80 yX0_washedEffects, Cond.instanceMethod yX0_washedEffects, Cond.selects RX0 yX0_washedEffects yX0_washedEffects, Cond.code yX0_washedEffects cX0_washedEffects 3 (some .int), Cond.methodLink RX0 71 yX0_boilAll, Cond.instanceMethod yX0_boilAll, Cond.selects RX0 yX0_boilAll yX0_boilAll]
def wsX1_scaledAfter_r3 : List Cond := [Cond.code yX0_boilAll cX0_boilAll 4 none, Cond.methodLink RX0 84 yX0_boil, Cond.instanceMethod yX0_boil, Cond.selects RX0 yX0_boil yX0_boil, Cond.code yX0_boil cX0_boil 7 (some .int), Cond.methodLink RX0 88 Lib.Math.min.name, Cond.static Lib.Math.min.name, Cond.initialized "java/lang/Math", Cond.code Lib.Math.min.name Lib.Math.min.code 2 (some .int), Cond.methodLink RX0 61 yX0_thickness, Cond.instanceMethod yX0_thickness, Cond.selects RX0 yX0_thickness yX0_thickness, Cond.code yX0_thickness cX0_thickness 3 (some .int), Cond.methodLink RX0 65 yX0_power, Cond.instanceMethod yX0_power, Cond.selects RX0 yX0_power yX0_power, Cond.code yX0_power cX0_power 3 (some .int), Cond.methodLink RX0 74 yX0_flowOn, Cond.instanceMethod yX0_flowOn, Cond.selects RX0 yX0_flowOn yX0_flowOn, Cond.code yX0_flowOn cX0_flowOn 9 none, Cond.methodLink RX0 93 yX0_effectBehind, Cond.instanceMethod yX0_effectBehind, Cond.selects RX0 yX0_effectBehind yX0_effectBehind]
def wsX1_scaledAfter_r4 : List Cond := [Cond.code yX0_effectBehind cX0_effectBehind 3 (some .int), Cond.methodLink RX0 96 yX0_amount, Cond.instanceMethod yX0_amount, Cond.selects RX0 yX0_amount yX0_amount, Cond.code yX0_amount cX0_amount 2 (some .int), Cond.methodLink RX0 99 yX0_flowFrom, Cond.instanceMethod yX0_flowFrom, Cond.selects RX0 yX0_flowFrom yX0_flowFrom, Cond.code yX0_flowFrom cX0_flowFrom 4 (some .int), Cond.methodLink RX0 77 yX0_washOn, Cond.instanceMethod yX0_washOn, Cond.selects RX0 yX0_washOn yX0_washOn, Cond.code yX0_washOn cX0_washOn 2 none, Cond.methodLink RX0 102 Lib.Math.max.name, Cond.static Lib.Math.max.name, Cond.code Lib.Math.max.name Lib.Math.max.code 2 (some .int)]
def wsX1_scaledAfter : List Cond := .code yX1_scaledAfter cX1_scaledAfter 4 (some .int) :: ((wsX1_scaledAfter_r1 ++ (wsX1_scaledAfter_r2 ++ (wsX1_scaledAfter_r3 ++ wsX1_scaledAfter_r4))) ++ wsX10 ++ wsX00 ++ (vx_atS RX1 215 "java/lang/IndexOutOfBoundsException" ["java/lang/RuntimeException", "java/lang/Exception"]).filter goodWord ++ (vx_atS RX1 183 "java/lang/IllegalArgumentException" ["java/lang/RuntimeException", "java/lang/Exception"]).filter goodWord)
def wsX1_steamFor_r1 : List Cond := [Cond.fieldLink RX1 28 "EffectTrain" "trial" "LEffectTrain$State;", Cond.fieldLink RX1 24 "EffectTrain" "now" "LEffectTrain$State;", Cond.methodLink RX1 51 yX1_checkRange, Cond.static yX1_checkRange, Cond.initialized RX1, Cond.code yX1_checkRange cX1_checkRange 3 none, Cond.classLink RX1 179 "java/lang/IllegalArgumentException", Cond.initialized "java/lang/IllegalArgumentException", Cond.instanceMethod yX0_copyFrom, Cond.initialized RX0, Cond.selects RX0 yX0_copyFrom yX0_copyFrom, Cond.code yX0_copyFrom cX0_copyFrom 2 none, Cond.fieldLink RX0 9 "EffectTrain$State" "n" "I", Cond.fieldLink RX0 19 "EffectTrain$State" "clock" "I", Cond.fieldLink RX0 15 "EffectTrain$State" "settings" "[I", Cond.methodLink RX0 55 arraycopyName, Cond.native arraycopyName, Cond.static arraycopyName, Cond.initialized "java/lang/System", Cond.fieldLink RX0 22 "EffectTrain$State" "counts" "[I", Cond.fieldLink RX0 25 "EffectTrain$State" "area" "[I", Cond.fieldLink RX0 28 "EffectTrain$State" "water" "[I", Cond.fieldLink RX0 31 "EffectTrain$State" "solids" "[I", Cond.fieldLink RX0 34 "EffectTrain$State" "valve" "[I"]
def wsX1_steamFor_r2 : List Cond := [Cond.fieldLink RX0 37 "EffectTrain$State" "bleed" "[I", Cond.fieldLink RX0 40 "EffectTrain$State" "scale" "[I", Cond.fieldLink RX0 43 "EffectTrain$State" "scaling" "[I", Cond.fieldLink RX0 46 "EffectTrain$State" "left" "[I", Cond.instanceMethod yX0_pass, Cond.selects RX0 yX0_pass yX0_pass, Cond.code yX0_pass cX0_pass 4 (some .int), Cond.methodLink RX0 68 yX0_beginWashInTurn, Cond.instanceMethod yX0_beginWashInTurn, Cond.selects RX0 yX0_beginWashInTurn yX0_beginWashInTurn, Cond.code yX0_beginWashInTurn cX0_beginWashInTurn 4 none, Cond.methodLink RX0 80 yX0_washedEffects, Cond.instanceMethod yX0_washedEffects, Cond.selects RX0 yX0_washedEffects yX0_washedEffects, Cond.code yX0_washedEffects cX0_washedEffects 3 (some .int), Cond.methodLink RX0 71 yX0_boilAll, Cond.instanceMethod yX0_boilAll, Cond.selects RX0 yX0_boilAll yX0_boilAll, Cond.code yX0_boilAll cX0_boilAll 4 none, Cond.methodLink RX0 84 yX0_boil, Cond.instanceMethod yX0_boil, Cond.selects RX0 yX0_boil yX0_boil, Cond.code yX0_boil cX0_boil 7 (some .int), Cond.methodLink RX0 88 Lib.Math.min.name]
def wsX1_steamFor_r3 : List Cond := [Cond.static Lib.Math.min.name, Cond.initialized "java/lang/Math", Cond.code Lib.Math.min.name Lib.Math.min.code 2 (some .int), Cond.methodLink RX0 61 yX0_thickness, Cond.instanceMethod yX0_thickness, Cond.selects RX0 yX0_thickness yX0_thickness, Cond.code yX0_thickness cX0_thickness 3 (some .int), Cond.methodLink RX0 65 yX0_power, Cond.instanceMethod yX0_power, Cond.selects RX0 yX0_power yX0_power, Cond.code yX0_power cX0_power 3 (some .int), Cond.methodLink RX0 74 yX0_flowOn, Cond.instanceMethod yX0_flowOn, Cond.selects RX0 yX0_flowOn yX0_flowOn, Cond.code yX0_flowOn cX0_flowOn 9 none, Cond.methodLink RX0 93 yX0_effectBehind, Cond.instanceMethod yX0_effectBehind, Cond.selects RX0 yX0_effectBehind yX0_effectBehind, Cond.code yX0_effectBehind cX0_effectBehind 3 (some .int), Cond.methodLink RX0 96 yX0_amount, Cond.instanceMethod yX0_amount, Cond.selects RX0 yX0_amount yX0_amount, Cond.code yX0_amount cX0_amount 2 (some .int), Cond.methodLink RX0 99 yX0_flowFrom]
def wsX1_steamFor_r4 : List Cond := [Cond.instanceMethod yX0_flowFrom, Cond.selects RX0 yX0_flowFrom yX0_flowFrom, Cond.code yX0_flowFrom cX0_flowFrom 4 (some .int), Cond.methodLink RX0 77 yX0_washOn, Cond.instanceMethod yX0_washOn, Cond.selects RX0 yX0_washOn yX0_washOn, Cond.code yX0_washOn cX0_washOn 2 none, Cond.methodLink RX0 102 Lib.Math.max.name, Cond.static Lib.Math.max.name, Cond.code Lib.Math.max.name Lib.Math.max.code 2 (some .int)]
def wsX1_steamFor : List Cond := .code yX1_steamFor cX1_steamFor 4 (some .int) :: ((wsX1_steamFor_r1 ++ (wsX1_steamFor_r2 ++ (wsX1_steamFor_r3 ++ wsX1_steamFor_r4))) ++ wsX10 ++ wsX00 ++ (vx_atS RX1 183 "java/lang/IllegalArgumentException" ["java/lang/RuntimeException", "java/lang/Exception"]).filter goodWord)
def wsX1_withoutLastGroups : List Cond := .code yX1_withoutLastGroups cX1_withoutLastGroups 6 (some .long) :: ([.constantLong RX1 184 (100000)])
def wsX1_runEffectCommand : List Cond := .code yX1_runEffectCommand cX1_runEffectCommand 4 (some .boolean) :: ([.fieldLink RX1 28 "EffectTrain" "trial" "LEffectTrain$State;", .instanceMethod yX0_thickness, .initialized RX0, .selects RX0 yX0_thickness yX0_thickness, .code yX0_thickness cX0_thickness 3 (some .int), .fieldLink RX0 28 "EffectTrain$State" "water" "[I", .fieldLink RX0 31 "EffectTrain$State" "solids" "[I"] ++ wsX10 ++ wsX00)
def wsX1_runCommand_r1 : List Cond := [Cond.fieldLink RX1 28 "EffectTrain" "trial" "LEffectTrain$State;", Cond.fieldLink RX1 88 "EffectTrain" "GREATEST" "[I", Cond.instanceMethod yX0_pass, Cond.initialized RX0, Cond.selects RX0 yX0_pass yX0_pass, Cond.code yX0_pass cX0_pass 4 (some .int), Cond.fieldLink RX0 22 "EffectTrain$State" "counts" "[I", Cond.fieldLink RX0 19 "EffectTrain$State" "clock" "I", Cond.methodLink RX0 68 yX0_beginWashInTurn, Cond.instanceMethod yX0_beginWashInTurn, Cond.selects RX0 yX0_beginWashInTurn yX0_beginWashInTurn, Cond.code yX0_beginWashInTurn cX0_beginWashInTurn 4 none, Cond.fieldLink RX0 15 "EffectTrain$State" "settings" "[I", Cond.fieldLink RX0 9 "EffectTrain$State" "n" "I", Cond.fieldLink RX0 40 "EffectTrain$State" "scale" "[I", Cond.fieldLink RX0 46 "EffectTrain$State" "left" "[I", Cond.methodLink RX0 80 yX0_washedEffects, Cond.instanceMethod yX0_washedEffects, Cond.selects RX0 yX0_washedEffects yX0_washedEffects, Cond.code yX0_washedEffects cX0_washedEffects 3 (some .int), Cond.methodLink RX0 71 yX0_boilAll, Cond.instanceMethod yX0_boilAll, Cond.selects RX0 yX0_boilAll yX0_boilAll, Cond.code yX0_boilAll cX0_boilAll 4 none]
def wsX1_runCommand_r2 : List Cond := [Cond.methodLink RX0 84 yX0_boil, Cond.instanceMethod yX0_boil, Cond.selects RX0 yX0_boil yX0_boil, Cond.code yX0_boil cX0_boil 7 (some .int), Cond.methodLink RX0 88 Lib.Math.min.name, Cond.static Lib.Math.min.name, Cond.initialized "java/lang/Math", Cond.code Lib.Math.min.name Lib.Math.min.code 2 (some .int), Cond.fieldLink RX0 28 "EffectTrain$State" "water" "[I", Cond.fieldLink RX0 37 "EffectTrain$State" "bleed" "[I", Cond.fieldLink RX0 43 "EffectTrain$State" "scaling" "[I", Cond.methodLink RX0 61 yX0_thickness, Cond.instanceMethod yX0_thickness, Cond.selects RX0 yX0_thickness yX0_thickness, Cond.code yX0_thickness cX0_thickness 3 (some .int), Cond.fieldLink RX0 31 "EffectTrain$State" "solids" "[I", Cond.methodLink RX0 65 yX0_power, Cond.instanceMethod yX0_power, Cond.selects RX0 yX0_power yX0_power, Cond.code yX0_power cX0_power 3 (some .int), Cond.fieldLink RX0 25 "EffectTrain$State" "area" "[I", Cond.methodLink RX0 74 yX0_flowOn, Cond.instanceMethod yX0_flowOn, Cond.selects RX0 yX0_flowOn yX0_flowOn]
def wsX1_runCommand_r3 : List Cond := [Cond.code yX0_flowOn cX0_flowOn 9 none, Cond.methodLink RX0 93 yX0_effectBehind, Cond.instanceMethod yX0_effectBehind, Cond.selects RX0 yX0_effectBehind yX0_effectBehind, Cond.code yX0_effectBehind cX0_effectBehind 3 (some .int), Cond.methodLink RX0 96 yX0_amount, Cond.instanceMethod yX0_amount, Cond.selects RX0 yX0_amount yX0_amount, Cond.code yX0_amount cX0_amount 2 (some .int), Cond.methodLink RX0 99 yX0_flowFrom, Cond.instanceMethod yX0_flowFrom, Cond.selects RX0 yX0_flowFrom yX0_flowFrom, Cond.code yX0_flowFrom cX0_flowFrom 4 (some .int), Cond.fieldLink RX0 34 "EffectTrain$State" "valve" "[I", Cond.methodLink RX0 77 yX0_washOn, Cond.instanceMethod yX0_washOn, Cond.selects RX0 yX0_washOn yX0_washOn, Cond.code yX0_washOn cX0_washOn 2 none, Cond.methodLink RX0 102 Lib.Math.max.name, Cond.static Lib.Math.max.name, Cond.code Lib.Math.max.name Lib.Math.max.code 2 (some .int), Cond.methodLink RX1 190 yX1_runEffectCommand, Cond.instanceMethod yX1_runEffectCommand, Cond.selects RX1 yX1_runEffectCommand yX1_runEffectCommand]
def wsX1_runCommand_r4 : List Cond := [Cond.initialized RX1, Cond.code yX1_runEffectCommand cX1_runEffectCommand 4 (some .boolean)]
def wsX1_runCommand : List Cond := .code yX1_runCommand cX1_runCommand 4 (some .boolean) :: ((wsX1_runCommand_r1 ++ (wsX1_runCommand_r2 ++ (wsX1_runCommand_r3 ++ wsX1_runCommand_r4))) ++ wsX10 ++ wsX00)
def wsX1_runScript_r1 : List Cond := [Cond.classLink RX1 179 "java/lang/IllegalArgumentException", Cond.initialized "java/lang/IllegalArgumentException", Cond.fieldLink RX1 28 "EffectTrain" "trial" "LEffectTrain$State;", Cond.fieldLink RX1 24 "EffectTrain" "now" "LEffectTrain$State;", Cond.constantLong RX1 184 (100000), Cond.methodLink RX1 51 yX1_checkRange, Cond.static yX1_checkRange, Cond.initialized RX1, Cond.code yX1_checkRange cX1_checkRange 3 none, Cond.methodLink RX1 175 yX1_withoutLastGroups, Cond.static yX1_withoutLastGroups, Cond.code yX1_withoutLastGroups cX1_withoutLastGroups 6 (some .long), Cond.instanceMethod yX0_copyFrom, Cond.initialized RX0, Cond.selects RX0 yX0_copyFrom yX0_copyFrom, Cond.code yX0_copyFrom cX0_copyFrom 2 none, Cond.fieldLink RX0 9 "EffectTrain$State" "n" "I", Cond.fieldLink RX0 19 "EffectTrain$State" "clock" "I", Cond.fieldLink RX0 15 "EffectTrain$State" "settings" "[I", Cond.methodLink RX0 55 arraycopyName, Cond.native arraycopyName, Cond.static arraycopyName, Cond.initialized "java/lang/System", Cond.fieldLink RX0 22 "EffectTrain$State" "counts" "[I"]
def wsX1_runScript_r2 : List Cond := [Cond.fieldLink RX0 25 "EffectTrain$State" "area" "[I", Cond.fieldLink RX0 28 "EffectTrain$State" "water" "[I", Cond.fieldLink RX0 31 "EffectTrain$State" "solids" "[I", Cond.fieldLink RX0 34 "EffectTrain$State" "valve" "[I", Cond.fieldLink RX0 37 "EffectTrain$State" "bleed" "[I", Cond.fieldLink RX0 40 "EffectTrain$State" "scale" "[I", Cond.fieldLink RX0 43 "EffectTrain$State" "scaling" "[I", Cond.fieldLink RX0 46 "EffectTrain$State" "left" "[I", Cond.methodLink RX1 186 yX1_runCommand, Cond.instanceMethod yX1_runCommand, Cond.selects RX1 yX1_runCommand yX1_runCommand, Cond.code yX1_runCommand cX1_runCommand 4 (some .boolean), Cond.fieldLink RX1 88 "EffectTrain" "GREATEST" "[I", Cond.instanceMethod yX0_pass, Cond.selects RX0 yX0_pass yX0_pass, Cond.code yX0_pass cX0_pass 4 (some .int), Cond.methodLink RX0 68 yX0_beginWashInTurn, Cond.instanceMethod yX0_beginWashInTurn, Cond.selects RX0 yX0_beginWashInTurn yX0_beginWashInTurn, Cond.code yX0_beginWashInTurn cX0_beginWashInTurn 4 none, Cond.methodLink RX0 80 yX0_washedEffects, Cond.instanceMethod yX0_washedEffects, Cond.selects RX0 yX0_washedEffects yX0_washedEffects, Cond.code yX0_washedEffects cX0_washedEffects 3 (some .int)]
def wsX1_runScript_r3 : List Cond := [Cond.methodLink RX0 71 yX0_boilAll, Cond.instanceMethod yX0_boilAll, Cond.selects RX0 yX0_boilAll yX0_boilAll, Cond.code yX0_boilAll cX0_boilAll 4 none, Cond.methodLink RX0 84 yX0_boil, Cond.instanceMethod yX0_boil, Cond.selects RX0 yX0_boil yX0_boil, Cond.code yX0_boil cX0_boil 7 (some .int), Cond.methodLink RX0 88 Lib.Math.min.name, Cond.static Lib.Math.min.name, Cond.initialized "java/lang/Math", Cond.code Lib.Math.min.name Lib.Math.min.code 2 (some .int), Cond.methodLink RX0 61 yX0_thickness, Cond.instanceMethod yX0_thickness, Cond.selects RX0 yX0_thickness yX0_thickness, Cond.code yX0_thickness cX0_thickness 3 (some .int), Cond.methodLink RX0 65 yX0_power, Cond.instanceMethod yX0_power, Cond.selects RX0 yX0_power yX0_power, Cond.code yX0_power cX0_power 3 (some .int), Cond.methodLink RX0 74 yX0_flowOn, Cond.instanceMethod yX0_flowOn, Cond.selects RX0 yX0_flowOn yX0_flowOn, Cond.code yX0_flowOn cX0_flowOn 9 none]
def wsX1_runScript_r4 : List Cond := [Cond.methodLink RX0 93 yX0_effectBehind, Cond.instanceMethod yX0_effectBehind, Cond.selects RX0 yX0_effectBehind yX0_effectBehind, Cond.code yX0_effectBehind cX0_effectBehind 3 (some .int), Cond.methodLink RX0 96 yX0_amount, Cond.instanceMethod yX0_amount, Cond.selects RX0 yX0_amount yX0_amount, Cond.code yX0_amount cX0_amount 2 (some .int), Cond.methodLink RX0 99 yX0_flowFrom, Cond.instanceMethod yX0_flowFrom, Cond.selects RX0 yX0_flowFrom yX0_flowFrom, Cond.code yX0_flowFrom cX0_flowFrom 4 (some .int), Cond.methodLink RX0 77 yX0_washOn, Cond.instanceMethod yX0_washOn, Cond.selects RX0 yX0_washOn yX0_washOn, Cond.code yX0_washOn cX0_washOn 2 none, Cond.methodLink RX0 102 Lib.Math.max.name, Cond.static Lib.Math.max.name, Cond.code Lib.Math.max.name Lib.Math.max.code 2 (some .int), Cond.methodLink RX1 190 yX1_runEffectCommand, Cond.instanceMethod yX1_runEffectCommand, Cond.selects RX1 yX1_runEffectCommand yX1_runEffectCommand, Cond.code yX1_runEffectCommand cX1_runEffectCommand 4 (some .boolean)]
def wsX1_runScript : List Cond := .code yX1_runScript cX1_runScript 6 (some .int) :: ((wsX1_runScript_r1 ++ (wsX1_runScript_r2 ++ (wsX1_runScript_r3 ++ wsX1_runScript_r4))) ++ wsX10 ++ wsX00 ++ (vx_atS RX1 183 "java/lang/IllegalArgumentException" ["java/lang/RuntimeException", "java/lang/Exception"]).filter goodWord)
def wsX1_disturb : List Cond := .code yX1_disturb cX1_disturb 4 none :: ([.fieldLink RX1 28 "EffectTrain" "trial" "LEffectTrain$State;"] ++ wsX10 ++ wsX00)
def wsX1_simulate_r1 : List Cond := [Cond.fieldLink RX1 28 "EffectTrain" "trial" "LEffectTrain$State;", Cond.fieldLink RX1 24 "EffectTrain" "now" "LEffectTrain$State;", Cond.constantLong RX1 197 (6364136223846793005), Cond.constantLong RX1 199 (1442695040888963407), Cond.methodLink RX1 51 yX1_checkRange, Cond.static yX1_checkRange, Cond.initialized RX1, Cond.code yX1_checkRange cX1_checkRange 3 none, Cond.classLink RX1 179 "java/lang/IllegalArgumentException", Cond.initialized "java/lang/IllegalArgumentException", Cond.instanceMethod yX0_copyFrom, Cond.initialized RX0, Cond.selects RX0 yX0_copyFrom yX0_copyFrom, Cond.code yX0_copyFrom cX0_copyFrom 2 none, Cond.fieldLink RX0 9 "EffectTrain$State" "n" "I", Cond.fieldLink RX0 19 "EffectTrain$State" "clock" "I", Cond.fieldLink RX0 15 "EffectTrain$State" "settings" "[I", Cond.methodLink RX0 55 arraycopyName, Cond.native arraycopyName, Cond.static arraycopyName, Cond.initialized "java/lang/System", Cond.fieldLink RX0 22 "EffectTrain$State" "counts" "[I", Cond.fieldLink RX0 25 "EffectTrain$State" "area" "[I", Cond.fieldLink RX0 28 "EffectTrain$State" "water" "[I"]
def wsX1_simulate_r2 : List Cond := [Cond.fieldLink RX0 31 "EffectTrain$State" "solids" "[I", Cond.fieldLink RX0 34 "EffectTrain$State" "valve" "[I", Cond.fieldLink RX0 37 "EffectTrain$State" "bleed" "[I", Cond.fieldLink RX0 40 "EffectTrain$State" "scale" "[I", Cond.fieldLink RX0 43 "EffectTrain$State" "scaling" "[I", Cond.fieldLink RX0 46 "EffectTrain$State" "left" "[I", Cond.methodLink RX1 201 yX1_disturb, Cond.instanceMethod yX1_disturb, Cond.selects RX1 yX1_disturb yX1_disturb, Cond.code yX1_disturb cX1_disturb 4 none, Cond.instanceMethod yX0_pass, Cond.selects RX0 yX0_pass yX0_pass, Cond.code yX0_pass cX0_pass 4 (some .int), Cond.methodLink RX0 68 yX0_beginWashInTurn, Cond.instanceMethod yX0_beginWashInTurn, Cond.selects RX0 yX0_beginWashInTurn yX0_beginWashInTurn, Cond.code yX0_beginWashInTurn cX0_beginWashInTurn 4 none, Cond.methodLink RX0 80 yX0_washedEffects, Cond.instanceMethod yX0_washedEffects, Cond.selects RX0 yX0_washedEffects yX0_washedEffects, Cond.code yX0_washedEffects cX0_washedEffects 3 (some .int), Cond.methodLink RX0 71 yX0_boilAll, Cond.instanceMethod yX0_boilAll, Cond.selects RX0 yX0_boilAll yX0_boilAll]
def wsX1_simulate_r3 : List Cond := [Cond.code yX0_boilAll cX0_boilAll 4 none, Cond.methodLink RX0 84 yX0_boil, Cond.instanceMethod yX0_boil, Cond.selects RX0 yX0_boil yX0_boil, Cond.code yX0_boil cX0_boil 7 (some .int), Cond.methodLink RX0 88 Lib.Math.min.name, Cond.static Lib.Math.min.name, Cond.initialized "java/lang/Math", Cond.code Lib.Math.min.name Lib.Math.min.code 2 (some .int), Cond.methodLink RX0 61 yX0_thickness, Cond.instanceMethod yX0_thickness, Cond.selects RX0 yX0_thickness yX0_thickness, Cond.code yX0_thickness cX0_thickness 3 (some .int), Cond.methodLink RX0 65 yX0_power, Cond.instanceMethod yX0_power, Cond.selects RX0 yX0_power yX0_power, Cond.code yX0_power cX0_power 3 (some .int), Cond.methodLink RX0 74 yX0_flowOn, Cond.instanceMethod yX0_flowOn, Cond.selects RX0 yX0_flowOn yX0_flowOn, Cond.code yX0_flowOn cX0_flowOn 9 none, Cond.methodLink RX0 93 yX0_effectBehind, Cond.instanceMethod yX0_effectBehind, Cond.selects RX0 yX0_effectBehind yX0_effectBehind]
def wsX1_simulate_r4 : List Cond := [Cond.code yX0_effectBehind cX0_effectBehind 3 (some .int), Cond.methodLink RX0 96 yX0_amount, Cond.instanceMethod yX0_amount, Cond.selects RX0 yX0_amount yX0_amount, Cond.code yX0_amount cX0_amount 2 (some .int), Cond.methodLink RX0 99 yX0_flowFrom, Cond.instanceMethod yX0_flowFrom, Cond.selects RX0 yX0_flowFrom yX0_flowFrom, Cond.code yX0_flowFrom cX0_flowFrom 4 (some .int), Cond.methodLink RX0 77 yX0_washOn, Cond.instanceMethod yX0_washOn, Cond.selects RX0 yX0_washOn yX0_washOn, Cond.code yX0_washOn cX0_washOn 2 none, Cond.methodLink RX0 102 Lib.Math.max.name, Cond.static Lib.Math.max.name, Cond.code Lib.Math.max.name Lib.Math.max.code 2 (some .int)]
def wsX1_simulate : List Cond := .code yX1_simulate cX1_simulate 8 (some .int) :: ((wsX1_simulate_r1 ++ (wsX1_simulate_r2 ++ (wsX1_simulate_r3 ++ wsX1_simulate_r4))) ++ wsX10 ++ wsX00 ++ (vx_atS RX1 183 "java/lang/IllegalArgumentException" ["java/lang/RuntimeException", "java/lang/Exception"]).filter goodWord)
def wsX1_checkSlot : List Cond := .code yX1_checkSlot cX1_checkSlot 1 none :: ([.classLink RX1 211 "java/lang/IndexOutOfBoundsException", .initialized "java/lang/IndexOutOfBoundsException"] ++ (vx_atS RX1 215 "java/lang/IndexOutOfBoundsException" ["java/lang/RuntimeException", "java/lang/Exception"]).filter goodWord)
def wsX1_save_r1 : List Cond := [Cond.fieldLink RX1 44 "EffectTrain" "slots" "[LEffectTrain$State;", Cond.fieldLink RX1 24 "EffectTrain" "now" "LEffectTrain$State;", Cond.fieldLink RX1 47 "EffectTrain" "slotFilled" "[Z", Cond.methodLink RX1 204 yX1_checkSlot, Cond.static yX1_checkSlot, Cond.initialized RX1, Cond.code yX1_checkSlot cX1_checkSlot 1 none, Cond.classLink RX1 211 "java/lang/IndexOutOfBoundsException", Cond.initialized "java/lang/IndexOutOfBoundsException", Cond.methodLink RX1 151 yX1_stateAt, Cond.static yX1_stateAt, Cond.code yX1_stateAt cX1_stateAt 3 (some (.object "EffectTrain$State")), Cond.classLink RX1 21 RX0, Cond.instantiable RX0 12, Cond.initialized RX0, Cond.instanceMethod yX0_init, Cond.code yX0_init cX0_init 1 none, Cond.methodLink RX0 3 objectInit, Cond.instanceMethod objectInit, Cond.code objectInit ⟨#[0xb1]⟩ 1 none, Cond.fieldLink RX0 9 "EffectTrain$State" "n" "I", Cond.arrayClass .int, Cond.fieldLink RX0 15 "EffectTrain$State" "settings" "[I", Cond.fieldLink RX0 19 "EffectTrain$State" "clock" "I"]
def wsX1_save_r2 : List Cond := [Cond.fieldLink RX0 22 "EffectTrain$State" "counts" "[I", Cond.fieldLink RX0 25 "EffectTrain$State" "area" "[I", Cond.fieldLink RX0 28 "EffectTrain$State" "water" "[I", Cond.fieldLink RX0 31 "EffectTrain$State" "solids" "[I", Cond.fieldLink RX0 34 "EffectTrain$State" "valve" "[I", Cond.fieldLink RX0 37 "EffectTrain$State" "bleed" "[I", Cond.fieldLink RX0 40 "EffectTrain$State" "scale" "[I", Cond.fieldLink RX0 43 "EffectTrain$State" "scaling" "[I", Cond.fieldLink RX0 46 "EffectTrain$State" "left" "[I", Cond.methodLink RX0 49 yJ7_fill_53178, Cond.static yJ7_fill_53178, Cond.initialized RJ7, Cond.code yJ7_fill_53178 cJ7_fill_53178 4 none, Cond.instanceMethod yX0_copyFrom, Cond.selects RX0 yX0_copyFrom yX0_copyFrom, Cond.code yX0_copyFrom cX0_copyFrom 2 none, Cond.methodLink RX0 55 arraycopyName, Cond.native arraycopyName, Cond.static arraycopyName, Cond.initialized "java/lang/System"]
def wsX1_save : List Cond := .code yX1_save cX1_save 2 (some .int) :: ((wsX1_save_r1 ++ wsX1_save_r2) ++ wsX10 ++ wsX00 ++ (vx_atS RX1 215 "java/lang/IndexOutOfBoundsException" ["java/lang/RuntimeException", "java/lang/Exception"]).filter goodWord)
def wsX1_restore_r1 : List Cond := [Cond.classLink RX1 55 "java/lang/IllegalStateException", Cond.initialized "java/lang/IllegalStateException", Cond.fieldLink RX1 47 "EffectTrain" "slotFilled" "[Z", Cond.fieldLink RX1 24 "EffectTrain" "now" "LEffectTrain$State;", Cond.fieldLink RX1 44 "EffectTrain" "slots" "[LEffectTrain$State;", Cond.fieldLink RX1 41 "EffectTrain" "rememberedCount" "I", Cond.methodLink RX1 204 yX1_checkSlot, Cond.static yX1_checkSlot, Cond.initialized RX1, Cond.code yX1_checkSlot cX1_checkSlot 1 none, Cond.classLink RX1 211 "java/lang/IndexOutOfBoundsException", Cond.initialized "java/lang/IndexOutOfBoundsException", Cond.methodLink RX1 151 yX1_stateAt, Cond.static yX1_stateAt, Cond.code yX1_stateAt cX1_stateAt 3 (some (.object "EffectTrain$State")), Cond.classLink RX1 21 RX0, Cond.instantiable RX0 12, Cond.initialized RX0, Cond.instanceMethod yX0_init, Cond.code yX0_init cX0_init 1 none, Cond.methodLink RX0 3 objectInit, Cond.instanceMethod objectInit, Cond.code objectInit ⟨#[0xb1]⟩ 1 none, Cond.fieldLink RX0 9 "EffectTrain$State" "n" "I"]
def wsX1_restore_r2 : List Cond := [Cond.arrayClass .int, Cond.fieldLink RX0 15 "EffectTrain$State" "settings" "[I", Cond.fieldLink RX0 19 "EffectTrain$State" "clock" "I", Cond.fieldLink RX0 22 "EffectTrain$State" "counts" "[I", Cond.fieldLink RX0 25 "EffectTrain$State" "area" "[I", Cond.fieldLink RX0 28 "EffectTrain$State" "water" "[I", Cond.fieldLink RX0 31 "EffectTrain$State" "solids" "[I", Cond.fieldLink RX0 34 "EffectTrain$State" "valve" "[I", Cond.fieldLink RX0 37 "EffectTrain$State" "bleed" "[I", Cond.fieldLink RX0 40 "EffectTrain$State" "scale" "[I", Cond.fieldLink RX0 43 "EffectTrain$State" "scaling" "[I", Cond.fieldLink RX0 46 "EffectTrain$State" "left" "[I", Cond.methodLink RX0 49 yJ7_fill_53178, Cond.static yJ7_fill_53178, Cond.initialized RJ7, Cond.code yJ7_fill_53178 cJ7_fill_53178 4 none, Cond.instanceMethod yX0_copyFrom, Cond.selects RX0 yX0_copyFrom yX0_copyFrom, Cond.code yX0_copyFrom cX0_copyFrom 2 none, Cond.methodLink RX0 55 arraycopyName, Cond.native arraycopyName, Cond.static arraycopyName, Cond.initialized "java/lang/System"]
def wsX1_restore : List Cond := .code yX1_restore cX1_restore 2 (some .int) :: ((wsX1_restore_r1 ++ wsX1_restore_r2) ++ wsX10 ++ wsX00 ++ (vx_atS RX1 59 "java/lang/IllegalStateException" ["java/lang/RuntimeException", "java/lang/Exception"]).filter goodWord ++ (vx_atS RX1 215 "java/lang/IndexOutOfBoundsException" ["java/lang/RuntimeException", "java/lang/Exception"]).filter goodWord)
def wsX2_init : List Cond := .code yX2_init cX2_init 2 none :: ([.methodLink RX2 1 objectInit, .instanceMethod objectInit, .code objectInit ⟨#[0xb1]⟩ 1 none, .arrayClass .int, .fieldLink RX2 7 "EffectTrainModel" "script" "[I", .fieldLink RX2 13 "EffectTrainModel" "readRow" "[I", .fieldLink RX2 16 "EffectTrainModel" "now" "[I", .fieldLink RX2 19 "EffectTrainModel" "trial" "[I", .fieldLink RX2 22 "EffectTrainModel" "diary" "[I", .fieldLink RX2 25 "EffectTrainModel" "kept" "[I", .arrayClass .boolean, .fieldLink RX2 28 "EffectTrainModel" "isKept" "[Z", .fieldLink RX2 32 "EffectTrainModel" "flow" "[I", .fieldLink RX2 35 "EffectTrainModel" "salt" "[I", .fieldLink RX2 38 "EffectTrainModel" "n" "I"] ++ wsX20)
def wsX2_thrown : List Cond := .code yX2_thrown cX2_thrown 1 (some .int) :: ([.fieldLink RX2 42 "EffectTrainModel" "refusal" "I"] ++ wsX20)
def wsX2_refused : List Cond := .code yX2_refused cX2_refused 2 (some .boolean) :: ([.fieldLink RX2 42 "EffectTrainModel" "refusal" "I"] ++ wsX20)
def wsX2_in : List Cond := .code yX2_in cX2_in 6 (some .boolean) :: ([])
def wsX2_copy : List Cond := .code yX2_copy cX2_copy 6 none :: ([])
def wsX2_tenTo : List Cond := .code yX2_tenTo cX2_tenTo 4 (some .long) :: ([.constantLong RX2 45 (10)])
def wsX2_less : List Cond := .code yX2_less cX2_less 2 (some .int) :: ([])
def wsX2_note : List Cond := .code yX2_note cX2_note 1 none :: ([.fieldLink RX2 47 "EffectTrainModel" "acts" "I", .fieldLink RX2 22 "EffectTrainModel" "diary" "[I", .fieldLink RX2 16 "EffectTrainModel" "now" "[I", .methodLink RX2 50 yX2_copy, .static yX2_copy, .initialized RX2, .code yX2_copy cX2_copy 6 none] ++ wsX20)
def wsX2_isEffect : List Cond := .code yX2_isEffect cX2_isEffect 2 (some .boolean) :: ([.fieldLink RX2 38 "EffectTrainModel" "n" "I", .methodLink RX2 54 yX2_in, .static yX2_in, .initialized RX2, .code yX2_in cX2_in 6 (some .boolean)] ++ wsX20)
def wsX2_amount : List Cond := .code yX2_amount cX2_amount 2 (some .int) :: ([])
def wsX2_thickness : List Cond := .code yX2_thickness cX2_thickness 2 (some .int) :: ([.methodLink RX2 58 yX2_amount, .static yX2_amount, .initialized RX2, .code yX2_amount cX2_amount 2 (some .int)])
def wsX2_power : List Cond := .code yX2_power cX2_power 2 (some .int) :: ([])
def wsX2_works : List Cond := .code yX2_works cX2_works 2 (some .boolean) :: ([])
def wsX2_before : List Cond := .code yX2_before cX2_before 3 (some .int) :: ([.methodLink RX2 62 yX2_works, .static yX2_works, .initialized RX2, .code yX2_works cX2_works 2 (some .boolean)])
def wsX2_behind : List Cond := .code yX2_behind cX2_behind 4 (some .int) :: ([.fieldLink RX2 38 "EffectTrainModel" "n" "I", .methodLink RX2 62 yX2_works, .static yX2_works, .initialized RX2, .code yX2_works cX2_works 2 (some .boolean)] ++ wsX20)
def wsX2_washed : List Cond := .code yX2_washed cX2_washed 4 (some .int) :: ([.fieldLink RX2 38 "EffectTrainModel" "n" "I", .methodLink RX2 62 yX2_works, .static yX2_works, .initialized RX2, .code yX2_works cX2_works 2 (some .boolean)] ++ wsX20)
def wsX2_boil : List Cond := .code yX2_boil cX2_boil 7 none :: ([.fieldLink RX2 38 "EffectTrainModel" "n" "I", .methodLink RX2 66 yX2_washed, .instanceMethod yX2_washed, .selects RX2 yX2_washed yX2_washed, .initialized RX2, .code yX2_washed cX2_washed 4 (some .int), .methodLink RX2 62 yX2_works, .static yX2_works, .code yX2_works cX2_works 2 (some .boolean), .methodLink RX2 77 yX2_thickness, .static yX2_thickness, .code yX2_thickness cX2_thickness 2 (some .int), .methodLink RX2 58 yX2_amount, .static yX2_amount, .code yX2_amount cX2_amount 2 (some .int), .methodLink RX2 80 yX2_power, .static yX2_power, .code yX2_power cX2_power 2 (some .int), .methodLink RX2 83 yX2_less, .static yX2_less, .code yX2_less cX2_less 2 (some .int)] ++ wsX20)
def wsX2_go : List Cond := .code yX2_go cX2_go 8 none :: ([.fieldLink RX2 38 "EffectTrainModel" "n" "I", .fieldLink RX2 32 "EffectTrainModel" "flow" "[I", .fieldLink RX2 35 "EffectTrainModel" "salt" "[I", .methodLink RX2 87 yX2_behind, .instanceMethod yX2_behind, .selects RX2 yX2_behind yX2_behind, .initialized RX2, .code yX2_behind cX2_behind 4 (some .int), .methodLink RX2 62 yX2_works, .static yX2_works, .code yX2_works cX2_works 2 (some .boolean), .methodLink RX2 58 yX2_amount, .static yX2_amount, .code yX2_amount cX2_amount 2 (some .int), .methodLink RX2 83 yX2_less, .static yX2_less, .code yX2_less cX2_less 2 (some .int)] ++ wsX20)
def wsX2_tickOn_r1 : List Cond := [Cond.fieldLink RX2 38 "EffectTrainModel" "n" "I", Cond.methodLink RX2 66 yX2_washed, Cond.instanceMethod yX2_washed, Cond.selects RX2 yX2_washed yX2_washed, Cond.initialized RX2, Cond.code yX2_washed cX2_washed 4 (some .int), Cond.methodLink RX2 62 yX2_works, Cond.static yX2_works, Cond.code yX2_works cX2_works 2 (some .boolean), Cond.methodLink RX2 70 yX2_boil, Cond.instanceMethod yX2_boil, Cond.selects RX2 yX2_boil yX2_boil, Cond.code yX2_boil cX2_boil 7 none, Cond.methodLink RX2 77 yX2_thickness, Cond.static yX2_thickness, Cond.code yX2_thickness cX2_thickness 2 (some .int), Cond.methodLink RX2 58 yX2_amount, Cond.static yX2_amount, Cond.code yX2_amount cX2_amount 2 (some .int), Cond.methodLink RX2 80 yX2_power, Cond.static yX2_power, Cond.code yX2_power cX2_power 2 (some .int), Cond.methodLink RX2 83 yX2_less, Cond.static yX2_less]
def wsX2_tickOn_r2 : List Cond := [Cond.code yX2_less cX2_less 2 (some .int), Cond.methodLink RX2 74 yX2_go, Cond.instanceMethod yX2_go, Cond.selects RX2 yX2_go yX2_go, Cond.code yX2_go cX2_go 8 none, Cond.fieldLink RX2 32 "EffectTrainModel" "flow" "[I", Cond.fieldLink RX2 35 "EffectTrainModel" "salt" "[I", Cond.methodLink RX2 87 yX2_behind, Cond.instanceMethod yX2_behind, Cond.selects RX2 yX2_behind yX2_behind, Cond.code yX2_behind cX2_behind 4 (some .int)]
def wsX2_tickOn : List Cond := .code yX2_tickOn cX2_tickOn 4 none :: ((wsX2_tickOn_r1 ++ wsX2_tickOn_r2) ++ wsX20)
def wsX2_ticksOn_r1 : List Cond := [Cond.methodLink RX2 90 yX2_tickOn, Cond.instanceMethod yX2_tickOn, Cond.selects RX2 yX2_tickOn yX2_tickOn, Cond.initialized RX2, Cond.code yX2_tickOn cX2_tickOn 4 none, Cond.fieldLink RX2 38 "EffectTrainModel" "n" "I", Cond.methodLink RX2 66 yX2_washed, Cond.instanceMethod yX2_washed, Cond.selects RX2 yX2_washed yX2_washed, Cond.code yX2_washed cX2_washed 4 (some .int), Cond.methodLink RX2 62 yX2_works, Cond.static yX2_works, Cond.code yX2_works cX2_works 2 (some .boolean), Cond.methodLink RX2 70 yX2_boil, Cond.instanceMethod yX2_boil, Cond.selects RX2 yX2_boil yX2_boil, Cond.code yX2_boil cX2_boil 7 none, Cond.methodLink RX2 77 yX2_thickness, Cond.static yX2_thickness, Cond.code yX2_thickness cX2_thickness 2 (some .int), Cond.methodLink RX2 58 yX2_amount, Cond.static yX2_amount, Cond.code yX2_amount cX2_amount 2 (some .int), Cond.methodLink RX2 80 yX2_power]
def wsX2_ticksOn_r2 : List Cond := [Cond.static yX2_power, Cond.code yX2_power cX2_power 2 (some .int), Cond.methodLink RX2 83 yX2_less, Cond.static yX2_less, Cond.code yX2_less cX2_less 2 (some .int), Cond.methodLink RX2 74 yX2_go, Cond.instanceMethod yX2_go, Cond.selects RX2 yX2_go yX2_go, Cond.code yX2_go cX2_go 8 none, Cond.fieldLink RX2 32 "EffectTrainModel" "flow" "[I", Cond.fieldLink RX2 35 "EffectTrainModel" "salt" "[I", Cond.methodLink RX2 87 yX2_behind, Cond.instanceMethod yX2_behind, Cond.selects RX2 yX2_behind yX2_behind, Cond.code yX2_behind cX2_behind 4 (some .int)]
def wsX2_ticksOn : List Cond := .code yX2_ticksOn cX2_ticksOn 5 (some .int) :: ((wsX2_ticksOn_r1 ++ wsX2_ticksOn_r2) ++ wsX20)
def wsX2_append : List Cond := .code yX2_append cX2_append 2 (some .int) :: ([.constantLong RX2 93 (255), .fieldLink RX2 95 "EffectTrainModel" "scriptSize" "I", .fieldLink RX2 7 "EffectTrainModel" "script" "[I", .methodLink RX2 54 yX2_in, .static yX2_in, .initialized RX2, .code yX2_in cX2_in 6 (some .boolean), .methodLink RX2 98 yX2_refused, .instanceMethod yX2_refused, .selects RX2 yX2_refused yX2_refused, .code yX2_refused cX2_refused 2 (some .boolean), .fieldLink RX2 42 "EffectTrainModel" "refusal" "I"] ++ wsX20)
def wsX2_clearText : List Cond := .code yX2_clearText cX2_clearText 2 (some .int) :: ([.fieldLink RX2 42 "EffectTrainModel" "refusal" "I", .fieldLink RX2 95 "EffectTrainModel" "scriptSize" "I"] ++ wsX20)
def wsX2_number : List Cond := .code yX2_number cX2_number 9 (some .int) :: ([.fieldLink RX2 102 "EffectTrainModel" "spot" "I", .fieldLink RX2 95 "EffectTrainModel" "scriptSize" "I", .fieldLink RX2 7 "EffectTrainModel" "script" "[I", .constantLong RX2 109 (9), .methodLink RX2 105 yX2_tenTo, .static yX2_tenTo, .initialized RX2, .code yX2_tenTo cX2_tenTo 4 (some .long), .constantLong RX2 45 (10), .methodLink RX2 54 yX2_in, .static yX2_in, .code yX2_in cX2_in 6 (some .boolean)] ++ wsX20)
def wsX2_readEffect : List Cond := .code yX2_readEffect cX2_readEffect 4 (some .int) :: ([.fieldLink RX2 13 "EffectTrainModel" "readRow" "[I", .methodLink RX2 111 yX2_number, .instanceMethod yX2_number, .selects RX2 yX2_number yX2_number, .initialized RX2, .code yX2_number cX2_number 9 (some .int), .fieldLink RX2 102 "EffectTrainModel" "spot" "I", .fieldLink RX2 95 "EffectTrainModel" "scriptSize" "I", .fieldLink RX2 7 "EffectTrainModel" "script" "[I", .constantLong RX2 109 (9), .methodLink RX2 105 yX2_tenTo, .static yX2_tenTo, .code yX2_tenTo cX2_tenTo 4 (some .long), .constantLong RX2 45 (10), .methodLink RX2 54 yX2_in, .static yX2_in, .code yX2_in cX2_in 6 (some .boolean)] ++ wsX20)
def wsX2_readText : List Cond := .code yX2_readText cX2_readText 3 (some .int) :: ([.fieldLink RX2 13 "EffectTrainModel" "readRow" "[I", .fieldLink RX2 102 "EffectTrainModel" "spot" "I", .fieldLink RX2 95 "EffectTrainModel" "scriptSize" "I", .fieldLink RX2 7 "EffectTrainModel" "script" "[I", .fieldLink RX2 115 "EffectTrainModel" "readN" "I", .methodLink RX2 111 yX2_number, .instanceMethod yX2_number, .selects RX2 yX2_number yX2_number, .initialized RX2, .code yX2_number cX2_number 9 (some .int), .constantLong RX2 109 (9), .methodLink RX2 105 yX2_tenTo, .static yX2_tenTo, .code yX2_tenTo cX2_tenTo 4 (some .long), .constantLong RX2 45 (10), .methodLink RX2 54 yX2_in, .static yX2_in, .code yX2_in cX2_in 6 (some .boolean), .methodLink RX2 118 yX2_readEffect, .instanceMethod yX2_readEffect, .selects RX2 yX2_readEffect yX2_readEffect, .code yX2_readEffect cX2_readEffect 4 (some .int)] ++ wsX20)
def wsX2_errorPosition_r1 : List Cond := [Cond.fieldLink RX2 42 "EffectTrainModel" "refusal" "I", Cond.methodLink RX2 122 yX2_readText, Cond.instanceMethod yX2_readText, Cond.selects RX2 yX2_readText yX2_readText, Cond.initialized RX2, Cond.code yX2_readText cX2_readText 3 (some .int), Cond.fieldLink RX2 13 "EffectTrainModel" "readRow" "[I", Cond.fieldLink RX2 102 "EffectTrainModel" "spot" "I", Cond.fieldLink RX2 95 "EffectTrainModel" "scriptSize" "I", Cond.fieldLink RX2 7 "EffectTrainModel" "script" "[I", Cond.fieldLink RX2 115 "EffectTrainModel" "readN" "I", Cond.methodLink RX2 111 yX2_number, Cond.instanceMethod yX2_number, Cond.selects RX2 yX2_number yX2_number, Cond.code yX2_number cX2_number 9 (some .int), Cond.constantLong RX2 109 (9), Cond.methodLink RX2 105 yX2_tenTo, Cond.static yX2_tenTo, Cond.code yX2_tenTo cX2_tenTo 4 (some .long), Cond.constantLong RX2 45 (10), Cond.methodLink RX2 54 yX2_in, Cond.static yX2_in, Cond.code yX2_in cX2_in 6 (some .boolean), Cond.methodLink RX2 118 yX2_readEffect]
def wsX2_errorPosition_r2 : List Cond := [Cond.instanceMethod yX2_readEffect, Cond.selects RX2 yX2_readEffect yX2_readEffect, Cond.code yX2_readEffect cX2_readEffect 4 (some .int)]
def wsX2_errorPosition : List Cond := .code yX2_errorPosition cX2_errorPosition 1 (some .int) :: ((wsX2_errorPosition_r1 ++ wsX2_errorPosition_r2) ++ wsX20)
def wsX2_sumOf : List Cond := .code yX2_sumOf cX2_sumOf 5 (some .int) :: ([.fieldLink RX2 38 "EffectTrainModel" "n" "I"] ++ wsX20)
def wsX2_load_r1 : List Cond := [Cond.fieldLink RX2 115 "EffectTrainModel" "readN" "I", Cond.fieldLink RX2 38 "EffectTrainModel" "n" "I", Cond.fieldLink RX2 13 "EffectTrainModel" "readRow" "[I", Cond.fieldLink RX2 16 "EffectTrainModel" "now" "[I", Cond.fieldLink RX2 47 "EffectTrainModel" "acts" "I", Cond.fieldLink RX2 28 "EffectTrainModel" "isKept" "[Z", Cond.methodLink RX2 122 yX2_readText, Cond.instanceMethod yX2_readText, Cond.selects RX2 yX2_readText yX2_readText, Cond.initialized RX2, Cond.code yX2_readText cX2_readText 3 (some .int), Cond.fieldLink RX2 102 "EffectTrainModel" "spot" "I", Cond.fieldLink RX2 95 "EffectTrainModel" "scriptSize" "I", Cond.fieldLink RX2 7 "EffectTrainModel" "script" "[I", Cond.methodLink RX2 111 yX2_number, Cond.instanceMethod yX2_number, Cond.selects RX2 yX2_number yX2_number, Cond.code yX2_number cX2_number 9 (some .int), Cond.constantLong RX2 109 (9), Cond.methodLink RX2 105 yX2_tenTo, Cond.static yX2_tenTo, Cond.code yX2_tenTo cX2_tenTo 4 (some .long), Cond.constantLong RX2 45 (10), Cond.methodLink RX2 54 yX2_in]
def wsX2_load_r2 : List Cond := [Cond.static yX2_in, Cond.code yX2_in cX2_in 6 (some .boolean), Cond.methodLink RX2 118 yX2_readEffect, Cond.instanceMethod yX2_readEffect, Cond.selects RX2 yX2_readEffect yX2_readEffect, Cond.code yX2_readEffect cX2_readEffect 4 (some .int), Cond.methodLink RX2 98 yX2_refused, Cond.instanceMethod yX2_refused, Cond.selects RX2 yX2_refused yX2_refused, Cond.code yX2_refused cX2_refused 2 (some .boolean), Cond.fieldLink RX2 42 "EffectTrainModel" "refusal" "I", Cond.methodLink RX2 50 yX2_copy, Cond.static yX2_copy, Cond.code yX2_copy cX2_copy 6 none, Cond.methodLink RX2 126 yX2_sumOf, Cond.instanceMethod yX2_sumOf, Cond.selects RX2 yX2_sumOf yX2_sumOf, Cond.code yX2_sumOf cX2_sumOf 5 (some .int)]
def wsX2_load : List Cond := .code yX2_load cX2_load 1 (some .int) :: ((wsX2_load_r1 ++ wsX2_load_r2) ++ wsX20)
def wsX2_about : List Cond := .code yX2_about cX2_about 2 (some .int) :: ([.constantLong RX2 109 (9), .fieldLink RX2 38 "EffectTrainModel" "n" "I", .fieldLink RX2 16 "EffectTrainModel" "now" "[I", .methodLink RX2 54 yX2_in, .static yX2_in, .initialized RX2, .code yX2_in cX2_in 6 (some .boolean), .methodLink RX2 98 yX2_refused, .instanceMethod yX2_refused, .selects RX2 yX2_refused yX2_refused, .code yX2_refused cX2_refused 2 (some .boolean), .fieldLink RX2 42 "EffectTrainModel" "refusal" "I", .methodLink RX2 66 yX2_washed, .instanceMethod yX2_washed, .selects RX2 yX2_washed yX2_washed, .code yX2_washed cX2_washed 4 (some .int), .methodLink RX2 62 yX2_works, .static yX2_works, .code yX2_works cX2_works 2 (some .boolean), .methodLink RX2 126 yX2_sumOf, .instanceMethod yX2_sumOf, .selects RX2 yX2_sumOf yX2_sumOf, .code yX2_sumOf cX2_sumOf 5 (some .int)] ++ wsX20)
def wsX2_total : List Cond := .code yX2_total cX2_total 2 (some .int) :: ([.constantLong RX2 109 (9), .fieldLink RX2 16 "EffectTrainModel" "now" "[I", .methodLink RX2 54 yX2_in, .static yX2_in, .initialized RX2, .code yX2_in cX2_in 6 (some .boolean), .methodLink RX2 98 yX2_refused, .instanceMethod yX2_refused, .selects RX2 yX2_refused yX2_refused, .code yX2_refused cX2_refused 2 (some .boolean), .fieldLink RX2 42 "EffectTrainModel" "refusal" "I"] ++ wsX20)
def wsX2_detail : List Cond := .code yX2_detail cX2_detail 3 (some .int) :: ([.methodLink RX2 77 yX2_thickness, .static yX2_thickness, .initialized RX2, .code yX2_thickness cX2_thickness 2 (some .int), .methodLink RX2 58 yX2_amount, .static yX2_amount, .code yX2_amount cX2_amount 2 (some .int), .methodLink RX2 80 yX2_power, .static yX2_power, .code yX2_power cX2_power 2 (some .int)])
def wsX2_effect_r1 : List Cond := [Cond.constantLong RX2 109 (9), Cond.fieldLink RX2 16 "EffectTrainModel" "now" "[I", Cond.methodLink RX2 129 yX2_isEffect, Cond.instanceMethod yX2_isEffect, Cond.selects RX2 yX2_isEffect yX2_isEffect, Cond.initialized RX2, Cond.code yX2_isEffect cX2_isEffect 2 (some .boolean), Cond.fieldLink RX2 38 "EffectTrainModel" "n" "I", Cond.methodLink RX2 54 yX2_in, Cond.static yX2_in, Cond.code yX2_in cX2_in 6 (some .boolean), Cond.methodLink RX2 98 yX2_refused, Cond.instanceMethod yX2_refused, Cond.selects RX2 yX2_refused yX2_refused, Cond.code yX2_refused cX2_refused 2 (some .boolean), Cond.fieldLink RX2 42 "EffectTrainModel" "refusal" "I", Cond.methodLink RX2 132 yX2_detail, Cond.static yX2_detail, Cond.code yX2_detail cX2_detail 3 (some .int), Cond.methodLink RX2 77 yX2_thickness, Cond.static yX2_thickness, Cond.code yX2_thickness cX2_thickness 2 (some .int), Cond.methodLink RX2 58 yX2_amount, Cond.static yX2_amount]
def wsX2_effect_r2 : List Cond := [Cond.code yX2_amount cX2_amount 2 (some .int), Cond.methodLink RX2 80 yX2_power, Cond.static yX2_power, Cond.code yX2_power cX2_power 2 (some .int)]
def wsX2_effect : List Cond := .code yX2_effect cX2_effect 3 (some .int) :: ((wsX2_effect_r1 ++ wsX2_effect_r2) ++ wsX20)
def wsX2_neighbor_r1 : List Cond := [Cond.fieldLink RX2 16 "EffectTrainModel" "now" "[I", Cond.methodLink RX2 129 yX2_isEffect, Cond.instanceMethod yX2_isEffect, Cond.selects RX2 yX2_isEffect yX2_isEffect, Cond.initialized RX2, Cond.code yX2_isEffect cX2_isEffect 2 (some .boolean), Cond.fieldLink RX2 38 "EffectTrainModel" "n" "I", Cond.methodLink RX2 54 yX2_in, Cond.static yX2_in, Cond.code yX2_in cX2_in 6 (some .boolean), Cond.methodLink RX2 98 yX2_refused, Cond.instanceMethod yX2_refused, Cond.selects RX2 yX2_refused yX2_refused, Cond.code yX2_refused cX2_refused 2 (some .boolean), Cond.fieldLink RX2 42 "EffectTrainModel" "refusal" "I", Cond.methodLink RX2 87 yX2_behind, Cond.instanceMethod yX2_behind, Cond.selects RX2 yX2_behind yX2_behind, Cond.code yX2_behind cX2_behind 4 (some .int), Cond.methodLink RX2 62 yX2_works, Cond.static yX2_works, Cond.code yX2_works cX2_works 2 (some .boolean), Cond.methodLink RX2 136 yX2_before, Cond.static yX2_before]
def wsX2_neighbor_r2 : List Cond := [Cond.code yX2_before cX2_before 3 (some .int)]
def wsX2_neighbor : List Cond := .code yX2_neighbor cX2_neighbor 3 (some .int) :: ((wsX2_neighbor_r1 ++ wsX2_neighbor_r2) ++ wsX20)
def wsX2_economy : List Cond := .code yX2_economy cX2_economy 1 (some .float) :: ([.fieldLink RX2 42 "EffectTrainModel" "refusal" "I", .fieldLink RX2 16 "EffectTrainModel" "now" "[I"] ++ wsX20)
def wsX2_share : List Cond := .code yX2_share cX2_share 2 (some .float) :: ([.fieldLink RX2 16 "EffectTrainModel" "now" "[I", .methodLink RX2 129 yX2_isEffect, .instanceMethod yX2_isEffect, .selects RX2 yX2_isEffect yX2_isEffect, .initialized RX2, .code yX2_isEffect cX2_isEffect 2 (some .boolean), .fieldLink RX2 38 "EffectTrainModel" "n" "I", .methodLink RX2 54 yX2_in, .static yX2_in, .code yX2_in cX2_in 6 (some .boolean), .methodLink RX2 98 yX2_refused, .instanceMethod yX2_refused, .selects RX2 yX2_refused yX2_refused, .code yX2_refused cX2_refused 2 (some .boolean), .fieldLink RX2 42 "EffectTrainModel" "refusal" "I", .methodLink RX2 58 yX2_amount, .static yX2_amount, .code yX2_amount cX2_amount 2 (some .int)] ++ wsX20)
def wsX2_tick_r1 : List Cond := [Cond.constantLong RX2 139 (99), Cond.fieldLink RX2 16 "EffectTrainModel" "now" "[I", Cond.methodLink RX2 54 yX2_in, Cond.static yX2_in, Cond.initialized RX2, Cond.code yX2_in cX2_in 6 (some .boolean), Cond.methodLink RX2 98 yX2_refused, Cond.instanceMethod yX2_refused, Cond.selects RX2 yX2_refused yX2_refused, Cond.code yX2_refused cX2_refused 2 (some .boolean), Cond.fieldLink RX2 42 "EffectTrainModel" "refusal" "I", Cond.methodLink RX2 141 yX2_note, Cond.instanceMethod yX2_note, Cond.selects RX2 yX2_note yX2_note, Cond.code yX2_note cX2_note 1 none, Cond.fieldLink RX2 47 "EffectTrainModel" "acts" "I", Cond.fieldLink RX2 22 "EffectTrainModel" "diary" "[I", Cond.methodLink RX2 50 yX2_copy, Cond.static yX2_copy, Cond.code yX2_copy cX2_copy 6 none, Cond.methodLink RX2 144 yX2_ticksOn, Cond.instanceMethod yX2_ticksOn, Cond.selects RX2 yX2_ticksOn yX2_ticksOn, Cond.code yX2_ticksOn cX2_ticksOn 5 (some .int)]
def wsX2_tick_r2 : List Cond := [Cond.methodLink RX2 90 yX2_tickOn, Cond.instanceMethod yX2_tickOn, Cond.selects RX2 yX2_tickOn yX2_tickOn, Cond.code yX2_tickOn cX2_tickOn 4 none, Cond.fieldLink RX2 38 "EffectTrainModel" "n" "I", Cond.methodLink RX2 66 yX2_washed, Cond.instanceMethod yX2_washed, Cond.selects RX2 yX2_washed yX2_washed, Cond.code yX2_washed cX2_washed 4 (some .int), Cond.methodLink RX2 62 yX2_works, Cond.static yX2_works, Cond.code yX2_works cX2_works 2 (some .boolean), Cond.methodLink RX2 70 yX2_boil, Cond.instanceMethod yX2_boil, Cond.selects RX2 yX2_boil yX2_boil, Cond.code yX2_boil cX2_boil 7 none, Cond.methodLink RX2 77 yX2_thickness, Cond.static yX2_thickness, Cond.code yX2_thickness cX2_thickness 2 (some .int), Cond.methodLink RX2 58 yX2_amount, Cond.static yX2_amount, Cond.code yX2_amount cX2_amount 2 (some .int), Cond.methodLink RX2 80 yX2_power, Cond.static yX2_power]
def wsX2_tick_r3 : List Cond := [Cond.code yX2_power cX2_power 2 (some .int), Cond.methodLink RX2 83 yX2_less, Cond.static yX2_less, Cond.code yX2_less cX2_less 2 (some .int), Cond.methodLink RX2 74 yX2_go, Cond.instanceMethod yX2_go, Cond.selects RX2 yX2_go yX2_go, Cond.code yX2_go cX2_go 8 none, Cond.fieldLink RX2 32 "EffectTrainModel" "flow" "[I", Cond.fieldLink RX2 35 "EffectTrainModel" "salt" "[I", Cond.methodLink RX2 87 yX2_behind, Cond.instanceMethod yX2_behind, Cond.selects RX2 yX2_behind yX2_behind, Cond.code yX2_behind cX2_behind 4 (some .int)]
def wsX2_tick : List Cond := .code yX2_tick cX2_tick 2 (some .int) :: ((wsX2_tick_r1 ++ (wsX2_tick_r2 ++ wsX2_tick_r3)) ++ wsX20)
def wsX2_set : List Cond := .code yX2_set cX2_set 5 (some .int) :: ([.constantLong RX2 147 (999), .constantLong RX2 139 (99), .constantLong RX2 149 (20), .constantLong RX2 151 (4), .fieldLink RX2 16 "EffectTrainModel" "now" "[I", .methodLink RX2 54 yX2_in, .static yX2_in, .initialized RX2, .code yX2_in cX2_in 6 (some .boolean), .methodLink RX2 98 yX2_refused, .instanceMethod yX2_refused, .selects RX2 yX2_refused yX2_refused, .code yX2_refused cX2_refused 2 (some .boolean), .fieldLink RX2 42 "EffectTrainModel" "refusal" "I", .methodLink RX2 141 yX2_note, .instanceMethod yX2_note, .selects RX2 yX2_note yX2_note, .code yX2_note cX2_note 1 none, .fieldLink RX2 47 "EffectTrainModel" "acts" "I", .fieldLink RX2 22 "EffectTrainModel" "diary" "[I", .methodLink RX2 50 yX2_copy, .static yX2_copy, .code yX2_copy cX2_copy 6 none] ++ wsX20)
def wsX2_change : List Cond := .code yX2_change cX2_change 4 (some .int) :: ([.fieldLink RX2 16 "EffectTrainModel" "now" "[I", .methodLink RX2 141 yX2_note, .instanceMethod yX2_note, .selects RX2 yX2_note yX2_note, .initialized RX2, .code yX2_note cX2_note 1 none, .fieldLink RX2 47 "EffectTrainModel" "acts" "I", .fieldLink RX2 22 "EffectTrainModel" "diary" "[I", .methodLink RX2 50 yX2_copy, .static yX2_copy, .code yX2_copy cX2_copy 6 none] ++ wsX20)
def wsX2_setValve_r1 : List Cond := [Cond.constantLong RX2 147 (999), Cond.methodLink RX2 129 yX2_isEffect, Cond.instanceMethod yX2_isEffect, Cond.selects RX2 yX2_isEffect yX2_isEffect, Cond.initialized RX2, Cond.code yX2_isEffect cX2_isEffect 2 (some .boolean), Cond.fieldLink RX2 38 "EffectTrainModel" "n" "I", Cond.methodLink RX2 54 yX2_in, Cond.static yX2_in, Cond.code yX2_in cX2_in 6 (some .boolean), Cond.methodLink RX2 98 yX2_refused, Cond.instanceMethod yX2_refused, Cond.selects RX2 yX2_refused yX2_refused, Cond.code yX2_refused cX2_refused 2 (some .boolean), Cond.fieldLink RX2 42 "EffectTrainModel" "refusal" "I", Cond.methodLink RX2 153 yX2_change, Cond.instanceMethod yX2_change, Cond.selects RX2 yX2_change yX2_change, Cond.code yX2_change cX2_change 4 (some .int), Cond.fieldLink RX2 16 "EffectTrainModel" "now" "[I", Cond.methodLink RX2 141 yX2_note, Cond.instanceMethod yX2_note, Cond.selects RX2 yX2_note yX2_note, Cond.code yX2_note cX2_note 1 none]
def wsX2_setValve_r2 : List Cond := [Cond.fieldLink RX2 47 "EffectTrainModel" "acts" "I", Cond.fieldLink RX2 22 "EffectTrainModel" "diary" "[I", Cond.methodLink RX2 50 yX2_copy, Cond.static yX2_copy, Cond.code yX2_copy cX2_copy 6 none]
def wsX2_setValve : List Cond := .code yX2_setValve cX2_setValve 3 (some .int) :: ((wsX2_setValve_r1 ++ wsX2_setValve_r2) ++ wsX20)
def wsX2_setBleed_r1 : List Cond := [Cond.constantLong RX2 156 (90), Cond.methodLink RX2 129 yX2_isEffect, Cond.instanceMethod yX2_isEffect, Cond.selects RX2 yX2_isEffect yX2_isEffect, Cond.initialized RX2, Cond.code yX2_isEffect cX2_isEffect 2 (some .boolean), Cond.fieldLink RX2 38 "EffectTrainModel" "n" "I", Cond.methodLink RX2 54 yX2_in, Cond.static yX2_in, Cond.code yX2_in cX2_in 6 (some .boolean), Cond.methodLink RX2 98 yX2_refused, Cond.instanceMethod yX2_refused, Cond.selects RX2 yX2_refused yX2_refused, Cond.code yX2_refused cX2_refused 2 (some .boolean), Cond.fieldLink RX2 42 "EffectTrainModel" "refusal" "I", Cond.methodLink RX2 153 yX2_change, Cond.instanceMethod yX2_change, Cond.selects RX2 yX2_change yX2_change, Cond.code yX2_change cX2_change 4 (some .int), Cond.fieldLink RX2 16 "EffectTrainModel" "now" "[I", Cond.methodLink RX2 141 yX2_note, Cond.instanceMethod yX2_note, Cond.selects RX2 yX2_note yX2_note, Cond.code yX2_note cX2_note 1 none]
def wsX2_setBleed_r2 : List Cond := [Cond.fieldLink RX2 47 "EffectTrainModel" "acts" "I", Cond.fieldLink RX2 22 "EffectTrainModel" "diary" "[I", Cond.methodLink RX2 50 yX2_copy, Cond.static yX2_copy, Cond.code yX2_copy cX2_copy 6 none]
def wsX2_setBleed : List Cond := .code yX2_setBleed cX2_setBleed 3 (some .int) :: ((wsX2_setBleed_r1 ++ wsX2_setBleed_r2) ++ wsX20)
def wsX2_wash_r1 : List Cond := [Cond.constantLong RX2 149 (20), Cond.fieldLink RX2 16 "EffectTrainModel" "now" "[I", Cond.methodLink RX2 129 yX2_isEffect, Cond.instanceMethod yX2_isEffect, Cond.selects RX2 yX2_isEffect yX2_isEffect, Cond.initialized RX2, Cond.code yX2_isEffect cX2_isEffect 2 (some .boolean), Cond.fieldLink RX2 38 "EffectTrainModel" "n" "I", Cond.methodLink RX2 54 yX2_in, Cond.static yX2_in, Cond.code yX2_in cX2_in 6 (some .boolean), Cond.methodLink RX2 62 yX2_works, Cond.static yX2_works, Cond.code yX2_works cX2_works 2 (some .boolean), Cond.methodLink RX2 98 yX2_refused, Cond.instanceMethod yX2_refused, Cond.selects RX2 yX2_refused yX2_refused, Cond.code yX2_refused cX2_refused 2 (some .boolean), Cond.fieldLink RX2 42 "EffectTrainModel" "refusal" "I", Cond.methodLink RX2 153 yX2_change, Cond.instanceMethod yX2_change, Cond.selects RX2 yX2_change yX2_change, Cond.code yX2_change cX2_change 4 (some .int), Cond.methodLink RX2 141 yX2_note]
def wsX2_wash_r2 : List Cond := [Cond.instanceMethod yX2_note, Cond.selects RX2 yX2_note yX2_note, Cond.code yX2_note cX2_note 1 none, Cond.fieldLink RX2 47 "EffectTrainModel" "acts" "I", Cond.fieldLink RX2 22 "EffectTrainModel" "diary" "[I", Cond.methodLink RX2 50 yX2_copy, Cond.static yX2_copy, Cond.code yX2_copy cX2_copy 6 none, Cond.methodLink RX2 66 yX2_washed, Cond.instanceMethod yX2_washed, Cond.selects RX2 yX2_washed yX2_washed, Cond.code yX2_washed cX2_washed 4 (some .int)]
def wsX2_wash : List Cond := .code yX2_wash cX2_wash 3 (some .int) :: ((wsX2_wash_r1 ++ wsX2_wash_r2) ++ wsX20)
def wsX2_endWash_r1 : List Cond := [Cond.fieldLink RX2 16 "EffectTrainModel" "now" "[I", Cond.methodLink RX2 129 yX2_isEffect, Cond.instanceMethod yX2_isEffect, Cond.selects RX2 yX2_isEffect yX2_isEffect, Cond.initialized RX2, Cond.code yX2_isEffect cX2_isEffect 2 (some .boolean), Cond.fieldLink RX2 38 "EffectTrainModel" "n" "I", Cond.methodLink RX2 54 yX2_in, Cond.static yX2_in, Cond.code yX2_in cX2_in 6 (some .boolean), Cond.methodLink RX2 62 yX2_works, Cond.static yX2_works, Cond.code yX2_works cX2_works 2 (some .boolean), Cond.methodLink RX2 98 yX2_refused, Cond.instanceMethod yX2_refused, Cond.selects RX2 yX2_refused yX2_refused, Cond.code yX2_refused cX2_refused 2 (some .boolean), Cond.fieldLink RX2 42 "EffectTrainModel" "refusal" "I", Cond.methodLink RX2 153 yX2_change, Cond.instanceMethod yX2_change, Cond.selects RX2 yX2_change yX2_change, Cond.code yX2_change cX2_change 4 (some .int), Cond.methodLink RX2 141 yX2_note, Cond.instanceMethod yX2_note]
def wsX2_endWash_r2 : List Cond := [Cond.selects RX2 yX2_note yX2_note, Cond.code yX2_note cX2_note 1 none, Cond.fieldLink RX2 47 "EffectTrainModel" "acts" "I", Cond.fieldLink RX2 22 "EffectTrainModel" "diary" "[I", Cond.methodLink RX2 50 yX2_copy, Cond.static yX2_copy, Cond.code yX2_copy cX2_copy 6 none]
def wsX2_endWash : List Cond := .code yX2_endWash cX2_endWash 2 (some .int) :: ((wsX2_endWash_r1 ++ wsX2_endWash_r2) ++ wsX20)
def wsX2_undo : List Cond := .code yX2_undo cX2_undo 1 (some .int) :: ([.fieldLink RX2 47 "EffectTrainModel" "acts" "I", .fieldLink RX2 22 "EffectTrainModel" "diary" "[I", .fieldLink RX2 16 "EffectTrainModel" "now" "[I", .methodLink RX2 98 yX2_refused, .instanceMethod yX2_refused, .selects RX2 yX2_refused yX2_refused, .initialized RX2, .code yX2_refused cX2_refused 2 (some .boolean), .fieldLink RX2 42 "EffectTrainModel" "refusal" "I", .methodLink RX2 50 yX2_copy, .static yX2_copy, .code yX2_copy cX2_copy 6 none] ++ wsX20)
def wsX2_ahead_r1 : List Cond := [Cond.constantLong RX2 139 (99), Cond.constantLong RX2 109 (9), Cond.fieldLink RX2 16 "EffectTrainModel" "now" "[I", Cond.fieldLink RX2 19 "EffectTrainModel" "trial" "[I", Cond.methodLink RX2 129 yX2_isEffect, Cond.instanceMethod yX2_isEffect, Cond.selects RX2 yX2_isEffect yX2_isEffect, Cond.initialized RX2, Cond.code yX2_isEffect cX2_isEffect 2 (some .boolean), Cond.fieldLink RX2 38 "EffectTrainModel" "n" "I", Cond.methodLink RX2 54 yX2_in, Cond.static yX2_in, Cond.code yX2_in cX2_in 6 (some .boolean), Cond.methodLink RX2 98 yX2_refused, Cond.instanceMethod yX2_refused, Cond.selects RX2 yX2_refused yX2_refused, Cond.code yX2_refused cX2_refused 2 (some .boolean), Cond.fieldLink RX2 42 "EffectTrainModel" "refusal" "I", Cond.methodLink RX2 50 yX2_copy, Cond.static yX2_copy, Cond.code yX2_copy cX2_copy 6 none, Cond.methodLink RX2 144 yX2_ticksOn, Cond.instanceMethod yX2_ticksOn, Cond.selects RX2 yX2_ticksOn yX2_ticksOn]
def wsX2_ahead_r2 : List Cond := [Cond.code yX2_ticksOn cX2_ticksOn 5 (some .int), Cond.methodLink RX2 90 yX2_tickOn, Cond.instanceMethod yX2_tickOn, Cond.selects RX2 yX2_tickOn yX2_tickOn, Cond.code yX2_tickOn cX2_tickOn 4 none, Cond.methodLink RX2 66 yX2_washed, Cond.instanceMethod yX2_washed, Cond.selects RX2 yX2_washed yX2_washed, Cond.code yX2_washed cX2_washed 4 (some .int), Cond.methodLink RX2 62 yX2_works, Cond.static yX2_works, Cond.code yX2_works cX2_works 2 (some .boolean), Cond.methodLink RX2 70 yX2_boil, Cond.instanceMethod yX2_boil, Cond.selects RX2 yX2_boil yX2_boil, Cond.code yX2_boil cX2_boil 7 none, Cond.methodLink RX2 77 yX2_thickness, Cond.static yX2_thickness, Cond.code yX2_thickness cX2_thickness 2 (some .int), Cond.methodLink RX2 58 yX2_amount, Cond.static yX2_amount, Cond.code yX2_amount cX2_amount 2 (some .int), Cond.methodLink RX2 80 yX2_power, Cond.static yX2_power]
def wsX2_ahead_r3 : List Cond := [Cond.code yX2_power cX2_power 2 (some .int), Cond.methodLink RX2 83 yX2_less, Cond.static yX2_less, Cond.code yX2_less cX2_less 2 (some .int), Cond.methodLink RX2 74 yX2_go, Cond.instanceMethod yX2_go, Cond.selects RX2 yX2_go yX2_go, Cond.code yX2_go cX2_go 8 none, Cond.fieldLink RX2 32 "EffectTrainModel" "flow" "[I", Cond.fieldLink RX2 35 "EffectTrainModel" "salt" "[I", Cond.methodLink RX2 87 yX2_behind, Cond.instanceMethod yX2_behind, Cond.selects RX2 yX2_behind yX2_behind, Cond.code yX2_behind cX2_behind 4 (some .int), Cond.methodLink RX2 132 yX2_detail, Cond.static yX2_detail, Cond.code yX2_detail cX2_detail 3 (some .int)]
def wsX2_ahead : List Cond := .code yX2_ahead cX2_ahead 4 (some .int) :: ((wsX2_ahead_r1 ++ (wsX2_ahead_r2 ++ wsX2_ahead_r3)) ++ wsX20)
def wsX2_growth_r1 : List Cond := [Cond.constantLong RX2 139 (99), Cond.constantLong RX2 109 (9), Cond.fieldLink RX2 16 "EffectTrainModel" "now" "[I", Cond.fieldLink RX2 19 "EffectTrainModel" "trial" "[I", Cond.methodLink RX2 54 yX2_in, Cond.static yX2_in, Cond.initialized RX2, Cond.code yX2_in cX2_in 6 (some .boolean), Cond.methodLink RX2 98 yX2_refused, Cond.instanceMethod yX2_refused, Cond.selects RX2 yX2_refused yX2_refused, Cond.code yX2_refused cX2_refused 2 (some .boolean), Cond.fieldLink RX2 42 "EffectTrainModel" "refusal" "I", Cond.methodLink RX2 50 yX2_copy, Cond.static yX2_copy, Cond.code yX2_copy cX2_copy 6 none, Cond.methodLink RX2 144 yX2_ticksOn, Cond.instanceMethod yX2_ticksOn, Cond.selects RX2 yX2_ticksOn yX2_ticksOn, Cond.code yX2_ticksOn cX2_ticksOn 5 (some .int), Cond.methodLink RX2 90 yX2_tickOn, Cond.instanceMethod yX2_tickOn, Cond.selects RX2 yX2_tickOn yX2_tickOn, Cond.code yX2_tickOn cX2_tickOn 4 none]
def wsX2_growth_r2 : List Cond := [Cond.fieldLink RX2 38 "EffectTrainModel" "n" "I", Cond.methodLink RX2 66 yX2_washed, Cond.instanceMethod yX2_washed, Cond.selects RX2 yX2_washed yX2_washed, Cond.code yX2_washed cX2_washed 4 (some .int), Cond.methodLink RX2 62 yX2_works, Cond.static yX2_works, Cond.code yX2_works cX2_works 2 (some .boolean), Cond.methodLink RX2 70 yX2_boil, Cond.instanceMethod yX2_boil, Cond.selects RX2 yX2_boil yX2_boil, Cond.code yX2_boil cX2_boil 7 none, Cond.methodLink RX2 77 yX2_thickness, Cond.static yX2_thickness, Cond.code yX2_thickness cX2_thickness 2 (some .int), Cond.methodLink RX2 58 yX2_amount, Cond.static yX2_amount, Cond.code yX2_amount cX2_amount 2 (some .int), Cond.methodLink RX2 80 yX2_power, Cond.static yX2_power, Cond.code yX2_power cX2_power 2 (some .int), Cond.methodLink RX2 83 yX2_less, Cond.static yX2_less, Cond.code yX2_less cX2_less 2 (some .int)]
def wsX2_growth_r3 : List Cond := [Cond.methodLink RX2 74 yX2_go, Cond.instanceMethod yX2_go, Cond.selects RX2 yX2_go yX2_go, Cond.code yX2_go cX2_go 8 none, Cond.fieldLink RX2 32 "EffectTrainModel" "flow" "[I", Cond.fieldLink RX2 35 "EffectTrainModel" "salt" "[I", Cond.methodLink RX2 87 yX2_behind, Cond.instanceMethod yX2_behind, Cond.selects RX2 yX2_behind yX2_behind, Cond.code yX2_behind cX2_behind 4 (some .int)]
def wsX2_growth : List Cond := .code yX2_growth cX2_growth 3 (some .int) :: ((wsX2_growth_r1 ++ (wsX2_growth_r2 ++ wsX2_growth_r3)) ++ wsX20)
def wsX2_washGain_r1 : List Cond := [Cond.constantLong RX2 149 (20), Cond.constantLong RX2 139 (99), Cond.fieldLink RX2 16 "EffectTrainModel" "now" "[I", Cond.fieldLink RX2 19 "EffectTrainModel" "trial" "[I", Cond.methodLink RX2 129 yX2_isEffect, Cond.instanceMethod yX2_isEffect, Cond.selects RX2 yX2_isEffect yX2_isEffect, Cond.initialized RX2, Cond.code yX2_isEffect cX2_isEffect 2 (some .boolean), Cond.fieldLink RX2 38 "EffectTrainModel" "n" "I", Cond.methodLink RX2 54 yX2_in, Cond.static yX2_in, Cond.code yX2_in cX2_in 6 (some .boolean), Cond.methodLink RX2 62 yX2_works, Cond.static yX2_works, Cond.code yX2_works cX2_works 2 (some .boolean), Cond.methodLink RX2 98 yX2_refused, Cond.instanceMethod yX2_refused, Cond.selects RX2 yX2_refused yX2_refused, Cond.code yX2_refused cX2_refused 2 (some .boolean), Cond.fieldLink RX2 42 "EffectTrainModel" "refusal" "I", Cond.methodLink RX2 50 yX2_copy, Cond.static yX2_copy, Cond.code yX2_copy cX2_copy 6 none]
def wsX2_washGain_r2 : List Cond := [Cond.methodLink RX2 144 yX2_ticksOn, Cond.instanceMethod yX2_ticksOn, Cond.selects RX2 yX2_ticksOn yX2_ticksOn, Cond.code yX2_ticksOn cX2_ticksOn 5 (some .int), Cond.methodLink RX2 90 yX2_tickOn, Cond.instanceMethod yX2_tickOn, Cond.selects RX2 yX2_tickOn yX2_tickOn, Cond.code yX2_tickOn cX2_tickOn 4 none, Cond.methodLink RX2 66 yX2_washed, Cond.instanceMethod yX2_washed, Cond.selects RX2 yX2_washed yX2_washed, Cond.code yX2_washed cX2_washed 4 (some .int), Cond.methodLink RX2 70 yX2_boil, Cond.instanceMethod yX2_boil, Cond.selects RX2 yX2_boil yX2_boil, Cond.code yX2_boil cX2_boil 7 none, Cond.methodLink RX2 77 yX2_thickness, Cond.static yX2_thickness, Cond.code yX2_thickness cX2_thickness 2 (some .int), Cond.methodLink RX2 58 yX2_amount, Cond.static yX2_amount, Cond.code yX2_amount cX2_amount 2 (some .int), Cond.methodLink RX2 80 yX2_power, Cond.static yX2_power]
def wsX2_washGain_r3 : List Cond := [Cond.code yX2_power cX2_power 2 (some .int), Cond.methodLink RX2 83 yX2_less, Cond.static yX2_less, Cond.code yX2_less cX2_less 2 (some .int), Cond.methodLink RX2 74 yX2_go, Cond.instanceMethod yX2_go, Cond.selects RX2 yX2_go yX2_go, Cond.code yX2_go cX2_go 8 none, Cond.fieldLink RX2 32 "EffectTrainModel" "flow" "[I", Cond.fieldLink RX2 35 "EffectTrainModel" "salt" "[I", Cond.methodLink RX2 87 yX2_behind, Cond.instanceMethod yX2_behind, Cond.selects RX2 yX2_behind yX2_behind, Cond.code yX2_behind cX2_behind 4 (some .int)]
def wsX2_washGain : List Cond := .code yX2_washGain cX2_washGain 5 (some .int) :: ((wsX2_washGain_r1 ++ (wsX2_washGain_r2 ++ wsX2_washGain_r3)) ++ wsX20)
def wsX2_turns_r1 : List Cond := [Cond.fieldLink RX2 16 "EffectTrainModel" "now" "[I", Cond.fieldLink RX2 19 "EffectTrainModel" "trial" "[I", Cond.fieldLink RX2 38 "EffectTrainModel" "n" "I", Cond.methodLink RX2 50 yX2_copy, Cond.static yX2_copy, Cond.initialized RX2, Cond.code yX2_copy cX2_copy 6 none, Cond.methodLink RX2 62 yX2_works, Cond.static yX2_works, Cond.code yX2_works cX2_works 2 (some .boolean), Cond.methodLink RX2 144 yX2_ticksOn, Cond.instanceMethod yX2_ticksOn, Cond.selects RX2 yX2_ticksOn yX2_ticksOn, Cond.code yX2_ticksOn cX2_ticksOn 5 (some .int), Cond.methodLink RX2 90 yX2_tickOn, Cond.instanceMethod yX2_tickOn, Cond.selects RX2 yX2_tickOn yX2_tickOn, Cond.code yX2_tickOn cX2_tickOn 4 none, Cond.methodLink RX2 66 yX2_washed, Cond.instanceMethod yX2_washed, Cond.selects RX2 yX2_washed yX2_washed, Cond.code yX2_washed cX2_washed 4 (some .int), Cond.methodLink RX2 70 yX2_boil, Cond.instanceMethod yX2_boil]
def wsX2_turns_r2 : List Cond := [Cond.selects RX2 yX2_boil yX2_boil, Cond.code yX2_boil cX2_boil 7 none, Cond.methodLink RX2 77 yX2_thickness, Cond.static yX2_thickness, Cond.code yX2_thickness cX2_thickness 2 (some .int), Cond.methodLink RX2 58 yX2_amount, Cond.static yX2_amount, Cond.code yX2_amount cX2_amount 2 (some .int), Cond.methodLink RX2 80 yX2_power, Cond.static yX2_power, Cond.code yX2_power cX2_power 2 (some .int), Cond.methodLink RX2 83 yX2_less, Cond.static yX2_less, Cond.code yX2_less cX2_less 2 (some .int), Cond.methodLink RX2 74 yX2_go, Cond.instanceMethod yX2_go, Cond.selects RX2 yX2_go yX2_go, Cond.code yX2_go cX2_go 8 none, Cond.fieldLink RX2 32 "EffectTrainModel" "flow" "[I", Cond.fieldLink RX2 35 "EffectTrainModel" "salt" "[I", Cond.methodLink RX2 87 yX2_behind, Cond.instanceMethod yX2_behind, Cond.selects RX2 yX2_behind yX2_behind, Cond.code yX2_behind cX2_behind 4 (some .int)]
def wsX2_turns : List Cond := .code yX2_turns cX2_turns 7 (some .int) :: ((wsX2_turns_r1 ++ wsX2_turns_r2) ++ wsX20)
def wsX2_bestTurns_r1 : List Cond := [Cond.constantLong RX2 158 (3), Cond.fieldLink RX2 38 "EffectTrainModel" "n" "I", Cond.methodLink RX2 54 yX2_in, Cond.static yX2_in, Cond.initialized RX2, Cond.code yX2_in cX2_in 6 (some .boolean), Cond.methodLink RX2 98 yX2_refused, Cond.instanceMethod yX2_refused, Cond.selects RX2 yX2_refused yX2_refused, Cond.code yX2_refused cX2_refused 2 (some .boolean), Cond.fieldLink RX2 42 "EffectTrainModel" "refusal" "I", Cond.methodLink RX2 160 yX2_turns, Cond.instanceMethod yX2_turns, Cond.selects RX2 yX2_turns yX2_turns, Cond.code yX2_turns cX2_turns 7 (some .int), Cond.fieldLink RX2 16 "EffectTrainModel" "now" "[I", Cond.fieldLink RX2 19 "EffectTrainModel" "trial" "[I", Cond.methodLink RX2 50 yX2_copy, Cond.static yX2_copy, Cond.code yX2_copy cX2_copy 6 none, Cond.methodLink RX2 62 yX2_works, Cond.static yX2_works, Cond.code yX2_works cX2_works 2 (some .boolean), Cond.methodLink RX2 144 yX2_ticksOn]
def wsX2_bestTurns_r2 : List Cond := [Cond.instanceMethod yX2_ticksOn, Cond.selects RX2 yX2_ticksOn yX2_ticksOn, Cond.code yX2_ticksOn cX2_ticksOn 5 (some .int), Cond.methodLink RX2 90 yX2_tickOn, Cond.instanceMethod yX2_tickOn, Cond.selects RX2 yX2_tickOn yX2_tickOn, Cond.code yX2_tickOn cX2_tickOn 4 none, Cond.methodLink RX2 66 yX2_washed, Cond.instanceMethod yX2_washed, Cond.selects RX2 yX2_washed yX2_washed, Cond.code yX2_washed cX2_washed 4 (some .int), Cond.methodLink RX2 70 yX2_boil, Cond.instanceMethod yX2_boil, Cond.selects RX2 yX2_boil yX2_boil, Cond.code yX2_boil cX2_boil 7 none, Cond.methodLink RX2 77 yX2_thickness, Cond.static yX2_thickness, Cond.code yX2_thickness cX2_thickness 2 (some .int), Cond.methodLink RX2 58 yX2_amount, Cond.static yX2_amount, Cond.code yX2_amount cX2_amount 2 (some .int), Cond.methodLink RX2 80 yX2_power, Cond.static yX2_power, Cond.code yX2_power cX2_power 2 (some .int)]
def wsX2_bestTurns_r3 : List Cond := [Cond.methodLink RX2 83 yX2_less, Cond.static yX2_less, Cond.code yX2_less cX2_less 2 (some .int), Cond.methodLink RX2 74 yX2_go, Cond.instanceMethod yX2_go, Cond.selects RX2 yX2_go yX2_go, Cond.code yX2_go cX2_go 8 none, Cond.fieldLink RX2 32 "EffectTrainModel" "flow" "[I", Cond.fieldLink RX2 35 "EffectTrainModel" "salt" "[I", Cond.methodLink RX2 87 yX2_behind, Cond.instanceMethod yX2_behind, Cond.selects RX2 yX2_behind yX2_behind, Cond.code yX2_behind cX2_behind 4 (some .int)]
def wsX2_bestTurns : List Cond := .code yX2_bestTurns cX2_bestTurns 8 (some .int) :: ((wsX2_bestTurns_r1 ++ (wsX2_bestTurns_r2 ++ wsX2_bestTurns_r3)) ++ wsX20)
def wsX2_scaledAfter_r1 : List Cond := [Cond.constantLong RX2 139 (99), Cond.fieldLink RX2 16 "EffectTrainModel" "now" "[I", Cond.fieldLink RX2 19 "EffectTrainModel" "trial" "[I", Cond.methodLink RX2 129 yX2_isEffect, Cond.instanceMethod yX2_isEffect, Cond.selects RX2 yX2_isEffect yX2_isEffect, Cond.initialized RX2, Cond.code yX2_isEffect cX2_isEffect 2 (some .boolean), Cond.fieldLink RX2 38 "EffectTrainModel" "n" "I", Cond.methodLink RX2 54 yX2_in, Cond.static yX2_in, Cond.code yX2_in cX2_in 6 (some .boolean), Cond.methodLink RX2 98 yX2_refused, Cond.instanceMethod yX2_refused, Cond.selects RX2 yX2_refused yX2_refused, Cond.code yX2_refused cX2_refused 2 (some .boolean), Cond.fieldLink RX2 42 "EffectTrainModel" "refusal" "I", Cond.methodLink RX2 50 yX2_copy, Cond.static yX2_copy, Cond.code yX2_copy cX2_copy 6 none, Cond.methodLink RX2 90 yX2_tickOn, Cond.instanceMethod yX2_tickOn, Cond.selects RX2 yX2_tickOn yX2_tickOn, Cond.code yX2_tickOn cX2_tickOn 4 none]
def wsX2_scaledAfter_r2 : List Cond := [Cond.methodLink RX2 66 yX2_washed, Cond.instanceMethod yX2_washed, Cond.selects RX2 yX2_washed yX2_washed, Cond.code yX2_washed cX2_washed 4 (some .int), Cond.methodLink RX2 62 yX2_works, Cond.static yX2_works, Cond.code yX2_works cX2_works 2 (some .boolean), Cond.methodLink RX2 70 yX2_boil, Cond.instanceMethod yX2_boil, Cond.selects RX2 yX2_boil yX2_boil, Cond.code yX2_boil cX2_boil 7 none, Cond.methodLink RX2 77 yX2_thickness, Cond.static yX2_thickness, Cond.code yX2_thickness cX2_thickness 2 (some .int), Cond.methodLink RX2 58 yX2_amount, Cond.static yX2_amount, Cond.code yX2_amount cX2_amount 2 (some .int), Cond.methodLink RX2 80 yX2_power, Cond.static yX2_power, Cond.code yX2_power cX2_power 2 (some .int), Cond.methodLink RX2 83 yX2_less, Cond.static yX2_less, Cond.code yX2_less cX2_less 2 (some .int), Cond.methodLink RX2 74 yX2_go]
def wsX2_scaledAfter_r3 : List Cond := [Cond.instanceMethod yX2_go, Cond.selects RX2 yX2_go yX2_go, Cond.code yX2_go cX2_go 8 none, Cond.fieldLink RX2 32 "EffectTrainModel" "flow" "[I", Cond.fieldLink RX2 35 "EffectTrainModel" "salt" "[I", Cond.methodLink RX2 87 yX2_behind, Cond.instanceMethod yX2_behind, Cond.selects RX2 yX2_behind yX2_behind, Cond.code yX2_behind cX2_behind 4 (some .int)]
def wsX2_scaledAfter : List Cond := .code yX2_scaledAfter cX2_scaledAfter 4 (some .int) :: ((wsX2_scaledAfter_r1 ++ (wsX2_scaledAfter_r2 ++ wsX2_scaledAfter_r3)) ++ wsX20)
def wsX2_steamFor_r1 : List Cond := [Cond.constantLong RX2 163 (9999), Cond.constantLong RX2 149 (20), Cond.fieldLink RX2 16 "EffectTrainModel" "now" "[I", Cond.fieldLink RX2 19 "EffectTrainModel" "trial" "[I", Cond.methodLink RX2 54 yX2_in, Cond.static yX2_in, Cond.initialized RX2, Cond.code yX2_in cX2_in 6 (some .boolean), Cond.methodLink RX2 98 yX2_refused, Cond.instanceMethod yX2_refused, Cond.selects RX2 yX2_refused yX2_refused, Cond.code yX2_refused cX2_refused 2 (some .boolean), Cond.fieldLink RX2 42 "EffectTrainModel" "refusal" "I", Cond.methodLink RX2 50 yX2_copy, Cond.static yX2_copy, Cond.code yX2_copy cX2_copy 6 none, Cond.methodLink RX2 144 yX2_ticksOn, Cond.instanceMethod yX2_ticksOn, Cond.selects RX2 yX2_ticksOn yX2_ticksOn, Cond.code yX2_ticksOn cX2_ticksOn 5 (some .int), Cond.methodLink RX2 90 yX2_tickOn, Cond.instanceMethod yX2_tickOn, Cond.selects RX2 yX2_tickOn yX2_tickOn, Cond.code yX2_tickOn cX2_tickOn 4 none]
def wsX2_steamFor_r2 : List Cond := [Cond.fieldLink RX2 38 "EffectTrainModel" "n" "I", Cond.methodLink RX2 66 yX2_washed, Cond.instanceMethod yX2_washed, Cond.selects RX2 yX2_washed yX2_washed, Cond.code yX2_washed cX2_washed 4 (some .int), Cond.methodLink RX2 62 yX2_works, Cond.static yX2_works, Cond.code yX2_works cX2_works 2 (some .boolean), Cond.methodLink RX2 70 yX2_boil, Cond.instanceMethod yX2_boil, Cond.selects RX2 yX2_boil yX2_boil, Cond.code yX2_boil cX2_boil 7 none, Cond.methodLink RX2 77 yX2_thickness, Cond.static yX2_thickness, Cond.code yX2_thickness cX2_thickness 2 (some .int), Cond.methodLink RX2 58 yX2_amount, Cond.static yX2_amount, Cond.code yX2_amount cX2_amount 2 (some .int), Cond.methodLink RX2 80 yX2_power, Cond.static yX2_power, Cond.code yX2_power cX2_power 2 (some .int), Cond.methodLink RX2 83 yX2_less, Cond.static yX2_less, Cond.code yX2_less cX2_less 2 (some .int)]
def wsX2_steamFor_r3 : List Cond := [Cond.methodLink RX2 74 yX2_go, Cond.instanceMethod yX2_go, Cond.selects RX2 yX2_go yX2_go, Cond.code yX2_go cX2_go 8 none, Cond.fieldLink RX2 32 "EffectTrainModel" "flow" "[I", Cond.fieldLink RX2 35 "EffectTrainModel" "salt" "[I", Cond.methodLink RX2 87 yX2_behind, Cond.instanceMethod yX2_behind, Cond.selects RX2 yX2_behind yX2_behind, Cond.code yX2_behind cX2_behind 4 (some .int)]
def wsX2_steamFor : List Cond := .code yX2_steamFor cX2_steamFor 4 (some .int) :: ((wsX2_steamFor_r1 ++ (wsX2_steamFor_r2 ++ wsX2_steamFor_r3)) ++ wsX20)
def wsX2_command_r1 : List Cond := [Cond.fieldLink RX2 19 "EffectTrainModel" "trial" "[I", Cond.constantLong RX2 149 (20), Cond.methodLink RX2 144 yX2_ticksOn, Cond.instanceMethod yX2_ticksOn, Cond.selects RX2 yX2_ticksOn yX2_ticksOn, Cond.initialized RX2, Cond.code yX2_ticksOn cX2_ticksOn 5 (some .int), Cond.methodLink RX2 90 yX2_tickOn, Cond.instanceMethod yX2_tickOn, Cond.selects RX2 yX2_tickOn yX2_tickOn, Cond.code yX2_tickOn cX2_tickOn 4 none, Cond.fieldLink RX2 38 "EffectTrainModel" "n" "I", Cond.methodLink RX2 66 yX2_washed, Cond.instanceMethod yX2_washed, Cond.selects RX2 yX2_washed yX2_washed, Cond.code yX2_washed cX2_washed 4 (some .int), Cond.methodLink RX2 62 yX2_works, Cond.static yX2_works, Cond.code yX2_works cX2_works 2 (some .boolean), Cond.methodLink RX2 70 yX2_boil, Cond.instanceMethod yX2_boil, Cond.selects RX2 yX2_boil yX2_boil, Cond.code yX2_boil cX2_boil 7 none, Cond.methodLink RX2 77 yX2_thickness]
def wsX2_command_r2 : List Cond := [Cond.static yX2_thickness, Cond.code yX2_thickness cX2_thickness 2 (some .int), Cond.methodLink RX2 58 yX2_amount, Cond.static yX2_amount, Cond.code yX2_amount cX2_amount 2 (some .int), Cond.methodLink RX2 80 yX2_power, Cond.static yX2_power, Cond.code yX2_power cX2_power 2 (some .int), Cond.methodLink RX2 83 yX2_less, Cond.static yX2_less, Cond.code yX2_less cX2_less 2 (some .int), Cond.methodLink RX2 74 yX2_go, Cond.instanceMethod yX2_go, Cond.selects RX2 yX2_go yX2_go, Cond.code yX2_go cX2_go 8 none, Cond.fieldLink RX2 32 "EffectTrainModel" "flow" "[I", Cond.fieldLink RX2 35 "EffectTrainModel" "salt" "[I", Cond.methodLink RX2 87 yX2_behind, Cond.instanceMethod yX2_behind, Cond.selects RX2 yX2_behind yX2_behind, Cond.code yX2_behind cX2_behind 4 (some .int), Cond.methodLink RX2 129 yX2_isEffect, Cond.instanceMethod yX2_isEffect, Cond.selects RX2 yX2_isEffect yX2_isEffect]
def wsX2_command_r3 : List Cond := [Cond.code yX2_isEffect cX2_isEffect 2 (some .boolean), Cond.methodLink RX2 54 yX2_in, Cond.static yX2_in, Cond.code yX2_in cX2_in 6 (some .boolean)]
def wsX2_command : List Cond := .code yX2_command cX2_command 7 (some .boolean) :: ((wsX2_command_r1 ++ (wsX2_command_r2 ++ wsX2_command_r3)) ++ wsX20)
def wsX2_runScript_r1 : List Cond := [Cond.constantLong RX2 158 (3), Cond.fieldLink RX2 16 "EffectTrainModel" "now" "[I", Cond.fieldLink RX2 19 "EffectTrainModel" "trial" "[I", Cond.constantLong RX2 165 (100000), Cond.methodLink RX2 54 yX2_in, Cond.static yX2_in, Cond.initialized RX2, Cond.code yX2_in cX2_in 6 (some .boolean), Cond.methodLink RX2 105 yX2_tenTo, Cond.static yX2_tenTo, Cond.code yX2_tenTo cX2_tenTo 4 (some .long), Cond.constantLong RX2 45 (10), Cond.methodLink RX2 98 yX2_refused, Cond.instanceMethod yX2_refused, Cond.selects RX2 yX2_refused yX2_refused, Cond.code yX2_refused cX2_refused 2 (some .boolean), Cond.fieldLink RX2 42 "EffectTrainModel" "refusal" "I", Cond.methodLink RX2 50 yX2_copy, Cond.static yX2_copy, Cond.code yX2_copy cX2_copy 6 none, Cond.methodLink RX2 167 yX2_command, Cond.instanceMethod yX2_command, Cond.selects RX2 yX2_command yX2_command, Cond.code yX2_command cX2_command 7 (some .boolean)]
def wsX2_runScript_r2 : List Cond := [Cond.constantLong RX2 149 (20), Cond.methodLink RX2 144 yX2_ticksOn, Cond.instanceMethod yX2_ticksOn, Cond.selects RX2 yX2_ticksOn yX2_ticksOn, Cond.code yX2_ticksOn cX2_ticksOn 5 (some .int), Cond.methodLink RX2 90 yX2_tickOn, Cond.instanceMethod yX2_tickOn, Cond.selects RX2 yX2_tickOn yX2_tickOn, Cond.code yX2_tickOn cX2_tickOn 4 none, Cond.fieldLink RX2 38 "EffectTrainModel" "n" "I", Cond.methodLink RX2 66 yX2_washed, Cond.instanceMethod yX2_washed, Cond.selects RX2 yX2_washed yX2_washed, Cond.code yX2_washed cX2_washed 4 (some .int), Cond.methodLink RX2 62 yX2_works, Cond.static yX2_works, Cond.code yX2_works cX2_works 2 (some .boolean), Cond.methodLink RX2 70 yX2_boil, Cond.instanceMethod yX2_boil, Cond.selects RX2 yX2_boil yX2_boil, Cond.code yX2_boil cX2_boil 7 none, Cond.methodLink RX2 77 yX2_thickness, Cond.static yX2_thickness, Cond.code yX2_thickness cX2_thickness 2 (some .int)]
def wsX2_runScript_r3 : List Cond := [Cond.methodLink RX2 58 yX2_amount, Cond.static yX2_amount, Cond.code yX2_amount cX2_amount 2 (some .int), Cond.methodLink RX2 80 yX2_power, Cond.static yX2_power, Cond.code yX2_power cX2_power 2 (some .int), Cond.methodLink RX2 83 yX2_less, Cond.static yX2_less, Cond.code yX2_less cX2_less 2 (some .int), Cond.methodLink RX2 74 yX2_go, Cond.instanceMethod yX2_go, Cond.selects RX2 yX2_go yX2_go, Cond.code yX2_go cX2_go 8 none, Cond.fieldLink RX2 32 "EffectTrainModel" "flow" "[I", Cond.fieldLink RX2 35 "EffectTrainModel" "salt" "[I", Cond.methodLink RX2 87 yX2_behind, Cond.instanceMethod yX2_behind, Cond.selects RX2 yX2_behind yX2_behind, Cond.code yX2_behind cX2_behind 4 (some .int), Cond.methodLink RX2 129 yX2_isEffect, Cond.instanceMethod yX2_isEffect, Cond.selects RX2 yX2_isEffect yX2_isEffect, Cond.code yX2_isEffect cX2_isEffect 2 (some .boolean)]
def wsX2_runScript : List Cond := .code yX2_runScript cX2_runScript 5 (some .int) :: ((wsX2_runScript_r1 ++ (wsX2_runScript_r2 ++ wsX2_runScript_r3)) ++ wsX20)
def wsX2_simulate_r1 : List Cond := [Cond.constantLong RX2 139 (99), Cond.fieldLink RX2 16 "EffectTrainModel" "now" "[I", Cond.fieldLink RX2 19 "EffectTrainModel" "trial" "[I", Cond.constantLong RX2 170 (6364136223846793005), Cond.constantLong RX2 172 (1442695040888963407), Cond.fieldLink RX2 38 "EffectTrainModel" "n" "I", Cond.methodLink RX2 54 yX2_in, Cond.static yX2_in, Cond.initialized RX2, Cond.code yX2_in cX2_in 6 (some .boolean), Cond.methodLink RX2 98 yX2_refused, Cond.instanceMethod yX2_refused, Cond.selects RX2 yX2_refused yX2_refused, Cond.code yX2_refused cX2_refused 2 (some .boolean), Cond.fieldLink RX2 42 "EffectTrainModel" "refusal" "I", Cond.methodLink RX2 50 yX2_copy, Cond.static yX2_copy, Cond.code yX2_copy cX2_copy 6 none, Cond.methodLink RX2 62 yX2_works, Cond.static yX2_works, Cond.code yX2_works cX2_works 2 (some .boolean), Cond.methodLink RX2 90 yX2_tickOn, Cond.instanceMethod yX2_tickOn, Cond.selects RX2 yX2_tickOn yX2_tickOn]
def wsX2_simulate_r2 : List Cond := [Cond.code yX2_tickOn cX2_tickOn 4 none, Cond.methodLink RX2 66 yX2_washed, Cond.instanceMethod yX2_washed, Cond.selects RX2 yX2_washed yX2_washed, Cond.code yX2_washed cX2_washed 4 (some .int), Cond.methodLink RX2 70 yX2_boil, Cond.instanceMethod yX2_boil, Cond.selects RX2 yX2_boil yX2_boil, Cond.code yX2_boil cX2_boil 7 none, Cond.methodLink RX2 77 yX2_thickness, Cond.static yX2_thickness, Cond.code yX2_thickness cX2_thickness 2 (some .int), Cond.methodLink RX2 58 yX2_amount, Cond.static yX2_amount, Cond.code yX2_amount cX2_amount 2 (some .int), Cond.methodLink RX2 80 yX2_power, Cond.static yX2_power, Cond.code yX2_power cX2_power 2 (some .int), Cond.methodLink RX2 83 yX2_less, Cond.static yX2_less, Cond.code yX2_less cX2_less 2 (some .int), Cond.methodLink RX2 74 yX2_go, Cond.instanceMethod yX2_go, Cond.selects RX2 yX2_go yX2_go]
def wsX2_simulate_r3 : List Cond := [Cond.code yX2_go cX2_go 8 none, Cond.fieldLink RX2 32 "EffectTrainModel" "flow" "[I", Cond.fieldLink RX2 35 "EffectTrainModel" "salt" "[I", Cond.methodLink RX2 87 yX2_behind, Cond.instanceMethod yX2_behind, Cond.selects RX2 yX2_behind yX2_behind, Cond.code yX2_behind cX2_behind 4 (some .int)]
def wsX2_simulate : List Cond := .code yX2_simulate cX2_simulate 9 (some .int) :: ((wsX2_simulate_r1 ++ (wsX2_simulate_r2 ++ wsX2_simulate_r3)) ++ wsX20)
def wsX2_save : List Cond := .code yX2_save cX2_save 2 (some .int) :: ([.fieldLink RX2 28 "EffectTrainModel" "isKept" "[Z", .fieldLink RX2 16 "EffectTrainModel" "now" "[I", .fieldLink RX2 25 "EffectTrainModel" "kept" "[I", .methodLink RX2 54 yX2_in, .static yX2_in, .initialized RX2, .code yX2_in cX2_in 6 (some .boolean), .methodLink RX2 98 yX2_refused, .instanceMethod yX2_refused, .selects RX2 yX2_refused yX2_refused, .code yX2_refused cX2_refused 2 (some .boolean), .fieldLink RX2 42 "EffectTrainModel" "refusal" "I", .methodLink RX2 50 yX2_copy, .static yX2_copy, .code yX2_copy cX2_copy 6 none] ++ wsX20)
def wsX2_restore : List Cond := .code yX2_restore cX2_restore 2 (some .int) :: ([.fieldLink RX2 28 "EffectTrainModel" "isKept" "[Z", .fieldLink RX2 25 "EffectTrainModel" "kept" "[I", .fieldLink RX2 16 "EffectTrainModel" "now" "[I", .fieldLink RX2 47 "EffectTrainModel" "acts" "I", .methodLink RX2 54 yX2_in, .static yX2_in, .initialized RX2, .code yX2_in cX2_in 6 (some .boolean), .methodLink RX2 98 yX2_refused, .instanceMethod yX2_refused, .selects RX2 yX2_refused yX2_refused, .code yX2_refused cX2_refused 2 (some .boolean), .fieldLink RX2 42 "EffectTrainModel" "refusal" "I", .methodLink RX2 50 yX2_copy, .static yX2_copy, .code yX2_copy cX2_copy 6 none] ++ wsX20)
def wsJ9_max_7cf53 : List Cond := .code yJ9_max_7cf53 cJ9_max_7cf53 2 (some .int) :: ([])
def wsJ9_min_7cf53 : List Cond := .code yJ9_min_7cf53 cJ9_min_7cf53 2 (some .int) :: ([])
def wsL_append : List Cond := .codeWith yL_append cL_append 4 (some .int) [(0, 9, 12, 13), (0, 9, 15, 15)] :: ([.classLink RL 13 "java/lang/IllegalArgumentException", .classLink RL 15 "java/lang/IllegalStateException", .methodLink RL 7 yX1_append, .instanceMethod yX1_append, .selects RX1 yX1_append yX1_append, .initialized RX1, .code yX1_append cX1_append 2 (some .int), .classLink RX1 55 "java/lang/IllegalStateException", .initialized "java/lang/IllegalStateException", .fieldLink RX1 13 "EffectTrain" "textLength" "I", .fieldLink RX1 9 "EffectTrain" "text" "[C", .methodLink RX1 51 yX1_checkRange, .static yX1_checkRange, .code yX1_checkRange cX1_checkRange 3 none, .classLink RX1 179 "java/lang/IllegalArgumentException", .initialized "java/lang/IllegalArgumentException"] ++ wsX10 ++ (vx_atS RX1 59 "java/lang/IllegalStateException" ["java/lang/RuntimeException", "java/lang/Exception"]).filter goodWord ++ (vx_atS RX1 183 "java/lang/IllegalArgumentException" ["java/lang/RuntimeException", "java/lang/Exception"]).filter goodWord)
def wsL_load_r1 : List Cond := [Cond.classLink RL 15 "java/lang/IllegalStateException", Cond.methodLink RL 17 yX1_load, Cond.instanceMethod yX1_load, Cond.selects RX1 yX1_load yX1_load, Cond.initialized RX1, Cond.code yX1_load cX1_load 2 (some .int), Cond.classLink RX1 55 "java/lang/IllegalStateException", Cond.initialized "java/lang/IllegalStateException", Cond.fieldLink RX1 24 "EffectTrain" "now" "LEffectTrain$State;", Cond.fieldLink RX1 17 "EffectTrain" "textNumbers" "[I", Cond.fieldLink RX1 41 "EffectTrain" "rememberedCount" "I", Cond.fieldLink RX1 47 "EffectTrain" "slotFilled" "[Z", Cond.methodLink RX1 62 yX1_readText, Cond.instanceMethod yX1_readText, Cond.selects RX1 yX1_readText yX1_readText, Cond.code yX1_readText cX1_readText 6 (some .int), Cond.fieldLink RX1 13 "EffectTrain" "textLength" "I", Cond.fieldLink RX1 9 "EffectTrain" "text" "[C", Cond.fieldLink RX1 82 "EffectTrain" "DIGITS" "[I", Cond.methodLink RX1 78 yX1_numberError, Cond.instanceMethod yX1_numberError, Cond.selects RX1 yX1_numberError yX1_numberError, Cond.code yX1_numberError cX1_numberError 8 (some .int), Cond.fieldLink RX1 88 "EffectTrain" "GREATEST" "[I"]
def wsL_load_r2 : List Cond := [Cond.fieldLink RX1 91 "EffectTrain" "LEAST" "[I", Cond.methodLink RX1 85 yX1_numberAt, Cond.instanceMethod yX1_numberAt, Cond.selects RX1 yX1_numberAt yX1_numberAt, Cond.code yX1_numberAt cX1_numberAt 5 (some .int), Cond.instanceMethod yX0_takeNumbers, Cond.initialized RX0, Cond.selects RX0 yX0_takeNumbers yX0_takeNumbers, Cond.code yX0_takeNumbers cX0_takeNumbers 4 none, Cond.fieldLink RX0 9 "EffectTrain$State" "n" "I", Cond.fieldLink RX0 15 "EffectTrain$State" "settings" "[I", Cond.methodLink RX0 55 arraycopyName, Cond.native arraycopyName, Cond.static arraycopyName, Cond.initialized "java/lang/System", Cond.fieldLink RX0 19 "EffectTrain$State" "clock" "I", Cond.fieldLink RX0 22 "EffectTrain$State" "counts" "[I", Cond.fieldLink RX0 43 "EffectTrain$State" "scaling" "[I", Cond.fieldLink RX0 46 "EffectTrain$State" "left" "[I", Cond.fieldLink RX0 25 "EffectTrain$State" "area" "[I", Cond.fieldLink RX0 28 "EffectTrain$State" "water" "[I", Cond.fieldLink RX0 31 "EffectTrain$State" "solids" "[I", Cond.fieldLink RX0 34 "EffectTrain$State" "valve" "[I", Cond.fieldLink RX0 37 "EffectTrain$State" "bleed" "[I"]
def wsL_load_r3 : List Cond := [Cond.fieldLink RX0 40 "EffectTrain$State" "scale" "[I", Cond.methodLink RX0 49 yJ7_fill_53178, Cond.static yJ7_fill_53178, Cond.initialized RJ7, Cond.code yJ7_fill_53178 cJ7_fill_53178 4 none, Cond.instanceMethod yX0_allWater, Cond.selects RX0 yX0_allWater yX0_allWater, Cond.code yX0_allWater cX0_allWater 3 (some .int), Cond.instanceMethod yX0_allSolids, Cond.selects RX0 yX0_allSolids yX0_allSolids, Cond.code yX0_allSolids cX0_allSolids 3 (some .int)]
def wsL_load : List Cond := .codeWith yL_load cL_load 3 (some .int) [(0, 8, 11, 15)] :: ((wsL_load_r1 ++ (wsL_load_r2 ++ wsL_load_r3)) ++ wsX10 ++ wsX00 ++ (vx_atS RX1 59 "java/lang/IllegalStateException" ["java/lang/RuntimeException", "java/lang/Exception"]).filter goodWord)
def wsL_about_r1 : List Cond := [Cond.classLink RL 13 "java/lang/IllegalArgumentException", Cond.methodLink RL 21 yX1_about, Cond.instanceMethod yX1_about, Cond.selects RX1 yX1_about yX1_about, Cond.initialized RX1, Cond.code yX1_about cX1_about 2 (some .int), Cond.fieldLink RX1 24 "EffectTrain" "now" "LEffectTrain$State;", Cond.methodLink RX1 51 yX1_checkRange, Cond.static yX1_checkRange, Cond.code yX1_checkRange cX1_checkRange 3 none, Cond.classLink RX1 179 "java/lang/IllegalArgumentException", Cond.initialized "java/lang/IllegalArgumentException", Cond.instanceMethod yX0_washedEffects, Cond.initialized RX0, Cond.selects RX0 yX0_washedEffects yX0_washedEffects, Cond.code yX0_washedEffects cX0_washedEffects 3 (some .int), Cond.fieldLink RX0 9 "EffectTrain$State" "n" "I", Cond.fieldLink RX0 46 "EffectTrain$State" "left" "[I", Cond.instanceMethod yX0_allWater, Cond.selects RX0 yX0_allWater yX0_allWater, Cond.code yX0_allWater cX0_allWater 3 (some .int), Cond.fieldLink RX0 28 "EffectTrain$State" "water" "[I", Cond.instanceMethod yX0_allSolids, Cond.selects RX0 yX0_allSolids yX0_allSolids]
def wsL_about_r2 : List Cond := [Cond.code yX0_allSolids cX0_allSolids 3 (some .int), Cond.fieldLink RX0 31 "EffectTrain$State" "solids" "[I"]
def wsL_about : List Cond := .codeWith yL_about cL_about 4 (some .int) [(0, 9, 12, 13)] :: ((wsL_about_r1 ++ wsL_about_r2) ++ wsX10 ++ wsX00 ++ (vx_atS RX1 183 "java/lang/IllegalArgumentException" ["java/lang/RuntimeException", "java/lang/Exception"]).filter goodWord)
def wsL_total : List Cond := .codeWith yL_total cL_total 4 (some .int) [(0, 9, 12, 13)] :: ([.classLink RL 13 "java/lang/IllegalArgumentException", .methodLink RL 24 yX1_total, .instanceMethod yX1_total, .selects RX1 yX1_total yX1_total, .initialized RX1, .code yX1_total cX1_total 2 (some .int), .fieldLink RX1 24 "EffectTrain" "now" "LEffectTrain$State;", .methodLink RX1 51 yX1_checkRange, .static yX1_checkRange, .code yX1_checkRange cX1_checkRange 3 none, .classLink RX1 179 "java/lang/IllegalArgumentException", .initialized "java/lang/IllegalArgumentException"] ++ wsX10 ++ wsX00 ++ (vx_atS RX1 183 "java/lang/IllegalArgumentException" ["java/lang/RuntimeException", "java/lang/Exception"]).filter goodWord)
def wsL_effect_r1 : List Cond := [Cond.classLink RL 31 "java/lang/IndexOutOfBoundsException", Cond.classLink RL 13 "java/lang/IllegalArgumentException", Cond.methodLink RL 27 yX1_effect, Cond.instanceMethod yX1_effect, Cond.selects RX1 yX1_effect yX1_effect, Cond.initialized RX1, Cond.code yX1_effect cX1_effect 3 (some .int), Cond.fieldLink RX1 24 "EffectTrain" "now" "LEffectTrain$State;", Cond.methodLink RX1 109 yX1_checkEffect, Cond.instanceMethod yX1_checkEffect, Cond.selects RX1 yX1_checkEffect yX1_checkEffect, Cond.code yX1_checkEffect cX1_checkEffect 2 none, Cond.classLink RX1 211 "java/lang/IndexOutOfBoundsException", Cond.initialized "java/lang/IndexOutOfBoundsException", Cond.methodLink RX1 51 yX1_checkRange, Cond.static yX1_checkRange, Cond.code yX1_checkRange cX1_checkRange 3 none, Cond.classLink RX1 179 "java/lang/IllegalArgumentException", Cond.initialized "java/lang/IllegalArgumentException", Cond.instanceMethod yX0_numberOf, Cond.initialized RX0, Cond.selects RX0 yX0_numberOf yX0_numberOf, Cond.code yX0_numberOf cX0_numberOf 3 (some .int), Cond.fieldLink RX0 25 "EffectTrain$State" "area" "[I"]
def wsL_effect_r2 : List Cond := [Cond.fieldLink RX0 28 "EffectTrain$State" "water" "[I", Cond.fieldLink RX0 31 "EffectTrain$State" "solids" "[I", Cond.fieldLink RX0 34 "EffectTrain$State" "valve" "[I", Cond.fieldLink RX0 37 "EffectTrain$State" "bleed" "[I", Cond.fieldLink RX0 40 "EffectTrain$State" "scale" "[I", Cond.fieldLink RX0 43 "EffectTrain$State" "scaling" "[I", Cond.fieldLink RX0 46 "EffectTrain$State" "left" "[I", Cond.methodLink RX0 61 yX0_thickness, Cond.instanceMethod yX0_thickness, Cond.selects RX0 yX0_thickness yX0_thickness, Cond.code yX0_thickness cX0_thickness 3 (some .int), Cond.methodLink RX0 65 yX0_power, Cond.instanceMethod yX0_power, Cond.selects RX0 yX0_power yX0_power, Cond.code yX0_power cX0_power 3 (some .int)]
def wsL_effect : List Cond := .codeWith yL_effect cL_effect 5 (some .int) [(0, 10, 13, 31), (0, 10, 17, 13)] :: ((wsL_effect_r1 ++ wsL_effect_r2) ++ wsX10 ++ wsX00 ++ (vx_atS RX1 215 "java/lang/IndexOutOfBoundsException" ["java/lang/RuntimeException", "java/lang/Exception"]).filter goodWord ++ (vx_atS RX1 183 "java/lang/IllegalArgumentException" ["java/lang/RuntimeException", "java/lang/Exception"]).filter goodWord)
def wsL_neighbor : List Cond := .codeWith yL_neighbor cL_neighbor 5 (some .int) [(0, 10, 13, 31)] :: ([.classLink RL 31 "java/lang/IndexOutOfBoundsException", .methodLink RL 33 yX1_neighbor, .instanceMethod yX1_neighbor, .selects RX1 yX1_neighbor yX1_neighbor, .initialized RX1, .code yX1_neighbor cX1_neighbor 3 (some .int), .fieldLink RX1 24 "EffectTrain" "now" "LEffectTrain$State;", .methodLink RX1 109 yX1_checkEffect, .instanceMethod yX1_checkEffect, .selects RX1 yX1_checkEffect yX1_checkEffect, .code yX1_checkEffect cX1_checkEffect 2 none, .classLink RX1 211 "java/lang/IndexOutOfBoundsException", .initialized "java/lang/IndexOutOfBoundsException", .instanceMethod yX0_effectBehind, .initialized RX0, .selects RX0 yX0_effectBehind yX0_effectBehind, .code yX0_effectBehind cX0_effectBehind 3 (some .int), .fieldLink RX0 9 "EffectTrain$State" "n" "I", .fieldLink RX0 46 "EffectTrain$State" "left" "[I", .instanceMethod yX0_effectBefore, .selects RX0 yX0_effectBefore yX0_effectBefore, .code yX0_effectBefore cX0_effectBefore 3 (some .int)] ++ wsX10 ++ wsX00 ++ (vx_atS RX1 215 "java/lang/IndexOutOfBoundsException" ["java/lang/RuntimeException", "java/lang/Exception"]).filter goodWord)
def wsL_share : List Cond := .codeWith yL_share cL_share 4 (some .int) [(0, 9, 12, 31)] :: ([.classLink RL 31 "java/lang/IndexOutOfBoundsException", .methodLink RL 37 yX1_share, .instanceMethod yX1_share, .selects RX1 yX1_share yX1_share, .initialized RX1, .code yX1_share cX1_share 3 (some .float), .fieldLink RX1 24 "EffectTrain" "now" "LEffectTrain$State;", .methodLink RX1 109 yX1_checkEffect, .instanceMethod yX1_checkEffect, .selects RX1 yX1_checkEffect yX1_checkEffect, .code yX1_checkEffect cX1_checkEffect 2 none, .classLink RX1 211 "java/lang/IndexOutOfBoundsException", .initialized "java/lang/IndexOutOfBoundsException", .instanceMethod yX0_amount, .initialized RX0, .selects RX0 yX0_amount yX0_amount, .code yX0_amount cX0_amount 2 (some .int), .fieldLink RX0 28 "EffectTrain$State" "water" "[I", .fieldLink RX0 31 "EffectTrain$State" "solids" "[I"] ++ wsX10 ++ wsX00 ++ (vx_atS RX1 215 "java/lang/IndexOutOfBoundsException" ["java/lang/RuntimeException", "java/lang/Exception"]).filter goodWord)
def wsL_tick_r1 : List Cond := [Cond.classLink RL 13 "java/lang/IllegalArgumentException", Cond.methodLink RL 41 yX1_tick, Cond.instanceMethod yX1_tick, Cond.selects RX1 yX1_tick yX1_tick, Cond.initialized RX1, Cond.code yX1_tick cX1_tick 2 (some .int), Cond.fieldLink RX1 24 "EffectTrain" "now" "LEffectTrain$State;", Cond.methodLink RX1 51 yX1_checkRange, Cond.static yX1_checkRange, Cond.code yX1_checkRange cX1_checkRange 3 none, Cond.classLink RX1 179 "java/lang/IllegalArgumentException", Cond.initialized "java/lang/IllegalArgumentException", Cond.methodLink RX1 129 yX1_remember, Cond.instanceMethod yX1_remember, Cond.selects RX1 yX1_remember yX1_remember, Cond.code yX1_remember cX1_remember 1 none, Cond.fieldLink RX1 38 "EffectTrain" "newest" "I", Cond.fieldLink RX1 35 "EffectTrain" "remembered" "[LEffectTrain$State;", Cond.fieldLink RX1 41 "EffectTrain" "rememberedCount" "I", Cond.methodLink RX1 151 yX1_stateAt, Cond.static yX1_stateAt, Cond.code yX1_stateAt cX1_stateAt 3 (some (.object "EffectTrain$State")), Cond.classLink RX1 21 RX0, Cond.instantiable RX0 12]
def wsL_tick_r2 : List Cond := [Cond.initialized RX0, Cond.instanceMethod yX0_init, Cond.code yX0_init cX0_init 1 none, Cond.methodLink RX0 3 objectInit, Cond.instanceMethod objectInit, Cond.code objectInit ⟨#[0xb1]⟩ 1 none, Cond.fieldLink RX0 9 "EffectTrain$State" "n" "I", Cond.arrayClass .int, Cond.fieldLink RX0 15 "EffectTrain$State" "settings" "[I", Cond.fieldLink RX0 19 "EffectTrain$State" "clock" "I", Cond.fieldLink RX0 22 "EffectTrain$State" "counts" "[I", Cond.fieldLink RX0 25 "EffectTrain$State" "area" "[I", Cond.fieldLink RX0 28 "EffectTrain$State" "water" "[I", Cond.fieldLink RX0 31 "EffectTrain$State" "solids" "[I", Cond.fieldLink RX0 34 "EffectTrain$State" "valve" "[I", Cond.fieldLink RX0 37 "EffectTrain$State" "bleed" "[I", Cond.fieldLink RX0 40 "EffectTrain$State" "scale" "[I", Cond.fieldLink RX0 43 "EffectTrain$State" "scaling" "[I", Cond.fieldLink RX0 46 "EffectTrain$State" "left" "[I", Cond.methodLink RX0 49 yJ7_fill_53178, Cond.static yJ7_fill_53178, Cond.initialized RJ7, Cond.code yJ7_fill_53178 cJ7_fill_53178 4 none, Cond.instanceMethod yX0_copyFrom]
def wsL_tick_r3 : List Cond := [Cond.selects RX0 yX0_copyFrom yX0_copyFrom, Cond.code yX0_copyFrom cX0_copyFrom 2 none, Cond.methodLink RX0 55 arraycopyName, Cond.native arraycopyName, Cond.static arraycopyName, Cond.initialized "java/lang/System", Cond.instanceMethod yX0_pass, Cond.selects RX0 yX0_pass yX0_pass, Cond.code yX0_pass cX0_pass 4 (some .int), Cond.methodLink RX0 68 yX0_beginWashInTurn, Cond.instanceMethod yX0_beginWashInTurn, Cond.selects RX0 yX0_beginWashInTurn yX0_beginWashInTurn, Cond.code yX0_beginWashInTurn cX0_beginWashInTurn 4 none, Cond.methodLink RX0 80 yX0_washedEffects, Cond.instanceMethod yX0_washedEffects, Cond.selects RX0 yX0_washedEffects yX0_washedEffects, Cond.code yX0_washedEffects cX0_washedEffects 3 (some .int), Cond.methodLink RX0 71 yX0_boilAll, Cond.instanceMethod yX0_boilAll, Cond.selects RX0 yX0_boilAll yX0_boilAll, Cond.code yX0_boilAll cX0_boilAll 4 none, Cond.methodLink RX0 84 yX0_boil, Cond.instanceMethod yX0_boil, Cond.selects RX0 yX0_boil yX0_boil]
def wsL_tick_r4 : List Cond := [Cond.code yX0_boil cX0_boil 7 (some .int), Cond.methodLink RX0 88 Lib.Math.min.name, Cond.static Lib.Math.min.name, Cond.initialized "java/lang/Math", Cond.code Lib.Math.min.name Lib.Math.min.code 2 (some .int), Cond.methodLink RX0 61 yX0_thickness, Cond.instanceMethod yX0_thickness, Cond.selects RX0 yX0_thickness yX0_thickness, Cond.code yX0_thickness cX0_thickness 3 (some .int), Cond.methodLink RX0 65 yX0_power, Cond.instanceMethod yX0_power, Cond.selects RX0 yX0_power yX0_power, Cond.code yX0_power cX0_power 3 (some .int), Cond.methodLink RX0 74 yX0_flowOn, Cond.instanceMethod yX0_flowOn, Cond.selects RX0 yX0_flowOn yX0_flowOn, Cond.code yX0_flowOn cX0_flowOn 9 none, Cond.methodLink RX0 93 yX0_effectBehind, Cond.instanceMethod yX0_effectBehind, Cond.selects RX0 yX0_effectBehind yX0_effectBehind, Cond.code yX0_effectBehind cX0_effectBehind 3 (some .int), Cond.methodLink RX0 96 yX0_amount, Cond.instanceMethod yX0_amount, Cond.selects RX0 yX0_amount yX0_amount]
def wsL_tick_r5 : List Cond := [Cond.code yX0_amount cX0_amount 2 (some .int), Cond.methodLink RX0 99 yX0_flowFrom, Cond.instanceMethod yX0_flowFrom, Cond.selects RX0 yX0_flowFrom yX0_flowFrom, Cond.code yX0_flowFrom cX0_flowFrom 4 (some .int), Cond.methodLink RX0 77 yX0_washOn, Cond.instanceMethod yX0_washOn, Cond.selects RX0 yX0_washOn yX0_washOn, Cond.code yX0_washOn cX0_washOn 2 none, Cond.methodLink RX0 102 Lib.Math.max.name, Cond.static Lib.Math.max.name, Cond.code Lib.Math.max.name Lib.Math.max.code 2 (some .int)]
def wsL_tick : List Cond := .codeWith yL_tick cL_tick 4 (some .int) [(0, 9, 12, 13)] :: ((wsL_tick_r1 ++ (wsL_tick_r2 ++ (wsL_tick_r3 ++ (wsL_tick_r4 ++ wsL_tick_r5)))) ++ wsX10 ++ wsX00 ++ (vx_atS RX1 183 "java/lang/IllegalArgumentException" ["java/lang/RuntimeException", "java/lang/Exception"]).filter goodWord)
def wsL_set_r1 : List Cond := [Cond.classLink RL 13 "java/lang/IllegalArgumentException", Cond.methodLink RL 44 yX1_set, Cond.instanceMethod yX1_set, Cond.selects RX1 yX1_set yX1_set, Cond.initialized RX1, Cond.code yX1_set cX1_set 4 (some .int), Cond.fieldLink RX1 91 "EffectTrain" "LEAST" "[I", Cond.fieldLink RX1 88 "EffectTrain" "GREATEST" "[I", Cond.fieldLink RX1 24 "EffectTrain" "now" "LEffectTrain$State;", Cond.methodLink RX1 51 yX1_checkRange, Cond.static yX1_checkRange, Cond.code yX1_checkRange cX1_checkRange 3 none, Cond.classLink RX1 179 "java/lang/IllegalArgumentException", Cond.initialized "java/lang/IllegalArgumentException", Cond.methodLink RX1 129 yX1_remember, Cond.instanceMethod yX1_remember, Cond.selects RX1 yX1_remember yX1_remember, Cond.code yX1_remember cX1_remember 1 none, Cond.fieldLink RX1 38 "EffectTrain" "newest" "I", Cond.fieldLink RX1 35 "EffectTrain" "remembered" "[LEffectTrain$State;", Cond.fieldLink RX1 41 "EffectTrain" "rememberedCount" "I", Cond.methodLink RX1 151 yX1_stateAt, Cond.static yX1_stateAt, Cond.code yX1_stateAt cX1_stateAt 3 (some (.object "EffectTrain$State"))]
def wsL_set_r2 : List Cond := [Cond.classLink RX1 21 RX0, Cond.instantiable RX0 12, Cond.initialized RX0, Cond.instanceMethod yX0_init, Cond.code yX0_init cX0_init 1 none, Cond.methodLink RX0 3 objectInit, Cond.instanceMethod objectInit, Cond.code objectInit ⟨#[0xb1]⟩ 1 none, Cond.fieldLink RX0 9 "EffectTrain$State" "n" "I", Cond.arrayClass .int, Cond.fieldLink RX0 15 "EffectTrain$State" "settings" "[I", Cond.fieldLink RX0 19 "EffectTrain$State" "clock" "I", Cond.fieldLink RX0 22 "EffectTrain$State" "counts" "[I", Cond.fieldLink RX0 25 "EffectTrain$State" "area" "[I", Cond.fieldLink RX0 28 "EffectTrain$State" "water" "[I", Cond.fieldLink RX0 31 "EffectTrain$State" "solids" "[I", Cond.fieldLink RX0 34 "EffectTrain$State" "valve" "[I", Cond.fieldLink RX0 37 "EffectTrain$State" "bleed" "[I", Cond.fieldLink RX0 40 "EffectTrain$State" "scale" "[I", Cond.fieldLink RX0 43 "EffectTrain$State" "scaling" "[I", Cond.fieldLink RX0 46 "EffectTrain$State" "left" "[I", Cond.methodLink RX0 49 yJ7_fill_53178, Cond.static yJ7_fill_53178, Cond.initialized RJ7]
def wsL_set_r3 : List Cond := [Cond.code yJ7_fill_53178 cJ7_fill_53178 4 none, Cond.instanceMethod yX0_copyFrom, Cond.selects RX0 yX0_copyFrom yX0_copyFrom, Cond.code yX0_copyFrom cX0_copyFrom 2 none, Cond.methodLink RX0 55 arraycopyName, Cond.native arraycopyName, Cond.static arraycopyName, Cond.initialized "java/lang/System"]
def wsL_set : List Cond := .codeWith yL_set cL_set 5 (some .int) [(0, 10, 13, 13)] :: ((wsL_set_r1 ++ (wsL_set_r2 ++ wsL_set_r3)) ++ wsX10 ++ wsX00 ++ (vx_atS RX1 183 "java/lang/IllegalArgumentException" ["java/lang/RuntimeException", "java/lang/Exception"]).filter goodWord)
def wsL_setValve_r1 : List Cond := [Cond.classLink RL 31 "java/lang/IndexOutOfBoundsException", Cond.classLink RL 13 "java/lang/IllegalArgumentException", Cond.methodLink RL 47 yX1_setValve, Cond.instanceMethod yX1_setValve, Cond.selects RX1 yX1_setValve yX1_setValve, Cond.initialized RX1, Cond.code yX1_setValve cX1_setValve 4 (some .int), Cond.fieldLink RX1 24 "EffectTrain" "now" "LEffectTrain$State;", Cond.methodLink RX1 109 yX1_checkEffect, Cond.instanceMethod yX1_checkEffect, Cond.selects RX1 yX1_checkEffect yX1_checkEffect, Cond.code yX1_checkEffect cX1_checkEffect 2 none, Cond.classLink RX1 211 "java/lang/IndexOutOfBoundsException", Cond.initialized "java/lang/IndexOutOfBoundsException", Cond.methodLink RX1 51 yX1_checkRange, Cond.static yX1_checkRange, Cond.code yX1_checkRange cX1_checkRange 3 none, Cond.classLink RX1 179 "java/lang/IllegalArgumentException", Cond.initialized "java/lang/IllegalArgumentException", Cond.methodLink RX1 129 yX1_remember, Cond.instanceMethod yX1_remember, Cond.selects RX1 yX1_remember yX1_remember, Cond.code yX1_remember cX1_remember 1 none, Cond.fieldLink RX1 38 "EffectTrain" "newest" "I"]
def wsL_setValve_r2 : List Cond := [Cond.fieldLink RX1 35 "EffectTrain" "remembered" "[LEffectTrain$State;", Cond.fieldLink RX1 41 "EffectTrain" "rememberedCount" "I", Cond.methodLink RX1 151 yX1_stateAt, Cond.static yX1_stateAt, Cond.code yX1_stateAt cX1_stateAt 3 (some (.object "EffectTrain$State")), Cond.classLink RX1 21 RX0, Cond.instantiable RX0 12, Cond.initialized RX0, Cond.instanceMethod yX0_init, Cond.code yX0_init cX0_init 1 none, Cond.methodLink RX0 3 objectInit, Cond.instanceMethod objectInit, Cond.code objectInit ⟨#[0xb1]⟩ 1 none, Cond.fieldLink RX0 9 "EffectTrain$State" "n" "I", Cond.arrayClass .int, Cond.fieldLink RX0 15 "EffectTrain$State" "settings" "[I", Cond.fieldLink RX0 19 "EffectTrain$State" "clock" "I", Cond.fieldLink RX0 22 "EffectTrain$State" "counts" "[I", Cond.fieldLink RX0 25 "EffectTrain$State" "area" "[I", Cond.fieldLink RX0 28 "EffectTrain$State" "water" "[I", Cond.fieldLink RX0 31 "EffectTrain$State" "solids" "[I", Cond.fieldLink RX0 34 "EffectTrain$State" "valve" "[I", Cond.fieldLink RX0 37 "EffectTrain$State" "bleed" "[I", Cond.fieldLink RX0 40 "EffectTrain$State" "scale" "[I"]
def wsL_setValve_r3 : List Cond := [Cond.fieldLink RX0 43 "EffectTrain$State" "scaling" "[I", Cond.fieldLink RX0 46 "EffectTrain$State" "left" "[I", Cond.methodLink RX0 49 yJ7_fill_53178, Cond.static yJ7_fill_53178, Cond.initialized RJ7, Cond.code yJ7_fill_53178 cJ7_fill_53178 4 none, Cond.instanceMethod yX0_copyFrom, Cond.selects RX0 yX0_copyFrom yX0_copyFrom, Cond.code yX0_copyFrom cX0_copyFrom 2 none, Cond.methodLink RX0 55 arraycopyName, Cond.native arraycopyName, Cond.static arraycopyName, Cond.initialized "java/lang/System"]
def wsL_setValve : List Cond := .codeWith yL_setValve cL_setValve 5 (some .int) [(0, 10, 13, 31), (0, 10, 17, 13)] :: ((wsL_setValve_r1 ++ (wsL_setValve_r2 ++ wsL_setValve_r3)) ++ wsX10 ++ wsX00 ++ (vx_atS RX1 215 "java/lang/IndexOutOfBoundsException" ["java/lang/RuntimeException", "java/lang/Exception"]).filter goodWord ++ (vx_atS RX1 183 "java/lang/IllegalArgumentException" ["java/lang/RuntimeException", "java/lang/Exception"]).filter goodWord)
def wsL_setBleed_r1 : List Cond := [Cond.classLink RL 31 "java/lang/IndexOutOfBoundsException", Cond.classLink RL 13 "java/lang/IllegalArgumentException", Cond.methodLink RL 50 yX1_setBleed, Cond.instanceMethod yX1_setBleed, Cond.selects RX1 yX1_setBleed yX1_setBleed, Cond.initialized RX1, Cond.code yX1_setBleed cX1_setBleed 4 (some .int), Cond.fieldLink RX1 24 "EffectTrain" "now" "LEffectTrain$State;", Cond.methodLink RX1 109 yX1_checkEffect, Cond.instanceMethod yX1_checkEffect, Cond.selects RX1 yX1_checkEffect yX1_checkEffect, Cond.code yX1_checkEffect cX1_checkEffect 2 none, Cond.classLink RX1 211 "java/lang/IndexOutOfBoundsException", Cond.initialized "java/lang/IndexOutOfBoundsException", Cond.methodLink RX1 51 yX1_checkRange, Cond.static yX1_checkRange, Cond.code yX1_checkRange cX1_checkRange 3 none, Cond.classLink RX1 179 "java/lang/IllegalArgumentException", Cond.initialized "java/lang/IllegalArgumentException", Cond.methodLink RX1 129 yX1_remember, Cond.instanceMethod yX1_remember, Cond.selects RX1 yX1_remember yX1_remember, Cond.code yX1_remember cX1_remember 1 none, Cond.fieldLink RX1 38 "EffectTrain" "newest" "I"]
def wsL_setBleed_r2 : List Cond := [Cond.fieldLink RX1 35 "EffectTrain" "remembered" "[LEffectTrain$State;", Cond.fieldLink RX1 41 "EffectTrain" "rememberedCount" "I", Cond.methodLink RX1 151 yX1_stateAt, Cond.static yX1_stateAt, Cond.code yX1_stateAt cX1_stateAt 3 (some (.object "EffectTrain$State")), Cond.classLink RX1 21 RX0, Cond.instantiable RX0 12, Cond.initialized RX0, Cond.instanceMethod yX0_init, Cond.code yX0_init cX0_init 1 none, Cond.methodLink RX0 3 objectInit, Cond.instanceMethod objectInit, Cond.code objectInit ⟨#[0xb1]⟩ 1 none, Cond.fieldLink RX0 9 "EffectTrain$State" "n" "I", Cond.arrayClass .int, Cond.fieldLink RX0 15 "EffectTrain$State" "settings" "[I", Cond.fieldLink RX0 19 "EffectTrain$State" "clock" "I", Cond.fieldLink RX0 22 "EffectTrain$State" "counts" "[I", Cond.fieldLink RX0 25 "EffectTrain$State" "area" "[I", Cond.fieldLink RX0 28 "EffectTrain$State" "water" "[I", Cond.fieldLink RX0 31 "EffectTrain$State" "solids" "[I", Cond.fieldLink RX0 34 "EffectTrain$State" "valve" "[I", Cond.fieldLink RX0 37 "EffectTrain$State" "bleed" "[I", Cond.fieldLink RX0 40 "EffectTrain$State" "scale" "[I"]
def wsL_setBleed_r3 : List Cond := [Cond.fieldLink RX0 43 "EffectTrain$State" "scaling" "[I", Cond.fieldLink RX0 46 "EffectTrain$State" "left" "[I", Cond.methodLink RX0 49 yJ7_fill_53178, Cond.static yJ7_fill_53178, Cond.initialized RJ7, Cond.code yJ7_fill_53178 cJ7_fill_53178 4 none, Cond.instanceMethod yX0_copyFrom, Cond.selects RX0 yX0_copyFrom yX0_copyFrom, Cond.code yX0_copyFrom cX0_copyFrom 2 none, Cond.methodLink RX0 55 arraycopyName, Cond.native arraycopyName, Cond.static arraycopyName, Cond.initialized "java/lang/System"]
def wsL_setBleed : List Cond := .codeWith yL_setBleed cL_setBleed 5 (some .int) [(0, 10, 13, 31), (0, 10, 17, 13)] :: ((wsL_setBleed_r1 ++ (wsL_setBleed_r2 ++ wsL_setBleed_r3)) ++ wsX10 ++ wsX00 ++ (vx_atS RX1 215 "java/lang/IndexOutOfBoundsException" ["java/lang/RuntimeException", "java/lang/Exception"]).filter goodWord ++ (vx_atS RX1 183 "java/lang/IllegalArgumentException" ["java/lang/RuntimeException", "java/lang/Exception"]).filter goodWord)
def wsL_wash_r1 : List Cond := [Cond.classLink RL 31 "java/lang/IndexOutOfBoundsException", Cond.classLink RL 13 "java/lang/IllegalArgumentException", Cond.classLink RL 15 "java/lang/IllegalStateException", Cond.methodLink RL 53 yX1_wash, Cond.instanceMethod yX1_wash, Cond.selects RX1 yX1_wash yX1_wash, Cond.initialized RX1, Cond.code yX1_wash cX1_wash 3 (some .int), Cond.fieldLink RX1 24 "EffectTrain" "now" "LEffectTrain$State;", Cond.methodLink RX1 109 yX1_checkEffect, Cond.instanceMethod yX1_checkEffect, Cond.selects RX1 yX1_checkEffect yX1_checkEffect, Cond.code yX1_checkEffect cX1_checkEffect 2 none, Cond.classLink RX1 211 "java/lang/IndexOutOfBoundsException", Cond.initialized "java/lang/IndexOutOfBoundsException", Cond.methodLink RX1 51 yX1_checkRange, Cond.static yX1_checkRange, Cond.code yX1_checkRange cX1_checkRange 3 none, Cond.classLink RX1 179 "java/lang/IllegalArgumentException", Cond.initialized "java/lang/IllegalArgumentException", Cond.methodLink RX1 141 yX1_checkWorks, Cond.instanceMethod yX1_checkWorks, Cond.selects RX1 yX1_checkWorks yX1_checkWorks, Cond.code yX1_checkWorks cX1_checkWorks 2 none]
def wsL_wash_r2 : List Cond := [Cond.classLink RX1 55 "java/lang/IllegalStateException", Cond.initialized "java/lang/IllegalStateException", Cond.methodLink RX1 129 yX1_remember, Cond.instanceMethod yX1_remember, Cond.selects RX1 yX1_remember yX1_remember, Cond.code yX1_remember cX1_remember 1 none, Cond.fieldLink RX1 38 "EffectTrain" "newest" "I", Cond.fieldLink RX1 35 "EffectTrain" "remembered" "[LEffectTrain$State;", Cond.fieldLink RX1 41 "EffectTrain" "rememberedCount" "I", Cond.methodLink RX1 151 yX1_stateAt, Cond.static yX1_stateAt, Cond.code yX1_stateAt cX1_stateAt 3 (some (.object "EffectTrain$State")), Cond.classLink RX1 21 RX0, Cond.instantiable RX0 12, Cond.initialized RX0, Cond.instanceMethod yX0_init, Cond.code yX0_init cX0_init 1 none, Cond.methodLink RX0 3 objectInit, Cond.instanceMethod objectInit, Cond.code objectInit ⟨#[0xb1]⟩ 1 none, Cond.fieldLink RX0 9 "EffectTrain$State" "n" "I", Cond.arrayClass .int, Cond.fieldLink RX0 15 "EffectTrain$State" "settings" "[I", Cond.fieldLink RX0 19 "EffectTrain$State" "clock" "I"]
def wsL_wash_r3 : List Cond := [Cond.fieldLink RX0 22 "EffectTrain$State" "counts" "[I", Cond.fieldLink RX0 25 "EffectTrain$State" "area" "[I", Cond.fieldLink RX0 28 "EffectTrain$State" "water" "[I", Cond.fieldLink RX0 31 "EffectTrain$State" "solids" "[I", Cond.fieldLink RX0 34 "EffectTrain$State" "valve" "[I", Cond.fieldLink RX0 37 "EffectTrain$State" "bleed" "[I", Cond.fieldLink RX0 40 "EffectTrain$State" "scale" "[I", Cond.fieldLink RX0 43 "EffectTrain$State" "scaling" "[I", Cond.fieldLink RX0 46 "EffectTrain$State" "left" "[I", Cond.methodLink RX0 49 yJ7_fill_53178, Cond.static yJ7_fill_53178, Cond.initialized RJ7, Cond.code yJ7_fill_53178 cJ7_fill_53178 4 none, Cond.instanceMethod yX0_copyFrom, Cond.selects RX0 yX0_copyFrom yX0_copyFrom, Cond.code yX0_copyFrom cX0_copyFrom 2 none, Cond.methodLink RX0 55 arraycopyName, Cond.native arraycopyName, Cond.static arraycopyName, Cond.initialized "java/lang/System", Cond.instanceMethod yX0_washedEffects, Cond.selects RX0 yX0_washedEffects yX0_washedEffects, Cond.code yX0_washedEffects cX0_washedEffects 3 (some .int)]
def wsL_wash : List Cond := .codeWith yL_wash cL_wash 5 (some .int) [(0, 10, 13, 31), (0, 10, 17, 13), (0, 10, 21, 15)] :: ((wsL_wash_r1 ++ (wsL_wash_r2 ++ wsL_wash_r3)) ++ wsX10 ++ wsX00 ++ (vx_atS RX1 215 "java/lang/IndexOutOfBoundsException" ["java/lang/RuntimeException", "java/lang/Exception"]).filter goodWord ++ (vx_atS RX1 183 "java/lang/IllegalArgumentException" ["java/lang/RuntimeException", "java/lang/Exception"]).filter goodWord ++ (vx_atS RX1 59 "java/lang/IllegalStateException" ["java/lang/RuntimeException", "java/lang/Exception"]).filter goodWord)
def wsL_endWash_r1 : List Cond := [Cond.classLink RL 31 "java/lang/IndexOutOfBoundsException", Cond.classLink RL 15 "java/lang/IllegalStateException", Cond.methodLink RL 56 yX1_endWash, Cond.instanceMethod yX1_endWash, Cond.selects RX1 yX1_endWash yX1_endWash, Cond.initialized RX1, Cond.code yX1_endWash cX1_endWash 3 (some .int), Cond.classLink RX1 55 "java/lang/IllegalStateException", Cond.initialized "java/lang/IllegalStateException", Cond.fieldLink RX1 24 "EffectTrain" "now" "LEffectTrain$State;", Cond.methodLink RX1 109 yX1_checkEffect, Cond.instanceMethod yX1_checkEffect, Cond.selects RX1 yX1_checkEffect yX1_checkEffect, Cond.code yX1_checkEffect cX1_checkEffect 2 none, Cond.classLink RX1 211 "java/lang/IndexOutOfBoundsException", Cond.initialized "java/lang/IndexOutOfBoundsException", Cond.methodLink RX1 129 yX1_remember, Cond.instanceMethod yX1_remember, Cond.selects RX1 yX1_remember yX1_remember, Cond.code yX1_remember cX1_remember 1 none, Cond.fieldLink RX1 38 "EffectTrain" "newest" "I", Cond.fieldLink RX1 35 "EffectTrain" "remembered" "[LEffectTrain$State;", Cond.fieldLink RX1 41 "EffectTrain" "rememberedCount" "I", Cond.methodLink RX1 151 yX1_stateAt]
def wsL_endWash_r2 : List Cond := [Cond.static yX1_stateAt, Cond.code yX1_stateAt cX1_stateAt 3 (some (.object "EffectTrain$State")), Cond.classLink RX1 21 RX0, Cond.instantiable RX0 12, Cond.initialized RX0, Cond.instanceMethod yX0_init, Cond.code yX0_init cX0_init 1 none, Cond.methodLink RX0 3 objectInit, Cond.instanceMethod objectInit, Cond.code objectInit ⟨#[0xb1]⟩ 1 none, Cond.fieldLink RX0 9 "EffectTrain$State" "n" "I", Cond.arrayClass .int, Cond.fieldLink RX0 15 "EffectTrain$State" "settings" "[I", Cond.fieldLink RX0 19 "EffectTrain$State" "clock" "I", Cond.fieldLink RX0 22 "EffectTrain$State" "counts" "[I", Cond.fieldLink RX0 25 "EffectTrain$State" "area" "[I", Cond.fieldLink RX0 28 "EffectTrain$State" "water" "[I", Cond.fieldLink RX0 31 "EffectTrain$State" "solids" "[I", Cond.fieldLink RX0 34 "EffectTrain$State" "valve" "[I", Cond.fieldLink RX0 37 "EffectTrain$State" "bleed" "[I", Cond.fieldLink RX0 40 "EffectTrain$State" "scale" "[I", Cond.fieldLink RX0 43 "EffectTrain$State" "scaling" "[I", Cond.fieldLink RX0 46 "EffectTrain$State" "left" "[I", Cond.methodLink RX0 49 yJ7_fill_53178]
def wsL_endWash_r3 : List Cond := [Cond.static yJ7_fill_53178, Cond.initialized RJ7, Cond.code yJ7_fill_53178 cJ7_fill_53178 4 none, Cond.instanceMethod yX0_copyFrom, Cond.selects RX0 yX0_copyFrom yX0_copyFrom, Cond.code yX0_copyFrom cX0_copyFrom 2 none, Cond.methodLink RX0 55 arraycopyName, Cond.native arraycopyName, Cond.static arraycopyName, Cond.initialized "java/lang/System"]
def wsL_endWash : List Cond := .codeWith yL_endWash cL_endWash 4 (some .int) [(0, 9, 12, 31), (0, 9, 15, 15)] :: ((wsL_endWash_r1 ++ (wsL_endWash_r2 ++ wsL_endWash_r3)) ++ wsX10 ++ wsX00 ++ (vx_atS RX1 59 "java/lang/IllegalStateException" ["java/lang/RuntimeException", "java/lang/Exception"]).filter goodWord ++ (vx_atS RX1 215 "java/lang/IndexOutOfBoundsException" ["java/lang/RuntimeException", "java/lang/Exception"]).filter goodWord)
def wsL_undo_r1 : List Cond := [Cond.classLink RL 15 "java/lang/IllegalStateException", Cond.methodLink RL 59 yX1_undo, Cond.instanceMethod yX1_undo, Cond.selects RX1 yX1_undo yX1_undo, Cond.initialized RX1, Cond.code yX1_undo cX1_undo 1 (some .int), Cond.classLink RX1 55 "java/lang/IllegalStateException", Cond.initialized "java/lang/IllegalStateException", Cond.fieldLink RX1 41 "EffectTrain" "rememberedCount" "I", Cond.fieldLink RX1 24 "EffectTrain" "now" "LEffectTrain$State;", Cond.fieldLink RX1 35 "EffectTrain" "remembered" "[LEffectTrain$State;", Cond.fieldLink RX1 38 "EffectTrain" "newest" "I", Cond.methodLink RX1 151 yX1_stateAt, Cond.static yX1_stateAt, Cond.code yX1_stateAt cX1_stateAt 3 (some (.object "EffectTrain$State")), Cond.classLink RX1 21 RX0, Cond.instantiable RX0 12, Cond.initialized RX0, Cond.instanceMethod yX0_init, Cond.code yX0_init cX0_init 1 none, Cond.methodLink RX0 3 objectInit, Cond.instanceMethod objectInit, Cond.code objectInit ⟨#[0xb1]⟩ 1 none, Cond.fieldLink RX0 9 "EffectTrain$State" "n" "I"]
def wsL_undo_r2 : List Cond := [Cond.arrayClass .int, Cond.fieldLink RX0 15 "EffectTrain$State" "settings" "[I", Cond.fieldLink RX0 19 "EffectTrain$State" "clock" "I", Cond.fieldLink RX0 22 "EffectTrain$State" "counts" "[I", Cond.fieldLink RX0 25 "EffectTrain$State" "area" "[I", Cond.fieldLink RX0 28 "EffectTrain$State" "water" "[I", Cond.fieldLink RX0 31 "EffectTrain$State" "solids" "[I", Cond.fieldLink RX0 34 "EffectTrain$State" "valve" "[I", Cond.fieldLink RX0 37 "EffectTrain$State" "bleed" "[I", Cond.fieldLink RX0 40 "EffectTrain$State" "scale" "[I", Cond.fieldLink RX0 43 "EffectTrain$State" "scaling" "[I", Cond.fieldLink RX0 46 "EffectTrain$State" "left" "[I", Cond.methodLink RX0 49 yJ7_fill_53178, Cond.static yJ7_fill_53178, Cond.initialized RJ7, Cond.code yJ7_fill_53178 cJ7_fill_53178 4 none, Cond.instanceMethod yX0_copyFrom, Cond.selects RX0 yX0_copyFrom yX0_copyFrom, Cond.code yX0_copyFrom cX0_copyFrom 2 none, Cond.methodLink RX0 55 arraycopyName, Cond.native arraycopyName, Cond.static arraycopyName, Cond.initialized "java/lang/System"]
def wsL_undo : List Cond := .codeWith yL_undo cL_undo 3 (some .int) [(0, 8, 11, 15)] :: ((wsL_undo_r1 ++ wsL_undo_r2) ++ wsX10 ++ wsX00 ++ (vx_atS RX1 59 "java/lang/IllegalStateException" ["java/lang/RuntimeException", "java/lang/Exception"]).filter goodWord)
def wsL_ahead_r1 : List Cond := [Cond.classLink RL 31 "java/lang/IndexOutOfBoundsException", Cond.classLink RL 13 "java/lang/IllegalArgumentException", Cond.methodLink RL 62 yX1_ahead, Cond.instanceMethod yX1_ahead, Cond.selects RX1 yX1_ahead yX1_ahead, Cond.initialized RX1, Cond.code yX1_ahead cX1_ahead 4 (some .int), Cond.fieldLink RX1 28 "EffectTrain" "trial" "LEffectTrain$State;", Cond.fieldLink RX1 24 "EffectTrain" "now" "LEffectTrain$State;", Cond.methodLink RX1 109 yX1_checkEffect, Cond.instanceMethod yX1_checkEffect, Cond.selects RX1 yX1_checkEffect yX1_checkEffect, Cond.code yX1_checkEffect cX1_checkEffect 2 none, Cond.classLink RX1 211 "java/lang/IndexOutOfBoundsException", Cond.initialized "java/lang/IndexOutOfBoundsException", Cond.methodLink RX1 51 yX1_checkRange, Cond.static yX1_checkRange, Cond.code yX1_checkRange cX1_checkRange 3 none, Cond.classLink RX1 179 "java/lang/IllegalArgumentException", Cond.initialized "java/lang/IllegalArgumentException", Cond.instanceMethod yX0_copyFrom, Cond.initialized RX0, Cond.selects RX0 yX0_copyFrom yX0_copyFrom, Cond.code yX0_copyFrom cX0_copyFrom 2 none]
def wsL_ahead_r2 : List Cond := [Cond.fieldLink RX0 9 "EffectTrain$State" "n" "I", Cond.fieldLink RX0 19 "EffectTrain$State" "clock" "I", Cond.fieldLink RX0 15 "EffectTrain$State" "settings" "[I", Cond.methodLink RX0 55 arraycopyName, Cond.native arraycopyName, Cond.static arraycopyName, Cond.initialized "java/lang/System", Cond.fieldLink RX0 22 "EffectTrain$State" "counts" "[I", Cond.fieldLink RX0 25 "EffectTrain$State" "area" "[I", Cond.fieldLink RX0 28 "EffectTrain$State" "water" "[I", Cond.fieldLink RX0 31 "EffectTrain$State" "solids" "[I", Cond.fieldLink RX0 34 "EffectTrain$State" "valve" "[I", Cond.fieldLink RX0 37 "EffectTrain$State" "bleed" "[I", Cond.fieldLink RX0 40 "EffectTrain$State" "scale" "[I", Cond.fieldLink RX0 43 "EffectTrain$State" "scaling" "[I", Cond.fieldLink RX0 46 "EffectTrain$State" "left" "[I", Cond.instanceMethod yX0_pass, Cond.selects RX0 yX0_pass yX0_pass, Cond.code yX0_pass cX0_pass 4 (some .int), Cond.methodLink RX0 68 yX0_beginWashInTurn, Cond.instanceMethod yX0_beginWashInTurn, Cond.selects RX0 yX0_beginWashInTurn yX0_beginWashInTurn, Cond.code yX0_beginWashInTurn cX0_beginWashInTurn 4 none, Cond.methodLink RX0 80 yX0_washedEffects]
def wsL_ahead_r3 : List Cond := [Cond.instanceMethod yX0_washedEffects, Cond.selects RX0 yX0_washedEffects yX0_washedEffects, Cond.code yX0_washedEffects cX0_washedEffects 3 (some .int), Cond.methodLink RX0 71 yX0_boilAll, Cond.instanceMethod yX0_boilAll, Cond.selects RX0 yX0_boilAll yX0_boilAll, Cond.code yX0_boilAll cX0_boilAll 4 none, Cond.methodLink RX0 84 yX0_boil, Cond.instanceMethod yX0_boil, Cond.selects RX0 yX0_boil yX0_boil, Cond.code yX0_boil cX0_boil 7 (some .int), Cond.methodLink RX0 88 Lib.Math.min.name, Cond.static Lib.Math.min.name, Cond.initialized "java/lang/Math", Cond.code Lib.Math.min.name Lib.Math.min.code 2 (some .int), Cond.methodLink RX0 61 yX0_thickness, Cond.instanceMethod yX0_thickness, Cond.selects RX0 yX0_thickness yX0_thickness, Cond.code yX0_thickness cX0_thickness 3 (some .int), Cond.methodLink RX0 65 yX0_power, Cond.instanceMethod yX0_power, Cond.selects RX0 yX0_power yX0_power, Cond.code yX0_power cX0_power 3 (some .int), Cond.methodLink RX0 74 yX0_flowOn]
def wsL_ahead_r4 : List Cond := [Cond.instanceMethod yX0_flowOn, Cond.selects RX0 yX0_flowOn yX0_flowOn, Cond.code yX0_flowOn cX0_flowOn 9 none, Cond.methodLink RX0 93 yX0_effectBehind, Cond.instanceMethod yX0_effectBehind, Cond.selects RX0 yX0_effectBehind yX0_effectBehind, Cond.code yX0_effectBehind cX0_effectBehind 3 (some .int), Cond.methodLink RX0 96 yX0_amount, Cond.instanceMethod yX0_amount, Cond.selects RX0 yX0_amount yX0_amount, Cond.code yX0_amount cX0_amount 2 (some .int), Cond.methodLink RX0 99 yX0_flowFrom, Cond.instanceMethod yX0_flowFrom, Cond.selects RX0 yX0_flowFrom yX0_flowFrom, Cond.code yX0_flowFrom cX0_flowFrom 4 (some .int), Cond.methodLink RX0 77 yX0_washOn, Cond.instanceMethod yX0_washOn, Cond.selects RX0 yX0_washOn yX0_washOn, Cond.code yX0_washOn cX0_washOn 2 none, Cond.methodLink RX0 102 Lib.Math.max.name, Cond.static Lib.Math.max.name, Cond.code Lib.Math.max.name Lib.Math.max.code 2 (some .int), Cond.instanceMethod yX0_numberOf, Cond.selects RX0 yX0_numberOf yX0_numberOf]
def wsL_ahead_r5 : List Cond := [Cond.code yX0_numberOf cX0_numberOf 3 (some .int)]
def wsL_ahead : List Cond := .codeWith yL_ahead cL_ahead 6 (some .int) [(0, 12, 15, 31), (0, 12, 19, 13)] :: ((wsL_ahead_r1 ++ (wsL_ahead_r2 ++ (wsL_ahead_r3 ++ (wsL_ahead_r4 ++ wsL_ahead_r5)))) ++ wsX10 ++ wsX00 ++ (vx_atS RX1 215 "java/lang/IndexOutOfBoundsException" ["java/lang/RuntimeException", "java/lang/Exception"]).filter goodWord ++ (vx_atS RX1 183 "java/lang/IllegalArgumentException" ["java/lang/RuntimeException", "java/lang/Exception"]).filter goodWord)
def wsL_growth_r1 : List Cond := [Cond.classLink RL 13 "java/lang/IllegalArgumentException", Cond.methodLink RL 66 yX1_growth, Cond.instanceMethod yX1_growth, Cond.selects RX1 yX1_growth yX1_growth, Cond.initialized RX1, Cond.code yX1_growth cX1_growth 3 (some .int), Cond.fieldLink RX1 28 "EffectTrain" "trial" "LEffectTrain$State;", Cond.fieldLink RX1 24 "EffectTrain" "now" "LEffectTrain$State;", Cond.methodLink RX1 51 yX1_checkRange, Cond.static yX1_checkRange, Cond.code yX1_checkRange cX1_checkRange 3 none, Cond.classLink RX1 179 "java/lang/IllegalArgumentException", Cond.initialized "java/lang/IllegalArgumentException", Cond.instanceMethod yX0_copyFrom, Cond.initialized RX0, Cond.selects RX0 yX0_copyFrom yX0_copyFrom, Cond.code yX0_copyFrom cX0_copyFrom 2 none, Cond.fieldLink RX0 9 "EffectTrain$State" "n" "I", Cond.fieldLink RX0 19 "EffectTrain$State" "clock" "I", Cond.fieldLink RX0 15 "EffectTrain$State" "settings" "[I", Cond.methodLink RX0 55 arraycopyName, Cond.native arraycopyName, Cond.static arraycopyName, Cond.initialized "java/lang/System"]
def wsL_growth_r2 : List Cond := [Cond.fieldLink RX0 22 "EffectTrain$State" "counts" "[I", Cond.fieldLink RX0 25 "EffectTrain$State" "area" "[I", Cond.fieldLink RX0 28 "EffectTrain$State" "water" "[I", Cond.fieldLink RX0 31 "EffectTrain$State" "solids" "[I", Cond.fieldLink RX0 34 "EffectTrain$State" "valve" "[I", Cond.fieldLink RX0 37 "EffectTrain$State" "bleed" "[I", Cond.fieldLink RX0 40 "EffectTrain$State" "scale" "[I", Cond.fieldLink RX0 43 "EffectTrain$State" "scaling" "[I", Cond.fieldLink RX0 46 "EffectTrain$State" "left" "[I", Cond.instanceMethod yX0_pass, Cond.selects RX0 yX0_pass yX0_pass, Cond.code yX0_pass cX0_pass 4 (some .int), Cond.methodLink RX0 68 yX0_beginWashInTurn, Cond.instanceMethod yX0_beginWashInTurn, Cond.selects RX0 yX0_beginWashInTurn yX0_beginWashInTurn, Cond.code yX0_beginWashInTurn cX0_beginWashInTurn 4 none, Cond.methodLink RX0 80 yX0_washedEffects, Cond.instanceMethod yX0_washedEffects, Cond.selects RX0 yX0_washedEffects yX0_washedEffects, Cond.code yX0_washedEffects cX0_washedEffects 3 (some .int), Cond.methodLink RX0 71 yX0_boilAll, Cond.instanceMethod yX0_boilAll, Cond.selects RX0 yX0_boilAll yX0_boilAll, Cond.code yX0_boilAll cX0_boilAll 4 none]
def wsL_growth_r3 : List Cond := [Cond.methodLink RX0 84 yX0_boil, Cond.instanceMethod yX0_boil, Cond.selects RX0 yX0_boil yX0_boil, Cond.code yX0_boil cX0_boil 7 (some .int), Cond.methodLink RX0 88 Lib.Math.min.name, Cond.static Lib.Math.min.name, Cond.initialized "java/lang/Math", Cond.code Lib.Math.min.name Lib.Math.min.code 2 (some .int), Cond.methodLink RX0 61 yX0_thickness, Cond.instanceMethod yX0_thickness, Cond.selects RX0 yX0_thickness yX0_thickness, Cond.code yX0_thickness cX0_thickness 3 (some .int), Cond.methodLink RX0 65 yX0_power, Cond.instanceMethod yX0_power, Cond.selects RX0 yX0_power yX0_power, Cond.code yX0_power cX0_power 3 (some .int), Cond.methodLink RX0 74 yX0_flowOn, Cond.instanceMethod yX0_flowOn, Cond.selects RX0 yX0_flowOn yX0_flowOn, Cond.code yX0_flowOn cX0_flowOn 9 none, Cond.methodLink RX0 93 yX0_effectBehind, Cond.instanceMethod yX0_effectBehind, Cond.selects RX0 yX0_effectBehind yX0_effectBehind, Cond.code yX0_effectBehind cX0_effectBehind 3 (some .int)]
def wsL_growth_r4 : List Cond := [Cond.methodLink RX0 96 yX0_amount, Cond.instanceMethod yX0_amount, Cond.selects RX0 yX0_amount yX0_amount, Cond.code yX0_amount cX0_amount 2 (some .int), Cond.methodLink RX0 99 yX0_flowFrom, Cond.instanceMethod yX0_flowFrom, Cond.selects RX0 yX0_flowFrom yX0_flowFrom, Cond.code yX0_flowFrom cX0_flowFrom 4 (some .int), Cond.methodLink RX0 77 yX0_washOn, Cond.instanceMethod yX0_washOn, Cond.selects RX0 yX0_washOn yX0_washOn, Cond.code yX0_washOn cX0_washOn 2 none, Cond.methodLink RX0 102 Lib.Math.max.name, Cond.static Lib.Math.max.name, Cond.code Lib.Math.max.name Lib.Math.max.code 2 (some .int)]
def wsL_growth : List Cond := .codeWith yL_growth cL_growth 5 (some .int) [(0, 10, 13, 13)] :: ((wsL_growth_r1 ++ (wsL_growth_r2 ++ (wsL_growth_r3 ++ wsL_growth_r4))) ++ wsX10 ++ wsX00 ++ (vx_atS RX1 183 "java/lang/IllegalArgumentException" ["java/lang/RuntimeException", "java/lang/Exception"]).filter goodWord)
def wsL_washGain_r1 : List Cond := [Cond.classLink RL 31 "java/lang/IndexOutOfBoundsException", Cond.classLink RL 13 "java/lang/IllegalArgumentException", Cond.classLink RL 15 "java/lang/IllegalStateException", Cond.methodLink RL 69 yX1_washGain, Cond.instanceMethod yX1_washGain, Cond.selects RX1 yX1_washGain yX1_washGain, Cond.initialized RX1, Cond.code yX1_washGain cX1_washGain 5 (some .int), Cond.fieldLink RX1 28 "EffectTrain" "trial" "LEffectTrain$State;", Cond.fieldLink RX1 24 "EffectTrain" "now" "LEffectTrain$State;", Cond.methodLink RX1 109 yX1_checkEffect, Cond.instanceMethod yX1_checkEffect, Cond.selects RX1 yX1_checkEffect yX1_checkEffect, Cond.code yX1_checkEffect cX1_checkEffect 2 none, Cond.classLink RX1 211 "java/lang/IndexOutOfBoundsException", Cond.initialized "java/lang/IndexOutOfBoundsException", Cond.methodLink RX1 51 yX1_checkRange, Cond.static yX1_checkRange, Cond.code yX1_checkRange cX1_checkRange 3 none, Cond.classLink RX1 179 "java/lang/IllegalArgumentException", Cond.initialized "java/lang/IllegalArgumentException", Cond.methodLink RX1 141 yX1_checkWorks, Cond.instanceMethod yX1_checkWorks, Cond.selects RX1 yX1_checkWorks yX1_checkWorks]
def wsL_washGain_r2 : List Cond := [Cond.code yX1_checkWorks cX1_checkWorks 2 none, Cond.classLink RX1 55 "java/lang/IllegalStateException", Cond.initialized "java/lang/IllegalStateException", Cond.instanceMethod yX0_copyFrom, Cond.initialized RX0, Cond.selects RX0 yX0_copyFrom yX0_copyFrom, Cond.code yX0_copyFrom cX0_copyFrom 2 none, Cond.fieldLink RX0 9 "EffectTrain$State" "n" "I", Cond.fieldLink RX0 19 "EffectTrain$State" "clock" "I", Cond.fieldLink RX0 15 "EffectTrain$State" "settings" "[I", Cond.methodLink RX0 55 arraycopyName, Cond.native arraycopyName, Cond.static arraycopyName, Cond.initialized "java/lang/System", Cond.fieldLink RX0 22 "EffectTrain$State" "counts" "[I", Cond.fieldLink RX0 25 "EffectTrain$State" "area" "[I", Cond.fieldLink RX0 28 "EffectTrain$State" "water" "[I", Cond.fieldLink RX0 31 "EffectTrain$State" "solids" "[I", Cond.fieldLink RX0 34 "EffectTrain$State" "valve" "[I", Cond.fieldLink RX0 37 "EffectTrain$State" "bleed" "[I", Cond.fieldLink RX0 40 "EffectTrain$State" "scale" "[I", Cond.fieldLink RX0 43 "EffectTrain$State" "scaling" "[I", Cond.fieldLink RX0 46 "EffectTrain$State" "left" "[I", Cond.instanceMethod yX0_pass]
def wsL_washGain_r3 : List Cond := [Cond.selects RX0 yX0_pass yX0_pass, Cond.code yX0_pass cX0_pass 4 (some .int), Cond.methodLink RX0 68 yX0_beginWashInTurn, Cond.instanceMethod yX0_beginWashInTurn, Cond.selects RX0 yX0_beginWashInTurn yX0_beginWashInTurn, Cond.code yX0_beginWashInTurn cX0_beginWashInTurn 4 none, Cond.methodLink RX0 80 yX0_washedEffects, Cond.instanceMethod yX0_washedEffects, Cond.selects RX0 yX0_washedEffects yX0_washedEffects, Cond.code yX0_washedEffects cX0_washedEffects 3 (some .int), Cond.methodLink RX0 71 yX0_boilAll, Cond.instanceMethod yX0_boilAll, Cond.selects RX0 yX0_boilAll yX0_boilAll, Cond.code yX0_boilAll cX0_boilAll 4 none, Cond.methodLink RX0 84 yX0_boil, Cond.instanceMethod yX0_boil, Cond.selects RX0 yX0_boil yX0_boil, Cond.code yX0_boil cX0_boil 7 (some .int), Cond.methodLink RX0 88 Lib.Math.min.name, Cond.static Lib.Math.min.name, Cond.initialized "java/lang/Math", Cond.code Lib.Math.min.name Lib.Math.min.code 2 (some .int), Cond.methodLink RX0 61 yX0_thickness, Cond.instanceMethod yX0_thickness]
def wsL_washGain_r4 : List Cond := [Cond.selects RX0 yX0_thickness yX0_thickness, Cond.code yX0_thickness cX0_thickness 3 (some .int), Cond.methodLink RX0 65 yX0_power, Cond.instanceMethod yX0_power, Cond.selects RX0 yX0_power yX0_power, Cond.code yX0_power cX0_power 3 (some .int), Cond.methodLink RX0 74 yX0_flowOn, Cond.instanceMethod yX0_flowOn, Cond.selects RX0 yX0_flowOn yX0_flowOn, Cond.code yX0_flowOn cX0_flowOn 9 none, Cond.methodLink RX0 93 yX0_effectBehind, Cond.instanceMethod yX0_effectBehind, Cond.selects RX0 yX0_effectBehind yX0_effectBehind, Cond.code yX0_effectBehind cX0_effectBehind 3 (some .int), Cond.methodLink RX0 96 yX0_amount, Cond.instanceMethod yX0_amount, Cond.selects RX0 yX0_amount yX0_amount, Cond.code yX0_amount cX0_amount 2 (some .int), Cond.methodLink RX0 99 yX0_flowFrom, Cond.instanceMethod yX0_flowFrom, Cond.selects RX0 yX0_flowFrom yX0_flowFrom, Cond.code yX0_flowFrom cX0_flowFrom 4 (some .int), Cond.methodLink RX0 77 yX0_washOn, Cond.instanceMethod yX0_washOn]
def wsL_washGain_r5 : List Cond := [Cond.selects RX0 yX0_washOn yX0_washOn, Cond.code yX0_washOn cX0_washOn 2 none, Cond.methodLink RX0 102 Lib.Math.max.name, Cond.static Lib.Math.max.name, Cond.code Lib.Math.max.name Lib.Math.max.code 2 (some .int)]
def wsL_washGain : List Cond := .codeWith yL_washGain cL_washGain 6 (some .int) [(0, 12, 15, 31), (0, 12, 19, 13), (0, 12, 23, 15)] :: ((wsL_washGain_r1 ++ (wsL_washGain_r2 ++ (wsL_washGain_r3 ++ (wsL_washGain_r4 ++ wsL_washGain_r5)))) ++ wsX10 ++ wsX00 ++ (vx_atS RX1 215 "java/lang/IndexOutOfBoundsException" ["java/lang/RuntimeException", "java/lang/Exception"]).filter goodWord ++ (vx_atS RX1 183 "java/lang/IllegalArgumentException" ["java/lang/RuntimeException", "java/lang/Exception"]).filter goodWord ++ (vx_atS RX1 59 "java/lang/IllegalStateException" ["java/lang/RuntimeException", "java/lang/Exception"]).filter goodWord)
def wsL_bestTurns_r1 : List Cond := [Cond.classLink RL 13 "java/lang/IllegalArgumentException", Cond.methodLink RL 72 yX1_bestTurns, Cond.instanceMethod yX1_bestTurns, Cond.selects RX1 yX1_bestTurns yX1_bestTurns, Cond.initialized RX1, Cond.code yX1_bestTurns cX1_bestTurns 7 (some .int), Cond.fieldLink RX1 24 "EffectTrain" "now" "LEffectTrain$State;", Cond.methodLink RX1 51 yX1_checkRange, Cond.static yX1_checkRange, Cond.code yX1_checkRange cX1_checkRange 3 none, Cond.classLink RX1 179 "java/lang/IllegalArgumentException", Cond.initialized "java/lang/IllegalArgumentException", Cond.methodLink RX1 159 yX1_vaporWithChoice, Cond.instanceMethod yX1_vaporWithChoice, Cond.selects RX1 yX1_vaporWithChoice yX1_vaporWithChoice, Cond.code yX1_vaporWithChoice cX1_vaporWithChoice 5 (some .int), Cond.fieldLink RX1 31 "EffectTrain" "turnStates" "[LEffectTrain$State;", Cond.methodLink RX1 151 yX1_stateAt, Cond.static yX1_stateAt, Cond.code yX1_stateAt cX1_stateAt 3 (some (.object "EffectTrain$State")), Cond.classLink RX1 21 RX0, Cond.instantiable RX0 12, Cond.initialized RX0, Cond.instanceMethod yX0_init]
def wsL_bestTurns_r2 : List Cond := [Cond.code yX0_init cX0_init 1 none, Cond.methodLink RX0 3 objectInit, Cond.instanceMethod objectInit, Cond.code objectInit ⟨#[0xb1]⟩ 1 none, Cond.fieldLink RX0 9 "EffectTrain$State" "n" "I", Cond.arrayClass .int, Cond.fieldLink RX0 15 "EffectTrain$State" "settings" "[I", Cond.fieldLink RX0 19 "EffectTrain$State" "clock" "I", Cond.fieldLink RX0 22 "EffectTrain$State" "counts" "[I", Cond.fieldLink RX0 25 "EffectTrain$State" "area" "[I", Cond.fieldLink RX0 28 "EffectTrain$State" "water" "[I", Cond.fieldLink RX0 31 "EffectTrain$State" "solids" "[I", Cond.fieldLink RX0 34 "EffectTrain$State" "valve" "[I", Cond.fieldLink RX0 37 "EffectTrain$State" "bleed" "[I", Cond.fieldLink RX0 40 "EffectTrain$State" "scale" "[I", Cond.fieldLink RX0 43 "EffectTrain$State" "scaling" "[I", Cond.fieldLink RX0 46 "EffectTrain$State" "left" "[I", Cond.methodLink RX0 49 yJ7_fill_53178, Cond.static yJ7_fill_53178, Cond.initialized RJ7, Cond.code yJ7_fill_53178 cJ7_fill_53178 4 none, Cond.instanceMethod yX0_copyFrom, Cond.selects RX0 yX0_copyFrom yX0_copyFrom, Cond.code yX0_copyFrom cX0_copyFrom 2 none]
def wsL_bestTurns_r3 : List Cond := [Cond.methodLink RX0 55 arraycopyName, Cond.native arraycopyName, Cond.static arraycopyName, Cond.initialized "java/lang/System", Cond.instanceMethod yX0_pass, Cond.selects RX0 yX0_pass yX0_pass, Cond.code yX0_pass cX0_pass 4 (some .int), Cond.methodLink RX0 68 yX0_beginWashInTurn, Cond.instanceMethod yX0_beginWashInTurn, Cond.selects RX0 yX0_beginWashInTurn yX0_beginWashInTurn, Cond.code yX0_beginWashInTurn cX0_beginWashInTurn 4 none, Cond.methodLink RX0 80 yX0_washedEffects, Cond.instanceMethod yX0_washedEffects, Cond.selects RX0 yX0_washedEffects yX0_washedEffects, Cond.code yX0_washedEffects cX0_washedEffects 3 (some .int), Cond.methodLink RX0 71 yX0_boilAll, Cond.instanceMethod yX0_boilAll, Cond.selects RX0 yX0_boilAll yX0_boilAll, Cond.code yX0_boilAll cX0_boilAll 4 none, Cond.methodLink RX0 84 yX0_boil, Cond.instanceMethod yX0_boil, Cond.selects RX0 yX0_boil yX0_boil, Cond.code yX0_boil cX0_boil 7 (some .int), Cond.methodLink RX0 88 Lib.Math.min.name]
def wsL_bestTurns_r4 : List Cond := [Cond.static Lib.Math.min.name, Cond.initialized "java/lang/Math", Cond.code Lib.Math.min.name Lib.Math.min.code 2 (some .int), Cond.methodLink RX0 61 yX0_thickness, Cond.instanceMethod yX0_thickness, Cond.selects RX0 yX0_thickness yX0_thickness, Cond.code yX0_thickness cX0_thickness 3 (some .int), Cond.methodLink RX0 65 yX0_power, Cond.instanceMethod yX0_power, Cond.selects RX0 yX0_power yX0_power, Cond.code yX0_power cX0_power 3 (some .int), Cond.methodLink RX0 74 yX0_flowOn, Cond.instanceMethod yX0_flowOn, Cond.selects RX0 yX0_flowOn yX0_flowOn, Cond.code yX0_flowOn cX0_flowOn 9 none, Cond.methodLink RX0 93 yX0_effectBehind, Cond.instanceMethod yX0_effectBehind, Cond.selects RX0 yX0_effectBehind yX0_effectBehind, Cond.code yX0_effectBehind cX0_effectBehind 3 (some .int), Cond.methodLink RX0 96 yX0_amount, Cond.instanceMethod yX0_amount, Cond.selects RX0 yX0_amount yX0_amount, Cond.code yX0_amount cX0_amount 2 (some .int), Cond.methodLink RX0 99 yX0_flowFrom]
def wsL_bestTurns_r5 : List Cond := [Cond.instanceMethod yX0_flowFrom, Cond.selects RX0 yX0_flowFrom yX0_flowFrom, Cond.code yX0_flowFrom cX0_flowFrom 4 (some .int), Cond.methodLink RX0 77 yX0_washOn, Cond.instanceMethod yX0_washOn, Cond.selects RX0 yX0_washOn yX0_washOn, Cond.code yX0_washOn cX0_washOn 2 none, Cond.methodLink RX0 102 Lib.Math.max.name, Cond.static Lib.Math.max.name, Cond.code Lib.Math.max.name Lib.Math.max.code 2 (some .int), Cond.methodLink RX1 163 yX1_greatestVapor, Cond.instanceMethod yX1_greatestVapor, Cond.selects RX1 yX1_greatestVapor yX1_greatestVapor, Cond.code yX1_greatestVapor cX1_greatestVapor 5 (some .int), Cond.methodLink RX1 167 Lib.Math.max.name]
def wsL_bestTurns : List Cond := .codeWith yL_bestTurns cL_bestTurns 5 (some .int) [(0, 10, 13, 13)] :: ((wsL_bestTurns_r1 ++ (wsL_bestTurns_r2 ++ (wsL_bestTurns_r3 ++ (wsL_bestTurns_r4 ++ wsL_bestTurns_r5)))) ++ wsX10 ++ wsX00 ++ (vx_atS RX1 183 "java/lang/IllegalArgumentException" ["java/lang/RuntimeException", "java/lang/Exception"]).filter goodWord)
def wsL_scaledAfter_r1 : List Cond := [Cond.classLink RL 31 "java/lang/IndexOutOfBoundsException", Cond.classLink RL 13 "java/lang/IllegalArgumentException", Cond.methodLink RL 75 yX1_scaledAfter, Cond.instanceMethod yX1_scaledAfter, Cond.selects RX1 yX1_scaledAfter yX1_scaledAfter, Cond.initialized RX1, Cond.code yX1_scaledAfter cX1_scaledAfter 4 (some .int), Cond.fieldLink RX1 28 "EffectTrain" "trial" "LEffectTrain$State;", Cond.fieldLink RX1 24 "EffectTrain" "now" "LEffectTrain$State;", Cond.methodLink RX1 109 yX1_checkEffect, Cond.instanceMethod yX1_checkEffect, Cond.selects RX1 yX1_checkEffect yX1_checkEffect, Cond.code yX1_checkEffect cX1_checkEffect 2 none, Cond.classLink RX1 211 "java/lang/IndexOutOfBoundsException", Cond.initialized "java/lang/IndexOutOfBoundsException", Cond.methodLink RX1 51 yX1_checkRange, Cond.static yX1_checkRange, Cond.code yX1_checkRange cX1_checkRange 3 none, Cond.classLink RX1 179 "java/lang/IllegalArgumentException", Cond.initialized "java/lang/IllegalArgumentException", Cond.instanceMethod yX0_copyFrom, Cond.initialized RX0, Cond.selects RX0 yX0_copyFrom yX0_copyFrom, Cond.code yX0_copyFrom cX0_copyFrom 2 none]
def wsL_scaledAfter_r2 : List Cond := [Cond.fieldLink RX0 9 "EffectTrain$State" "n" "I", Cond.fieldLink RX0 19 "EffectTrain$State" "clock" "I", Cond.fieldLink RX0 15 "EffectTrain$State" "settings" "[I", Cond.methodLink RX0 55 arraycopyName, Cond.native arraycopyName, Cond.static arraycopyName, Cond.initialized "java/lang/System", Cond.fieldLink RX0 22 "EffectTrain$State" "counts" "[I", Cond.fieldLink RX0 25 "EffectTrain$State" "area" "[I", Cond.fieldLink RX0 28 "EffectTrain$State" "water" "[I", Cond.fieldLink RX0 31 "EffectTrain$State" "solids" "[I", Cond.fieldLink RX0 34 "EffectTrain$State" "valve" "[I", Cond.fieldLink RX0 37 "EffectTrain$State" "bleed" "[I", Cond.fieldLink RX0 40 "EffectTrain$State" "scale" "[I", Cond.fieldLink RX0 43 "EffectTrain$State" "scaling" "[I", Cond.fieldLink RX0 46 "EffectTrain$State" "left" "[I", Cond.instanceMethod yX0_pass, Cond.selects RX0 yX0_pass yX0_pass, Cond.code yX0_pass cX0_pass 4 (some .int), Cond.methodLink RX0 68 yX0_beginWashInTurn, Cond.instanceMethod yX0_beginWashInTurn, Cond.selects RX0 yX0_beginWashInTurn yX0_beginWashInTurn, Cond.code yX0_beginWashInTurn cX0_beginWashInTurn 4 none, Cond.methodLink RX0 80 yX0_washedEffects]
def wsL_scaledAfter_r3 : List Cond := [Cond.instanceMethod yX0_washedEffects, Cond.selects RX0 yX0_washedEffects yX0_washedEffects, Cond.code yX0_washedEffects cX0_washedEffects 3 (some .int), Cond.methodLink RX0 71 yX0_boilAll, Cond.instanceMethod yX0_boilAll, Cond.selects RX0 yX0_boilAll yX0_boilAll, Cond.code yX0_boilAll cX0_boilAll 4 none, Cond.methodLink RX0 84 yX0_boil, Cond.instanceMethod yX0_boil, Cond.selects RX0 yX0_boil yX0_boil, Cond.code yX0_boil cX0_boil 7 (some .int), Cond.methodLink RX0 88 Lib.Math.min.name, Cond.static Lib.Math.min.name, Cond.initialized "java/lang/Math", Cond.code Lib.Math.min.name Lib.Math.min.code 2 (some .int), Cond.methodLink RX0 61 yX0_thickness, Cond.instanceMethod yX0_thickness, Cond.selects RX0 yX0_thickness yX0_thickness, Cond.code yX0_thickness cX0_thickness 3 (some .int), Cond.methodLink RX0 65 yX0_power, Cond.instanceMethod yX0_power, Cond.selects RX0 yX0_power yX0_power, Cond.code yX0_power cX0_power 3 (some .int), Cond.methodLink RX0 74 yX0_flowOn]
def wsL_scaledAfter_r4 : List Cond := [Cond.instanceMethod yX0_flowOn, Cond.selects RX0 yX0_flowOn yX0_flowOn, Cond.code yX0_flowOn cX0_flowOn 9 none, Cond.methodLink RX0 93 yX0_effectBehind, Cond.instanceMethod yX0_effectBehind, Cond.selects RX0 yX0_effectBehind yX0_effectBehind, Cond.code yX0_effectBehind cX0_effectBehind 3 (some .int), Cond.methodLink RX0 96 yX0_amount, Cond.instanceMethod yX0_amount, Cond.selects RX0 yX0_amount yX0_amount, Cond.code yX0_amount cX0_amount 2 (some .int), Cond.methodLink RX0 99 yX0_flowFrom, Cond.instanceMethod yX0_flowFrom, Cond.selects RX0 yX0_flowFrom yX0_flowFrom, Cond.code yX0_flowFrom cX0_flowFrom 4 (some .int), Cond.methodLink RX0 77 yX0_washOn, Cond.instanceMethod yX0_washOn, Cond.selects RX0 yX0_washOn yX0_washOn, Cond.code yX0_washOn cX0_washOn 2 none, Cond.methodLink RX0 102 Lib.Math.max.name, Cond.static Lib.Math.max.name, Cond.code Lib.Math.max.name Lib.Math.max.code 2 (some .int)]
def wsL_scaledAfter : List Cond := .codeWith yL_scaledAfter cL_scaledAfter 5 (some .int) [(0, 10, 13, 31), (0, 10, 17, 13)] :: ((wsL_scaledAfter_r1 ++ (wsL_scaledAfter_r2 ++ (wsL_scaledAfter_r3 ++ wsL_scaledAfter_r4))) ++ wsX10 ++ wsX00 ++ (vx_atS RX1 215 "java/lang/IndexOutOfBoundsException" ["java/lang/RuntimeException", "java/lang/Exception"]).filter goodWord ++ (vx_atS RX1 183 "java/lang/IllegalArgumentException" ["java/lang/RuntimeException", "java/lang/Exception"]).filter goodWord)
def wsL_steamFor_r1 : List Cond := [Cond.classLink RL 13 "java/lang/IllegalArgumentException", Cond.methodLink RL 78 yX1_steamFor, Cond.instanceMethod yX1_steamFor, Cond.selects RX1 yX1_steamFor yX1_steamFor, Cond.initialized RX1, Cond.code yX1_steamFor cX1_steamFor 4 (some .int), Cond.fieldLink RX1 28 "EffectTrain" "trial" "LEffectTrain$State;", Cond.fieldLink RX1 24 "EffectTrain" "now" "LEffectTrain$State;", Cond.methodLink RX1 51 yX1_checkRange, Cond.static yX1_checkRange, Cond.code yX1_checkRange cX1_checkRange 3 none, Cond.classLink RX1 179 "java/lang/IllegalArgumentException", Cond.initialized "java/lang/IllegalArgumentException", Cond.instanceMethod yX0_copyFrom, Cond.initialized RX0, Cond.selects RX0 yX0_copyFrom yX0_copyFrom, Cond.code yX0_copyFrom cX0_copyFrom 2 none, Cond.fieldLink RX0 9 "EffectTrain$State" "n" "I", Cond.fieldLink RX0 19 "EffectTrain$State" "clock" "I", Cond.fieldLink RX0 15 "EffectTrain$State" "settings" "[I", Cond.methodLink RX0 55 arraycopyName, Cond.native arraycopyName, Cond.static arraycopyName, Cond.initialized "java/lang/System"]
def wsL_steamFor_r2 : List Cond := [Cond.fieldLink RX0 22 "EffectTrain$State" "counts" "[I", Cond.fieldLink RX0 25 "EffectTrain$State" "area" "[I", Cond.fieldLink RX0 28 "EffectTrain$State" "water" "[I", Cond.fieldLink RX0 31 "EffectTrain$State" "solids" "[I", Cond.fieldLink RX0 34 "EffectTrain$State" "valve" "[I", Cond.fieldLink RX0 37 "EffectTrain$State" "bleed" "[I", Cond.fieldLink RX0 40 "EffectTrain$State" "scale" "[I", Cond.fieldLink RX0 43 "EffectTrain$State" "scaling" "[I", Cond.fieldLink RX0 46 "EffectTrain$State" "left" "[I", Cond.instanceMethod yX0_pass, Cond.selects RX0 yX0_pass yX0_pass, Cond.code yX0_pass cX0_pass 4 (some .int), Cond.methodLink RX0 68 yX0_beginWashInTurn, Cond.instanceMethod yX0_beginWashInTurn, Cond.selects RX0 yX0_beginWashInTurn yX0_beginWashInTurn, Cond.code yX0_beginWashInTurn cX0_beginWashInTurn 4 none, Cond.methodLink RX0 80 yX0_washedEffects, Cond.instanceMethod yX0_washedEffects, Cond.selects RX0 yX0_washedEffects yX0_washedEffects, Cond.code yX0_washedEffects cX0_washedEffects 3 (some .int), Cond.methodLink RX0 71 yX0_boilAll, Cond.instanceMethod yX0_boilAll, Cond.selects RX0 yX0_boilAll yX0_boilAll, Cond.code yX0_boilAll cX0_boilAll 4 none]
def wsL_steamFor_r3 : List Cond := [Cond.methodLink RX0 84 yX0_boil, Cond.instanceMethod yX0_boil, Cond.selects RX0 yX0_boil yX0_boil, Cond.code yX0_boil cX0_boil 7 (some .int), Cond.methodLink RX0 88 Lib.Math.min.name, Cond.static Lib.Math.min.name, Cond.initialized "java/lang/Math", Cond.code Lib.Math.min.name Lib.Math.min.code 2 (some .int), Cond.methodLink RX0 61 yX0_thickness, Cond.instanceMethod yX0_thickness, Cond.selects RX0 yX0_thickness yX0_thickness, Cond.code yX0_thickness cX0_thickness 3 (some .int), Cond.methodLink RX0 65 yX0_power, Cond.instanceMethod yX0_power, Cond.selects RX0 yX0_power yX0_power, Cond.code yX0_power cX0_power 3 (some .int), Cond.methodLink RX0 74 yX0_flowOn, Cond.instanceMethod yX0_flowOn, Cond.selects RX0 yX0_flowOn yX0_flowOn, Cond.code yX0_flowOn cX0_flowOn 9 none, Cond.methodLink RX0 93 yX0_effectBehind, Cond.instanceMethod yX0_effectBehind, Cond.selects RX0 yX0_effectBehind yX0_effectBehind, Cond.code yX0_effectBehind cX0_effectBehind 3 (some .int)]
def wsL_steamFor_r4 : List Cond := [Cond.methodLink RX0 96 yX0_amount, Cond.instanceMethod yX0_amount, Cond.selects RX0 yX0_amount yX0_amount, Cond.code yX0_amount cX0_amount 2 (some .int), Cond.methodLink RX0 99 yX0_flowFrom, Cond.instanceMethod yX0_flowFrom, Cond.selects RX0 yX0_flowFrom yX0_flowFrom, Cond.code yX0_flowFrom cX0_flowFrom 4 (some .int), Cond.methodLink RX0 77 yX0_washOn, Cond.instanceMethod yX0_washOn, Cond.selects RX0 yX0_washOn yX0_washOn, Cond.code yX0_washOn cX0_washOn 2 none, Cond.methodLink RX0 102 Lib.Math.max.name, Cond.static Lib.Math.max.name, Cond.code Lib.Math.max.name Lib.Math.max.code 2 (some .int)]
def wsL_steamFor : List Cond := .codeWith yL_steamFor cL_steamFor 5 (some .int) [(0, 10, 13, 13)] :: ((wsL_steamFor_r1 ++ (wsL_steamFor_r2 ++ (wsL_steamFor_r3 ++ wsL_steamFor_r4))) ++ wsX10 ++ wsX00 ++ (vx_atS RX1 183 "java/lang/IllegalArgumentException" ["java/lang/RuntimeException", "java/lang/Exception"]).filter goodWord)
def wsL_runScript_r1 : List Cond := [Cond.classLink RL 13 "java/lang/IllegalArgumentException", Cond.methodLink RL 81 yX1_runScript, Cond.instanceMethod yX1_runScript, Cond.selects RX1 yX1_runScript yX1_runScript, Cond.initialized RX1, Cond.code yX1_runScript cX1_runScript 6 (some .int), Cond.classLink RX1 179 "java/lang/IllegalArgumentException", Cond.initialized "java/lang/IllegalArgumentException", Cond.fieldLink RX1 28 "EffectTrain" "trial" "LEffectTrain$State;", Cond.fieldLink RX1 24 "EffectTrain" "now" "LEffectTrain$State;", Cond.constantLong RX1 184 (100000), Cond.methodLink RX1 51 yX1_checkRange, Cond.static yX1_checkRange, Cond.code yX1_checkRange cX1_checkRange 3 none, Cond.methodLink RX1 175 yX1_withoutLastGroups, Cond.static yX1_withoutLastGroups, Cond.code yX1_withoutLastGroups cX1_withoutLastGroups 6 (some .long), Cond.instanceMethod yX0_copyFrom, Cond.initialized RX0, Cond.selects RX0 yX0_copyFrom yX0_copyFrom, Cond.code yX0_copyFrom cX0_copyFrom 2 none, Cond.fieldLink RX0 9 "EffectTrain$State" "n" "I", Cond.fieldLink RX0 19 "EffectTrain$State" "clock" "I", Cond.fieldLink RX0 15 "EffectTrain$State" "settings" "[I"]
def wsL_runScript_r2 : List Cond := [Cond.methodLink RX0 55 arraycopyName, Cond.native arraycopyName, Cond.static arraycopyName, Cond.initialized "java/lang/System", Cond.fieldLink RX0 22 "EffectTrain$State" "counts" "[I", Cond.fieldLink RX0 25 "EffectTrain$State" "area" "[I", Cond.fieldLink RX0 28 "EffectTrain$State" "water" "[I", Cond.fieldLink RX0 31 "EffectTrain$State" "solids" "[I", Cond.fieldLink RX0 34 "EffectTrain$State" "valve" "[I", Cond.fieldLink RX0 37 "EffectTrain$State" "bleed" "[I", Cond.fieldLink RX0 40 "EffectTrain$State" "scale" "[I", Cond.fieldLink RX0 43 "EffectTrain$State" "scaling" "[I", Cond.fieldLink RX0 46 "EffectTrain$State" "left" "[I", Cond.methodLink RX1 186 yX1_runCommand, Cond.instanceMethod yX1_runCommand, Cond.selects RX1 yX1_runCommand yX1_runCommand, Cond.code yX1_runCommand cX1_runCommand 4 (some .boolean), Cond.fieldLink RX1 88 "EffectTrain" "GREATEST" "[I", Cond.instanceMethod yX0_pass, Cond.selects RX0 yX0_pass yX0_pass, Cond.code yX0_pass cX0_pass 4 (some .int), Cond.methodLink RX0 68 yX0_beginWashInTurn, Cond.instanceMethod yX0_beginWashInTurn, Cond.selects RX0 yX0_beginWashInTurn yX0_beginWashInTurn]
def wsL_runScript_r3 : List Cond := [Cond.code yX0_beginWashInTurn cX0_beginWashInTurn 4 none, Cond.methodLink RX0 80 yX0_washedEffects, Cond.instanceMethod yX0_washedEffects, Cond.selects RX0 yX0_washedEffects yX0_washedEffects, Cond.code yX0_washedEffects cX0_washedEffects 3 (some .int), Cond.methodLink RX0 71 yX0_boilAll, Cond.instanceMethod yX0_boilAll, Cond.selects RX0 yX0_boilAll yX0_boilAll, Cond.code yX0_boilAll cX0_boilAll 4 none, Cond.methodLink RX0 84 yX0_boil, Cond.instanceMethod yX0_boil, Cond.selects RX0 yX0_boil yX0_boil, Cond.code yX0_boil cX0_boil 7 (some .int), Cond.methodLink RX0 88 Lib.Math.min.name, Cond.static Lib.Math.min.name, Cond.initialized "java/lang/Math", Cond.code Lib.Math.min.name Lib.Math.min.code 2 (some .int), Cond.methodLink RX0 61 yX0_thickness, Cond.instanceMethod yX0_thickness, Cond.selects RX0 yX0_thickness yX0_thickness, Cond.code yX0_thickness cX0_thickness 3 (some .int), Cond.methodLink RX0 65 yX0_power, Cond.instanceMethod yX0_power, Cond.selects RX0 yX0_power yX0_power]
def wsL_runScript_r4 : List Cond := [Cond.code yX0_power cX0_power 3 (some .int), Cond.methodLink RX0 74 yX0_flowOn, Cond.instanceMethod yX0_flowOn, Cond.selects RX0 yX0_flowOn yX0_flowOn, Cond.code yX0_flowOn cX0_flowOn 9 none, Cond.methodLink RX0 93 yX0_effectBehind, Cond.instanceMethod yX0_effectBehind, Cond.selects RX0 yX0_effectBehind yX0_effectBehind, Cond.code yX0_effectBehind cX0_effectBehind 3 (some .int), Cond.methodLink RX0 96 yX0_amount, Cond.instanceMethod yX0_amount, Cond.selects RX0 yX0_amount yX0_amount, Cond.code yX0_amount cX0_amount 2 (some .int), Cond.methodLink RX0 99 yX0_flowFrom, Cond.instanceMethod yX0_flowFrom, Cond.selects RX0 yX0_flowFrom yX0_flowFrom, Cond.code yX0_flowFrom cX0_flowFrom 4 (some .int), Cond.methodLink RX0 77 yX0_washOn, Cond.instanceMethod yX0_washOn, Cond.selects RX0 yX0_washOn yX0_washOn, Cond.code yX0_washOn cX0_washOn 2 none, Cond.methodLink RX0 102 Lib.Math.max.name, Cond.static Lib.Math.max.name, Cond.code Lib.Math.max.name Lib.Math.max.code 2 (some .int)]
def wsL_runScript_r5 : List Cond := [Cond.methodLink RX1 190 yX1_runEffectCommand, Cond.instanceMethod yX1_runEffectCommand, Cond.selects RX1 yX1_runEffectCommand yX1_runEffectCommand, Cond.code yX1_runEffectCommand cX1_runEffectCommand 4 (some .boolean)]
def wsL_runScript : List Cond := .codeWith yL_runScript cL_runScript 6 (some .int) [(0, 11, 14, 13)] :: ((wsL_runScript_r1 ++ (wsL_runScript_r2 ++ (wsL_runScript_r3 ++ (wsL_runScript_r4 ++ wsL_runScript_r5)))) ++ wsX10 ++ wsX00 ++ (vx_atS RX1 183 "java/lang/IllegalArgumentException" ["java/lang/RuntimeException", "java/lang/Exception"]).filter goodWord)
def wsL_simulate_r1 : List Cond := [Cond.classLink RL 13 "java/lang/IllegalArgumentException", Cond.methodLink RL 85 yX1_simulate, Cond.instanceMethod yX1_simulate, Cond.selects RX1 yX1_simulate yX1_simulate, Cond.initialized RX1, Cond.code yX1_simulate cX1_simulate 8 (some .int), Cond.fieldLink RX1 28 "EffectTrain" "trial" "LEffectTrain$State;", Cond.fieldLink RX1 24 "EffectTrain" "now" "LEffectTrain$State;", Cond.constantLong RX1 197 (6364136223846793005), Cond.constantLong RX1 199 (1442695040888963407), Cond.methodLink RX1 51 yX1_checkRange, Cond.static yX1_checkRange, Cond.code yX1_checkRange cX1_checkRange 3 none, Cond.classLink RX1 179 "java/lang/IllegalArgumentException", Cond.initialized "java/lang/IllegalArgumentException", Cond.instanceMethod yX0_copyFrom, Cond.initialized RX0, Cond.selects RX0 yX0_copyFrom yX0_copyFrom, Cond.code yX0_copyFrom cX0_copyFrom 2 none, Cond.fieldLink RX0 9 "EffectTrain$State" "n" "I", Cond.fieldLink RX0 19 "EffectTrain$State" "clock" "I", Cond.fieldLink RX0 15 "EffectTrain$State" "settings" "[I", Cond.methodLink RX0 55 arraycopyName, Cond.native arraycopyName]
def wsL_simulate_r2 : List Cond := [Cond.static arraycopyName, Cond.initialized "java/lang/System", Cond.fieldLink RX0 22 "EffectTrain$State" "counts" "[I", Cond.fieldLink RX0 25 "EffectTrain$State" "area" "[I", Cond.fieldLink RX0 28 "EffectTrain$State" "water" "[I", Cond.fieldLink RX0 31 "EffectTrain$State" "solids" "[I", Cond.fieldLink RX0 34 "EffectTrain$State" "valve" "[I", Cond.fieldLink RX0 37 "EffectTrain$State" "bleed" "[I", Cond.fieldLink RX0 40 "EffectTrain$State" "scale" "[I", Cond.fieldLink RX0 43 "EffectTrain$State" "scaling" "[I", Cond.fieldLink RX0 46 "EffectTrain$State" "left" "[I", Cond.methodLink RX1 201 yX1_disturb, Cond.instanceMethod yX1_disturb, Cond.selects RX1 yX1_disturb yX1_disturb, Cond.code yX1_disturb cX1_disturb 4 none, Cond.instanceMethod yX0_pass, Cond.selects RX0 yX0_pass yX0_pass, Cond.code yX0_pass cX0_pass 4 (some .int), Cond.methodLink RX0 68 yX0_beginWashInTurn, Cond.instanceMethod yX0_beginWashInTurn, Cond.selects RX0 yX0_beginWashInTurn yX0_beginWashInTurn, Cond.code yX0_beginWashInTurn cX0_beginWashInTurn 4 none, Cond.methodLink RX0 80 yX0_washedEffects, Cond.instanceMethod yX0_washedEffects]
def wsL_simulate_r3 : List Cond := [Cond.selects RX0 yX0_washedEffects yX0_washedEffects, Cond.code yX0_washedEffects cX0_washedEffects 3 (some .int), Cond.methodLink RX0 71 yX0_boilAll, Cond.instanceMethod yX0_boilAll, Cond.selects RX0 yX0_boilAll yX0_boilAll, Cond.code yX0_boilAll cX0_boilAll 4 none, Cond.methodLink RX0 84 yX0_boil, Cond.instanceMethod yX0_boil, Cond.selects RX0 yX0_boil yX0_boil, Cond.code yX0_boil cX0_boil 7 (some .int), Cond.methodLink RX0 88 Lib.Math.min.name, Cond.static Lib.Math.min.name, Cond.initialized "java/lang/Math", Cond.code Lib.Math.min.name Lib.Math.min.code 2 (some .int), Cond.methodLink RX0 61 yX0_thickness, Cond.instanceMethod yX0_thickness, Cond.selects RX0 yX0_thickness yX0_thickness, Cond.code yX0_thickness cX0_thickness 3 (some .int), Cond.methodLink RX0 65 yX0_power, Cond.instanceMethod yX0_power, Cond.selects RX0 yX0_power yX0_power, Cond.code yX0_power cX0_power 3 (some .int), Cond.methodLink RX0 74 yX0_flowOn, Cond.instanceMethod yX0_flowOn]
def wsL_simulate_r4 : List Cond := [Cond.selects RX0 yX0_flowOn yX0_flowOn, Cond.code yX0_flowOn cX0_flowOn 9 none, Cond.methodLink RX0 93 yX0_effectBehind, Cond.instanceMethod yX0_effectBehind, Cond.selects RX0 yX0_effectBehind yX0_effectBehind, Cond.code yX0_effectBehind cX0_effectBehind 3 (some .int), Cond.methodLink RX0 96 yX0_amount, Cond.instanceMethod yX0_amount, Cond.selects RX0 yX0_amount yX0_amount, Cond.code yX0_amount cX0_amount 2 (some .int), Cond.methodLink RX0 99 yX0_flowFrom, Cond.instanceMethod yX0_flowFrom, Cond.selects RX0 yX0_flowFrom yX0_flowFrom, Cond.code yX0_flowFrom cX0_flowFrom 4 (some .int), Cond.methodLink RX0 77 yX0_washOn, Cond.instanceMethod yX0_washOn, Cond.selects RX0 yX0_washOn yX0_washOn, Cond.code yX0_washOn cX0_washOn 2 none, Cond.methodLink RX0 102 Lib.Math.max.name, Cond.static Lib.Math.max.name, Cond.code Lib.Math.max.name Lib.Math.max.code 2 (some .int)]
def wsL_simulate : List Cond := .codeWith yL_simulate cL_simulate 6 (some .int) [(0, 11, 14, 13)] :: ((wsL_simulate_r1 ++ (wsL_simulate_r2 ++ (wsL_simulate_r3 ++ wsL_simulate_r4))) ++ wsX10 ++ wsX00 ++ (vx_atS RX1 183 "java/lang/IllegalArgumentException" ["java/lang/RuntimeException", "java/lang/Exception"]).filter goodWord)
def wsL_save_r1 : List Cond := [Cond.classLink RL 31 "java/lang/IndexOutOfBoundsException", Cond.methodLink RL 89 yX1_save, Cond.instanceMethod yX1_save, Cond.selects RX1 yX1_save yX1_save, Cond.initialized RX1, Cond.code yX1_save cX1_save 2 (some .int), Cond.fieldLink RX1 44 "EffectTrain" "slots" "[LEffectTrain$State;", Cond.fieldLink RX1 24 "EffectTrain" "now" "LEffectTrain$State;", Cond.fieldLink RX1 47 "EffectTrain" "slotFilled" "[Z", Cond.methodLink RX1 204 yX1_checkSlot, Cond.static yX1_checkSlot, Cond.code yX1_checkSlot cX1_checkSlot 1 none, Cond.classLink RX1 211 "java/lang/IndexOutOfBoundsException", Cond.initialized "java/lang/IndexOutOfBoundsException", Cond.methodLink RX1 151 yX1_stateAt, Cond.static yX1_stateAt, Cond.code yX1_stateAt cX1_stateAt 3 (some (.object "EffectTrain$State")), Cond.classLink RX1 21 RX0, Cond.instantiable RX0 12, Cond.initialized RX0, Cond.instanceMethod yX0_init, Cond.code yX0_init cX0_init 1 none, Cond.methodLink RX0 3 objectInit, Cond.instanceMethod objectInit]
def wsL_save_r2 : List Cond := [Cond.code objectInit ⟨#[0xb1]⟩ 1 none, Cond.fieldLink RX0 9 "EffectTrain$State" "n" "I", Cond.arrayClass .int, Cond.fieldLink RX0 15 "EffectTrain$State" "settings" "[I", Cond.fieldLink RX0 19 "EffectTrain$State" "clock" "I", Cond.fieldLink RX0 22 "EffectTrain$State" "counts" "[I", Cond.fieldLink RX0 25 "EffectTrain$State" "area" "[I", Cond.fieldLink RX0 28 "EffectTrain$State" "water" "[I", Cond.fieldLink RX0 31 "EffectTrain$State" "solids" "[I", Cond.fieldLink RX0 34 "EffectTrain$State" "valve" "[I", Cond.fieldLink RX0 37 "EffectTrain$State" "bleed" "[I", Cond.fieldLink RX0 40 "EffectTrain$State" "scale" "[I", Cond.fieldLink RX0 43 "EffectTrain$State" "scaling" "[I", Cond.fieldLink RX0 46 "EffectTrain$State" "left" "[I", Cond.methodLink RX0 49 yJ7_fill_53178, Cond.static yJ7_fill_53178, Cond.initialized RJ7, Cond.code yJ7_fill_53178 cJ7_fill_53178 4 none, Cond.instanceMethod yX0_copyFrom, Cond.selects RX0 yX0_copyFrom yX0_copyFrom, Cond.code yX0_copyFrom cX0_copyFrom 2 none, Cond.methodLink RX0 55 arraycopyName, Cond.native arraycopyName, Cond.static arraycopyName]
def wsL_save_r3 : List Cond := [Cond.initialized "java/lang/System"]
def wsL_save : List Cond := .codeWith yL_save cL_save 4 (some .int) [(0, 9, 12, 31)] :: ((wsL_save_r1 ++ (wsL_save_r2 ++ wsL_save_r3)) ++ wsX10 ++ wsX00 ++ (vx_atS RX1 215 "java/lang/IndexOutOfBoundsException" ["java/lang/RuntimeException", "java/lang/Exception"]).filter goodWord)
def wsL_restore_r1 : List Cond := [Cond.classLink RL 31 "java/lang/IndexOutOfBoundsException", Cond.classLink RL 15 "java/lang/IllegalStateException", Cond.methodLink RL 92 yX1_restore, Cond.instanceMethod yX1_restore, Cond.selects RX1 yX1_restore yX1_restore, Cond.initialized RX1, Cond.code yX1_restore cX1_restore 2 (some .int), Cond.classLink RX1 55 "java/lang/IllegalStateException", Cond.initialized "java/lang/IllegalStateException", Cond.fieldLink RX1 47 "EffectTrain" "slotFilled" "[Z", Cond.fieldLink RX1 24 "EffectTrain" "now" "LEffectTrain$State;", Cond.fieldLink RX1 44 "EffectTrain" "slots" "[LEffectTrain$State;", Cond.fieldLink RX1 41 "EffectTrain" "rememberedCount" "I", Cond.methodLink RX1 204 yX1_checkSlot, Cond.static yX1_checkSlot, Cond.code yX1_checkSlot cX1_checkSlot 1 none, Cond.classLink RX1 211 "java/lang/IndexOutOfBoundsException", Cond.initialized "java/lang/IndexOutOfBoundsException", Cond.methodLink RX1 151 yX1_stateAt, Cond.static yX1_stateAt, Cond.code yX1_stateAt cX1_stateAt 3 (some (.object "EffectTrain$State")), Cond.classLink RX1 21 RX0, Cond.instantiable RX0 12, Cond.initialized RX0]
def wsL_restore_r2 : List Cond := [Cond.instanceMethod yX0_init, Cond.code yX0_init cX0_init 1 none, Cond.methodLink RX0 3 objectInit, Cond.instanceMethod objectInit, Cond.code objectInit ⟨#[0xb1]⟩ 1 none, Cond.fieldLink RX0 9 "EffectTrain$State" "n" "I", Cond.arrayClass .int, Cond.fieldLink RX0 15 "EffectTrain$State" "settings" "[I", Cond.fieldLink RX0 19 "EffectTrain$State" "clock" "I", Cond.fieldLink RX0 22 "EffectTrain$State" "counts" "[I", Cond.fieldLink RX0 25 "EffectTrain$State" "area" "[I", Cond.fieldLink RX0 28 "EffectTrain$State" "water" "[I", Cond.fieldLink RX0 31 "EffectTrain$State" "solids" "[I", Cond.fieldLink RX0 34 "EffectTrain$State" "valve" "[I", Cond.fieldLink RX0 37 "EffectTrain$State" "bleed" "[I", Cond.fieldLink RX0 40 "EffectTrain$State" "scale" "[I", Cond.fieldLink RX0 43 "EffectTrain$State" "scaling" "[I", Cond.fieldLink RX0 46 "EffectTrain$State" "left" "[I", Cond.methodLink RX0 49 yJ7_fill_53178, Cond.static yJ7_fill_53178, Cond.initialized RJ7, Cond.code yJ7_fill_53178 cJ7_fill_53178 4 none, Cond.instanceMethod yX0_copyFrom, Cond.selects RX0 yX0_copyFrom yX0_copyFrom]
def wsL_restore_r3 : List Cond := [Cond.code yX0_copyFrom cX0_copyFrom 2 none, Cond.methodLink RX0 55 arraycopyName, Cond.native arraycopyName, Cond.static arraycopyName, Cond.initialized "java/lang/System"]
def wsL_restore : List Cond := .codeWith yL_restore cL_restore 4 (some .int) [(0, 9, 12, 31), (0, 9, 15, 15)] :: ((wsL_restore_r1 ++ (wsL_restore_r2 ++ wsL_restore_r3)) ++ wsX10 ++ wsX00 ++ (vx_atS RX1 59 "java/lang/IllegalStateException" ["java/lang/RuntimeException", "java/lang/Exception"]).filter goodWord ++ (vx_atS RX1 215 "java/lang/IndexOutOfBoundsException" ["java/lang/RuntimeException", "java/lang/Exception"]).filter goodWord)
def wsL_law0_r1 : List Cond := [Cond.classLink RL 8 RX1, Cond.instantiable RX1 11, Cond.initialized RX1, Cond.classLink RL 96 RX2, Cond.instantiable RX2 15, Cond.initialized RX2, Cond.arrayClass .long, Cond.arrayClass .double, Cond.constantLong RL 183 (4294967295), Cond.methodLink RL 95 yX1_init, Cond.instanceMethod yX1_init, Cond.code yX1_init cX1_init 1 none, Cond.methodLink RX1 3 objectInit, Cond.instanceMethod objectInit, Cond.code objectInit ⟨#[0xb1]⟩ 1 none, Cond.arrayClass .char, Cond.fieldLink RX1 9 "EffectTrain" "text" "[C", Cond.fieldLink RX1 13 "EffectTrain" "textLength" "I", Cond.arrayClass .int, Cond.fieldLink RX1 17 "EffectTrain" "textNumbers" "[I", Cond.classLink RX1 21 RX0, Cond.instantiable RX0 12, Cond.initialized RX0, Cond.fieldLink RX1 24 "EffectTrain" "now" "LEffectTrain$State;"]
def wsL_law0_r2 : List Cond := [Cond.fieldLink RX1 28 "EffectTrain" "trial" "LEffectTrain$State;", Cond.fieldLink RX1 31 "EffectTrain" "turnStates" "[LEffectTrain$State;", Cond.fieldLink RX1 35 "EffectTrain" "remembered" "[LEffectTrain$State;", Cond.fieldLink RX1 38 "EffectTrain" "newest" "I", Cond.fieldLink RX1 41 "EffectTrain" "rememberedCount" "I", Cond.fieldLink RX1 44 "EffectTrain" "slots" "[LEffectTrain$State;", Cond.arrayClass .boolean, Cond.fieldLink RX1 47 "EffectTrain" "slotFilled" "[Z", Cond.instanceMethod yX0_init, Cond.code yX0_init cX0_init 1 none, Cond.methodLink RX0 3 objectInit, Cond.fieldLink RX0 9 "EffectTrain$State" "n" "I", Cond.fieldLink RX0 15 "EffectTrain$State" "settings" "[I", Cond.fieldLink RX0 19 "EffectTrain$State" "clock" "I", Cond.fieldLink RX0 22 "EffectTrain$State" "counts" "[I", Cond.fieldLink RX0 25 "EffectTrain$State" "area" "[I", Cond.fieldLink RX0 28 "EffectTrain$State" "water" "[I", Cond.fieldLink RX0 31 "EffectTrain$State" "solids" "[I", Cond.fieldLink RX0 34 "EffectTrain$State" "valve" "[I", Cond.fieldLink RX0 37 "EffectTrain$State" "bleed" "[I", Cond.fieldLink RX0 40 "EffectTrain$State" "scale" "[I", Cond.fieldLink RX0 43 "EffectTrain$State" "scaling" "[I", Cond.fieldLink RX0 46 "EffectTrain$State" "left" "[I", Cond.methodLink RX0 49 yJ7_fill_53178]
def wsL_law0_r3 : List Cond := [Cond.static yJ7_fill_53178, Cond.initialized RJ7, Cond.code yJ7_fill_53178 cJ7_fill_53178 4 none, Cond.methodLink RL 98 yX2_init, Cond.instanceMethod yX2_init, Cond.code yX2_init cX2_init 2 none, Cond.methodLink RX2 1 objectInit, Cond.fieldLink RX2 7 "EffectTrainModel" "script" "[I", Cond.fieldLink RX2 13 "EffectTrainModel" "readRow" "[I", Cond.fieldLink RX2 16 "EffectTrainModel" "now" "[I", Cond.fieldLink RX2 19 "EffectTrainModel" "trial" "[I", Cond.fieldLink RX2 22 "EffectTrainModel" "diary" "[I", Cond.fieldLink RX2 25 "EffectTrainModel" "kept" "[I", Cond.fieldLink RX2 28 "EffectTrainModel" "isKept" "[Z", Cond.fieldLink RX2 32 "EffectTrainModel" "flow" "[I", Cond.fieldLink RX2 35 "EffectTrainModel" "salt" "[I", Cond.fieldLink RX2 38 "EffectTrainModel" "n" "I", Cond.methodLink RL 99 yL_append, Cond.static yL_append, Cond.initialized RL, Cond.codeWith yL_append cL_append 4 (some .int) [(0, 9, 12, 13), (0, 9, 15, 15)], Cond.classLink RL 13 "java/lang/IllegalArgumentException", Cond.classLink RL 15 "java/lang/IllegalStateException", Cond.methodLink RL 7 yX1_append]
def wsL_law0_r4 : List Cond := [Cond.instanceMethod yX1_append, Cond.selects RX1 yX1_append yX1_append, Cond.code yX1_append cX1_append 2 (some .int), Cond.classLink RX1 55 "java/lang/IllegalStateException", Cond.initialized "java/lang/IllegalStateException", Cond.methodLink RX1 51 yX1_checkRange, Cond.static yX1_checkRange, Cond.code yX1_checkRange cX1_checkRange 3 none, Cond.classLink RX1 179 "java/lang/IllegalArgumentException", Cond.initialized "java/lang/IllegalArgumentException", Cond.methodLink RL 104 yX2_append, Cond.instanceMethod yX2_append, Cond.selects RX2 yX2_append yX2_append, Cond.code yX2_append cX2_append 2 (some .int), Cond.constantLong RX2 93 (255), Cond.fieldLink RX2 95 "EffectTrainModel" "scriptSize" "I", Cond.methodLink RX2 54 yX2_in, Cond.static yX2_in, Cond.code yX2_in cX2_in 6 (some .boolean), Cond.methodLink RX2 98 yX2_refused, Cond.instanceMethod yX2_refused, Cond.selects RX2 yX2_refused yX2_refused, Cond.code yX2_refused cX2_refused 2 (some .boolean), Cond.fieldLink RX2 42 "EffectTrainModel" "refusal" "I"]
def wsL_law0_r5 : List Cond := [Cond.methodLink RL 105 yX2_thrown, Cond.instanceMethod yX2_thrown, Cond.selects RX2 yX2_thrown yX2_thrown, Cond.code yX2_thrown cX2_thrown 1 (some .int), Cond.methodLink RL 108 yX1_clearText, Cond.instanceMethod yX1_clearText, Cond.selects RX1 yX1_clearText yX1_clearText, Cond.code yX1_clearText cX1_clearText 2 (some .int), Cond.methodLink RL 111 yX2_clearText, Cond.instanceMethod yX2_clearText, Cond.selects RX2 yX2_clearText yX2_clearText, Cond.code yX2_clearText cX2_clearText 2 (some .int), Cond.methodLink RL 112 yX1_errorPosition, Cond.instanceMethod yX1_errorPosition, Cond.selects RX1 yX1_errorPosition yX1_errorPosition, Cond.code yX1_errorPosition cX1_errorPosition 1 (some .int), Cond.methodLink RX1 62 yX1_readText, Cond.instanceMethod yX1_readText, Cond.selects RX1 yX1_readText yX1_readText, Cond.code yX1_readText cX1_readText 6 (some .int), Cond.fieldLink RX1 82 "EffectTrain" "DIGITS" "[I", Cond.methodLink RX1 78 yX1_numberError, Cond.instanceMethod yX1_numberError, Cond.selects RX1 yX1_numberError yX1_numberError]
def wsL_law0_r6 : List Cond := [Cond.code yX1_numberError cX1_numberError 8 (some .int), Cond.fieldLink RX1 88 "EffectTrain" "GREATEST" "[I", Cond.fieldLink RX1 91 "EffectTrain" "LEAST" "[I", Cond.methodLink RX1 85 yX1_numberAt, Cond.instanceMethod yX1_numberAt, Cond.selects RX1 yX1_numberAt yX1_numberAt, Cond.code yX1_numberAt cX1_numberAt 5 (some .int), Cond.methodLink RL 115 yX2_errorPosition, Cond.instanceMethod yX2_errorPosition, Cond.selects RX2 yX2_errorPosition yX2_errorPosition, Cond.code yX2_errorPosition cX2_errorPosition 1 (some .int), Cond.methodLink RX2 122 yX2_readText, Cond.instanceMethod yX2_readText, Cond.selects RX2 yX2_readText yX2_readText, Cond.code yX2_readText cX2_readText 3 (some .int), Cond.fieldLink RX2 102 "EffectTrainModel" "spot" "I", Cond.fieldLink RX2 115 "EffectTrainModel" "readN" "I", Cond.methodLink RX2 111 yX2_number, Cond.instanceMethod yX2_number, Cond.selects RX2 yX2_number yX2_number, Cond.code yX2_number cX2_number 9 (some .int), Cond.constantLong RX2 109 (9), Cond.methodLink RX2 105 yX2_tenTo, Cond.static yX2_tenTo]
def wsL_law0_r7 : List Cond := [Cond.code yX2_tenTo cX2_tenTo 4 (some .long), Cond.constantLong RX2 45 (10), Cond.methodLink RX2 118 yX2_readEffect, Cond.instanceMethod yX2_readEffect, Cond.selects RX2 yX2_readEffect yX2_readEffect, Cond.code yX2_readEffect cX2_readEffect 4 (some .int), Cond.methodLink RL 116 yL_load, Cond.static yL_load, Cond.codeWith yL_load cL_load 3 (some .int) [(0, 8, 11, 15)], Cond.methodLink RL 17 yX1_load, Cond.instanceMethod yX1_load, Cond.selects RX1 yX1_load yX1_load, Cond.code yX1_load cX1_load 2 (some .int), Cond.instanceMethod yX0_takeNumbers, Cond.selects RX0 yX0_takeNumbers yX0_takeNumbers, Cond.code yX0_takeNumbers cX0_takeNumbers 4 none, Cond.methodLink RX0 55 arraycopyName, Cond.native arraycopyName, Cond.static arraycopyName, Cond.initialized "java/lang/System", Cond.instanceMethod yX0_allWater, Cond.selects RX0 yX0_allWater yX0_allWater, Cond.code yX0_allWater cX0_allWater 3 (some .int), Cond.instanceMethod yX0_allSolids]
def wsL_law0_r8 : List Cond := [Cond.selects RX0 yX0_allSolids yX0_allSolids, Cond.code yX0_allSolids cX0_allSolids 3 (some .int), Cond.methodLink RL 119 yX2_load, Cond.instanceMethod yX2_load, Cond.selects RX2 yX2_load yX2_load, Cond.code yX2_load cX2_load 1 (some .int), Cond.fieldLink RX2 47 "EffectTrainModel" "acts" "I", Cond.methodLink RX2 50 yX2_copy, Cond.static yX2_copy, Cond.code yX2_copy cX2_copy 6 none, Cond.methodLink RX2 126 yX2_sumOf, Cond.instanceMethod yX2_sumOf, Cond.selects RX2 yX2_sumOf yX2_sumOf, Cond.code yX2_sumOf cX2_sumOf 5 (some .int), Cond.methodLink RL 120 yL_about, Cond.static yL_about, Cond.codeWith yL_about cL_about 4 (some .int) [(0, 9, 12, 13)], Cond.methodLink RL 21 yX1_about, Cond.instanceMethod yX1_about, Cond.selects RX1 yX1_about yX1_about, Cond.code yX1_about cX1_about 2 (some .int), Cond.instanceMethod yX0_washedEffects, Cond.selects RX0 yX0_washedEffects yX0_washedEffects, Cond.code yX0_washedEffects cX0_washedEffects 3 (some .int)]
def wsL_law0_r9 : List Cond := [Cond.methodLink RL 122 yX2_about, Cond.instanceMethod yX2_about, Cond.selects RX2 yX2_about yX2_about, Cond.code yX2_about cX2_about 2 (some .int), Cond.methodLink RX2 66 yX2_washed, Cond.instanceMethod yX2_washed, Cond.selects RX2 yX2_washed yX2_washed, Cond.code yX2_washed cX2_washed 4 (some .int), Cond.methodLink RX2 62 yX2_works, Cond.static yX2_works, Cond.code yX2_works cX2_works 2 (some .boolean), Cond.methodLink RL 123 yL_total, Cond.static yL_total, Cond.codeWith yL_total cL_total 4 (some .int) [(0, 9, 12, 13)], Cond.methodLink RL 24 yX1_total, Cond.instanceMethod yX1_total, Cond.selects RX1 yX1_total yX1_total, Cond.code yX1_total cX1_total 2 (some .int), Cond.methodLink RL 125 yX2_total, Cond.instanceMethod yX2_total, Cond.selects RX2 yX2_total yX2_total, Cond.code yX2_total cX2_total 2 (some .int), Cond.methodLink RL 126 yL_effect, Cond.static yL_effect]
def wsL_law0_r10 : List Cond := [Cond.codeWith yL_effect cL_effect 5 (some .int) [(0, 10, 13, 31), (0, 10, 17, 13)], Cond.classLink RL 31 "java/lang/IndexOutOfBoundsException", Cond.methodLink RL 27 yX1_effect, Cond.instanceMethod yX1_effect, Cond.selects RX1 yX1_effect yX1_effect, Cond.code yX1_effect cX1_effect 3 (some .int), Cond.methodLink RX1 109 yX1_checkEffect, Cond.instanceMethod yX1_checkEffect, Cond.selects RX1 yX1_checkEffect yX1_checkEffect, Cond.code yX1_checkEffect cX1_checkEffect 2 none, Cond.classLink RX1 211 "java/lang/IndexOutOfBoundsException", Cond.initialized "java/lang/IndexOutOfBoundsException", Cond.instanceMethod yX0_numberOf, Cond.selects RX0 yX0_numberOf yX0_numberOf, Cond.code yX0_numberOf cX0_numberOf 3 (some .int), Cond.methodLink RX0 61 yX0_thickness, Cond.instanceMethod yX0_thickness, Cond.selects RX0 yX0_thickness yX0_thickness, Cond.code yX0_thickness cX0_thickness 3 (some .int), Cond.methodLink RX0 65 yX0_power, Cond.instanceMethod yX0_power, Cond.selects RX0 yX0_power yX0_power, Cond.code yX0_power cX0_power 3 (some .int), Cond.methodLink RL 129 yX2_effect]
def wsL_law0_r11 : List Cond := [Cond.instanceMethod yX2_effect, Cond.selects RX2 yX2_effect yX2_effect, Cond.code yX2_effect cX2_effect 3 (some .int), Cond.methodLink RX2 129 yX2_isEffect, Cond.instanceMethod yX2_isEffect, Cond.selects RX2 yX2_isEffect yX2_isEffect, Cond.code yX2_isEffect cX2_isEffect 2 (some .boolean), Cond.methodLink RX2 132 yX2_detail, Cond.static yX2_detail, Cond.code yX2_detail cX2_detail 3 (some .int), Cond.methodLink RX2 77 yX2_thickness, Cond.static yX2_thickness, Cond.code yX2_thickness cX2_thickness 2 (some .int), Cond.methodLink RX2 58 yX2_amount, Cond.static yX2_amount, Cond.code yX2_amount cX2_amount 2 (some .int), Cond.methodLink RX2 80 yX2_power, Cond.static yX2_power, Cond.code yX2_power cX2_power 2 (some .int), Cond.methodLink RL 130 yL_neighbor, Cond.static yL_neighbor, Cond.codeWith yL_neighbor cL_neighbor 5 (some .int) [(0, 10, 13, 31)], Cond.methodLink RL 33 yX1_neighbor, Cond.instanceMethod yX1_neighbor]
def wsL_law0_r12 : List Cond := [Cond.selects RX1 yX1_neighbor yX1_neighbor, Cond.code yX1_neighbor cX1_neighbor 3 (some .int), Cond.instanceMethod yX0_effectBehind, Cond.selects RX0 yX0_effectBehind yX0_effectBehind, Cond.code yX0_effectBehind cX0_effectBehind 3 (some .int), Cond.instanceMethod yX0_effectBefore, Cond.selects RX0 yX0_effectBefore yX0_effectBefore, Cond.code yX0_effectBefore cX0_effectBefore 3 (some .int), Cond.methodLink RL 133 yX2_neighbor, Cond.instanceMethod yX2_neighbor, Cond.selects RX2 yX2_neighbor yX2_neighbor, Cond.code yX2_neighbor cX2_neighbor 3 (some .int), Cond.methodLink RX2 87 yX2_behind, Cond.instanceMethod yX2_behind, Cond.selects RX2 yX2_behind yX2_behind, Cond.code yX2_behind cX2_behind 4 (some .int), Cond.methodLink RX2 136 yX2_before, Cond.static yX2_before, Cond.code yX2_before cX2_before 3 (some .int), Cond.methodLink RL 134 yX1_economy, Cond.instanceMethod yX1_economy, Cond.selects RX1 yX1_economy yX1_economy, Cond.code yX1_economy cX1_economy 2 (some .float), Cond.methodLink RL 138 yX2_economy]
def wsL_law0_r13 : List Cond := [Cond.instanceMethod yX2_economy, Cond.selects RX2 yX2_economy yX2_economy, Cond.code yX2_economy cX2_economy 1 (some .float), Cond.methodLink RL 139 yL_share, Cond.static yL_share, Cond.codeWith yL_share cL_share 4 (some .int) [(0, 9, 12, 31)], Cond.methodLink RL 37 yX1_share, Cond.instanceMethod yX1_share, Cond.selects RX1 yX1_share yX1_share, Cond.code yX1_share cX1_share 3 (some .float), Cond.instanceMethod yX0_amount, Cond.selects RX0 yX0_amount yX0_amount, Cond.code yX0_amount cX0_amount 2 (some .int), Cond.methodLink RL 142 yX2_share, Cond.instanceMethod yX2_share, Cond.selects RX2 yX2_share yX2_share, Cond.code yX2_share cX2_share 2 (some .float), Cond.methodLink RL 143 yL_tick, Cond.static yL_tick, Cond.codeWith yL_tick cL_tick 4 (some .int) [(0, 9, 12, 13)], Cond.methodLink RL 41 yX1_tick, Cond.instanceMethod yX1_tick, Cond.selects RX1 yX1_tick yX1_tick, Cond.code yX1_tick cX1_tick 2 (some .int)]
def wsL_law0_r14 : List Cond := [Cond.methodLink RX1 129 yX1_remember, Cond.instanceMethod yX1_remember, Cond.selects RX1 yX1_remember yX1_remember, Cond.code yX1_remember cX1_remember 1 none, Cond.methodLink RX1 151 yX1_stateAt, Cond.static yX1_stateAt, Cond.code yX1_stateAt cX1_stateAt 3 (some (.object "EffectTrain$State")), Cond.instanceMethod yX0_copyFrom, Cond.selects RX0 yX0_copyFrom yX0_copyFrom, Cond.code yX0_copyFrom cX0_copyFrom 2 none, Cond.instanceMethod yX0_pass, Cond.selects RX0 yX0_pass yX0_pass, Cond.code yX0_pass cX0_pass 4 (some .int), Cond.methodLink RX0 68 yX0_beginWashInTurn, Cond.instanceMethod yX0_beginWashInTurn, Cond.selects RX0 yX0_beginWashInTurn yX0_beginWashInTurn, Cond.code yX0_beginWashInTurn cX0_beginWashInTurn 4 none, Cond.methodLink RX0 80 yX0_washedEffects, Cond.methodLink RX0 71 yX0_boilAll, Cond.instanceMethod yX0_boilAll, Cond.selects RX0 yX0_boilAll yX0_boilAll, Cond.code yX0_boilAll cX0_boilAll 4 none, Cond.methodLink RX0 84 yX0_boil, Cond.instanceMethod yX0_boil]
def wsL_law0_r15 : List Cond := [Cond.selects RX0 yX0_boil yX0_boil, Cond.code yX0_boil cX0_boil 7 (some .int), Cond.methodLink RX0 88 Lib.Math.min.name, Cond.static Lib.Math.min.name, Cond.initialized "java/lang/Math", Cond.code Lib.Math.min.name Lib.Math.min.code 2 (some .int), Cond.methodLink RX0 74 yX0_flowOn, Cond.instanceMethod yX0_flowOn, Cond.selects RX0 yX0_flowOn yX0_flowOn, Cond.code yX0_flowOn cX0_flowOn 9 none, Cond.methodLink RX0 93 yX0_effectBehind, Cond.methodLink RX0 96 yX0_amount, Cond.methodLink RX0 99 yX0_flowFrom, Cond.instanceMethod yX0_flowFrom, Cond.selects RX0 yX0_flowFrom yX0_flowFrom, Cond.code yX0_flowFrom cX0_flowFrom 4 (some .int), Cond.methodLink RX0 77 yX0_washOn, Cond.instanceMethod yX0_washOn, Cond.selects RX0 yX0_washOn yX0_washOn, Cond.code yX0_washOn cX0_washOn 2 none, Cond.methodLink RX0 102 Lib.Math.max.name, Cond.static Lib.Math.max.name, Cond.code Lib.Math.max.name Lib.Math.max.code 2 (some .int), Cond.methodLink RL 145 yX2_tick]
def wsL_law0_r16 : List Cond := [Cond.instanceMethod yX2_tick, Cond.selects RX2 yX2_tick yX2_tick, Cond.code yX2_tick cX2_tick 2 (some .int), Cond.constantLong RX2 139 (99), Cond.methodLink RX2 141 yX2_note, Cond.instanceMethod yX2_note, Cond.selects RX2 yX2_note yX2_note, Cond.code yX2_note cX2_note 1 none, Cond.methodLink RX2 144 yX2_ticksOn, Cond.instanceMethod yX2_ticksOn, Cond.selects RX2 yX2_ticksOn yX2_ticksOn, Cond.code yX2_ticksOn cX2_ticksOn 5 (some .int), Cond.methodLink RX2 90 yX2_tickOn, Cond.instanceMethod yX2_tickOn, Cond.selects RX2 yX2_tickOn yX2_tickOn, Cond.code yX2_tickOn cX2_tickOn 4 none, Cond.methodLink RX2 70 yX2_boil, Cond.instanceMethod yX2_boil, Cond.selects RX2 yX2_boil yX2_boil, Cond.code yX2_boil cX2_boil 7 none, Cond.methodLink RX2 83 yX2_less, Cond.static yX2_less, Cond.code yX2_less cX2_less 2 (some .int), Cond.methodLink RX2 74 yX2_go]
def wsL_law0_r17 : List Cond := [Cond.instanceMethod yX2_go, Cond.selects RX2 yX2_go yX2_go, Cond.code yX2_go cX2_go 8 none, Cond.methodLink RL 146 yL_set, Cond.static yL_set, Cond.codeWith yL_set cL_set 5 (some .int) [(0, 10, 13, 13)], Cond.methodLink RL 44 yX1_set, Cond.instanceMethod yX1_set, Cond.selects RX1 yX1_set yX1_set, Cond.code yX1_set cX1_set 4 (some .int), Cond.methodLink RL 148 yX2_set, Cond.instanceMethod yX2_set, Cond.selects RX2 yX2_set yX2_set, Cond.code yX2_set cX2_set 5 (some .int), Cond.constantLong RX2 147 (999), Cond.constantLong RX2 149 (20), Cond.constantLong RX2 151 (4), Cond.methodLink RL 149 yL_setValve, Cond.static yL_setValve, Cond.codeWith yL_setValve cL_setValve 5 (some .int) [(0, 10, 13, 31), (0, 10, 17, 13)], Cond.methodLink RL 47 yX1_setValve, Cond.instanceMethod yX1_setValve, Cond.selects RX1 yX1_setValve yX1_setValve, Cond.code yX1_setValve cX1_setValve 4 (some .int)]
def wsL_law0_r18 : List Cond := [Cond.methodLink RL 151 yX2_setValve, Cond.instanceMethod yX2_setValve, Cond.selects RX2 yX2_setValve yX2_setValve, Cond.code yX2_setValve cX2_setValve 3 (some .int), Cond.methodLink RX2 153 yX2_change, Cond.instanceMethod yX2_change, Cond.selects RX2 yX2_change yX2_change, Cond.code yX2_change cX2_change 4 (some .int), Cond.methodLink RL 152 yL_setBleed, Cond.static yL_setBleed, Cond.codeWith yL_setBleed cL_setBleed 5 (some .int) [(0, 10, 13, 31), (0, 10, 17, 13)], Cond.methodLink RL 50 yX1_setBleed, Cond.instanceMethod yX1_setBleed, Cond.selects RX1 yX1_setBleed yX1_setBleed, Cond.code yX1_setBleed cX1_setBleed 4 (some .int), Cond.methodLink RL 154 yX2_setBleed, Cond.instanceMethod yX2_setBleed, Cond.selects RX2 yX2_setBleed yX2_setBleed, Cond.code yX2_setBleed cX2_setBleed 3 (some .int), Cond.constantLong RX2 156 (90), Cond.methodLink RL 155 yL_wash, Cond.static yL_wash, Cond.codeWith yL_wash cL_wash 5 (some .int) [(0, 10, 13, 31), (0, 10, 17, 13), (0, 10, 21, 15)], Cond.methodLink RL 53 yX1_wash]
def wsL_law0_r19 : List Cond := [Cond.instanceMethod yX1_wash, Cond.selects RX1 yX1_wash yX1_wash, Cond.code yX1_wash cX1_wash 3 (some .int), Cond.methodLink RX1 141 yX1_checkWorks, Cond.instanceMethod yX1_checkWorks, Cond.selects RX1 yX1_checkWorks yX1_checkWorks, Cond.code yX1_checkWorks cX1_checkWorks 2 none, Cond.methodLink RL 157 yX2_wash, Cond.instanceMethod yX2_wash, Cond.selects RX2 yX2_wash yX2_wash, Cond.code yX2_wash cX2_wash 3 (some .int), Cond.methodLink RL 158 yL_endWash, Cond.static yL_endWash, Cond.codeWith yL_endWash cL_endWash 4 (some .int) [(0, 9, 12, 31), (0, 9, 15, 15)], Cond.methodLink RL 56 yX1_endWash, Cond.instanceMethod yX1_endWash, Cond.selects RX1 yX1_endWash yX1_endWash, Cond.code yX1_endWash cX1_endWash 3 (some .int), Cond.methodLink RL 160 yX2_endWash, Cond.instanceMethod yX2_endWash, Cond.selects RX2 yX2_endWash yX2_endWash, Cond.code yX2_endWash cX2_endWash 2 (some .int), Cond.methodLink RL 161 yL_undo, Cond.static yL_undo]
def wsL_law0_r20 : List Cond := [Cond.codeWith yL_undo cL_undo 3 (some .int) [(0, 8, 11, 15)], Cond.methodLink RL 59 yX1_undo, Cond.instanceMethod yX1_undo, Cond.selects RX1 yX1_undo yX1_undo, Cond.code yX1_undo cX1_undo 1 (some .int), Cond.methodLink RL 163 yX2_undo, Cond.instanceMethod yX2_undo, Cond.selects RX2 yX2_undo yX2_undo, Cond.code yX2_undo cX2_undo 1 (some .int), Cond.methodLink RL 164 yL_ahead, Cond.static yL_ahead, Cond.codeWith yL_ahead cL_ahead 6 (some .int) [(0, 12, 15, 31), (0, 12, 19, 13)], Cond.methodLink RL 62 yX1_ahead, Cond.instanceMethod yX1_ahead, Cond.selects RX1 yX1_ahead yX1_ahead, Cond.code yX1_ahead cX1_ahead 4 (some .int), Cond.methodLink RL 167 yX2_ahead, Cond.instanceMethod yX2_ahead, Cond.selects RX2 yX2_ahead yX2_ahead, Cond.code yX2_ahead cX2_ahead 4 (some .int), Cond.methodLink RL 168 yL_growth, Cond.static yL_growth, Cond.codeWith yL_growth cL_growth 5 (some .int) [(0, 10, 13, 13)], Cond.methodLink RL 66 yX1_growth]
def wsL_law0_r21 : List Cond := [Cond.instanceMethod yX1_growth, Cond.selects RX1 yX1_growth yX1_growth, Cond.code yX1_growth cX1_growth 3 (some .int), Cond.methodLink RL 170 yX2_growth, Cond.instanceMethod yX2_growth, Cond.selects RX2 yX2_growth yX2_growth, Cond.code yX2_growth cX2_growth 3 (some .int), Cond.methodLink RL 171 yL_washGain, Cond.static yL_washGain, Cond.codeWith yL_washGain cL_washGain 6 (some .int) [(0, 12, 15, 31), (0, 12, 19, 13), (0, 12, 23, 15)], Cond.methodLink RL 69 yX1_washGain, Cond.instanceMethod yX1_washGain, Cond.selects RX1 yX1_washGain yX1_washGain, Cond.code yX1_washGain cX1_washGain 5 (some .int), Cond.methodLink RL 173 yX2_washGain, Cond.instanceMethod yX2_washGain, Cond.selects RX2 yX2_washGain yX2_washGain, Cond.code yX2_washGain cX2_washGain 5 (some .int), Cond.methodLink RL 174 yL_bestTurns, Cond.static yL_bestTurns, Cond.codeWith yL_bestTurns cL_bestTurns 5 (some .int) [(0, 10, 13, 13)], Cond.methodLink RL 72 yX1_bestTurns, Cond.instanceMethod yX1_bestTurns, Cond.selects RX1 yX1_bestTurns yX1_bestTurns]
def wsL_law0_r22 : List Cond := [Cond.code yX1_bestTurns cX1_bestTurns 7 (some .int), Cond.methodLink RX1 159 yX1_vaporWithChoice, Cond.instanceMethod yX1_vaporWithChoice, Cond.selects RX1 yX1_vaporWithChoice yX1_vaporWithChoice, Cond.code yX1_vaporWithChoice cX1_vaporWithChoice 5 (some .int), Cond.methodLink RX1 163 yX1_greatestVapor, Cond.instanceMethod yX1_greatestVapor, Cond.selects RX1 yX1_greatestVapor yX1_greatestVapor, Cond.code yX1_greatestVapor cX1_greatestVapor 5 (some .int), Cond.methodLink RX1 167 Lib.Math.max.name, Cond.methodLink RL 176 yX2_bestTurns, Cond.instanceMethod yX2_bestTurns, Cond.selects RX2 yX2_bestTurns yX2_bestTurns, Cond.code yX2_bestTurns cX2_bestTurns 8 (some .int), Cond.constantLong RX2 158 (3), Cond.methodLink RX2 160 yX2_turns, Cond.instanceMethod yX2_turns, Cond.selects RX2 yX2_turns yX2_turns, Cond.code yX2_turns cX2_turns 7 (some .int), Cond.methodLink RL 177 yL_scaledAfter, Cond.static yL_scaledAfter, Cond.codeWith yL_scaledAfter cL_scaledAfter 5 (some .int) [(0, 10, 13, 31), (0, 10, 17, 13)], Cond.methodLink RL 75 yX1_scaledAfter, Cond.instanceMethod yX1_scaledAfter]
def wsL_law0_r23 : List Cond := [Cond.selects RX1 yX1_scaledAfter yX1_scaledAfter, Cond.code yX1_scaledAfter cX1_scaledAfter 4 (some .int), Cond.methodLink RL 179 yX2_scaledAfter, Cond.instanceMethod yX2_scaledAfter, Cond.selects RX2 yX2_scaledAfter yX2_scaledAfter, Cond.code yX2_scaledAfter cX2_scaledAfter 4 (some .int), Cond.methodLink RL 180 yL_steamFor, Cond.static yL_steamFor, Cond.codeWith yL_steamFor cL_steamFor 5 (some .int) [(0, 10, 13, 13)], Cond.methodLink RL 78 yX1_steamFor, Cond.instanceMethod yX1_steamFor, Cond.selects RX1 yX1_steamFor yX1_steamFor, Cond.code yX1_steamFor cX1_steamFor 4 (some .int), Cond.methodLink RL 182 yX2_steamFor, Cond.instanceMethod yX2_steamFor, Cond.selects RX2 yX2_steamFor yX2_steamFor, Cond.code yX2_steamFor cX2_steamFor 4 (some .int), Cond.constantLong RX2 163 (9999), Cond.methodLink RL 185 yL_runScript, Cond.static yL_runScript, Cond.codeWith yL_runScript cL_runScript 6 (some .int) [(0, 11, 14, 13)], Cond.methodLink RL 81 yX1_runScript, Cond.instanceMethod yX1_runScript, Cond.selects RX1 yX1_runScript yX1_runScript]
def wsL_law0_r24 : List Cond := [Cond.code yX1_runScript cX1_runScript 6 (some .int), Cond.constantLong RX1 184 (100000), Cond.methodLink RX1 175 yX1_withoutLastGroups, Cond.static yX1_withoutLastGroups, Cond.code yX1_withoutLastGroups cX1_withoutLastGroups 6 (some .long), Cond.methodLink RX1 186 yX1_runCommand, Cond.instanceMethod yX1_runCommand, Cond.selects RX1 yX1_runCommand yX1_runCommand, Cond.code yX1_runCommand cX1_runCommand 4 (some .boolean), Cond.methodLink RX1 190 yX1_runEffectCommand, Cond.instanceMethod yX1_runEffectCommand, Cond.selects RX1 yX1_runEffectCommand yX1_runEffectCommand, Cond.code yX1_runEffectCommand cX1_runEffectCommand 4 (some .boolean), Cond.methodLink RL 188 yX2_runScript, Cond.instanceMethod yX2_runScript, Cond.selects RX2 yX2_runScript yX2_runScript, Cond.code yX2_runScript cX2_runScript 5 (some .int), Cond.constantLong RX2 165 (100000), Cond.methodLink RX2 167 yX2_command, Cond.instanceMethod yX2_command, Cond.selects RX2 yX2_command yX2_command, Cond.code yX2_command cX2_command 7 (some .boolean), Cond.methodLink RL 189 yL_simulate, Cond.static yL_simulate]
def wsL_law0_r25 : List Cond := [Cond.codeWith yL_simulate cL_simulate 6 (some .int) [(0, 11, 14, 13)], Cond.methodLink RL 85 yX1_simulate, Cond.instanceMethod yX1_simulate, Cond.selects RX1 yX1_simulate yX1_simulate, Cond.code yX1_simulate cX1_simulate 8 (some .int), Cond.constantLong RX1 197 (6364136223846793005), Cond.constantLong RX1 199 (1442695040888963407), Cond.methodLink RX1 201 yX1_disturb, Cond.instanceMethod yX1_disturb, Cond.selects RX1 yX1_disturb yX1_disturb, Cond.code yX1_disturb cX1_disturb 4 none, Cond.methodLink RL 192 yX2_simulate, Cond.instanceMethod yX2_simulate, Cond.selects RX2 yX2_simulate yX2_simulate, Cond.code yX2_simulate cX2_simulate 9 (some .int), Cond.constantLong RX2 170 (6364136223846793005), Cond.constantLong RX2 172 (1442695040888963407), Cond.methodLink RL 193 yL_save, Cond.static yL_save, Cond.codeWith yL_save cL_save 4 (some .int) [(0, 9, 12, 31)], Cond.methodLink RL 89 yX1_save, Cond.instanceMethod yX1_save, Cond.selects RX1 yX1_save yX1_save, Cond.code yX1_save cX1_save 2 (some .int)]
def wsL_law0_r26 : List Cond := [Cond.methodLink RX1 204 yX1_checkSlot, Cond.static yX1_checkSlot, Cond.code yX1_checkSlot cX1_checkSlot 1 none, Cond.methodLink RL 195 yX2_save, Cond.instanceMethod yX2_save, Cond.selects RX2 yX2_save yX2_save, Cond.code yX2_save cX2_save 2 (some .int), Cond.methodLink RL 196 yL_restore, Cond.static yL_restore, Cond.codeWith yL_restore cL_restore 4 (some .int) [(0, 9, 12, 31), (0, 9, 15, 15)], Cond.methodLink RL 92 yX1_restore, Cond.instanceMethod yX1_restore, Cond.selects RX1 yX1_restore yX1_restore, Cond.code yX1_restore cX1_restore 2 (some .int), Cond.methodLink RL 198 yX2_restore, Cond.instanceMethod yX2_restore, Cond.selects RX2 yX2_restore yX2_restore, Cond.code yX2_restore cX2_restore 2 (some .int)]
def wsL_law0 : List Cond := (wsL_law0_r1 ++ (wsL_law0_r2 ++ (wsL_law0_r3 ++ (wsL_law0_r4 ++ (wsL_law0_r5 ++ (wsL_law0_r6 ++ (wsL_law0_r7 ++ (wsL_law0_r8 ++ (wsL_law0_r9 ++ (wsL_law0_r10 ++ (wsL_law0_r11 ++ (wsL_law0_r12 ++ (wsL_law0_r13 ++ (wsL_law0_r14 ++ (wsL_law0_r15 ++ (wsL_law0_r16 ++ (wsL_law0_r17 ++ (wsL_law0_r18 ++ (wsL_law0_r19 ++ (wsL_law0_r20 ++ (wsL_law0_r21 ++ (wsL_law0_r22 ++ (wsL_law0_r23 ++ (wsL_law0_r24 ++ (wsL_law0_r25 ++ wsL_law0_r26))))))))))))))))))))))))) ++ wsX10 ++ wsX20 ++ wsX00 ++ ([] : List Cond)
def wsL_law : List Cond := wsL_law0 ++ (vx_atS RX1 59 "java/lang/IllegalStateException" ["java/lang/RuntimeException", "java/lang/Exception"]).filter goodWord ++ (vx_atS RX1 183 "java/lang/IllegalArgumentException" ["java/lang/RuntimeException", "java/lang/Exception"]).filter goodWord ++ (vx_atS RX1 215 "java/lang/IndexOutOfBoundsException" ["java/lang/RuntimeException", "java/lang/Exception"]).filter goodWord
abbrev vwCl : List vw_C := [(RX0, TX0, 12), (RX1, TX1, 11), (RX2, TX2, 15)]
end
section
/-! words of one list among another's, by their places, one by one -/
def GW (big : List Cond) (w : Cond) : Prop := w ∈ big ∧ ((w.onTables && w.keeps) = true ∨ ∃ ty, w = .arrayClass ty)
theorem gI_c {big l : List Cond} {a : Cond} (h : GW big a) (t : GoodIn big l) : GoodIn big (a :: l) := fun w hw => (List.mem_cons.mp hw).elim (fun e => by rw [e]; exact h) (t w)
theorem gI_n {big : List Cond} : GoodIn big [] := fun _ h => absurd h List.not_mem_nil
theorem gw {big : List Cond} (i : Nat) {w : Cond} (h : big[i]? = some w) (hg : goodWord w = true) : GW big w := ⟨List.mem_of_getElem? h, good_of_word hg⟩
theorem mI_c {big l : List Cond} {a : Cond} (h : a ∈ big) (t : ∀ w ∈ l, w ∈ big) : ∀ w ∈ a :: l, w ∈ big := fun w hw => (List.mem_cons.mp hw).elim (fun e => by rw [e]; exact h) (t w)
theorem mI_n {big : List Cond} : ∀ w ∈ ([] : List Cond), w ∈ big := fun _ h => absurd h List.not_mem_nil
theorem mI_i {big : List Cond} (i : Nat) {w : Cond} (h : big[i]? = some w) : w ∈ big := List.mem_of_getElem? h
set_option maxRecDepth 20000 in
theorem ggX0_init_J7_fill_53178 : GoodIn wsX0_init wsJ7_fill_53178 := (by refine gI_c (gw 20 rfl rfl) ?_; exact gI_n)
set_option maxRecDepth 20000 in
theorem gX0_init_J7_fill_53178 : GoodIn wsX0_init (va_wsS RX0 49 yJ7_fill_53178 wsJ7_fill_53178) := goodIn_app (goodIn_of _ (by decide +kernel)) ggX0_init_J7_fill_53178
theorem dX0_init_0 : decode cX0_init 0 = .ok (.aload_n 0, 1) := by decide +kernel
theorem dX0_init_1 : decode cX0_init 1 = .ok (.invokespecial 3, 3) := by decide +kernel
theorem dX0_init_4 : decode cX0_init 4 = .ok (.aload_n 0, 1) := by decide +kernel
theorem dX0_init_5 : decode cX0_init 5 = .ok (.iconst 2, 1) := by decide +kernel
theorem dX0_init_6 : decode cX0_init 6 = .ok (.putfield 9, 3) := by decide +kernel
theorem dX0_init_9 : decode cX0_init 9 = .ok (.aload_n 0, 1) := by decide +kernel
theorem dX0_init_10 : decode cX0_init 10 = .ok (.iconst 5, 1) := by decide +kernel
theorem dX0_init_11 : decode cX0_init 11 = .ok (.newarray .int, 2) := by decide +kernel
theorem dX0_init_13 : decode cX0_init 13 = .ok (.dup, 1) := by decide +kernel
theorem dX0_init_14 : decode cX0_init 14 = .ok (.iconst 0, 1) := by decide +kernel
theorem dX0_init_15 : decode cX0_init 15 = .ok (.bipush 100, 2) := by decide +kernel
theorem dX0_init_17 : decode cX0_init 17 = .ok (.iastore, 1) := by decide +kernel
theorem dX0_init_18 : decode cX0_init 18 = .ok (.dup, 1) := by decide +kernel
theorem dX0_init_19 : decode cX0_init 19 = .ok (.iconst 1, 1) := by decide +kernel
theorem dX0_init_20 : decode cX0_init 20 = .ok (.bipush 90, 2) := by decide +kernel
theorem dX0_init_22 : decode cX0_init 22 = .ok (.iastore, 1) := by decide +kernel
theorem dX0_init_23 : decode cX0_init 23 = .ok (.dup, 1) := by decide +kernel
theorem dX0_init_24 : decode cX0_init 24 = .ok (.iconst 2, 1) := by decide +kernel
theorem dX0_init_25 : decode cX0_init 25 = .ok (.bipush 10, 2) := by decide +kernel
theorem dX0_init_27 : decode cX0_init 27 = .ok (.iastore, 1) := by decide +kernel
theorem dX0_init_28 : decode cX0_init 28 = .ok (.dup, 1) := by decide +kernel
theorem dX0_init_29 : decode cX0_init 29 = .ok (.iconst 3, 1) := by decide +kernel
theorem dX0_init_30 : decode cX0_init 30 = .ok (.iconst 0, 1) := by decide +kernel
theorem dX0_init_31 : decode cX0_init 31 = .ok (.iastore, 1) := by decide +kernel
theorem dX0_init_32 : decode cX0_init 32 = .ok (.dup, 1) := by decide +kernel
theorem dX0_init_33 : decode cX0_init 33 = .ok (.iconst 4, 1) := by decide +kernel
theorem dX0_init_34 : decode cX0_init 34 = .ok (.iconst 5, 1) := by decide +kernel
theorem dX0_init_35 : decode cX0_init 35 = .ok (.iastore, 1) := by decide +kernel
theorem dX0_init_36 : decode cX0_init 36 = .ok (.putfield 15, 3) := by decide +kernel
theorem dX0_init_39 : decode cX0_init 39 = .ok (.aload_n 0, 1) := by decide +kernel
theorem dX0_init_40 : decode cX0_init 40 = .ok (.iconst 0, 1) := by decide +kernel
theorem dX0_init_41 : decode cX0_init 41 = .ok (.putfield 19, 3) := by decide +kernel
theorem dX0_init_44 : decode cX0_init 44 = .ok (.aload_n 0, 1) := by decide +kernel
theorem dX0_init_45 : decode cX0_init 45 = .ok (.bipush 10, 2) := by decide +kernel
theorem dX0_init_47 : decode cX0_init 47 = .ok (.newarray .int, 2) := by decide +kernel
theorem dX0_init_49 : decode cX0_init 49 = .ok (.putfield 22, 3) := by decide +kernel
theorem dX0_init_52 : decode cX0_init 52 = .ok (.aload_n 0, 1) := by decide +kernel
theorem dX0_init_53 : decode cX0_init 53 = .ok (.bipush 6, 2) := by decide +kernel
theorem dX0_init_55 : decode cX0_init 55 = .ok (.newarray .int, 2) := by decide +kernel
theorem dX0_init_57 : decode cX0_init 57 = .ok (.putfield 25, 3) := by decide +kernel
theorem dX0_init_60 : decode cX0_init 60 = .ok (.aload_n 0, 1) := by decide +kernel
theorem dX0_init_61 : decode cX0_init 61 = .ok (.bipush 6, 2) := by decide +kernel
theorem dX0_init_63 : decode cX0_init 63 = .ok (.newarray .int, 2) := by decide +kernel
theorem dX0_init_65 : decode cX0_init 65 = .ok (.putfield 28, 3) := by decide +kernel
theorem dX0_init_68 : decode cX0_init 68 = .ok (.aload_n 0, 1) := by decide +kernel
theorem dX0_init_69 : decode cX0_init 69 = .ok (.bipush 6, 2) := by decide +kernel
theorem dX0_init_71 : decode cX0_init 71 = .ok (.newarray .int, 2) := by decide +kernel
theorem dX0_init_73 : decode cX0_init 73 = .ok (.putfield 31, 3) := by decide +kernel
theorem dX0_init_76 : decode cX0_init 76 = .ok (.aload_n 0, 1) := by decide +kernel
theorem dX0_init_77 : decode cX0_init 77 = .ok (.bipush 6, 2) := by decide +kernel
theorem dX0_init_79 : decode cX0_init 79 = .ok (.newarray .int, 2) := by decide +kernel
theorem dX0_init_81 : decode cX0_init 81 = .ok (.putfield 34, 3) := by decide +kernel
theorem dX0_init_84 : decode cX0_init 84 = .ok (.aload_n 0, 1) := by decide +kernel
theorem dX0_init_85 : decode cX0_init 85 = .ok (.bipush 6, 2) := by decide +kernel
theorem dX0_init_87 : decode cX0_init 87 = .ok (.newarray .int, 2) := by decide +kernel
theorem dX0_init_89 : decode cX0_init 89 = .ok (.putfield 37, 3) := by decide +kernel
theorem dX0_init_92 : decode cX0_init 92 = .ok (.aload_n 0, 1) := by decide +kernel
theorem dX0_init_93 : decode cX0_init 93 = .ok (.bipush 6, 2) := by decide +kernel
theorem dX0_init_95 : decode cX0_init 95 = .ok (.newarray .int, 2) := by decide +kernel
theorem dX0_init_97 : decode cX0_init 97 = .ok (.putfield 40, 3) := by decide +kernel
theorem dX0_init_100 : decode cX0_init 100 = .ok (.aload_n 0, 1) := by decide +kernel
theorem dX0_init_101 : decode cX0_init 101 = .ok (.bipush 6, 2) := by decide +kernel
theorem dX0_init_103 : decode cX0_init 103 = .ok (.newarray .int, 2) := by decide +kernel
theorem dX0_init_105 : decode cX0_init 105 = .ok (.putfield 43, 3) := by decide +kernel
theorem dX0_init_108 : decode cX0_init 108 = .ok (.aload_n 0, 1) := by decide +kernel
theorem dX0_init_109 : decode cX0_init 109 = .ok (.bipush 6, 2) := by decide +kernel
theorem dX0_init_111 : decode cX0_init 111 = .ok (.newarray .int, 2) := by decide +kernel
theorem dX0_init_113 : decode cX0_init 113 = .ok (.putfield 46, 3) := by decide +kernel
theorem dX0_init_116 : decode cX0_init 116 = .ok (.aload_n 0, 1) := by decide +kernel
theorem dX0_init_117 : decode cX0_init 117 = .ok (.getfield 25, 3) := by decide +kernel
theorem dX0_init_120 : decode cX0_init 120 = .ok (.iconst 5, 1) := by decide +kernel
theorem dX0_init_121 : decode cX0_init 121 = .ok (.invokestatic 49, 3) := by decide +kernel
theorem dX0_init_124 : decode cX0_init 124 = .ok (.aload_n 0, 1) := by decide +kernel
theorem dX0_init_125 : decode cX0_init 125 = .ok (.getfield 34, 3) := by decide +kernel
theorem dX0_init_128 : decode cX0_init 128 = .ok (.bipush 50, 2) := by decide +kernel
theorem dX0_init_130 : decode cX0_init 130 = .ok (.invokestatic 49, 3) := by decide +kernel
theorem dX0_init_133 : decode cX0_init 133 = .ok (.return_, 1) := by decide +kernel
theorem dX0_copyFrom_0 : decode cX0_copyFrom 0 = .ok (.aload_n 0, 1) := by decide +kernel
theorem dX0_copyFrom_1 : decode cX0_copyFrom 1 = .ok (.aload_n 1, 1) := by decide +kernel
theorem dX0_copyFrom_2 : decode cX0_copyFrom 2 = .ok (.getfield 9, 3) := by decide +kernel
theorem dX0_copyFrom_5 : decode cX0_copyFrom 5 = .ok (.putfield 9, 3) := by decide +kernel
theorem dX0_copyFrom_8 : decode cX0_copyFrom 8 = .ok (.aload_n 0, 1) := by decide +kernel
theorem dX0_copyFrom_9 : decode cX0_copyFrom 9 = .ok (.aload_n 1, 1) := by decide +kernel
theorem dX0_copyFrom_10 : decode cX0_copyFrom 10 = .ok (.getfield 19, 3) := by decide +kernel
theorem dX0_copyFrom_13 : decode cX0_copyFrom 13 = .ok (.putfield 19, 3) := by decide +kernel
theorem dX0_copyFrom_16 : decode cX0_copyFrom 16 = .ok (.aload_n 1, 1) := by decide +kernel
theorem dX0_copyFrom_17 : decode cX0_copyFrom 17 = .ok (.getfield 15, 3) := by decide +kernel
theorem dX0_copyFrom_20 : decode cX0_copyFrom 20 = .ok (.iconst 0, 1) := by decide +kernel
theorem dX0_copyFrom_21 : decode cX0_copyFrom 21 = .ok (.aload_n 0, 1) := by decide +kernel
theorem dX0_copyFrom_22 : decode cX0_copyFrom 22 = .ok (.getfield 15, 3) := by decide +kernel
theorem dX0_copyFrom_25 : decode cX0_copyFrom 25 = .ok (.iconst 0, 1) := by decide +kernel
theorem dX0_copyFrom_26 : decode cX0_copyFrom 26 = .ok (.iconst 5, 1) := by decide +kernel
theorem dX0_copyFrom_27 : decode cX0_copyFrom 27 = .ok (.invokestatic 55, 3) := by decide +kernel
theorem dX0_copyFrom_30 : decode cX0_copyFrom 30 = .ok (.aload_n 1, 1) := by decide +kernel
theorem dX0_copyFrom_31 : decode cX0_copyFrom 31 = .ok (.getfield 22, 3) := by decide +kernel
theorem dX0_copyFrom_34 : decode cX0_copyFrom 34 = .ok (.iconst 0, 1) := by decide +kernel
theorem dX0_copyFrom_35 : decode cX0_copyFrom 35 = .ok (.aload_n 0, 1) := by decide +kernel
theorem dX0_copyFrom_36 : decode cX0_copyFrom 36 = .ok (.getfield 22, 3) := by decide +kernel
theorem dX0_copyFrom_39 : decode cX0_copyFrom 39 = .ok (.iconst 0, 1) := by decide +kernel
theorem dX0_copyFrom_40 : decode cX0_copyFrom 40 = .ok (.bipush 10, 2) := by decide +kernel
theorem dX0_copyFrom_42 : decode cX0_copyFrom 42 = .ok (.invokestatic 55, 3) := by decide +kernel
theorem dX0_copyFrom_45 : decode cX0_copyFrom 45 = .ok (.aload_n 1, 1) := by decide +kernel
theorem dX0_copyFrom_46 : decode cX0_copyFrom 46 = .ok (.getfield 25, 3) := by decide +kernel
theorem dX0_copyFrom_49 : decode cX0_copyFrom 49 = .ok (.iconst 0, 1) := by decide +kernel
theorem dX0_copyFrom_50 : decode cX0_copyFrom 50 = .ok (.aload_n 0, 1) := by decide +kernel
theorem dX0_copyFrom_51 : decode cX0_copyFrom 51 = .ok (.getfield 25, 3) := by decide +kernel
theorem dX0_copyFrom_54 : decode cX0_copyFrom 54 = .ok (.iconst 0, 1) := by decide +kernel
theorem dX0_copyFrom_55 : decode cX0_copyFrom 55 = .ok (.bipush 6, 2) := by decide +kernel
theorem dX0_copyFrom_57 : decode cX0_copyFrom 57 = .ok (.invokestatic 55, 3) := by decide +kernel
theorem dX0_copyFrom_60 : decode cX0_copyFrom 60 = .ok (.aload_n 1, 1) := by decide +kernel
theorem dX0_copyFrom_61 : decode cX0_copyFrom 61 = .ok (.getfield 28, 3) := by decide +kernel
theorem dX0_copyFrom_64 : decode cX0_copyFrom 64 = .ok (.iconst 0, 1) := by decide +kernel
theorem dX0_copyFrom_65 : decode cX0_copyFrom 65 = .ok (.aload_n 0, 1) := by decide +kernel
theorem dX0_copyFrom_66 : decode cX0_copyFrom 66 = .ok (.getfield 28, 3) := by decide +kernel
theorem dX0_copyFrom_69 : decode cX0_copyFrom 69 = .ok (.iconst 0, 1) := by decide +kernel
theorem dX0_copyFrom_70 : decode cX0_copyFrom 70 = .ok (.bipush 6, 2) := by decide +kernel
theorem dX0_copyFrom_72 : decode cX0_copyFrom 72 = .ok (.invokestatic 55, 3) := by decide +kernel
theorem dX0_copyFrom_75 : decode cX0_copyFrom 75 = .ok (.aload_n 1, 1) := by decide +kernel
theorem dX0_copyFrom_76 : decode cX0_copyFrom 76 = .ok (.getfield 31, 3) := by decide +kernel
theorem dX0_copyFrom_79 : decode cX0_copyFrom 79 = .ok (.iconst 0, 1) := by decide +kernel
theorem dX0_copyFrom_80 : decode cX0_copyFrom 80 = .ok (.aload_n 0, 1) := by decide +kernel
theorem dX0_copyFrom_81 : decode cX0_copyFrom 81 = .ok (.getfield 31, 3) := by decide +kernel
theorem dX0_copyFrom_84 : decode cX0_copyFrom 84 = .ok (.iconst 0, 1) := by decide +kernel
theorem dX0_copyFrom_85 : decode cX0_copyFrom 85 = .ok (.bipush 6, 2) := by decide +kernel
theorem dX0_copyFrom_87 : decode cX0_copyFrom 87 = .ok (.invokestatic 55, 3) := by decide +kernel
theorem dX0_copyFrom_90 : decode cX0_copyFrom 90 = .ok (.aload_n 1, 1) := by decide +kernel
theorem dX0_copyFrom_91 : decode cX0_copyFrom 91 = .ok (.getfield 34, 3) := by decide +kernel
theorem dX0_copyFrom_94 : decode cX0_copyFrom 94 = .ok (.iconst 0, 1) := by decide +kernel
theorem dX0_copyFrom_95 : decode cX0_copyFrom 95 = .ok (.aload_n 0, 1) := by decide +kernel
theorem dX0_copyFrom_96 : decode cX0_copyFrom 96 = .ok (.getfield 34, 3) := by decide +kernel
theorem dX0_copyFrom_99 : decode cX0_copyFrom 99 = .ok (.iconst 0, 1) := by decide +kernel
theorem dX0_copyFrom_100 : decode cX0_copyFrom 100 = .ok (.bipush 6, 2) := by decide +kernel
theorem dX0_copyFrom_102 : decode cX0_copyFrom 102 = .ok (.invokestatic 55, 3) := by decide +kernel
theorem dX0_copyFrom_105 : decode cX0_copyFrom 105 = .ok (.aload_n 1, 1) := by decide +kernel
theorem dX0_copyFrom_106 : decode cX0_copyFrom 106 = .ok (.getfield 37, 3) := by decide +kernel
theorem dX0_copyFrom_109 : decode cX0_copyFrom 109 = .ok (.iconst 0, 1) := by decide +kernel
theorem dX0_copyFrom_110 : decode cX0_copyFrom 110 = .ok (.aload_n 0, 1) := by decide +kernel
theorem dX0_copyFrom_111 : decode cX0_copyFrom 111 = .ok (.getfield 37, 3) := by decide +kernel
theorem dX0_copyFrom_114 : decode cX0_copyFrom 114 = .ok (.iconst 0, 1) := by decide +kernel
theorem dX0_copyFrom_115 : decode cX0_copyFrom 115 = .ok (.bipush 6, 2) := by decide +kernel
theorem dX0_copyFrom_117 : decode cX0_copyFrom 117 = .ok (.invokestatic 55, 3) := by decide +kernel
theorem dX0_copyFrom_120 : decode cX0_copyFrom 120 = .ok (.aload_n 1, 1) := by decide +kernel
theorem dX0_copyFrom_121 : decode cX0_copyFrom 121 = .ok (.getfield 40, 3) := by decide +kernel
theorem dX0_copyFrom_124 : decode cX0_copyFrom 124 = .ok (.iconst 0, 1) := by decide +kernel
theorem dX0_copyFrom_125 : decode cX0_copyFrom 125 = .ok (.aload_n 0, 1) := by decide +kernel
theorem dX0_copyFrom_126 : decode cX0_copyFrom 126 = .ok (.getfield 40, 3) := by decide +kernel
theorem dX0_copyFrom_129 : decode cX0_copyFrom 129 = .ok (.iconst 0, 1) := by decide +kernel
theorem dX0_copyFrom_130 : decode cX0_copyFrom 130 = .ok (.bipush 6, 2) := by decide +kernel
theorem dX0_copyFrom_132 : decode cX0_copyFrom 132 = .ok (.invokestatic 55, 3) := by decide +kernel
theorem dX0_copyFrom_135 : decode cX0_copyFrom 135 = .ok (.aload_n 1, 1) := by decide +kernel
theorem dX0_copyFrom_136 : decode cX0_copyFrom 136 = .ok (.getfield 43, 3) := by decide +kernel
theorem dX0_copyFrom_139 : decode cX0_copyFrom 139 = .ok (.iconst 0, 1) := by decide +kernel
theorem dX0_copyFrom_140 : decode cX0_copyFrom 140 = .ok (.aload_n 0, 1) := by decide +kernel
theorem dX0_copyFrom_141 : decode cX0_copyFrom 141 = .ok (.getfield 43, 3) := by decide +kernel
theorem dX0_copyFrom_144 : decode cX0_copyFrom 144 = .ok (.iconst 0, 1) := by decide +kernel
theorem dX0_copyFrom_145 : decode cX0_copyFrom 145 = .ok (.bipush 6, 2) := by decide +kernel
theorem dX0_copyFrom_147 : decode cX0_copyFrom 147 = .ok (.invokestatic 55, 3) := by decide +kernel
theorem dX0_copyFrom_150 : decode cX0_copyFrom 150 = .ok (.aload_n 1, 1) := by decide +kernel
theorem dX0_copyFrom_151 : decode cX0_copyFrom 151 = .ok (.getfield 46, 3) := by decide +kernel
theorem dX0_copyFrom_154 : decode cX0_copyFrom 154 = .ok (.iconst 0, 1) := by decide +kernel
theorem dX0_copyFrom_155 : decode cX0_copyFrom 155 = .ok (.aload_n 0, 1) := by decide +kernel
theorem dX0_copyFrom_156 : decode cX0_copyFrom 156 = .ok (.getfield 46, 3) := by decide +kernel
theorem dX0_copyFrom_159 : decode cX0_copyFrom 159 = .ok (.iconst 0, 1) := by decide +kernel
theorem dX0_copyFrom_160 : decode cX0_copyFrom 160 = .ok (.bipush 6, 2) := by decide +kernel
theorem dX0_copyFrom_162 : decode cX0_copyFrom 162 = .ok (.invokestatic 55, 3) := by decide +kernel
theorem dX0_copyFrom_165 : decode cX0_copyFrom 165 = .ok (.return_, 1) := by decide +kernel
set_option maxRecDepth 20000 in
theorem ggX0_takeNumbers_J7_fill_53178 : GoodIn wsX0_takeNumbers wsJ7_fill_53178 := (by refine gI_c (gw 20 rfl rfl) ?_; exact gI_n)
set_option maxRecDepth 20000 in
theorem gX0_takeNumbers_J7_fill_53178 : GoodIn wsX0_takeNumbers (va_wsS RX0 49 yJ7_fill_53178 wsJ7_fill_53178) := goodIn_app (goodIn_of _ (by decide +kernel)) ggX0_takeNumbers_J7_fill_53178
theorem dX0_takeNumbers_0 : decode cX0_takeNumbers 0 = .ok (.aload_n 0, 1) := by decide +kernel
theorem dX0_takeNumbers_1 : decode cX0_takeNumbers 1 = .ok (.aload_n 1, 1) := by decide +kernel
theorem dX0_takeNumbers_2 : decode cX0_takeNumbers 2 = .ok (.iconst 0, 1) := by decide +kernel
theorem dX0_takeNumbers_3 : decode cX0_takeNumbers 3 = .ok (.iaload, 1) := by decide +kernel
theorem dX0_takeNumbers_4 : decode cX0_takeNumbers 4 = .ok (.putfield 9, 3) := by decide +kernel
theorem dX0_takeNumbers_7 : decode cX0_takeNumbers 7 = .ok (.aload_n 1, 1) := by decide +kernel
theorem dX0_takeNumbers_8 : decode cX0_takeNumbers 8 = .ok (.iconst 1, 1) := by decide +kernel
theorem dX0_takeNumbers_9 : decode cX0_takeNumbers 9 = .ok (.aload_n 0, 1) := by decide +kernel
theorem dX0_takeNumbers_10 : decode cX0_takeNumbers 10 = .ok (.getfield 15, 3) := by decide +kernel
theorem dX0_takeNumbers_13 : decode cX0_takeNumbers 13 = .ok (.iconst 0, 1) := by decide +kernel
theorem dX0_takeNumbers_14 : decode cX0_takeNumbers 14 = .ok (.iconst 5, 1) := by decide +kernel
theorem dX0_takeNumbers_15 : decode cX0_takeNumbers 15 = .ok (.invokestatic 55, 3) := by decide +kernel
theorem dX0_takeNumbers_18 : decode cX0_takeNumbers 18 = .ok (.aload_n 0, 1) := by decide +kernel
theorem dX0_takeNumbers_19 : decode cX0_takeNumbers 19 = .ok (.iconst 0, 1) := by decide +kernel
theorem dX0_takeNumbers_20 : decode cX0_takeNumbers 20 = .ok (.putfield 19, 3) := by decide +kernel
theorem dX0_takeNumbers_23 : decode cX0_takeNumbers 23 = .ok (.aload_n 0, 1) := by decide +kernel
theorem dX0_takeNumbers_24 : decode cX0_takeNumbers 24 = .ok (.getfield 22, 3) := by decide +kernel
theorem dX0_takeNumbers_27 : decode cX0_takeNumbers 27 = .ok (.iconst 0, 1) := by decide +kernel
theorem dX0_takeNumbers_28 : decode cX0_takeNumbers 28 = .ok (.invokestatic 49, 3) := by decide +kernel
theorem dX0_takeNumbers_31 : decode cX0_takeNumbers 31 = .ok (.aload_n 0, 1) := by decide +kernel
theorem dX0_takeNumbers_32 : decode cX0_takeNumbers 32 = .ok (.getfield 43, 3) := by decide +kernel
theorem dX0_takeNumbers_35 : decode cX0_takeNumbers 35 = .ok (.iconst 0, 1) := by decide +kernel
theorem dX0_takeNumbers_36 : decode cX0_takeNumbers 36 = .ok (.invokestatic 49, 3) := by decide +kernel
theorem dX0_takeNumbers_39 : decode cX0_takeNumbers 39 = .ok (.aload_n 0, 1) := by decide +kernel
theorem dX0_takeNumbers_40 : decode cX0_takeNumbers 40 = .ok (.getfield 46, 3) := by decide +kernel
theorem dX0_takeNumbers_43 : decode cX0_takeNumbers 43 = .ok (.iconst 0, 1) := by decide +kernel
theorem dX0_takeNumbers_44 : decode cX0_takeNumbers 44 = .ok (.invokestatic 49, 3) := by decide +kernel
theorem dX0_takeNumbers_47 : decode cX0_takeNumbers 47 = .ok (.iconst 0, 1) := by decide +kernel
theorem dX0_takeNumbers_48 : decode cX0_takeNumbers 48 = .ok (.istore_n 2, 1) := by decide +kernel
theorem dX0_takeNumbers_49 : decode cX0_takeNumbers 49 = .ok (.iload_n 2, 1) := by decide +kernel
theorem dX0_takeNumbers_50 : decode cX0_takeNumbers 50 = .ok (.aload_n 0, 1) := by decide +kernel
theorem dX0_takeNumbers_51 : decode cX0_takeNumbers 51 = .ok (.getfield 9, 3) := by decide +kernel
theorem dX0_takeNumbers_54 : decode cX0_takeNumbers 54 = .ok (.if_icmp .ge 87, 3) := by decide +kernel
theorem dX0_takeNumbers_57 : decode cX0_takeNumbers 57 = .ok (.iload_n 2, 1) := by decide +kernel
theorem dX0_takeNumbers_58 : decode cX0_takeNumbers 58 = .ok (.bipush 6, 2) := by decide +kernel
theorem dX0_takeNumbers_60 : decode cX0_takeNumbers 60 = .ok (.if_icmp .ge 81, 3) := by decide +kernel
theorem dX0_takeNumbers_63 : decode cX0_takeNumbers 63 = .ok (.bipush 6, 2) := by decide +kernel
theorem dX0_takeNumbers_65 : decode cX0_takeNumbers 65 = .ok (.bipush 6, 2) := by decide +kernel
theorem dX0_takeNumbers_67 : decode cX0_takeNumbers 67 = .ok (.iload_n 2, 1) := by decide +kernel
theorem dX0_takeNumbers_68 : decode cX0_takeNumbers 68 = .ok (.imul, 1) := by decide +kernel
theorem dX0_takeNumbers_69 : decode cX0_takeNumbers 69 = .ok (.iadd, 1) := by decide +kernel
theorem dX0_takeNumbers_70 : decode cX0_takeNumbers 70 = .ok (.istore_n 3, 1) := by decide +kernel
theorem dX0_takeNumbers_71 : decode cX0_takeNumbers 71 = .ok (.aload_n 0, 1) := by decide +kernel
theorem dX0_takeNumbers_72 : decode cX0_takeNumbers 72 = .ok (.getfield 25, 3) := by decide +kernel
theorem dX0_takeNumbers_75 : decode cX0_takeNumbers 75 = .ok (.iload_n 2, 1) := by decide +kernel
theorem dX0_takeNumbers_76 : decode cX0_takeNumbers 76 = .ok (.aload_n 1, 1) := by decide +kernel
theorem dX0_takeNumbers_77 : decode cX0_takeNumbers 77 = .ok (.iload_n 3, 1) := by decide +kernel
theorem dX0_takeNumbers_78 : decode cX0_takeNumbers 78 = .ok (.iaload, 1) := by decide +kernel
theorem dX0_takeNumbers_79 : decode cX0_takeNumbers 79 = .ok (.iastore, 1) := by decide +kernel
theorem dX0_takeNumbers_80 : decode cX0_takeNumbers 80 = .ok (.aload_n 0, 1) := by decide +kernel
theorem dX0_takeNumbers_81 : decode cX0_takeNumbers 81 = .ok (.getfield 28, 3) := by decide +kernel
theorem dX0_takeNumbers_84 : decode cX0_takeNumbers 84 = .ok (.iload_n 2, 1) := by decide +kernel
theorem dX0_takeNumbers_85 : decode cX0_takeNumbers 85 = .ok (.aload_n 1, 1) := by decide +kernel
theorem dX0_takeNumbers_86 : decode cX0_takeNumbers 86 = .ok (.iload_n 3, 1) := by decide +kernel
theorem dX0_takeNumbers_87 : decode cX0_takeNumbers 87 = .ok (.iconst 1, 1) := by decide +kernel
theorem dX0_takeNumbers_88 : decode cX0_takeNumbers 88 = .ok (.iadd, 1) := by decide +kernel
theorem dX0_takeNumbers_89 : decode cX0_takeNumbers 89 = .ok (.iaload, 1) := by decide +kernel
theorem dX0_takeNumbers_90 : decode cX0_takeNumbers 90 = .ok (.iastore, 1) := by decide +kernel
theorem dX0_takeNumbers_91 : decode cX0_takeNumbers 91 = .ok (.aload_n 0, 1) := by decide +kernel
theorem dX0_takeNumbers_92 : decode cX0_takeNumbers 92 = .ok (.getfield 31, 3) := by decide +kernel
theorem dX0_takeNumbers_95 : decode cX0_takeNumbers 95 = .ok (.iload_n 2, 1) := by decide +kernel
theorem dX0_takeNumbers_96 : decode cX0_takeNumbers 96 = .ok (.aload_n 1, 1) := by decide +kernel
theorem dX0_takeNumbers_97 : decode cX0_takeNumbers 97 = .ok (.iload_n 3, 1) := by decide +kernel
theorem dX0_takeNumbers_98 : decode cX0_takeNumbers 98 = .ok (.iconst 2, 1) := by decide +kernel
theorem dX0_takeNumbers_99 : decode cX0_takeNumbers 99 = .ok (.iadd, 1) := by decide +kernel
theorem dX0_takeNumbers_100 : decode cX0_takeNumbers 100 = .ok (.iaload, 1) := by decide +kernel
theorem dX0_takeNumbers_101 : decode cX0_takeNumbers 101 = .ok (.iastore, 1) := by decide +kernel
theorem dX0_takeNumbers_102 : decode cX0_takeNumbers 102 = .ok (.aload_n 0, 1) := by decide +kernel
theorem dX0_takeNumbers_103 : decode cX0_takeNumbers 103 = .ok (.getfield 34, 3) := by decide +kernel
theorem dX0_takeNumbers_106 : decode cX0_takeNumbers 106 = .ok (.iload_n 2, 1) := by decide +kernel
theorem dX0_takeNumbers_107 : decode cX0_takeNumbers 107 = .ok (.aload_n 1, 1) := by decide +kernel
theorem dX0_takeNumbers_108 : decode cX0_takeNumbers 108 = .ok (.iload_n 3, 1) := by decide +kernel
theorem dX0_takeNumbers_109 : decode cX0_takeNumbers 109 = .ok (.iconst 3, 1) := by decide +kernel
theorem dX0_takeNumbers_110 : decode cX0_takeNumbers 110 = .ok (.iadd, 1) := by decide +kernel
theorem dX0_takeNumbers_111 : decode cX0_takeNumbers 111 = .ok (.iaload, 1) := by decide +kernel
theorem dX0_takeNumbers_112 : decode cX0_takeNumbers 112 = .ok (.iastore, 1) := by decide +kernel
theorem dX0_takeNumbers_113 : decode cX0_takeNumbers 113 = .ok (.aload_n 0, 1) := by decide +kernel
theorem dX0_takeNumbers_114 : decode cX0_takeNumbers 114 = .ok (.getfield 37, 3) := by decide +kernel
theorem dX0_takeNumbers_117 : decode cX0_takeNumbers 117 = .ok (.iload_n 2, 1) := by decide +kernel
theorem dX0_takeNumbers_118 : decode cX0_takeNumbers 118 = .ok (.aload_n 1, 1) := by decide +kernel
theorem dX0_takeNumbers_119 : decode cX0_takeNumbers 119 = .ok (.iload_n 3, 1) := by decide +kernel
theorem dX0_takeNumbers_120 : decode cX0_takeNumbers 120 = .ok (.iconst 4, 1) := by decide +kernel
theorem dX0_takeNumbers_121 : decode cX0_takeNumbers 121 = .ok (.iadd, 1) := by decide +kernel
theorem dX0_takeNumbers_122 : decode cX0_takeNumbers 122 = .ok (.iaload, 1) := by decide +kernel
theorem dX0_takeNumbers_123 : decode cX0_takeNumbers 123 = .ok (.iastore, 1) := by decide +kernel
theorem dX0_takeNumbers_124 : decode cX0_takeNumbers 124 = .ok (.aload_n 0, 1) := by decide +kernel
theorem dX0_takeNumbers_125 : decode cX0_takeNumbers 125 = .ok (.getfield 40, 3) := by decide +kernel
theorem dX0_takeNumbers_128 : decode cX0_takeNumbers 128 = .ok (.iload_n 2, 1) := by decide +kernel
theorem dX0_takeNumbers_129 : decode cX0_takeNumbers 129 = .ok (.aload_n 1, 1) := by decide +kernel
theorem dX0_takeNumbers_130 : decode cX0_takeNumbers 130 = .ok (.iload_n 3, 1) := by decide +kernel
theorem dX0_takeNumbers_131 : decode cX0_takeNumbers 131 = .ok (.iconst 5, 1) := by decide +kernel
theorem dX0_takeNumbers_132 : decode cX0_takeNumbers 132 = .ok (.iadd, 1) := by decide +kernel
theorem dX0_takeNumbers_133 : decode cX0_takeNumbers 133 = .ok (.iaload, 1) := by decide +kernel
theorem dX0_takeNumbers_134 : decode cX0_takeNumbers 134 = .ok (.iastore, 1) := by decide +kernel
theorem dX0_takeNumbers_135 : decode cX0_takeNumbers 135 = .ok (.iinc 2 1, 3) := by decide +kernel
theorem dX0_takeNumbers_138 : decode cX0_takeNumbers 138 = .ok (.goto (-89), 3) := by decide +kernel
theorem dX0_takeNumbers_141 : decode cX0_takeNumbers 141 = .ok (.return_, 1) := by decide +kernel
set_option maxRecDepth 20000 in
theorem ggX0_numberOf_X0_thickness : GoodIn wsX0_numberOf wsX0_thickness := (by refine gI_c (gw 13 rfl rfl) ?_; refine gI_c (gw 2 rfl rfl) ?_; refine gI_c (gw 3 rfl rfl) ?_; refine gI_c (gw 18 rfl rfl) ?_; refine gI_c (gw 19 rfl rfl) ?_; refine gI_c (gw 20 rfl rfl) ?_; refine gI_c (gw 21 rfl rfl) ?_; refine gI_c (gw 22 rfl rfl) ?_; refine gI_c (gw 23 rfl rfl) ?_; refine gI_c (gw 24 rfl rfl) ?_; refine gI_c (gw 25 rfl rfl) ?_; refine gI_c (gw 26 rfl rfl) ?_; refine gI_c (gw 27 rfl rfl) ?_; refine gI_c (gw 28 rfl rfl) ?_; refine gI_c (gw 29 rfl rfl) ?_; exact gI_n)
set_option maxRecDepth 20000 in
theorem gX0_numberOf_X0_thickness : GoodIn wsX0_numberOf (wsV RX0 61 RX0 yX0_thickness wsX0_thickness) := goodIn_app (goodIn_of _ (by decide +kernel)) ggX0_numberOf_X0_thickness
set_option maxRecDepth 20000 in
theorem ggX0_numberOf_X0_power : GoodIn wsX0_numberOf wsX0_power := (by refine gI_c (gw 17 rfl rfl) ?_; refine gI_c (gw 6 rfl rfl) ?_; refine gI_c (gw 1 rfl rfl) ?_; refine gI_c (gw 18 rfl rfl) ?_; refine gI_c (gw 19 rfl rfl) ?_; refine gI_c (gw 20 rfl rfl) ?_; refine gI_c (gw 21 rfl rfl) ?_; refine gI_c (gw 22 rfl rfl) ?_; refine gI_c (gw 23 rfl rfl) ?_; refine gI_c (gw 24 rfl rfl) ?_; refine gI_c (gw 25 rfl rfl) ?_; refine gI_c (gw 26 rfl rfl) ?_; refine gI_c (gw 27 rfl rfl) ?_; refine gI_c (gw 28 rfl rfl) ?_; refine gI_c (gw 29 rfl rfl) ?_; exact gI_n)
set_option maxRecDepth 20000 in
theorem gX0_numberOf_X0_power : GoodIn wsX0_numberOf (wsV RX0 65 RX0 yX0_power wsX0_power) := goodIn_app (goodIn_of _ (by decide +kernel)) ggX0_numberOf_X0_power
theorem dX0_numberOf_0 : decode cX0_numberOf 0 = .ok (.iload_n 2, 1) := by decide +kernel
theorem dX0_numberOf_1 : decode cX0_numberOf 1 = .ok (.tableswitch 113 0 8 #[51, 58, 65, 72, 79, 86, 93, 100, 107], 51) := by decide +kernel
theorem dX0_numberOf_52 : decode cX0_numberOf 52 = .ok (.aload_n 0, 1) := by decide +kernel
theorem dX0_numberOf_53 : decode cX0_numberOf 53 = .ok (.getfield 25, 3) := by decide +kernel
theorem dX0_numberOf_56 : decode cX0_numberOf 56 = .ok (.iload_n 1, 1) := by decide +kernel
theorem dX0_numberOf_57 : decode cX0_numberOf 57 = .ok (.iaload, 1) := by decide +kernel
theorem dX0_numberOf_58 : decode cX0_numberOf 58 = .ok (.ireturn, 1) := by decide +kernel
theorem dX0_numberOf_59 : decode cX0_numberOf 59 = .ok (.aload_n 0, 1) := by decide +kernel
theorem dX0_numberOf_60 : decode cX0_numberOf 60 = .ok (.getfield 28, 3) := by decide +kernel
theorem dX0_numberOf_63 : decode cX0_numberOf 63 = .ok (.iload_n 1, 1) := by decide +kernel
theorem dX0_numberOf_64 : decode cX0_numberOf 64 = .ok (.iaload, 1) := by decide +kernel
theorem dX0_numberOf_65 : decode cX0_numberOf 65 = .ok (.ireturn, 1) := by decide +kernel
theorem dX0_numberOf_66 : decode cX0_numberOf 66 = .ok (.aload_n 0, 1) := by decide +kernel
theorem dX0_numberOf_67 : decode cX0_numberOf 67 = .ok (.getfield 31, 3) := by decide +kernel
theorem dX0_numberOf_70 : decode cX0_numberOf 70 = .ok (.iload_n 1, 1) := by decide +kernel
theorem dX0_numberOf_71 : decode cX0_numberOf 71 = .ok (.iaload, 1) := by decide +kernel
theorem dX0_numberOf_72 : decode cX0_numberOf 72 = .ok (.ireturn, 1) := by decide +kernel
theorem dX0_numberOf_73 : decode cX0_numberOf 73 = .ok (.aload_n 0, 1) := by decide +kernel
theorem dX0_numberOf_74 : decode cX0_numberOf 74 = .ok (.getfield 34, 3) := by decide +kernel
theorem dX0_numberOf_77 : decode cX0_numberOf 77 = .ok (.iload_n 1, 1) := by decide +kernel
theorem dX0_numberOf_78 : decode cX0_numberOf 78 = .ok (.iaload, 1) := by decide +kernel
theorem dX0_numberOf_79 : decode cX0_numberOf 79 = .ok (.ireturn, 1) := by decide +kernel
theorem dX0_numberOf_80 : decode cX0_numberOf 80 = .ok (.aload_n 0, 1) := by decide +kernel
theorem dX0_numberOf_81 : decode cX0_numberOf 81 = .ok (.getfield 37, 3) := by decide +kernel
theorem dX0_numberOf_84 : decode cX0_numberOf 84 = .ok (.iload_n 1, 1) := by decide +kernel
theorem dX0_numberOf_85 : decode cX0_numberOf 85 = .ok (.iaload, 1) := by decide +kernel
theorem dX0_numberOf_86 : decode cX0_numberOf 86 = .ok (.ireturn, 1) := by decide +kernel
theorem dX0_numberOf_87 : decode cX0_numberOf 87 = .ok (.aload_n 0, 1) := by decide +kernel
theorem dX0_numberOf_88 : decode cX0_numberOf 88 = .ok (.getfield 40, 3) := by decide +kernel
theorem dX0_numberOf_91 : decode cX0_numberOf 91 = .ok (.iload_n 1, 1) := by decide +kernel
theorem dX0_numberOf_92 : decode cX0_numberOf 92 = .ok (.iaload, 1) := by decide +kernel
theorem dX0_numberOf_93 : decode cX0_numberOf 93 = .ok (.ireturn, 1) := by decide +kernel
theorem dX0_numberOf_94 : decode cX0_numberOf 94 = .ok (.aload_n 0, 1) := by decide +kernel
theorem dX0_numberOf_95 : decode cX0_numberOf 95 = .ok (.getfield 43, 3) := by decide +kernel
theorem dX0_numberOf_98 : decode cX0_numberOf 98 = .ok (.iload_n 1, 1) := by decide +kernel
theorem dX0_numberOf_99 : decode cX0_numberOf 99 = .ok (.iaload, 1) := by decide +kernel
theorem dX0_numberOf_100 : decode cX0_numberOf 100 = .ok (.ireturn, 1) := by decide +kernel
theorem dX0_numberOf_101 : decode cX0_numberOf 101 = .ok (.aload_n 0, 1) := by decide +kernel
theorem dX0_numberOf_102 : decode cX0_numberOf 102 = .ok (.getfield 46, 3) := by decide +kernel
theorem dX0_numberOf_105 : decode cX0_numberOf 105 = .ok (.iload_n 1, 1) := by decide +kernel
theorem dX0_numberOf_106 : decode cX0_numberOf 106 = .ok (.iaload, 1) := by decide +kernel
theorem dX0_numberOf_107 : decode cX0_numberOf 107 = .ok (.ireturn, 1) := by decide +kernel
theorem dX0_numberOf_108 : decode cX0_numberOf 108 = .ok (.aload_n 0, 1) := by decide +kernel
theorem dX0_numberOf_109 : decode cX0_numberOf 109 = .ok (.iload_n 1, 1) := by decide +kernel
theorem dX0_numberOf_110 : decode cX0_numberOf 110 = .ok (.invokevirtual 61, 3) := by decide +kernel
theorem dX0_numberOf_113 : decode cX0_numberOf 113 = .ok (.ireturn, 1) := by decide +kernel
theorem dX0_numberOf_114 : decode cX0_numberOf 114 = .ok (.aload_n 0, 1) := by decide +kernel
theorem dX0_numberOf_115 : decode cX0_numberOf 115 = .ok (.iload_n 1, 1) := by decide +kernel
theorem dX0_numberOf_116 : decode cX0_numberOf 116 = .ok (.invokevirtual 65, 3) := by decide +kernel
theorem dX0_numberOf_119 : decode cX0_numberOf 119 = .ok (.ireturn, 1) := by decide +kernel
theorem dX0_amount_0 : decode cX0_amount 0 = .ok (.aload_n 0, 1) := by decide +kernel
theorem dX0_amount_1 : decode cX0_amount 1 = .ok (.getfield 28, 3) := by decide +kernel
theorem dX0_amount_4 : decode cX0_amount 4 = .ok (.iload_n 1, 1) := by decide +kernel
theorem dX0_amount_5 : decode cX0_amount 5 = .ok (.iaload, 1) := by decide +kernel
theorem dX0_amount_6 : decode cX0_amount 6 = .ok (.aload_n 0, 1) := by decide +kernel
theorem dX0_amount_7 : decode cX0_amount 7 = .ok (.getfield 31, 3) := by decide +kernel
theorem dX0_amount_10 : decode cX0_amount 10 = .ok (.iload_n 1, 1) := by decide +kernel
theorem dX0_amount_11 : decode cX0_amount 11 = .ok (.iaload, 1) := by decide +kernel
theorem dX0_amount_12 : decode cX0_amount 12 = .ok (.iadd, 1) := by decide +kernel
theorem dX0_amount_13 : decode cX0_amount 13 = .ok (.ireturn, 1) := by decide +kernel
theorem dX0_thickness_0 : decode cX0_thickness 0 = .ok (.aload_n 0, 1) := by decide +kernel
theorem dX0_thickness_1 : decode cX0_thickness 1 = .ok (.getfield 28, 3) := by decide +kernel
theorem dX0_thickness_4 : decode cX0_thickness 4 = .ok (.iload_n 1, 1) := by decide +kernel
theorem dX0_thickness_5 : decode cX0_thickness 5 = .ok (.iaload, 1) := by decide +kernel
theorem dX0_thickness_6 : decode cX0_thickness 6 = .ok (.aload_n 0, 1) := by decide +kernel
theorem dX0_thickness_7 : decode cX0_thickness 7 = .ok (.getfield 31, 3) := by decide +kernel
theorem dX0_thickness_10 : decode cX0_thickness 10 = .ok (.iload_n 1, 1) := by decide +kernel
theorem dX0_thickness_11 : decode cX0_thickness 11 = .ok (.iaload, 1) := by decide +kernel
theorem dX0_thickness_12 : decode cX0_thickness 12 = .ok (.iadd, 1) := by decide +kernel
theorem dX0_thickness_13 : decode cX0_thickness 13 = .ok (.istore_n 2, 1) := by decide +kernel
theorem dX0_thickness_14 : decode cX0_thickness 14 = .ok (.iload_n 2, 1) := by decide +kernel
theorem dX0_thickness_15 : decode cX0_thickness 15 = .ok (.ifCond .le 17, 3) := by decide +kernel
theorem dX0_thickness_18 : decode cX0_thickness 18 = .ok (.bipush 100, 2) := by decide +kernel
theorem dX0_thickness_20 : decode cX0_thickness 20 = .ok (.aload_n 0, 1) := by decide +kernel
theorem dX0_thickness_21 : decode cX0_thickness 21 = .ok (.getfield 31, 3) := by decide +kernel
theorem dX0_thickness_24 : decode cX0_thickness 24 = .ok (.iload_n 1, 1) := by decide +kernel
theorem dX0_thickness_25 : decode cX0_thickness 25 = .ok (.iaload, 1) := by decide +kernel
theorem dX0_thickness_26 : decode cX0_thickness 26 = .ok (.imul, 1) := by decide +kernel
theorem dX0_thickness_27 : decode cX0_thickness 27 = .ok (.iload_n 2, 1) := by decide +kernel
theorem dX0_thickness_28 : decode cX0_thickness 28 = .ok (.idiv, 1) := by decide +kernel
theorem dX0_thickness_29 : decode cX0_thickness 29 = .ok (.goto 4, 3) := by decide +kernel
theorem dX0_thickness_32 : decode cX0_thickness 32 = .ok (.iconst 0, 1) := by decide +kernel
theorem dX0_thickness_33 : decode cX0_thickness 33 = .ok (.ireturn, 1) := by decide +kernel
theorem dX0_power_0 : decode cX0_power 0 = .ok (.bipush 10, 2) := by decide +kernel
theorem dX0_power_2 : decode cX0_power 2 = .ok (.aload_n 0, 1) := by decide +kernel
theorem dX0_power_3 : decode cX0_power 3 = .ok (.getfield 40, 3) := by decide +kernel
theorem dX0_power_6 : decode cX0_power 6 = .ok (.iload_n 1, 1) := by decide +kernel
theorem dX0_power_7 : decode cX0_power 7 = .ok (.iaload, 1) := by decide +kernel
theorem dX0_power_8 : decode cX0_power 8 = .ok (.iadd, 1) := by decide +kernel
theorem dX0_power_9 : decode cX0_power 9 = .ok (.istore_n 2, 1) := by decide +kernel
theorem dX0_power_10 : decode cX0_power 10 = .ok (.iload_n 2, 1) := by decide +kernel
theorem dX0_power_11 : decode cX0_power 11 = .ok (.ifCond .le 17, 3) := by decide +kernel
theorem dX0_power_14 : decode cX0_power 14 = .ok (.bipush 100, 2) := by decide +kernel
theorem dX0_power_16 : decode cX0_power 16 = .ok (.aload_n 0, 1) := by decide +kernel
theorem dX0_power_17 : decode cX0_power 17 = .ok (.getfield 25, 3) := by decide +kernel
theorem dX0_power_20 : decode cX0_power 20 = .ok (.iload_n 1, 1) := by decide +kernel
theorem dX0_power_21 : decode cX0_power 21 = .ok (.iaload, 1) := by decide +kernel
theorem dX0_power_22 : decode cX0_power 22 = .ok (.imul, 1) := by decide +kernel
theorem dX0_power_23 : decode cX0_power 23 = .ok (.iload_n 2, 1) := by decide +kernel
theorem dX0_power_24 : decode cX0_power 24 = .ok (.idiv, 1) := by decide +kernel
theorem dX0_power_25 : decode cX0_power 25 = .ok (.goto 4, 3) := by decide +kernel
theorem dX0_power_28 : decode cX0_power 28 = .ok (.iconst 0, 1) := by decide +kernel
theorem dX0_power_29 : decode cX0_power 29 = .ok (.ireturn, 1) := by decide +kernel
theorem dX0_allWater_0 : decode cX0_allWater 0 = .ok (.iconst 0, 1) := by decide +kernel
theorem dX0_allWater_1 : decode cX0_allWater 1 = .ok (.istore_n 1, 1) := by decide +kernel
theorem dX0_allWater_2 : decode cX0_allWater 2 = .ok (.iconst 0, 1) := by decide +kernel
theorem dX0_allWater_3 : decode cX0_allWater 3 = .ok (.istore_n 2, 1) := by decide +kernel
theorem dX0_allWater_4 : decode cX0_allWater 4 = .ok (.iload_n 2, 1) := by decide +kernel
theorem dX0_allWater_5 : decode cX0_allWater 5 = .ok (.aload_n 0, 1) := by decide +kernel
theorem dX0_allWater_6 : decode cX0_allWater 6 = .ok (.getfield 9, 3) := by decide +kernel
theorem dX0_allWater_9 : decode cX0_allWater 9 = .ok (.if_icmp .ge 18, 3) := by decide +kernel
theorem dX0_allWater_12 : decode cX0_allWater 12 = .ok (.iload_n 1, 1) := by decide +kernel
theorem dX0_allWater_13 : decode cX0_allWater 13 = .ok (.aload_n 0, 1) := by decide +kernel
theorem dX0_allWater_14 : decode cX0_allWater 14 = .ok (.getfield 28, 3) := by decide +kernel
theorem dX0_allWater_17 : decode cX0_allWater 17 = .ok (.iload_n 2, 1) := by decide +kernel
theorem dX0_allWater_18 : decode cX0_allWater 18 = .ok (.iaload, 1) := by decide +kernel
theorem dX0_allWater_19 : decode cX0_allWater 19 = .ok (.iadd, 1) := by decide +kernel
theorem dX0_allWater_20 : decode cX0_allWater 20 = .ok (.istore_n 1, 1) := by decide +kernel
theorem dX0_allWater_21 : decode cX0_allWater 21 = .ok (.iinc 2 1, 3) := by decide +kernel
theorem dX0_allWater_24 : decode cX0_allWater 24 = .ok (.goto (-20), 3) := by decide +kernel
theorem dX0_allWater_27 : decode cX0_allWater 27 = .ok (.iload_n 1, 1) := by decide +kernel
theorem dX0_allWater_28 : decode cX0_allWater 28 = .ok (.ireturn, 1) := by decide +kernel
theorem dX0_allSolids_0 : decode cX0_allSolids 0 = .ok (.iconst 0, 1) := by decide +kernel
theorem dX0_allSolids_1 : decode cX0_allSolids 1 = .ok (.istore_n 1, 1) := by decide +kernel
theorem dX0_allSolids_2 : decode cX0_allSolids 2 = .ok (.iconst 0, 1) := by decide +kernel
theorem dX0_allSolids_3 : decode cX0_allSolids 3 = .ok (.istore_n 2, 1) := by decide +kernel
theorem dX0_allSolids_4 : decode cX0_allSolids 4 = .ok (.iload_n 2, 1) := by decide +kernel
theorem dX0_allSolids_5 : decode cX0_allSolids 5 = .ok (.aload_n 0, 1) := by decide +kernel
theorem dX0_allSolids_6 : decode cX0_allSolids 6 = .ok (.getfield 9, 3) := by decide +kernel
theorem dX0_allSolids_9 : decode cX0_allSolids 9 = .ok (.if_icmp .ge 18, 3) := by decide +kernel
theorem dX0_allSolids_12 : decode cX0_allSolids 12 = .ok (.iload_n 1, 1) := by decide +kernel
theorem dX0_allSolids_13 : decode cX0_allSolids 13 = .ok (.aload_n 0, 1) := by decide +kernel
theorem dX0_allSolids_14 : decode cX0_allSolids 14 = .ok (.getfield 31, 3) := by decide +kernel
theorem dX0_allSolids_17 : decode cX0_allSolids 17 = .ok (.iload_n 2, 1) := by decide +kernel
theorem dX0_allSolids_18 : decode cX0_allSolids 18 = .ok (.iaload, 1) := by decide +kernel
theorem dX0_allSolids_19 : decode cX0_allSolids 19 = .ok (.iadd, 1) := by decide +kernel
theorem dX0_allSolids_20 : decode cX0_allSolids 20 = .ok (.istore_n 1, 1) := by decide +kernel
theorem dX0_allSolids_21 : decode cX0_allSolids 21 = .ok (.iinc 2 1, 3) := by decide +kernel
theorem dX0_allSolids_24 : decode cX0_allSolids 24 = .ok (.goto (-20), 3) := by decide +kernel
theorem dX0_allSolids_27 : decode cX0_allSolids 27 = .ok (.iload_n 1, 1) := by decide +kernel
theorem dX0_allSolids_28 : decode cX0_allSolids 28 = .ok (.ireturn, 1) := by decide +kernel
theorem dX0_washedEffects_0 : decode cX0_washedEffects 0 = .ok (.iconst 0, 1) := by decide +kernel
theorem dX0_washedEffects_1 : decode cX0_washedEffects 1 = .ok (.istore_n 1, 1) := by decide +kernel
theorem dX0_washedEffects_2 : decode cX0_washedEffects 2 = .ok (.iconst 0, 1) := by decide +kernel
theorem dX0_washedEffects_3 : decode cX0_washedEffects 3 = .ok (.istore_n 2, 1) := by decide +kernel
theorem dX0_washedEffects_4 : decode cX0_washedEffects 4 = .ok (.iload_n 2, 1) := by decide +kernel
theorem dX0_washedEffects_5 : decode cX0_washedEffects 5 = .ok (.aload_n 0, 1) := by decide +kernel
theorem dX0_washedEffects_6 : decode cX0_washedEffects 6 = .ok (.getfield 9, 3) := by decide +kernel
theorem dX0_washedEffects_9 : decode cX0_washedEffects 9 = .ok (.if_icmp .ge 21, 3) := by decide +kernel
theorem dX0_washedEffects_12 : decode cX0_washedEffects 12 = .ok (.aload_n 0, 1) := by decide +kernel
theorem dX0_washedEffects_13 : decode cX0_washedEffects 13 = .ok (.getfield 46, 3) := by decide +kernel
theorem dX0_washedEffects_16 : decode cX0_washedEffects 16 = .ok (.iload_n 2, 1) := by decide +kernel
theorem dX0_washedEffects_17 : decode cX0_washedEffects 17 = .ok (.iaload, 1) := by decide +kernel
theorem dX0_washedEffects_18 : decode cX0_washedEffects 18 = .ok (.ifCond .le 6, 3) := by decide +kernel
theorem dX0_washedEffects_21 : decode cX0_washedEffects 21 = .ok (.iinc 1 1, 3) := by decide +kernel
theorem dX0_washedEffects_24 : decode cX0_washedEffects 24 = .ok (.iinc 2 1, 3) := by decide +kernel
theorem dX0_washedEffects_27 : decode cX0_washedEffects 27 = .ok (.goto (-23), 3) := by decide +kernel
theorem dX0_washedEffects_30 : decode cX0_washedEffects 30 = .ok (.iload_n 1, 1) := by decide +kernel
theorem dX0_washedEffects_31 : decode cX0_washedEffects 31 = .ok (.ireturn, 1) := by decide +kernel
theorem dX0_effectBehind_0 : decode cX0_effectBehind 0 = .ok (.iload_n 1, 1) := by decide +kernel
theorem dX0_effectBehind_1 : decode cX0_effectBehind 1 = .ok (.iconst 1, 1) := by decide +kernel
theorem dX0_effectBehind_2 : decode cX0_effectBehind 2 = .ok (.iadd, 1) := by decide +kernel
theorem dX0_effectBehind_3 : decode cX0_effectBehind 3 = .ok (.istore_n 2, 1) := by decide +kernel
theorem dX0_effectBehind_4 : decode cX0_effectBehind 4 = .ok (.iload_n 2, 1) := by decide +kernel
theorem dX0_effectBehind_5 : decode cX0_effectBehind 5 = .ok (.aload_n 0, 1) := by decide +kernel
theorem dX0_effectBehind_6 : decode cX0_effectBehind 6 = .ok (.getfield 9, 3) := by decide +kernel
theorem dX0_effectBehind_9 : decode cX0_effectBehind 9 = .ok (.if_icmp .ge 20, 3) := by decide +kernel
theorem dX0_effectBehind_12 : decode cX0_effectBehind 12 = .ok (.aload_n 0, 1) := by decide +kernel
theorem dX0_effectBehind_13 : decode cX0_effectBehind 13 = .ok (.getfield 46, 3) := by decide +kernel
theorem dX0_effectBehind_16 : decode cX0_effectBehind 16 = .ok (.iload_n 2, 1) := by decide +kernel
theorem dX0_effectBehind_17 : decode cX0_effectBehind 17 = .ok (.iaload, 1) := by decide +kernel
theorem dX0_effectBehind_18 : decode cX0_effectBehind 18 = .ok (.ifCond .ne 5, 3) := by decide +kernel
theorem dX0_effectBehind_21 : decode cX0_effectBehind 21 = .ok (.iload_n 2, 1) := by decide +kernel
theorem dX0_effectBehind_22 : decode cX0_effectBehind 22 = .ok (.ireturn, 1) := by decide +kernel
theorem dX0_effectBehind_23 : decode cX0_effectBehind 23 = .ok (.iinc 2 1, 3) := by decide +kernel
theorem dX0_effectBehind_26 : decode cX0_effectBehind 26 = .ok (.goto (-22), 3) := by decide +kernel
theorem dX0_effectBehind_29 : decode cX0_effectBehind 29 = .ok (.bipush (-9), 2) := by decide +kernel
theorem dX0_effectBehind_31 : decode cX0_effectBehind 31 = .ok (.ireturn, 1) := by decide +kernel
theorem dX0_effectBefore_0 : decode cX0_effectBefore 0 = .ok (.iload_n 1, 1) := by decide +kernel
theorem dX0_effectBefore_1 : decode cX0_effectBefore 1 = .ok (.iconst 1, 1) := by decide +kernel
theorem dX0_effectBefore_2 : decode cX0_effectBefore 2 = .ok (.isub, 1) := by decide +kernel
theorem dX0_effectBefore_3 : decode cX0_effectBefore 3 = .ok (.istore_n 2, 1) := by decide +kernel
theorem dX0_effectBefore_4 : decode cX0_effectBefore 4 = .ok (.iload_n 2, 1) := by decide +kernel
theorem dX0_effectBefore_5 : decode cX0_effectBefore 5 = .ok (.ifCond .lt 20, 3) := by decide +kernel
theorem dX0_effectBefore_8 : decode cX0_effectBefore 8 = .ok (.aload_n 0, 1) := by decide +kernel
theorem dX0_effectBefore_9 : decode cX0_effectBefore 9 = .ok (.getfield 46, 3) := by decide +kernel
theorem dX0_effectBefore_12 : decode cX0_effectBefore 12 = .ok (.iload_n 2, 1) := by decide +kernel
theorem dX0_effectBefore_13 : decode cX0_effectBefore 13 = .ok (.iaload, 1) := by decide +kernel
theorem dX0_effectBefore_14 : decode cX0_effectBefore 14 = .ok (.ifCond .ne 5, 3) := by decide +kernel
theorem dX0_effectBefore_17 : decode cX0_effectBefore 17 = .ok (.iload_n 2, 1) := by decide +kernel
theorem dX0_effectBefore_18 : decode cX0_effectBefore 18 = .ok (.ireturn, 1) := by decide +kernel
theorem dX0_effectBefore_19 : decode cX0_effectBefore 19 = .ok (.iinc 2 (-1), 3) := by decide +kernel
theorem dX0_effectBefore_22 : decode cX0_effectBefore 22 = .ok (.goto (-18), 3) := by decide +kernel
theorem dX0_effectBefore_25 : decode cX0_effectBefore 25 = .ok (.bipush (-9), 2) := by decide +kernel
theorem dX0_effectBefore_27 : decode cX0_effectBefore 27 = .ok (.ireturn, 1) := by decide +kernel
set_option maxRecDepth 20000 in
theorem ggX0_pass_X0_beginWashInTurn : GoodIn wsX0_pass wsX0_beginWashInTurn := (by refine gI_c (gw 7 rfl rfl) ?_; refine gI_c (gw 8 rfl rfl) ?_; refine gI_c (gw 2 rfl rfl) ?_; refine gI_c (gw 9 rfl rfl) ?_; refine gI_c (gw 10 rfl rfl) ?_; refine gI_c (gw 11 rfl rfl) ?_; refine gI_c (gw 12 rfl rfl) ?_; refine gI_c (gw 13 rfl rfl) ?_; refine gI_c (gw 14 rfl rfl) ?_; refine gI_c (gw 6 rfl rfl) ?_; refine gI_c (gw 15 rfl rfl) ?_; refine gI_c (gw 65 rfl rfl) ?_; refine gI_c (gw 66 rfl rfl) ?_; refine gI_c (gw 67 rfl rfl) ?_; refine gI_c (gw 68 rfl rfl) ?_; refine gI_c (gw 69 rfl rfl) ?_; refine gI_c (gw 70 rfl rfl) ?_; refine gI_c (gw 71 rfl rfl) ?_; refine gI_c (gw 72 rfl rfl) ?_; refine gI_c (gw 73 rfl rfl) ?_; refine gI_c (gw 74 rfl rfl) ?_; refine gI_c (gw 75 rfl rfl) ?_; refine gI_c (gw 76 rfl rfl) ?_; exact gI_n)
set_option maxRecDepth 20000 in
theorem gX0_pass_X0_beginWashInTurn : GoodIn wsX0_pass (wsV RX0 68 RX0 yX0_beginWashInTurn wsX0_beginWashInTurn) := goodIn_app (goodIn_of _ (by decide +kernel)) ggX0_pass_X0_beginWashInTurn
set_option maxRecDepth 20000 in
theorem ggX0_pass_X0_boilAll : GoodIn wsX0_pass wsX0_boilAll := (by refine gI_c (gw 19 rfl rfl) ?_; refine gI_c (gw 8 rfl rfl) ?_; refine gI_c (gw 9 rfl rfl) ?_; refine gI_c (gw 11 rfl rfl) ?_; refine gI_c (gw 1 rfl rfl) ?_; refine gI_c (gw 20 rfl rfl) ?_; refine gI_c (gw 21 rfl rfl) ?_; refine gI_c (gw 22 rfl rfl) ?_; refine gI_c (gw 6 rfl rfl) ?_; refine gI_c (gw 23 rfl rfl) ?_; refine gI_c (gw 24 rfl rfl) ?_; refine gI_c (gw 25 rfl rfl) ?_; refine gI_c (gw 26 rfl rfl) ?_; refine gI_c (gw 27 rfl rfl) ?_; refine gI_c (gw 28 rfl rfl) ?_; refine gI_c (gw 29 rfl rfl) ?_; refine gI_c (gw 30 rfl rfl) ?_; refine gI_c (gw 10 rfl rfl) ?_; refine gI_c (gw 31 rfl rfl) ?_; refine gI_c (gw 32 rfl rfl) ?_; refine gI_c (gw 33 rfl rfl) ?_; refine gI_c (gw 34 rfl rfl) ?_; refine gI_c (gw 35 rfl rfl) ?_; refine gI_c (gw 36 rfl rfl) ?_; refine gI_c (gw 37 rfl rfl) ?_; refine gI_c (gw 38 rfl rfl) ?_; refine gI_c (gw 39 rfl rfl) ?_; refine gI_c (gw 40 rfl rfl) ?_; refine gI_c (gw 65 rfl rfl) ?_; refine gI_c (gw 66 rfl rfl) ?_; refine gI_c (gw 67 rfl rfl) ?_; refine gI_c (gw 68 rfl rfl) ?_; refine gI_c (gw 69 rfl rfl) ?_; refine gI_c (gw 70 rfl rfl) ?_; refine gI_c (gw 71 rfl rfl) ?_; refine gI_c (gw 72 rfl rfl) ?_; refine gI_c (gw 73 rfl rfl) ?_; refine gI_c (gw 74 rfl rfl) ?_; refine gI_c (gw 75 rfl rfl) ?_; refine gI_c (gw 76 rfl rfl) ?_; exact gI_n)
set_option maxRecDepth 20000 in
theorem gX0_pass_X0_boilAll : GoodIn wsX0_pass (wsV RX0 71 RX0 yX0_boilAll wsX0_boilAll) := goodIn_app (goodIn_of _ (by decide +kernel)) ggX0_pass_X0_boilAll
set_option maxRecDepth 20000 in
theorem ggX0_pass_X0_flowOn : GoodIn wsX0_pass wsX0_flowOn := (by refine gI_c (gw 44 rfl rfl) ?_; refine gI_c (gw 8 rfl rfl) ?_; refine gI_c (gw 1 rfl rfl) ?_; refine gI_c (gw 9 rfl rfl) ?_; refine gI_c (gw 11 rfl rfl) ?_; refine gI_c (gw 35 rfl rfl) ?_; refine gI_c (gw 28 rfl rfl) ?_; refine gI_c (gw 45 rfl rfl) ?_; refine gI_c (gw 46 rfl rfl) ?_; refine gI_c (gw 47 rfl rfl) ?_; refine gI_c (gw 6 rfl rfl) ?_; refine gI_c (gw 48 rfl rfl) ?_; refine gI_c (gw 49 rfl rfl) ?_; refine gI_c (gw 50 rfl rfl) ?_; refine gI_c (gw 51 rfl rfl) ?_; refine gI_c (gw 52 rfl rfl) ?_; refine gI_c (gw 53 rfl rfl) ?_; refine gI_c (gw 54 rfl rfl) ?_; refine gI_c (gw 55 rfl rfl) ?_; refine gI_c (gw 56 rfl rfl) ?_; refine gI_c (gw 57 rfl rfl) ?_; refine gI_c (gw 24 rfl rfl) ?_; refine gI_c (gw 25 rfl rfl) ?_; refine gI_c (gw 26 rfl rfl) ?_; refine gI_c (gw 27 rfl rfl) ?_; refine gI_c (gw 65 rfl rfl) ?_; refine gI_c (gw 66 rfl rfl) ?_; refine gI_c (gw 67 rfl rfl) ?_; refine gI_c (gw 68 rfl rfl) ?_; refine gI_c (gw 69 rfl rfl) ?_; refine gI_c (gw 70 rfl rfl) ?_; refine gI_c (gw 71 rfl rfl) ?_; refine gI_c (gw 72 rfl rfl) ?_; refine gI_c (gw 73 rfl rfl) ?_; refine gI_c (gw 74 rfl rfl) ?_; refine gI_c (gw 75 rfl rfl) ?_; refine gI_c (gw 76 rfl rfl) ?_; exact gI_n)
set_option maxRecDepth 20000 in
theorem gX0_pass_X0_flowOn : GoodIn wsX0_pass (wsV RX0 74 RX0 yX0_flowOn wsX0_flowOn) := goodIn_app (goodIn_of _ (by decide +kernel)) ggX0_pass_X0_flowOn
set_option maxRecDepth 20000 in
theorem ggX0_pass_X0_washOn : GoodIn wsX0_pass wsX0_washOn := (by refine gI_c (gw 61 rfl rfl) ?_; refine gI_c (gw 9 rfl rfl) ?_; refine gI_c (gw 11 rfl rfl) ?_; refine gI_c (gw 10 rfl rfl) ?_; refine gI_c (gw 62 rfl rfl) ?_; refine gI_c (gw 63 rfl rfl) ?_; refine gI_c (gw 26 rfl rfl) ?_; refine gI_c (gw 64 rfl rfl) ?_; refine gI_c (gw 65 rfl rfl) ?_; refine gI_c (gw 66 rfl rfl) ?_; refine gI_c (gw 67 rfl rfl) ?_; refine gI_c (gw 68 rfl rfl) ?_; refine gI_c (gw 69 rfl rfl) ?_; refine gI_c (gw 70 rfl rfl) ?_; refine gI_c (gw 71 rfl rfl) ?_; refine gI_c (gw 72 rfl rfl) ?_; refine gI_c (gw 73 rfl rfl) ?_; refine gI_c (gw 74 rfl rfl) ?_; refine gI_c (gw 75 rfl rfl) ?_; refine gI_c (gw 76 rfl rfl) ?_; exact gI_n)
set_option maxRecDepth 20000 in
theorem gX0_pass_X0_washOn : GoodIn wsX0_pass (wsV RX0 77 RX0 yX0_washOn wsX0_washOn) := goodIn_app (goodIn_of _ (by decide +kernel)) ggX0_pass_X0_washOn
theorem dX0_pass_0 : decode cX0_pass 0 = .ok (.aload_n 0, 1) := by decide +kernel
theorem dX0_pass_1 : decode cX0_pass 1 = .ok (.getfield 22, 3) := by decide +kernel
theorem dX0_pass_4 : decode cX0_pass 4 = .ok (.iconst 1, 1) := by decide +kernel
theorem dX0_pass_5 : decode cX0_pass 5 = .ok (.iaload, 1) := by decide +kernel
theorem dX0_pass_6 : decode cX0_pass 6 = .ok (.istore_n 2, 1) := by decide +kernel
theorem dX0_pass_7 : decode cX0_pass 7 = .ok (.iconst 0, 1) := by decide +kernel
theorem dX0_pass_8 : decode cX0_pass 8 = .ok (.istore_n 3, 1) := by decide +kernel
theorem dX0_pass_9 : decode cX0_pass 9 = .ok (.iload_n 3, 1) := by decide +kernel
theorem dX0_pass_10 : decode cX0_pass 10 = .ok (.iload_n 1, 1) := by decide +kernel
theorem dX0_pass_11 : decode cX0_pass 11 = .ok (.if_icmp .ge 35, 3) := by decide +kernel
theorem dX0_pass_14 : decode cX0_pass 14 = .ok (.aload_n 0, 1) := by decide +kernel
theorem dX0_pass_15 : decode cX0_pass 15 = .ok (.invokevirtual 68, 3) := by decide +kernel
theorem dX0_pass_18 : decode cX0_pass 18 = .ok (.aload_n 0, 1) := by decide +kernel
theorem dX0_pass_19 : decode cX0_pass 19 = .ok (.invokevirtual 71, 3) := by decide +kernel
theorem dX0_pass_22 : decode cX0_pass 22 = .ok (.aload_n 0, 1) := by decide +kernel
theorem dX0_pass_23 : decode cX0_pass 23 = .ok (.invokevirtual 74, 3) := by decide +kernel
theorem dX0_pass_26 : decode cX0_pass 26 = .ok (.aload_n 0, 1) := by decide +kernel
theorem dX0_pass_27 : decode cX0_pass 27 = .ok (.invokevirtual 77, 3) := by decide +kernel
theorem dX0_pass_30 : decode cX0_pass 30 = .ok (.aload_n 0, 1) := by decide +kernel
theorem dX0_pass_31 : decode cX0_pass 31 = .ok (.dup, 1) := by decide +kernel
theorem dX0_pass_32 : decode cX0_pass 32 = .ok (.getfield 19, 3) := by decide +kernel
theorem dX0_pass_35 : decode cX0_pass 35 = .ok (.iconst 1, 1) := by decide +kernel
theorem dX0_pass_36 : decode cX0_pass 36 = .ok (.iadd, 1) := by decide +kernel
theorem dX0_pass_37 : decode cX0_pass 37 = .ok (.putfield 19, 3) := by decide +kernel
theorem dX0_pass_40 : decode cX0_pass 40 = .ok (.iinc 3 1, 3) := by decide +kernel
theorem dX0_pass_43 : decode cX0_pass 43 = .ok (.goto (-34), 3) := by decide +kernel
theorem dX0_pass_46 : decode cX0_pass 46 = .ok (.aload_n 0, 1) := by decide +kernel
theorem dX0_pass_47 : decode cX0_pass 47 = .ok (.getfield 22, 3) := by decide +kernel
theorem dX0_pass_50 : decode cX0_pass 50 = .ok (.iconst 1, 1) := by decide +kernel
theorem dX0_pass_51 : decode cX0_pass 51 = .ok (.iaload, 1) := by decide +kernel
theorem dX0_pass_52 : decode cX0_pass 52 = .ok (.iload_n 2, 1) := by decide +kernel
theorem dX0_pass_53 : decode cX0_pass 53 = .ok (.isub, 1) := by decide +kernel
theorem dX0_pass_54 : decode cX0_pass 54 = .ok (.ireturn, 1) := by decide +kernel
set_option maxRecDepth 20000 in
theorem ggX0_beginWashInTurn_X0_washedEffects : GoodIn wsX0_beginWashInTurn wsX0_washedEffects := (by refine gI_c (gw 10 rfl rfl) ?_; refine gI_c (gw 3 rfl rfl) ?_; refine gI_c (gw 5 rfl rfl) ?_; refine gI_c (gw 11 rfl rfl) ?_; refine gI_c (gw 12 rfl rfl) ?_; refine gI_c (gw 13 rfl rfl) ?_; refine gI_c (gw 14 rfl rfl) ?_; refine gI_c (gw 15 rfl rfl) ?_; refine gI_c (gw 16 rfl rfl) ?_; refine gI_c (gw 17 rfl rfl) ?_; refine gI_c (gw 18 rfl rfl) ?_; refine gI_c (gw 19 rfl rfl) ?_; refine gI_c (gw 20 rfl rfl) ?_; refine gI_c (gw 21 rfl rfl) ?_; refine gI_c (gw 22 rfl rfl) ?_; exact gI_n)
set_option maxRecDepth 20000 in
theorem gX0_beginWashInTurn_X0_washedEffects : GoodIn wsX0_beginWashInTurn (wsV RX0 80 RX0 yX0_washedEffects wsX0_washedEffects) := goodIn_app (goodIn_of _ (by decide +kernel)) ggX0_beginWashInTurn_X0_washedEffects
theorem dX0_beginWashInTurn_0 : decode cX0_beginWashInTurn 0 = .ok (.aload_n 0, 1) := by decide +kernel
theorem dX0_beginWashInTurn_1 : decode cX0_beginWashInTurn 1 = .ok (.getfield 15, 3) := by decide +kernel
theorem dX0_beginWashInTurn_4 : decode cX0_beginWashInTurn 4 = .ok (.iconst 3, 1) := by decide +kernel
theorem dX0_beginWashInTurn_5 : decode cX0_beginWashInTurn 5 = .ok (.iaload, 1) := by decide +kernel
theorem dX0_beginWashInTurn_6 : decode cX0_beginWashInTurn 6 = .ok (.istore_n 1, 1) := by decide +kernel
theorem dX0_beginWashInTurn_7 : decode cX0_beginWashInTurn 7 = .ok (.iload_n 1, 1) := by decide +kernel
theorem dX0_beginWashInTurn_8 : decode cX0_beginWashInTurn 8 = .ok (.ifCond .eq 19, 3) := by decide +kernel
theorem dX0_beginWashInTurn_11 : decode cX0_beginWashInTurn 11 = .ok (.aload_n 0, 1) := by decide +kernel
theorem dX0_beginWashInTurn_12 : decode cX0_beginWashInTurn 12 = .ok (.getfield 19, 3) := by decide +kernel
theorem dX0_beginWashInTurn_15 : decode cX0_beginWashInTurn 15 = .ok (.iload_n 1, 1) := by decide +kernel
theorem dX0_beginWashInTurn_16 : decode cX0_beginWashInTurn 16 = .ok (.irem, 1) := by decide +kernel
theorem dX0_beginWashInTurn_17 : decode cX0_beginWashInTurn 17 = .ok (.ifCond .ne 10, 3) := by decide +kernel
theorem dX0_beginWashInTurn_20 : decode cX0_beginWashInTurn 20 = .ok (.aload_n 0, 1) := by decide +kernel
theorem dX0_beginWashInTurn_21 : decode cX0_beginWashInTurn 21 = .ok (.invokevirtual 80, 3) := by decide +kernel
theorem dX0_beginWashInTurn_24 : decode cX0_beginWashInTurn 24 = .ok (.ifCond .le 4, 3) := by decide +kernel
theorem dX0_beginWashInTurn_27 : decode cX0_beginWashInTurn 27 = .ok (.return_, 1) := by decide +kernel
theorem dX0_beginWashInTurn_28 : decode cX0_beginWashInTurn 28 = .ok (.iconst 0, 1) := by decide +kernel
theorem dX0_beginWashInTurn_29 : decode cX0_beginWashInTurn 29 = .ok (.istore_n 2, 1) := by decide +kernel
theorem dX0_beginWashInTurn_30 : decode cX0_beginWashInTurn 30 = .ok (.iconst 1, 1) := by decide +kernel
theorem dX0_beginWashInTurn_31 : decode cX0_beginWashInTurn 31 = .ok (.istore_n 3, 1) := by decide +kernel
theorem dX0_beginWashInTurn_32 : decode cX0_beginWashInTurn 32 = .ok (.iload_n 3, 1) := by decide +kernel
theorem dX0_beginWashInTurn_33 : decode cX0_beginWashInTurn 33 = .ok (.aload_n 0, 1) := by decide +kernel
theorem dX0_beginWashInTurn_34 : decode cX0_beginWashInTurn 34 = .ok (.getfield 9, 3) := by decide +kernel
theorem dX0_beginWashInTurn_37 : decode cX0_beginWashInTurn 37 = .ok (.if_icmp .ge 26, 3) := by decide +kernel
theorem dX0_beginWashInTurn_40 : decode cX0_beginWashInTurn 40 = .ok (.aload_n 0, 1) := by decide +kernel
theorem dX0_beginWashInTurn_41 : decode cX0_beginWashInTurn 41 = .ok (.getfield 40, 3) := by decide +kernel
theorem dX0_beginWashInTurn_44 : decode cX0_beginWashInTurn 44 = .ok (.iload_n 3, 1) := by decide +kernel
theorem dX0_beginWashInTurn_45 : decode cX0_beginWashInTurn 45 = .ok (.iaload, 1) := by decide +kernel
theorem dX0_beginWashInTurn_46 : decode cX0_beginWashInTurn 46 = .ok (.aload_n 0, 1) := by decide +kernel
theorem dX0_beginWashInTurn_47 : decode cX0_beginWashInTurn 47 = .ok (.getfield 40, 3) := by decide +kernel
theorem dX0_beginWashInTurn_50 : decode cX0_beginWashInTurn 50 = .ok (.iload_n 2, 1) := by decide +kernel
theorem dX0_beginWashInTurn_51 : decode cX0_beginWashInTurn 51 = .ok (.iaload, 1) := by decide +kernel
theorem dX0_beginWashInTurn_52 : decode cX0_beginWashInTurn 52 = .ok (.if_icmp .le 5, 3) := by decide +kernel
theorem dX0_beginWashInTurn_55 : decode cX0_beginWashInTurn 55 = .ok (.iload_n 3, 1) := by decide +kernel
theorem dX0_beginWashInTurn_56 : decode cX0_beginWashInTurn 56 = .ok (.istore_n 2, 1) := by decide +kernel
theorem dX0_beginWashInTurn_57 : decode cX0_beginWashInTurn 57 = .ok (.iinc 3 1, 3) := by decide +kernel
theorem dX0_beginWashInTurn_60 : decode cX0_beginWashInTurn 60 = .ok (.goto (-28), 3) := by decide +kernel
theorem dX0_beginWashInTurn_63 : decode cX0_beginWashInTurn 63 = .ok (.aload_n 0, 1) := by decide +kernel
theorem dX0_beginWashInTurn_64 : decode cX0_beginWashInTurn 64 = .ok (.getfield 40, 3) := by decide +kernel
theorem dX0_beginWashInTurn_67 : decode cX0_beginWashInTurn 67 = .ok (.iload_n 2, 1) := by decide +kernel
theorem dX0_beginWashInTurn_68 : decode cX0_beginWashInTurn 68 = .ok (.iaload, 1) := by decide +kernel
theorem dX0_beginWashInTurn_69 : decode cX0_beginWashInTurn 69 = .ok (.ifCond .le 15, 3) := by decide +kernel
theorem dX0_beginWashInTurn_72 : decode cX0_beginWashInTurn 72 = .ok (.aload_n 0, 1) := by decide +kernel
theorem dX0_beginWashInTurn_73 : decode cX0_beginWashInTurn 73 = .ok (.getfield 46, 3) := by decide +kernel
theorem dX0_beginWashInTurn_76 : decode cX0_beginWashInTurn 76 = .ok (.iload_n 2, 1) := by decide +kernel
theorem dX0_beginWashInTurn_77 : decode cX0_beginWashInTurn 77 = .ok (.aload_n 0, 1) := by decide +kernel
theorem dX0_beginWashInTurn_78 : decode cX0_beginWashInTurn 78 = .ok (.getfield 15, 3) := by decide +kernel
theorem dX0_beginWashInTurn_81 : decode cX0_beginWashInTurn 81 = .ok (.iconst 4, 1) := by decide +kernel
theorem dX0_beginWashInTurn_82 : decode cX0_beginWashInTurn 82 = .ok (.iaload, 1) := by decide +kernel
theorem dX0_beginWashInTurn_83 : decode cX0_beginWashInTurn 83 = .ok (.iastore, 1) := by decide +kernel
theorem dX0_beginWashInTurn_84 : decode cX0_beginWashInTurn 84 = .ok (.return_, 1) := by decide +kernel
set_option maxRecDepth 20000 in
theorem ggX0_boilAll_X0_boil : GoodIn wsX0_boilAll wsX0_boil := (by refine gI_c (gw 9 rfl rfl) ?_; refine gI_c (gw 10 rfl rfl) ?_; refine gI_c (gw 11 rfl rfl) ?_; refine gI_c (gw 12 rfl rfl) ?_; refine gI_c (gw 13 rfl rfl) ?_; refine gI_c (gw 14 rfl rfl) ?_; refine gI_c (gw 15 rfl rfl) ?_; refine gI_c (gw 4 rfl rfl) ?_; refine gI_c (gw 16 rfl rfl) ?_; refine gI_c (gw 17 rfl rfl) ?_; refine gI_c (gw 18 rfl rfl) ?_; refine gI_c (gw 19 rfl rfl) ?_; refine gI_c (gw 20 rfl rfl) ?_; refine gI_c (gw 8 rfl rfl) ?_; refine gI_c (gw 21 rfl rfl) ?_; refine gI_c (gw 22 rfl rfl) ?_; refine gI_c (gw 23 rfl rfl) ?_; refine gI_c (gw 24 rfl rfl) ?_; refine gI_c (gw 25 rfl rfl) ?_; refine gI_c (gw 26 rfl rfl) ?_; refine gI_c (gw 27 rfl rfl) ?_; refine gI_c (gw 28 rfl rfl) ?_; refine gI_c (gw 29 rfl rfl) ?_; refine gI_c (gw 30 rfl rfl) ?_; refine gI_c (gw 31 rfl rfl) ?_; refine gI_c (gw 32 rfl rfl) ?_; refine gI_c (gw 33 rfl rfl) ?_; refine gI_c (gw 34 rfl rfl) ?_; refine gI_c (gw 35 rfl rfl) ?_; refine gI_c (gw 36 rfl rfl) ?_; refine gI_c (gw 37 rfl rfl) ?_; refine gI_c (gw 38 rfl rfl) ?_; refine gI_c (gw 39 rfl rfl) ?_; exact gI_n)
set_option maxRecDepth 20000 in
theorem gX0_boilAll_X0_boil : GoodIn wsX0_boilAll (wsV RX0 84 RX0 yX0_boil wsX0_boil) := goodIn_app (goodIn_of _ (by decide +kernel)) ggX0_boilAll_X0_boil
theorem dX0_boilAll_0 : decode cX0_boilAll 0 = .ok (.aload_n 0, 1) := by decide +kernel
theorem dX0_boilAll_1 : decode cX0_boilAll 1 = .ok (.getfield 15, 3) := by decide +kernel
theorem dX0_boilAll_4 : decode cX0_boilAll 4 = .ok (.iconst 0, 1) := by decide +kernel
theorem dX0_boilAll_5 : decode cX0_boilAll 5 = .ok (.iaload, 1) := by decide +kernel
theorem dX0_boilAll_6 : decode cX0_boilAll 6 = .ok (.istore_n 1, 1) := by decide +kernel
theorem dX0_boilAll_7 : decode cX0_boilAll 7 = .ok (.iconst 0, 1) := by decide +kernel
theorem dX0_boilAll_8 : decode cX0_boilAll 8 = .ok (.istore_n 2, 1) := by decide +kernel
theorem dX0_boilAll_9 : decode cX0_boilAll 9 = .ok (.iconst 0, 1) := by decide +kernel
theorem dX0_boilAll_10 : decode cX0_boilAll 10 = .ok (.istore_n 3, 1) := by decide +kernel
theorem dX0_boilAll_11 : decode cX0_boilAll 11 = .ok (.iload_n 3, 1) := by decide +kernel
theorem dX0_boilAll_12 : decode cX0_boilAll 12 = .ok (.aload_n 0, 1) := by decide +kernel
theorem dX0_boilAll_13 : decode cX0_boilAll 13 = .ok (.getfield 9, 3) := by decide +kernel
theorem dX0_boilAll_16 : decode cX0_boilAll 16 = .ok (.if_icmp .ge 27, 3) := by decide +kernel
theorem dX0_boilAll_19 : decode cX0_boilAll 19 = .ok (.aload_n 0, 1) := by decide +kernel
theorem dX0_boilAll_20 : decode cX0_boilAll 20 = .ok (.getfield 46, 3) := by decide +kernel
theorem dX0_boilAll_23 : decode cX0_boilAll 23 = .ok (.iload_n 3, 1) := by decide +kernel
theorem dX0_boilAll_24 : decode cX0_boilAll 24 = .ok (.iaload, 1) := by decide +kernel
theorem dX0_boilAll_25 : decode cX0_boilAll 25 = .ok (.ifCond .ne 12, 3) := by decide +kernel
theorem dX0_boilAll_28 : decode cX0_boilAll 28 = .ok (.iconst 1, 1) := by decide +kernel
theorem dX0_boilAll_29 : decode cX0_boilAll 29 = .ok (.istore_n 2, 1) := by decide +kernel
theorem dX0_boilAll_30 : decode cX0_boilAll 30 = .ok (.aload_n 0, 1) := by decide +kernel
theorem dX0_boilAll_31 : decode cX0_boilAll 31 = .ok (.iload_n 3, 1) := by decide +kernel
theorem dX0_boilAll_32 : decode cX0_boilAll 32 = .ok (.iload_n 1, 1) := by decide +kernel
theorem dX0_boilAll_33 : decode cX0_boilAll 33 = .ok (.invokevirtual 84, 3) := by decide +kernel
theorem dX0_boilAll_36 : decode cX0_boilAll 36 = .ok (.istore_n 1, 1) := by decide +kernel
theorem dX0_boilAll_37 : decode cX0_boilAll 37 = .ok (.iinc 3 1, 3) := by decide +kernel
theorem dX0_boilAll_40 : decode cX0_boilAll 40 = .ok (.goto (-29), 3) := by decide +kernel
theorem dX0_boilAll_43 : decode cX0_boilAll 43 = .ok (.iload_n 2, 1) := by decide +kernel
theorem dX0_boilAll_44 : decode cX0_boilAll 44 = .ok (.ifCond .eq 28, 3) := by decide +kernel
theorem dX0_boilAll_47 : decode cX0_boilAll 47 = .ok (.aload_n 0, 1) := by decide +kernel
theorem dX0_boilAll_48 : decode cX0_boilAll 48 = .ok (.getfield 22, 3) := by decide +kernel
theorem dX0_boilAll_51 : decode cX0_boilAll 51 = .ok (.iconst 0, 1) := by decide +kernel
theorem dX0_boilAll_52 : decode cX0_boilAll 52 = .ok (.dup2, 1) := by decide +kernel
theorem dX0_boilAll_53 : decode cX0_boilAll 53 = .ok (.iaload, 1) := by decide +kernel
theorem dX0_boilAll_54 : decode cX0_boilAll 54 = .ok (.aload_n 0, 1) := by decide +kernel
theorem dX0_boilAll_55 : decode cX0_boilAll 55 = .ok (.getfield 15, 3) := by decide +kernel
theorem dX0_boilAll_58 : decode cX0_boilAll 58 = .ok (.iconst 0, 1) := by decide +kernel
theorem dX0_boilAll_59 : decode cX0_boilAll 59 = .ok (.iaload, 1) := by decide +kernel
theorem dX0_boilAll_60 : decode cX0_boilAll 60 = .ok (.iadd, 1) := by decide +kernel
theorem dX0_boilAll_61 : decode cX0_boilAll 61 = .ok (.iastore, 1) := by decide +kernel
theorem dX0_boilAll_62 : decode cX0_boilAll 62 = .ok (.aload_n 0, 1) := by decide +kernel
theorem dX0_boilAll_63 : decode cX0_boilAll 63 = .ok (.getfield 22, 3) := by decide +kernel
theorem dX0_boilAll_66 : decode cX0_boilAll 66 = .ok (.iconst 3, 1) := by decide +kernel
theorem dX0_boilAll_67 : decode cX0_boilAll 67 = .ok (.dup2, 1) := by decide +kernel
theorem dX0_boilAll_68 : decode cX0_boilAll 68 = .ok (.iaload, 1) := by decide +kernel
theorem dX0_boilAll_69 : decode cX0_boilAll 69 = .ok (.iload_n 1, 1) := by decide +kernel
theorem dX0_boilAll_70 : decode cX0_boilAll 70 = .ok (.iadd, 1) := by decide +kernel
theorem dX0_boilAll_71 : decode cX0_boilAll 71 = .ok (.iastore, 1) := by decide +kernel
theorem dX0_boilAll_72 : decode cX0_boilAll 72 = .ok (.return_, 1) := by decide +kernel
set_option maxRecDepth 20000 in
theorem ggX0_boil_X0_thickness : GoodIn wsX0_boil wsX0_thickness := (by refine gI_c (gw 14 rfl rfl) ?_; refine gI_c (gw 5 rfl rfl) ?_; refine gI_c (gw 15 rfl rfl) ?_; refine gI_c (gw 21 rfl rfl) ?_; refine gI_c (gw 22 rfl rfl) ?_; refine gI_c (gw 23 rfl rfl) ?_; refine gI_c (gw 24 rfl rfl) ?_; refine gI_c (gw 25 rfl rfl) ?_; refine gI_c (gw 26 rfl rfl) ?_; refine gI_c (gw 27 rfl rfl) ?_; refine gI_c (gw 28 rfl rfl) ?_; refine gI_c (gw 29 rfl rfl) ?_; refine gI_c (gw 30 rfl rfl) ?_; refine gI_c (gw 31 rfl rfl) ?_; refine gI_c (gw 32 rfl rfl) ?_; exact gI_n)
set_option maxRecDepth 20000 in
theorem gX0_boil_X0_thickness : GoodIn wsX0_boil (wsV RX0 61 RX0 yX0_thickness wsX0_thickness) := goodIn_app (goodIn_of _ (by decide +kernel)) ggX0_boil_X0_thickness
set_option maxRecDepth 20000 in
theorem ggX0_boil_X0_power : GoodIn wsX0_boil wsX0_power := (by refine gI_c (gw 19 rfl rfl) ?_; refine gI_c (gw 9 rfl rfl) ?_; refine gI_c (gw 20 rfl rfl) ?_; refine gI_c (gw 21 rfl rfl) ?_; refine gI_c (gw 22 rfl rfl) ?_; refine gI_c (gw 23 rfl rfl) ?_; refine gI_c (gw 24 rfl rfl) ?_; refine gI_c (gw 25 rfl rfl) ?_; refine gI_c (gw 26 rfl rfl) ?_; refine gI_c (gw 27 rfl rfl) ?_; refine gI_c (gw 28 rfl rfl) ?_; refine gI_c (gw 29 rfl rfl) ?_; refine gI_c (gw 30 rfl rfl) ?_; refine gI_c (gw 31 rfl rfl) ?_; refine gI_c (gw 32 rfl rfl) ?_; exact gI_n)
set_option maxRecDepth 20000 in
theorem gX0_boil_X0_power : GoodIn wsX0_boil (wsV RX0 65 RX0 yX0_power wsX0_power) := goodIn_app (goodIn_of _ (by decide +kernel)) ggX0_boil_X0_power
theorem dX0_boil_0 : decode cX0_boil 0 = .ok (.aload_n 0, 1) := by decide +kernel
theorem dX0_boil_1 : decode cX0_boil 1 = .ok (.iload_n 1, 1) := by decide +kernel
theorem dX0_boil_2 : decode cX0_boil 2 = .ok (.invokevirtual 61, 3) := by decide +kernel
theorem dX0_boil_5 : decode cX0_boil 5 = .ok (.istore_n 3, 1) := by decide +kernel
theorem dX0_boil_6 : decode cX0_boil 6 = .ok (.iload_n 2, 1) := by decide +kernel
theorem dX0_boil_7 : decode cX0_boil 7 = .ok (.aload_n 0, 1) := by decide +kernel
theorem dX0_boil_8 : decode cX0_boil 8 = .ok (.iload_n 1, 1) := by decide +kernel
theorem dX0_boil_9 : decode cX0_boil 9 = .ok (.invokevirtual 65, 3) := by decide +kernel
theorem dX0_boil_12 : decode cX0_boil 12 = .ok (.invokestatic 88, 3) := by decide +kernel
theorem dX0_boil_15 : decode cX0_boil 15 = .ok (.istore 4, 2) := by decide +kernel
theorem dX0_boil_17 : decode cX0_boil 17 = .ok (.iload 4, 2) := by decide +kernel
theorem dX0_boil_19 : decode cX0_boil 19 = .ok (.iload 4, 2) := by decide +kernel
theorem dX0_boil_21 : decode cX0_boil 21 = .ok (.iload_n 3, 1) := by decide +kernel
theorem dX0_boil_22 : decode cX0_boil 22 = .ok (.imul, 1) := by decide +kernel
theorem dX0_boil_23 : decode cX0_boil 23 = .ok (.sipush 200, 3) := by decide +kernel
theorem dX0_boil_26 : decode cX0_boil 26 = .ok (.idiv, 1) := by decide +kernel
theorem dX0_boil_27 : decode cX0_boil 27 = .ok (.isub, 1) := by decide +kernel
theorem dX0_boil_28 : decode cX0_boil 28 = .ok (.istore 4, 2) := by decide +kernel
theorem dX0_boil_30 : decode cX0_boil 30 = .ok (.iload 4, 2) := by decide +kernel
theorem dX0_boil_32 : decode cX0_boil 32 = .ok (.aload_n 0, 1) := by decide +kernel
theorem dX0_boil_33 : decode cX0_boil 33 = .ok (.getfield 28, 3) := by decide +kernel
theorem dX0_boil_36 : decode cX0_boil 36 = .ok (.iload_n 1, 1) := by decide +kernel
theorem dX0_boil_37 : decode cX0_boil 37 = .ok (.iaload, 1) := by decide +kernel
theorem dX0_boil_38 : decode cX0_boil 38 = .ok (.invokestatic 88, 3) := by decide +kernel
theorem dX0_boil_41 : decode cX0_boil 41 = .ok (.istore 4, 2) := by decide +kernel
theorem dX0_boil_43 : decode cX0_boil 43 = .ok (.iload 4, 2) := by decide +kernel
theorem dX0_boil_45 : decode cX0_boil 45 = .ok (.aload_n 0, 1) := by decide +kernel
theorem dX0_boil_46 : decode cX0_boil 46 = .ok (.getfield 37, 3) := by decide +kernel
theorem dX0_boil_49 : decode cX0_boil 49 = .ok (.iload_n 1, 1) := by decide +kernel
theorem dX0_boil_50 : decode cX0_boil 50 = .ok (.iaload, 1) := by decide +kernel
theorem dX0_boil_51 : decode cX0_boil 51 = .ok (.imul, 1) := by decide +kernel
theorem dX0_boil_52 : decode cX0_boil 52 = .ok (.bipush 100, 2) := by decide +kernel
theorem dX0_boil_54 : decode cX0_boil 54 = .ok (.idiv, 1) := by decide +kernel
theorem dX0_boil_55 : decode cX0_boil 55 = .ok (.istore 5, 2) := by decide +kernel
theorem dX0_boil_57 : decode cX0_boil 57 = .ok (.aload_n 0, 1) := by decide +kernel
theorem dX0_boil_58 : decode cX0_boil 58 = .ok (.getfield 28, 3) := by decide +kernel
theorem dX0_boil_61 : decode cX0_boil 61 = .ok (.iload_n 1, 1) := by decide +kernel
theorem dX0_boil_62 : decode cX0_boil 62 = .ok (.dup2, 1) := by decide +kernel
theorem dX0_boil_63 : decode cX0_boil 63 = .ok (.iaload, 1) := by decide +kernel
theorem dX0_boil_64 : decode cX0_boil 64 = .ok (.iload 4, 2) := by decide +kernel
theorem dX0_boil_66 : decode cX0_boil 66 = .ok (.isub, 1) := by decide +kernel
theorem dX0_boil_67 : decode cX0_boil 67 = .ok (.iastore, 1) := by decide +kernel
theorem dX0_boil_68 : decode cX0_boil 68 = .ok (.aload_n 0, 1) := by decide +kernel
theorem dX0_boil_69 : decode cX0_boil 69 = .ok (.getfield 22, 3) := by decide +kernel
theorem dX0_boil_72 : decode cX0_boil 72 = .ok (.iconst 1, 1) := by decide +kernel
theorem dX0_boil_73 : decode cX0_boil 73 = .ok (.dup2, 1) := by decide +kernel
theorem dX0_boil_74 : decode cX0_boil 74 = .ok (.iaload, 1) := by decide +kernel
theorem dX0_boil_75 : decode cX0_boil 75 = .ok (.iload 4, 2) := by decide +kernel
theorem dX0_boil_77 : decode cX0_boil 77 = .ok (.iadd, 1) := by decide +kernel
theorem dX0_boil_78 : decode cX0_boil 78 = .ok (.iastore, 1) := by decide +kernel
theorem dX0_boil_79 : decode cX0_boil 79 = .ok (.aload_n 0, 1) := by decide +kernel
theorem dX0_boil_80 : decode cX0_boil 80 = .ok (.getfield 22, 3) := by decide +kernel
theorem dX0_boil_83 : decode cX0_boil 83 = .ok (.iconst 2, 1) := by decide +kernel
theorem dX0_boil_84 : decode cX0_boil 84 = .ok (.dup2, 1) := by decide +kernel
theorem dX0_boil_85 : decode cX0_boil 85 = .ok (.iaload, 1) := by decide +kernel
theorem dX0_boil_86 : decode cX0_boil 86 = .ok (.iload 5, 2) := by decide +kernel
theorem dX0_boil_88 : decode cX0_boil 88 = .ok (.iadd, 1) := by decide +kernel
theorem dX0_boil_89 : decode cX0_boil 89 = .ok (.iastore, 1) := by decide +kernel
theorem dX0_boil_90 : decode cX0_boil 90 = .ok (.aload_n 0, 1) := by decide +kernel
theorem dX0_boil_91 : decode cX0_boil 91 = .ok (.getfield 22, 3) := by decide +kernel
theorem dX0_boil_94 : decode cX0_boil 94 = .ok (.iconst 4, 1) := by decide +kernel
theorem dX0_boil_95 : decode cX0_boil 95 = .ok (.dup2, 1) := by decide +kernel
theorem dX0_boil_96 : decode cX0_boil 96 = .ok (.iaload, 1) := by decide +kernel
theorem dX0_boil_97 : decode cX0_boil 97 = .ok (.iload_n 2, 1) := by decide +kernel
theorem dX0_boil_98 : decode cX0_boil 98 = .ok (.iload 4, 2) := by decide +kernel
theorem dX0_boil_100 : decode cX0_boil 100 = .ok (.isub, 1) := by decide +kernel
theorem dX0_boil_101 : decode cX0_boil 101 = .ok (.iadd, 1) := by decide +kernel
theorem dX0_boil_102 : decode cX0_boil 102 = .ok (.iastore, 1) := by decide +kernel
theorem dX0_boil_103 : decode cX0_boil 103 = .ok (.aload_n 0, 1) := by decide +kernel
theorem dX0_boil_104 : decode cX0_boil 104 = .ok (.getfield 43, 3) := by decide +kernel
theorem dX0_boil_107 : decode cX0_boil 107 = .ok (.iload_n 1, 1) := by decide +kernel
theorem dX0_boil_108 : decode cX0_boil 108 = .ok (.iaload, 1) := by decide +kernel
theorem dX0_boil_109 : decode cX0_boil 109 = .ok (.iload 4, 2) := by decide +kernel
theorem dX0_boil_111 : decode cX0_boil 111 = .ok (.iload_n 3, 1) := by decide +kernel
theorem dX0_boil_112 : decode cX0_boil 112 = .ok (.imul, 1) := by decide +kernel
theorem dX0_boil_113 : decode cX0_boil 113 = .ok (.bipush 10, 2) := by decide +kernel
theorem dX0_boil_115 : decode cX0_boil 115 = .ok (.idiv, 1) := by decide +kernel
theorem dX0_boil_116 : decode cX0_boil 116 = .ok (.iadd, 1) := by decide +kernel
theorem dX0_boil_117 : decode cX0_boil 117 = .ok (.istore 6, 2) := by decide +kernel
theorem dX0_boil_119 : decode cX0_boil 119 = .ok (.aload_n 0, 1) := by decide +kernel
theorem dX0_boil_120 : decode cX0_boil 120 = .ok (.getfield 40, 3) := by decide +kernel
theorem dX0_boil_123 : decode cX0_boil 123 = .ok (.iload_n 1, 1) := by decide +kernel
theorem dX0_boil_124 : decode cX0_boil 124 = .ok (.bipush 99, 2) := by decide +kernel
theorem dX0_boil_126 : decode cX0_boil 126 = .ok (.aload_n 0, 1) := by decide +kernel
theorem dX0_boil_127 : decode cX0_boil 127 = .ok (.getfield 40, 3) := by decide +kernel
theorem dX0_boil_130 : decode cX0_boil 130 = .ok (.iload_n 1, 1) := by decide +kernel
theorem dX0_boil_131 : decode cX0_boil 131 = .ok (.iaload, 1) := by decide +kernel
theorem dX0_boil_132 : decode cX0_boil 132 = .ok (.iload 6, 2) := by decide +kernel
theorem dX0_boil_134 : decode cX0_boil 134 = .ok (.sipush 1000, 3) := by decide +kernel
theorem dX0_boil_137 : decode cX0_boil 137 = .ok (.idiv, 1) := by decide +kernel
theorem dX0_boil_138 : decode cX0_boil 138 = .ok (.iadd, 1) := by decide +kernel
theorem dX0_boil_139 : decode cX0_boil 139 = .ok (.invokestatic 88, 3) := by decide +kernel
theorem dX0_boil_142 : decode cX0_boil 142 = .ok (.iastore, 1) := by decide +kernel
theorem dX0_boil_143 : decode cX0_boil 143 = .ok (.aload_n 0, 1) := by decide +kernel
theorem dX0_boil_144 : decode cX0_boil 144 = .ok (.getfield 43, 3) := by decide +kernel
theorem dX0_boil_147 : decode cX0_boil 147 = .ok (.iload_n 1, 1) := by decide +kernel
theorem dX0_boil_148 : decode cX0_boil 148 = .ok (.iload 6, 2) := by decide +kernel
theorem dX0_boil_150 : decode cX0_boil 150 = .ok (.sipush 1000, 3) := by decide +kernel
theorem dX0_boil_153 : decode cX0_boil 153 = .ok (.irem, 1) := by decide +kernel
theorem dX0_boil_154 : decode cX0_boil 154 = .ok (.iastore, 1) := by decide +kernel
theorem dX0_boil_155 : decode cX0_boil 155 = .ok (.iload 4, 2) := by decide +kernel
theorem dX0_boil_157 : decode cX0_boil 157 = .ok (.iload 5, 2) := by decide +kernel
theorem dX0_boil_159 : decode cX0_boil 159 = .ok (.isub, 1) := by decide +kernel
theorem dX0_boil_160 : decode cX0_boil 160 = .ok (.ireturn, 1) := by decide +kernel
set_option maxRecDepth 20000 in
theorem ggX0_flowOn_X0_effectBehind : GoodIn wsX0_flowOn wsX0_effectBehind := (by refine gI_c (gw 11 rfl rfl) ?_; refine gI_c (gw 3 rfl rfl) ?_; refine gI_c (gw 4 rfl rfl) ?_; refine gI_c (gw 25 rfl rfl) ?_; refine gI_c (gw 26 rfl rfl) ?_; refine gI_c (gw 27 rfl rfl) ?_; refine gI_c (gw 28 rfl rfl) ?_; refine gI_c (gw 29 rfl rfl) ?_; refine gI_c (gw 30 rfl rfl) ?_; refine gI_c (gw 31 rfl rfl) ?_; refine gI_c (gw 32 rfl rfl) ?_; refine gI_c (gw 33 rfl rfl) ?_; refine gI_c (gw 34 rfl rfl) ?_; refine gI_c (gw 35 rfl rfl) ?_; refine gI_c (gw 36 rfl rfl) ?_; exact gI_n)
set_option maxRecDepth 20000 in
theorem gX0_flowOn_X0_effectBehind : GoodIn wsX0_flowOn (wsV RX0 93 RX0 yX0_effectBehind wsX0_effectBehind) := goodIn_app (goodIn_of _ (by decide +kernel)) ggX0_flowOn_X0_effectBehind
set_option maxRecDepth 20000 in
theorem ggX0_flowOn_X0_amount : GoodIn wsX0_flowOn wsX0_amount := (by refine gI_c (gw 15 rfl rfl) ?_; refine gI_c (gw 6 rfl rfl) ?_; refine gI_c (gw 5 rfl rfl) ?_; refine gI_c (gw 25 rfl rfl) ?_; refine gI_c (gw 26 rfl rfl) ?_; refine gI_c (gw 27 rfl rfl) ?_; refine gI_c (gw 28 rfl rfl) ?_; refine gI_c (gw 29 rfl rfl) ?_; refine gI_c (gw 30 rfl rfl) ?_; refine gI_c (gw 31 rfl rfl) ?_; refine gI_c (gw 32 rfl rfl) ?_; refine gI_c (gw 33 rfl rfl) ?_; refine gI_c (gw 34 rfl rfl) ?_; refine gI_c (gw 35 rfl rfl) ?_; refine gI_c (gw 36 rfl rfl) ?_; exact gI_n)
set_option maxRecDepth 20000 in
theorem gX0_flowOn_X0_amount : GoodIn wsX0_flowOn (wsV RX0 96 RX0 yX0_amount wsX0_amount) := goodIn_app (goodIn_of _ (by decide +kernel)) ggX0_flowOn_X0_amount
set_option maxRecDepth 20000 in
theorem ggX0_flowOn_X0_flowFrom : GoodIn wsX0_flowOn wsX0_flowFrom := (by refine gI_c (gw 19 rfl rfl) ?_; refine gI_c (gw 20 rfl rfl) ?_; refine gI_c (gw 21 rfl rfl) ?_; refine gI_c (gw 22 rfl rfl) ?_; refine gI_c (gw 23 rfl rfl) ?_; refine gI_c (gw 24 rfl rfl) ?_; refine gI_c (gw 12 rfl rfl) ?_; refine gI_c (gw 13 rfl rfl) ?_; refine gI_c (gw 14 rfl rfl) ?_; refine gI_c (gw 10 rfl rfl) ?_; refine gI_c (gw 15 rfl rfl) ?_; refine gI_c (gw 6 rfl rfl) ?_; refine gI_c (gw 5 rfl rfl) ?_; refine gI_c (gw 7 rfl rfl) ?_; refine gI_c (gw 8 rfl rfl) ?_; refine gI_c (gw 9 rfl rfl) ?_; refine gI_c (gw 11 rfl rfl) ?_; refine gI_c (gw 3 rfl rfl) ?_; refine gI_c (gw 4 rfl rfl) ?_; refine gI_c (gw 25 rfl rfl) ?_; refine gI_c (gw 26 rfl rfl) ?_; refine gI_c (gw 27 rfl rfl) ?_; refine gI_c (gw 28 rfl rfl) ?_; refine gI_c (gw 29 rfl rfl) ?_; refine gI_c (gw 30 rfl rfl) ?_; refine gI_c (gw 31 rfl rfl) ?_; refine gI_c (gw 32 rfl rfl) ?_; refine gI_c (gw 33 rfl rfl) ?_; refine gI_c (gw 34 rfl rfl) ?_; refine gI_c (gw 35 rfl rfl) ?_; refine gI_c (gw 36 rfl rfl) ?_; exact gI_n)
set_option maxRecDepth 20000 in
theorem gX0_flowOn_X0_flowFrom : GoodIn wsX0_flowOn (wsV RX0 99 RX0 yX0_flowFrom wsX0_flowFrom) := goodIn_app (goodIn_of _ (by decide +kernel)) ggX0_flowOn_X0_flowFrom
theorem dX0_flowOn_0 : decode cX0_flowOn 0 = .ok (.iconst 0, 1) := by decide +kernel
theorem dX0_flowOn_1 : decode cX0_flowOn 1 = .ok (.istore_n 1, 1) := by decide +kernel
theorem dX0_flowOn_2 : decode cX0_flowOn 2 = .ok (.iconst 0, 1) := by decide +kernel
theorem dX0_flowOn_3 : decode cX0_flowOn 3 = .ok (.istore_n 2, 1) := by decide +kernel
theorem dX0_flowOn_4 : decode cX0_flowOn 4 = .ok (.aload_n 0, 1) := by decide +kernel
theorem dX0_flowOn_5 : decode cX0_flowOn 5 = .ok (.iconst (-1), 1) := by decide +kernel
theorem dX0_flowOn_6 : decode cX0_flowOn 6 = .ok (.invokevirtual 93, 3) := by decide +kernel
theorem dX0_flowOn_9 : decode cX0_flowOn 9 = .ok (.istore_n 3, 1) := by decide +kernel
theorem dX0_flowOn_10 : decode cX0_flowOn 10 = .ok (.iload_n 3, 1) := by decide +kernel
theorem dX0_flowOn_11 : decode cX0_flowOn 11 = .ok (.bipush (-9), 2) := by decide +kernel
theorem dX0_flowOn_13 : decode cX0_flowOn 13 = .ok (.if_icmp .eq 28, 3) := by decide +kernel
theorem dX0_flowOn_16 : decode cX0_flowOn 16 = .ok (.sipush 5000, 3) := by decide +kernel
theorem dX0_flowOn_19 : decode cX0_flowOn 19 = .ok (.aload_n 0, 1) := by decide +kernel
theorem dX0_flowOn_20 : decode cX0_flowOn 20 = .ok (.iload_n 3, 1) := by decide +kernel
theorem dX0_flowOn_21 : decode cX0_flowOn 21 = .ok (.invokevirtual 96, 3) := by decide +kernel
theorem dX0_flowOn_24 : decode cX0_flowOn 24 = .ok (.isub, 1) := by decide +kernel
theorem dX0_flowOn_25 : decode cX0_flowOn 25 = .ok (.aload_n 0, 1) := by decide +kernel
theorem dX0_flowOn_26 : decode cX0_flowOn 26 = .ok (.getfield 15, 3) := by decide +kernel
theorem dX0_flowOn_29 : decode cX0_flowOn 29 = .ok (.iconst 1, 1) := by decide +kernel
theorem dX0_flowOn_30 : decode cX0_flowOn 30 = .ok (.iaload, 1) := by decide +kernel
theorem dX0_flowOn_31 : decode cX0_flowOn 31 = .ok (.aload_n 0, 1) := by decide +kernel
theorem dX0_flowOn_32 : decode cX0_flowOn 32 = .ok (.getfield 15, 3) := by decide +kernel
theorem dX0_flowOn_35 : decode cX0_flowOn 35 = .ok (.iconst 2, 1) := by decide +kernel
theorem dX0_flowOn_36 : decode cX0_flowOn 36 = .ok (.iaload, 1) := by decide +kernel
theorem dX0_flowOn_37 : decode cX0_flowOn 37 = .ok (.iadd, 1) := by decide +kernel
theorem dX0_flowOn_38 : decode cX0_flowOn 38 = .ok (.if_icmp .ge 17, 3) := by decide +kernel
theorem dX0_flowOn_41 : decode cX0_flowOn 41 = .ok (.aload_n 0, 1) := by decide +kernel
theorem dX0_flowOn_42 : decode cX0_flowOn 42 = .ok (.getfield 22, 3) := by decide +kernel
theorem dX0_flowOn_45 : decode cX0_flowOn 45 = .ok (.bipush 9, 2) := by decide +kernel
theorem dX0_flowOn_47 : decode cX0_flowOn 47 = .ok (.dup2, 1) := by decide +kernel
theorem dX0_flowOn_48 : decode cX0_flowOn 48 = .ok (.iaload, 1) := by decide +kernel
theorem dX0_flowOn_49 : decode cX0_flowOn 49 = .ok (.iconst 1, 1) := by decide +kernel
theorem dX0_flowOn_50 : decode cX0_flowOn 50 = .ok (.iadd, 1) := by decide +kernel
theorem dX0_flowOn_51 : decode cX0_flowOn 51 = .ok (.iastore, 1) := by decide +kernel
theorem dX0_flowOn_52 : decode cX0_flowOn 52 = .ok (.goto 38, 3) := by decide +kernel
theorem dX0_flowOn_55 : decode cX0_flowOn 55 = .ok (.aload_n 0, 1) := by decide +kernel
theorem dX0_flowOn_56 : decode cX0_flowOn 56 = .ok (.getfield 15, 3) := by decide +kernel
theorem dX0_flowOn_59 : decode cX0_flowOn 59 = .ok (.iconst 1, 1) := by decide +kernel
theorem dX0_flowOn_60 : decode cX0_flowOn 60 = .ok (.iaload, 1) := by decide +kernel
theorem dX0_flowOn_61 : decode cX0_flowOn 61 = .ok (.istore_n 1, 1) := by decide +kernel
theorem dX0_flowOn_62 : decode cX0_flowOn 62 = .ok (.aload_n 0, 1) := by decide +kernel
theorem dX0_flowOn_63 : decode cX0_flowOn 63 = .ok (.getfield 15, 3) := by decide +kernel
theorem dX0_flowOn_66 : decode cX0_flowOn 66 = .ok (.iconst 2, 1) := by decide +kernel
theorem dX0_flowOn_67 : decode cX0_flowOn 67 = .ok (.iaload, 1) := by decide +kernel
theorem dX0_flowOn_68 : decode cX0_flowOn 68 = .ok (.istore_n 2, 1) := by decide +kernel
theorem dX0_flowOn_69 : decode cX0_flowOn 69 = .ok (.aload_n 0, 1) := by decide +kernel
theorem dX0_flowOn_70 : decode cX0_flowOn 70 = .ok (.getfield 22, 3) := by decide +kernel
theorem dX0_flowOn_73 : decode cX0_flowOn 73 = .ok (.iconst 5, 1) := by decide +kernel
theorem dX0_flowOn_74 : decode cX0_flowOn 74 = .ok (.dup2, 1) := by decide +kernel
theorem dX0_flowOn_75 : decode cX0_flowOn 75 = .ok (.iaload, 1) := by decide +kernel
theorem dX0_flowOn_76 : decode cX0_flowOn 76 = .ok (.iload_n 1, 1) := by decide +kernel
theorem dX0_flowOn_77 : decode cX0_flowOn 77 = .ok (.iadd, 1) := by decide +kernel
theorem dX0_flowOn_78 : decode cX0_flowOn 78 = .ok (.iastore, 1) := by decide +kernel
theorem dX0_flowOn_79 : decode cX0_flowOn 79 = .ok (.aload_n 0, 1) := by decide +kernel
theorem dX0_flowOn_80 : decode cX0_flowOn 80 = .ok (.getfield 22, 3) := by decide +kernel
theorem dX0_flowOn_83 : decode cX0_flowOn 83 = .ok (.bipush 6, 2) := by decide +kernel
theorem dX0_flowOn_85 : decode cX0_flowOn 85 = .ok (.dup2, 1) := by decide +kernel
theorem dX0_flowOn_86 : decode cX0_flowOn 86 = .ok (.iaload, 1) := by decide +kernel
theorem dX0_flowOn_87 : decode cX0_flowOn 87 = .ok (.iload_n 2, 1) := by decide +kernel
theorem dX0_flowOn_88 : decode cX0_flowOn 88 = .ok (.iadd, 1) := by decide +kernel
theorem dX0_flowOn_89 : decode cX0_flowOn 89 = .ok (.iastore, 1) := by decide +kernel
theorem dX0_flowOn_90 : decode cX0_flowOn 90 = .ok (.iconst 0, 1) := by decide +kernel
theorem dX0_flowOn_91 : decode cX0_flowOn 91 = .ok (.istore 4, 2) := by decide +kernel
theorem dX0_flowOn_93 : decode cX0_flowOn 93 = .ok (.iload 4, 2) := by decide +kernel
theorem dX0_flowOn_95 : decode cX0_flowOn 95 = .ok (.aload_n 0, 1) := by decide +kernel
theorem dX0_flowOn_96 : decode cX0_flowOn 96 = .ok (.getfield 9, 3) := by decide +kernel
theorem dX0_flowOn_99 : decode cX0_flowOn 99 = .ok (.if_icmp .ge 100, 3) := by decide +kernel
theorem dX0_flowOn_102 : decode cX0_flowOn 102 = .ok (.aload_n 0, 1) := by decide +kernel
theorem dX0_flowOn_103 : decode cX0_flowOn 103 = .ok (.getfield 46, 3) := by decide +kernel
theorem dX0_flowOn_106 : decode cX0_flowOn 106 = .ok (.iload 4, 2) := by decide +kernel
theorem dX0_flowOn_108 : decode cX0_flowOn 108 = .ok (.iaload, 1) := by decide +kernel
theorem dX0_flowOn_109 : decode cX0_flowOn 109 = .ok (.ifCond .ne 84, 3) := by decide +kernel
theorem dX0_flowOn_112 : decode cX0_flowOn 112 = .ok (.aload_n 0, 1) := by decide +kernel
theorem dX0_flowOn_113 : decode cX0_flowOn 113 = .ok (.iload 4, 2) := by decide +kernel
theorem dX0_flowOn_115 : decode cX0_flowOn 115 = .ok (.invokevirtual 99, 3) := by decide +kernel
theorem dX0_flowOn_118 : decode cX0_flowOn 118 = .ok (.istore 5, 2) := by decide +kernel
theorem dX0_flowOn_120 : decode cX0_flowOn 120 = .ok (.aload_n 0, 1) := by decide +kernel
theorem dX0_flowOn_121 : decode cX0_flowOn 121 = .ok (.iload 4, 2) := by decide +kernel
theorem dX0_flowOn_123 : decode cX0_flowOn 123 = .ok (.invokevirtual 96, 3) := by decide +kernel
theorem dX0_flowOn_126 : decode cX0_flowOn 126 = .ok (.istore 6, 2) := by decide +kernel
theorem dX0_flowOn_128 : decode cX0_flowOn 128 = .ok (.iload 6, 2) := by decide +kernel
theorem dX0_flowOn_130 : decode cX0_flowOn 130 = .ok (.ifCond .le 19, 3) := by decide +kernel
theorem dX0_flowOn_133 : decode cX0_flowOn 133 = .ok (.aload_n 0, 1) := by decide +kernel
theorem dX0_flowOn_134 : decode cX0_flowOn 134 = .ok (.getfield 31, 3) := by decide +kernel
theorem dX0_flowOn_137 : decode cX0_flowOn 137 = .ok (.iload 4, 2) := by decide +kernel
theorem dX0_flowOn_139 : decode cX0_flowOn 139 = .ok (.iaload, 1) := by decide +kernel
theorem dX0_flowOn_140 : decode cX0_flowOn 140 = .ok (.iload 5, 2) := by decide +kernel
theorem dX0_flowOn_142 : decode cX0_flowOn 142 = .ok (.imul, 1) := by decide +kernel
theorem dX0_flowOn_143 : decode cX0_flowOn 143 = .ok (.iload 6, 2) := by decide +kernel
theorem dX0_flowOn_145 : decode cX0_flowOn 145 = .ok (.idiv, 1) := by decide +kernel
theorem dX0_flowOn_146 : decode cX0_flowOn 146 = .ok (.goto 4, 3) := by decide +kernel
theorem dX0_flowOn_149 : decode cX0_flowOn 149 = .ok (.iconst 0, 1) := by decide +kernel
theorem dX0_flowOn_150 : decode cX0_flowOn 150 = .ok (.istore 7, 2) := by decide +kernel
theorem dX0_flowOn_152 : decode cX0_flowOn 152 = .ok (.iload 5, 2) := by decide +kernel
theorem dX0_flowOn_154 : decode cX0_flowOn 154 = .ok (.iload 7, 2) := by decide +kernel
theorem dX0_flowOn_156 : decode cX0_flowOn 156 = .ok (.isub, 1) := by decide +kernel
theorem dX0_flowOn_157 : decode cX0_flowOn 157 = .ok (.istore 8, 2) := by decide +kernel
theorem dX0_flowOn_159 : decode cX0_flowOn 159 = .ok (.aload_n 0, 1) := by decide +kernel
theorem dX0_flowOn_160 : decode cX0_flowOn 160 = .ok (.getfield 28, 3) := by decide +kernel
theorem dX0_flowOn_163 : decode cX0_flowOn 163 = .ok (.iload 4, 2) := by decide +kernel
theorem dX0_flowOn_165 : decode cX0_flowOn 165 = .ok (.dup2, 1) := by decide +kernel
theorem dX0_flowOn_166 : decode cX0_flowOn 166 = .ok (.iaload, 1) := by decide +kernel
theorem dX0_flowOn_167 : decode cX0_flowOn 167 = .ok (.iload_n 1, 1) := by decide +kernel
theorem dX0_flowOn_168 : decode cX0_flowOn 168 = .ok (.iload 8, 2) := by decide +kernel
theorem dX0_flowOn_170 : decode cX0_flowOn 170 = .ok (.isub, 1) := by decide +kernel
theorem dX0_flowOn_171 : decode cX0_flowOn 171 = .ok (.iadd, 1) := by decide +kernel
theorem dX0_flowOn_172 : decode cX0_flowOn 172 = .ok (.iastore, 1) := by decide +kernel
theorem dX0_flowOn_173 : decode cX0_flowOn 173 = .ok (.aload_n 0, 1) := by decide +kernel
theorem dX0_flowOn_174 : decode cX0_flowOn 174 = .ok (.getfield 31, 3) := by decide +kernel
theorem dX0_flowOn_177 : decode cX0_flowOn 177 = .ok (.iload 4, 2) := by decide +kernel
theorem dX0_flowOn_179 : decode cX0_flowOn 179 = .ok (.dup2, 1) := by decide +kernel
theorem dX0_flowOn_180 : decode cX0_flowOn 180 = .ok (.iaload, 1) := by decide +kernel
theorem dX0_flowOn_181 : decode cX0_flowOn 181 = .ok (.iload_n 2, 1) := by decide +kernel
theorem dX0_flowOn_182 : decode cX0_flowOn 182 = .ok (.iload 7, 2) := by decide +kernel
theorem dX0_flowOn_184 : decode cX0_flowOn 184 = .ok (.isub, 1) := by decide +kernel
theorem dX0_flowOn_185 : decode cX0_flowOn 185 = .ok (.iadd, 1) := by decide +kernel
theorem dX0_flowOn_186 : decode cX0_flowOn 186 = .ok (.iastore, 1) := by decide +kernel
theorem dX0_flowOn_187 : decode cX0_flowOn 187 = .ok (.iload 8, 2) := by decide +kernel
theorem dX0_flowOn_189 : decode cX0_flowOn 189 = .ok (.istore_n 1, 1) := by decide +kernel
theorem dX0_flowOn_190 : decode cX0_flowOn 190 = .ok (.iload 7, 2) := by decide +kernel
theorem dX0_flowOn_192 : decode cX0_flowOn 192 = .ok (.istore_n 2, 1) := by decide +kernel
theorem dX0_flowOn_193 : decode cX0_flowOn 193 = .ok (.iinc 4 1, 3) := by decide +kernel
theorem dX0_flowOn_196 : decode cX0_flowOn 196 = .ok (.goto (-103), 3) := by decide +kernel
theorem dX0_flowOn_199 : decode cX0_flowOn 199 = .ok (.aload_n 0, 1) := by decide +kernel
theorem dX0_flowOn_200 : decode cX0_flowOn 200 = .ok (.getfield 22, 3) := by decide +kernel
theorem dX0_flowOn_203 : decode cX0_flowOn 203 = .ok (.bipush 7, 2) := by decide +kernel
theorem dX0_flowOn_205 : decode cX0_flowOn 205 = .ok (.dup2, 1) := by decide +kernel
theorem dX0_flowOn_206 : decode cX0_flowOn 206 = .ok (.iaload, 1) := by decide +kernel
theorem dX0_flowOn_207 : decode cX0_flowOn 207 = .ok (.iload_n 1, 1) := by decide +kernel
theorem dX0_flowOn_208 : decode cX0_flowOn 208 = .ok (.iadd, 1) := by decide +kernel
theorem dX0_flowOn_209 : decode cX0_flowOn 209 = .ok (.iastore, 1) := by decide +kernel
theorem dX0_flowOn_210 : decode cX0_flowOn 210 = .ok (.aload_n 0, 1) := by decide +kernel
theorem dX0_flowOn_211 : decode cX0_flowOn 211 = .ok (.getfield 22, 3) := by decide +kernel
theorem dX0_flowOn_214 : decode cX0_flowOn 214 = .ok (.bipush 8, 2) := by decide +kernel
theorem dX0_flowOn_216 : decode cX0_flowOn 216 = .ok (.dup2, 1) := by decide +kernel
theorem dX0_flowOn_217 : decode cX0_flowOn 217 = .ok (.iaload, 1) := by decide +kernel
theorem dX0_flowOn_218 : decode cX0_flowOn 218 = .ok (.iload_n 2, 1) := by decide +kernel
theorem dX0_flowOn_219 : decode cX0_flowOn 219 = .ok (.iadd, 1) := by decide +kernel
theorem dX0_flowOn_220 : decode cX0_flowOn 220 = .ok (.iastore, 1) := by decide +kernel
theorem dX0_flowOn_221 : decode cX0_flowOn 221 = .ok (.return_, 1) := by decide +kernel
set_option maxRecDepth 20000 in
theorem ggX0_flowFrom_X0_amount : GoodIn wsX0_flowFrom wsX0_amount := (by refine gI_c (gw 10 rfl rfl) ?_; refine gI_c (gw 11 rfl rfl) ?_; refine gI_c (gw 12 rfl rfl) ?_; refine gI_c (gw 19 rfl rfl) ?_; refine gI_c (gw 20 rfl rfl) ?_; refine gI_c (gw 21 rfl rfl) ?_; refine gI_c (gw 22 rfl rfl) ?_; refine gI_c (gw 23 rfl rfl) ?_; refine gI_c (gw 24 rfl rfl) ?_; refine gI_c (gw 25 rfl rfl) ?_; refine gI_c (gw 26 rfl rfl) ?_; refine gI_c (gw 27 rfl rfl) ?_; refine gI_c (gw 28 rfl rfl) ?_; refine gI_c (gw 29 rfl rfl) ?_; refine gI_c (gw 30 rfl rfl) ?_; exact gI_n)
set_option maxRecDepth 20000 in
theorem gX0_flowFrom_X0_amount : GoodIn wsX0_flowFrom (wsV RX0 96 RX0 yX0_amount wsX0_amount) := goodIn_app (goodIn_of _ (by decide +kernel)) ggX0_flowFrom_X0_amount
set_option maxRecDepth 20000 in
theorem ggX0_flowFrom_X0_effectBehind : GoodIn wsX0_flowFrom wsX0_effectBehind := (by refine gI_c (gw 16 rfl rfl) ?_; refine gI_c (gw 17 rfl rfl) ?_; refine gI_c (gw 18 rfl rfl) ?_; refine gI_c (gw 19 rfl rfl) ?_; refine gI_c (gw 20 rfl rfl) ?_; refine gI_c (gw 21 rfl rfl) ?_; refine gI_c (gw 22 rfl rfl) ?_; refine gI_c (gw 23 rfl rfl) ?_; refine gI_c (gw 24 rfl rfl) ?_; refine gI_c (gw 25 rfl rfl) ?_; refine gI_c (gw 26 rfl rfl) ?_; refine gI_c (gw 27 rfl rfl) ?_; refine gI_c (gw 28 rfl rfl) ?_; refine gI_c (gw 29 rfl rfl) ?_; refine gI_c (gw 30 rfl rfl) ?_; exact gI_n)
set_option maxRecDepth 20000 in
theorem gX0_flowFrom_X0_effectBehind : GoodIn wsX0_flowFrom (wsV RX0 93 RX0 yX0_effectBehind wsX0_effectBehind) := goodIn_app (goodIn_of _ (by decide +kernel)) ggX0_flowFrom_X0_effectBehind
theorem dX0_flowFrom_0 : decode cX0_flowFrom 0 = .ok (.aload_n 0, 1) := by decide +kernel
theorem dX0_flowFrom_1 : decode cX0_flowFrom 1 = .ok (.getfield 34, 3) := by decide +kernel
theorem dX0_flowFrom_4 : decode cX0_flowFrom 4 = .ok (.iload_n 1, 1) := by decide +kernel
theorem dX0_flowFrom_5 : decode cX0_flowFrom 5 = .ok (.iaload, 1) := by decide +kernel
theorem dX0_flowFrom_6 : decode cX0_flowFrom 6 = .ok (.aload_n 0, 1) := by decide +kernel
theorem dX0_flowFrom_7 : decode cX0_flowFrom 7 = .ok (.iload_n 1, 1) := by decide +kernel
theorem dX0_flowFrom_8 : decode cX0_flowFrom 8 = .ok (.invokevirtual 96, 3) := by decide +kernel
theorem dX0_flowFrom_11 : decode cX0_flowFrom 11 = .ok (.invokestatic 88, 3) := by decide +kernel
theorem dX0_flowFrom_14 : decode cX0_flowFrom 14 = .ok (.istore_n 2, 1) := by decide +kernel
theorem dX0_flowFrom_15 : decode cX0_flowFrom 15 = .ok (.aload_n 0, 1) := by decide +kernel
theorem dX0_flowFrom_16 : decode cX0_flowFrom 16 = .ok (.iload_n 1, 1) := by decide +kernel
theorem dX0_flowFrom_17 : decode cX0_flowFrom 17 = .ok (.invokevirtual 93, 3) := by decide +kernel
theorem dX0_flowFrom_20 : decode cX0_flowFrom 20 = .ok (.istore_n 3, 1) := by decide +kernel
theorem dX0_flowFrom_21 : decode cX0_flowFrom 21 = .ok (.iload_n 3, 1) := by decide +kernel
theorem dX0_flowFrom_22 : decode cX0_flowFrom 22 = .ok (.bipush (-9), 2) := by decide +kernel
theorem dX0_flowFrom_24 : decode cX0_flowFrom 24 = .ok (.if_icmp .ne 7, 3) := by decide +kernel
theorem dX0_flowFrom_27 : decode cX0_flowFrom 27 = .ok (.iload_n 2, 1) := by decide +kernel
theorem dX0_flowFrom_28 : decode cX0_flowFrom 28 = .ok (.goto 16, 3) := by decide +kernel
theorem dX0_flowFrom_31 : decode cX0_flowFrom 31 = .ok (.iload_n 2, 1) := by decide +kernel
theorem dX0_flowFrom_32 : decode cX0_flowFrom 32 = .ok (.sipush 5000, 3) := by decide +kernel
theorem dX0_flowFrom_35 : decode cX0_flowFrom 35 = .ok (.aload_n 0, 1) := by decide +kernel
theorem dX0_flowFrom_36 : decode cX0_flowFrom 36 = .ok (.iload_n 3, 1) := by decide +kernel
theorem dX0_flowFrom_37 : decode cX0_flowFrom 37 = .ok (.invokevirtual 96, 3) := by decide +kernel
theorem dX0_flowFrom_40 : decode cX0_flowFrom 40 = .ok (.isub, 1) := by decide +kernel
theorem dX0_flowFrom_41 : decode cX0_flowFrom 41 = .ok (.invokestatic 88, 3) := by decide +kernel
theorem dX0_flowFrom_44 : decode cX0_flowFrom 44 = .ok (.ireturn, 1) := by decide +kernel
theorem dX0_washOn_0 : decode cX0_washOn 0 = .ok (.iconst 0, 1) := by decide +kernel
theorem dX0_washOn_1 : decode cX0_washOn 1 = .ok (.istore_n 1, 1) := by decide +kernel
theorem dX0_washOn_2 : decode cX0_washOn 2 = .ok (.iload_n 1, 1) := by decide +kernel
theorem dX0_washOn_3 : decode cX0_washOn 3 = .ok (.aload_n 0, 1) := by decide +kernel
theorem dX0_washOn_4 : decode cX0_washOn 4 = .ok (.getfield 9, 3) := by decide +kernel
theorem dX0_washOn_7 : decode cX0_washOn 7 = .ok (.if_icmp .ge 46, 3) := by decide +kernel
theorem dX0_washOn_10 : decode cX0_washOn 10 = .ok (.aload_n 0, 1) := by decide +kernel
theorem dX0_washOn_11 : decode cX0_washOn 11 = .ok (.getfield 46, 3) := by decide +kernel
theorem dX0_washOn_14 : decode cX0_washOn 14 = .ok (.iload_n 1, 1) := by decide +kernel
theorem dX0_washOn_15 : decode cX0_washOn 15 = .ok (.iaload, 1) := by decide +kernel
theorem dX0_washOn_16 : decode cX0_washOn 16 = .ok (.ifCond .le 31, 3) := by decide +kernel
theorem dX0_washOn_19 : decode cX0_washOn 19 = .ok (.aload_n 0, 1) := by decide +kernel
theorem dX0_washOn_20 : decode cX0_washOn 20 = .ok (.getfield 40, 3) := by decide +kernel
theorem dX0_washOn_23 : decode cX0_washOn 23 = .ok (.iload_n 1, 1) := by decide +kernel
theorem dX0_washOn_24 : decode cX0_washOn 24 = .ok (.iconst 0, 1) := by decide +kernel
theorem dX0_washOn_25 : decode cX0_washOn 25 = .ok (.aload_n 0, 1) := by decide +kernel
theorem dX0_washOn_26 : decode cX0_washOn 26 = .ok (.getfield 40, 3) := by decide +kernel
theorem dX0_washOn_29 : decode cX0_washOn 29 = .ok (.iload_n 1, 1) := by decide +kernel
theorem dX0_washOn_30 : decode cX0_washOn 30 = .ok (.iaload, 1) := by decide +kernel
theorem dX0_washOn_31 : decode cX0_washOn 31 = .ok (.iconst 5, 1) := by decide +kernel
theorem dX0_washOn_32 : decode cX0_washOn 32 = .ok (.isub, 1) := by decide +kernel
theorem dX0_washOn_33 : decode cX0_washOn 33 = .ok (.invokestatic 102, 3) := by decide +kernel
theorem dX0_washOn_36 : decode cX0_washOn 36 = .ok (.iastore, 1) := by decide +kernel
theorem dX0_washOn_37 : decode cX0_washOn 37 = .ok (.aload_n 0, 1) := by decide +kernel
theorem dX0_washOn_38 : decode cX0_washOn 38 = .ok (.getfield 46, 3) := by decide +kernel
theorem dX0_washOn_41 : decode cX0_washOn 41 = .ok (.iload_n 1, 1) := by decide +kernel
theorem dX0_washOn_42 : decode cX0_washOn 42 = .ok (.dup2, 1) := by decide +kernel
theorem dX0_washOn_43 : decode cX0_washOn 43 = .ok (.iaload, 1) := by decide +kernel
theorem dX0_washOn_44 : decode cX0_washOn 44 = .ok (.iconst 1, 1) := by decide +kernel
theorem dX0_washOn_45 : decode cX0_washOn 45 = .ok (.isub, 1) := by decide +kernel
theorem dX0_washOn_46 : decode cX0_washOn 46 = .ok (.iastore, 1) := by decide +kernel
theorem dX0_washOn_47 : decode cX0_washOn 47 = .ok (.iinc 1 1, 3) := by decide +kernel
theorem dX0_washOn_50 : decode cX0_washOn 50 = .ok (.goto (-48), 3) := by decide +kernel
theorem dX0_washOn_53 : decode cX0_washOn 53 = .ok (.return_, 1) := by decide +kernel
theorem dJ9_max_7cf53_0 : decode cJ9_max_7cf53 0 = .ok (.iload_n 0, 1) := by decide +kernel
theorem dJ9_max_7cf53_1 : decode cJ9_max_7cf53 1 = .ok (.iload_n 1, 1) := by decide +kernel
theorem dJ9_max_7cf53_2 : decode cJ9_max_7cf53 2 = .ok (.if_icmp .lt 7, 3) := by decide +kernel
theorem dJ9_max_7cf53_5 : decode cJ9_max_7cf53 5 = .ok (.iload_n 0, 1) := by decide +kernel
theorem dJ9_max_7cf53_6 : decode cJ9_max_7cf53 6 = .ok (.goto 4, 3) := by decide +kernel
theorem dJ9_max_7cf53_9 : decode cJ9_max_7cf53 9 = .ok (.iload_n 1, 1) := by decide +kernel
theorem dJ9_max_7cf53_10 : decode cJ9_max_7cf53 10 = .ok (.ireturn, 1) := by decide +kernel
theorem dJ9_min_7cf53_0 : decode cJ9_min_7cf53 0 = .ok (.iload_n 0, 1) := by decide +kernel
theorem dJ9_min_7cf53_1 : decode cJ9_min_7cf53 1 = .ok (.iload_n 1, 1) := by decide +kernel
theorem dJ9_min_7cf53_2 : decode cJ9_min_7cf53 2 = .ok (.if_icmp .gt 7, 3) := by decide +kernel
theorem dJ9_min_7cf53_5 : decode cJ9_min_7cf53 5 = .ok (.iload_n 0, 1) := by decide +kernel
theorem dJ9_min_7cf53_6 : decode cJ9_min_7cf53 6 = .ok (.goto 4, 3) := by decide +kernel
theorem dJ9_min_7cf53_9 : decode cJ9_min_7cf53 9 = .ok (.iload_n 1, 1) := by decide +kernel
theorem dJ9_min_7cf53_10 : decode cJ9_min_7cf53 10 = .ok (.ireturn, 1) := by decide +kernel
theorem dJ7_fill_53178_0 : decode cJ7_fill_53178 0 = .ok (.iconst 0, 1) := by decide +kernel
theorem dJ7_fill_53178_1 : decode cJ7_fill_53178 1 = .ok (.istore_n 2, 1) := by decide +kernel
theorem dJ7_fill_53178_2 : decode cJ7_fill_53178 2 = .ok (.aload_n 0, 1) := by decide +kernel
theorem dJ7_fill_53178_3 : decode cJ7_fill_53178 3 = .ok (.arraylength, 1) := by decide +kernel
theorem dJ7_fill_53178_4 : decode cJ7_fill_53178 4 = .ok (.istore_n 3, 1) := by decide +kernel
theorem dJ7_fill_53178_5 : decode cJ7_fill_53178 5 = .ok (.iload_n 2, 1) := by decide +kernel
theorem dJ7_fill_53178_6 : decode cJ7_fill_53178 6 = .ok (.iload_n 3, 1) := by decide +kernel
theorem dJ7_fill_53178_7 : decode cJ7_fill_53178 7 = .ok (.if_icmp .ge 13, 3) := by decide +kernel
theorem dJ7_fill_53178_10 : decode cJ7_fill_53178 10 = .ok (.aload_n 0, 1) := by decide +kernel
theorem dJ7_fill_53178_11 : decode cJ7_fill_53178 11 = .ok (.iload_n 2, 1) := by decide +kernel
theorem dJ7_fill_53178_12 : decode cJ7_fill_53178 12 = .ok (.iload_n 1, 1) := by decide +kernel
theorem dJ7_fill_53178_13 : decode cJ7_fill_53178 13 = .ok (.iastore, 1) := by decide +kernel
theorem dJ7_fill_53178_14 : decode cJ7_fill_53178 14 = .ok (.iinc 2 1, 3) := by decide +kernel
theorem dJ7_fill_53178_17 : decode cJ7_fill_53178 17 = .ok (.goto (-12), 3) := by decide +kernel
theorem dJ7_fill_53178_20 : decode cJ7_fill_53178 20 = .ok (.return_, 1) := by decide +kernel
end
section
set_option maxRecDepth 20000 in
theorem mem_ix {big ws : List Cond} (ps : List Nat) (hp : ws = ps.filterMap (fun i => big[i]?)) : ∀ w ∈ ws, w ∈ big := by
  intro w hw
  rw [hp] at hw
  obtain ⟨i, -, hi⟩ := List.mem_filterMap.mp hw
  exact List.mem_of_getElem? hi
theorem inX0 : ∀ w ∈ wsX00, w ∈ lw_tbl := by decide +kernel
theorem inX1 : ∀ w ∈ wsX10, w ∈ lw_tbl := by decide +kernel
theorem inX2 : ∀ w ∈ wsX20, w ∈ lw_tbl := by decide +kernel
set_option maxRecDepth 20000 in
theorem wsL_law0_r1_in : ∀ w ∈ wsL_law0_r1, w ∈ lw_tbl := (by refine mI_c (mI_i 59 rfl) ?_; refine mI_c (mI_i 60 rfl) ?_; refine mI_c (mI_i 47 rfl) ?_; refine mI_c (mI_i 601 rfl) ?_; refine mI_c (mI_i 602 rfl) ?_; refine mI_c (mI_i 50 rfl) ?_; refine mI_c (mI_i 873 rfl) ?_; refine mI_c (mI_i 874 rfl) ?_; refine mI_c (mI_i 872 rfl) ?_; refine mI_c (mI_i 61 rfl) ?_; refine mI_c (mI_i 62 rfl) ?_; refine mI_c (mI_i 63 rfl) ?_; refine mI_c (mI_i 64 rfl) ?_; refine mI_c (mI_i 65 rfl) ?_; refine mI_c (mI_i 66 rfl) ?_; refine mI_c (mI_i 122 rfl) ?_; refine mI_c (mI_i 125 rfl) ?_; refine mI_c (mI_i 126 rfl) ?_; refine mI_c (mI_i 123 rfl) ?_; refine mI_c (mI_i 127 rfl) ?_; refine mI_c (mI_i 67 rfl) ?_; refine mI_c (mI_i 68 rfl) ?_; refine mI_c (mI_i 48 rfl) ?_; refine mI_c (mI_i 128 rfl) ?_; exact mI_n)
set_option maxRecDepth 20000 in
theorem wsL_law0_r2_in : ∀ w ∈ wsL_law0_r2, w ∈ lw_tbl := (by refine mI_c (mI_i 129 rfl) ?_; refine mI_c (mI_i 130 rfl) ?_; refine mI_c (mI_i 131 rfl) ?_; refine mI_c (mI_i 132 rfl) ?_; refine mI_c (mI_i 133 rfl) ?_; refine mI_c (mI_i 134 rfl) ?_; refine mI_c (mI_i 159 rfl) ?_; refine mI_c (mI_i 135 rfl) ?_; refine mI_c (mI_i 70 rfl) ?_; refine mI_c (mI_i 71 rfl) ?_; refine mI_c (mI_i 72 rfl) ?_; refine mI_c (mI_i 76 rfl) ?_; refine mI_c (mI_i 78 rfl) ?_; refine mI_c (mI_i 80 rfl) ?_; refine mI_c (mI_i 82 rfl) ?_; refine mI_c (mI_i 84 rfl) ?_; refine mI_c (mI_i 85 rfl) ?_; refine mI_c (mI_i 86 rfl) ?_; refine mI_c (mI_i 88 rfl) ?_; refine mI_c (mI_i 90 rfl) ?_; refine mI_c (mI_i 92 rfl) ?_; refine mI_c (mI_i 94 rfl) ?_; refine mI_c (mI_i 95 rfl) ?_; refine mI_c (mI_i 73 rfl) ?_; exact mI_n)
set_option maxRecDepth 20000 in
theorem wsL_law0_r3_in : ∀ w ∈ wsL_law0_r3, w ∈ lw_tbl := (by refine mI_c (mI_i 74 rfl) ?_; refine mI_c (mI_i 49 rfl) ?_; refine mI_c (mI_i 75 rfl) ?_; refine mI_c (mI_i 603 rfl) ?_; refine mI_c (mI_i 604 rfl) ?_; refine mI_c (mI_i 605 rfl) ?_; refine mI_c (mI_i 606 rfl) ?_; refine mI_c (mI_i 608 rfl) ?_; refine mI_c (mI_i 612 rfl) ?_; refine mI_c (mI_i 614 rfl) ?_; refine mI_c (mI_i 615 rfl) ?_; refine mI_c (mI_i 616 rfl) ?_; refine mI_c (mI_i 618 rfl) ?_; refine mI_c (mI_i 619 rfl) ?_; refine mI_c (mI_i 620 rfl) ?_; refine mI_c (mI_i 621 rfl) ?_; refine mI_c (mI_i 613 rfl) ?_; refine mI_c (mI_i 190 rfl) ?_; refine mI_c (mI_i 191 rfl) ?_; refine mI_c (mI_i 46 rfl) ?_; refine mI_c (mI_i 192 rfl) ?_; refine mI_c (mI_i 193 rfl) ?_; refine mI_c (mI_i 194 rfl) ?_; refine mI_c (mI_i 195 rfl) ?_; exact mI_n)
set_option maxRecDepth 20000 in
theorem wsL_law0_r4_in : ∀ w ∈ wsL_law0_r4, w ∈ lw_tbl := (by refine mI_c (mI_i 196 rfl) ?_; refine mI_c (mI_i 197 rfl) ?_; refine mI_c (mI_i 198 rfl) ?_; refine mI_c (mI_i 270 rfl) ?_; refine mI_c (mI_i 55 rfl) ?_; refine mI_c (mI_i 199 rfl) ?_; refine mI_c (mI_i 200 rfl) ?_; refine mI_c (mI_i 201 rfl) ?_; refine mI_c (mI_i 202 rfl) ?_; refine mI_c (mI_i 54 rfl) ?_; refine mI_c (mI_i 657 rfl) ?_; refine mI_c (mI_i 658 rfl) ?_; refine mI_c (mI_i 659 rfl) ?_; refine mI_c (mI_i 660 rfl) ?_; refine mI_c (mI_i 661 rfl) ?_; refine mI_c (mI_i 609 rfl) ?_; refine mI_c (mI_i 662 rfl) ?_; refine mI_c (mI_i 663 rfl) ?_; refine mI_c (mI_i 664 rfl) ?_; refine mI_c (mI_i 665 rfl) ?_; refine mI_c (mI_i 667 rfl) ?_; refine mI_c (mI_i 30 rfl) ?_; refine mI_c (mI_i 668 rfl) ?_; refine mI_c (mI_i 607 rfl) ?_; exact mI_n)
set_option maxRecDepth 20000 in
theorem wsL_law0_r5_in : ∀ w ∈ wsL_law0_r5, w ∈ lw_tbl := (by refine mI_c (mI_i 653 rfl) ?_; refine mI_c (mI_i 654 rfl) ?_; refine mI_c (mI_i 655 rfl) ?_; refine mI_c (mI_i 656 rfl) ?_; refine mI_c (mI_i 160 rfl) ?_; refine mI_c (mI_i 161 rfl) ?_; refine mI_c (mI_i 162 rfl) ?_; refine mI_c (mI_i 163 rfl) ?_; refine mI_c (mI_i 669 rfl) ?_; refine mI_c (mI_i 670 rfl) ?_; refine mI_c (mI_i 671 rfl) ?_; refine mI_c (mI_i 672 rfl) ?_; refine mI_c (mI_i 164 rfl) ?_; refine mI_c (mI_i 165 rfl) ?_; refine mI_c (mI_i 166 rfl) ?_; refine mI_c (mI_i 167 rfl) ?_; refine mI_c (mI_i 168 rfl) ?_; refine mI_c (mI_i 170 rfl) ?_; refine mI_c (mI_i 0 rfl) ?_; refine mI_c (mI_i 171 rfl) ?_; refine mI_c (mI_i 176 rfl) ?_; refine mI_c (mI_i 172 rfl) ?_; refine mI_c (mI_i 174 rfl) ?_; refine mI_c (mI_i 1 rfl) ?_; exact mI_n)
set_option maxRecDepth 20000 in
theorem wsL_law0_r6_in : ∀ w ∈ wsL_law0_r6, w ∈ lw_tbl := (by refine mI_c (mI_i 175 rfl) ?_; refine mI_c (mI_i 178 rfl) ?_; refine mI_c (mI_i 180 rfl) ?_; refine mI_c (mI_i 182 rfl) ?_; refine mI_c (mI_i 184 rfl) ?_; refine mI_c (mI_i 2 rfl) ?_; refine mI_c (mI_i 185 rfl) ?_; refine mI_c (mI_i 673 rfl) ?_; refine mI_c (mI_i 674 rfl) ?_; refine mI_c (mI_i 675 rfl) ?_; refine mI_c (mI_i 676 rfl) ?_; refine mI_c (mI_i 677 rfl) ?_; refine mI_c (mI_i 679 rfl) ?_; refine mI_c (mI_i 31 rfl) ?_; refine mI_c (mI_i 680 rfl) ?_; refine mI_c (mI_i 610 rfl) ?_; refine mI_c (mI_i 611 rfl) ?_; refine mI_c (mI_i 681 rfl) ?_; refine mI_c (mI_i 683 rfl) ?_; refine mI_c (mI_i 32 rfl) ?_; refine mI_c (mI_i 684 rfl) ?_; refine mI_c (mI_i 689 rfl) ?_; refine mI_c (mI_i 685 rfl) ?_; refine mI_c (mI_i 686 rfl) ?_; exact mI_n)
set_option maxRecDepth 20000 in
theorem wsL_law0_r7_in : ∀ w ∈ wsL_law0_r7, w ∈ lw_tbl := (by refine mI_c (mI_i 687 rfl) ?_; refine mI_c (mI_i 688 rfl) ?_; refine mI_c (mI_i 690 rfl) ?_; refine mI_c (mI_i 692 rfl) ?_; refine mI_c (mI_i 33 rfl) ?_; refine mI_c (mI_i 693 rfl) ?_; refine mI_c (mI_i 286 rfl) ?_; refine mI_c (mI_i 287 rfl) ?_; refine mI_c (mI_i 288 rfl) ?_; refine mI_c (mI_i 289 rfl) ?_; refine mI_c (mI_i 290 rfl) ?_; refine mI_c (mI_i 291 rfl) ?_; refine mI_c (mI_i 292 rfl) ?_; refine mI_c (mI_i 296 rfl) ?_; refine mI_c (mI_i 4 rfl) ?_; refine mI_c (mI_i 297 rfl) ?_; refine mI_c (mI_i 298 rfl) ?_; refine mI_c (mI_i 300 rfl) ?_; refine mI_c (mI_i 299 rfl) ?_; refine mI_c (mI_i 56 rfl) ?_; refine mI_c (mI_i 303 rfl) ?_; refine mI_c (mI_i 5 rfl) ?_; refine mI_c (mI_i 304 rfl) ?_; refine mI_c (mI_i 307 rfl) ?_; exact mI_n)
set_option maxRecDepth 20000 in
theorem wsL_law0_r8_in : ∀ w ∈ wsL_law0_r8, w ∈ lw_tbl := (by refine mI_c (mI_i 6 rfl) ?_; refine mI_c (mI_i 308 rfl) ?_; refine mI_c (mI_i 694 rfl) ?_; refine mI_c (mI_i 695 rfl) ?_; refine mI_c (mI_i 696 rfl) ?_; refine mI_c (mI_i 697 rfl) ?_; refine mI_c (mI_i 617 rfl) ?_; refine mI_c (mI_i 698 rfl) ?_; refine mI_c (mI_i 699 rfl) ?_; refine mI_c (mI_i 700 rfl) ?_; refine mI_c (mI_i 701 rfl) ?_; refine mI_c (mI_i 703 rfl) ?_; refine mI_c (mI_i 34 rfl) ?_; refine mI_c (mI_i 704 rfl) ?_; refine mI_c (mI_i 309 rfl) ?_; refine mI_c (mI_i 310 rfl) ?_; refine mI_c (mI_i 311 rfl) ?_; refine mI_c (mI_i 312 rfl) ?_; refine mI_c (mI_i 313 rfl) ?_; refine mI_c (mI_i 314 rfl) ?_; refine mI_c (mI_i 315 rfl) ?_; refine mI_c (mI_i 318 rfl) ?_; refine mI_c (mI_i 7 rfl) ?_; refine mI_c (mI_i 319 rfl) ?_; exact mI_n)
set_option maxRecDepth 20000 in
theorem wsL_law0_r9_in : ∀ w ∈ wsL_law0_r9, w ∈ lw_tbl := (by refine mI_c (mI_i 705 rfl) ?_; refine mI_c (mI_i 706 rfl) ?_; refine mI_c (mI_i 707 rfl) ?_; refine mI_c (mI_i 708 rfl) ?_; refine mI_c (mI_i 709 rfl) ?_; refine mI_c (mI_i 711 rfl) ?_; refine mI_c (mI_i 35 rfl) ?_; refine mI_c (mI_i 712 rfl) ?_; refine mI_c (mI_i 713 rfl) ?_; refine mI_c (mI_i 714 rfl) ?_; refine mI_c (mI_i 715 rfl) ?_; refine mI_c (mI_i 320 rfl) ?_; refine mI_c (mI_i 321 rfl) ?_; refine mI_c (mI_i 322 rfl) ?_; refine mI_c (mI_i 323 rfl) ?_; refine mI_c (mI_i 324 rfl) ?_; refine mI_c (mI_i 325 rfl) ?_; refine mI_c (mI_i 326 rfl) ?_; refine mI_c (mI_i 716 rfl) ?_; refine mI_c (mI_i 717 rfl) ?_; refine mI_c (mI_i 718 rfl) ?_; refine mI_c (mI_i 719 rfl) ?_; refine mI_c (mI_i 327 rfl) ?_; refine mI_c (mI_i 328 rfl) ?_; exact mI_n)
set_option maxRecDepth 20000 in
theorem wsL_law0_r10_in : ∀ w ∈ wsL_law0_r10, w ∈ lw_tbl := (by refine mI_c (mI_i 329 rfl) ?_; refine mI_c (mI_i 330 rfl) ?_; refine mI_c (mI_i 331 rfl) ?_; refine mI_c (mI_i 332 rfl) ?_; refine mI_c (mI_i 333 rfl) ?_; refine mI_c (mI_i 334 rfl) ?_; refine mI_c (mI_i 335 rfl) ?_; refine mI_c (mI_i 337 rfl) ?_; refine mI_c (mI_i 8 rfl) ?_; refine mI_c (mI_i 338 rfl) ?_; refine mI_c (mI_i 339 rfl) ?_; refine mI_c (mI_i 57 rfl) ?_; refine mI_c (mI_i 357 rfl) ?_; refine mI_c (mI_i 9 rfl) ?_; refine mI_c (mI_i 358 rfl) ?_; refine mI_c (mI_i 359 rfl) ?_; refine mI_c (mI_i 361 rfl) ?_; refine mI_c (mI_i 10 rfl) ?_; refine mI_c (mI_i 362 rfl) ?_; refine mI_c (mI_i 363 rfl) ?_; refine mI_c (mI_i 365 rfl) ?_; refine mI_c (mI_i 11 rfl) ?_; refine mI_c (mI_i 366 rfl) ?_; refine mI_c (mI_i 720 rfl) ?_; exact mI_n)
set_option maxRecDepth 20000 in
theorem wsL_law0_r11_in : ∀ w ∈ wsL_law0_r11, w ∈ lw_tbl := (by refine mI_c (mI_i 721 rfl) ?_; refine mI_c (mI_i 722 rfl) ?_; refine mI_c (mI_i 723 rfl) ?_; refine mI_c (mI_i 724 rfl) ?_; refine mI_c (mI_i 726 rfl) ?_; refine mI_c (mI_i 36 rfl) ?_; refine mI_c (mI_i 727 rfl) ?_; refine mI_c (mI_i 728 rfl) ?_; refine mI_c (mI_i 729 rfl) ?_; refine mI_c (mI_i 730 rfl) ?_; refine mI_c (mI_i 731 rfl) ?_; refine mI_c (mI_i 732 rfl) ?_; refine mI_c (mI_i 733 rfl) ?_; refine mI_c (mI_i 734 rfl) ?_; refine mI_c (mI_i 735 rfl) ?_; refine mI_c (mI_i 736 rfl) ?_; refine mI_c (mI_i 737 rfl) ?_; refine mI_c (mI_i 738 rfl) ?_; refine mI_c (mI_i 739 rfl) ?_; refine mI_c (mI_i 367 rfl) ?_; refine mI_c (mI_i 368 rfl) ?_; refine mI_c (mI_i 369 rfl) ?_; refine mI_c (mI_i 370 rfl) ?_; refine mI_c (mI_i 371 rfl) ?_; exact mI_n)
set_option maxRecDepth 20000 in
theorem wsL_law0_r12_in : ∀ w ∈ wsL_law0_r12, w ∈ lw_tbl := (by refine mI_c (mI_i 372 rfl) ?_; refine mI_c (mI_i 373 rfl) ?_; refine mI_c (mI_i 376 rfl) ?_; refine mI_c (mI_i 12 rfl) ?_; refine mI_c (mI_i 377 rfl) ?_; refine mI_c (mI_i 380 rfl) ?_; refine mI_c (mI_i 13 rfl) ?_; refine mI_c (mI_i 381 rfl) ?_; refine mI_c (mI_i 740 rfl) ?_; refine mI_c (mI_i 741 rfl) ?_; refine mI_c (mI_i 742 rfl) ?_; refine mI_c (mI_i 743 rfl) ?_; refine mI_c (mI_i 744 rfl) ?_; refine mI_c (mI_i 746 rfl) ?_; refine mI_c (mI_i 37 rfl) ?_; refine mI_c (mI_i 747 rfl) ?_; refine mI_c (mI_i 748 rfl) ?_; refine mI_c (mI_i 749 rfl) ?_; refine mI_c (mI_i 750 rfl) ?_; refine mI_c (mI_i 186 rfl) ?_; refine mI_c (mI_i 187 rfl) ?_; refine mI_c (mI_i 188 rfl) ?_; refine mI_c (mI_i 189 rfl) ?_; refine mI_c (mI_i 751 rfl) ?_; exact mI_n)
set_option maxRecDepth 20000 in
theorem wsL_law0_r13_in : ∀ w ∈ wsL_law0_r13, w ∈ lw_tbl := (by refine mI_c (mI_i 752 rfl) ?_; refine mI_c (mI_i 753 rfl) ?_; refine mI_c (mI_i 754 rfl) ?_; refine mI_c (mI_i 382 rfl) ?_; refine mI_c (mI_i 383 rfl) ?_; refine mI_c (mI_i 384 rfl) ?_; refine mI_c (mI_i 385 rfl) ?_; refine mI_c (mI_i 386 rfl) ?_; refine mI_c (mI_i 387 rfl) ?_; refine mI_c (mI_i 388 rfl) ?_; refine mI_c (mI_i 391 rfl) ?_; refine mI_c (mI_i 14 rfl) ?_; refine mI_c (mI_i 392 rfl) ?_; refine mI_c (mI_i 755 rfl) ?_; refine mI_c (mI_i 756 rfl) ?_; refine mI_c (mI_i 757 rfl) ?_; refine mI_c (mI_i 758 rfl) ?_; refine mI_c (mI_i 393 rfl) ?_; refine mI_c (mI_i 394 rfl) ?_; refine mI_c (mI_i 395 rfl) ?_; refine mI_c (mI_i 396 rfl) ?_; refine mI_c (mI_i 397 rfl) ?_; refine mI_c (mI_i 398 rfl) ?_; refine mI_c (mI_i 399 rfl) ?_; exact mI_n)
set_option maxRecDepth 20000 in
theorem wsL_law0_r14_in : ∀ w ∈ wsL_law0_r14, w ∈ lw_tbl := (by refine mI_c (mI_i 400 rfl) ?_; refine mI_c (mI_i 402 rfl) ?_; refine mI_c (mI_i 15 rfl) ?_; refine mI_c (mI_i 403 rfl) ?_; refine mI_c (mI_i 404 rfl) ?_; refine mI_c (mI_i 405 rfl) ?_; refine mI_c (mI_i 406 rfl) ?_; refine mI_c (mI_i 409 rfl) ?_; refine mI_c (mI_i 16 rfl) ?_; refine mI_c (mI_i 410 rfl) ?_; refine mI_c (mI_i 413 rfl) ?_; refine mI_c (mI_i 17 rfl) ?_; refine mI_c (mI_i 414 rfl) ?_; refine mI_c (mI_i 415 rfl) ?_; refine mI_c (mI_i 417 rfl) ?_; refine mI_c (mI_i 18 rfl) ?_; refine mI_c (mI_i 418 rfl) ?_; refine mI_c (mI_i 419 rfl) ?_; refine mI_c (mI_i 420 rfl) ?_; refine mI_c (mI_i 422 rfl) ?_; refine mI_c (mI_i 19 rfl) ?_; refine mI_c (mI_i 423 rfl) ?_; refine mI_c (mI_i 424 rfl) ?_; refine mI_c (mI_i 426 rfl) ?_; exact mI_n)
set_option maxRecDepth 20000 in
theorem wsL_law0_r15_in : ∀ w ∈ wsL_law0_r15, w ∈ lw_tbl := (by refine mI_c (mI_i 20 rfl) ?_; refine mI_c (mI_i 427 rfl) ?_; refine mI_c (mI_i 428 rfl) ?_; refine mI_c (mI_i 429 rfl) ?_; refine mI_c (mI_i 58 rfl) ?_; refine mI_c (mI_i 430 rfl) ?_; refine mI_c (mI_i 431 rfl) ?_; refine mI_c (mI_i 433 rfl) ?_; refine mI_c (mI_i 21 rfl) ?_; refine mI_c (mI_i 434 rfl) ?_; refine mI_c (mI_i 435 rfl) ?_; refine mI_c (mI_i 436 rfl) ?_; refine mI_c (mI_i 437 rfl) ?_; refine mI_c (mI_i 439 rfl) ?_; refine mI_c (mI_i 22 rfl) ?_; refine mI_c (mI_i 440 rfl) ?_; refine mI_c (mI_i 441 rfl) ?_; refine mI_c (mI_i 443 rfl) ?_; refine mI_c (mI_i 23 rfl) ?_; refine mI_c (mI_i 444 rfl) ?_; refine mI_c (mI_i 445 rfl) ?_; refine mI_c (mI_i 446 rfl) ?_; refine mI_c (mI_i 447 rfl) ?_; refine mI_c (mI_i 759 rfl) ?_; exact mI_n)
set_option maxRecDepth 20000 in
theorem wsL_law0_r16_in : ∀ w ∈ wsL_law0_r16, w ∈ lw_tbl := (by refine mI_c (mI_i 760 rfl) ?_; refine mI_c (mI_i 761 rfl) ?_; refine mI_c (mI_i 762 rfl) ?_; refine mI_c (mI_i 763 rfl) ?_; refine mI_c (mI_i 764 rfl) ?_; refine mI_c (mI_i 766 rfl) ?_; refine mI_c (mI_i 38 rfl) ?_; refine mI_c (mI_i 767 rfl) ?_; refine mI_c (mI_i 768 rfl) ?_; refine mI_c (mI_i 770 rfl) ?_; refine mI_c (mI_i 39 rfl) ?_; refine mI_c (mI_i 771 rfl) ?_; refine mI_c (mI_i 772 rfl) ?_; refine mI_c (mI_i 774 rfl) ?_; refine mI_c (mI_i 40 rfl) ?_; refine mI_c (mI_i 775 rfl) ?_; refine mI_c (mI_i 776 rfl) ?_; refine mI_c (mI_i 778 rfl) ?_; refine mI_c (mI_i 41 rfl) ?_; refine mI_c (mI_i 779 rfl) ?_; refine mI_c (mI_i 780 rfl) ?_; refine mI_c (mI_i 781 rfl) ?_; refine mI_c (mI_i 782 rfl) ?_; refine mI_c (mI_i 783 rfl) ?_; exact mI_n)
set_option maxRecDepth 20000 in
theorem wsL_law0_r17_in : ∀ w ∈ wsL_law0_r17, w ∈ lw_tbl := (by refine mI_c (mI_i 785 rfl) ?_; refine mI_c (mI_i 42 rfl) ?_; refine mI_c (mI_i 786 rfl) ?_; refine mI_c (mI_i 448 rfl) ?_; refine mI_c (mI_i 449 rfl) ?_; refine mI_c (mI_i 450 rfl) ?_; refine mI_c (mI_i 451 rfl) ?_; refine mI_c (mI_i 452 rfl) ?_; refine mI_c (mI_i 453 rfl) ?_; refine mI_c (mI_i 454 rfl) ?_; refine mI_c (mI_i 787 rfl) ?_; refine mI_c (mI_i 788 rfl) ?_; refine mI_c (mI_i 789 rfl) ?_; refine mI_c (mI_i 790 rfl) ?_; refine mI_c (mI_i 791 rfl) ?_; refine mI_c (mI_i 792 rfl) ?_; refine mI_c (mI_i 793 rfl) ?_; refine mI_c (mI_i 455 rfl) ?_; refine mI_c (mI_i 456 rfl) ?_; refine mI_c (mI_i 457 rfl) ?_; refine mI_c (mI_i 458 rfl) ?_; refine mI_c (mI_i 459 rfl) ?_; refine mI_c (mI_i 460 rfl) ?_; refine mI_c (mI_i 461 rfl) ?_; exact mI_n)
set_option maxRecDepth 20000 in
theorem wsL_law0_r18_in : ∀ w ∈ wsL_law0_r18, w ∈ lw_tbl := (by refine mI_c (mI_i 794 rfl) ?_; refine mI_c (mI_i 795 rfl) ?_; refine mI_c (mI_i 796 rfl) ?_; refine mI_c (mI_i 797 rfl) ?_; refine mI_c (mI_i 798 rfl) ?_; refine mI_c (mI_i 800 rfl) ?_; refine mI_c (mI_i 43 rfl) ?_; refine mI_c (mI_i 801 rfl) ?_; refine mI_c (mI_i 462 rfl) ?_; refine mI_c (mI_i 463 rfl) ?_; refine mI_c (mI_i 464 rfl) ?_; refine mI_c (mI_i 465 rfl) ?_; refine mI_c (mI_i 466 rfl) ?_; refine mI_c (mI_i 467 rfl) ?_; refine mI_c (mI_i 468 rfl) ?_; refine mI_c (mI_i 802 rfl) ?_; refine mI_c (mI_i 803 rfl) ?_; refine mI_c (mI_i 804 rfl) ?_; refine mI_c (mI_i 805 rfl) ?_; refine mI_c (mI_i 806 rfl) ?_; refine mI_c (mI_i 469 rfl) ?_; refine mI_c (mI_i 470 rfl) ?_; refine mI_c (mI_i 471 rfl) ?_; refine mI_c (mI_i 472 rfl) ?_; exact mI_n)
set_option maxRecDepth 20000 in
theorem wsL_law0_r19_in : ∀ w ∈ wsL_law0_r19, w ∈ lw_tbl := (by refine mI_c (mI_i 473 rfl) ?_; refine mI_c (mI_i 474 rfl) ?_; refine mI_c (mI_i 475 rfl) ?_; refine mI_c (mI_i 476 rfl) ?_; refine mI_c (mI_i 478 rfl) ?_; refine mI_c (mI_i 24 rfl) ?_; refine mI_c (mI_i 479 rfl) ?_; refine mI_c (mI_i 807 rfl) ?_; refine mI_c (mI_i 808 rfl) ?_; refine mI_c (mI_i 809 rfl) ?_; refine mI_c (mI_i 810 rfl) ?_; refine mI_c (mI_i 481 rfl) ?_; refine mI_c (mI_i 482 rfl) ?_; refine mI_c (mI_i 483 rfl) ?_; refine mI_c (mI_i 484 rfl) ?_; refine mI_c (mI_i 485 rfl) ?_; refine mI_c (mI_i 486 rfl) ?_; refine mI_c (mI_i 487 rfl) ?_; refine mI_c (mI_i 811 rfl) ?_; refine mI_c (mI_i 812 rfl) ?_; refine mI_c (mI_i 813 rfl) ?_; refine mI_c (mI_i 814 rfl) ?_; refine mI_c (mI_i 489 rfl) ?_; refine mI_c (mI_i 490 rfl) ?_; exact mI_n)
set_option maxRecDepth 20000 in
theorem wsL_law0_r20_in : ∀ w ∈ wsL_law0_r20, w ∈ lw_tbl := (by refine mI_c (mI_i 491 rfl) ?_; refine mI_c (mI_i 492 rfl) ?_; refine mI_c (mI_i 493 rfl) ?_; refine mI_c (mI_i 494 rfl) ?_; refine mI_c (mI_i 495 rfl) ?_; refine mI_c (mI_i 815 rfl) ?_; refine mI_c (mI_i 816 rfl) ?_; refine mI_c (mI_i 817 rfl) ?_; refine mI_c (mI_i 818 rfl) ?_; refine mI_c (mI_i 497 rfl) ?_; refine mI_c (mI_i 498 rfl) ?_; refine mI_c (mI_i 499 rfl) ?_; refine mI_c (mI_i 500 rfl) ?_; refine mI_c (mI_i 501 rfl) ?_; refine mI_c (mI_i 502 rfl) ?_; refine mI_c (mI_i 503 rfl) ?_; refine mI_c (mI_i 819 rfl) ?_; refine mI_c (mI_i 820 rfl) ?_; refine mI_c (mI_i 821 rfl) ?_; refine mI_c (mI_i 822 rfl) ?_; refine mI_c (mI_i 504 rfl) ?_; refine mI_c (mI_i 505 rfl) ?_; refine mI_c (mI_i 506 rfl) ?_; refine mI_c (mI_i 507 rfl) ?_; exact mI_n)
set_option maxRecDepth 20000 in
theorem wsL_law0_r21_in : ∀ w ∈ wsL_law0_r21, w ∈ lw_tbl := (by refine mI_c (mI_i 508 rfl) ?_; refine mI_c (mI_i 509 rfl) ?_; refine mI_c (mI_i 510 rfl) ?_; refine mI_c (mI_i 823 rfl) ?_; refine mI_c (mI_i 824 rfl) ?_; refine mI_c (mI_i 825 rfl) ?_; refine mI_c (mI_i 826 rfl) ?_; refine mI_c (mI_i 511 rfl) ?_; refine mI_c (mI_i 512 rfl) ?_; refine mI_c (mI_i 513 rfl) ?_; refine mI_c (mI_i 514 rfl) ?_; refine mI_c (mI_i 515 rfl) ?_; refine mI_c (mI_i 516 rfl) ?_; refine mI_c (mI_i 517 rfl) ?_; refine mI_c (mI_i 827 rfl) ?_; refine mI_c (mI_i 828 rfl) ?_; refine mI_c (mI_i 829 rfl) ?_; refine mI_c (mI_i 830 rfl) ?_; refine mI_c (mI_i 518 rfl) ?_; refine mI_c (mI_i 519 rfl) ?_; refine mI_c (mI_i 520 rfl) ?_; refine mI_c (mI_i 521 rfl) ?_; refine mI_c (mI_i 522 rfl) ?_; refine mI_c (mI_i 523 rfl) ?_; exact mI_n)
set_option maxRecDepth 20000 in
theorem wsL_law0_r22_in : ∀ w ∈ wsL_law0_r22, w ∈ lw_tbl := (by refine mI_c (mI_i 524 rfl) ?_; refine mI_c (mI_i 525 rfl) ?_; refine mI_c (mI_i 527 rfl) ?_; refine mI_c (mI_i 25 rfl) ?_; refine mI_c (mI_i 528 rfl) ?_; refine mI_c (mI_i 529 rfl) ?_; refine mI_c (mI_i 531 rfl) ?_; refine mI_c (mI_i 26 rfl) ?_; refine mI_c (mI_i 532 rfl) ?_; refine mI_c (mI_i 533 rfl) ?_; refine mI_c (mI_i 831 rfl) ?_; refine mI_c (mI_i 832 rfl) ?_; refine mI_c (mI_i 833 rfl) ?_; refine mI_c (mI_i 834 rfl) ?_; refine mI_c (mI_i 835 rfl) ?_; refine mI_c (mI_i 836 rfl) ?_; refine mI_c (mI_i 838 rfl) ?_; refine mI_c (mI_i 44 rfl) ?_; refine mI_c (mI_i 839 rfl) ?_; refine mI_c (mI_i 534 rfl) ?_; refine mI_c (mI_i 535 rfl) ?_; refine mI_c (mI_i 536 rfl) ?_; refine mI_c (mI_i 537 rfl) ?_; refine mI_c (mI_i 538 rfl) ?_; exact mI_n)
set_option maxRecDepth 20000 in
theorem wsL_law0_r23_in : ∀ w ∈ wsL_law0_r23, w ∈ lw_tbl := (by refine mI_c (mI_i 539 rfl) ?_; refine mI_c (mI_i 540 rfl) ?_; refine mI_c (mI_i 840 rfl) ?_; refine mI_c (mI_i 841 rfl) ?_; refine mI_c (mI_i 842 rfl) ?_; refine mI_c (mI_i 843 rfl) ?_; refine mI_c (mI_i 541 rfl) ?_; refine mI_c (mI_i 542 rfl) ?_; refine mI_c (mI_i 543 rfl) ?_; refine mI_c (mI_i 544 rfl) ?_; refine mI_c (mI_i 545 rfl) ?_; refine mI_c (mI_i 546 rfl) ?_; refine mI_c (mI_i 547 rfl) ?_; refine mI_c (mI_i 844 rfl) ?_; refine mI_c (mI_i 845 rfl) ?_; refine mI_c (mI_i 846 rfl) ?_; refine mI_c (mI_i 847 rfl) ?_; refine mI_c (mI_i 848 rfl) ?_; refine mI_c (mI_i 548 rfl) ?_; refine mI_c (mI_i 549 rfl) ?_; refine mI_c (mI_i 550 rfl) ?_; refine mI_c (mI_i 551 rfl) ?_; refine mI_c (mI_i 552 rfl) ?_; refine mI_c (mI_i 553 rfl) ?_; exact mI_n)
set_option maxRecDepth 20000 in
theorem wsL_law0_r24_in : ∀ w ∈ wsL_law0_r24, w ∈ lw_tbl := (by refine mI_c (mI_i 554 rfl) ?_; refine mI_c (mI_i 558 rfl) ?_; refine mI_c (mI_i 555 rfl) ?_; refine mI_c (mI_i 556 rfl) ?_; refine mI_c (mI_i 557 rfl) ?_; refine mI_c (mI_i 560 rfl) ?_; refine mI_c (mI_i 562 rfl) ?_; refine mI_c (mI_i 27 rfl) ?_; refine mI_c (mI_i 563 rfl) ?_; refine mI_c (mI_i 564 rfl) ?_; refine mI_c (mI_i 566 rfl) ?_; refine mI_c (mI_i 28 rfl) ?_; refine mI_c (mI_i 567 rfl) ?_; refine mI_c (mI_i 849 rfl) ?_; refine mI_c (mI_i 850 rfl) ?_; refine mI_c (mI_i 851 rfl) ?_; refine mI_c (mI_i 852 rfl) ?_; refine mI_c (mI_i 853 rfl) ?_; refine mI_c (mI_i 854 rfl) ?_; refine mI_c (mI_i 856 rfl) ?_; refine mI_c (mI_i 45 rfl) ?_; refine mI_c (mI_i 857 rfl) ?_; refine mI_c (mI_i 569 rfl) ?_; refine mI_c (mI_i 570 rfl) ?_; exact mI_n)
set_option maxRecDepth 20000 in
theorem wsL_law0_r25_in : ∀ w ∈ wsL_law0_r25, w ∈ lw_tbl := (by refine mI_c (mI_i 571 rfl) ?_; refine mI_c (mI_i 572 rfl) ?_; refine mI_c (mI_i 573 rfl) ?_; refine mI_c (mI_i 574 rfl) ?_; refine mI_c (mI_i 575 rfl) ?_; refine mI_c (mI_i 576 rfl) ?_; refine mI_c (mI_i 577 rfl) ?_; refine mI_c (mI_i 578 rfl) ?_; refine mI_c (mI_i 580 rfl) ?_; refine mI_c (mI_i 29 rfl) ?_; refine mI_c (mI_i 581 rfl) ?_; refine mI_c (mI_i 858 rfl) ?_; refine mI_c (mI_i 859 rfl) ?_; refine mI_c (mI_i 860 rfl) ?_; refine mI_c (mI_i 861 rfl) ?_; refine mI_c (mI_i 862 rfl) ?_; refine mI_c (mI_i 863 rfl) ?_; refine mI_c (mI_i 582 rfl) ?_; refine mI_c (mI_i 583 rfl) ?_; refine mI_c (mI_i 584 rfl) ?_; refine mI_c (mI_i 585 rfl) ?_; refine mI_c (mI_i 586 rfl) ?_; refine mI_c (mI_i 587 rfl) ?_; refine mI_c (mI_i 588 rfl) ?_; exact mI_n)
set_option maxRecDepth 20000 in
theorem wsL_law0_r26_in : ∀ w ∈ wsL_law0_r26, w ∈ lw_tbl := (by refine mI_c (mI_i 589 rfl) ?_; refine mI_c (mI_i 590 rfl) ?_; refine mI_c (mI_i 591 rfl) ?_; refine mI_c (mI_i 864 rfl) ?_; refine mI_c (mI_i 865 rfl) ?_; refine mI_c (mI_i 866 rfl) ?_; refine mI_c (mI_i 867 rfl) ?_; refine mI_c (mI_i 593 rfl) ?_; refine mI_c (mI_i 594 rfl) ?_; refine mI_c (mI_i 595 rfl) ?_; refine mI_c (mI_i 596 rfl) ?_; refine mI_c (mI_i 597 rfl) ?_; refine mI_c (mI_i 598 rfl) ?_; refine mI_c (mI_i 599 rfl) ?_; refine mI_c (mI_i 868 rfl) ?_; refine mI_c (mI_i 869 rfl) ?_; refine mI_c (mI_i 870 rfl) ?_; refine mI_c (mI_i 871 rfl) ?_; exact mI_n)
set_option maxRecDepth 20000 in
theorem wsL_law_x0 : ∀ w ∈ (vx_atS RX1 59 "java/lang/IllegalStateException" ["java/lang/RuntimeException", "java/lang/Exception"]).filter goodWord, w ∈ lw_tbl := by decide +kernel
set_option maxRecDepth 20000 in
theorem wsL_law_x1 : ∀ w ∈ (vx_atS RX1 183 "java/lang/IllegalArgumentException" ["java/lang/RuntimeException", "java/lang/Exception"]).filter goodWord, w ∈ lw_tbl := by decide +kernel
set_option maxRecDepth 20000 in
theorem wsL_law_x2 : ∀ w ∈ (vx_atS RX1 215 "java/lang/IndexOutOfBoundsException" ["java/lang/RuntimeException", "java/lang/Exception"]).filter goodWord, w ∈ lw_tbl := by decide +kernel
set_option maxRecDepth 20000 in
theorem inJx145de : ∀ w ∈ wsJx145de0, w ∈ lw_tbl := by decide +kernel
set_option maxRecDepth 20000 in
theorem inJ9 : ∀ w ∈ wsJ90, w ∈ lw_tbl := by decide +kernel
set_option maxRecDepth 20000 in
theorem inJ0 : ∀ w ∈ wsJ00, w ∈ lw_tbl := by decide +kernel
set_option maxRecDepth 20000 in
theorem inJ10 : ∀ w ∈ wsJ100, w ∈ lw_tbl := by decide +kernel
set_option maxRecDepth 20000 in
theorem inJ7 : ∀ w ∈ wsJ70, w ∈ lw_tbl := by decide +kernel
set_option maxRecDepth 20000 in
theorem wsL_law_in0 : ∀ w ∈ wsL_law0, w ∈ lw_tbl := fun w h => (List.mem_append.mp h).elim (fun h => (List.mem_append.mp h).elim (fun h => (List.mem_append.mp h).elim (fun h => (List.mem_append.mp h).elim (fun h => (List.mem_append.mp h).elim (fun h => wsL_law0_r1_in w h) (fun h => (List.mem_append.mp h).elim (fun h => wsL_law0_r2_in w h) (fun h => (List.mem_append.mp h).elim (fun h => wsL_law0_r3_in w h) (fun h => (List.mem_append.mp h).elim (fun h => wsL_law0_r4_in w h) (fun h => (List.mem_append.mp h).elim (fun h => wsL_law0_r5_in w h) (fun h => (List.mem_append.mp h).elim (fun h => wsL_law0_r6_in w h) (fun h => (List.mem_append.mp h).elim (fun h => wsL_law0_r7_in w h) (fun h => (List.mem_append.mp h).elim (fun h => wsL_law0_r8_in w h) (fun h => (List.mem_append.mp h).elim (fun h => wsL_law0_r9_in w h) (fun h => (List.mem_append.mp h).elim (fun h => wsL_law0_r10_in w h) (fun h => (List.mem_append.mp h).elim (fun h => wsL_law0_r11_in w h) (fun h => (List.mem_append.mp h).elim (fun h => wsL_law0_r12_in w h) (fun h => (List.mem_append.mp h).elim (fun h => wsL_law0_r13_in w h) (fun h => (List.mem_append.mp h).elim (fun h => wsL_law0_r14_in w h) (fun h => (List.mem_append.mp h).elim (fun h => wsL_law0_r15_in w h) (fun h => (List.mem_append.mp h).elim (fun h => wsL_law0_r16_in w h) (fun h => (List.mem_append.mp h).elim (fun h => wsL_law0_r17_in w h) (fun h => (List.mem_append.mp h).elim (fun h => wsL_law0_r18_in w h) (fun h => (List.mem_append.mp h).elim (fun h => wsL_law0_r19_in w h) (fun h => (List.mem_append.mp h).elim (fun h => wsL_law0_r20_in w h) (fun h => (List.mem_append.mp h).elim (fun h => wsL_law0_r21_in w h) (fun h => (List.mem_append.mp h).elim (fun h => wsL_law0_r22_in w h) (fun h => (List.mem_append.mp h).elim (fun h => wsL_law0_r23_in w h) (fun h => (List.mem_append.mp h).elim (fun h => wsL_law0_r24_in w h) (fun h => (List.mem_append.mp h).elim (fun h => wsL_law0_r25_in w h) (fun h => wsL_law0_r26_in w h)))))))))))))))))))))))))) (inX1 w)) (inX2 w)) (inX0 w)) (fun h => absurd h List.not_mem_nil)
theorem wsL_law_in : ∀ w ∈ wsL_law, w ∈ lw_tbl := fun w h => (List.mem_append.mp h).elim (fun h => (List.mem_append.mp h).elim (fun h => (List.mem_append.mp h).elim (fun h => wsL_law_in0 w h) (fun h => wsL_law_x0 w h)) (fun h => wsL_law_x1 w h)) (fun h => wsL_law_x2 w h)
end
