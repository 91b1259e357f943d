section
-- ===== PART A: goes FIRST, ahead of the names: the tables' words, and 'selects' of the private methods out of them =====
/-- a private method of a class that the tables say can be made, by its rows of tables_1 -/
def lw_okq (q : MethodName × Nat) : Prop := (q.1.cls ≠ "java/lang/invoke/MethodHandle" ∧ q.1.cls ≠ "java/lang/invoke/VarHandle") ∧ Cond.instantiable q.1.cls q.2 ∈ tables_1 ∧ Cond.privateMethod q.1 ∈ tables_1 ∧ Cond.instanceMethod q.1 ∈ tables_1
theorem lw_p0 : lw_okq (⟨"EffectTrain", "readText", "()I"⟩, 11) := ⟨⟨by decide +kernel, by decide +kernel⟩, List.mem_of_getElem? (i := 14) (by decide +kernel), List.mem_of_getElem? (i := 123) (by decide +kernel), List.mem_of_getElem? (i := 124) (by decide +kernel)⟩
theorem lw_p1 : lw_okq (⟨"EffectTrain", "numberError", "(II)I"⟩, 11) := ⟨⟨by decide +kernel, by decide +kernel⟩, List.mem_of_getElem? (i := 14) (by decide +kernel), List.mem_of_getElem? (i := 127) (by decide +kernel), List.mem_of_getElem? (i := 128) (by decide +kernel)⟩
theorem lw_p2 : lw_okq (⟨"EffectTrain", "numberAt", "(II)I"⟩, 11) := ⟨⟨by decide +kernel, by decide +kernel⟩, List.mem_of_getElem? (i := 14) (by decide +kernel), List.mem_of_getElem? (i := 137) (by decide +kernel), List.mem_of_getElem? (i := 138) (by decide +kernel)⟩
theorem lw_p3 : lw_okq (⟨"java/lang/Throwable", "fillInStackTrace", "(I)Ljava/lang/Throwable;"⟩, 6) := ⟨⟨by decide +kernel, by decide +kernel⟩, List.mem_of_getElem? (i := 195) (by decide +kernel), List.mem_of_getElem? (i := 193) (by decide +kernel), List.mem_of_getElem? (i := 194) (by decide +kernel)⟩
theorem lw_p4 : lw_okq (⟨"EffectTrain$State", "takeNumbers", "([I)V"⟩, 12) := ⟨⟨by decide +kernel, by decide +kernel⟩, List.mem_of_getElem? (i := 22) (by decide +kernel), List.mem_of_getElem? (i := 249) (by decide +kernel), List.mem_of_getElem? (i := 250) (by decide +kernel)⟩
theorem lw_p5 : lw_okq (⟨"EffectTrain$State", "allWater", "()I"⟩, 12) := ⟨⟨by decide +kernel, by decide +kernel⟩, List.mem_of_getElem? (i := 22) (by decide +kernel), List.mem_of_getElem? (i := 256) (by decide +kernel), List.mem_of_getElem? (i := 257) (by decide +kernel)⟩
theorem lw_p6 : lw_okq (⟨"EffectTrain$State", "allSolids", "()I"⟩, 12) := ⟨⟨by decide +kernel, by decide +kernel⟩, List.mem_of_getElem? (i := 22) (by decide +kernel), List.mem_of_getElem? (i := 260) (by decide +kernel), List.mem_of_getElem? (i := 261) (by decide +kernel)⟩
theorem lw_p7 : lw_okq (⟨"EffectTrain$State", "washedEffects", "()I"⟩, 12) := ⟨⟨by decide +kernel, by decide +kernel⟩, List.mem_of_getElem? (i := 22) (by decide +kernel), List.mem_of_getElem? (i := 271) (by decide +kernel), List.mem_of_getElem? (i := 272) (by decide +kernel)⟩
theorem lw_p8 : lw_okq (⟨"EffectTrain", "checkEffect", "(I)V"⟩, 11) := ⟨⟨by decide +kernel, by decide +kernel⟩, List.mem_of_getElem? (i := 14) (by decide +kernel), List.mem_of_getElem? (i := 290) (by decide +kernel), List.mem_of_getElem? (i := 291) (by decide +kernel)⟩
theorem lw_p9 : lw_okq (⟨"EffectTrain$State", "numberOf", "(II)I"⟩, 12) := ⟨⟨by decide +kernel, by decide +kernel⟩, List.mem_of_getElem? (i := 22) (by decide +kernel), List.mem_of_getElem? (i := 310) (by decide +kernel), List.mem_of_getElem? (i := 311) (by decide +kernel)⟩
theorem lw_p10 : lw_okq (⟨"EffectTrain$State", "thickness", "(I)I"⟩, 12) := ⟨⟨by decide +kernel, by decide +kernel⟩, List.mem_of_getElem? (i := 22) (by decide +kernel), List.mem_of_getElem? (i := 314) (by decide +kernel), List.mem_of_getElem? (i := 315) (by decide +kernel)⟩
theorem lw_p11 : lw_okq (⟨"EffectTrain$State", "power", "(I)I"⟩, 12) := ⟨⟨by decide +kernel, by decide +kernel⟩, List.mem_of_getElem? (i := 22) (by decide +kernel), List.mem_of_getElem? (i := 318) (by decide +kernel), List.mem_of_getElem? (i := 319) (by decide +kernel)⟩
theorem lw_p12 : lw_okq (⟨"EffectTrain$State", "effectBehind", "(I)I"⟩, 12) := ⟨⟨by decide +kernel, by decide +kernel⟩, List.mem_of_getElem? (i := 22) (by decide +kernel), List.mem_of_getElem? (i := 329) (by decide +kernel), List.mem_of_getElem? (i := 330) (by decide +kernel)⟩
theorem lw_p13 : lw_okq (⟨"EffectTrain$State", "effectBefore", "(I)I"⟩, 12) := ⟨⟨by decide +kernel, by decide +kernel⟩, List.mem_of_getElem? (i := 22) (by decide +kernel), List.mem_of_getElem? (i := 333) (by decide +kernel), List.mem_of_getElem? (i := 334) (by decide +kernel)⟩
theorem lw_p14 : lw_okq (⟨"EffectTrain$State", "amount", "(I)I"⟩, 12) := ⟨⟨by decide +kernel, by decide +kernel⟩, List.mem_of_getElem? (i := 22) (by decide +kernel), List.mem_of_getElem? (i := 344) (by decide +kernel), List.mem_of_getElem? (i := 345) (by decide +kernel)⟩
theorem lw_p15 : lw_okq (⟨"EffectTrain", "remember", "()V"⟩, 11) := ⟨⟨by decide +kernel, by decide +kernel⟩, List.mem_of_getElem? (i := 14) (by decide +kernel), List.mem_of_getElem? (i := 355) (by decide +kernel), List.mem_of_getElem? (i := 356) (by decide +kernel)⟩
def lw_privs_1 : List (MethodName × Nat) := [(⟨"EffectTrain", "readText", "()I"⟩, 11), (⟨"EffectTrain", "numberError", "(II)I"⟩, 11), (⟨"EffectTrain", "numberAt", "(II)I"⟩, 11), (⟨"java/lang/Throwable", "fillInStackTrace", "(I)Ljava/lang/Throwable;"⟩, 6), (⟨"EffectTrain$State", "takeNumbers", "([I)V"⟩, 12), (⟨"EffectTrain$State", "allWater", "()I"⟩, 12), (⟨"EffectTrain$State", "allSolids", "()I"⟩, 12), (⟨"EffectTrain$State", "washedEffects", "()I"⟩, 12), (⟨"EffectTrain", "checkEffect", "(I)V"⟩, 11), (⟨"EffectTrain$State", "numberOf", "(II)I"⟩, 12), (⟨"EffectTrain$State", "thickness", "(I)I"⟩, 12), (⟨"EffectTrain$State", "power", "(I)I"⟩, 12), (⟨"EffectTrain$State", "effectBehind", "(I)I"⟩, 12), (⟨"EffectTrain$State", "effectBefore", "(I)I"⟩, 12), (⟨"EffectTrain$State", "amount", "(I)I"⟩, 12), (⟨"EffectTrain", "remember", "()V"⟩, 11)]
theorem lw_r1 : ∀ q ∈ lw_privs_1, lw_okq q := List.forall_mem_cons.mpr ⟨lw_p0, List.forall_mem_cons.mpr ⟨lw_p1, List.forall_mem_cons.mpr ⟨lw_p2, List.forall_mem_cons.mpr ⟨lw_p3, List.forall_mem_cons.mpr ⟨lw_p4, List.forall_mem_cons.mpr ⟨lw_p5, List.forall_mem_cons.mpr ⟨lw_p6, List.forall_mem_cons.mpr ⟨lw_p7, List.forall_mem_cons.mpr ⟨lw_p8, List.forall_mem_cons.mpr ⟨lw_p9, List.forall_mem_cons.mpr ⟨lw_p10, List.forall_mem_cons.mpr ⟨lw_p11, List.forall_mem_cons.mpr ⟨lw_p12, List.forall_mem_cons.mpr ⟨lw_p13, List.forall_mem_cons.mpr ⟨lw_p14, List.forall_mem_cons.mpr ⟨lw_p15, fun _ h => absurd h List.not_mem_nil⟩⟩⟩⟩⟩⟩⟩⟩⟩⟩⟩⟩⟩⟩⟩⟩
theorem lw_p16 : lw_okq (⟨"EffectTrain$State", "copyFrom", "(LEffectTrain$State;)V"⟩, 12) := ⟨⟨by decide +kernel, by decide +kernel⟩, List.mem_of_getElem? (i := 22) (by decide +kernel), List.mem_of_getElem? (i := 362) (by decide +kernel), List.mem_of_getElem? (i := 363) (by decide +kernel)⟩
theorem lw_p17 : lw_okq (⟨"EffectTrain$State", "pass", "(I)I"⟩, 12) := ⟨⟨by decide +kernel, by decide +kernel⟩, List.mem_of_getElem? (i := 22) (by decide +kernel), List.mem_of_getElem? (i := 366) (by decide +kernel), List.mem_of_getElem? (i := 367) (by decide +kernel)⟩
theorem lw_p18 : lw_okq (⟨"EffectTrain$State", "beginWashInTurn", "()V"⟩, 12) := ⟨⟨by decide +kernel, by decide +kernel⟩, List.mem_of_getElem? (i := 22) (by decide +kernel), List.mem_of_getElem? (i := 370) (by decide +kernel), List.mem_of_getElem? (i := 371) (by decide +kernel)⟩
theorem lw_p19 : lw_okq (⟨"EffectTrain$State", "boilAll", "()V"⟩, 12) := ⟨⟨by decide +kernel, by decide +kernel⟩, List.mem_of_getElem? (i := 22) (by decide +kernel), List.mem_of_getElem? (i := 375) (by decide +kernel), List.mem_of_getElem? (i := 376) (by decide +kernel)⟩
theorem lw_p20 : lw_okq (⟨"EffectTrain$State", "boil", "(II)I"⟩, 12) := ⟨⟨by decide +kernel, by decide +kernel⟩, List.mem_of_getElem? (i := 22) (by decide +kernel), List.mem_of_getElem? (i := 379) (by decide +kernel), List.mem_of_getElem? (i := 380) (by decide +kernel)⟩
theorem lw_p21 : lw_okq (⟨"EffectTrain$State", "flowOn", "()V"⟩, 12) := ⟨⟨by decide +kernel, by decide +kernel⟩, List.mem_of_getElem? (i := 22) (by decide +kernel), List.mem_of_getElem? (i := 386) (by decide +kernel), List.mem_of_getElem? (i := 387) (by decide +kernel)⟩
theorem lw_p22 : lw_okq (⟨"EffectTrain$State", "flowFrom", "(I)I"⟩, 12) := ⟨⟨by decide +kernel, by decide +kernel⟩, List.mem_of_getElem? (i := 22) (by decide +kernel), List.mem_of_getElem? (i := 392) (by decide +kernel), List.mem_of_getElem? (i := 393) (by decide +kernel)⟩
theorem lw_p23 : lw_okq (⟨"EffectTrain$State", "washOn", "()V"⟩, 12) := ⟨⟨by decide +kernel, by decide +kernel⟩, List.mem_of_getElem? (i := 22) (by decide +kernel), List.mem_of_getElem? (i := 396) (by decide +kernel), List.mem_of_getElem? (i := 397) (by decide +kernel)⟩
theorem lw_p24 : lw_okq (⟨"EffectTrain", "checkWorks", "(I)V"⟩, 11) := ⟨⟨by decide +kernel, by decide +kernel⟩, List.mem_of_getElem? (i := 14) (by decide +kernel), List.mem_of_getElem? (i := 431) (by decide +kernel), List.mem_of_getElem? (i := 432) (by decide +kernel)⟩
theorem lw_p25 : lw_okq (⟨"EffectTrain", "vaporWithChoice", "(LEffectTrain$State;II)I"⟩, 11) := ⟨⟨by decide +kernel, by decide +kernel⟩, List.mem_of_getElem? (i := 14) (by decide +kernel), List.mem_of_getElem? (i := 480) (by decide +kernel), List.mem_of_getElem? (i := 481) (by decide +kernel)⟩
theorem lw_p26 : lw_okq (⟨"EffectTrain", "greatestVapor", "(LEffectTrain$State;I)I"⟩, 11) := ⟨⟨by decide +kernel, by decide +kernel⟩, List.mem_of_getElem? (i := 14) (by decide +kernel), List.mem_of_getElem? (i := 484) (by decide +kernel), List.mem_of_getElem? (i := 485) (by decide +kernel)⟩
theorem lw_p27 : lw_okq (⟨"EffectTrain", "runCommand", "(I)Z"⟩, 11) := ⟨⟨by decide +kernel, by decide +kernel⟩, List.mem_of_getElem? (i := 14) (by decide +kernel), List.mem_of_getElem? (i := 515) (by decide +kernel), List.mem_of_getElem? (i := 516) (by decide +kernel)⟩
theorem lw_p28 : lw_okq (⟨"EffectTrain", "runEffectCommand", "(III)Z"⟩, 11) := ⟨⟨by decide +kernel, by decide +kernel⟩, List.mem_of_getElem? (i := 14) (by decide +kernel), List.mem_of_getElem? (i := 519) (by decide +kernel), List.mem_of_getElem? (i := 520) (by decide +kernel)⟩
theorem lw_p29 : lw_okq (⟨"EffectTrain", "disturb", "(I)V"⟩, 11) := ⟨⟨by decide +kernel, by decide +kernel⟩, List.mem_of_getElem? (i := 14) (by decide +kernel), List.mem_of_getElem? (i := 533) (by decide +kernel), List.mem_of_getElem? (i := 534) (by decide +kernel)⟩
theorem lw_p30 : lw_okq (⟨"EffectTrainModel", "refused", "(I)Z"⟩, 15) := ⟨⟨by decide +kernel, by decide +kernel⟩, List.mem_of_getElem? (i := 556) (by decide +kernel), List.mem_of_getElem? (i := 620) (by decide +kernel), List.mem_of_getElem? (i := 621) (by decide +kernel)⟩
theorem lw_p31 : lw_okq (⟨"EffectTrainModel", "readText", "()I"⟩, 15) := ⟨⟨by decide +kernel, by decide +kernel⟩, List.mem_of_getElem? (i := 556) (by decide +kernel), List.mem_of_getElem? (i := 632) (by decide +kernel), List.mem_of_getElem? (i := 633) (by decide +kernel)⟩
def lw_privs_2 : List (MethodName × Nat) := [(⟨"EffectTrain$State", "copyFrom", "(LEffectTrain$State;)V"⟩, 12), (⟨"EffectTrain$State", "pass", "(I)I"⟩, 12), (⟨"EffectTrain$State", "beginWashInTurn", "()V"⟩, 12), (⟨"EffectTrain$State", "boilAll", "()V"⟩, 12), (⟨"EffectTrain$State", "boil", "(II)I"⟩, 12), (⟨"EffectTrain$State", "flowOn", "()V"⟩, 12), (⟨"EffectTrain$State", "flowFrom", "(I)I"⟩, 12), (⟨"EffectTrain$State", "washOn", "()V"⟩, 12), (⟨"EffectTrain", "checkWorks", "(I)V"⟩, 11), (⟨"EffectTrain", "vaporWithChoice", "(LEffectTrain$State;II)I"⟩, 11), (⟨"EffectTrain", "greatestVapor", "(LEffectTrain$State;I)I"⟩, 11), (⟨"EffectTrain", "runCommand", "(I)Z"⟩, 11), (⟨"EffectTrain", "runEffectCommand", "(III)Z"⟩, 11), (⟨"EffectTrain", "disturb", "(I)V"⟩, 11), (⟨"EffectTrainModel", "refused", "(I)Z"⟩, 15), (⟨"EffectTrainModel", "readText", "()I"⟩, 15)]
theorem lw_r2 : ∀ q ∈ lw_privs_2, lw_okq q := List.forall_mem_cons.mpr ⟨lw_p16, List.forall_mem_cons.mpr ⟨lw_p17, List.forall_mem_cons.mpr ⟨lw_p18, List.forall_mem_cons.mpr ⟨lw_p19, List.forall_mem_cons.mpr ⟨lw_p20, List.forall_mem_cons.mpr ⟨lw_p21, List.forall_mem_cons.mpr ⟨lw_p22, List.forall_mem_cons.mpr ⟨lw_p23, List.forall_mem_cons.mpr ⟨lw_p24, List.forall_mem_cons.mpr ⟨lw_p25, List.forall_mem_cons.mpr ⟨lw_p26, List.forall_mem_cons.mpr ⟨lw_p27, List.forall_mem_cons.mpr ⟨lw_p28, List.forall_mem_cons.mpr ⟨lw_p29, List.forall_mem_cons.mpr ⟨lw_p30, List.forall_mem_cons.mpr ⟨lw_p31, fun _ h => absurd h List.not_mem_nil⟩⟩⟩⟩⟩⟩⟩⟩⟩⟩⟩⟩⟩⟩⟩⟩
theorem lw_p32 : lw_okq (⟨"EffectTrainModel", "number", "(III)I"⟩, 15) := ⟨⟨by decide +kernel, by decide +kernel⟩, List.mem_of_getElem? (i := 556) (by decide +kernel), List.mem_of_getElem? (i := 636) (by decide +kernel), List.mem_of_getElem? (i := 637) (by decide +kernel)⟩
theorem lw_p33 : lw_okq (⟨"EffectTrainModel", "readEffect", "(I)I"⟩, 15) := ⟨⟨by decide +kernel, by decide +kernel⟩, List.mem_of_getElem? (i := 556) (by decide +kernel), List.mem_of_getElem? (i := 645) (by decide +kernel), List.mem_of_getElem? (i := 646) (by decide +kernel)⟩
theorem lw_p34 : lw_okq (⟨"EffectTrainModel", "sumOf", "([II)I"⟩, 15) := ⟨⟨by decide +kernel, by decide +kernel⟩, List.mem_of_getElem? (i := 556) (by decide +kernel), List.mem_of_getElem? (i := 656) (by decide +kernel), List.mem_of_getElem? (i := 657) (by decide +kernel)⟩
theorem lw_p35 : lw_okq (⟨"EffectTrainModel", "washed", "([I)I"⟩, 15) := ⟨⟨by decide +kernel, by decide +kernel⟩, List.mem_of_getElem? (i := 556) (by decide +kernel), List.mem_of_getElem? (i := 664) (by decide +kernel), List.mem_of_getElem? (i := 665) (by decide +kernel)⟩
theorem lw_p36 : lw_okq (⟨"EffectTrainModel", "isEffect", "(I)Z"⟩, 15) := ⟨⟨by decide +kernel, by decide +kernel⟩, List.mem_of_getElem? (i := 556) (by decide +kernel), List.mem_of_getElem? (i := 679) (by decide +kernel), List.mem_of_getElem? (i := 680) (by decide +kernel)⟩
theorem lw_p37 : lw_okq (⟨"EffectTrainModel", "behind", "([II)I"⟩, 15) := ⟨⟨by decide +kernel, by decide +kernel⟩, List.mem_of_getElem? (i := 556) (by decide +kernel), List.mem_of_getElem? (i := 699) (by decide +kernel), List.mem_of_getElem? (i := 700) (by decide +kernel)⟩
theorem lw_p38 : lw_okq (⟨"EffectTrainModel", "note", "()V"⟩, 15) := ⟨⟨by decide +kernel, by decide +kernel⟩, List.mem_of_getElem? (i := 556) (by decide +kernel), List.mem_of_getElem? (i := 719) (by decide +kernel), List.mem_of_getElem? (i := 720) (by decide +kernel)⟩
theorem lw_p39 : lw_okq (⟨"EffectTrainModel", "ticksOn", "([II)I"⟩, 15) := ⟨⟨by decide +kernel, by decide +kernel⟩, List.mem_of_getElem? (i := 556) (by decide +kernel), List.mem_of_getElem? (i := 723) (by decide +kernel), List.mem_of_getElem? (i := 724) (by decide +kernel)⟩
theorem lw_p40 : lw_okq (⟨"EffectTrainModel", "tickOn", "([I)V"⟩, 15) := ⟨⟨by decide +kernel, by decide +kernel⟩, List.mem_of_getElem? (i := 556) (by decide +kernel), List.mem_of_getElem? (i := 727) (by decide +kernel), List.mem_of_getElem? (i := 728) (by decide +kernel)⟩
theorem lw_p41 : lw_okq (⟨"EffectTrainModel", "boil", "([I)V"⟩, 15) := ⟨⟨by decide +kernel, by decide +kernel⟩, List.mem_of_getElem? (i := 556) (by decide +kernel), List.mem_of_getElem? (i := 731) (by decide +kernel), List.mem_of_getElem? (i := 732) (by decide +kernel)⟩
theorem lw_p42 : lw_okq (⟨"EffectTrainModel", "go", "([I)V"⟩, 15) := ⟨⟨by decide +kernel, by decide +kernel⟩, List.mem_of_getElem? (i := 556) (by decide +kernel), List.mem_of_getElem? (i := 738) (by decide +kernel), List.mem_of_getElem? (i := 739) (by decide +kernel)⟩
theorem lw_p43 : lw_okq (⟨"EffectTrainModel", "change", "(II)I"⟩, 15) := ⟨⟨by decide +kernel, by decide +kernel⟩, List.mem_of_getElem? (i := 556) (by decide +kernel), List.mem_of_getElem? (i := 753) (by decide +kernel), List.mem_of_getElem? (i := 754) (by decide +kernel)⟩
theorem lw_p44 : lw_okq (⟨"EffectTrainModel", "turns", "(II)I"⟩, 15) := ⟨⟨by decide +kernel, by decide +kernel⟩, List.mem_of_getElem? (i := 556) (by decide +kernel), List.mem_of_getElem? (i := 791) (by decide +kernel), List.mem_of_getElem? (i := 792) (by decide +kernel)⟩
theorem lw_p45 : lw_okq (⟨"EffectTrainModel", "command", "(I)Z"⟩, 15) := ⟨⟨by decide +kernel, by decide +kernel⟩, List.mem_of_getElem? (i := 556) (by decide +kernel), List.mem_of_getElem? (i := 809) (by decide +kernel), List.mem_of_getElem? (i := 810) (by decide +kernel)⟩
def lw_privs_3 : List (MethodName × Nat) := [(⟨"EffectTrainModel", "number", "(III)I"⟩, 15), (⟨"EffectTrainModel", "readEffect", "(I)I"⟩, 15), (⟨"EffectTrainModel", "sumOf", "([II)I"⟩, 15), (⟨"EffectTrainModel", "washed", "([I)I"⟩, 15), (⟨"EffectTrainModel", "isEffect", "(I)Z"⟩, 15), (⟨"EffectTrainModel", "behind", "([II)I"⟩, 15), (⟨"EffectTrainModel", "note", "()V"⟩, 15), (⟨"EffectTrainModel", "ticksOn", "([II)I"⟩, 15), (⟨"EffectTrainModel", "tickOn", "([I)V"⟩, 15), (⟨"EffectTrainModel", "boil", "([I)V"⟩, 15), (⟨"EffectTrainModel", "go", "([I)V"⟩, 15), (⟨"EffectTrainModel", "change", "(II)I"⟩, 15), (⟨"EffectTrainModel", "turns", "(II)I"⟩, 15), (⟨"EffectTrainModel", "command", "(I)Z"⟩, 15)]
theorem lw_r3 : ∀ q ∈ lw_privs_3, lw_okq q := List.forall_mem_cons.mpr ⟨lw_p32, List.forall_mem_cons.mpr ⟨lw_p33, List.forall_mem_cons.mpr ⟨lw_p34, List.forall_mem_cons.mpr ⟨lw_p35, List.forall_mem_cons.mpr ⟨lw_p36, List.forall_mem_cons.mpr ⟨lw_p37, List.forall_mem_cons.mpr ⟨lw_p38, List.forall_mem_cons.mpr ⟨lw_p39, List.forall_mem_cons.mpr ⟨lw_p40, List.forall_mem_cons.mpr ⟨lw_p41, List.forall_mem_cons.mpr ⟨lw_p42, List.forall_mem_cons.mpr ⟨lw_p43, List.forall_mem_cons.mpr ⟨lw_p44, List.forall_mem_cons.mpr ⟨lw_p45, fun _ h => absurd h List.not_mem_nil⟩⟩⟩⟩⟩⟩⟩⟩⟩⟩⟩⟩⟩⟩
def lw_privs : List (MethodName × Nat) := lw_privs_1 ++ (lw_privs_2 ++ (lw_privs_3))
def lw_tbl : List Cond := k2_sels lw_privs ++ tables_1
theorem lw_privs_ok : ∀ q ∈ lw_privs, lw_okq q := by
  show ∀ q ∈ lw_privs_1 ++ (lw_privs_2 ++ (lw_privs_3)), lw_okq q
  exact List.forall_mem_append.mpr ⟨lw_r1, List.forall_mem_append.mpr ⟨lw_r2, lw_r3⟩⟩
/-- the streams that the claim lets the run draw from -/
abbrev lw_cs : List Choice := [Jvm.Choice.named "NaN.bits"]
theorem lw_bits : nanBits ∈ lw_cs := by first | decide | exact List.mem_cons_self | simp [lw_cs, nanBits]
/-! ===== BEGIN words of one list among another's, by their places ===== -/
theorem goodIn_r {big : List Cond} (ws : List Cond) (ps : List Nat) (hp : ws = ps.filterMap (fun i => big[i]?)) (h : ws.all goodWord = true) : GoodIn big ws := by
  intro w hw
  have h1 := List.all_eq_true.mp h w hw
  rw [hp] at hw
  obtain ⟨i, -, hi⟩ := List.mem_filterMap.mp hw
  have hm : w ∈ big := by first | exact List.mem_of_getElem? hi | exact List.getElem?_mem hi
  exact ⟨hm, good_of_word h1⟩
theorem goodIn_app {big a b : List Cond} (ha : GoodIn big a) (hb : GoodIn big b) : GoodIn big (a ++ b) := fun w h => (List.mem_append.mp h).elim (ha w) (hb w)
theorem goodIn_ca {big a b : List Cond} {c : Cond} (ha : GoodIn big (c :: a)) (hb : GoodIn big b) : GoodIn big (c :: (a ++ b)) := fun w h => (List.mem_cons.mp h).elim (fun e => ha w (List.mem_cons.mpr (Or.inl e))) (fun h => (List.mem_append.mp h).elim (fun h => ha w (List.mem_cons.mpr (Or.inr h))) (hb w))
theorem goodIn_sub {big ws : List Cond} (hm : ∀ w ∈ ws, w ∈ big) (h : ws.all goodWord = true) : GoodIn big ws := fun w hw => ⟨hm w hw, good_of_word (List.all_eq_true.mp h w hw)⟩
/-! ===== END ===== -/

/-! ===== BEGIN exceptions that leave a method, and their catching by the caller (launches without stack traces) ===== -/
section VXA
/-! The laws vx_back, vx_callV, vx_callS, vx_callSW, vx_throw0, vx_throwS follow proofs of the library, with one case more: JvmDerived/Free/Laws.lean (Back.of_free), Shelf42/LK1.lean (callV, callS), Shelf/KitTraced.lean (throwNew0V, throwNewS). -/
/-- where a method has thrown q: the class by its name, the cell, what was written, the world -/
def vx_T (XC : String → State → State → Prop) (st : State) (q : Addr) (t : State) (mc ms : Nat) (free : Addr → Prop) : Prop :=
  ∃ (E : String) (ce : Cell) (L : List Loc), XC E st t ∧ t.heap[q]? = some ce ∧ ce.vm = .none ∧ st.vm.findClass E = some ce.cls ∧ st.WarmedH t.vm ∧ st.sameButNew ({ t with vm := st.vm } : State) L mc ms ∧ ∀ z ∈ L, free z.base
def vx_Q (Qc : Array Value → State → Outcome → State → Prop) (XC : String → State → State → Prop) (mc ms : Nat) (free : Addr → Prop) : Array Value → State → Outcome → State → Prop := fun a st o t =>
  (Qc a st o t ∧ ∃ L, FrameEnd st o t L mc ms ∧ ∀ q ∈ L, free q.base) ∨ ∃ q, o = .threw q ∧ vx_T XC st q t mc ms free
/-- a callee that returns or throws -/
def vx_Met (l : Launch) (y : MethodName) (ws : List Cond) (rm : Room) (Pc : Array Value → State → Prop) (Qc : Array Value → State → Outcome → State → Prop) (XC : String → State → State → Prop) (mc ms : Nat) (free : Addr → Prop) : Prop :=
  MetFree l y (headSpec ws rm) Pc (fun _ _ _ _ _ => True) (vx_Q Qc XC mc ms free)
def vx_Post (XC : String → State → State → Prop) (mc ms : Nat) (free : Addr → Prop) : Pt → Array Value → Addr → Pt → Prop := fun A a q B =>
  ∃ (g : JFrame) (mk : MethodId) (t : State) (L : List Loc) (E : String) (ce : Cell), B.U.heap = t.heap ∧ B.U.vm = t.vm ∧ XC E (A.U.calling g mk a) t ∧ t.heap[q]? = some ce ∧ ce.vm = .none ∧ A.U.vm.findClass E = some ce.cls ∧ B.locs = A.locs ++ L ∧ (∀ z ∈ L, free z.base) ∧ B.cells = A.cells + mc ∧ B.slots = A.slots + ms
def vx_Back (l : Launch) (R : Room) (p : Program) (e : Env) (below : List Frame) (s : State) (sargs : Array Value) (y : MethodName) (len W9 : Nat)
    (Pre : Pt → Array Value → Prop) (Post : Pt → Array Value → Option Value → Pt → Prop) (PostX : Pt → Array Value → Addr → Pt → Prop) : Prop :=
  ∀ (m : MethodId) (meth : Method) (c : Code) (A : Pt) (g : JFrame) (ig : Instr) (mk : MethodId) (a : Array Value),
    Stand p l e R s m sargs below meth c A.U A.locs A.cells A.slots → g.method = m → g.locals.size = c.maxLocals → decode c.code g.pc = .ok (ig, len) →
    2 * g.monitorRoom + (g.stack.map fun v => v.category).sum ≤ W9 → A.U.methodNamed? y = some mk → Pre A a →
    (∃ (v : Option Value) (B : Pt), Stand p l e R s m sargs below meth c B.U B.locs B.cells B.slots ∧ Post A a v B ∧
      Steps p.tables e below (doInvoke e (A.U.setTop g) [] mk a).1 (B.U.setTop { g with pc := g.pc + len, stack := v.toList ++ g.stack })) ∨
    (∃ (q : Addr) (B : Pt), Stand p l e R s m sargs below meth c B.U B.locs B.cells B.slots ∧ PostX A a q B ∧
      Steps p.tables e below (doInvoke e (A.U.setTop g) [] mk a).1 ((B.U.setTop g).pushFrame (.throwing q)))
section Payer
variable {l : Launch} {R : Room} {p : Program} {e : Env} {below : List Frame} {s : State} {sargs : Array Value} {y : MethodName} {len W9 : Nat}
theorem vx_back {ws : List Cond} {rm : Room} {Pc : Array Value → State → Prop} {Qc : Array Value → State → Outcome → State → Prop} {XC : String → State → State → Prop} {mc ms : Nat} {free : Addr → Prop} {bytes : ByteArray} {maxL : Nat} {ret : Option FieldType}
    (hM : vx_Met l y ws rm Pc Qc XC mc ms free) (hblind : FrameBlind Pc) (hrc : rm.cells = mc) (hrs : rm.slots = ms)
    (hframes : rm.frames + 1 ≤ R.frames) (hlocals : W9 + (maxL + 11) + rm.locals ≤ R.locals)
    (hws : ∀ w ∈ ws, ∀ a' U, s.WarmedH U.vm → w.before a' U = true) (hcode : Cond.code y bytes maxL ret ∈ ws) (hinit : ∀ a' U, s.WarmedH U.vm → (Cond.initialized y.cls).before a' U = true) :
    vx_Back l R p e below s sargs y len W9 (PreOf R mc ms Pc) (PostOf Qc mc ms free) (vx_Post XC mc ms free) := by
  intro m meth c A g ig mk a X hg hsize hdg hW hn hp
  have h1 : (headSpec ws rm).pre.before a A.U = true := atoms_intro fun w hw => hws w hw _ _ X.warmed
  have h2 : (Cond.code y bytes maxL ret).before a A.U = true := hws _ hcode _ _ X.warmed
  have h3 : (Cond.initialized y.cls).before a A.U = true := hinit _ _ X.warmed
  have h4 : A.cells + (headSpec ws rm).room.cells ≤ R.cells := by rw [show (headSpec ws rm).room.cells = mc from hrc]; exact hp.1
  have h5 : A.slots + (headSpec ws rm).room.slots ≤ R.slots := by rw [show (headSpec ws rm).room.slots = ms from hrs]; exact hp.2.1
  have hPc : Pc a (A.U.calling g mk a) := hblind _ _ _ _ hp.2.2
  obtain ⟨U, Ls, c0, s0⟩ := A
  dsimp only [Pt.U, Pt.locs, Pt.cells, Pt.slots] at h1 h2 h3 h4 h5 X hn hPc ⊢
  obtain ⟨methY, cY, hmY, hcY, -, hlY, -, -, -, -⟩ := Cond.code_spec hn h2
  obtain ⟨kY, hkY, -⟩ := className_of_methodNamed hn
  have hinitY : kY.init = .initialized := Cond.initialized_spec (findClass_of_methodNamed hn) hkY h3
  have h : At U g.method c below := by rw [hg]; exact X.here
  have hlocals9 : W9 + (maxL + 11) + (headSpec ws rm).room.locals ≤ R.locals := hlocals
  have happ : (headSpec ws rm).appliesLoose y e.platform (U.calling g mk a) = true :=
    Spec.appliesLoose_calling (g := g) h hdg hn hkY hinitY
      (X.room_calling (g := g) (R' := (headSpec ws rm).room) hsize hmY hcY hframes (by rw [hlY]; omega) h4 h5) h1
  obtain ⟨mid, hmid⟩ := h.above
  have hfr : (U.setTop g).frames = (.java g :: mid) ++ below := by rw [State.frames_setTop' g h.top, hmid]; rfl
  obtain ⟨o, s₂, hsteps, -, hend, hq⟩ := Steps.callFree hM p X.admits X.cas X.clock (acts := []) hfr happ hPc trivial
  have hq' : vx_Q Qc XC mc ms free a (U.calling g mk a) o s₂ := hq
  rw [State.frames_setTop' g h.top] at hend
  obtain ⟨g₀, hg0⟩ := Option.isSome_iff_exists.mp h.top
  obtain ⟨r, hr⟩ := State.topJava?_eq_some.mp hg0
  have hr' : (({ U with heap := s₂.heap, slotsUsed := s₂.slotsUsed } : State).setVm s₂.vm).frames = .java g₀ :: r := hr
  rcases hq' with ⟨hqc, L, hfe, hL⟩ | ⟨q, rfl, E, ce, L, hx, hce, hcv, hcl, hW₂, hsm, hL⟩
  · obtain ⟨⟨v, rfl⟩, hW₂, e2, q2, q3, q4, q5, q6⟩ := id hfe
    have e3 : s₂ = ({ (U.calling g mk a).setFrames s₂.frames with heap := s₂.heap, slotsUsed := s₂.slotsUsed } : State).setVm s₂.vm := by
      have : s₂ = ({ s₂ with vm := (U.calling g mk a).vm } : State).setVm s₂.vm := rfl
      rw [e2] at this
      exact this
    obtain ⟨c₂, i₂, len₂, hc₂, hd₂, hf₂⟩ := hend
    have hW' : U.WarmedH s₂.vm := hW₂
    have hcc : c₂ = c := by
      have h1 : s₂.code? g.method = U.code? g.method := by
        rw [State.code?_eq, State.code?_eq, hW'.alike.method?]
      exact Option.some.inj (hc₂.symm.trans (h1.trans h.code))
    subst hcc
    have hlen : len₂ = len := by rw [hdg] at hd₂; cases hd₂; rfl
    subst hlen
    have hs₂ : s₂ = (({ U with heap := s₂.heap, slotsUsed := s₂.slotsUsed } : State).setVm s₂.vm).setTop { g with pc := g.pc + len₂, stack := v.toList ++ g.stack } := by
      refine e3.trans ?_
      rw [hf₂, State.calling_eq h.top, State.setFrames_setFrames, State.setTop_of_frames _ hr', hr]
      rfl
    have hsame : U.sameButNew ({ U with heap := s₂.heap, slotsUsed := s₂.slotsUsed } : State) L mc ms := by
      refine ⟨?_, q2, q3, q4, q5, q6⟩
      obtain ⟨t, ht, -⟩ := State.frames_cons hr
      show ({ U with heap := s₂.heap, slotsUsed := s₂.slotsUsed } : State) = { U.setFrames U.frames with heap := s₂.heap, slotsUsed := s₂.slotsUsed }
      rw [State.setFrames_self ht]
    subst hg
    refine Or.inl ⟨v, ⟨(({ U with heap := s₂.heap, slotsUsed := s₂.slotsUsed } : State).setVm s₂.vm), Ls ++ L, c0 + mc, s0 + ms⟩,
      ⟨X.admits, X.cas, X.clock, X.frames, X.room, X.hears, X.method, X.code, (X.here.setHeapUsed s₂.heap s₂.slotsUsed).setVm hW'.alike, X.tail, State.WarmedH.trans X.warmed hW', X.limits, X.bytes, X.same.trans (hsame.setVm s.vm)⟩,
      ⟨g, mk, s₂, L, rfl, rfl, hqc, rfl, hL, rfl, rfl⟩, ?_⟩
    show Steps p.tables e below _ ((({ U with heap := s₂.heap, slotsUsed := s₂.slotsUsed } : State).setVm s₂.vm).setTop { g with pc := g.pc + len₂, stack := v.toList ++ g.stack })
    rw [← hs₂]
    exact hsteps
  · obtain ⟨e2, q2, q3, q4, q5, q6⟩ := id hsm
    have e3 : s₂ = ({ (U.calling g mk a).setFrames s₂.frames with heap := s₂.heap, slotsUsed := s₂.slotsUsed } : State).setVm s₂.vm := by
      have : s₂ = ({ s₂ with vm := (U.calling g mk a).vm } : State).setVm s₂.vm := rfl
      rw [e2] at this
      exact this
    have hf₂ : s₂.frames = .throwing q :: .java g :: U.frames.tail := hend
    have hW' : U.WarmedH s₂.vm := hW₂
    have hs₂ : s₂ = ((({ U with heap := s₂.heap, slotsUsed := s₂.slotsUsed } : State).setVm s₂.vm).setTop g).pushFrame (.throwing q) := by
      refine e3.trans ?_
      rw [hf₂, State.calling_eq h.top, State.setFrames_setFrames, State.pushFrame, State.frames_setTop _ hr', State.setTop_of_frames _ hr', State.setFrames_setFrames, hr]
      rfl
    have hsame : U.sameButNew ({ U with heap := s₂.heap, slotsUsed := s₂.slotsUsed } : State) L mc ms := by
      refine ⟨?_, q2, q3, q4, q5, q6⟩
      obtain ⟨t, ht, -⟩ := State.frames_cons hr
      show ({ U with heap := s₂.heap, slotsUsed := s₂.slotsUsed } : State) = { U.setFrames U.frames with heap := s₂.heap, slotsUsed := s₂.slotsUsed }
      rw [State.setFrames_self ht]
    subst hg
    refine Or.inr ⟨q, ⟨(({ U with heap := s₂.heap, slotsUsed := s₂.slotsUsed } : State).setVm s₂.vm), Ls ++ L, c0 + mc, s0 + ms⟩,
      ⟨X.admits, X.cas, X.clock, X.frames, X.room, X.hears, X.method, X.code, (X.here.setHeapUsed s₂.heap s₂.slotsUsed).setVm hW'.alike, X.tail, State.WarmedH.trans X.warmed hW', X.limits, X.bytes, X.same.trans (hsame.setVm s.vm)⟩,
      ⟨g, mk, s₂, L, E, ce, rfl, rfl, hx, hce, hcv, hcl, rfl, hL, rfl, rfl⟩, ?_⟩
    show Steps p.tables e below _ (((({ U with heap := s₂.heap, slotsUsed := s₂.slotsUsed } : State).setVm s₂.vm).setTop g).pushFrame (.throwing q))
    rw [← hs₂]
    exact hsteps
end Payer
section Calls
variable {p : Program} {l : Launch} {e : Env} {R : Room} {s : State} {m : MethodId} {args : Array Value} {below : List Frame} {meth : Method} {c : Code} {T : State} {locs : List Loc} {cells slots : Nat}
theorem vx_callV (X : Stand p l e R s m args below meth c T locs cells slots) (hexec : p.tables.exec = Jvm.exec) {own C : String} {index : Nat} {y : MethodName} {bytes : ByteArray} {maxL : Nat} {ret : Option FieldType}
    (hown : s.vm.findClass own = some m.cls) (hlink : (Cond.methodLink own index y).before args s = true) (hinst : (Cond.instanceMethod y).before args s = true) (hsel : (Cond.selects C y y).before args s = true)
    (hcode : (Cond.code y bytes maxL ret).before args s = true) (hy : y.cls ≠ "java/lang/invoke/MethodHandle" ∧ y.cls ≠ "java/lang/invoke/VarHandle")
    {W9 : Nat} {Pre : Pt → Array Value → Prop} {Post : Pt → Array Value → Option Value → Pt → Prop} {PostX : Pt → Array Value → Addr → Pt → Prop} (hK : vx_Back l R p e below s args y 3 W9 Pre Post PostX)
    {b : Addr} {cellB : Cell} (hcell : T.heap[b]? = some cellB) (hobj : cellB.vm.isStatics = false) (hcls : s.vm.findClass C = some cellB.cls)
    {g : JFrame} (hg : g.method = m) (hsize : g.locals.size = c.maxLocals) {argsL rest : List Value} (hlen : ∀ sig, parseMethodDescriptor y.desc = some sig → argsL.length = sig.parameters.length)
    (hstack : g.stack = argsL.reverse ++ .ref b :: rest) (hW : 2 * g.monitorRoom + (rest.map fun v => v.category).sum ≤ W9) (hdg : decode c.code g.pc = .ok (.invokevirtual index, 3))
    (hpre : ∀ vm₁, s.WarmedH vm₁ → Pre ⟨T.setVm vm₁, locs, cells, slots⟩ (Value.ref b :: argsL).toArray) :
    (∃ (v : Option Value) (vm₁ : Vm) (B : Pt), s.WarmedH vm₁ ∧ Stand p l e R s m args below meth c B.U B.locs B.cells B.slots ∧ Post ⟨T.setVm vm₁, locs, cells, slots⟩ (Value.ref b :: argsL).toArray v B ∧
      ∀ target, Steps p.tables e below (B.U.setTop { g with pc := g.pc + 3, stack := v.toList ++ rest }) target → Steps p.tables e below (T.setTop g) target) ∨
    (∃ (q : Addr) (vm₁ : Vm) (B : Pt), s.WarmedH vm₁ ∧ Stand p l e R s m args below meth c B.U B.locs B.cells B.slots ∧ PostX ⟨T.setVm vm₁, locs, cells, slots⟩ (Value.ref b :: argsL).toArray q B ∧
      Steps p.tables e below (T.setTop g) ((B.U.setTop { g with stack := rest }).pushFrame (.throwing q))) := by
  obtain ⟨mk, methM, hnamed, hmethM, hstM, habM⟩ := Cond.instanceMethod_spec hinst
  obtain ⟨methM', cM, hmethM', -, -, -, -, -, -, hsigM⟩ := Cond.code_spec hnamed hcode
  cases hmethM.symm.trans hmethM'
  obtain ⟨c2, r2, m2, q1, q2, q3, q4, kP, hkP, hkPi⟩ := Cond.selects_spec hsel
  cases hcls.symm.trans q1
  cases (State.methodFound?_of_named hnamed hy).symm.trans q2
  cases hnamed.symm.trans q3
  have hselP : selectMethod e.platform s.vm cellB.cls mk = .method mk := by rw [Launch.admits_selectMethod X.admits]; exact q4
  obtain ⟨vm₁, X₁, hstep₁⟩ := X.invokevirtual hexec hown hlink hnamed hmethM hstM hkP hkPi hy (a := b) (cell := cellB) hcell
    (fun z h => by rw [h] at hobj; cases hobj) hselP hmethM habM hkP hkPi (g := g) hg (argsL := argsL) (rest := rest) (hlen _ hsigM) hstack hdg
  rcases hK m meth c ⟨T.setVm vm₁, locs, cells, slots⟩ { g with stack := rest } (.invokevirtual index) mk (Value.ref b :: argsL).toArray X₁ hg hsize hdg hW (X₁.named hnamed) (hpre vm₁ X₁.warmed) with ⟨v, B, X', hpost, hsteps⟩ | ⟨q, B, X', hpost, hsteps⟩
  · exact Or.inl ⟨v, vm₁, B, X₁.warmed, X', hpost, fun target h => hstep₁ _ fun acts => by rw [doInvoke_state]; exact hsteps.trans h⟩
  · exact Or.inr ⟨q, vm₁, B, X₁.warmed, X', hpost, hstep₁ _ fun acts => by rw [doInvoke_state]; exact hsteps⟩
theorem vx_callS (X : Stand p l e R s m args below meth c T locs cells slots) (hexec : p.tables.exec = Jvm.exec) {own : String} {index : Nat} {y : MethodName} {bytes : ByteArray} {maxL : Nat} {ret : Option FieldType}
    (hown : s.vm.findClass own = some m.cls) (hlink : (Cond.methodLink own index y).before args s = true) (hstat : (Cond.static y).before args s = true) (hinit : (Cond.initialized y.cls).before args s = true)
    (hcode : (Cond.code y bytes maxL ret).before args s = true) (hy : y.cls ≠ "java/lang/invoke/MethodHandle" ∧ y.cls ≠ "java/lang/invoke/VarHandle")
    {W9 : Nat} {Pre : Pt → Array Value → Prop} {Post : Pt → Array Value → Option Value → Pt → Prop} {PostX : Pt → Array Value → Addr → Pt → Prop} (hK : vx_Back l R p e below s args y 3 W9 Pre Post PostX)
    {g : JFrame} (hg : g.method = m) (hsize : g.locals.size = c.maxLocals) {argsL rest : List Value} (hlen : ∀ sig, parseMethodDescriptor y.desc = some sig → argsL.length = sig.parameters.length)
    (hstack : g.stack = argsL.reverse ++ rest) (hW : 2 * g.monitorRoom + (rest.map fun v => v.category).sum ≤ W9) (hdg : decode c.code g.pc = .ok (.invokestatic index, 3))
    (hpre : ∀ vm₁, s.WarmedH vm₁ → Pre ⟨T.setVm vm₁, locs, cells, slots⟩ argsL.toArray) :
    (∃ (v : Option Value) (vm₁ : Vm) (B : Pt), s.WarmedH vm₁ ∧ Stand p l e R s m args below meth c B.U B.locs B.cells B.slots ∧ Post ⟨T.setVm vm₁, locs, cells, slots⟩ argsL.toArray v B ∧
      ∀ target, Steps p.tables e below (B.U.setTop { g with pc := g.pc + 3, stack := v.toList ++ rest }) target → Steps p.tables e below (T.setTop g) target) ∨
    (∃ (q : Addr) (vm₁ : Vm) (B : Pt), s.WarmedH vm₁ ∧ Stand p l e R s m args below meth c B.U B.locs B.cells B.slots ∧ PostX ⟨T.setVm vm₁, locs, cells, slots⟩ argsL.toArray q B ∧
      Steps p.tables e below (T.setTop g) ((B.U.setTop { g with stack := rest }).pushFrame (.throwing q))) := by
  obtain ⟨mk, hnamed⟩ := Cond.code_named hcode
  obtain ⟨methM, cM, hmethM, -, -, -, -, -, -, hsigM⟩ := Cond.code_spec hnamed hcode
  have hstatic : methM.isStatic = true := Cond.static_spec hnamed hmethM hstat
  obtain ⟨kP, hkP, -⟩ := className_of_methodNamed hnamed
  have hinitP : kP.init = .initialized := Cond.initialized_spec (findClass_of_methodNamed hnamed) hkP hinit
  obtain ⟨vm₁, X₁, hstep₁⟩ := X.invokestatic hexec hown hlink hnamed hmethM hstatic hkP hinitP hy (g := g) hg (argsL := argsL) (rest := rest) (hlen _ hsigM) hstack hdg
  rcases hK m meth c ⟨T.setVm vm₁, locs, cells, slots⟩ { g with stack := rest } (.invokestatic index) mk argsL.toArray X₁ hg hsize hdg hW (X₁.named hnamed) (hpre vm₁ X₁.warmed) with ⟨v, B, X', hpost, hsteps⟩ | ⟨q, B, X', hpost, hsteps⟩
  · exact Or.inl ⟨v, vm₁, B, X₁.warmed, X', hpost, fun target h => hstep₁ _ fun acts => by rw [doInvoke_state]; exact hsteps.trans h⟩
  · exact Or.inr ⟨q, vm₁, B, X₁.warmed, X', hpost, hstep₁ _ fun acts => by rw [doInvoke_state]; exact hsteps⟩
end Calls
theorem vx_cls {s : State} {T : State} {vm₁ : Vm} {E : String} {k : ClassId} (hW : s.WarmedH vm₁) (h : (T.setVm vm₁).vm.findClass E = some k) : s.vm.findClass E = some k := by
  have h1 : vm₁.findClass E = some k := h
  rw [hW.alike.findClass] at h1
  exact h1
/-- the method's frame g, with q thrown over it -/
def vx_W (p : Program) (l : Launch) (e : Env) (R : Room) (s : State) (m : MethodId) (args : Array Value) (below : List Frame) (meth : Method) (c : Code) (H : Heap) (locs : List Loc) (cells slots : Nat) (Q : State → Prop) (g : JFrame) (q : Addr) : Prop :=
  ∀ T : State, T.heap = H → Stand p l e R s m args below meth c T locs cells slots → ∃ t, Steps p.tables e below ((T.setTop g).pushFrame (.throwing q)) t ∧ Q t
def vx_Run (p : Program) (l : Launch) (e : Env) (R : Room) (s : State) (m : MethodId) (args : Array Value) (below : List Frame) (meth : Method) (c : Code) (H : Heap) (locs : List Loc) (cells slots mc ms : Nat) (g : JFrame) (rest : List Value) (Qa : State → Outcome → State → Prop) (XC : String → State → State → Prop) (free : Addr → Prop) : Prop :=
  ∀ T : State, T.heap = H → Stand p l e R s m args below meth c T locs cells slots →
    (∃ (v : Option Value) (st₀ t T' : State) (L : List Loc), st₀.heap = H ∧ Stand p l e R s m args below meth c T' (locs ++ L) (cells + mc) (slots + ms) ∧ (∀ q ∈ L, free q.base) ∧ T'.heap = t.heap ∧ T'.vm = t.vm ∧ Qa st₀ (.returned v) t ∧
      Goes p e below T g T' { g with pc := g.pc + 3, stack := v.toList ++ rest }) ∨
    (∃ (q : Addr) (st₀ t T' : State) (L : List Loc) (E : String) (ce : Cell), st₀.heap = H ∧ Stand p l e R s m args below meth c T' (locs ++ L) (cells + mc) (slots + ms) ∧ (∀ z ∈ L, free z.base) ∧ T'.heap = t.heap ∧ T'.vm = t.vm ∧ XC E st₀ t ∧ t.heap[q]? = some ce ∧ ce.vm = .none ∧ s.vm.findClass E = some ce.cls ∧
      Steps p.tables e below (T.setTop g) ((T'.setTop { g with stack := rest }).pushFrame (.throwing q)))
def vx_X {S : Type} (px : S → Prop) (B : String → S → State → Prop) (A : Nat → Prop) : String → State → State → Prop := fun E st t => ∃ u : S, px u ∧ B E u t ∧ va_F A st t
section Runs
variable {p : Program} {l : Launch} {e : Env} {R : Room} {s : State} {m : MethodId} {args : Array Value} {below : List Frame} {meth : Method} {c : Code} {H : Heap} {locs : List Loc} {cells slots : Nat}
variable {y : MethodName} {bytes cc : ByteArray} {maxL nL mc ms n index : Nat} {ret : Option FieldType} {ws : List Cond} {rm : Room} {Pc : Array Value → State → Prop} {Qc : Array Value → State → Outcome → State → Prop} {XC : String → State → State → Prop} {free : Addr → Prop} {Ts : List Cond} {own C : String} {b : Addr} {As rest : List Value} {g : JFrame}
theorem vx_callBack (cb : CallB R s args own index y bytes maxL ret ws rm mc ms n) (hM : vx_Met l y ws rm Pc Qc XC mc ms free) (hbl : FrameBlind Pc) : vx_Back l R p e below s args y 3 8 (PreOf R mc ms Pc) (PostOf Qc mc ms free) (vx_Post XC mc ms free) := by
  obtain ⟨hrc, hrs, hfr, hlo, hws, hcw, -, hini, -⟩ := cb
  exact vx_back (bytes := bytes) (maxL := maxL) (ret := ret) hM hbl hrc hrs hfr hlo hws hcw (fun a' U hW => word_at hW (Or.inl (by first | rfl | simp [Cond.onTables, Cond.keeps, Cond.steady])) hini)
theorem vx_runV (S : CallFix p m c cc nL s args Ts own) (hM : vx_Met l y ws rm Pc Qc XC mc ms free) (cw : CallW R s args own C index y bytes maxL ret ws rm mc ms n) (hp : PreV s H C b Pc As)
    (hg : g.method = m) (hn : As.length = n) (hsize : g.locals.size = nL) (hstack : g.stack = As.reverse ++ .ref b :: rest) (hW : 2 * g.monitorRoom + (rest.map fun v => v.category).sum ≤ 8) (hdg : decode cc g.pc = .ok (.invokevirtual index, 3)) (hf : cells + mc ≤ R.cells ∧ slots + ms ≤ R.slots) :
    vx_Run p l e R s m args below meth c H locs cells slots mc ms g rest (Qc (Value.ref b :: As).toArray) XC free := by
  have hK : vx_Back l R p e below s args y 3 8 (PreOf R mc ms Pc) (PostOf Qc mc ms free) (vx_Post XC mc ms free) := vx_callBack cw.1 hM hp.1
  obtain ⟨⟨-, -, -, -, -, -, hcode, -, hy, hlen, hl⟩, hin, hse⟩ := cw
  obtain ⟨hx, hb, hml, ho, -⟩ := S
  obtain ⟨-, ⟨cellB, hcB, hoB, hclB⟩, hPc⟩ := hp
  intro T hT X
  rcases vx_callV X hx (C := C) (bytes := bytes) (maxL := maxL) (ret := ret) ho hl hin hse hcode hy hK (by rw [hT]; exact hcB) hoB hclB hg (hsize.trans hml.symm) (argsL := As) (rest := rest) (fun sig h => hn.trans (hlen sig h)) hstack hW (by rw [hb]; exact hdg)
    (fun vm₁ hW₁ => ⟨hf.1, hf.2, hPc (T.setVm vm₁) hT hW₁⟩) with ⟨v, vm₁, ⟨U', l2, c2, s2⟩, hW₁, X', ⟨g', mk, t, L, e1, e2, hq, h1, hL, h2, h3⟩, st⟩ | ⟨q, vm₁, ⟨U', l2, c2, s2⟩, hW₁, X', ⟨g', mk, t, L, E, ce, e1, e2, hq, hce, hcv, hcl, h1, hL, h2, h3⟩, st⟩
  · dsimp only [Pt.U, Pt.locs, Pt.cells, Pt.slots] at X' e1 e2 h1 h2 h3 st
    subst h1; subst h2; subst h3
    exact Or.inl ⟨v, (T.setVm vm₁).calling g' mk (Value.ref b :: As).toArray, t, U', L, hT, X', hL, e1, e2, hq, st⟩
  · dsimp only [Pt.U, Pt.locs, Pt.cells, Pt.slots] at X' e1 e2 h1 h2 h3 st hcl
    subst h1; subst h2; subst h3
    exact Or.inr ⟨q, (T.setVm vm₁).calling g' mk (Value.ref b :: As).toArray, t, U', L, E, ce, hT, X', hL, e1, e2, hq, hce, hcv, vx_cls hW₁ hcl, st⟩
theorem vx_runS (S : CallFix p m c cc nL s args Ts own) (hM : vx_Met l y ws rm Pc Qc XC mc ms free) (cw : CallB R s args own index y bytes maxL ret ws rm mc ms n ∧ (Cond.static y).before args s = true) (hp : PreS s H Pc As)
    (hg : g.method = m) (hn : As.length = n) (hsize : g.locals.size = nL) (hstack : g.stack = As.reverse ++ rest) (hW : 2 * g.monitorRoom + (rest.map fun v => v.category).sum ≤ 8) (hdg : decode cc g.pc = .ok (.invokestatic index, 3)) (hf : cells + mc ≤ R.cells ∧ slots + ms ≤ R.slots) :
    vx_Run p l e R s m args below meth c H locs cells slots mc ms g rest (Qc As.toArray) XC free := by
  have hK : vx_Back l R p e below s args y 3 8 (PreOf R mc ms Pc) (PostOf Qc mc ms free) (vx_Post XC mc ms free) := vx_callBack cw.1 hM hp.1
  obtain ⟨⟨-, -, -, -, -, -, hcode, hini, hy, hlen, hl⟩, hstt⟩ := cw
  obtain ⟨hx, hb, hml, ho, -⟩ := S
  intro T hT X
  rcases vx_callS X hx (bytes := bytes) (maxL := maxL) (ret := ret) ho hl hstt hini hcode hy hK hg (hsize.trans hml.symm) (argsL := As) (rest := rest) (fun sig h => hn.trans (hlen sig h)) hstack hW (by rw [hb]; exact hdg)
    (fun vm₁ hW₁ => ⟨hf.1, hf.2, hp.2 (T.setVm vm₁) hT hW₁⟩) with ⟨v, vm₁, ⟨U', l2, c2, s2⟩, hW₁, X', ⟨g', mk, t, L, e1, e2, hq, h1, hL, h2, h3⟩, st⟩ | ⟨q, vm₁, ⟨U', l2, c2, s2⟩, hW₁, X', ⟨g', mk, t, L, E, ce, e1, e2, hq, hce, hcv, hcl, h1, hL, h2, h3⟩, st⟩
  · dsimp only [Pt.U, Pt.locs, Pt.cells, Pt.slots] at X' e1 e2 h1 h2 h3 st
    subst h1; subst h2; subst h3
    exact Or.inl ⟨v, (T.setVm vm₁).calling g' mk As.toArray, t, U', L, hT, X', hL, e1, e2, hq, st⟩
  · dsimp only [Pt.U, Pt.locs, Pt.cells, Pt.slots] at X' e1 e2 h1 h2 h3 st hcl
    subst h1; subst h2; subst h3
    exact Or.inr ⟨q, (T.setVm vm₁).calling g' mk As.toArray, t, U', L, E, ce, hT, X', hL, e1, e2, hq, hce, hcv, vx_cls hW₁ hcl, st⟩
end Runs
section Rows
variable {p : Program} {l : Launch} {e : Env} {R : Room} {s : State} {m : MethodId} {args : Array Value} {below : List Frame} {meth : Method} {c : Code} {H : Heap} {locs : List Loc} {cells slots : Nat} {Q : State → Prop}
variable {mc ms : Nat} {free : Addr → Prop} {A0 A1 : Nat → Prop} {H0 : Heap} {a : Array Value} {pc : Nat} {ls : Array Slot} {st0 rest : List Value}
theorem vx_keep {st₀ t T' : State} {L : List Loc} (h0 : st₀.heap = H) (e1 : T'.heap = t.heap) (hS : va_S A0 H0 H locs) (hA : ∀ q, q < H.size → A1 q → A0 q) (hf : ∀ q, free q → A0 q) (hL : ∀ q ∈ L, free q.base) (hF : va_F A1 st₀ t) :
    H.size ≤ T'.heap.size ∧ (∀ q : Nat, q < H.size → ¬ A1 q → T'.heap[q]? = H[q]?) ∧ va_S A0 H0 T'.heap (locs ++ L) := by
  obtain ⟨hz, hk⟩ := hF
  rw [h0] at hz hk
  exact ⟨by rw [e1]; exact hz, fun q h1 h2 => by rw [e1]; exact hk q h1 h2,
    ⟨Nat.le_trans hS.1 (by rw [e1]; exact hz), fun q h1 h2 => by rw [e1, hk q (Nat.lt_of_lt_of_le h1 hS.1) (fun z => h2 (hA q (Nat.lt_of_lt_of_le h1 hS.1) z))]; exact hS.2.1 q h1 h2, fun q hq => by
      rcases List.mem_append.mp hq with h | h
      · exact hS.2.2 q h
      · exact hf _ (hL q h)⟩⟩
theorem vx_calli {S SX : Type} {post : Int32 → S → Prop} {px : SX → Prop} {B : S → State → Prop} {BX : String → SX → State → Prop} {AX : Nat → Prop} (hr : vx_Run p l e R s m args below meth c H locs cells slots mc ms (F0 m pc ls st0) rest (va_Qi post B A1 a) (vx_X px BX AX) free) (hS : va_S A0 H0 H locs) (hA : ∀ q, q < H.size → A1 q → A0 q) (hf : ∀ q, free q → A0 q) (hAX : ∀ q, q < H.size → AX q → A0 q)
    (kx : ∀ (E : String) (ce : Cell) (q9 : Addr) (u : SX) (t : State) (H1 : Heap) (locs1 : List Loc), t.heap = H1 → s.vm.Alike t.vm → px u → BX E u t → H.size ≤ H1.size → (∀ q : Nat, q < H.size → ¬ AX q → H1[q]? = H[q]?) → va_S A0 H0 H1 locs1 → H1[q9]? = some ce → ce.vm = .none → s.vm.findClass E = some ce.cls → vx_W p l e R s m args below meth c H1 locs1 (cells + mc) (slots + ms) Q (F0 m pc ls rest) q9)
    (kk : ∀ (r : Int32) (u : S) (t : State) (H1 : Heap) (locs1 : List Loc), t.heap = H1 → s.vm.Alike t.vm → post r u → B u t → H.size ≤ H1.size → (∀ q : Nat, q < H.size → ¬ A1 q → H1[q]? = H[q]?) → va_S A0 H0 H1 locs1 → W p l e R s m args below meth c H1 locs1 (cells + mc) (slots + ms) Q (F0 m (pc + 3) ls (.int r :: rest))) : W p l e R s m args below meth c H locs cells slots Q (F0 m pc ls st0) := by
  intro T hT X
  rcases hr T hT X with ⟨v, st₀, t, T', L, h0, X', hL, e1, e2, ⟨⟨r, u, hv, hp, hb⟩, hF⟩, st⟩ | ⟨q, st₀, t, T', L, E, ce, h0, X', hL, e1, e2, ⟨u, hp, hb, hF⟩, hce, hcv, hcl, st⟩
  · cases hv
    obtain ⟨k1, k2, k3⟩ := vx_keep h0 e1 hS hA hf hL hF
    obtain ⟨t2, a1, b1⟩ := kk r u t T'.heap (locs ++ L) e1.symm (by rw [← e2]; exact X'.warmed.alike) hp hb k1 k2 k3 T' rfl X'
    exact ⟨t2, st t2 a1, b1⟩
  · obtain ⟨k1, k2, k3⟩ := vx_keep h0 e1 hS hAX hf hL hF
    obtain ⟨t2, a1, b1⟩ := kx E ce q u t T'.heap (locs ++ L) e1.symm (by rw [← e2]; exact X'.warmed.alike) hp hb k1 k2 k3 (by rw [e1]; exact hce) hcv hcl T' rfl X'
    exact ⟨t2, st.trans a1, b1⟩
theorem vx_calll {S SX : Type} {post : Int64 → S → Prop} {px : SX → Prop} {B : S → State → Prop} {BX : String → SX → State → Prop} {AX : Nat → Prop} (hr : vx_Run p l e R s m args below meth c H locs cells slots mc ms (F0 m pc ls st0) rest (va_Ql post B A1 a) (vx_X px BX AX) free) (hS : va_S A0 H0 H locs) (hA : ∀ q, q < H.size → A1 q → A0 q) (hf : ∀ q, free q → A0 q) (hAX : ∀ q, q < H.size → AX q → A0 q)
    (kx : ∀ (E : String) (ce : Cell) (q9 : Addr) (u : SX) (t : State) (H1 : Heap) (locs1 : List Loc), t.heap = H1 → s.vm.Alike t.vm → px u → BX E u t → H.size ≤ H1.size → (∀ q : Nat, q < H.size → ¬ AX q → H1[q]? = H[q]?) → va_S A0 H0 H1 locs1 → H1[q9]? = some ce → ce.vm = .none → s.vm.findClass E = some ce.cls → vx_W p l e R s m args below meth c H1 locs1 (cells + mc) (slots + ms) Q (F0 m pc ls rest) q9)
    (kk : ∀ (r : Int64) (u : S) (t : State) (H1 : Heap) (locs1 : List Loc), t.heap = H1 → s.vm.Alike t.vm → post r u → B u t → H.size ≤ H1.size → (∀ q : Nat, q < H.size → ¬ A1 q → H1[q]? = H[q]?) → va_S A0 H0 H1 locs1 → W p l e R s m args below meth c H1 locs1 (cells + mc) (slots + ms) Q (F0 m (pc + 3) ls (.long r :: rest))) : W p l e R s m args below meth c H locs cells slots Q (F0 m pc ls st0) := by
  intro T hT X
  rcases hr T hT X with ⟨v, st₀, t, T', L, h0, X', hL, e1, e2, ⟨⟨r, u, hv, hp, hb⟩, hF⟩, st⟩ | ⟨q, st₀, t, T', L, E, ce, h0, X', hL, e1, e2, ⟨u, hp, hb, hF⟩, hce, hcv, hcl, st⟩
  · cases hv
    obtain ⟨k1, k2, k3⟩ := vx_keep h0 e1 hS hA hf hL hF
    obtain ⟨t2, a1, b1⟩ := kk r u t T'.heap (locs ++ L) e1.symm (by rw [← e2]; exact X'.warmed.alike) hp hb k1 k2 k3 T' rfl X'
    exact ⟨t2, st t2 a1, b1⟩
  · obtain ⟨k1, k2, k3⟩ := vx_keep h0 e1 hS hAX hf hL hF
    obtain ⟨t2, a1, b1⟩ := kx E ce q u t T'.heap (locs ++ L) e1.symm (by rw [← e2]; exact X'.warmed.alike) hp hb k1 k2 k3 (by rw [e1]; exact hce) hcv hcl T' rfl X'
    exact ⟨t2, st.trans a1, b1⟩
theorem vx_callf {S SX : Type} {post : UInt32 → S → Prop} {px : SX → Prop} {B : S → State → Prop} {BX : String → SX → State → Prop} {AX : Nat → Prop} (hr : vx_Run p l e R s m args below meth c H locs cells slots mc ms (F0 m pc ls st0) rest (va_Qf post B A1 a) (vx_X px BX AX) free) (hS : va_S A0 H0 H locs) (hA : ∀ q, q < H.size → A1 q → A0 q) (hf : ∀ q, free q → A0 q) (hAX : ∀ q, q < H.size → AX q → A0 q)
    (kx : ∀ (E : String) (ce : Cell) (q9 : Addr) (u : SX) (t : State) (H1 : Heap) (locs1 : List Loc), t.heap = H1 → s.vm.Alike t.vm → px u → BX E u t → H.size ≤ H1.size → (∀ q : Nat, q < H.size → ¬ AX q → H1[q]? = H[q]?) → va_S A0 H0 H1 locs1 → H1[q9]? = some ce → ce.vm = .none → s.vm.findClass E = some ce.cls → vx_W p l e R s m args below meth c H1 locs1 (cells + mc) (slots + ms) Q (F0 m pc ls rest) q9)
    (kk : ∀ (r : UInt32) (u : S) (t : State) (H1 : Heap) (locs1 : List Loc), t.heap = H1 → s.vm.Alike t.vm → post r u → B u t → H.size ≤ H1.size → (∀ q : Nat, q < H.size → ¬ A1 q → H1[q]? = H[q]?) → va_S A0 H0 H1 locs1 → W p l e R s m args below meth c H1 locs1 (cells + mc) (slots + ms) Q (F0 m (pc + 3) ls (.float r :: rest))) : W p l e R s m args below meth c H locs cells slots Q (F0 m pc ls st0) := by
  intro T hT X
  rcases hr T hT X with ⟨v, st₀, t, T', L, h0, X', hL, e1, e2, ⟨⟨r, u, hv, hp, hb⟩, hF⟩, st⟩ | ⟨q, st₀, t, T', L, E, ce, h0, X', hL, e1, e2, ⟨u, hp, hb, hF⟩, hce, hcv, hcl, st⟩
  · cases hv
    obtain ⟨k1, k2, k3⟩ := vx_keep h0 e1 hS hA hf hL hF
    obtain ⟨t2, a1, b1⟩ := kk r u t T'.heap (locs ++ L) e1.symm (by rw [← e2]; exact X'.warmed.alike) hp hb k1 k2 k3 T' rfl X'
    exact ⟨t2, st t2 a1, b1⟩
  · obtain ⟨k1, k2, k3⟩ := vx_keep h0 e1 hS hAX hf hL hF
    obtain ⟨t2, a1, b1⟩ := kx E ce q u t T'.heap (locs ++ L) e1.symm (by rw [← e2]; exact X'.warmed.alike) hp hb k1 k2 k3 (by rw [e1]; exact hce) hcv hcl T' rfl X'
    exact ⟨t2, st.trans a1, b1⟩
theorem vx_calld {S SX : Type} {post : UInt64 → S → Prop} {px : SX → Prop} {B : S → State → Prop} {BX : String → SX → State → Prop} {AX : Nat → Prop} (hr : vx_Run p l e R s m args below meth c H locs cells slots mc ms (F0 m pc ls st0) rest (va_Qd post B A1 a) (vx_X px BX AX) free) (hS : va_S A0 H0 H locs) (hA : ∀ q, q < H.size → A1 q → A0 q) (hf : ∀ q, free q → A0 q) (hAX : ∀ q, q < H.size → AX q → A0 q)
    (kx : ∀ (E : String) (ce : Cell) (q9 : Addr) (u : SX) (t : State) (H1 : Heap) (locs1 : List Loc), t.heap = H1 → s.vm.Alike t.vm → px u → BX E u t → H.size ≤ H1.size → (∀ q : Nat, q < H.size → ¬ AX q → H1[q]? = H[q]?) → va_S A0 H0 H1 locs1 → H1[q9]? = some ce → ce.vm = .none → s.vm.findClass E = some ce.cls → vx_W p l e R s m args below meth c H1 locs1 (cells + mc) (slots + ms) Q (F0 m pc ls rest) q9)
    (kk : ∀ (r : UInt64) (u : S) (t : State) (H1 : Heap) (locs1 : List Loc), t.heap = H1 → s.vm.Alike t.vm → post r u → B u t → H.size ≤ H1.size → (∀ q : Nat, q < H.size → ¬ A1 q → H1[q]? = H[q]?) → va_S A0 H0 H1 locs1 → W p l e R s m args below meth c H1 locs1 (cells + mc) (slots + ms) Q (F0 m (pc + 3) ls (.double r :: rest))) : W p l e R s m args below meth c H locs cells slots Q (F0 m pc ls st0) := by
  intro T hT X
  rcases hr T hT X with ⟨v, st₀, t, T', L, h0, X', hL, e1, e2, ⟨⟨r, u, hv, hp, hb⟩, hF⟩, st⟩ | ⟨q, st₀, t, T', L, E, ce, h0, X', hL, e1, e2, ⟨u, hp, hb, hF⟩, hce, hcv, hcl, st⟩
  · cases hv
    obtain ⟨k1, k2, k3⟩ := vx_keep h0 e1 hS hA hf hL hF
    obtain ⟨t2, a1, b1⟩ := kk r u t T'.heap (locs ++ L) e1.symm (by rw [← e2]; exact X'.warmed.alike) hp hb k1 k2 k3 T' rfl X'
    exact ⟨t2, st t2 a1, b1⟩
  · obtain ⟨k1, k2, k3⟩ := vx_keep h0 e1 hS hAX hf hL hF
    obtain ⟨t2, a1, b1⟩ := kx E ce q u t T'.heap (locs ++ L) e1.symm (by rw [← e2]; exact X'.warmed.alike) hp hb k1 k2 k3 (by rw [e1]; exact hce) hcv hcl T' rfl X'
    exact ⟨t2, st.trans a1, b1⟩
theorem vx_callv {S SX : Type} {post : S → Prop} {px : SX → Prop} {B : S → State → Prop} {BX : String → SX → State → Prop} {AX : Nat → Prop} (hr : vx_Run p l e R s m args below meth c H locs cells slots mc ms (F0 m pc ls st0) rest (va_Qv post B A1 a) (vx_X px BX AX) free) (hS : va_S A0 H0 H locs) (hA : ∀ q, q < H.size → A1 q → A0 q) (hf : ∀ q, free q → A0 q) (hAX : ∀ q, q < H.size → AX q → A0 q)
    (kx : ∀ (E : String) (ce : Cell) (q9 : Addr) (u : SX) (t : State) (H1 : Heap) (locs1 : List Loc), t.heap = H1 → s.vm.Alike t.vm → px u → BX E u t → H.size ≤ H1.size → (∀ q : Nat, q < H.size → ¬ AX q → H1[q]? = H[q]?) → va_S A0 H0 H1 locs1 → H1[q9]? = some ce → ce.vm = .none → s.vm.findClass E = some ce.cls → vx_W p l e R s m args below meth c H1 locs1 (cells + mc) (slots + ms) Q (F0 m pc ls rest) q9)
    (kk : ∀ (u : S) (t : State) (H1 : Heap) (locs1 : List Loc), t.heap = H1 → s.vm.Alike t.vm → post u → B u t → H.size ≤ H1.size → (∀ q : Nat, q < H.size → ¬ A1 q → H1[q]? = H[q]?) → va_S A0 H0 H1 locs1 → W p l e R s m args below meth c H1 locs1 (cells + mc) (slots + ms) Q (F0 m (pc + 3) ls (rest))) : W p l e R s m args below meth c H locs cells slots Q (F0 m pc ls st0) := by
  intro T hT X
  rcases hr T hT X with ⟨v, st₀, t, T', L, h0, X', hL, e1, e2, ⟨⟨u, hv, hp, hb⟩, hF⟩, st⟩ | ⟨q, st₀, t, T', L, E, ce, h0, X', hL, e1, e2, ⟨u, hp, hb, hF⟩, hce, hcv, hcl, st⟩
  · cases hv
    obtain ⟨k1, k2, k3⟩ := vx_keep h0 e1 hS hA hf hL hF
    obtain ⟨t2, a1, b1⟩ := kk u t T'.heap (locs ++ L) e1.symm (by rw [← e2]; exact X'.warmed.alike) hp hb k1 k2 k3 T' rfl X'
    exact ⟨t2, st t2 a1, b1⟩
  · obtain ⟨k1, k2, k3⟩ := vx_keep h0 e1 hS hAX hf hL hF
    obtain ⟨t2, a1, b1⟩ := kx E ce q u t T'.heap (locs ++ L) e1.symm (by rw [← e2]; exact X'.warmed.alike) hp hb k1 k2 k3 (by rw [e1]; exact hce) hcv hcl T' rfl X'
    exact ⟨t2, st.trans a1, b1⟩
/-- caught by the row x of this method's table; the rows ahead don't take it -/
theorem vx_catch {own name : String} {E : String} {ce : Cell} {q : Addr} (hown : s.vm.findClass own = some m.cls) (pre : List ExceptionTableEntry) (x : ExceptionTableEntry) (suf : List ExceptionTableEntry) (hsplit : c.exceptionTable.toList = pre ++ x :: suf)
    (hpass : ∀ z ∈ pre, covers z pc = false ∨ (z.catchType ≠ 0 ∧ ∃ nm : String, (Cond.classLink own z.catchType nm).before args s = true ∧ va_Nc E nm s)) (hx : covers x pc = true) (h0 : x.catchType ≠ 0)
    (hlink : (Cond.classLink own x.catchType name).before args s = true) (hcast : (Cond.castable E name).before args s = true) (hcell : H[q]? = some ce) (hv : ce.vm = .none) (hcl : s.vm.findClass E = some ce.cls)
    (kk : W p l e R s m args below meth c H locs cells slots Q (F0 m x.handlerPc ls [.ref q])) : vx_W p l e R s m args below meth c H locs cells slots Q (F0 m pc ls rest) q := by
  intro T hT X
  have hpl : e.platform.magicAccessors = ({} : Platform).magicAccessors := by rw [X.admits.platform]
  obtain ⟨c3, c4, hc3, hc4, hasg⟩ := Cond.castable_spec hcast
  cases Option.some.inj (hc3.symm.trans hcl)
  obtain ⟨c5, hc5, hcl5⟩ := Cond.classLink_spec hown hlink e.platform hpl
  cases Option.some.inj (hc4.symm.trans hc5)
  obtain ⟨vm', X', st⟩ := X.thenCaughtThrough q (g := F0 m pc ls rest) rfl (Steps.refl _) (by rw [hT]; exact hcell) (by rw [hv]; rfl) (by obtain ⟨k9, h9, -⟩ := Vm.findClass_spec hcl; exact ⟨k9, h9⟩) pre x suf hsplit
    (fun z hz => by
      rcases hpass z hz with h | ⟨hz0, nm, hl1, hn1⟩
      · exact Or.inl h
      · obtain ⟨c6, hc6, hcl6⟩ := Cond.classLink_spec hown hl1 e.platform hpl
        obtain ⟨a8, b8, h1, h2, h3⟩ := hn1
        cases Option.some.inj (h1.symm.trans hcl)
        cases Option.some.inj (h2.symm.trans hc6)
        exact Or.inr ⟨hz0, _, hcl6, h3⟩) hx (Or.inr ⟨h0, c4, hcl5, hasg⟩)
  obtain ⟨t, a1, b1⟩ := kk (T.setVm vm') hT X'
  exact ⟨t, st.trans a1, b1⟩
end Rows
section Ends
variable {p : Program} {l : Launch} {e : Env} {R : Room} {s : State} {m : MethodId} {args : Array Value} {below : List Frame} {meth : Method} {c : Code} {H : Heap} {locs : List Loc} {cells slots : Nat} {Q : State → Prop}
variable {mc ms : Nat} {free : Addr → Prop} {A0 A1 : Nat → Prop} {H0 : Heap} {a : Array Value} {ls : Array Slot} {st0 rest : List Value}
variable {Qc : Array Value → State → Outcome → State → Prop} {XC : String → State → State → Prop}
/-- what a body that may throw owes at its end -/
def vx_MQ (below : List Frame) (Qc : Array Value → State → Outcome → State → Prop) (XC : String → State → State → Prop) (a : Array Value) (s : State) (mc ms : Nat) (free : Addr → Prop) : State → Prop := fun t =>
  ∃ o, t.status = .running ∧ Ended t below o ∧ vx_Q Qc XC mc ms free a s o t
theorem vx_ret {g : JFrame} {mc ms : Nat} (k : W p l e R s m args below meth c H locs cells slots (MQ below Qc args s mc ms free) g) : W p l e R s m args below meth c H locs cells slots (vx_MQ below Qc XC args s mc ms free) g := by
  intro T hT X
  obtain ⟨t, a1, o, b1, b2, b3, b4⟩ := k T hT X
  exact ⟨t, a1, o, b1, b2, Or.inl ⟨b3, b4⟩⟩
/-- not caught here: it goes on to the caller -/
theorem vx_widen {g : JFrame} {q : Addr} {k n : Nat} (h1 : cells ≤ k) (h2 : slots ≤ n) (kk : vx_W p l e R s m args below meth c H locs k n Q g q) : vx_W p l e R s m args below meth c H locs cells slots Q g q := fun T hT X => kk T hT (stand_widen X h1 h2)
theorem vx_out {pc : Nat} {E : String} {ce : Cell} {q : Addr} {mc ms : Nat} (hout : ∀ x ∈ c.exceptionTable.toList, covers x pc = false) (hlocks : meth.locks = false) (hcell : H[q]? = some ce) (hv : ce.vm = .none) (hcl : s.vm.findClass E = some ce.cls)
    (hx : ∀ t : State, t.heap = H → s.vm.Alike t.vm → XC E s t) (hf : ∀ z ∈ locs, free z.base) (hc : cells ≤ mc) (hs : slots ≤ ms) :
    vx_W p l e R s m args below meth c H locs cells slots (vx_MQ below Qc XC args s mc ms free) (F0 m pc ls rest) q := by
  intro T hT X
  obtain ⟨st1, hrun, hend, hW, hsm⟩ := X.leaveThrown q (g := F0 m pc ls rest) rfl rfl rfl hout hlocks
  have hcell9 : (T.setFrames (.throwing q :: below)).heap[q]? = some ce := by
    show T.heap[q]? = some ce
    rw [hT]; exact hcell
  exact ⟨_, st1, .threw q, hrun, hend, Or.inr ⟨q, rfl, E, ce, locs, hx _ hT hW.alike, hcell9, hv, hcl, hW, hsm.mono hc hs, hf⟩⟩
theorem vx_frame {U : State} {k n : Nat} (h : s.sameButNew ({ U with vm := s.vm } : State) locs k n) : s.heap.size ≤ U.heap.size ∧ ∀ q : Nat, q < s.heap.size → (∀ z ∈ locs, z.base ≠ q) → U.heap[q]? = s.heap[q]? := by
  obtain ⟨-, h2, -, -, -, h6⟩ := h
  refine ⟨h2, fun q hq hz => ?_⟩
  obtain ⟨c9, e1, e2, e3, e4⟩ := h6 q _ (Array.getElem?_eq_getElem hq)
  have hs : c9.slots = (s.heap[q]).slots := Array.ext_getElem? fun i => e4 i fun hm => hz _ hm rfl
  have h9 : c9 = s.heap[q] := by
    rw [hs] at e2
    exact e2
  have e5 : U.heap[q]? = some c9 := e1
  rw [e5, h9, Array.getElem?_eq_getElem hq]
/-- the words of a throw but the four that speak of the heap -/
def vx_no (w : Cond) : Bool := decide (w ≠ .isRef (.static Bundle.tN "UNASSIGNED_STACK" Bundle.steD)) && decide (w ≠ .isRef (.static Bundle.tN "SUPPRESSED_SENTINEL" Bundle.listD)) && decide (w ≠ .laysStatic Bundle.tN "UNASSIGNED_STACK" Bundle.steD) && decide (w ≠ .laysStatic Bundle.tN "SUPPRESSED_SENTINEL" Bundle.listD)
def vx_at0 (own : String) (ic : Nat) (X : String) (names : List String) : List Cond := (Bundle.ownAtoms0 own ic X names).filter vx_no
def vx_atS (own : String) (ic : Nat) (X : String) (names : List String) : List Cond := (Bundle.ownAtoms own ic X names).filter vx_no
/-- a word that the tables alone decide, or a good one -/
def vx_ot (w : Cond) : Bool := w.onTables || goodWord w
theorem vx_ot_at {args a' : Array Value} {s U : State} {w : Cond} (hW : s.WarmedH U.vm) (hvm : s.vm = U.vm) (hg : vx_ot w = true) (h : w.before args s = true) : w.before a' U = true := by
  simp only [vx_ot, Bool.or_eq_true] at hg
  rcases hg with hg | hg
  · exact va_tabs hg hvm h
  · exact word_at hW (good_of_word hg) h
/-- a list's words: the good ones out of the method's own list, the others by premises of their own -/
theorem vx_hat {args : Array Value} {s : State} {L B : List Cond} (h1 : ∀ w ∈ L.filter goodWord, w.before args s = true) (h2 : ∀ w ∈ L.filter (fun w => !goodWord w), w ∈ B) (h3 : ∀ w ∈ B, w.before args s = true) : ∀ w ∈ L, w.before args s = true := by
  intro w hw
  by_cases g : goodWord w = true
  · exact h1 w (List.mem_filter.mpr ⟨hw, g⟩)
  · refine h3 w (h2 w (List.mem_filter.mpr ⟨hw, ?_⟩))
    show (!goodWord w) = true
    cases hgw : goodWord w
    · rfl
    · exact absurd hgw g
theorem vx_c {args : Array Value} {s : State} {w : Cond} {B : List Cond} (h : w.before args s = true) (t : ∀ w ∈ B, w.before args s = true) : ∀ w' ∈ w :: B, w'.before args s = true := fun w' h' => (List.mem_cons.mp h').elim (fun e => by rw [e]; exact h) (t w')
theorem vx_n {args : Array Value} {s : State} : ∀ w ∈ ([] : List Cond), w.before args s = true := fun _ h => nomatch h
theorem vx_own {args : Array Value} {s : State} {L : List Cond} (h1 : ∀ w ∈ L.filter vx_no, w.before args s = true)
    (hU : (Cond.isRef (.static Bundle.tN "UNASSIGNED_STACK" Bundle.steD)).before args s = true) (hN : (Cond.isRef (.static Bundle.tN "SUPPRESSED_SENTINEL" Bundle.listD)).before args s = true)
    (lU : (Cond.laysStatic Bundle.tN "UNASSIGNED_STACK" Bundle.steD).before args s = true) (lN : (Cond.laysStatic Bundle.tN "SUPPRESSED_SENTINEL" Bundle.listD).before args s = true) : ∀ w ∈ L, w.before args s = true := by
  intro w hw
  by_cases e1 : w = .isRef (.static Bundle.tN "UNASSIGNED_STACK" Bundle.steD)
  · rw [e1]; exact hU
  · by_cases e2 : w = .isRef (.static Bundle.tN "SUPPRESSED_SENTINEL" Bundle.listD)
    · rw [e2]; exact hN
    · by_cases e3 : w = .laysStatic Bundle.tN "UNASSIGNED_STACK" Bundle.steD
      · rw [e3]; exact lU
      · by_cases e4 : w = .laysStatic Bundle.tN "SUPPRESSED_SENTINEL" Bundle.listD
        · rw [e4]; exact lN
        · exact h1 w (List.mem_filter.mpr ⟨hw, by unfold vx_no; rw [decide_eq_true e1, decide_eq_true e2, decide_eq_true e3, decide_eq_true e4]; rfl⟩)
/-- where a static field lies, its class's statics cell in H -/
def vx_L (C n d : String) (A : Nat → Prop) (U : State) (H : Heap) : Prop := ∃ (c : ClassId) (k : Class) (i : Nat) (f : Field) (a : Nat) (cell : Cell), U.vm.findClass C = some c ∧ U.fieldFound? C n d = some (c, k, i, f) ∧ f.isStatic = true ∧ k.statics = some a ∧ H[a]? = some cell ∧ cell.vm.isStatics = true ∧ cell.cls = c ∧ f.slot < cell.slots.size ∧ k.staticTypes[f.slot]? = some f.type ∧ ¬ A a
theorem vx_L.moved {C n d : String} {A : Nat → Prop} {u U : State} {H : Heap} (hvm : u.vm.Alike U.vm) (h : vx_L C n d A u H) : vx_L C n d A U H := by
  obtain ⟨c, k, i, f, a, cell, h1, h2, h3, h4, h5, h6, h7, h8, h9, h10⟩ := h
  obtain ⟨k', hi', he⟩ := State.fieldFound?_setVm hvm h2
  exact ⟨c, k', i, f, a, cell, by rw [hvm.findClass]; exact h1, hi', h3, by rw [he]; exact h4, h5, h6, h7, h8, by rw [he]; exact h9, h10⟩
theorem vx_L.kept {C n d : String} {A : Nat → Prop} {U : State} {H H1 : Heap} (h : vx_L C n d A U H) (hq : ∀ a : Nat, a < H.size → ¬ A a → H1[a]? = H[a]?) : vx_L C n d A U H1 := by
  obtain ⟨c, k, i, f, a, cell, h1, h2, h3, h4, h5, h6, h7, h8, h9, h10⟩ := h
  exact ⟨c, k, i, f, a, cell, h1, h2, h3, h4, by rw [hq a (Array.getElem?_eq_some_iff.mp h5).1 h10]; exact h5, h6, h7, h8, h9, h10⟩
theorem vx_L.narrow {C n d : String} {A B : Nat → Prop} {U : State} {H : Heap} (h : vx_L C n d A U H) (hAB : ∀ q, B q → A q) : vx_L C n d B U H := by
  obtain ⟨c, k, i, f, a, cell, h1, h2, h3, h4, h5, h6, h7, h8, h9, h10⟩ := h
  exact ⟨c, k, i, f, a, cell, h1, h2, h3, h4, h5, h6, h7, h8, h9, fun z => h10 (hAB _ z)⟩
theorem vx_L.word {C n d : String} {A : Nat → Prop} {s : State} {args : Array Value} (h : vx_L C n d A s s.heap) : (Cond.laysStatic C n d).before args s = true := by
  obtain ⟨c, k, i, f, a, cell, h1, h2, h3, h4, h5, h6, h7, h8, h9, -⟩ := h
  show (Cond.laysStatic C n d).holds args s none s [] = true
  exact Cond.laysStatic_of h1 h2 h3 h4 h5 h6 h7 h8 h9
/-- .. and what it holds: null or some reference -/
def vx_Zq (C n d : String) (A : Nat → Prop) (U : State) (H : Heap) : Prop := va_Zq C n d A U H ∧ vx_L C n d A U H
theorem vx_Zq.moved {C n d : String} {A : Nat → Prop} {u U : State} {H : Heap} (hvm : u.vm.Alike U.vm) (h : vx_Zq C n d A u H) : vx_Zq C n d A U H := ⟨va_Zq.moved hvm h.1, vx_L.moved hvm h.2⟩
theorem vx_Zq.kept {C n d : String} {A : Nat → Prop} {U : State} {H H1 : Heap} (h : vx_Zq C n d A U H) (hq : ∀ a : Nat, a < H.size → ¬ A a → H1[a]? = H[a]?) : vx_Zq C n d A U H1 := ⟨va_Zq.kept h.1 hq, vx_L.kept h.2 hq⟩
theorem vx_Zq.narrow {C n d : String} {A B : Nat → Prop} {U : State} {H : Heap} (h : vx_Zq C n d A U H) (hAB : ∀ q, B q → A q) : vx_Zq C n d B U H := ⟨va_Zq.narrow h.1 hAB, vx_L.narrow h.2 hAB⟩
theorem vx_Zqof {args : Array Value} {s : State} {C n d : String} {A : Nat → Prop} (hl : (Cond.laysStatic C n d).before args s = true) (hini : (Cond.initialized C).before args s = true) (h : (Cond.isRef (.static C n d)).before args s = true) (hA : ∀ a : Nat, a < s.heap.size → ¬ A a) : vx_Zq C n d A s s.heap := by
  refine ⟨va_Zqof hl hini h hA, ?_⟩
  obtain ⟨c, k, i, f, a, cell, h1, h2, h3, h4, h5, h6, h7, h8, h9⟩ := Cond.laysStatic_spec hl
  exact ⟨c, k, i, f, a, cell, h1, h2, h3, h4, h5, h6, h7, h8, h9, hA a (Array.getElem?_eq_some_iff.mp h5).1⟩
theorem vx_isRef {C n d : String} {v : Value} {A : Nat → Prop} {s : State} {args : Array Value} (h : va_Z C n d v A s s.heap) (hv : v.isRef = true) : (Cond.isRef (.static C n d)).before args s = true := by
  obtain ⟨cf, kf, fi, f, a, cell, h1, h2, h3, h4, h5, h6, h7, -⟩ := h
  have he : (Term.static C n d).eval args s none [] s = some v := by
    simp [Term.eval, State.fieldNamed?, h1, h2, h4, h5, h6, h7]
  simp only [Cond.before, Cond.holds, Cond.value, he]
  cases v <;> simp_all [Value.isRef]
theorem vx_isRefq {C n d : String} {A : Nat → Prop} {s : State} {args : Array Value} (h : va_Zq C n d A s s.heap) : (Cond.isRef (.static C n d)).before args s = true := by
  rcases h with h | ⟨t, h⟩
  · exact vx_isRef h rfl
  · exact vx_isRef h rfl
/-- the same frame, seen from here: as if the method were called anew in this heap -/
theorem vx_rebase {T : State} (X : Stand p l e R s m args below meth c T locs cells slots) {R' : Room} (hf : R'.frames ≤ R.frames) (hl : R'.locals ≤ R.locals) (hc : cells + R'.cells ≤ R.cells) (hs : slots + R'.slots ≤ R.slots) :
    Stand p l e R' ((T.setVm s.vm).setFrames (.invoking m args :: below)) m args below meth c T [] 0 0 := by
  have htop : (T.setVm s.vm).topJava?.isSome := X.here.top
  have hF : ((T.setVm s.vm).setFrames (.invoking m args :: below)).frames = .invoking m args :: below := State.frames_setFrames _ (State.cur_lt_of_top htop)
  obtain ⟨g₀, hg0⟩ := Option.isSome_iff_exists.mp htop
  obtain ⟨r, hr⟩ := State.topJava?_eq_some.mp hg0
  have hl9 : e.platform.stackLimits (T.setVm s.vm).me = e.platform.stackLimits s.me := X.limits
  have hb9 : (T.setVm s.vm).me.stackBytes = s.me.stackBytes := X.bytes
  refine ⟨X.admits, X.cas, X.clock, hF, ?_, X.hears, X.method, X.code, X.here, X.tail, X.warmed, ?_, ?_, ?_⟩
  · have h := X.room
    have hU : ((T.setVm s.vm).setFrames (.invoking m args :: below)).localsInUse = s.localsInUse := by
      rw [State.localsInUse_invoking hF (meth := meth) (c := c) X.method X.code, State.localsInUse_invoking X.frames X.method X.code]
    simp only [State.hasRoom, Bool.and_eq_true, decide_eq_true_eq] at h ⊢
    obtain ⟨⟨⟨⟨h1, h2, h3, h4, h5, h6⟩, h7⟩, h8⟩, h9⟩ := h
    rw [X.frames, List.length_cons] at h2 h3
    have q1 := X.heapSize
    have q2 := X.used
    simp only [hF, hU, List.length_cons, State.stackLimits_setFrames, State.stackBytes_setFrames, hl9, hb9]
    refine ⟨⟨⟨⟨by omega, by omega, by omega, by omega, by omega, h6⟩, ?_⟩, ?_⟩, X.book⟩
    · show T.heap.size + R'.cells ≤ e.platform.maxCells
      omega
    · show T.slotsUsed + R'.slots ≤ e.platform.maxSlots
      omega
  · rw [State.stackLimits_setFrames]; rfl
  · rw [State.stackBytes_setFrames]; rfl
  · refine ⟨?_, Nat.le_refl _, Nat.le_refl _, ?_, ?_, fun a c9 h9 => ⟨c9, h9, rfl, rfl, fun _ _ => rfl⟩⟩
    · obtain ⟨t, ht, -⟩ := State.frames_cons hr
      show T.setVm s.vm = { ((T.setVm s.vm).setFrames (.invoking m args :: below)).setFrames (T.setVm s.vm).frames with heap := T.heap, slotsUsed := T.slotsUsed }
      rw [State.setFrames_setFrames, State.setFrames_self ht]
      rfl
    · show T.slotsUsed = T.slotsUsed + ((T.heap.toList.drop T.heap.size).map (·.slots.size)).sum
      rw [List.drop_eq_nil_of_le (Nat.le_of_eq Array.length_toList)]
      rfl
    · show ((T.heap.toList.drop T.heap.size).map (·.slots.size)).sum ≤ 0
      rw [List.drop_eq_nil_of_le (Nat.le_of_eq Array.length_toList)]
      exact Nat.le_refl _
/-- 'throw new E()': new; dup; invokespecial; athrow -/
theorem vx_throw0 {cc : ByteArray} {pc : Nat} (hexec : p.tables.exec = Jvm.exec) (hb : c.code = cc) (hl : l.stackTraces = false) {own cls : String} {names : List String} {ik ic mc ms : Nat} {A : Nat → Prop}
    (hown : s.vm.findClass own = some m.cls) (hcls : Bundle.fit cls = true) (hnames : ∀ n ∈ names, Bundle.fit n = true)
    (hk : (Cond.classLink own ik cls).before args s = true) (hini : (Cond.initialized cls).before args s = true) (hat : ∀ w ∈ vx_at0 own ic cls names, w.before args s = true)
    (hgood : ∀ w ∈ Cond.classLink own ik cls :: Cond.initialized cls :: vx_at0 own ic cls names, vx_ot w = true)
    (hU : vx_Zq Bundle.tN "UNASSIGNED_STACK" Bundle.steD A s s.heap) (hN : vx_Zq Bundle.tN "SUPPRESSED_SENTINEL" Bundle.listD A s s.heap) (hS : va_S A s.heap H locs) (hsize : ls.size = c.maxLocals)
    (d0 : decode cc pc = .ok (.new ik, 3)) (d3 : decode cc (pc + 3) = .ok (.dup, 1)) (d4 : decode cc (pc + 4) = .ok (.invokespecial ic, 3)) (d7 : decode cc (pc + 7) = .ok (.athrow, 1))
    (hout : ∀ x ∈ c.exceptionTable.toList, covers x (pc + 7) = false)
    (hRframes : names.length + 3 < R.frames) (hRlocals : (rest.map fun v => v.category).sum + (13 * (names.length + 1) + 42) ≤ R.locals) (hRcells : cells + 1 ≤ R.cells) (hRslots : slots + 6 ≤ R.slots) (hlocks : meth.locks = false)
    (hx : ∀ t : State, s.vm.Alike t.vm → H.size ≤ t.heap.size → (∀ q : Nat, q < H.size → t.heap[q]? = H[q]?) → XC cls s t)
    (hf : ∀ z ∈ locs, free z.base) (hc : cells + 1 ≤ mc) (hs : slots + 6 ≤ ms) :
    W p l e R s m args below meth c H locs cells slots (vx_MQ below Qc XC args s mc ms free) (F0 m pc ls rest) := by
  intro T hT X
  have htr : e.platform.stackTraces = false := (show e.platform.stackTraces = l.stackTraces by rw [X.admits.platform]).trans hl
  have Y := vx_rebase X (R' := { frames := R.frames, locals := R.locals, cells := 1, slots := 6 }) (Nat.le_refl _) (Nat.le_refl _) hRcells hRslots
  obtain ⟨s', hA⟩ : ∃ z, z = (T.setVm s.vm).setFrames (.invoking m args :: below) := ⟨_, rfl⟩
  rw [← hA] at Y
  have hvm : s'.vm = s.vm := by rw [hA]; rfl
  have hhp : s'.heap = H := by rw [hA]; exact hT
  have hW0 : s.WarmedH s'.vm := by rw [hvm]; exact State.WarmedH.refl s
  have hat' : ∀ w ∈ vx_at0 own ic cls names, w.before args s' = true := fun w hw => vx_ot_at hW0 hvm.symm (hgood w (List.mem_cons_of_mem _ (List.mem_cons_of_mem _ hw))) (hat w hw)
  have hk' : (Cond.classLink own ik cls).before args s' = true := vx_ot_at hW0 hvm.symm (hgood _ List.mem_cons_self) hk
  have hini' : (Cond.initialized cls).before args s' = true := vx_ot_at hW0 hvm.symm (hgood _ (List.mem_cons_of_mem _ List.mem_cons_self)) hini
  have hU' : vx_Zq Bundle.tN "UNASSIGNED_STACK" Bundle.steD A s' s'.heap := by rw [hhp]; exact vx_Zq.moved hW0.alike (hU.kept hS.2.1)
  have hN' : vx_Zq Bundle.tN "SUPPRESSED_SENTINEL" Bundle.listD A s' s'.heap := by rw [hhp]; exact vx_Zq.moved hW0.alike (hN.kept hS.2.1)
  have h : ∀ w ∈ Bundle.ownAtoms0 own ic cls names, w.before args s' = true := vx_own hat' (vx_isRefq hU'.1) (vx_isRefq hN'.1) hU'.2.word hN'.2.word
  have hown' : s'.vm.findClass own = some m.cls := by rw [hvm]; exact hown
  have hins : (Cond.instantiable cls 6).before args s' = true := h _ (by simp [Bundle.ownAtoms0])
  obtain ⟨vm₁, cX, kX, hfX, hkX, -, -, X₁, st1⟩ := Y.newCold hexec (own := own) (C := cls) (index := ik) (n := 6) hown' hk' hins hini'
    (g := F0 m pc ls rest) rfl (by rw [hb]; exact d0) (Nat.le_refl _) (Nat.le_refl _)
  generalize hT1 : (T.setVm vm₁).pushCell { cls := cX, slots := kX.instanceTypes.map defaultValue, vm := .none } = T1 at X₁ st1
  have hcat : (Value.ref T.heap.size).category = 1 := rfl
  have hcellA : T1.heap[T.heap.size]? = some (freshCell cX kX) := by rw [← hT1]; exact State.heap_pushCell_size _ _
  have d3' : decode c.code (pc + 3) = .ok (.dup, 1) := by rw [hb]; exact d3
  obtain ⟨U, hsteps, hrun, hend, hW, hsame, ce, hce, hO⟩ := X₁.ctorThrow0 hexec htr (own := own) (cls := cls) (names := names) (ic := ic) hown' hcls hnames h (fun x hx => nomatch hx) hfX hkX hcellA (by rw [hhp, hT]; exact Nat.le_refl _)
    (g := { method := m, pc := pc + 4, locals := ls, stack := .ref T.heap.size :: .ref T.heap.size :: rest, locked := none }) rfl hsize rfl rfl (rest := rest) rfl
    (by rw [hb]; exact d4) (by rw [hb]; exact d7) hout hRframes (by simp only [List.map_cons, List.sum_cons, hcat]; omega) hlocks
  obtain ⟨f1, f2⟩ := vx_frame hsame
  rw [hhp] at f1 f2
  have hWs : s.WarmedH U.vm := State.WarmedH.trans hW0 hW
  have hcl : s.vm.findClass cls = some ce.cls := by
    have h9 := hO.cls
    rw [hvm] at h9
    exact h9
  have hall : s.sameButNew ({ U with vm := s.vm } : State) locs mc ms := by
    subst hA
    obtain ⟨e1, e2⟩ := hsame
    rw [State.setFrames_setFrames] at e1
    have h2 : (T.setVm s.vm).sameButNew ({ U with vm := s.vm } : State) [] (0 + 1) (0 + 6) := ⟨e1, e2⟩
    have h3 := X.same.trans h2
    rw [List.append_nil] at h3
    exact h3.mono hc hs
  refine ⟨U, ?_, .threw T.heap.size, hrun, hend, Or.inr ⟨T.heap.size, rfl, cls, ce, locs, hx U hWs.alike f1 (fun q hq => f2 q hq (fun z hz => nomatch hz)), hce, hO.vm, hcl, hWs, hall, hf⟩⟩
  refine st1 _ ?_
  show Steps p.tables e below (T1.setTop { method := m, pc := pc + 3, locals := ls, stack := .ref T.heap.size :: rest, locked := none }) _
  jvm_step X₁.here [X₁.here.top, hexec, d3', Value.category]
  exact hsteps
/-- 'throw new E("text")': new; dup; ldc; invokespecial; athrow -/
theorem vx_throwS {cc : ByteArray} {pc : Nat} (hexec : p.tables.exec = Jvm.exec) (hb : c.code = cc) (hl : l.stackTraces = false) {own cls text : String} {names : List String} {ik is ic mc ms sa : Nat} {A : Nat → Prop}
    (hown : s.vm.findClass own = some m.cls) (hcls : Bundle.fit cls = true) (hnames : ∀ n ∈ names, Bundle.fit n = true)
    (hk : (Cond.classLink own ik cls).before args s = true) (hini : (Cond.initialized cls).before args s = true) (hstr : vk_R own is text sa s) (hat : ∀ w ∈ vx_atS own ic cls names, w.before args s = true)
    (hgood : ∀ w ∈ Cond.classLink own ik cls :: Cond.initialized cls :: vx_atS own ic cls names, vx_ot w = true)
    (hU : vx_Zq Bundle.tN "UNASSIGNED_STACK" Bundle.steD A s s.heap) (hN : vx_Zq Bundle.tN "SUPPRESSED_SENTINEL" Bundle.listD A s s.heap) (hS : va_S A s.heap H locs) (hsize : ls.size = c.maxLocals)
    (d0 : decode cc pc = .ok (.new ik, 3)) (d3 : decode cc (pc + 3) = .ok (.dup, 1)) (d4 : decode cc (pc + 4) = .ok (.ldc is, 2)) (d6 : decode cc (pc + 6) = .ok (.invokespecial ic, 3)) (d9 : decode cc (pc + 9) = .ok (.athrow, 1))
    (hout : ∀ x ∈ c.exceptionTable.toList, covers x (pc + 9) = false)
    (hRframes : names.length + 3 < R.frames) (hRlocals : (rest.map fun v => v.category).sum + (13 * (names.length + 1) + 43) ≤ R.locals) (hRcells : cells + 1 ≤ R.cells) (hRslots : slots + 6 ≤ R.slots) (hlocks : meth.locks = false)
    (hx : ∀ t : State, s.vm.Alike t.vm → H.size ≤ t.heap.size → (∀ q : Nat, q < H.size → t.heap[q]? = H[q]?) → XC cls s t)
    (hf : ∀ z ∈ locs, free z.base) (hc : cells + 1 ≤ mc) (hs : slots + 6 ≤ ms) :
    W p l e R s m args below meth c H locs cells slots (vx_MQ below Qc XC args s mc ms free) (F0 m pc ls rest) := by
  intro T hT X
  have htr : e.platform.stackTraces = false := (show e.platform.stackTraces = l.stackTraces by rw [X.admits.platform]).trans hl
  have Y := vx_rebase X (R' := { frames := R.frames, locals := R.locals, cells := 1, slots := 6 }) (Nat.le_refl _) (Nat.le_refl _) hRcells hRslots
  obtain ⟨s', hA⟩ : ∃ z, z = (T.setVm s.vm).setFrames (.invoking m args :: below) := ⟨_, rfl⟩
  rw [← hA] at Y
  have hvm : s'.vm = s.vm := by rw [hA]; rfl
  have hhp : s'.heap = H := by rw [hA]; exact hT
  have hW0 : s.WarmedH s'.vm := by rw [hvm]; exact State.WarmedH.refl s
  have hat' : ∀ w ∈ vx_atS own ic cls names, w.before args s' = true := fun w hw => vx_ot_at hW0 hvm.symm (hgood w (List.mem_cons_of_mem _ (List.mem_cons_of_mem _ hw))) (hat w hw)
  have hk' : (Cond.classLink own ik cls).before args s' = true := vx_ot_at hW0 hvm.symm (hgood _ List.mem_cons_self) hk
  have hini' : (Cond.initialized cls).before args s' = true := vx_ot_at hW0 hvm.symm (hgood _ (List.mem_cons_of_mem _ List.mem_cons_self)) hini
  have hU' : vx_Zq Bundle.tN "UNASSIGNED_STACK" Bundle.steD A s' s'.heap := by rw [hhp]; exact vx_Zq.moved hW0.alike (hU.kept hS.2.1)
  have hN' : vx_Zq Bundle.tN "SUPPRESSED_SENTINEL" Bundle.listD A s' s'.heap := by rw [hhp]; exact vx_Zq.moved hW0.alike (hN.kept hS.2.1)
  have h : ∀ w ∈ Bundle.ownAtoms own ic cls names, w.before args s' = true := vx_own hat' (vx_isRefq hU'.1) (vx_isRefq hN'.1) hU'.2.word hN'.2.word
  have hown' : s'.vm.findClass own = some m.cls := by rw [hvm]; exact hown
  have hins : (Cond.instantiable cls 6).before args s' = true := h _ (by simp [Bundle.ownAtoms])
  obtain ⟨vm₁, cX, kX, hfX, hkX, -, -, X₁, st1⟩ := Y.newCold hexec (own := own) (C := cls) (index := ik) (n := 6) hown' hk' hins hini'
    (g := F0 m pc ls rest) rfl (by rw [hb]; exact d0) (Nat.le_refl _) (Nat.le_refl _)
  generalize hT1 : (T.setVm vm₁).pushCell { cls := cX, slots := kX.instanceTypes.map defaultValue, vm := .none } = T1 at X₁ st1
  have hcat : (Value.ref T.heap.size).category = 1 := rfl
  have hcellA : T1.heap[T.heap.size]? = some (freshCell cX kX) := by rw [← hT1]; exact State.heap_pushCell_size _ _
  have d3' : decode c.code (pc + 3) = .ok (.dup, 1) := by rw [hb]; exact d3
  have d4' : decode c.code (pc + 4) = .ok (.ldc is, 2) := by rw [hb]; exact d4
  have hstr' : vk_R own is text sa s' := vk_R.warm hW0 hstr
  obtain ⟨U, hsteps, hrun, hend, hW, hsame, ce, hce, hO⟩ := X₁.ctorThrowS hexec htr (own := own) (cls := cls) (names := names) (ic := ic) hown' hcls hnames h (fun x hx => nomatch hx) hfX hkX hcellA (by rw [hhp, hT]; exact Nat.le_refl _) (msg := .ref sa) rfl
    (g := { method := m, pc := pc + 6, locals := ls, stack := .ref sa :: .ref T.heap.size :: .ref T.heap.size :: rest, locked := none }) rfl hsize rfl rfl (rest := rest) rfl
    (by rw [hb]; exact d6) (by rw [hb]; exact d9) hout hRframes (by simp only [List.map_cons, List.sum_cons, hcat]; omega) hlocks
  obtain ⟨f1, f2⟩ := vx_frame hsame
  rw [hhp] at f1 f2
  have hWs : s.WarmedH U.vm := State.WarmedH.trans hW0 hW
  have hcl : s.vm.findClass cls = some ce.cls := by
    have h9 := hO.cls
    rw [hvm] at h9
    exact h9
  have hall : s.sameButNew ({ U with vm := s.vm } : State) locs mc ms := by
    subst hA
    obtain ⟨e1, e2⟩ := hsame
    rw [State.setFrames_setFrames] at e1
    have h2 : (T.setVm s.vm).sameButNew ({ U with vm := s.vm } : State) [] (0 + 1) (0 + 6) := ⟨e1, e2⟩
    have h3 := X.same.trans h2
    rw [List.append_nil] at h3
    exact h3.mono hc hs
  refine ⟨U, ?_, .threw T.heap.size, hrun, hend, Or.inr ⟨T.heap.size, rfl, cls, ce, locs, hx U hWs.alike f1 (fun q hq => f2 q hq (fun z hz => nomatch hz)), hce, hO.vm, hcl, hWs, hall, hf⟩⟩
  refine st1 _ ?_
  show Steps p.tables e below (T1.setTop { method := m, pc := pc + 3, locals := ls, stack := .ref T.heap.size :: rest, locked := none }) _
  jvm_step X₁.here [X₁.here.top, hexec, d3', Value.category]
  exact X₁.ldcString hexec (own := own) (text := text) (index := is) (a := sa) hown' hstr'.1 hstr'.2
    (g := { method := m, pc := pc + 4, locals := ls, stack := .ref T.heap.size :: .ref T.heap.size :: rest, locked := none }) rfl d4' _ hsteps
/-- 'throw new E("text")', the text by a wide index -/
theorem vx_throwSW {cc : ByteArray} {pc : Nat} (hexec : p.tables.exec = Jvm.exec) (hb : c.code = cc) (hl : l.stackTraces = false) {own cls text : String} {names : List String} {ik is ic mc ms sa : Nat} {A : Nat → Prop}
    (hown : s.vm.findClass own = some m.cls) (hcls : Bundle.fit cls = true) (hnames : ∀ n ∈ names, Bundle.fit n = true)
    (hk : (Cond.classLink own ik cls).before args s = true) (hini : (Cond.initialized cls).before args s = true) (hstr : vk_R own is text sa s) (hat : ∀ w ∈ vx_atS own ic cls names, w.before args s = true)
    (hgood : ∀ w ∈ Cond.classLink own ik cls :: Cond.initialized cls :: vx_atS own ic cls names, vx_ot w = true)
    (hU : vx_Zq Bundle.tN "UNASSIGNED_STACK" Bundle.steD A s s.heap) (hN : vx_Zq Bundle.tN "SUPPRESSED_SENTINEL" Bundle.listD A s s.heap) (hS : va_S A s.heap H locs) (hsize : ls.size = c.maxLocals)
    (d0 : decode cc pc = .ok (.new ik, 3)) (d3 : decode cc (pc + 3) = .ok (.dup, 1)) (d4 : decode cc (pc + 4) = .ok (.ldc_w is, 3)) (d7 : decode cc (pc + 7) = .ok (.invokespecial ic, 3)) (d10 : decode cc (pc + 10) = .ok (.athrow, 1))
    (hout : ∀ x ∈ c.exceptionTable.toList, covers x (pc + 10) = false)
    (hRframes : names.length + 3 < R.frames) (hRlocals : (rest.map fun v => v.category).sum + (13 * (names.length + 1) + 43) ≤ R.locals) (hRcells : cells + 1 ≤ R.cells) (hRslots : slots + 6 ≤ R.slots) (hlocks : meth.locks = false)
    (hx : ∀ t : State, s.vm.Alike t.vm → H.size ≤ t.heap.size → (∀ q : Nat, q < H.size → t.heap[q]? = H[q]?) → XC cls s t)
    (hf : ∀ z ∈ locs, free z.base) (hc : cells + 1 ≤ mc) (hs : slots + 6 ≤ ms) :
    W p l e R s m args below meth c H locs cells slots (vx_MQ below Qc XC args s mc ms free) (F0 m pc ls rest) := by
  intro T hT X
  have htr : e.platform.stackTraces = false := (show e.platform.stackTraces = l.stackTraces by rw [X.admits.platform]).trans hl
  have Y := vx_rebase X (R' := { frames := R.frames, locals := R.locals, cells := 1, slots := 6 }) (Nat.le_refl _) (Nat.le_refl _) hRcells hRslots
  obtain ⟨s', hA⟩ : ∃ z, z = (T.setVm s.vm).setFrames (.invoking m args :: below) := ⟨_, rfl⟩
  rw [← hA] at Y
  have hvm : s'.vm = s.vm := by rw [hA]; rfl
  have hhp : s'.heap = H := by rw [hA]; exact hT
  have hW0 : s.WarmedH s'.vm := by rw [hvm]; exact State.WarmedH.refl s
  have hat' : ∀ w ∈ vx_atS own ic cls names, w.before args s' = true := fun w hw => vx_ot_at hW0 hvm.symm (hgood w (List.mem_cons_of_mem _ (List.mem_cons_of_mem _ hw))) (hat w hw)
  have hk' : (Cond.classLink own ik cls).before args s' = true := vx_ot_at hW0 hvm.symm (hgood _ List.mem_cons_self) hk
  have hini' : (Cond.initialized cls).before args s' = true := vx_ot_at hW0 hvm.symm (hgood _ (List.mem_cons_of_mem _ List.mem_cons_self)) hini
  have hU' : vx_Zq Bundle.tN "UNASSIGNED_STACK" Bundle.steD A s' s'.heap := by rw [hhp]; exact vx_Zq.moved hW0.alike (hU.kept hS.2.1)
  have hN' : vx_Zq Bundle.tN "SUPPRESSED_SENTINEL" Bundle.listD A s' s'.heap := by rw [hhp]; exact vx_Zq.moved hW0.alike (hN.kept hS.2.1)
  have h : ∀ w ∈ Bundle.ownAtoms own ic cls names, w.before args s' = true := vx_own hat' (vx_isRefq hU'.1) (vx_isRefq hN'.1) hU'.2.word hN'.2.word
  have hown' : s'.vm.findClass own = some m.cls := by rw [hvm]; exact hown
  have hins : (Cond.instantiable cls 6).before args s' = true := h _ (by simp [Bundle.ownAtoms])
  obtain ⟨vm₁, cX, kX, hfX, hkX, -, -, X₁, st1⟩ := Y.newCold hexec (own := own) (C := cls) (index := ik) (n := 6) hown' hk' hins hini'
    (g := F0 m pc ls rest) rfl (by rw [hb]; exact d0) (Nat.le_refl _) (Nat.le_refl _)
  generalize hT1 : (T.setVm vm₁).pushCell { cls := cX, slots := kX.instanceTypes.map defaultValue, vm := .none } = T1 at X₁ st1
  have hcat : (Value.ref T.heap.size).category = 1 := rfl
  have hcellA : T1.heap[T.heap.size]? = some (freshCell cX kX) := by rw [← hT1]; exact State.heap_pushCell_size _ _
  have d3' : decode c.code (pc + 3) = .ok (.dup, 1) := by rw [hb]; exact d3
  have d4' : decode c.code (pc + 4) = .ok (.ldc_w is, 3) := by rw [hb]; exact d4
  have hstr' : vk_R own is text sa s' := vk_R.warm hW0 hstr
  obtain ⟨U, hsteps, hrun, hend, hW, hsame, ce, hce, hO⟩ := X₁.ctorThrowS hexec htr (own := own) (cls := cls) (names := names) (ic := ic) hown' hcls hnames h (fun x hx => nomatch hx) hfX hkX hcellA (by rw [hhp, hT]; exact Nat.le_refl _) (msg := .ref sa) rfl
    (g := { method := m, pc := pc + 7, locals := ls, stack := .ref sa :: .ref T.heap.size :: .ref T.heap.size :: rest, locked := none }) rfl hsize rfl rfl (rest := rest) rfl
    (by rw [hb]; exact d7) (by rw [hb]; exact d10) hout hRframes (by simp only [List.map_cons, List.sum_cons, hcat]; omega) hlocks
  obtain ⟨f1, f2⟩ := vx_frame hsame
  rw [hhp] at f1 f2
  have hWs : s.WarmedH U.vm := State.WarmedH.trans hW0 hW
  have hcl : s.vm.findClass cls = some ce.cls := by
    have h9 := hO.cls
    rw [hvm] at h9
    exact h9
  have hall : s.sameButNew ({ U with vm := s.vm } : State) locs mc ms := by
    subst hA
    obtain ⟨e1, e2⟩ := hsame
    rw [State.setFrames_setFrames] at e1
    have h2 : (T.setVm s.vm).sameButNew ({ U with vm := s.vm } : State) [] (0 + 1) (0 + 6) := ⟨e1, e2⟩
    have h3 := X.same.trans h2
    rw [List.append_nil] at h3
    exact h3.mono hc hs
  refine ⟨U, ?_, .threw T.heap.size, hrun, hend, Or.inr ⟨T.heap.size, rfl, cls, ce, locs, hx U hWs.alike f1 (fun q hq => f2 q hq (fun z hz => nomatch hz)), hce, hO.vm, hcl, hWs, hall, hf⟩⟩
  refine st1 _ ?_
  show Steps p.tables e below (T1.setTop { method := m, pc := pc + 3, locals := ls, stack := .ref T.heap.size :: rest, locked := none }) _
  jvm_step X₁.here [X₁.here.top, hexec, d3', Value.category]
  exact X₁.ldcStringW hexec (own := own) (text := text) (index := is) (a := sa) hown' hstr'.1 hstr'.2
    (g := { method := m, pc := pc + 4, locals := ls, stack := .ref T.heap.size :: .ref T.heap.size :: rest, locked := none }) rfl d4' _ hsteps
end Ends
section Bodies
variable {l : Launch}
theorem vx_ofW {y : MethodName} {ws ws' : List Cond} {rm : Room} {Pc : Array Value → State → Prop} {Qc : Array Value → State → Outcome → State → Prop} {XC : String → State → State → Prop} {mc ms : Nat} {free : Addr → Prop} {cc : ByteArray} {maxL : Nat} {ret : Option FieldType}
    (hy : plainName y.cls = true) (hw : ws = Cond.code y cc maxL ret :: ws')
    (body : ∀ p e s m args below meth c s₁, BodyLoose p l y (headSpec ws rm) cc maxL ret e s m args below meth c s₁ → c.maxLocals = maxL → (∀ x ∈ c.exceptionTable.toList, False) → Pc args s →
      W p l e (headSpec ws rm).room s m args below meth c s.heap [] 0 0 (vx_MQ below Qc XC args s mc ms free) (entryFrame m args maxL)) : vx_Met l y ws rm Pc Qc XC mc ms free := by
  refine MetFree.of_bodyS (code := cc) (maxLocals := maxL) (ret := ret) hy ?_ ?_
  · intro args s m h hn
    obtain ⟨meth, c, h1, h2, h3, h4, h5, h6, -, -⟩ := Cond.code_spec hn (atoms_spec (ws := ws) h _ (by rw [hw]; exact List.mem_cons_self))
    exact ⟨meth, c, h1, h2, h3, h4, h5, h6⟩
  · intro p e s m args below meth c s₁ B hml hP _
    have hh0 : s₁.heap = s.heap := by rw [B.state]; rfl
    have ht : ∀ x ∈ c.exceptionTable.toList, False := by
      obtain ⟨meth9, c9, h1, h2, -, -, -, -, h7, -⟩ := Cond.code_spec B.named (atoms_spec (ws := ws) B.pre _ (by rw [hw]; exact List.mem_cons_self))
      cases Option.some.inj (h1.symm.trans B.method)
      cases Option.some.inj (h2.symm.trans (Stand.of_body B).code)
      intro x hx
      rw [Array.isEmpty_iff.mp h7] at hx
      cases hx
    obtain ⟨t, a1, o, b1, b2, b3⟩ := body p e s m args below meth c s₁ B hml ht hP s₁ hh0 (Stand.of_body B)
    exact ⟨t, o, a1, b1, b2, b3⟩
/-- the table of a body with handlers -/
theorem vx_table {p : Program} {x y : MethodName} {S : Spec} {cc bytes : ByteArray} {maxL maxL' : Nat} {ret ret' : Option FieldType} {e : Env} {s s₁ : State} {m : MethodId} {args : Array Value} {below : List Frame} {meth : Method} {c : Code} {hh : List (Nat × Nat × Nat × Nat)}
    (B : BodyLoose p l y S cc maxL ret e s m args below meth c s₁) (h : (Cond.codeWith y bytes maxL' ret' hh).before args s = true) : c.exceptionTable.toList = tableOf hh := by
  obtain ⟨m9, meth9, c9, hn9, h1, h2, -, -, h6, -⟩ := Cond.codeWith_spec h
  cases Option.some.inj (hn9.symm.trans B.named)
  cases Option.some.inj (h1.symm.trans B.method)
  cases Option.some.inj (h2.symm.trans (Stand.of_body B).code)
  rw [← h6, table_eq]
end Bodies
end VXA
/-! ===== END ===== -/
/-! ===== BEGIN a static call of a method with an exception table ===== -/
section VXS
variable {p : Program} {l : Launch} {e : Env} {R : Room} {s : State} {m : MethodId} {args : Array Value} {below : List Frame} {meth : Method} {c : Code} {T : State} {H : Heap} {locs : List Loc} {cells slots : Nat}
abbrev vx_CSW (R : Room) (s : State) (args : Array Value) (own : String) (index : Nat) (y : MethodName) (bytes : ByteArray) (maxL : Nat) (ret : Option FieldType) (hh : List (Nat × Nat × Nat × Nat)) (ws : List Cond) (rm : Room) (mc ms n : Nat) : Prop :=
  (rm.cells = mc ∧ rm.slots = ms ∧ rm.frames + 1 ≤ R.frames ∧ 8 + (maxL + 11) + rm.locals ≤ R.locals ∧ (∀ w ∈ ws, ∀ (a' : Array Value) (U : State), s.WarmedH U.vm → w.before a' U = true) ∧ Cond.codeWith y bytes maxL ret hh ∈ ws) ∧
  (Cond.codeWith y bytes maxL ret hh).before args s = true ∧ (Cond.initialized y.cls).before args s = true ∧ (y.cls ≠ "java/lang/invoke/MethodHandle" ∧ y.cls ≠ "java/lang/invoke/VarHandle") ∧
  (∀ sig, parseMethodDescriptor y.desc = some sig → n = sig.parameters.length) ∧ (Cond.methodLink own index y).before args s = true ∧ (Cond.static y).before args s = true
theorem vx_cwSW {own : String} {index maxL mc ms : Nat} {y : MethodName} {bytes : ByteArray} {ret : Option FieldType} {hh : List (Nat × Nat × Nat × Nat)} {Ts ws ws' : List Cond} {rm : Room} (n : Nat) (ht : ∀ w ∈ Ts, w.before args s = true) (hT : GoodIn Ts (va_wsS own index y ws)) (hw : ws = Cond.codeWith y bytes maxL ret hh :: ws') (hrc : rm.cells = mc) (hrs : rm.slots = ms)
    (hd : y.cls ≠ "java/lang/invoke/MethodHandle" ∧ y.cls ≠ "java/lang/invoke/VarHandle" ∧ (parseMethodDescriptor y.desc).map (fun d => d.parameters.length) = some n) (hR : rm.frames + 1 ≤ R.frames ∧ 8 + (maxL + 11) + rm.locals ≤ R.locals) :
    vx_CSW R s args own index y bytes maxL ret hh ws rm mc ms n := by
  have ok : ∀ w ∈ va_wsS own index y ws, w.before args s = true := fun w h => ht w (hT w h).1
  have hG : GoodIn Ts ws := fun w h => hT w (by unfold va_wsS; exact List.mem_append_right _ h)
  have hc : Cond.codeWith y bytes maxL ret hh ∈ ws := by rw [hw]; exact List.mem_cons_self
  refine ⟨⟨hrc, hrs, hR.1, hR.2, pay_in ht hG, hc⟩, ht _ (hG _ hc).1, ok _ (by simp [va_wsS]), ⟨hd.1, hd.2.1⟩, fun sig h => ?_, ok _ (by simp [va_wsS]), ok _ (by simp [va_wsS])⟩
  have h2 := hd.2.2
  rw [h] at h2
  exact (Option.some.inj h2).symm
theorem vx_callSW (X : Stand p l e R s m args below meth c T locs cells slots) (hexec : p.tables.exec = Jvm.exec) {own : String} {index : Nat} {y : MethodName} {bytes : ByteArray} {maxL : Nat} {ret : Option FieldType} {hh : List (Nat × Nat × Nat × Nat)}
    (hown : s.vm.findClass own = some m.cls) (hlink : (Cond.methodLink own index y).before args s = true) (hstat : (Cond.static y).before args s = true) (hinit : (Cond.initialized y.cls).before args s = true)
    (hcode : (Cond.codeWith y bytes maxL ret hh).before args s = true) (hy : y.cls ≠ "java/lang/invoke/MethodHandle" ∧ y.cls ≠ "java/lang/invoke/VarHandle")
    {W9 : Nat} {Pre : Pt → Array Value → Prop} {Post : Pt → Array Value → Option Value → Pt → Prop} (hK : Back l R p e below s args y 3 W9 Pre Post)
    {g : JFrame} (hg : g.method = m) (hsize : g.locals.size = c.maxLocals) {argsL rest : List Value} (hlen : ∀ sig, parseMethodDescriptor y.desc = some sig → argsL.length = sig.parameters.length)
    (hstack : g.stack = argsL.reverse ++ rest) (hW : 2 * g.monitorRoom + (rest.map fun v => v.category).sum ≤ W9) (hdg : decode c.code g.pc = .ok (.invokestatic index, 3))
    (hpre : ∀ vm₁, s.WarmedH vm₁ → Pre ⟨T.setVm vm₁, locs, cells, slots⟩ argsL.toArray) :
    ∃ (v : Option Value) (vm₁ : Vm) (B : Pt), s.WarmedH vm₁ ∧ Stand p l e R s m args below meth c B.U B.locs B.cells B.slots ∧ Post ⟨T.setVm vm₁, locs, cells, slots⟩ argsL.toArray v B ∧
      ∀ target, Steps p.tables e below (B.U.setTop { g with pc := g.pc + 3, stack := v.toList ++ rest }) target → Steps p.tables e below (T.setTop g) target := by
  obtain ⟨mk, methM, cM, hnamed, hmethM, -, -, -, -, -, -, hsigM⟩ := Cond.codeWith_spec hcode
  have hstatic : methM.isStatic = true := Cond.static_spec hnamed hmethM hstat
  obtain ⟨kP, hkP, -⟩ := className_of_methodNamed hnamed
  have hinitP : kP.init = .initialized := Cond.initialized_spec (findClass_of_methodNamed hnamed) hkP hinit
  obtain ⟨vm₁, X₁, hstep₁⟩ := X.invokestatic hexec hown hlink hnamed hmethM hstatic hkP hinitP hy (g := g) hg (argsL := argsL) (rest := rest) (hlen _ hsigM) hstack hdg
  obtain ⟨v, B, X', hpost, hsteps⟩ := hK m meth c ⟨T.setVm vm₁, locs, cells, slots⟩ { g with stack := rest } (.invokestatic index) mk argsL.toArray X₁ hg hsize hdg hW (X₁.named hnamed) (hpre vm₁ X₁.warmed)
  exact ⟨v, vm₁, B, X₁.warmed, X', hpost, fun target h => hstep₁ _ fun acts => by rw [doInvoke_state]; exact hsteps.trans h⟩
theorem vx_runSW {y : MethodName} {bytes cc : ByteArray} {maxL nL mc ms n index : Nat} {ret : Option FieldType} {hh : List (Nat × Nat × Nat × Nat)} {ws : List Cond} {rm : Room} {Pc : Array Value → State → Prop} {Qc : Array Value → State → Outcome → State → Prop} {free : Addr → Prop} {Ts : List Cond} {own : String} {As rest : List Value} {g : JFrame}
    (S : CallFix p m c cc nL s args Ts own) (hM : Met l y ws rm Pc Qc mc ms free) (cw : vx_CSW R s args own index y bytes maxL ret hh ws rm mc ms n) (hp : PreS s H Pc As)
    (hg : g.method = m) (hn : As.length = n) (hsize : g.locals.size = nL) (hstack : g.stack = As.reverse ++ rest) (hW : 2 * g.monitorRoom + (rest.map fun v => v.category).sum ≤ 8) (hdg : decode cc g.pc = .ok (.invokestatic index, 3)) (hf : cells + mc ≤ R.cells ∧ slots + ms ≤ R.slots) :
    va_Run p l e R s m args below meth c H locs cells slots mc ms g rest (Qc As.toArray) (free) := by
  obtain ⟨⟨hrc, hrs, hfr, hlo, hws, hcw⟩, hcode, hini, hy, hlen, hl, hstt⟩ := cw
  have hK : Back l R p e below s args y 3 8 (PreOf R mc ms Pc) (PostOf Qc mc ms free) := va_backW (hh := hh) (bytes := bytes) (maxL := maxL) (ret := ret) hM hp.1 hrc hrs hfr hlo hws hcw (fun a' U hW => word_at hW (Or.inl (by first | rfl | simp [Cond.onTables, Cond.keeps, Cond.steady])) hini)
  obtain ⟨hx, hb, hml, ho, -⟩ := S
  intro T hT X
  obtain ⟨v, vm₁, ⟨U', l2, c2, s2⟩, hW₁, X', ⟨g', mk, t, L, e1, e2, hq, h1, hL, h2, h3⟩, st⟩ := vx_callSW X hx (hh := hh) (bytes := bytes) (maxL := maxL) (ret := ret) ho hl hstt hini hcode hy hK hg (hsize.trans hml.symm) (argsL := As) (rest := rest) (fun sig h => hn.trans (hlen sig h)) hstack hW (by rw [hb]; exact hdg)
    (fun vm₁ hW₁ => ⟨hf.1, hf.2, hp.2 (T.setVm vm₁) hT hW₁⟩)
  dsimp only [Pt.U, Pt.locs, Pt.cells, Pt.slots] at X' e1 e2 h1 h2 h3 st
  subst h1; subst h2; subst h3
  exact ⟨v, (T.setVm vm₁).calling g' mk As.toArray, t, U', L, hT, X', hL, e1, e2, hq, st⟩
/-- not caught here, past rows that name other classes: it goes on to the caller -/
theorem vx_outP {p : Program} {l : Launch} {e : Env} {R : Room} {s : State} {m : MethodId} {args : Array Value} {below : List Frame} {meth : Method} {c : Code} {H : Heap} {locs : List Loc} {cells slots : Nat} {free : Addr → Prop} {ls : Array Slot} {rest : List Value} {Qc : Array Value → State → Outcome → State → Prop} {XC : String → State → State → Prop}
    {pc : Nat} {own E : String} {ce : Cell} {q : Addr} {mc ms : Nat} (hown : s.vm.findClass own = some m.cls) (hlocks : meth.locks = false)
    (hpass : ∀ z ∈ c.exceptionTable.toList, covers z pc = false ∨ (z.catchType ≠ 0 ∧ ∃ nm : String, (Cond.classLink own z.catchType nm).before args s = true ∧ va_Nc E nm s)) (hcell : H[q]? = some ce) (hv : ce.vm = .none) (hcl : s.vm.findClass E = some ce.cls)
    (hx : ∀ t : State, t.heap = H → s.vm.Alike t.vm → XC E s t) (hf : ∀ z ∈ locs, free z.base) (hc : cells ≤ mc) (hs : slots ≤ ms) :
    vx_W p l e R s m args below meth c H locs cells slots (vx_MQ below Qc XC args s mc ms free) (F0 m pc ls rest) q := by
  intro T hT X
  have hpl : e.platform.magicAccessors = ({} : Platform).magicAccessors := by rw [X.admits.platform]
  obtain ⟨vm', hW', X', st⟩ := X.outThrough hlocks q (g := F0 m pc ls rest) rfl rfl rfl (cell := ce) (by rw [hT]; exact hcell) (by rw [hv]; rfl)
    (by obtain ⟨k9, h9, -⟩ := Vm.findClass_spec hcl; exact ⟨k9, h9⟩) (fun z hz => by
      rcases hpass z hz with h | ⟨hz0, nm, hl1, hn1⟩
      · exact Or.inl h
      · obtain ⟨c6, hc6, hcl6⟩ := Cond.classLink_spec hown hl1 e.platform hpl
        obtain ⟨a8, b8, h1, h2, h3⟩ := hn1
        cases Option.some.inj (h1.symm.trans hcl)
        cases Option.some.inj (h2.symm.trans hc6)
        exact Or.inr ⟨hz0, _, hcl6, h3⟩)
  obtain ⟨g₀, hfr⟩ := X'.frames_eq
  have hcell9 : ((T.setVm vm').setFrames (.throwing q :: below)).heap[q]? = some ce := by
    show T.heap[q]? = some ce
    rw [hT]; exact hcell
  have hend : Ended ((T.setVm vm').setFrames (.throwing q :: below)) below (.threw q) := State.frames_setFrames _ (State.cur_lt_of_frames hfr)
  refine ⟨(T.setVm vm').setFrames (.throwing q :: below), ?_, .threw q, X'.here.running, hend, Or.inr ⟨q, rfl, E, ce, locs, hx _ hT (X'.ends _).1.alike, hcell9, hv, hcl, (X'.ends _).1, (X'.ends _).2.mono hc hs, hf⟩⟩
  rw [X.pushThrowing_eq]
  exact st
/-- a thing of a world lies in the heap -/
theorem vx_lt {D : va_G} {cl : List vw_C} {ws : va_W} {H1 : Heap} (h : va_P D cl ws H1) {k : Nat} {q : Nat × va_E} (hk : ws[k]? = some q) : q.1 < H1.size := (h k q hk).lt
end VXS
/-! ===== END ===== -/
/-! ===== BEGIN methods with a table of their own: called by a name, returning or throwing ===== -/
section VXH
/-! vx_backW, vx_callVX, vx_callSX, vx_callVW, vx_runVW, vx_runVX, vx_runSX, vx_ofWH follow the same proofs as their sisters above (Free/Laws.lean, Shelf42/LK1.lean); vx_outP calls Shelf42/NT130.lean (outThrough). -/
section
variable {l : Launch} {R : Room} {p : Program} {e : Env} {below : List Frame} {s : State} {sargs : Array Value} {y : MethodName} {len W9 : Nat}
theorem vx_backW {ws : List Cond} {rm : Room} {Pc : Array Value → State → Prop} {Qc : Array Value → State → Outcome → State → Prop} {XC : String → State → State → Prop} {mc ms : Nat} {free : Addr → Prop} {bytes : ByteArray} {maxL : Nat} {ret : Option FieldType} {hh : List (Nat × Nat × Nat × Nat)}
    (hM : vx_Met l y ws rm Pc Qc XC mc ms free) (hblind : FrameBlind Pc) (hrc : rm.cells = mc) (hrs : rm.slots = ms)
    (hframes : rm.frames + 1 ≤ R.frames) (hlocals : W9 + (maxL + 11) + rm.locals ≤ R.locals)
    (hws : ∀ w ∈ ws, ∀ a' U, s.WarmedH U.vm → w.before a' U = true) (hcode : Cond.codeWith y bytes maxL ret hh ∈ ws) (hinit : ∀ a' U, s.WarmedH U.vm → (Cond.initialized y.cls).before a' U = true) :
    vx_Back l R p e below s sargs y len W9 (PreOf R mc ms Pc) (PostOf Qc mc ms free) (vx_Post XC mc ms free) := by
  intro m meth c A g ig mk a X hg hsize hdg hW hn hp
  have h1 : (headSpec ws rm).pre.before a A.U = true := atoms_intro fun w hw => hws w hw _ _ X.warmed
  have h2 : (Cond.codeWith y bytes maxL ret hh).before a A.U = true := hws _ hcode _ _ X.warmed
  have h3 : (Cond.initialized y.cls).before a A.U = true := hinit _ _ X.warmed
  have h4 : A.cells + (headSpec ws rm).room.cells ≤ R.cells := by rw [show (headSpec ws rm).room.cells = mc from hrc]; exact hp.1
  have h5 : A.slots + (headSpec ws rm).room.slots ≤ R.slots := by rw [show (headSpec ws rm).room.slots = ms from hrs]; exact hp.2.1
  have hPc : Pc a (A.U.calling g mk a) := hblind _ _ _ _ hp.2.2
  obtain ⟨U, Ls, c0, s0⟩ := A
  dsimp only [Pt.U, Pt.locs, Pt.cells, Pt.slots] at h1 h2 h3 h4 h5 X hn hPc ⊢
  obtain ⟨m9, methY, cY, hn9, hmY, hcY, -, hlY, -⟩ := Cond.codeWith_spec h2
  cases Option.some.inj (hn9.symm.trans hn)
  obtain ⟨kY, hkY, -⟩ := className_of_methodNamed hn
  have hinitY : kY.init = .initialized := Cond.initialized_spec (findClass_of_methodNamed hn) hkY h3
  have h : At U g.method c below := by rw [hg]; exact X.here
  have hlocals9 : W9 + (maxL + 11) + (headSpec ws rm).room.locals ≤ R.locals := hlocals
  have happ : (headSpec ws rm).appliesLoose y e.platform (U.calling g mk a) = true :=
    Spec.appliesLoose_calling (g := g) h hdg hn hkY hinitY
      (X.room_calling (g := g) (R' := (headSpec ws rm).room) hsize hmY hcY hframes (by rw [hlY]; omega) h4 h5) h1
  obtain ⟨mid, hmid⟩ := h.above
  have hfr : (U.setTop g).frames = (.java g :: mid) ++ below := by rw [State.frames_setTop' g h.top, hmid]; rfl
  obtain ⟨o, s₂, hsteps, -, hend, hq⟩ := Steps.callFree hM p X.admits X.cas X.clock (acts := []) hfr happ hPc trivial
  have hq' : vx_Q Qc XC mc ms free a (U.calling g mk a) o s₂ := hq
  rw [State.frames_setTop' g h.top] at hend
  obtain ⟨g₀, hg0⟩ := Option.isSome_iff_exists.mp h.top
  obtain ⟨r, hr⟩ := State.topJava?_eq_some.mp hg0
  have hr' : (({ U with heap := s₂.heap, slotsUsed := s₂.slotsUsed } : State).setVm s₂.vm).frames = .java g₀ :: r := hr
  rcases hq' with ⟨hqc, L, hfe, hL⟩ | ⟨q, rfl, E, ce, L, hx, hce, hcv, hcl, hW₂, hsm, hL⟩
  · obtain ⟨⟨v, rfl⟩, hW₂, e2, q2, q3, q4, q5, q6⟩ := id hfe
    have e3 : s₂ = ({ (U.calling g mk a).setFrames s₂.frames with heap := s₂.heap, slotsUsed := s₂.slotsUsed } : State).setVm s₂.vm := by
      have : s₂ = ({ s₂ with vm := (U.calling g mk a).vm } : State).setVm s₂.vm := rfl
      rw [e2] at this
      exact this
    obtain ⟨c₂, i₂, len₂, hc₂, hd₂, hf₂⟩ := hend
    have hW' : U.WarmedH s₂.vm := hW₂
    have hcc : c₂ = c := by
      have h1 : s₂.code? g.method = U.code? g.method := by
        rw [State.code?_eq, State.code?_eq, hW'.alike.method?]
      exact Option.some.inj (hc₂.symm.trans (h1.trans h.code))
    subst hcc
    have hlen : len₂ = len := by rw [hdg] at hd₂; cases hd₂; rfl
    subst hlen
    have hs₂ : s₂ = (({ U with heap := s₂.heap, slotsUsed := s₂.slotsUsed } : State).setVm s₂.vm).setTop { g with pc := g.pc + len₂, stack := v.toList ++ g.stack } := by
      refine e3.trans ?_
      rw [hf₂, State.calling_eq h.top, State.setFrames_setFrames, State.setTop_of_frames _ hr', hr]
      rfl
    have hsame : U.sameButNew ({ U with heap := s₂.heap, slotsUsed := s₂.slotsUsed } : State) L mc ms := by
      refine ⟨?_, q2, q3, q4, q5, q6⟩
      obtain ⟨t, ht, -⟩ := State.frames_cons hr
      show ({ U with heap := s₂.heap, slotsUsed := s₂.slotsUsed } : State) = { U.setFrames U.frames with heap := s₂.heap, slotsUsed := s₂.slotsUsed }
      rw [State.setFrames_self ht]
    subst hg
    refine Or.inl ⟨v, ⟨(({ U with heap := s₂.heap, slotsUsed := s₂.slotsUsed } : State).setVm s₂.vm), Ls ++ L, c0 + mc, s0 + ms⟩,
      ⟨X.admits, X.cas, X.clock, X.frames, X.room, X.hears, X.method, X.code, (X.here.setHeapUsed s₂.heap s₂.slotsUsed).setVm hW'.alike, X.tail, State.WarmedH.trans X.warmed hW', X.limits, X.bytes, X.same.trans (hsame.setVm s.vm)⟩,
      ⟨g, mk, s₂, L, rfl, rfl, hqc, rfl, hL, rfl, rfl⟩, ?_⟩
    show Steps p.tables e below _ ((({ U with heap := s₂.heap, slotsUsed := s₂.slotsUsed } : State).setVm s₂.vm).setTop { g with pc := g.pc + len₂, stack := v.toList ++ g.stack })
    rw [← hs₂]
    exact hsteps
  · obtain ⟨e2, q2, q3, q4, q5, q6⟩ := id hsm
    have e3 : s₂ = ({ (U.calling g mk a).setFrames s₂.frames with heap := s₂.heap, slotsUsed := s₂.slotsUsed } : State).setVm s₂.vm := by
      have : s₂ = ({ s₂ with vm := (U.calling g mk a).vm } : State).setVm s₂.vm := rfl
      rw [e2] at this
      exact this
    have hf₂ : s₂.frames = .throwing q :: .java g :: U.frames.tail := hend
    have hW' : U.WarmedH s₂.vm := hW₂
    have hs₂ : s₂ = ((({ U with heap := s₂.heap, slotsUsed := s₂.slotsUsed } : State).setVm s₂.vm).setTop g).pushFrame (.throwing q) := by
      refine e3.trans ?_
      rw [hf₂, State.calling_eq h.top, State.setFrames_setFrames, State.pushFrame, State.frames_setTop _ hr', State.setTop_of_frames _ hr', State.setFrames_setFrames, hr]
      rfl
    have hsame : U.sameButNew ({ U with heap := s₂.heap, slotsUsed := s₂.slotsUsed } : State) L mc ms := by
      refine ⟨?_, q2, q3, q4, q5, q6⟩
      obtain ⟨t, ht, -⟩ := State.frames_cons hr
      show ({ U with heap := s₂.heap, slotsUsed := s₂.slotsUsed } : State) = { U.setFrames U.frames with heap := s₂.heap, slotsUsed := s₂.slotsUsed }
      rw [State.setFrames_self ht]
    subst hg
    refine Or.inr ⟨q, ⟨(({ U with heap := s₂.heap, slotsUsed := s₂.slotsUsed } : State).setVm s₂.vm), Ls ++ L, c0 + mc, s0 + ms⟩,
      ⟨X.admits, X.cas, X.clock, X.frames, X.room, X.hears, X.method, X.code, (X.here.setHeapUsed s₂.heap s₂.slotsUsed).setVm hW'.alike, X.tail, State.WarmedH.trans X.warmed hW', X.limits, X.bytes, X.same.trans (hsame.setVm s.vm)⟩,
      ⟨g, mk, s₂, L, E, ce, rfl, rfl, hx, hce, hcv, hcl, rfl, hL, rfl, rfl⟩, ?_⟩
    show Steps p.tables e below _ (((({ U with heap := s₂.heap, slotsUsed := s₂.slotsUsed } : State).setVm s₂.vm).setTop g).pushFrame (.throwing q))
    rw [← hs₂]
    exact hsteps
end
variable {p : Program} {l : Launch} {e : Env} {R : Room} {s : State} {m : MethodId} {args : Array Value} {below : List Frame} {meth : Method} {c : Code} {T : State} {H : Heap} {locs : List Loc} {cells slots : Nat}
theorem vx_callVX (X : Stand p l e R s m args below meth c T locs cells slots) (hexec : p.tables.exec = Jvm.exec) {own C : String} {index : Nat} {y : MethodName} {bytes : ByteArray} {maxL : Nat} {ret : Option FieldType} {hh : List (Nat × Nat × Nat × Nat)}
    (hown : s.vm.findClass own = some m.cls) (hlink : (Cond.methodLink own index y).before args s = true) (hinst : (Cond.instanceMethod y).before args s = true) (hsel : (Cond.selects C y y).before args s = true)
    (hcode : (Cond.codeWith y bytes maxL ret hh).before args s = true) (hy : y.cls ≠ "java/lang/invoke/MethodHandle" ∧ y.cls ≠ "java/lang/invoke/VarHandle")
    {W9 : Nat} {Pre : Pt → Array Value → Prop} {Post : Pt → Array Value → Option Value → Pt → Prop} {PostX : Pt → Array Value → Addr → Pt → Prop} (hK : vx_Back l R p e below s args y 3 W9 Pre Post PostX)
    {b : Addr} {cellB : Cell} (hcell : T.heap[b]? = some cellB) (hobj : cellB.vm.isStatics = false) (hcls : s.vm.findClass C = some cellB.cls)
    {g : JFrame} (hg : g.method = m) (hsize : g.locals.size = c.maxLocals) {argsL rest : List Value} (hlen : ∀ sig, parseMethodDescriptor y.desc = some sig → argsL.length = sig.parameters.length)
    (hstack : g.stack = argsL.reverse ++ .ref b :: rest) (hW : 2 * g.monitorRoom + (rest.map fun v => v.category).sum ≤ W9) (hdg : decode c.code g.pc = .ok (.invokevirtual index, 3))
    (hpre : ∀ vm₁, s.WarmedH vm₁ → Pre ⟨T.setVm vm₁, locs, cells, slots⟩ (Value.ref b :: argsL).toArray) :
    (∃ (v : Option Value) (vm₁ : Vm) (B : Pt), s.WarmedH vm₁ ∧ Stand p l e R s m args below meth c B.U B.locs B.cells B.slots ∧ Post ⟨T.setVm vm₁, locs, cells, slots⟩ (Value.ref b :: argsL).toArray v B ∧
      ∀ target, Steps p.tables e below (B.U.setTop { g with pc := g.pc + 3, stack := v.toList ++ rest }) target → Steps p.tables e below (T.setTop g) target) ∨
    (∃ (q : Addr) (vm₁ : Vm) (B : Pt), s.WarmedH vm₁ ∧ Stand p l e R s m args below meth c B.U B.locs B.cells B.slots ∧ PostX ⟨T.setVm vm₁, locs, cells, slots⟩ (Value.ref b :: argsL).toArray q B ∧
      Steps p.tables e below (T.setTop g) ((B.U.setTop { g with stack := rest }).pushFrame (.throwing q))) := by
  obtain ⟨mk, methM, hnamed, hmethM, hstM, habM⟩ := Cond.instanceMethod_spec hinst
  obtain ⟨m8, methM', cM, hn8, hmethM', -, -, -, -, -, -, hsigM⟩ := Cond.codeWith_spec hcode
  cases Option.some.inj (hn8.symm.trans hnamed)
  cases hmethM.symm.trans hmethM'
  obtain ⟨c2, r2, m2, q1, q2, q3, q4, kP, hkP, hkPi⟩ := Cond.selects_spec hsel
  cases hcls.symm.trans q1
  cases (State.methodFound?_of_named hnamed hy).symm.trans q2
  cases hnamed.symm.trans q3
  have hselP : selectMethod e.platform s.vm cellB.cls mk = .method mk := by rw [Launch.admits_selectMethod X.admits]; exact q4
  obtain ⟨vm₁, X₁, hstep₁⟩ := X.invokevirtual hexec hown hlink hnamed hmethM hstM hkP hkPi hy (a := b) (cell := cellB) hcell
    (fun z h => by rw [h] at hobj; cases hobj) hselP hmethM habM hkP hkPi (g := g) hg (argsL := argsL) (rest := rest) (hlen _ hsigM) hstack hdg
  rcases hK m meth c ⟨T.setVm vm₁, locs, cells, slots⟩ { g with stack := rest } (.invokevirtual index) mk (Value.ref b :: argsL).toArray X₁ hg hsize hdg hW (X₁.named hnamed) (hpre vm₁ X₁.warmed) with ⟨v, B, X', hpost, hsteps⟩ | ⟨q, B, X', hpost, hsteps⟩
  · exact Or.inl ⟨v, vm₁, B, X₁.warmed, X', hpost, fun target h => hstep₁ _ fun acts => by rw [doInvoke_state]; exact hsteps.trans h⟩
  · exact Or.inr ⟨q, vm₁, B, X₁.warmed, X', hpost, hstep₁ _ fun acts => by rw [doInvoke_state]; exact hsteps⟩
theorem vx_callSX (X : Stand p l e R s m args below meth c T locs cells slots) (hexec : p.tables.exec = Jvm.exec) {own : String} {index : Nat} {y : MethodName} {bytes : ByteArray} {maxL : Nat} {ret : Option FieldType} {hh : List (Nat × Nat × Nat × Nat)}
    (hown : s.vm.findClass own = some m.cls) (hlink : (Cond.methodLink own index y).before args s = true) (hstat : (Cond.static y).before args s = true) (hinit : (Cond.initialized y.cls).before args s = true)
    (hcode : (Cond.codeWith y bytes maxL ret hh).before args s = true) (hy : y.cls ≠ "java/lang/invoke/MethodHandle" ∧ y.cls ≠ "java/lang/invoke/VarHandle")
    {W9 : Nat} {Pre : Pt → Array Value → Prop} {Post : Pt → Array Value → Option Value → Pt → Prop} {PostX : Pt → Array Value → Addr → Pt → Prop} (hK : vx_Back l R p e below s args y 3 W9 Pre Post PostX)
    {g : JFrame} (hg : g.method = m) (hsize : g.locals.size = c.maxLocals) {argsL rest : List Value} (hlen : ∀ sig, parseMethodDescriptor y.desc = some sig → argsL.length = sig.parameters.length)
    (hstack : g.stack = argsL.reverse ++ rest) (hW : 2 * g.monitorRoom + (rest.map fun v => v.category).sum ≤ W9) (hdg : decode c.code g.pc = .ok (.invokestatic index, 3))
    (hpre : ∀ vm₁, s.WarmedH vm₁ → Pre ⟨T.setVm vm₁, locs, cells, slots⟩ argsL.toArray) :
    (∃ (v : Option Value) (vm₁ : Vm) (B : Pt), s.WarmedH vm₁ ∧ Stand p l e R s m args below meth c B.U B.locs B.cells B.slots ∧ Post ⟨T.setVm vm₁, locs, cells, slots⟩ argsL.toArray v B ∧
      ∀ target, Steps p.tables e below (B.U.setTop { g with pc := g.pc + 3, stack := v.toList ++ rest }) target → Steps p.tables e below (T.setTop g) target) ∨
    (∃ (q : Addr) (vm₁ : Vm) (B : Pt), s.WarmedH vm₁ ∧ Stand p l e R s m args below meth c B.U B.locs B.cells B.slots ∧ PostX ⟨T.setVm vm₁, locs, cells, slots⟩ argsL.toArray q B ∧
      Steps p.tables e below (T.setTop g) ((B.U.setTop { g with stack := rest }).pushFrame (.throwing q))) := by
  obtain ⟨mk, methM, cM, hnamed, hmethM, -, -, -, -, -, -, hsigM⟩ := Cond.codeWith_spec hcode
  have hstatic : methM.isStatic = true := Cond.static_spec hnamed hmethM hstat
  obtain ⟨kP, hkP, -⟩ := className_of_methodNamed hnamed
  have hinitP : kP.init = .initialized := Cond.initialized_spec (findClass_of_methodNamed hnamed) hkP hinit
  obtain ⟨vm₁, X₁, hstep₁⟩ := X.invokestatic hexec hown hlink hnamed hmethM hstatic hkP hinitP hy (g := g) hg (argsL := argsL) (rest := rest) (hlen _ hsigM) hstack hdg
  rcases hK m meth c ⟨T.setVm vm₁, locs, cells, slots⟩ { g with stack := rest } (.invokestatic index) mk argsL.toArray X₁ hg hsize hdg hW (X₁.named hnamed) (hpre vm₁ X₁.warmed) with ⟨v, B, X', hpost, hsteps⟩ | ⟨q, B, X', hpost, hsteps⟩
  · exact Or.inl ⟨v, vm₁, B, X₁.warmed, X', hpost, fun target h => hstep₁ _ fun acts => by rw [doInvoke_state]; exact hsteps.trans h⟩
  · exact Or.inr ⟨q, vm₁, B, X₁.warmed, X', hpost, hstep₁ _ fun acts => by rw [doInvoke_state]; exact hsteps⟩
theorem vx_callVW (X : Stand p l e R s m args below meth c T locs cells slots) (hexec : p.tables.exec = Jvm.exec) {own C : String} {index : Nat} {y : MethodName} {bytes : ByteArray} {maxL : Nat} {ret : Option FieldType} {hh : List (Nat × Nat × Nat × Nat)}
    (hown : s.vm.findClass own = some m.cls) (hlink : (Cond.methodLink own index y).before args s = true) (hinst : (Cond.instanceMethod y).before args s = true) (hsel : (Cond.selects C y y).before args s = true)
    (hcode : (Cond.codeWith y bytes maxL ret hh).before args s = true) (hy : y.cls ≠ "java/lang/invoke/MethodHandle" ∧ y.cls ≠ "java/lang/invoke/VarHandle")
    {W9 : Nat} {Pre : Pt → Array Value → Prop} {Post : Pt → Array Value → Option Value → Pt → Prop} (hK : Back l R p e below s args y 3 W9 Pre Post)
    {b : Addr} {cellB : Cell} (hcell : T.heap[b]? = some cellB) (hobj : cellB.vm.isStatics = false) (hcls : s.vm.findClass C = some cellB.cls)
    {g : JFrame} (hg : g.method = m) (hsize : g.locals.size = c.maxLocals) {argsL rest : List Value} (hlen : ∀ sig, parseMethodDescriptor y.desc = some sig → argsL.length = sig.parameters.length)
    (hstack : g.stack = argsL.reverse ++ .ref b :: rest) (hW : 2 * g.monitorRoom + (rest.map fun v => v.category).sum ≤ W9) (hdg : decode c.code g.pc = .ok (.invokevirtual index, 3))
    (hpre : ∀ vm₁, s.WarmedH vm₁ → Pre ⟨T.setVm vm₁, locs, cells, slots⟩ (Value.ref b :: argsL).toArray) :
    ∃ (v : Option Value) (vm₁ : Vm) (B : Pt), s.WarmedH vm₁ ∧ Stand p l e R s m args below meth c B.U B.locs B.cells B.slots ∧ Post ⟨T.setVm vm₁, locs, cells, slots⟩ (Value.ref b :: argsL).toArray v B ∧
      ∀ target, Steps p.tables e below (B.U.setTop { g with pc := g.pc + 3, stack := v.toList ++ rest }) target → Steps p.tables e below (T.setTop g) target := by
  obtain ⟨mk, methM, hnamed, hmethM, hstM, habM⟩ := Cond.instanceMethod_spec hinst
  obtain ⟨m8, methM', cM, hn8, hmethM', -, -, -, -, -, -, hsigM⟩ := Cond.codeWith_spec hcode
  cases Option.some.inj (hn8.symm.trans hnamed)
  cases hmethM.symm.trans hmethM'
  obtain ⟨c2, r2, m2, q1, q2, q3, q4, kP, hkP, hkPi⟩ := Cond.selects_spec hsel
  cases hcls.symm.trans q1
  cases (State.methodFound?_of_named hnamed hy).symm.trans q2
  cases hnamed.symm.trans q3
  have hselP : selectMethod e.platform s.vm cellB.cls mk = .method mk := by rw [Launch.admits_selectMethod X.admits]; exact q4
  obtain ⟨vm₁, X₁, hstep₁⟩ := X.invokevirtual hexec hown hlink hnamed hmethM hstM hkP hkPi hy (a := b) (cell := cellB) hcell
    (fun z h => by rw [h] at hobj; cases hobj) hselP hmethM habM hkP hkPi (g := g) hg (argsL := argsL) (rest := rest) (hlen _ hsigM) hstack hdg
  obtain ⟨v, B, X', hpost, hsteps⟩ := hK m meth c ⟨T.setVm vm₁, locs, cells, slots⟩ { g with stack := rest } (.invokevirtual index) mk (Value.ref b :: argsL).toArray X₁ hg hsize hdg hW (X₁.named hnamed) (hpre vm₁ X₁.warmed)
  exact ⟨v, vm₁, B, X₁.warmed, X', hpost, fun target h => hstep₁ _ fun acts => by rw [doInvoke_state]; exact hsteps.trans h⟩
abbrev vx_CVW (R : Room) (s : State) (args : Array Value) (own C : String) (index : Nat) (y : MethodName) (bytes : ByteArray) (maxL : Nat) (ret : Option FieldType) (hh : List (Nat × Nat × Nat × Nat)) (ws : List Cond) (rm : Room) (mc ms n : Nat) : Prop :=
  (rm.cells = mc ∧ rm.slots = ms ∧ rm.frames + 1 ≤ R.frames ∧ 8 + (maxL + 11) + rm.locals ≤ R.locals ∧ (∀ w ∈ ws, ∀ (a' : Array Value) (U : State), s.WarmedH U.vm → w.before a' U = true) ∧ Cond.codeWith y bytes maxL ret hh ∈ ws) ∧
  (Cond.codeWith y bytes maxL ret hh).before args s = true ∧ (Cond.initialized y.cls).before args s = true ∧ (y.cls ≠ "java/lang/invoke/MethodHandle" ∧ y.cls ≠ "java/lang/invoke/VarHandle") ∧
  (∀ sig, parseMethodDescriptor y.desc = some sig → n = sig.parameters.length) ∧ (Cond.methodLink own index y).before args s = true ∧ (Cond.instanceMethod y).before args s = true ∧ (Cond.selects C y y).before args s = true
theorem vx_cwVW {own C : String} {index maxL mc ms : Nat} {y : MethodName} {bytes : ByteArray} {ret : Option FieldType} {hh : List (Nat × Nat × Nat × Nat)} {Ts ws ws' : List Cond} {rm : Room} (n : Nat) (ht : ∀ w ∈ Ts, w.before args s = true) (hT : GoodIn Ts (wsV own index C y ws)) (hw : ws = Cond.codeWith y bytes maxL ret hh :: ws') (hrc : rm.cells = mc) (hrs : rm.slots = ms)
    (hd : y.cls = C ∧ y.cls ≠ "java/lang/invoke/MethodHandle" ∧ y.cls ≠ "java/lang/invoke/VarHandle" ∧ (parseMethodDescriptor y.desc).map (fun d => d.parameters.length) = some n) (hR : rm.frames + 1 ≤ R.frames ∧ 8 + (maxL + 11) + rm.locals ≤ R.locals) :
    vx_CVW R s args own C index y bytes maxL ret hh ws rm mc ms n := by
  obtain ⟨hC, hd⟩ := hd
  subst hC
  have ok : ∀ w ∈ wsV own index y.cls y ws, w.before args s = true := fun w h => ht w (hT w h).1
  have hG : GoodIn Ts ws := fun w h => hT w (by unfold wsV; exact List.mem_append_right _ h)
  have hc : Cond.codeWith y bytes maxL ret hh ∈ ws := by rw [hw]; exact List.mem_cons_self
  refine ⟨⟨hrc, hrs, hR.1, hR.2, pay_in ht hG, hc⟩, ht _ (hG _ hc).1, ok _ (by simp [wsV]), ⟨hd.1, hd.2.1⟩, fun sig h => ?_, ok _ (by simp [wsV]), ok _ (by simp [wsV]), ok _ (by simp [wsV])⟩
  have h2 := hd.2.2
  rw [h] at h2
  exact (Option.some.inj h2).symm
theorem vx_runVW {y : MethodName} {bytes cc : ByteArray} {maxL nL mc ms n index : Nat} {ret : Option FieldType} {hh : List (Nat × Nat × Nat × Nat)} {ws : List Cond} {rm : Room} {Pc : Array Value → State → Prop} {Qc : Array Value → State → Outcome → State → Prop} {free : Addr → Prop} {Ts : List Cond} {own C : String} {b : Addr} {As rest : List Value} {g : JFrame}
    (S : CallFix p m c cc nL s args Ts own) (hM : Met l y ws rm Pc Qc mc ms free) (cw : vx_CVW R s args own C index y bytes maxL ret hh ws rm mc ms n) (hp : PreV s H C b Pc As)
    (hg : g.method = m) (hn : As.length = n) (hsize : g.locals.size = nL) (hstack : g.stack = As.reverse ++ .ref b :: rest) (hW : 2 * g.monitorRoom + (rest.map fun v => v.category).sum ≤ 8) (hdg : decode cc g.pc = .ok (.invokevirtual index, 3)) (hf : cells + mc ≤ R.cells ∧ slots + ms ≤ R.slots) :
    va_Run p l e R s m args below meth c H locs cells slots mc ms g rest (Qc (Value.ref b :: As).toArray) free := by
  obtain ⟨⟨hrc, hrs, hfr, hlo, hws, hcw⟩, hcode, hini, hy, hlen, hl, hin, hse⟩ := cw
  have hK : Back l R p e below s args y 3 8 (PreOf R mc ms Pc) (PostOf Qc mc ms free) := va_backW (hh := hh) (bytes := bytes) (maxL := maxL) (ret := ret) hM hp.1 hrc hrs hfr hlo hws hcw (fun a' U hW => word_at hW (Or.inl (by first | rfl | simp [Cond.onTables, Cond.keeps, Cond.steady])) hini)
  obtain ⟨hx, hb, hml, ho, -⟩ := S
  obtain ⟨-, ⟨cellB, hcB, hoB, hclB⟩, hPc⟩ := hp
  intro T hT X
  obtain ⟨v, vm₁, ⟨U', l2, c2, s2⟩, hW₁, X', ⟨g', mk, t, L, e1, e2, hq, h1, hL, h2, h3⟩, st⟩ := vx_callVW X hx (C := C) (hh := hh) (bytes := bytes) (maxL := maxL) (ret := ret) ho hl hin hse hcode hy hK (by rw [hT]; exact hcB) hoB hclB hg (hsize.trans hml.symm) (argsL := As) (rest := rest) (fun sig h => hn.trans (hlen sig h)) hstack hW (by rw [hb]; exact hdg)
    (fun vm₁ hW₁ => ⟨hf.1, hf.2, hPc (T.setVm vm₁) hT hW₁⟩)
  dsimp only [Pt.U, Pt.locs, Pt.cells, Pt.slots] at X' e1 e2 h1 h2 h3 st
  subst h1; subst h2; subst h3
  exact ⟨v, (T.setVm vm₁).calling g' mk (Value.ref b :: As).toArray, t, U', L, hT, X', hL, e1, e2, hq, st⟩
section
variable {y : MethodName} {bytes cc : ByteArray} {maxL nL mc ms n index : Nat} {ret : Option FieldType} {ws : List Cond} {rm : Room} {Pc : Array Value → State → Prop} {Qc : Array Value → State → Outcome → State → Prop} {XC : String → State → State → Prop} {free : Addr → Prop} {Ts : List Cond} {own C : String} {b : Addr} {As rest : List Value} {g : JFrame}
theorem vx_runVX {hh : List (Nat × Nat × Nat × Nat)} (S : CallFix p m c cc nL s args Ts own) (hM : vx_Met l y ws rm Pc Qc XC mc ms free) (cw : vx_CVW R s args own C index y bytes maxL ret hh ws rm mc ms n) (hp : PreV s H C b Pc As)
    (hg : g.method = m) (hn : As.length = n) (hsize : g.locals.size = nL) (hstack : g.stack = As.reverse ++ .ref b :: rest) (hW : 2 * g.monitorRoom + (rest.map fun v => v.category).sum ≤ 8) (hdg : decode cc g.pc = .ok (.invokevirtual index, 3)) (hf : cells + mc ≤ R.cells ∧ slots + ms ≤ R.slots) :
    vx_Run p l e R s m args below meth c H locs cells slots mc ms g rest (Qc (Value.ref b :: As).toArray) XC free := by
  obtain ⟨⟨hrc, hrs, hfr, hlo, hws, hcw⟩, hcode, hini, hy, hlen, hl, hin, hse⟩ := cw
  have hK : vx_Back l R p e below s args y 3 8 (PreOf R mc ms Pc) (PostOf Qc mc ms free) (vx_Post XC mc ms free) := vx_backW (hh := hh) (bytes := bytes) (maxL := maxL) (ret := ret) hM hp.1 hrc hrs hfr hlo hws hcw (fun a' U hW => word_at hW (Or.inl (by first | rfl | simp [Cond.onTables, Cond.keeps, Cond.steady])) hini)
  obtain ⟨hx, hb, hml, ho, -⟩ := S
  obtain ⟨-, ⟨cellB, hcB, hoB, hclB⟩, hPc⟩ := hp
  intro T hT X
  rcases vx_callVX X hx (C := C) (hh := hh) (bytes := bytes) (maxL := maxL) (ret := ret) ho hl hin hse hcode hy hK (by rw [hT]; exact hcB) hoB hclB hg (hsize.trans hml.symm) (argsL := As) (rest := rest) (fun sig h => hn.trans (hlen sig h)) hstack hW (by rw [hb]; exact hdg)
    (fun vm₁ hW₁ => ⟨hf.1, hf.2, hPc (T.setVm vm₁) hT hW₁⟩) with ⟨v, vm₁, ⟨U', l2, c2, s2⟩, hW₁, X', ⟨g', mk, t, L, e1, e2, hq, h1, hL, h2, h3⟩, st⟩ | ⟨q, vm₁, ⟨U', l2, c2, s2⟩, hW₁, X', ⟨g', mk, t, L, E, ce, e1, e2, hq, hce, hcv, hcl, h1, hL, h2, h3⟩, st⟩
  · dsimp only [Pt.U, Pt.locs, Pt.cells, Pt.slots] at X' e1 e2 h1 h2 h3 st
    subst h1; subst h2; subst h3
    exact Or.inl ⟨v, (T.setVm vm₁).calling g' mk (Value.ref b :: As).toArray, t, U', L, hT, X', hL, e1, e2, hq, st⟩
  · dsimp only [Pt.U, Pt.locs, Pt.cells, Pt.slots] at X' e1 e2 h1 h2 h3 st hcl
    subst h1; subst h2; subst h3
    exact Or.inr ⟨q, (T.setVm vm₁).calling g' mk (Value.ref b :: As).toArray, t, U', L, E, ce, hT, X', hL, e1, e2, hq, hce, hcv, vx_cls hW₁ hcl, st⟩
theorem vx_runSX {hh : List (Nat × Nat × Nat × Nat)} (S : CallFix p m c cc nL s args Ts own) (hM : vx_Met l y ws rm Pc Qc XC mc ms free) (cw : vx_CSW R s args own index y bytes maxL ret hh ws rm mc ms n) (hp : PreS s H Pc As)
    (hg : g.method = m) (hn : As.length = n) (hsize : g.locals.size = nL) (hstack : g.stack = As.reverse ++ rest) (hW : 2 * g.monitorRoom + (rest.map fun v => v.category).sum ≤ 8) (hdg : decode cc g.pc = .ok (.invokestatic index, 3)) (hf : cells + mc ≤ R.cells ∧ slots + ms ≤ R.slots) :
    vx_Run p l e R s m args below meth c H locs cells slots mc ms g rest (Qc As.toArray) XC free := by
  obtain ⟨⟨hrc, hrs, hfr, hlo, hws, hcw⟩, hcode, hini, hy, hlen, hl, hstt⟩ := cw
  have hK : vx_Back l R p e below s args y 3 8 (PreOf R mc ms Pc) (PostOf Qc mc ms free) (vx_Post XC mc ms free) := vx_backW (hh := hh) (bytes := bytes) (maxL := maxL) (ret := ret) hM hp.1 hrc hrs hfr hlo hws hcw (fun a' U hW => word_at hW (Or.inl (by first | rfl | simp [Cond.onTables, Cond.keeps, Cond.steady])) hini)
  obtain ⟨hx, hb, hml, ho, -⟩ := S
  intro T hT X
  rcases vx_callSX X hx (hh := hh) (bytes := bytes) (maxL := maxL) (ret := ret) ho hl hstt hini hcode hy hK hg (hsize.trans hml.symm) (argsL := As) (rest := rest) (fun sig h => hn.trans (hlen sig h)) hstack hW (by rw [hb]; exact hdg)
    (fun vm₁ hW₁ => ⟨hf.1, hf.2, hp.2 (T.setVm vm₁) hT hW₁⟩) with ⟨v, vm₁, ⟨U', l2, c2, s2⟩, hW₁, X', ⟨g', mk, t, L, e1, e2, hq, h1, hL, h2, h3⟩, st⟩ | ⟨q, vm₁, ⟨U', l2, c2, s2⟩, hW₁, X', ⟨g', mk, t, L, E, ce, e1, e2, hq, hce, hcv, hcl, h1, hL, h2, h3⟩, st⟩
  · dsimp only [Pt.U, Pt.locs, Pt.cells, Pt.slots] at X' e1 e2 h1 h2 h3 st
    subst h1; subst h2; subst h3
    exact Or.inl ⟨v, (T.setVm vm₁).calling g' mk As.toArray, t, U', L, hT, X', hL, e1, e2, hq, st⟩
  · dsimp only [Pt.U, Pt.locs, Pt.cells, Pt.slots] at X' e1 e2 h1 h2 h3 st hcl
    subst h1; subst h2; subst h3
    exact Or.inr ⟨q, (T.setVm vm₁).calling g' mk As.toArray, t, U', L, E, ce, hT, X', hL, e1, e2, hq, hce, hcv, vx_cls hW₁ hcl, st⟩
end
end VXH
theorem vx_ofWH {l : Launch} {y : MethodName} {ws ws' : List Cond} {rm : Room} {Pc : Array Value → State → Prop} {Qc : Array Value → State → Outcome → State → Prop} {XC : String → State → State → Prop} {mc ms : Nat} {free : Addr → Prop} {cc : ByteArray} {maxL : Nat} {ret : Option FieldType} {hh : List (Nat × Nat × Nat × Nat)}
    (hy : plainName y.cls = true) (hw : ws = Cond.codeWith y cc maxL ret hh :: ws')
    (body : ∀ p e s m args below meth c s₁, BodyLoose p l y (headSpec ws rm) cc maxL ret e s m args below meth c s₁ → c.maxLocals = maxL → Pc args s →
      W p l e (headSpec ws rm).room s m args below meth c s.heap [] 0 0 (vx_MQ below Qc XC args s mc ms free) (entryFrame m args maxL)) : vx_Met l y ws rm Pc Qc XC mc ms free := by
  refine MetFree.of_bodyS (code := cc) (maxLocals := maxL) (ret := ret) hy ?_ ?_
  · intro args s m h hn
    obtain ⟨m9, meth, c, hn9, h1, h2, h3, h4, -, h5, h6, -⟩ := Cond.codeWith_spec (atoms_spec (ws := ws) h _ (by rw [hw]; exact List.mem_cons_self))
    cases hn.symm.trans hn9
    exact ⟨meth, c, h1, h2, h3, h4, h5, h6⟩
  · intro p e s m args below meth c s₁ B hml hP _
    have hh0 : s₁.heap = s.heap := by rw [B.state]; rfl
    obtain ⟨t, a1, o, b1, b2, b3⟩ := body p e s m args below meth c s₁ B hml hP s₁ hh0 (Stand.of_body B)
    exact ⟨t, o, a1, b1, b2, b3⟩
/-! ===== END ===== -/

/-! ===== BEGIN printed: names, fields, word lists, decode rows ===== -/
def RX0 : String := "EffectTrain$State"
def TX0 : u_T := fun k => match k with
  | 0 => ("EffectTrain$State", "n", "I", false)
  | 1 => ("EffectTrain$State", "settings", "[I", true)
  | 2 => ("EffectTrain$State", "clock", "I", false)
  | 3 => ("EffectTrain$State", "counts", "[I", true)
  | 4 => ("EffectTrain$State", "area", "[I", true)
  | 5 => ("EffectTrain$State", "water", "[I", true)
  | 6 => ("EffectTrain$State", "solids", "[I", true)
  | 7 => ("EffectTrain$State", "valve", "[I", true)
  | 8 => ("EffectTrain$State", "bleed", "[I", true)
  | 9 => ("EffectTrain$State", "scale", "[I", true)
  | 10 => ("EffectTrain$State", "scaling", "[I", true)
  | _ => ("EffectTrain$State", "left", "[I", true)
def tyX0 : Nat → FieldType := fun k => match k with
  | 0 => .int
  | 1 => .array .int
  | 2 => .int
  | 3 => .array .int
  | 4 => .array .int
  | 5 => .array .int
  | 6 => .array .int
  | 7 => .array .int
  | 8 => .array .int
  | 9 => .array .int
  | 10 => .array .int
  | _ => .array .int
abbrev wsX00 : List Cond := u_ws RX0 TX0 12
theorem nmX0 : ∀ a, a < 12 → ∀ b, b < 12 → a ≠ b → (TX0 a).2.1 ≠ (TX0 b).2.1 := by decide +kernel
theorem tyX0_ok : ∀ k, k < 12 → parseFieldDescriptor (TX0 k).2.2.1 = some (tyX0 k) := by decide +kernel
abbrev cX0_init : ByteArray := prog_2_method_1_code
def yX0_init : MethodName := ⟨RX0, "<init>", "()V"⟩
abbrev cX0_copyFrom : ByteArray := prog_2_method_2_code
def yX0_copyFrom : MethodName := ⟨RX0, "copyFrom", "(LEffectTrain$State;)V"⟩
abbrev cX0_takeNumbers : ByteArray := prog_2_method_3_code
def yX0_takeNumbers : MethodName := ⟨RX0, "takeNumbers", "([I)V"⟩
abbrev cX0_numberOf : ByteArray := prog_2_method_4_code
def yX0_numberOf : MethodName := ⟨RX0, "numberOf", "(II)I"⟩
abbrev cX0_amount : ByteArray := prog_2_method_5_code
def yX0_amount : MethodName := ⟨RX0, "amount", "(I)I"⟩
abbrev cX0_thickness : ByteArray := prog_2_method_6_code
def yX0_thickness : MethodName := ⟨RX0, "thickness", "(I)I"⟩
abbrev cX0_power : ByteArray := prog_2_method_7_code
def yX0_power : MethodName := ⟨RX0, "power", "(I)I"⟩
abbrev cX0_allWater : ByteArray := prog_2_method_8_code
def yX0_allWater : MethodName := ⟨RX0, "allWater", "()I"⟩
abbrev cX0_allSolids : ByteArray := prog_2_method_9_code
def yX0_allSolids : MethodName := ⟨RX0, "allSolids", "()I"⟩
abbrev cX0_washedEffects : ByteArray := prog_2_method_10_code
def yX0_washedEffects : MethodName := ⟨RX0, "washedEffects", "()I"⟩
abbrev cX0_effectBehind : ByteArray := prog_2_method_11_code
def yX0_effectBehind : MethodName := ⟨RX0, "effectBehind", "(I)I"⟩
abbrev cX0_effectBefore : ByteArray := prog_2_method_12_code
def yX0_effectBefore : MethodName := ⟨RX0, "effectBefore", "(I)I"⟩
abbrev cX0_pass : ByteArray := prog_2_method_13_code
def yX0_pass : MethodName := ⟨RX0, "pass", "(I)I"⟩
abbrev cX0_beginWashInTurn : ByteArray := prog_2_method_14_code
def yX0_beginWashInTurn : MethodName := ⟨RX0, "beginWashInTurn", "()V"⟩
abbrev cX0_boilAll : ByteArray := prog_2_method_15_code
def yX0_boilAll : MethodName := ⟨RX0, "boilAll", "()V"⟩
abbrev cX0_boil : ByteArray := prog_2_method_16_code
def yX0_boil : MethodName := ⟨RX0, "boil", "(II)I"⟩
abbrev cX0_flowOn : ByteArray := prog_2_method_17_code
def yX0_flowOn : MethodName := ⟨RX0, "flowOn", "()V"⟩
abbrev cX0_flowFrom : ByteArray := prog_2_method_18_code
def yX0_flowFrom : MethodName := ⟨RX0, "flowFrom", "(I)I"⟩
abbrev cX0_washOn : ByteArray := prog_2_method_19_code
def yX0_washOn : MethodName := ⟨RX0, "washOn", "()V"⟩
def RX1 : String := "EffectTrain"
def TX1 : u_T := fun k => match k with
  | 0 => ("EffectTrain", "text", "[C", true)
  | 1 => ("EffectTrain", "textLength", "I", false)
  | 2 => ("EffectTrain", "textNumbers", "[I", true)
  | 3 => ("EffectTrain", "now", "LEffectTrain$State;", true)
  | 4 => ("EffectTrain", "trial", "LEffectTrain$State;", true)
  | 5 => ("EffectTrain", "turnStates", "[LEffectTrain$State;", true)
  | 6 => ("EffectTrain", "remembered", "[LEffectTrain$State;", true)
  | 7 => ("EffectTrain", "newest", "I", false)
  | 8 => ("EffectTrain", "rememberedCount", "I", false)
  | 9 => ("EffectTrain", "slots", "[LEffectTrain$State;", true)
  | _ => ("EffectTrain", "slotFilled", "[Z", true)
def tyX1 : Nat → FieldType := fun k => match k with
  | 0 => .array .char
  | 1 => .int
  | 2 => .array .int
  | 3 => .object "EffectTrain$State"
  | 4 => .object "EffectTrain$State"
  | 5 => .array (.object "EffectTrain$State")
  | 6 => .array (.object "EffectTrain$State")
  | 7 => .int
  | 8 => .int
  | 9 => .array (.object "EffectTrain$State")
  | _ => .array .boolean
abbrev wsX10 : List Cond := u_ws RX1 TX1 11
theorem nmX1 : ∀ a, a < 11 → ∀ b, b < 11 → a ≠ b → (TX1 a).2.1 ≠ (TX1 b).2.1 := by decide +kernel
theorem tyX1_ok : ∀ k, k < 11 → parseFieldDescriptor (TX1 k).2.2.1 = some (tyX1 k) := by decide +kernel
abbrev cX1_init : ByteArray := prog_1_method_1_code
def yX1_init : MethodName := ⟨RX1, "<init>", "()V"⟩
abbrev cX1_append : ByteArray := prog_1_method_2_code
def yX1_append : MethodName := ⟨RX1, "append", "(I)I"⟩
abbrev cX1_clearText : ByteArray := prog_1_method_3_code
def yX1_clearText : MethodName := ⟨RX1, "clearText", "()I"⟩
abbrev cX1_errorPosition : ByteArray := prog_1_method_4_code
def yX1_errorPosition : MethodName := ⟨RX1, "errorPosition", "()I"⟩
abbrev cX1_load : ByteArray := prog_1_method_5_code
def yX1_load : MethodName := ⟨RX1, "load", "()I"⟩
abbrev cX1_readText : ByteArray := prog_1_method_6_code
def yX1_readText : MethodName := ⟨RX1, "readText", "()I"⟩
abbrev cX1_numberError : ByteArray := prog_1_method_7_code
def yX1_numberError : MethodName := ⟨RX1, "numberError", "(II)I"⟩
abbrev cX1_numberAt : ByteArray := prog_1_method_8_code
def yX1_numberAt : MethodName := ⟨RX1, "numberAt", "(II)I"⟩
abbrev cX1_about : ByteArray := prog_1_method_9_code
def yX1_about : MethodName := ⟨RX1, "about", "(I)I"⟩
abbrev cX1_total : ByteArray := prog_1_method_10_code
def yX1_total : MethodName := ⟨RX1, "total", "(I)I"⟩
abbrev cX1_effect : ByteArray := prog_1_method_11_code
def yX1_effect : MethodName := ⟨RX1, "effect", "(II)I"⟩
abbrev cX1_neighbor : ByteArray := prog_1_method_12_code
def yX1_neighbor : MethodName := ⟨RX1, "neighbor", "(IZ)I"⟩
abbrev cX1_economy : ByteArray := prog_1_method_13_code
def yX1_economy : MethodName := ⟨RX1, "economy", "()F"⟩
abbrev cX1_share : ByteArray := prog_1_method_14_code
def yX1_share : MethodName := ⟨RX1, "share", "(I)F"⟩
abbrev cX1_tick : ByteArray := prog_1_method_15_code
def yX1_tick : MethodName := ⟨RX1, "tick", "(I)I"⟩
abbrev cX1_set : ByteArray := prog_1_method_16_code
def yX1_set : MethodName := ⟨RX1, "set", "(II)I"⟩
abbrev cX1_setValve : ByteArray := prog_1_method_17_code
def yX1_setValve : MethodName := ⟨RX1, "setValve", "(II)I"⟩
abbrev cX1_setBleed : ByteArray := prog_1_method_18_code
def yX1_setBleed : MethodName := ⟨RX1, "setBleed", "(II)I"⟩
abbrev cX1_wash : ByteArray := prog_1_method_19_code
def yX1_wash : MethodName := ⟨RX1, "wash", "(II)I"⟩
abbrev cX1_endWash : ByteArray := prog_1_method_20_code
def yX1_endWash : MethodName := ⟨RX1, "endWash", "(I)I"⟩
abbrev cX1_undo : ByteArray := prog_1_method_21_code
def yX1_undo : MethodName := ⟨RX1, "undo", "()I"⟩
abbrev cX1_remember : ByteArray := prog_1_method_22_code
def yX1_remember : MethodName := ⟨RX1, "remember", "()V"⟩
abbrev cX1_ahead : ByteArray := prog_1_method_23_code
def yX1_ahead : MethodName := ⟨RX1, "ahead", "(III)I"⟩
abbrev cX1_growth : ByteArray := prog_1_method_24_code
def yX1_growth : MethodName := ⟨RX1, "growth", "(II)I"⟩
abbrev cX1_washGain : ByteArray := prog_1_method_25_code
def yX1_washGain : MethodName := ⟨RX1, "washGain", "(III)I"⟩
abbrev cX1_bestTurns : ByteArray := prog_1_method_26_code
def yX1_bestTurns : MethodName := ⟨RX1, "bestTurns", "(IZ)I"⟩
abbrev cX1_vaporWithChoice : ByteArray := prog_1_method_27_code
def yX1_vaporWithChoice : MethodName := ⟨RX1, "vaporWithChoice", "(LEffectTrain$State;II)I"⟩
abbrev cX1_greatestVapor : ByteArray := prog_1_method_28_code
def yX1_greatestVapor : MethodName := ⟨RX1, "greatestVapor", "(LEffectTrain$State;I)I"⟩
abbrev cX1_scaledAfter : ByteArray := prog_1_method_29_code
def yX1_scaledAfter : MethodName := ⟨RX1, "scaledAfter", "(II)I"⟩
abbrev cX1_steamFor : ByteArray := prog_1_method_30_code
def yX1_steamFor : MethodName := ⟨RX1, "steamFor", "(II)I"⟩
abbrev cX1_runScript : ByteArray := prog_1_method_31_code
def yX1_runScript : MethodName := ⟨RX1, "runScript", "(IJ)I"⟩
abbrev cX1_withoutLastGroups : ByteArray := prog_1_method_32_code
def yX1_withoutLastGroups : MethodName := ⟨RX1, "withoutLastGroups", "(JI)J"⟩
abbrev cX1_runCommand : ByteArray := prog_1_method_33_code
def yX1_runCommand : MethodName := ⟨RX1, "runCommand", "(I)Z"⟩
abbrev cX1_runEffectCommand : ByteArray := prog_1_method_34_code
def yX1_runEffectCommand : MethodName := ⟨RX1, "runEffectCommand", "(III)Z"⟩
abbrev cX1_simulate : ByteArray := prog_1_method_35_code
def yX1_simulate : MethodName := ⟨RX1, "simulate", "(JI)I"⟩
abbrev cX1_disturb : ByteArray := prog_1_method_36_code
def yX1_disturb : MethodName := ⟨RX1, "disturb", "(I)V"⟩
abbrev cX1_save : ByteArray := prog_1_method_37_code
def yX1_save : MethodName := ⟨RX1, "save", "(I)I"⟩
abbrev cX1_restore : ByteArray := prog_1_method_38_code
def yX1_restore : MethodName := ⟨RX1, "restore", "(I)I"⟩
abbrev cX1_checkRange : ByteArray := prog_1_method_39_code
def yX1_checkRange : MethodName := ⟨RX1, "checkRange", "(III)V"⟩
abbrev cX1_checkEffect : ByteArray := prog_1_method_40_code
def yX1_checkEffect : MethodName := ⟨RX1, "checkEffect", "(I)V"⟩
abbrev cX1_checkSlot : ByteArray := prog_1_method_41_code
def yX1_checkSlot : MethodName := ⟨RX1, "checkSlot", "(I)V"⟩
abbrev cX1_checkWorks : ByteArray := prog_1_method_42_code
def yX1_checkWorks : MethodName := ⟨RX1, "checkWorks", "(I)V"⟩
abbrev cX1_stateAt : ByteArray := prog_1_method_43_code
def yX1_stateAt : MethodName := ⟨RX1, "stateAt", "([LEffectTrain$State;I)LEffectTrain$State;"⟩
def RX2 : String := "EffectTrainModel"
def TX2 : u_T := fun k => match k with
  | 0 => ("EffectTrainModel", "refusal", "I", false)
  | 1 => ("EffectTrainModel", "script", "[I", true)
  | 2 => ("EffectTrainModel", "scriptSize", "I", false)
  | 3 => ("EffectTrainModel", "spot", "I", false)
  | 4 => ("EffectTrainModel", "readN", "I", false)
  | 5 => ("EffectTrainModel", "readRow", "[I", true)
  | 6 => ("EffectTrainModel", "n", "I", false)
  | 7 => ("EffectTrainModel", "now", "[I", true)
  | 8 => ("EffectTrainModel", "trial", "[I", true)
  | 9 => ("EffectTrainModel", "diary", "[I", true)
  | 10 => ("EffectTrainModel", "acts", "I", false)
  | 11 => ("EffectTrainModel", "kept", "[I", true)
  | 12 => ("EffectTrainModel", "isKept", "[Z", true)
  | 13 => ("EffectTrainModel", "flow", "[I", true)
  | _ => ("EffectTrainModel", "salt", "[I", true)
def tyX2 : Nat → FieldType := fun k => match k with
  | 0 => .int
  | 1 => .array .int
  | 2 => .int
  | 3 => .int
  | 4 => .int
  | 5 => .array .int
  | 6 => .int
  | 7 => .array .int
  | 8 => .array .int
  | 9 => .array .int
  | 10 => .int
  | 11 => .array .int
  | 12 => .array .boolean
  | 13 => .array .int
  | _ => .array .int
abbrev wsX20 : List Cond := u_ws RX2 TX2 15
theorem nmX2 : ∀ a, a < 15 → ∀ b, b < 15 → a ≠ b → (TX2 a).2.1 ≠ (TX2 b).2.1 := by decide +kernel
theorem tyX2_ok : ∀ k, k < 15 → parseFieldDescriptor (TX2 k).2.2.1 = some (tyX2 k) := by decide +kernel
abbrev cX2_init : ByteArray := prog_4_method_1_code
def yX2_init : MethodName := ⟨RX2, "<init>", "()V"⟩
abbrev cX2_thrown : ByteArray := prog_4_method_2_code
def yX2_thrown : MethodName := ⟨RX2, "thrown", "()I"⟩
abbrev cX2_refused : ByteArray := prog_4_method_3_code
def yX2_refused : MethodName := ⟨RX2, "refused", "(I)Z"⟩
abbrev cX2_in : ByteArray := prog_4_method_4_code
def yX2_in : MethodName := ⟨RX2, "in", "(JJJ)Z"⟩
abbrev cX2_copy : ByteArray := prog_4_method_5_code
def yX2_copy : MethodName := ⟨RX2, "copy", "([II[III)V"⟩
abbrev cX2_tenTo : ByteArray := prog_4_method_6_code
def yX2_tenTo : MethodName := ⟨RX2, "tenTo", "(I)J"⟩
abbrev cX2_less : ByteArray := prog_4_method_7_code
def yX2_less : MethodName := ⟨RX2, "less", "(II)I"⟩
abbrev cX2_note : ByteArray := prog_4_method_8_code
def yX2_note : MethodName := ⟨RX2, "note", "()V"⟩
abbrev cX2_isEffect : ByteArray := prog_4_method_9_code
def yX2_isEffect : MethodName := ⟨RX2, "isEffect", "(I)Z"⟩
abbrev cX2_amount : ByteArray := prog_4_method_10_code
def yX2_amount : MethodName := ⟨RX2, "amount", "([II)I"⟩
abbrev cX2_thickness : ByteArray := prog_4_method_11_code
def yX2_thickness : MethodName := ⟨RX2, "thickness", "([II)I"⟩
abbrev cX2_power : ByteArray := prog_4_method_12_code
def yX2_power : MethodName := ⟨RX2, "power", "([II)I"⟩
abbrev cX2_works : ByteArray := prog_4_method_13_code
def yX2_works : MethodName := ⟨RX2, "works", "([II)Z"⟩
abbrev cX2_before : ByteArray := prog_4_method_14_code
def yX2_before : MethodName := ⟨RX2, "before", "([II)I"⟩
abbrev cX2_behind : ByteArray := prog_4_method_15_code
def yX2_behind : MethodName := ⟨RX2, "behind", "([II)I"⟩
abbrev cX2_washed : ByteArray := prog_4_method_16_code
def yX2_washed : MethodName := ⟨RX2, "washed", "([I)I"⟩
abbrev cX2_tickOn : ByteArray := prog_4_method_17_code
def yX2_tickOn : MethodName := ⟨RX2, "tickOn", "([I)V"⟩
abbrev cX2_boil : ByteArray := prog_4_method_18_code
def yX2_boil : MethodName := ⟨RX2, "boil", "([I)V"⟩
abbrev cX2_go : ByteArray := prog_4_method_19_code
def yX2_go : MethodName := ⟨RX2, "go", "([I)V"⟩
abbrev cX2_ticksOn : ByteArray := prog_4_method_20_code
def yX2_ticksOn : MethodName := ⟨RX2, "ticksOn", "([II)I"⟩
abbrev cX2_append : ByteArray := prog_4_method_21_code
def yX2_append : MethodName := ⟨RX2, "append", "(I)I"⟩
abbrev cX2_clearText : ByteArray := prog_4_method_22_code
def yX2_clearText : MethodName := ⟨RX2, "clearText", "()I"⟩
abbrev cX2_number : ByteArray := prog_4_method_23_code
def yX2_number : MethodName := ⟨RX2, "number", "(III)I"⟩
abbrev cX2_readEffect : ByteArray := prog_4_method_24_code
def yX2_readEffect : MethodName := ⟨RX2, "readEffect", "(I)I"⟩
abbrev cX2_readText : ByteArray := prog_4_method_25_code
def yX2_readText : MethodName := ⟨RX2, "readText", "()I"⟩
abbrev cX2_errorPosition : ByteArray := prog_4_method_26_code
def yX2_errorPosition : MethodName := ⟨RX2, "errorPosition", "()I"⟩
abbrev cX2_sumOf : ByteArray := prog_4_method_27_code
def yX2_sumOf : MethodName := ⟨RX2, "sumOf", "([II)I"⟩
abbrev cX2_load : ByteArray := prog_4_method_28_code
def yX2_load : MethodName := ⟨RX2, "load", "()I"⟩
abbrev cX2_about : ByteArray := prog_4_method_29_code
def yX2_about : MethodName := ⟨RX2, "about", "(I)I"⟩
abbrev cX2_total : ByteArray := prog_4_method_30_code
def yX2_total : MethodName := ⟨RX2, "total", "(I)I"⟩
abbrev cX2_detail : ByteArray := prog_4_method_31_code
def yX2_detail : MethodName := ⟨RX2, "detail", "([III)I"⟩
abbrev cX2_effect : ByteArray := prog_4_method_32_code
def yX2_effect : MethodName := ⟨RX2, "effect", "(II)I"⟩
abbrev cX2_neighbor : ByteArray := prog_4_method_33_code
def yX2_neighbor : MethodName := ⟨RX2, "neighbor", "(IZ)I"⟩
abbrev cX2_economy : ByteArray := prog_4_method_34_code
def yX2_economy : MethodName := ⟨RX2, "economy", "()F"⟩
abbrev cX2_share : ByteArray := prog_4_method_35_code
def yX2_share : MethodName := ⟨RX2, "share", "(I)F"⟩
abbrev cX2_tick : ByteArray := prog_4_method_36_code
def yX2_tick : MethodName := ⟨RX2, "tick", "(I)I"⟩
abbrev cX2_set : ByteArray := prog_4_method_37_code
def yX2_set : MethodName := ⟨RX2, "set", "(II)I"⟩
abbrev cX2_change : ByteArray := prog_4_method_38_code
def yX2_change : MethodName := ⟨RX2, "change", "(II)I"⟩
abbrev cX2_setValve : ByteArray := prog_4_method_39_code
def yX2_setValve : MethodName := ⟨RX2, "setValve", "(II)I"⟩
abbrev cX2_setBleed : ByteArray := prog_4_method_40_code
def yX2_setBleed : MethodName := ⟨RX2, "setBleed", "(II)I"⟩
abbrev cX2_wash : ByteArray := prog_4_method_41_code
def yX2_wash : MethodName := ⟨RX2, "wash", "(II)I"⟩
abbrev cX2_endWash : ByteArray := prog_4_method_42_code
def yX2_endWash : MethodName := ⟨RX2, "endWash", "(I)I"⟩
abbrev cX2_undo : ByteArray := prog_4_method_43_code
def yX2_undo : MethodName := ⟨RX2, "undo", "()I"⟩
abbrev cX2_ahead : ByteArray := prog_4_method_44_code
def yX2_ahead : MethodName := ⟨RX2, "ahead", "(III)I"⟩
abbrev cX2_growth : ByteArray := prog_4_method_45_code
def yX2_growth : MethodName := ⟨RX2, "growth", "(II)I"⟩
abbrev cX2_washGain : ByteArray := prog_4_method_46_code
def yX2_washGain : MethodName := ⟨RX2, "washGain", "(III)I"⟩
abbrev cX2_turns : ByteArray := prog_4_method_47_code
def yX2_turns : MethodName := ⟨RX2, "turns", "(II)I"⟩
abbrev cX2_bestTurns : ByteArray := prog_4_method_48_code
def yX2_bestTurns : MethodName := ⟨RX2, "bestTurns", "(IZ)I"⟩
abbrev cX2_scaledAfter : ByteArray := prog_4_method_49_code
def yX2_scaledAfter : MethodName := ⟨RX2, "scaledAfter", "(II)I"⟩
abbrev cX2_steamFor : ByteArray := prog_4_method_50_code
def yX2_steamFor : MethodName := ⟨RX2, "steamFor", "(II)I"⟩
abbrev cX2_command : ByteArray := prog_4_method_51_code
def yX2_command : MethodName := ⟨RX2, "command", "(I)Z"⟩
abbrev cX2_runScript : ByteArray := prog_4_method_52_code
def yX2_runScript : MethodName := ⟨RX2, "runScript", "(IJ)I"⟩
abbrev cX2_simulate : ByteArray := prog_4_method_53_code
def yX2_simulate : MethodName := ⟨RX2, "simulate", "(JI)I"⟩
abbrev cX2_save : ByteArray := prog_4_method_54_code
def yX2_save : MethodName := ⟨RX2, "save", "(I)I"⟩
abbrev cX2_restore : ByteArray := prog_4_method_55_code
def yX2_restore : MethodName := ⟨RX2, "restore", "(I)I"⟩
def RJx145de : String := "java/io/Serializable"
def TJx145de : u_T := fun k => match k with
  | _ => ("", "", "", false)
def tyJx145de : Nat → FieldType := fun k => match k with
  | _ => .int
abbrev wsJx145de0 : List Cond := u_ws RJx145de TJx145de 0
theorem nmJx145de : ∀ a, a < 0 → ∀ b, b < 0 → a ≠ b → (TJx145de a).2.1 ≠ (TJx145de b).2.1 := by decide +kernel
theorem tyJx145de_ok : ∀ k, k < 0 → parseFieldDescriptor (TJx145de k).2.2.1 = some (tyJx145de k) := by decide +kernel
def RJ9 : String := "java/lang/Math"
def TJ9 : u_T := fun k => match k with
  | _ => ("", "", "", false)
def tyJ9 : Nat → FieldType := fun k => match k with
  | _ => .int
abbrev wsJ90 : List Cond := u_ws RJ9 TJ9 0
theorem nmJ9 : ∀ a, a < 0 → ∀ b, b < 0 → a ≠ b → (TJ9 a).2.1 ≠ (TJ9 b).2.1 := by decide +kernel
theorem tyJ9_ok : ∀ k, k < 0 → parseFieldDescriptor (TJ9 k).2.2.1 = some (tyJ9 k) := by decide +kernel
abbrev cJ9_max_7cf53 : ByteArray := prog_9_method_65_code
def yJ9_max_7cf53 : MethodName := ⟨RJ9, "max", "(II)I"⟩
abbrev cJ9_min_7cf53 : ByteArray := prog_9_method_69_code
def yJ9_min_7cf53 : MethodName := ⟨RJ9, "min", "(II)I"⟩
def RJ0 : String := "java/lang/String"
def TJ0 : u_T := fun k => match k with
  | _ => ("", "", "", false)
def tyJ0 : Nat → FieldType := fun k => match k with
  | _ => .int
abbrev wsJ00 : List Cond := u_ws RJ0 TJ0 0
theorem nmJ0 : ∀ a, a < 0 → ∀ b, b < 0 → a ≠ b → (TJ0 a).2.1 ≠ (TJ0 b).2.1 := by decide +kernel
theorem tyJ0_ok : ∀ k, k < 0 → parseFieldDescriptor (TJ0 k).2.2.1 = some (tyJ0 k) := by decide +kernel
def RJ10 : String := "java/lang/System"
def TJ10 : u_T := fun k => match k with
  | _ => ("", "", "", false)
def tyJ10 : Nat → FieldType := fun k => match k with
  | _ => .int
abbrev wsJ100 : List Cond := u_ws RJ10 TJ10 0
theorem nmJ10 : ∀ a, a < 0 → ∀ b, b < 0 → a ≠ b → (TJ10 a).2.1 ≠ (TJ10 b).2.1 := by decide +kernel
theorem tyJ10_ok : ∀ k, k < 0 → parseFieldDescriptor (TJ10 k).2.2.1 = some (tyJ10 k) := by decide +kernel
def RJ7 : String := "java/util/Arrays"
def TJ7 : u_T := fun k => match k with
  | _ => ("", "", "", false)
def tyJ7 : Nat → FieldType := fun k => match k with
  | _ => .int
abbrev wsJ70 : List Cond := u_ws RJ7 TJ7 0
theorem nmJ7 : ∀ a, a < 0 → ∀ b, b < 0 → a ≠ b → (TJ7 a).2.1 ≠ (TJ7 b).2.1 := by decide +kernel
theorem tyJ7_ok : ∀ k, k < 0 → parseFieldDescriptor (TJ7 k).2.2.1 = some (tyJ7 k) := by decide +kernel
abbrev cJ7_fill_53178 : ByteArray := prog_14_method_103_code
def yJ7_fill_53178 : MethodName := ⟨RJ7, "fill", "([II)V"⟩
def RL : String := "EffectTrainLaw"
abbrev cL_append : ByteArray := method_3_code
def yL_append : MethodName := ⟨RL, "append", "(LEffectTrain;I[J)I"⟩
abbrev cL_load : ByteArray := method_4_code
def yL_load : MethodName := ⟨RL, "load", "(LEffectTrain;[J)I"⟩
abbrev cL_about : ByteArray := method_5_code
def yL_about : MethodName := ⟨RL, "about", "(LEffectTrain;I[J)I"⟩
abbrev cL_total : ByteArray := method_6_code
def yL_total : MethodName := ⟨RL, "total", "(LEffectTrain;I[J)I"⟩
abbrev cL_effect : ByteArray := method_7_code
def yL_effect : MethodName := ⟨RL, "effect", "(LEffectTrain;II[J)I"⟩
abbrev cL_neighbor : ByteArray := method_8_code
def yL_neighbor : MethodName := ⟨RL, "neighbor", "(LEffectTrain;IZ[J)I"⟩
abbrev cL_share : ByteArray := method_9_code
def yL_share : MethodName := ⟨RL, "share", "(LEffectTrain;I[D)I"⟩
abbrev cL_tick : ByteArray := method_10_code
def yL_tick : MethodName := ⟨RL, "tick", "(LEffectTrain;I[J)I"⟩
abbrev cL_set : ByteArray := method_11_code
def yL_set : MethodName := ⟨RL, "set", "(LEffectTrain;II[J)I"⟩
abbrev cL_setValve : ByteArray := method_12_code
def yL_setValve : MethodName := ⟨RL, "setValve", "(LEffectTrain;II[J)I"⟩
abbrev cL_setBleed : ByteArray := method_13_code
def yL_setBleed : MethodName := ⟨RL, "setBleed", "(LEffectTrain;II[J)I"⟩
abbrev cL_wash : ByteArray := method_14_code
def yL_wash : MethodName := ⟨RL, "wash", "(LEffectTrain;II[J)I"⟩
abbrev cL_endWash : ByteArray := method_15_code
def yL_endWash : MethodName := ⟨RL, "endWash", "(LEffectTrain;I[J)I"⟩
abbrev cL_undo : ByteArray := method_16_code
def yL_undo : MethodName := ⟨RL, "undo", "(LEffectTrain;[J)I"⟩
abbrev cL_ahead : ByteArray := method_17_code
def yL_ahead : MethodName := ⟨RL, "ahead", "(LEffectTrain;III[J)I"⟩
abbrev cL_growth : ByteArray := method_18_code
def yL_growth : MethodName := ⟨RL, "growth", "(LEffectTrain;II[J)I"⟩
abbrev cL_washGain : ByteArray := method_19_code
def yL_washGain : MethodName := ⟨RL, "washGain", "(LEffectTrain;III[J)I"⟩
abbrev cL_bestTurns : ByteArray := method_20_code
def yL_bestTurns : MethodName := ⟨RL, "bestTurns", "(LEffectTrain;IZ[J)I"⟩
abbrev cL_scaledAfter : ByteArray := method_21_code
def yL_scaledAfter : MethodName := ⟨RL, "scaledAfter", "(LEffectTrain;II[J)I"⟩
abbrev cL_steamFor : ByteArray := method_22_code
def yL_steamFor : MethodName := ⟨RL, "steamFor", "(LEffectTrain;II[J)I"⟩
abbrev cL_runScript : ByteArray := method_23_code
def yL_runScript : MethodName := ⟨RL, "runScript", "(LEffectTrain;IJ[J)I"⟩
abbrev cL_simulate : ByteArray := method_24_code
def yL_simulate : MethodName := ⟨RL, "simulate", "(LEffectTrain;JI[J)I"⟩
abbrev cL_save : ByteArray := method_25_code
def yL_save : MethodName := ⟨RL, "save", "(LEffectTrain;I[J)I"⟩
abbrev cL_restore : ByteArray := method_26_code
def yL_restore : MethodName := ⟨RL, "restore", "(LEffectTrain;I[J)I"⟩
abbrev cL_law : ByteArray := code
def yL_law : MethodName := ⟨RL, "law", "([I)Z"⟩
def wsJ7_fill_53178 : List Cond := .code yJ7_fill_53178 cJ7_fill_53178 4 none :: ([])
def wsX0_init : List Cond := .code yX0_init cX0_init 1 none :: ([.methodLink RX0 3 objectInit, .instanceMethod objectInit, .code objectInit ⟨#[0xb1]⟩ 1 none, .fieldLink RX0 9 "EffectTrain$State" "n" "I", .arrayClass .int, .fieldLink RX0 15 "EffectTrain$State" "settings" "[I", .fieldLink RX0 19 "EffectTrain$State" "clock" "I", .fieldLink RX0 22 "EffectTrain$State" "counts" "[I", .fieldLink RX0 25 "EffectTrain$State" "area" "[I", .fieldLink RX0 28 "EffectTrain$State" "water" "[I", .fieldLink RX0 31 "EffectTrain$State" "solids" "[I", .fieldLink RX0 34 "EffectTrain$State" "valve" "[I", .fieldLink RX0 37 "EffectTrain$State" "bleed" "[I", .fieldLink RX0 40 "EffectTrain$State" "scale" "[I", .fieldLink RX0 43 "EffectTrain$State" "scaling" "[I", .fieldLink RX0 46 "EffectTrain$State" "left" "[I", .methodLink RX0 49 yJ7_fill_53178, .static yJ7_fill_53178, .initialized RJ7, .code yJ7_fill_53178 cJ7_fill_53178 4 none] ++ wsX00)
def wsX0_copyFrom : List Cond := .code yX0_copyFrom cX0_copyFrom 2 none :: ([.fieldLink RX0 9 "EffectTrain$State" "n" "I", .fieldLink RX0 19 "EffectTrain$State" "clock" "I", .fieldLink RX0 15 "EffectTrain$State" "settings" "[I", .methodLink RX0 55 arraycopyName, .native arraycopyName, .static arraycopyName, .initialized "java/lang/System", .fieldLink RX0 22 "EffectTrain$State" "counts" "[I", .fieldLink RX0 25 "EffectTrain$State" "area" "[I", .fieldLink RX0 28 "EffectTrain$State" "water" "[I", .fieldLink RX0 31 "EffectTrain$State" "solids" "[I", .fieldLink RX0 34 "EffectTrain$State" "valve" "[I", .fieldLink RX0 37 "EffectTrain$State" "bleed" "[I", .fieldLink RX0 40 "EffectTrain$State" "scale" "[I", .fieldLink RX0 43 "EffectTrain$State" "scaling" "[I", .fieldLink RX0 46 "EffectTrain$State" "left" "[I"] ++ wsX00)
def wsX0_takeNumbers : List Cond := .code yX0_takeNumbers cX0_takeNumbers 4 none :: ([.fieldLink RX0 9 "EffectTrain$State" "n" "I", .fieldLink RX0 15 "EffectTrain$State" "settings" "[I", .methodLink RX0 55 arraycopyName, .native arraycopyName, .static arraycopyName, .initialized "java/lang/System", .fieldLink RX0 19 "EffectTrain$State" "clock" "I", .fieldLink RX0 22 "EffectTrain$State" "counts" "[I", .fieldLink RX0 43 "EffectTrain$State" "scaling" "[I", .fieldLink RX0 46 "EffectTrain$State" "left" "[I", .fieldLink RX0 25 "EffectTrain$State" "area" "[I", .fieldLink RX0 28 "EffectTrain$State" "water" "[I", .fieldLink RX0 31 "EffectTrain$State" "solids" "[I", .fieldLink RX0 34 "EffectTrain$State" "valve" "[I", .fieldLink RX0 37 "EffectTrain$State" "bleed" "[I", .fieldLink RX0 40 "EffectTrain$State" "scale" "[I", .methodLink RX0 49 yJ7_fill_53178, .static yJ7_fill_53178, .initialized RJ7, .code yJ7_fill_53178 cJ7_fill_53178 4 none] ++ wsX00)
def wsX0_thickness : List Cond := .code yX0_thickness cX0_thickness 3 (some .int) :: ([.fieldLink RX0 28 "EffectTrain$State" "water" "[I", .fieldLink RX0 31 "EffectTrain$State" "solids" "[I"] ++ wsX00)
def wsX0_power : List Cond := .code yX0_power cX0_power 3 (some .int) :: ([.fieldLink RX0 40 "EffectTrain$State" "scale" "[I", .fieldLink RX0 25 "EffectTrain$State" "area" "[I"] ++ wsX00)
def wsX0_numberOf : List Cond := .code yX0_numberOf cX0_numberOf 3 (some .int) :: ([.fieldLink RX0 25 "EffectTrain$State" "area" "[I", .fieldLink RX0 28 "EffectTrain$State" "water" "[I", .fieldLink RX0 31 "EffectTrain$State" "solids" "[I", .fieldLink RX0 34 "EffectTrain$State" "valve" "[I", .fieldLink RX0 37 "EffectTrain$State" "bleed" "[I", .fieldLink RX0 40 "EffectTrain$State" "scale" "[I", .fieldLink RX0 43 "EffectTrain$State" "scaling" "[I", .fieldLink RX0 46 "EffectTrain$State" "left" "[I", .methodLink RX0 61 yX0_thickness, .instanceMethod yX0_thickness, .selects RX0 yX0_thickness yX0_thickness, .initialized RX0, .code yX0_thickness cX0_thickness 3 (some .int), .methodLink RX0 65 yX0_power, .instanceMethod yX0_power, .selects RX0 yX0_power yX0_power, .code yX0_power cX0_power 3 (some .int)] ++ wsX00)
def wsX0_amount : List Cond := .code yX0_amount cX0_amount 2 (some .int) :: ([.fieldLink RX0 28 "EffectTrain$State" "water" "[I", .fieldLink RX0 31 "EffectTrain$State" "solids" "[I"] ++ wsX00)
def wsX0_allWater : List Cond := .code yX0_allWater cX0_allWater 3 (some .int) :: ([.fieldLink RX0 9 "EffectTrain$State" "n" "I", .fieldLink RX0 28 "EffectTrain$State" "water" "[I"] ++ wsX00)
def wsX0_allSolids : List Cond := .code yX0_allSolids cX0_allSolids 3 (some .int) :: ([.fieldLink RX0 9 "EffectTrain$State" "n" "I", .fieldLink RX0 31 "EffectTrain$State" "solids" "[I"] ++ wsX00)
def wsX0_washedEffects : List Cond := .code yX0_washedEffects cX0_washedEffects 3 (some .int) :: ([.fieldLink RX0 9 "EffectTrain$State" "n" "I", .fieldLink RX0 46 "EffectTrain$State" "left" "[I"] ++ wsX00)
def wsX0_effectBehind : List Cond := .code yX0_effectBehind cX0_effectBehind 3 (some .int) :: ([.fieldLink RX0 9 "EffectTrain$State" "n" "I", .fieldLink RX0 46 "EffectTrain$State" "left" "[I"] ++ wsX00)
def wsX0_effectBefore : List Cond := .code yX0_effectBefore cX0_effectBefore 3 (some .int) :: ([.fieldLink RX0 46 "EffectTrain$State" "left" "[I"] ++ wsX00)
def wsX0_beginWashInTurn : List Cond := .code yX0_beginWashInTurn cX0_beginWashInTurn 4 none :: ([.fieldLink RX0 15 "EffectTrain$State" "settings" "[I", .fieldLink RX0 19 "EffectTrain$State" "clock" "I", .fieldLink RX0 9 "EffectTrain$State" "n" "I", .fieldLink RX0 40 "EffectTrain$State" "scale" "[I", .fieldLink RX0 46 "EffectTrain$State" "left" "[I", .methodLink RX0 80 yX0_washedEffects, .instanceMethod yX0_washedEffects, .selects RX0 yX0_washedEffects yX0_washedEffects, .initialized RX0, .code yX0_washedEffects cX0_washedEffects 3 (some .int)] ++ wsX00)
def wsX0_boil : List Cond := .code yX0_boil cX0_boil 7 (some .int) :: ([.methodLink RX0 88 Lib.Math.min.name, .static Lib.Math.min.name, .initialized "java/lang/Math", .code Lib.Math.min.name Lib.Math.min.code 2 (some .int), .fieldLink RX0 28 "EffectTrain$State" "water" "[I", .fieldLink RX0 37 "EffectTrain$State" "bleed" "[I", .fieldLink RX0 22 "EffectTrain$State" "counts" "[I", .fieldLink RX0 43 "EffectTrain$State" "scaling" "[I", .fieldLink RX0 40 "EffectTrain$State" "scale" "[I", .methodLink RX0 61 yX0_thickness, .instanceMethod yX0_thickness, .selects RX0 yX0_thickness yX0_thickness, .initialized RX0, .code yX0_thickness cX0_thickness 3 (some .int), .fieldLink RX0 31 "EffectTrain$State" "solids" "[I", .methodLink RX0 65 yX0_power, .instanceMethod yX0_power, .selects RX0 yX0_power yX0_power, .code yX0_power cX0_power 3 (some .int), .fieldLink RX0 25 "EffectTrain$State" "area" "[I"] ++ wsX00)
def wsX0_boilAll_r1 : List Cond := [Cond.fieldLink RX0 15 "EffectTrain$State" "settings" "[I", Cond.fieldLink RX0 9 "EffectTrain$State" "n" "I", Cond.fieldLink RX0 46 "EffectTrain$State" "left" "[I", Cond.fieldLink RX0 22 "EffectTrain$State" "counts" "[I", Cond.methodLink RX0 84 yX0_boil, Cond.instanceMethod yX0_boil, Cond.selects RX0 yX0_boil yX0_boil, Cond.initialized RX0, Cond.code yX0_boil cX0_boil 7 (some .int), Cond.methodLink RX0 88 Lib.Math.min.name, Cond.static Lib.Math.min.name, Cond.initialized "java/lang/Math", Cond.code Lib.Math.min.name Lib.Math.min.code 2 (some .int), Cond.fieldLink RX0 28 "EffectTrain$State" "water" "[I", Cond.fieldLink RX0 37 "EffectTrain$State" "bleed" "[I", Cond.fieldLink RX0 43 "EffectTrain$State" "scaling" "[I", Cond.fieldLink RX0 40 "EffectTrain$State" "scale" "[I", Cond.methodLink RX0 61 yX0_thickness, Cond.instanceMethod yX0_thickness, Cond.selects RX0 yX0_thickness yX0_thickness, Cond.code yX0_thickness cX0_thickness 3 (some .int), Cond.fieldLink RX0 31 "EffectTrain$State" "solids" "[I", Cond.methodLink RX0 65 yX0_power, Cond.instanceMethod yX0_power]
def wsX0_boilAll_r2 : List Cond := [Cond.selects RX0 yX0_power yX0_power, Cond.code yX0_power cX0_power 3 (some .int), Cond.fieldLink RX0 25 "EffectTrain$State" "area" "[I"]
def wsX0_boilAll : List Cond := .code yX0_boilAll cX0_boilAll 4 none :: ((wsX0_boilAll_r1 ++ wsX0_boilAll_r2) ++ wsX00)
def wsX0_flowFrom : List Cond := .code yX0_flowFrom cX0_flowFrom 4 (some .int) :: ([.fieldLink RX0 34 "EffectTrain$State" "valve" "[I", .methodLink RX0 88 Lib.Math.min.name, .static Lib.Math.min.name, .initialized "java/lang/Math", .code Lib.Math.min.name Lib.Math.min.code 2 (some .int), .methodLink RX0 96 yX0_amount, .instanceMethod yX0_amount, .selects RX0 yX0_amount yX0_amount, .initialized RX0, .code yX0_amount cX0_amount 2 (some .int), .fieldLink RX0 28 "EffectTrain$State" "water" "[I", .fieldLink RX0 31 "EffectTrain$State" "solids" "[I", .methodLink RX0 93 yX0_effectBehind, .instanceMethod yX0_effectBehind, .selects RX0 yX0_effectBehind yX0_effectBehind, .code yX0_effectBehind cX0_effectBehind 3 (some .int), .fieldLink RX0 9 "EffectTrain$State" "n" "I", .fieldLink RX0 46 "EffectTrain$State" "left" "[I"] ++ wsX00)
def wsX0_flowOn : List Cond := .code yX0_flowOn cX0_flowOn 9 none :: ([.fieldLink RX0 15 "EffectTrain$State" "settings" "[I", .fieldLink RX0 22 "EffectTrain$State" "counts" "[I", .fieldLink RX0 9 "EffectTrain$State" "n" "I", .fieldLink RX0 46 "EffectTrain$State" "left" "[I", .fieldLink RX0 31 "EffectTrain$State" "solids" "[I", .fieldLink RX0 28 "EffectTrain$State" "water" "[I", .methodLink RX0 93 yX0_effectBehind, .instanceMethod yX0_effectBehind, .selects RX0 yX0_effectBehind yX0_effectBehind, .initialized RX0, .code yX0_effectBehind cX0_effectBehind 3 (some .int), .methodLink RX0 96 yX0_amount, .instanceMethod yX0_amount, .selects RX0 yX0_amount yX0_amount, .code yX0_amount cX0_amount 2 (some .int), .methodLink RX0 99 yX0_flowFrom, .instanceMethod yX0_flowFrom, .selects RX0 yX0_flowFrom yX0_flowFrom, .code yX0_flowFrom cX0_flowFrom 4 (some .int), .fieldLink RX0 34 "EffectTrain$State" "valve" "[I", .methodLink RX0 88 Lib.Math.min.name, .static Lib.Math.min.name, .initialized "java/lang/Math", .code Lib.Math.min.name Lib.Math.min.code 2 (some .int)] ++ wsX00)
def wsX0_washOn : List Cond := .code yX0_washOn cX0_washOn 2 none :: ([.fieldLink RX0 9 "EffectTrain$State" "n" "I", .fieldLink RX0 46 "EffectTrain$State" "left" "[I", .fieldLink RX0 40 "EffectTrain$State" "scale" "[I", .methodLink RX0 102 Lib.Math.max.name, .static Lib.Math.max.name, .initialized "java/lang/Math", .code Lib.Math.max.name Lib.Math.max.code 2 (some .int)] ++ wsX00)
def wsX0_pass_r1 : List Cond := [Cond.fieldLink RX0 22 "EffectTrain$State" "counts" "[I", Cond.fieldLink RX0 19 "EffectTrain$State" "clock" "I", Cond.methodLink RX0 68 yX0_beginWashInTurn, Cond.instanceMethod yX0_beginWashInTurn, Cond.selects RX0 yX0_beginWashInTurn yX0_beginWashInTurn, Cond.initialized RX0, Cond.code yX0_beginWashInTurn cX0_beginWashInTurn 4 none, Cond.fieldLink RX0 15 "EffectTrain$State" "settings" "[I", Cond.fieldLink RX0 9 "EffectTrain$State" "n" "I", Cond.fieldLink RX0 40 "EffectTrain$State" "scale" "[I", Cond.fieldLink RX0 46 "EffectTrain$State" "left" "[I", Cond.methodLink RX0 80 yX0_washedEffects, Cond.instanceMethod yX0_washedEffects, Cond.selects RX0 yX0_washedEffects yX0_washedEffects, Cond.code yX0_washedEffects cX0_washedEffects 3 (some .int), Cond.methodLink RX0 71 yX0_boilAll, Cond.instanceMethod yX0_boilAll, Cond.selects RX0 yX0_boilAll yX0_boilAll, Cond.code yX0_boilAll cX0_boilAll 4 none, Cond.methodLink RX0 84 yX0_boil, Cond.instanceMethod yX0_boil, Cond.selects RX0 yX0_boil yX0_boil, Cond.code yX0_boil cX0_boil 7 (some .int), Cond.methodLink RX0 88 Lib.Math.min.name]
def wsX0_pass_r2 : List Cond := [Cond.static Lib.Math.min.name, Cond.initialized "java/lang/Math", Cond.code Lib.Math.min.name Lib.Math.min.code 2 (some .int), Cond.fieldLink RX0 28 "EffectTrain$State" "water" "[I", Cond.fieldLink RX0 37 "EffectTrain$State" "bleed" "[I", Cond.fieldLink RX0 43 "EffectTrain$State" "scaling" "[I", Cond.methodLink RX0 61 yX0_thickness, Cond.instanceMethod yX0_thickness, Cond.selects RX0 yX0_thickness yX0_thickness, Cond.code yX0_thickness cX0_thickness 3 (some .int), Cond.fieldLink RX0 31 "EffectTrain$State" "solids" "[I", Cond.methodLink RX0 65 yX0_power, Cond.instanceMethod yX0_power, Cond.selects RX0 yX0_power yX0_power, Cond.code yX0_power cX0_power 3 (some .int), Cond.fieldLink RX0 25 "EffectTrain$State" "area" "[I", Cond.methodLink RX0 74 yX0_flowOn, Cond.instanceMethod yX0_flowOn, Cond.selects RX0 yX0_flowOn yX0_flowOn, Cond.code yX0_flowOn cX0_flowOn 9 none, Cond.methodLink RX0 93 yX0_effectBehind, Cond.instanceMethod yX0_effectBehind, Cond.selects RX0 yX0_effectBehind yX0_effectBehind, Cond.code yX0_effectBehind cX0_effectBehind 3 (some .int)]
def wsX0_pass_r3 : List Cond := [Cond.methodLink RX0 96 yX0_amount, Cond.instanceMethod yX0_amount, Cond.selects RX0 yX0_amount yX0_amount, Cond.code yX0_amount cX0_amount 2 (some .int), Cond.methodLink RX0 99 yX0_flowFrom, Cond.instanceMethod yX0_flowFrom, Cond.selects RX0 yX0_flowFrom yX0_flowFrom, Cond.code yX0_flowFrom cX0_flowFrom 4 (some .int), Cond.fieldLink RX0 34 "EffectTrain$State" "valve" "[I", Cond.methodLink RX0 77 yX0_washOn, Cond.instanceMethod yX0_washOn, Cond.selects RX0 yX0_washOn yX0_washOn, Cond.code yX0_washOn cX0_washOn 2 none, Cond.methodLink RX0 102 Lib.Math.max.name, Cond.static Lib.Math.max.name, Cond.code Lib.Math.max.name Lib.Math.max.code 2 (some .int)]
def wsX0_pass : List Cond := .code yX0_pass cX0_pass 4 (some .int) :: ((wsX0_pass_r1 ++ (wsX0_pass_r2 ++ wsX0_pass_r3)) ++ wsX00)
def wsX1_init_r1 : List Cond := [Cond.methodLink RX1 3 objectInit, Cond.instanceMethod objectInit, Cond.code objectInit ⟨#[0xb1]⟩ 1 none, Cond.arrayClass .char, Cond.fieldLink RX1 9 "EffectTrain" "text" "[C", Cond.fieldLink RX1 13 "EffectTrain" "textLength" "I", Cond.arrayClass .int, Cond.fieldLink RX1 17 "EffectTrain" "textNumbers" "[I", Cond.classLink RX1 21 RX0, Cond.instantiable RX0 12, Cond.initialized RX0, Cond.fieldLink RX1 24 "EffectTrain" "now" "LEffectTrain$State;", Cond.fieldLink RX1 28 "EffectTrain" "trial" "LEffectTrain$State;", Cond.fieldLink RX1 31 "EffectTrain" "turnStates" "[LEffectTrain$State;", Cond.fieldLink RX1 35 "EffectTrain" "remembered" "[LEffectTrain$State;", Cond.fieldLink RX1 38 "EffectTrain" "newest" "I", Cond.fieldLink RX1 41 "EffectTrain" "rememberedCount" "I", Cond.fieldLink RX1 44 "EffectTrain" "slots" "[LEffectTrain$State;", Cond.arrayClass .boolean, Cond.fieldLink RX1 47 "EffectTrain" "slotFilled" "[Z", Cond.instanceMethod yX0_init, Cond.code yX0_init cX0_init 1 none, Cond.methodLink RX0 3 objectInit, Cond.fieldLink RX0 9 "EffectTrain$State" "n" "I"]
def wsX1_init_r2 : List Cond := [Cond.fieldLink RX0 15 "EffectTrain$State" "settings" "[I", Cond.fieldLink RX0 19 "EffectTrain$State" "clock" "I", Cond.fieldLink RX0 22 "EffectTrain$State" "counts" "[I", Cond.fieldLink RX0 25 "EffectTrain$State" "area" "[I", Cond.fieldLink RX0 28 "EffectTrain$State" "water" "[I", Cond.fieldLink RX0 31 "EffectTrain$State" "solids" "[I", Cond.fieldLink RX0 34 "EffectTrain$State" "valve" "[I", Cond.fieldLink RX0 37 "EffectTrain$State" "bleed" "[I", Cond.fieldLink RX0 40 "EffectTrain$State" "scale" "[I", Cond.fieldLink RX0 43 "EffectTrain$State" "scaling" "[I", Cond.fieldLink RX0 46 "EffectTrain$State" "left" "[I", Cond.methodLink RX0 49 yJ7_fill_53178, Cond.static yJ7_fill_53178, Cond.initialized RJ7, Cond.code yJ7_fill_53178 cJ7_fill_53178 4 none]
def wsX1_init : List Cond := .code yX1_init cX1_init 1 none :: ((wsX1_init_r1 ++ wsX1_init_r2) ++ wsX10 ++ wsX00)
def wsX1_checkRange : List Cond := .code yX1_checkRange cX1_checkRange 3 none :: ([.classLink RX1 179 "java/lang/IllegalArgumentException", .initialized "java/lang/IllegalArgumentException"] ++ (vx_atS RX1 183 "java/lang/IllegalArgumentException" ["java/lang/RuntimeException", "java/lang/Exception"]).filter goodWord)
def wsX1_append : List Cond := .code yX1_append cX1_append 2 (some .int) :: ([.classLink RX1 55 "java/lang/IllegalStateException", .initialized "java/lang/IllegalStateException", .fieldLink RX1 13 "EffectTrain" "textLength" "I", .fieldLink RX1 9 "EffectTrain" "text" "[C", .methodLink RX1 51 yX1_checkRange, .static yX1_checkRange, .initialized RX1, .code yX1_checkRange cX1_checkRange 3 none, .classLink RX1 179 "java/lang/IllegalArgumentException", .initialized "java/lang/IllegalArgumentException"] ++ wsX10 ++ (vx_atS RX1 59 "java/lang/IllegalStateException" ["java/lang/RuntimeException", "java/lang/Exception"]).filter goodWord ++ (vx_atS RX1 183 "java/lang/IllegalArgumentException" ["java/lang/RuntimeException", "java/lang/Exception"]).filter goodWord)
def wsX1_clearText : List Cond := .code yX1_clearText cX1_clearText 2 (some .int) :: ([.fieldLink RX1 13 "EffectTrain" "textLength" "I"] ++ wsX10)
def wsX1_numberError : List Cond := .code yX1_numberError cX1_numberError 8 (some .int) :: ([.fieldLink RX1 82 "EffectTrain" "DIGITS" "[I", .fieldLink RX1 13 "EffectTrain" "textLength" "I", .fieldLink RX1 9 "EffectTrain" "text" "[C", .fieldLink RX1 88 "EffectTrain" "GREATEST" "[I", .fieldLink RX1 91 "EffectTrain" "LEAST" "[I"] ++ wsX10)
def wsX1_numberAt : List Cond := .code yX1_numberAt cX1_numberAt 5 (some .int) :: ([.fieldLink RX1 13 "EffectTrain" "textLength" "I", .fieldLink RX1 9 "EffectTrain" "text" "[C"] ++ wsX10)
def wsX1_readText : List Cond := .code yX1_readText cX1_readText 6 (some .int) :: ([.fieldLink RX1 13 "EffectTrain" "textLength" "I", .fieldLink RX1 9 "EffectTrain" "text" "[C", .fieldLink RX1 17 "EffectTrain" "textNumbers" "[I", .fieldLink RX1 82 "EffectTrain" "DIGITS" "[I", .methodLink RX1 78 yX1_numberError, .instanceMethod yX1_numberError, .selects RX1 yX1_numberError yX1_numberError, .initialized RX1, .code yX1_numberError cX1_numberError 8 (some .int), .fieldLink RX1 88 "EffectTrain" "GREATEST" "[I", .fieldLink RX1 91 "EffectTrain" "LEAST" "[I", .methodLink RX1 85 yX1_numberAt, .instanceMethod yX1_numberAt, .selects RX1 yX1_numberAt yX1_numberAt, .code yX1_numberAt cX1_numberAt 5 (some .int)] ++ wsX10)
def wsX1_errorPosition : List Cond := .code yX1_errorPosition cX1_errorPosition 1 (some .int) :: ([.methodLink RX1 62 yX1_readText, .instanceMethod yX1_readText, .selects RX1 yX1_readText yX1_readText, .initialized RX1, .code yX1_readText cX1_readText 6 (some .int), .fieldLink RX1 13 "EffectTrain" "textLength" "I", .fieldLink RX1 9 "EffectTrain" "text" "[C", .fieldLink RX1 17 "EffectTrain" "textNumbers" "[I", .fieldLink RX1 82 "EffectTrain" "DIGITS" "[I", .methodLink RX1 78 yX1_numberError, .instanceMethod yX1_numberError, .selects RX1 yX1_numberError yX1_numberError, .code yX1_numberError cX1_numberError 8 (some .int), .fieldLink RX1 88 "EffectTrain" "GREATEST" "[I", .fieldLink RX1 91 "EffectTrain" "LEAST" "[I", .methodLink RX1 85 yX1_numberAt, .instanceMethod yX1_numberAt, .selects RX1 yX1_numberAt yX1_numberAt, .code yX1_numberAt cX1_numberAt 5 (some .int)] ++ wsX10)
def wsX1_load_r1 : List Cond := [Cond.classLink RX1 55 "java/lang/IllegalStateException", Cond.initialized "java/lang/IllegalStateException", Cond.fieldLink RX1 24 "EffectTrain" "now" "LEffectTrain$State;", Cond.fieldLink RX1 17 "EffectTrain" "textNumbers" "[I", Cond.fieldLink RX1 41 "EffectTrain" "rememberedCount" "I", Cond.fieldLink RX1 47 "EffectTrain" "slotFilled" "[Z", Cond.methodLink RX1 62 yX1_readText, Cond.instanceMethod yX1_readText, Cond.selects RX1 yX1_readText yX1_readText, Cond.initialized RX1, Cond.code yX1_readText cX1_readText 6 (some .int), Cond.fieldLink RX1 13 "EffectTrain" "textLength" "I", Cond.fieldLink RX1 9 "EffectTrain" "text" "[C", Cond.fieldLink RX1 82 "EffectTrain" "DIGITS" "[I", Cond.methodLink RX1 78 yX1_numberError, Cond.instanceMethod yX1_numberError, Cond.selects RX1 yX1_numberError yX1_numberError, Cond.code yX1_numberError cX1_numberError 8 (some .int), Cond.fieldLink RX1 88 "EffectTrain" "GREATEST" "[I", Cond.fieldLink RX1 91 "EffectTrain" "LEAST" "[I", Cond.methodLink RX1 85 yX1_numberAt, Cond.instanceMethod yX1_numberAt, Cond.selects RX1 yX1_numberAt yX1_numberAt, Cond.code yX1_numberAt cX1_numberAt 5 (some .int)]
def wsX1_load_r2 : List Cond := [Cond.instanceMethod yX0_takeNumbers, Cond.initialized RX0, Cond.selects RX0 yX0_takeNumbers yX0_takeNumbers, Cond.code yX0_takeNumbers cX0_takeNumbers 4 none, Cond.fieldLink RX0 9 "EffectTrain$State" "n" "I", Cond.fieldLink RX0 15 "EffectTrain$State" "settings" "[I", Cond.methodLink RX0 55 arraycopyName, Cond.native arraycopyName, Cond.static arraycopyName, Cond.initialized "java/lang/System", Cond.fieldLink RX0 19 "EffectTrain$State" "clock" "I", Cond.fieldLink RX0 22 "EffectTrain$State" "counts" "[I", Cond.fieldLink RX0 43 "EffectTrain$State" "scaling" "[I", Cond.fieldLink RX0 46 "EffectTrain$State" "left" "[I", Cond.fieldLink RX0 25 "EffectTrain$State" "area" "[I", Cond.fieldLink RX0 28 "EffectTrain$State" "water" "[I", Cond.fieldLink RX0 31 "EffectTrain$State" "solids" "[I", Cond.fieldLink RX0 34 "EffectTrain$State" "valve" "[I", Cond.fieldLink RX0 37 "EffectTrain$State" "bleed" "[I", Cond.fieldLink RX0 40 "EffectTrain$State" "scale" "[I", Cond.methodLink RX0 49 yJ7_fill_53178, Cond.static yJ7_fill_53178, Cond.initialized RJ7, Cond.code yJ7_fill_53178 cJ7_fill_53178 4 none]
def wsX1_load_r3 : List Cond := [Cond.instanceMethod yX0_allWater, Cond.selects RX0 yX0_allWater yX0_allWater, Cond.code yX0_allWater cX0_allWater 3 (some .int), Cond.instanceMethod yX0_allSolids, Cond.selects RX0 yX0_allSolids yX0_allSolids, Cond.code yX0_allSolids cX0_allSolids 3 (some .int)]
def wsX1_load : List Cond := .code yX1_load cX1_load 2 (some .int) :: ((wsX1_load_r1 ++ (wsX1_load_r2 ++ wsX1_load_r3)) ++ wsX10 ++ wsX00 ++ (vx_atS RX1 59 "java/lang/IllegalStateException" ["java/lang/RuntimeException", "java/lang/Exception"]).filter goodWord)
def wsX1_about : List Cond := .code yX1_about cX1_about 2 (some .int) :: ([.fieldLink RX1 24 "EffectTrain" "now" "LEffectTrain$State;", .methodLink RX1 51 yX1_checkRange, .static yX1_checkRange, .initialized RX1, .code yX1_checkRange cX1_checkRange 3 none, .classLink RX1 179 "java/lang/IllegalArgumentException", .initialized "java/lang/IllegalArgumentException", .instanceMethod yX0_washedEffects, .initialized RX0, .selects RX0 yX0_washedEffects yX0_washedEffects, .code yX0_washedEffects cX0_washedEffects 3 (some .int), .fieldLink RX0 9 "EffectTrain$State" "n" "I", .fieldLink RX0 46 "EffectTrain$State" "left" "[I", .instanceMethod yX0_allWater, .selects RX0 yX0_allWater yX0_allWater, .code yX0_allWater cX0_allWater 3 (some .int), .fieldLink RX0 28 "EffectTrain$State" "water" "[I", .instanceMethod yX0_allSolids, .selects RX0 yX0_allSolids yX0_allSolids, .code yX0_allSolids cX0_allSolids 3 (some .int), .fieldLink RX0 31 "EffectTrain$State" "solids" "[I"] ++ wsX10 ++ wsX00 ++ (vx_atS RX1 183 "java/lang/IllegalArgumentException" ["java/lang/RuntimeException", "java/lang/Exception"]).filter goodWord)
def wsX1_total : List Cond := .code yX1_total cX1_total 2 (some .int) :: ([.fieldLink RX1 24 "EffectTrain" "now" "LEffectTrain$State;", .methodLink RX1 51 yX1_checkRange, .static yX1_checkRange, .initialized RX1, .code yX1_checkRange cX1_checkRange 3 none, .classLink RX1 179 "java/lang/IllegalArgumentException", .initialized "java/lang/IllegalArgumentException"] ++ wsX10 ++ wsX00 ++ (vx_atS RX1 183 "java/lang/IllegalArgumentException" ["java/lang/RuntimeException", "java/lang/Exception"]).filter goodWord)
def wsX1_checkEffect : List Cond := .code yX1_checkEffect cX1_checkEffect 2 none :: ([.classLink RX1 211 "java/lang/IndexOutOfBoundsException", .initialized "java/lang/IndexOutOfBoundsException", .fieldLink RX1 24 "EffectTrain" "now" "LEffectTrain$State;"] ++ wsX10 ++ wsX00 ++ (vx_atS RX1 215 "java/lang/IndexOutOfBoundsException" ["java/lang/RuntimeException", "java/lang/Exception"]).filter goodWord)
def wsX1_effect_r1 : List Cond := [Cond.fieldLink RX1 24 "EffectTrain" "now" "LEffectTrain$State;", Cond.methodLink RX1 109 yX1_checkEffect, Cond.instanceMethod yX1_checkEffect, Cond.selects RX1 yX1_checkEffect yX1_checkEffect, Cond.initialized RX1, Cond.code yX1_checkEffect cX1_checkEffect 2 none, Cond.classLink RX1 211 "java/lang/IndexOutOfBoundsException", Cond.initialized "java/lang/IndexOutOfBoundsException", Cond.methodLink RX1 51 yX1_checkRange, Cond.static yX1_checkRange, Cond.code yX1_checkRange cX1_checkRange 3 none, Cond.classLink RX1 179 "java/lang/IllegalArgumentException", Cond.initialized "java/lang/IllegalArgumentException", Cond.instanceMethod yX0_numberOf, Cond.initialized RX0, Cond.selects RX0 yX0_numberOf yX0_numberOf, Cond.code yX0_numberOf cX0_numberOf 3 (some .int), Cond.fieldLink RX0 25 "EffectTrain$State" "area" "[I", Cond.fieldLink RX0 28 "EffectTrain$State" "water" "[I", Cond.fieldLink RX0 31 "EffectTrain$State" "solids" "[I", Cond.fieldLink RX0 34 "EffectTrain$State" "valve" "[I", Cond.fieldLink RX0 37 "EffectTrain$State" "bleed" "[I", Cond.fieldLink RX0 40 "EffectTrain$State" "scale" "[I", Cond.fieldLink RX0 43 "EffectTrain$State" "scaling" "[I"]
def wsX1_effect_r2 : List Cond := [Cond.fieldLink RX0 46 "EffectTrain$State" "left" "[I", Cond.methodLink RX0 61 yX0_thickness, Cond.instanceMethod yX0_thickness, Cond.selects RX0 yX0_thickness yX0_thickness, Cond.code yX0_thickness cX0_thickness 3 (some .int), Cond.methodLink RX0 65 yX0_power, Cond.instanceMethod yX0_power, Cond.selects RX0 yX0_power yX0_power, Cond.code yX0_power cX0_power 3 (some .int)]
def wsX1_effect : List Cond := .code yX1_effect cX1_effect 3 (some .int) :: ((wsX1_effect_r1 ++ wsX1_effect_r2) ++ wsX10 ++ wsX00 ++ (vx_atS RX1 215 "java/lang/IndexOutOfBoundsException" ["java/lang/RuntimeException", "java/lang/Exception"]).filter goodWord ++ (vx_atS RX1 183 "java/lang/IllegalArgumentException" ["java/lang/RuntimeException", "java/lang/Exception"]).filter goodWord)
def wsX1_neighbor : List Cond := .code yX1_neighbor cX1_neighbor 3 (some .int) :: ([.fieldLink RX1 24 "EffectTrain" "now" "LEffectTrain$State;", .methodLink RX1 109 yX1_checkEffect, .instanceMethod yX1_checkEffect, .selects RX1 yX1_checkEffect yX1_checkEffect, .initialized RX1, .code yX1_checkEffect cX1_checkEffect 2 none, .classLink RX1 211 "java/lang/IndexOutOfBoundsException", .initialized "java/lang/IndexOutOfBoundsException", .instanceMethod yX0_effectBehind, .initialized RX0, .selects RX0 yX0_effectBehind yX0_effectBehind, .code yX0_effectBehind cX0_effectBehind 3 (some .int), .fieldLink RX0 9 "EffectTrain$State" "n" "I", .fieldLink RX0 46 "EffectTrain$State" "left" "[I", .instanceMethod yX0_effectBefore, .selects RX0 yX0_effectBefore yX0_effectBefore, .code yX0_effectBefore cX0_effectBefore 3 (some .int)] ++ wsX10 ++ wsX00 ++ (vx_atS RX1 215 "java/lang/IndexOutOfBoundsException" ["java/lang/RuntimeException", "java/lang/Exception"]).filter goodWord)
def wsX1_economy : List Cond := .code yX1_economy cX1_economy 2 (some .float) :: ([.fieldLink RX1 24 "EffectTrain" "now" "LEffectTrain$State;"] ++ wsX10 ++ wsX00)
def wsX1_share : List Cond := .code yX1_share cX1_share 3 (some .float) :: ([.fieldLink RX1 24 "EffectTrain" "now" "LEffectTrain$State;", .methodLink RX1 109 yX1_checkEffect, .instanceMethod yX1_checkEffect, .selects RX1 yX1_checkEffect yX1_checkEffect, .initialized RX1, .code yX1_checkEffect cX1_checkEffect 2 none, .classLink RX1 211 "java/lang/IndexOutOfBoundsException", .initialized "java/lang/IndexOutOfBoundsException", .instanceMethod yX0_amount, .initialized RX0, .selects RX0 yX0_amount yX0_amount, .code yX0_amount cX0_amount 2 (some .int), .fieldLink RX0 28 "EffectTrain$State" "water" "[I", .fieldLink RX0 31 "EffectTrain$State" "solids" "[I"] ++ wsX10 ++ wsX00 ++ (vx_atS RX1 215 "java/lang/IndexOutOfBoundsException" ["java/lang/RuntimeException", "java/lang/Exception"]).filter goodWord)
def wsX1_stateAt_r1 : List Cond := [Cond.classLink RX1 21 RX0, Cond.instantiable RX0 12, Cond.initialized RX0, Cond.instanceMethod yX0_init, Cond.code yX0_init cX0_init 1 none, Cond.methodLink RX0 3 objectInit, Cond.instanceMethod objectInit, Cond.code objectInit ⟨#[0xb1]⟩ 1 none, Cond.fieldLink RX0 9 "EffectTrain$State" "n" "I", Cond.arrayClass .int, Cond.fieldLink RX0 15 "EffectTrain$State" "settings" "[I", Cond.fieldLink RX0 19 "EffectTrain$State" "clock" "I", Cond.fieldLink RX0 22 "EffectTrain$State" "counts" "[I", Cond.fieldLink RX0 25 "EffectTrain$State" "area" "[I", Cond.fieldLink RX0 28 "EffectTrain$State" "water" "[I", Cond.fieldLink RX0 31 "EffectTrain$State" "solids" "[I", Cond.fieldLink RX0 34 "EffectTrain$State" "valve" "[I", Cond.fieldLink RX0 37 "EffectTrain$State" "bleed" "[I", Cond.fieldLink RX0 40 "EffectTrain$State" "scale" "[I", Cond.fieldLink RX0 43 "EffectTrain$State" "scaling" "[I", Cond.fieldLink RX0 46 "EffectTrain$State" "left" "[I", Cond.methodLink RX0 49 yJ7_fill_53178, Cond.static yJ7_fill_53178, Cond.initialized RJ7]
def wsX1_stateAt_r2 : List Cond := [Cond.code yJ7_fill_53178 cJ7_fill_53178 4 none]
def wsX1_stateAt : List Cond := .code yX1_stateAt cX1_stateAt 3 (some (.object "EffectTrain$State")) :: ((wsX1_stateAt_r1 ++ wsX1_stateAt_r2) ++ wsX00)
def wsX1_remember_r1 : List Cond := [Cond.fieldLink RX1 38 "EffectTrain" "newest" "I", Cond.fieldLink RX1 35 "EffectTrain" "remembered" "[LEffectTrain$State;", Cond.fieldLink RX1 24 "EffectTrain" "now" "LEffectTrain$State;", Cond.fieldLink RX1 41 "EffectTrain" "rememberedCount" "I", Cond.methodLink RX1 151 yX1_stateAt, Cond.static yX1_stateAt, Cond.initialized RX1, Cond.code yX1_stateAt cX1_stateAt 3 (some (.object "EffectTrain$State")), Cond.classLink RX1 21 RX0, Cond.instantiable RX0 12, Cond.initialized RX0, Cond.instanceMethod yX0_init, Cond.code yX0_init cX0_init 1 none, Cond.methodLink RX0 3 objectInit, Cond.instanceMethod objectInit, Cond.code objectInit ⟨#[0xb1]⟩ 1 none, Cond.fieldLink RX0 9 "EffectTrain$State" "n" "I", Cond.arrayClass .int, Cond.fieldLink RX0 15 "EffectTrain$State" "settings" "[I", Cond.fieldLink RX0 19 "EffectTrain$State" "clock" "I", Cond.fieldLink RX0 22 "EffectTrain$State" "counts" "[I", Cond.fieldLink RX0 25 "EffectTrain$State" "area" "[I", Cond.fieldLink RX0 28 "EffectTrain$State" "water" "[I", Cond.fieldLink RX0 31 "EffectTrain$State" "solids" "[I"]
def wsX1_remember_r2 : List Cond := [Cond.fieldLink RX0 34 "EffectTrain$State" "valve" "[I", Cond.fieldLink RX0 37 "EffectTrain$State" "bleed" "[I", Cond.fieldLink RX0 40 "EffectTrain$State" "scale" "[I", Cond.fieldLink RX0 43 "EffectTrain$State" "scaling" "[I", Cond.fieldLink RX0 46 "EffectTrain$State" "left" "[I", Cond.methodLink RX0 49 yJ7_fill_53178, Cond.static yJ7_fill_53178, Cond.initialized RJ7, Cond.code yJ7_fill_53178 cJ7_fill_53178 4 none, Cond.instanceMethod yX0_copyFrom, Cond.selects RX0 yX0_copyFrom yX0_copyFrom, Cond.code yX0_copyFrom cX0_copyFrom 2 none, Cond.methodLink RX0 55 arraycopyName, Cond.native arraycopyName, Cond.static arraycopyName, Cond.initialized "java/lang/System"]
def wsX1_remember : List Cond := .code yX1_remember cX1_remember 1 none :: ((wsX1_remember_r1 ++ wsX1_remember_r2) ++ wsX10 ++ wsX00)
def wsX1_tick_r1 : List Cond := [Cond.fieldLink RX1 24 "EffectTrain" "now" "LEffectTrain$State;", Cond.methodLink RX1 51 yX1_checkRange, Cond.static yX1_checkRange, Cond.initialized RX1, Cond.code yX1_checkRange cX1_checkRange 3 none, Cond.classLink RX1 179 "java/lang/IllegalArgumentException", Cond.initialized "java/lang/IllegalArgumentException", Cond.methodLink RX1 129 yX1_remember, Cond.instanceMethod yX1_remember, Cond.selects RX1 yX1_remember yX1_remember, Cond.code yX1_remember cX1_remember 1 none, Cond.fieldLink RX1 38 "EffectTrain" "newest" "I", Cond.fieldLink RX1 35 "EffectTrain" "remembered" "[LEffectTrain$State;", Cond.fieldLink RX1 41 "EffectTrain" "rememberedCount" "I", Cond.methodLink RX1 151 yX1_stateAt, Cond.static yX1_stateAt, Cond.code yX1_stateAt cX1_stateAt 3 (some (.object "EffectTrain$State")), Cond.classLink RX1 21 RX0, Cond.instantiable RX0 12, Cond.initialized RX0, Cond.instanceMethod yX0_init, Cond.code yX0_init cX0_init 1 none, Cond.methodLink RX0 3 objectInit, Cond.instanceMethod objectInit]
def wsX1_tick_r2 : List Cond := [Cond.code objectInit ⟨#[0xb1]⟩ 1 none, Cond.fieldLink RX0 9 "EffectTrain$State" "n" "I", Cond.arrayClass .int, Cond.fieldLink RX0 15 "EffectTrain$State" "settings" "[I", Cond.fieldLink RX0 19 "EffectTrain$State" "clock" "I", Cond.fieldLink RX0 22 "EffectTrain$State" "counts" "[I", Cond.fieldLink RX0 25 "EffectTrain$State" "area" "[I", Cond.fieldLink RX0 28 "EffectTrain$State" "water" "[I", Cond.fieldLink RX0 31 "EffectTrain$State" "solids" "[I", Cond.fieldLink RX0 34 "EffectTrain$State" "valve" "[I", Cond.fieldLink RX0 37 "EffectTrain$State" "bleed" "[I", Cond.fieldLink RX0 40 "EffectTrain$State" "scale" "[I", Cond.fieldLink RX0 43 "EffectTrain$State" "scaling" "[I", Cond.fieldLink RX0 46 "EffectTrain$State" "left" "[I", Cond.methodLink RX0 49 yJ7_fill_53178, Cond.static yJ7_fill_53178, Cond.initialized RJ7, Cond.code yJ7_fill_53178 cJ7_fill_53178 4 none, Cond.instanceMethod yX0_copyFrom, Cond.selects RX0 yX0_copyFrom yX0_copyFrom, Cond.code yX0_copyFrom cX0_copyFrom 2 none, Cond.methodLink RX0 55 arraycopyName, Cond.native arraycopyName, Cond.static arraycopyName]
def wsX1_tick_r3 : List Cond := [Cond.initialized "java/lang/System", Cond.instanceMethod yX0_pass, Cond.selects RX0 yX0_pass yX0_pass, Cond.code yX0_pass cX0_pass 4 (some .int), Cond.methodLink RX0 68 yX0_beginWashInTurn, Cond.instanceMethod yX0_beginWashInTurn, Cond.selects RX0 yX0_beginWashInTurn yX0_beginWashInTurn, Cond.code yX0_beginWashInTurn cX0_beginWashInTurn 4 none, Cond.methodLink RX0 80 yX0_washedEffects, Cond.instanceMethod yX0_washedEffects, Cond.selects RX0 yX0_washedEffects yX0_washedEffects, Cond.code yX0_washedEffects cX0_washedEffects 3 (some .int), Cond.methodLink RX0 71 yX0_boilAll, Cond.instanceMethod yX0_boilAll, Cond.selects RX0 yX0_boilAll yX0_boilAll, Cond.code yX0_boilAll cX0_boilAll 4 none, Cond.methodLink RX0 84 yX0_boil, Cond.instanceMethod yX0_boil, Cond.selects RX0 yX0_boil yX0_boil, Cond.code yX0_boil cX0_boil 7 (some .int), Cond.methodLink RX0 88 Lib.Math.min.name, Cond.static Lib.Math.min.name, Cond.initialized "java/lang/Math", Cond.code Lib.Math.min.name Lib.Math.min.code 2 (some .int)]
def wsX1_tick_r4 : List Cond := [Cond.methodLink RX0 61 yX0_thickness, Cond.instanceMethod yX0_thickness, Cond.selects RX0 yX0_thickness yX0_thickness, Cond.code yX0_thickness cX0_thickness 3 (some .int), Cond.methodLink RX0 65 yX0_power, Cond.instanceMethod yX0_power, Cond.selects RX0 yX0_power yX0_power, Cond.code yX0_power cX0_power 3 (some .int), Cond.methodLink RX0 74 yX0_flowOn, Cond.instanceMethod yX0_flowOn, Cond.selects RX0 yX0_flowOn yX0_flowOn, Cond.code yX0_flowOn cX0_flowOn 9 none, Cond.methodLink RX0 93 yX0_effectBehind, Cond.instanceMethod yX0_effectBehind, Cond.selects RX0 yX0_effectBehind yX0_effectBehind, Cond.code yX0_effectBehind cX0_effectBehind 3 (some .int), Cond.methodLink RX0 96 yX0_amount, Cond.instanceMethod yX0_amount, Cond.selects RX0 yX0_amount yX0_amount, Cond.code yX0_amount cX0_amount 2 (some .int), Cond.methodLink RX0 99 yX0_flowFrom, Cond.instanceMethod yX0_flowFrom, Cond.selects RX0 yX0_flowFrom yX0_flowFrom, Cond.code yX0_flowFrom cX0_flowFrom 4 (some .int)]
def wsX1_tick_r5 : List Cond := [Cond.methodLink RX0 77 yX0_washOn, Cond.instanceMethod yX0_washOn, Cond.selects RX0 yX0_washOn yX0_washOn, Cond.code yX0_washOn cX0_washOn 2 none, Cond.methodLink RX0 102 Lib.Math.max.name, Cond.static Lib.Math.max.name, Cond.code Lib.Math.max.name Lib.Math.max.code 2 (some .int)]
def wsX1_tick : List Cond := .code yX1_tick cX1_tick 2 (some .int) :: ((wsX1_tick_r1 ++ (wsX1_tick_r2 ++ (wsX1_tick_r3 ++ (wsX1_tick_r4 ++ wsX1_tick_r5)))) ++ wsX10 ++ wsX00 ++ (vx_atS RX1 183 "java/lang/IllegalArgumentException" ["java/lang/RuntimeException", "java/lang/Exception"]).filter goodWord)
def wsX1_set_r1 : List Cond := [Cond.fieldLink RX1 91 "EffectTrain" "LEAST" "[I", Cond.fieldLink RX1 88 "EffectTrain" "GREATEST" "[I", Cond.fieldLink RX1 24 "EffectTrain" "now" "LEffectTrain$State;", Cond.methodLink RX1 51 yX1_checkRange, Cond.static yX1_checkRange, Cond.initialized RX1, Cond.code yX1_checkRange cX1_checkRange 3 none, Cond.classLink RX1 179 "java/lang/IllegalArgumentException", Cond.initialized "java/lang/IllegalArgumentException", Cond.methodLink RX1 129 yX1_remember, Cond.instanceMethod yX1_remember, Cond.selects RX1 yX1_remember yX1_remember, Cond.code yX1_remember cX1_remember 1 none, Cond.fieldLink RX1 38 "EffectTrain" "newest" "I", Cond.fieldLink RX1 35 "EffectTrain" "remembered" "[LEffectTrain$State;", Cond.fieldLink RX1 41 "EffectTrain" "rememberedCount" "I", Cond.methodLink RX1 151 yX1_stateAt, Cond.static yX1_stateAt, Cond.code yX1_stateAt cX1_stateAt 3 (some (.object "EffectTrain$State")), Cond.classLink RX1 21 RX0, Cond.instantiable RX0 12, Cond.initialized RX0, Cond.instanceMethod yX0_init, Cond.code yX0_init cX0_init 1 none]
def wsX1_set_r2 : List Cond := [Cond.methodLink RX0 3 objectInit, Cond.instanceMethod objectInit, Cond.code objectInit ⟨#[0xb1]⟩ 1 none, Cond.fieldLink RX0 9 "EffectTrain$State" "n" "I", Cond.arrayClass .int, Cond.fieldLink RX0 15 "EffectTrain$State" "settings" "[I", Cond.fieldLink RX0 19 "EffectTrain$State" "clock" "I", Cond.fieldLink RX0 22 "EffectTrain$State" "counts" "[I", Cond.fieldLink RX0 25 "EffectTrain$State" "area" "[I", Cond.fieldLink RX0 28 "EffectTrain$State" "water" "[I", Cond.fieldLink RX0 31 "EffectTrain$State" "solids" "[I", Cond.fieldLink RX0 34 "EffectTrain$State" "valve" "[I", Cond.fieldLink RX0 37 "EffectTrain$State" "bleed" "[I", Cond.fieldLink RX0 40 "EffectTrain$State" "scale" "[I", Cond.fieldLink RX0 43 "EffectTrain$State" "scaling" "[I", Cond.fieldLink RX0 46 "EffectTrain$State" "left" "[I", Cond.methodLink RX0 49 yJ7_fill_53178, Cond.static yJ7_fill_53178, Cond.initialized RJ7, Cond.code yJ7_fill_53178 cJ7_fill_53178 4 none, Cond.instanceMethod yX0_copyFrom, Cond.selects RX0 yX0_copyFrom yX0_copyFrom, Cond.code yX0_copyFrom cX0_copyFrom 2 none, Cond.methodLink RX0 55 arraycopyName]
def wsX1_set_r3 : List Cond := [Cond.native arraycopyName, Cond.static arraycopyName, Cond.initialized "java/lang/System"]
def wsX1_set : List Cond := .code yX1_set cX1_set 4 (some .int) :: ((wsX1_set_r1 ++ (wsX1_set_r2 ++ wsX1_set_r3)) ++ wsX10 ++ wsX00 ++ (vx_atS RX1 183 "java/lang/IllegalArgumentException" ["java/lang/RuntimeException", "java/lang/Exception"]).filter goodWord)
def wsX1_setValve_r1 : List Cond := [Cond.fieldLink RX1 24 "EffectTrain" "now" "LEffectTrain$State;", Cond.methodLink RX1 109 yX1_checkEffect, Cond.instanceMethod yX1_checkEffect, Cond.selects RX1 yX1_checkEffect yX1_checkEffect, Cond.initialized RX1, Cond.code yX1_checkEffect cX1_checkEffect 2 none, Cond.classLink RX1 211 "java/lang/IndexOutOfBoundsException", Cond.initialized "java/lang/IndexOutOfBoundsException", Cond.methodLink RX1 51 yX1_checkRange, Cond.static yX1_checkRange, Cond.code yX1_checkRange cX1_checkRange 3 none, Cond.classLink RX1 179 "java/lang/IllegalArgumentException", Cond.initialized "java/lang/IllegalArgumentException", Cond.methodLink RX1 129 yX1_remember, Cond.instanceMethod yX1_remember, Cond.selects RX1 yX1_remember yX1_remember, Cond.code yX1_remember cX1_remember 1 none, Cond.fieldLink RX1 38 "EffectTrain" "newest" "I", Cond.fieldLink RX1 35 "EffectTrain" "remembered" "[LEffectTrain$State;", Cond.fieldLink RX1 41 "EffectTrain" "rememberedCount" "I", Cond.methodLink RX1 151 yX1_stateAt, Cond.static yX1_stateAt, Cond.code yX1_stateAt cX1_stateAt 3 (some (.object "EffectTrain$State")), Cond.classLink RX1 21 RX0]
def wsX1_setValve_r2 : List Cond := [Cond.instantiable RX0 12, Cond.initialized RX0, Cond.instanceMethod yX0_init, Cond.code yX0_init cX0_init 1 none, Cond.methodLink RX0 3 objectInit, Cond.instanceMethod objectInit, Cond.code objectInit ⟨#[0xb1]⟩ 1 none, Cond.fieldLink RX0 9 "EffectTrain$State" "n" "I", Cond.arrayClass .int, Cond.fieldLink RX0 15 "EffectTrain$State" "settings" "[I", Cond.fieldLink RX0 19 "EffectTrain$State" "clock" "I", Cond.fieldLink RX0 22 "EffectTrain$State" "counts" "[I", Cond.fieldLink RX0 25 "EffectTrain$State" "area" "[I", Cond.fieldLink RX0 28 "EffectTrain$State" "water" "[I", Cond.fieldLink RX0 31 "EffectTrain$State" "solids" "[I", Cond.fieldLink RX0 34 "EffectTrain$State" "valve" "[I", Cond.fieldLink RX0 37 "EffectTrain$State" "bleed" "[I", Cond.fieldLink RX0 40 "EffectTrain$State" "scale" "[I", Cond.fieldLink RX0 43 "EffectTrain$State" "scaling" "[I", Cond.fieldLink RX0 46 "EffectTrain$State" "left" "[I", Cond.methodLink RX0 49 yJ7_fill_53178, Cond.static yJ7_fill_53178, Cond.initialized RJ7, Cond.code yJ7_fill_53178 cJ7_fill_53178 4 none]
def wsX1_setValve_r3 : List Cond := [Cond.instanceMethod yX0_copyFrom, Cond.selects RX0 yX0_copyFrom yX0_copyFrom, Cond.code yX0_copyFrom cX0_copyFrom 2 none, Cond.methodLink RX0 55 arraycopyName, Cond.native arraycopyName, Cond.static arraycopyName, Cond.initialized "java/lang/System"]
def wsX1_setValve : List Cond := .code yX1_setValve cX1_setValve 4 (some .int) :: ((wsX1_setValve_r1 ++ (wsX1_setValve_r2 ++ wsX1_setValve_r3)) ++ wsX10 ++ wsX00 ++ (vx_atS RX1 215 "java/lang/IndexOutOfBoundsException" ["java/lang/RuntimeException", "java/lang/Exception"]).filter goodWord ++ (vx_atS RX1 183 "java/lang/IllegalArgumentException" ["java/lang/RuntimeException", "java/lang/Exception"]).filter goodWord)
def wsX1_setBleed_r1 : List Cond := [Cond.fieldLink RX1 24 "EffectTrain" "now" "LEffectTrain$State;", Cond.methodLink RX1 109 yX1_checkEffect, Cond.instanceMethod yX1_checkEffect, Cond.selects RX1 yX1_checkEffect yX1_checkEffect, Cond.initialized RX1, Cond.code yX1_checkEffect cX1_checkEffect 2 none, Cond.classLink RX1 211 "java/lang/IndexOutOfBoundsException", Cond.initialized "java/lang/IndexOutOfBoundsException", Cond.methodLink RX1 51 yX1_checkRange, Cond.static yX1_checkRange, Cond.code yX1_checkRange cX1_checkRange 3 none, Cond.classLink RX1 179 "java/lang/IllegalArgumentException", Cond.initialized "java/lang/IllegalArgumentException", Cond.methodLink RX1 129 yX1_remember, Cond.instanceMethod yX1_remember, Cond.selects RX1 yX1_remember yX1_remember, Cond.code yX1_remember cX1_remember 1 none, Cond.fieldLink RX1 38 "EffectTrain" "newest" "I", Cond.fieldLink RX1 35 "EffectTrain" "remembered" "[LEffectTrain$State;", Cond.fieldLink RX1 41 "EffectTrain" "rememberedCount" "I", Cond.methodLink RX1 151 yX1_stateAt, Cond.static yX1_stateAt, Cond.code yX1_stateAt cX1_stateAt 3 (some (.object "EffectTrain$State")), Cond.classLink RX1 21 RX0]
def wsX1_setBleed_r2 : List Cond := [Cond.instantiable RX0 12, Cond.initialized RX0, Cond.instanceMethod yX0_init, Cond.code yX0_init cX0_init 1 none, Cond.methodLink RX0 3 objectInit, Cond.instanceMethod objectInit, Cond.code objectInit ⟨#[0xb1]⟩ 1 none, Cond.fieldLink RX0 9 "EffectTrain$State" "n" "I", Cond.arrayClass .int, Cond.fieldLink RX0 15 "EffectTrain$State" "settings" "[I", Cond.fieldLink RX0 19 "EffectTrain$State" "clock" "I", Cond.fieldLink RX0 22 "EffectTrain$State" "counts" "[I", Cond.fieldLink RX0 25 "EffectTrain$State" "area" "[I", Cond.fieldLink RX0 28 "EffectTrain$State" "water" "[I", Cond.fieldLink RX0 31 "EffectTrain$State" "solids" "[I", Cond.fieldLink RX0 34 "EffectTrain$State" "valve" "[I", Cond.fieldLink RX0 37 "EffectTrain$State" "bleed" "[I", Cond.fieldLink RX0 40 "EffectTrain$State" "scale" "[I", Cond.fieldLink RX0 43 "EffectTrain$State" "scaling" "[I", Cond.fieldLink RX0 46 "EffectTrain$State" "left" "[I", Cond.methodLink RX0 49 yJ7_fill_53178, Cond.static yJ7_fill_53178, Cond.initialized RJ7, Cond.code yJ7_fill_53178 cJ7_fill_53178 4 none]
def wsX1_setBleed_r3 : List Cond := [Cond.instanceMethod yX0_copyFrom, Cond.selects RX0 yX0_copyFrom yX0_copyFrom, Cond.code yX0_copyFrom cX0_copyFrom 2 none, Cond.methodLink RX0 55 arraycopyName, Cond.native arraycopyName, Cond.static arraycopyName, Cond.initialized "java/lang/System"]
def wsX1_setBleed : List Cond := .code yX1_setBleed cX1_setBleed 4 (some .int) :: ((wsX1_setBleed_r1 ++ (wsX1_setBleed_r2 ++ wsX1_setBleed_r3)) ++ wsX10 ++ wsX00 ++ (vx_atS RX1 215 "java/lang/IndexOutOfBoundsException" ["java/lang/RuntimeException", "java/lang/Exception"]).filter goodWord ++ (vx_atS RX1 183 "java/lang/IllegalArgumentException" ["java/lang/RuntimeException", "java/lang/Exception"]).filter goodWord)
def wsX1_checkWorks : List Cond := .code yX1_checkWorks cX1_checkWorks 2 none :: ([.classLink RX1 55 "java/lang/IllegalStateException", .initialized "java/lang/IllegalStateException", .fieldLink RX1 24 "EffectTrain" "now" "LEffectTrain$State;"] ++ wsX10 ++ wsX00 ++ (vx_atS RX1 59 "java/lang/IllegalStateException" ["java/lang/RuntimeException", "java/lang/Exception"]).filter goodWord)
def wsX1_wash_r1 : List Cond := [Cond.fieldLink RX1 24 "EffectTrain" "now" "LEffectTrain$State;", Cond.methodLink RX1 109 yX1_checkEffect, Cond.instanceMethod yX1_checkEffect, Cond.selects RX1 yX1_checkEffect yX1_checkEffect, Cond.initialized RX1, Cond.code yX1_checkEffect cX1_checkEffect 2 none, Cond.classLink RX1 211 "java/lang/IndexOutOfBoundsException", Cond.initialized "java/lang/IndexOutOfBoundsException", Cond.methodLink RX1 51 yX1_checkRange, Cond.static yX1_checkRange, Cond.code yX1_checkRange cX1_checkRange 3 none, Cond.classLink RX1 179 "java/lang/IllegalArgumentException", Cond.initialized "java/lang/IllegalArgumentException", Cond.methodLink RX1 141 yX1_checkWorks, Cond.instanceMethod yX1_checkWorks, Cond.selects RX1 yX1_checkWorks yX1_checkWorks, Cond.code yX1_checkWorks cX1_checkWorks 2 none, Cond.classLink RX1 55 "java/lang/IllegalStateException", Cond.initialized "java/lang/IllegalStateException", Cond.methodLink RX1 129 yX1_remember, Cond.instanceMethod yX1_remember, Cond.selects RX1 yX1_remember yX1_remember, Cond.code yX1_remember cX1_remember 1 none, Cond.fieldLink RX1 38 "EffectTrain" "newest" "I"]
def wsX1_wash_r2 : List Cond := [Cond.fieldLink RX1 35 "EffectTrain" "remembered" "[LEffectTrain$State;", Cond.fieldLink RX1 41 "EffectTrain" "rememberedCount" "I", Cond.methodLink RX1 151 yX1_stateAt, Cond.static yX1_stateAt, Cond.code yX1_stateAt cX1_stateAt 3 (some (.object "EffectTrain$State")), Cond.classLink RX1 21 RX0, Cond.instantiable RX0 12, Cond.initialized RX0, Cond.instanceMethod yX0_init, Cond.code yX0_init cX0_init 1 none, Cond.methodLink RX0 3 objectInit, Cond.instanceMethod objectInit, Cond.code objectInit ⟨#[0xb1]⟩ 1 none, Cond.fieldLink RX0 9 "EffectTrain$State" "n" "I", Cond.arrayClass .int, Cond.fieldLink RX0 15 "EffectTrain$State" "settings" "[I", Cond.fieldLink RX0 19 "EffectTrain$State" "clock" "I", Cond.fieldLink RX0 22 "EffectTrain$State" "counts" "[I", Cond.fieldLink RX0 25 "EffectTrain$State" "area" "[I", Cond.fieldLink RX0 28 "EffectTrain$State" "water" "[I", Cond.fieldLink RX0 31 "EffectTrain$State" "solids" "[I", Cond.fieldLink RX0 34 "EffectTrain$State" "valve" "[I", Cond.fieldLink RX0 37 "EffectTrain$State" "bleed" "[I", Cond.fieldLink RX0 40 "EffectTrain$State" "scale" "[I"]
def wsX1_wash_r3 : List Cond := [Cond.fieldLink RX0 43 "EffectTrain$State" "scaling" "[I", Cond.fieldLink RX0 46 "EffectTrain$State" "left" "[I", Cond.methodLink RX0 49 yJ7_fill_53178, Cond.static yJ7_fill_53178, Cond.initialized RJ7, Cond.code yJ7_fill_53178 cJ7_fill_53178 4 none, Cond.instanceMethod yX0_copyFrom, Cond.selects RX0 yX0_copyFrom yX0_copyFrom, Cond.code yX0_copyFrom cX0_copyFrom 2 none, Cond.methodLink RX0 55 arraycopyName, Cond.native arraycopyName, Cond.static arraycopyName, Cond.initialized "java/lang/System", Cond.instanceMethod yX0_washedEffects, Cond.selects RX0 yX0_washedEffects yX0_washedEffects, Cond.code yX0_washedEffects cX0_washedEffects 3 (some .int)]
def wsX1_wash : List Cond := .code yX1_wash cX1_wash 3 (some .int) :: ((wsX1_wash_r1 ++ (wsX1_wash_r2 ++ wsX1_wash_r3)) ++ wsX10 ++ wsX00 ++ (vx_atS RX1 215 "java/lang/IndexOutOfBoundsException" ["java/lang/RuntimeException", "java/lang/Exception"]).filter goodWord ++ (vx_atS RX1 183 "java/lang/IllegalArgumentException" ["java/lang/RuntimeException", "java/lang/Exception"]).filter goodWord ++ (vx_atS RX1 59 "java/lang/IllegalStateException" ["java/lang/RuntimeException", "java/lang/Exception"]).filter goodWord)
def wsX1_endWash_r1 : List Cond := [Cond.classLink RX1 55 "java/lang/IllegalStateException", Cond.initialized "java/lang/IllegalStateException", Cond.fieldLink RX1 24 "EffectTrain" "now" "LEffectTrain$State;", Cond.methodLink RX1 109 yX1_checkEffect, Cond.instanceMethod yX1_checkEffect, Cond.selects RX1 yX1_checkEffect yX1_checkEffect, Cond.initialized RX1, Cond.code yX1_checkEffect cX1_checkEffect 2 none, Cond.classLink RX1 211 "java/lang/IndexOutOfBoundsException", Cond.initialized "java/lang/IndexOutOfBoundsException", Cond.methodLink RX1 129 yX1_remember, Cond.instanceMethod yX1_remember, Cond.selects RX1 yX1_remember yX1_remember, Cond.code yX1_remember cX1_remember 1 none, Cond.fieldLink RX1 38 "EffectTrain" "newest" "I", Cond.fieldLink RX1 35 "EffectTrain" "remembered" "[LEffectTrain$State;", Cond.fieldLink RX1 41 "EffectTrain" "rememberedCount" "I", Cond.methodLink RX1 151 yX1_stateAt, Cond.static yX1_stateAt, Cond.code yX1_stateAt cX1_stateAt 3 (some (.object "EffectTrain$State")), Cond.classLink RX1 21 RX0, Cond.instantiable RX0 12, Cond.initialized RX0, Cond.instanceMethod yX0_init]
def wsX1_endWash_r2 : List Cond := [Cond.code yX0_init cX0_init 1 none, Cond.methodLink RX0 3 objectInit, Cond.instanceMethod objectInit, Cond.code objectInit ⟨#[0xb1]⟩ 1 none, Cond.fieldLink RX0 9 "EffectTrain$State" "n" "I", Cond.arrayClass .int, Cond.fieldLink RX0 15 "EffectTrain$State" "settings" "[I", Cond.fieldLink RX0 19 "EffectTrain$State" "clock" "I", Cond.fieldLink RX0 22 "EffectTrain$State" "counts" "[I", Cond.fieldLink RX0 25 "EffectTrain$State" "area" "[I", Cond.fieldLink RX0 28 "EffectTrain$State" "water" "[I", Cond.fieldLink RX0 31 "EffectTrain$State" "solids" "[I", Cond.fieldLink RX0 34 "EffectTrain$State" "valve" "[I", Cond.fieldLink RX0 37 "EffectTrain$State" "bleed" "[I", Cond.fieldLink RX0 40 "EffectTrain$State" "scale" "[I", Cond.fieldLink RX0 43 "EffectTrain$State" "scaling" "[I", Cond.fieldLink RX0 46 "EffectTrain$State" "left" "[I", Cond.methodLink RX0 49 yJ7_fill_53178, Cond.static yJ7_fill_53178, Cond.initialized RJ7, Cond.code yJ7_fill_53178 cJ7_fill_53178 4 none, Cond.instanceMethod yX0_copyFrom, Cond.selects RX0 yX0_copyFrom yX0_copyFrom, Cond.code yX0_copyFrom cX0_copyFrom 2 none]
def wsX1_endWash_r3 : List Cond := [Cond.methodLink RX0 55 arraycopyName, Cond.native arraycopyName, Cond.static arraycopyName, Cond.initialized "java/lang/System"]
def wsX1_endWash : List Cond := .code yX1_endWash cX1_endWash 3 (some .int) :: ((wsX1_endWash_r1 ++ (wsX1_endWash_r2 ++ wsX1_endWash_r3)) ++ wsX10 ++ wsX00 ++ (vx_atS RX1 59 "java/lang/IllegalStateException" ["java/lang/RuntimeException", "java/lang/Exception"]).filter goodWord ++ (vx_atS RX1 215 "java/lang/IndexOutOfBoundsException" ["java/lang/RuntimeException", "java/lang/Exception"]).filter goodWord)
def wsX1_undo_r1 : List Cond := [Cond.classLink RX1 55 "java/lang/IllegalStateException", Cond.initialized "java/lang/IllegalStateException", Cond.fieldLink RX1 41 "EffectTrain" "rememberedCount" "I", Cond.fieldLink RX1 24 "EffectTrain" "now" "LEffectTrain$State;", Cond.fieldLink RX1 35 "EffectTrain" "remembered" "[LEffectTrain$State;", Cond.fieldLink RX1 38 "EffectTrain" "newest" "I", Cond.methodLink RX1 151 yX1_stateAt, Cond.static yX1_stateAt, Cond.initialized RX1, Cond.code yX1_stateAt cX1_stateAt 3 (some (.object "EffectTrain$State")), Cond.classLink RX1 21 RX0, Cond.instantiable RX0 12, Cond.initialized RX0, Cond.instanceMethod yX0_init, Cond.code yX0_init cX0_init 1 none, Cond.methodLink RX0 3 objectInit, Cond.instanceMethod objectInit, Cond.code objectInit ⟨#[0xb1]⟩ 1 none, Cond.fieldLink RX0 9 "EffectTrain$State" "n" "I", Cond.arrayClass .int, Cond.fieldLink RX0 15 "EffectTrain$State" "settings" "[I", Cond.fieldLink RX0 19 "EffectTrain$State" "clock" "I", Cond.fieldLink RX0 22 "EffectTrain$State" "counts" "[I", Cond.fieldLink RX0 25 "EffectTrain$State" "area" "[I"]
def wsX1_undo_r2 : List Cond := [Cond.fieldLink RX0 28 "EffectTrain$State" "water" "[I", Cond.fieldLink RX0 31 "EffectTrain$State" "solids" "[I", Cond.fieldLink RX0 34 "EffectTrain$State" "valve" "[I", Cond.fieldLink RX0 37 "EffectTrain$State" "bleed" "[I", Cond.fieldLink RX0 40 "EffectTrain$State" "scale" "[I", Cond.fieldLink RX0 43 "EffectTrain$State" "scaling" "[I", Cond.fieldLink RX0 46 "EffectTrain$State" "left" "[I", Cond.methodLink RX0 49 yJ7_fill_53178, Cond.static yJ7_fill_53178, Cond.initialized RJ7, Cond.code yJ7_fill_53178 cJ7_fill_53178 4 none, Cond.instanceMethod yX0_copyFrom, Cond.selects RX0 yX0_copyFrom yX0_copyFrom, Cond.code yX0_copyFrom cX0_copyFrom 2 none, Cond.methodLink RX0 55 arraycopyName, Cond.native arraycopyName, Cond.static arraycopyName, Cond.initialized "java/lang/System"]
def wsX1_undo : List Cond := .code yX1_undo cX1_undo 1 (some .int) :: ((wsX1_undo_r1 ++ wsX1_undo_r2) ++ wsX10 ++ wsX00 ++ (vx_atS RX1 59 "java/lang/IllegalStateException" ["java/lang/RuntimeException", "java/lang/Exception"]).filter goodWord)
def wsX1_ahead_r1 : List Cond := [Cond.fieldLink RX1 28 "EffectTrain" "trial" "LEffectTrain$State;", Cond.fieldLink RX1 24 "EffectTrain" "now" "LEffectTrain$State;", Cond.methodLink RX1 109 yX1_checkEffect, Cond.instanceMethod yX1_checkEffect, Cond.selects RX1 yX1_checkEffect yX1_checkEffect, Cond.initialized RX1, Cond.code yX1_checkEffect cX1_checkEffect 2 none, Cond.classLink RX1 211 "java/lang/IndexOutOfBoundsException", Cond.initialized "java/lang/IndexOutOfBoundsException", Cond.methodLink RX1 51 yX1_checkRange, Cond.static yX1_checkRange, Cond.code yX1_checkRange cX1_checkRange 3 none, Cond.classLink RX1 179 "java/lang/IllegalArgumentException", Cond.initialized "java/lang/IllegalArgumentException", Cond.instanceMethod yX0_copyFrom, Cond.initialized RX0, Cond.selects RX0 yX0_copyFrom yX0_copyFrom, Cond.code yX0_copyFrom cX0_copyFrom 2 none, Cond.fieldLink RX0 9 "EffectTrain$State" "n" "I", Cond.fieldLink RX0 19 "EffectTrain$State" "clock" "I", Cond.fieldLink RX0 15 "EffectTrain$State" "settings" "[I", Cond.methodLink RX0 55 arraycopyName, Cond.native arraycopyName, Cond.static arraycopyName]
def wsX1_ahead_r2 : List Cond := [Cond.initialized "java/lang/System", Cond.fieldLink RX0 22 "EffectTrain$State" "counts" "[I", Cond.fieldLink RX0 25 "EffectTrain$State" "area" "[I", Cond.fieldLink RX0 28 "EffectTrain$State" "water" "[I", Cond.fieldLink RX0 31 "EffectTrain$State" "solids" "[I", Cond.fieldLink RX0 34 "EffectTrain$State" "valve" "[I", Cond.fieldLink RX0 37 "EffectTrain$State" "bleed" "[I", Cond.fieldLink RX0 40 "EffectTrain$State" "scale" "[I", Cond.fieldLink RX0 43 "EffectTrain$State" "scaling" "[I", Cond.fieldLink RX0 46 "EffectTrain$State" "left" "[I", Cond.instanceMethod yX0_pass, Cond.selects RX0 yX0_pass yX0_pass, Cond.code yX0_pass cX0_pass 4 (some .int), Cond.methodLink RX0 68 yX0_beginWashInTurn, Cond.instanceMethod yX0_beginWashInTurn, Cond.selects RX0 yX0_beginWashInTurn yX0_beginWashInTurn, Cond.code yX0_beginWashInTurn cX0_beginWashInTurn 4 none, Cond.methodLink RX0 80 yX0_washedEffects, Cond.instanceMethod yX0_washedEffects, Cond.selects RX0 yX0_washedEffects yX0_washedEffects, Cond.code yX0_washedEffects cX0_washedEffects 3 (some .int), Cond.methodLink RX0 71 yX0_boilAll, Cond.instanceMethod yX0_boilAll, Cond.selects RX0 yX0_boilAll yX0_boilAll]
def wsX1_ahead_r3 : List Cond := [Cond.code yX0_boilAll cX0_boilAll 4 none, Cond.methodLink RX0 84 yX0_boil, Cond.instanceMethod yX0_boil, Cond.selects RX0 yX0_boil yX0_boil, Cond.code yX0_boil cX0_boil 7 (some .int), Cond.methodLink RX0 88 Lib.Math.min.name, Cond.static Lib.Math.min.name, Cond.initialized "java/lang/Math", Cond.code Lib.Math.min.name Lib.Math.min.code 2 (some .int), Cond.methodLink RX0 61 yX0_thickness, Cond.instanceMethod yX0_thickness, Cond.selects RX0 yX0_thickness yX0_thickness, Cond.code yX0_thickness cX0_thickness 3 (some .int), Cond.methodLink RX0 65 yX0_power, Cond.instanceMethod yX0_power, Cond.selects RX0 yX0_power yX0_power, Cond.code yX0_power cX0_power 3 (some .int), Cond.methodLink RX0 74 yX0_flowOn, Cond.instanceMethod yX0_flowOn, Cond.selects RX0 yX0_flowOn yX0_flowOn, Cond.code yX0_flowOn cX0_flowOn 9 none, Cond.methodLink RX0 93 yX0_effectBehind, Cond.instanceMethod yX0_effectBehind, Cond.selects RX0 yX0_effectBehind yX0_effectBehind]
def wsX1_ahead_r4 : List Cond := [Cond.code yX0_effectBehind cX0_effectBehind 3 (some .int), Cond.methodLink RX0 96 yX0_amount, Cond.instanceMethod yX0_amount, Cond.selects RX0 yX0_amount yX0_amount, Cond.code yX0_amount cX0_amount 2 (some .int), Cond.methodLink RX0 99 yX0_flowFrom, Cond.instanceMethod yX0_flowFrom, Cond.selects RX0 yX0_flowFrom yX0_flowFrom, Cond.code yX0_flowFrom cX0_flowFrom 4 (some .int), Cond.methodLink RX0 77 yX0_washOn, Cond.instanceMethod yX0_washOn, Cond.selects RX0 yX0_washOn yX0_washOn, Cond.code yX0_washOn cX0_washOn 2 none, Cond.methodLink RX0 102 Lib.Math.max.name, Cond.static Lib.Math.max.name, Cond.code Lib.Math.max.name Lib.Math.max.code 2 (some .int), Cond.instanceMethod yX0_numberOf, Cond.selects RX0 yX0_numberOf yX0_numberOf, Cond.code yX0_numberOf cX0_numberOf 3 (some .int)]
def wsX1_ahead : List Cond := .code yX1_ahead cX1_ahead 4 (some .int) :: ((wsX1_ahead_r1 ++ (wsX1_ahead_r2 ++ (wsX1_ahead_r3 ++ wsX1_ahead_r4))) ++ wsX10 ++ wsX00 ++ (vx_atS RX1 215 "java/lang/IndexOutOfBoundsException" ["java/lang/RuntimeException", "java/lang/Exception"]).filter goodWord ++ (vx_atS RX1 183 "java/lang/IllegalArgumentException" ["java/lang/RuntimeException", "java/lang/Exception"]).filter goodWord)
def wsX1_growth_r1 : List Cond := [Cond.fieldLink RX1 28 "EffectTrain" "trial" "LEffectTrain$State;", Cond.fieldLink RX1 24 "EffectTrain" "now" "LEffectTrain$State;", Cond.methodLink RX1 51 yX1_checkRange, Cond.static yX1_checkRange, Cond.initialized RX1, Cond.code yX1_checkRange cX1_checkRange 3 none, Cond.classLink RX1 179 "java/lang/IllegalArgumentException", Cond.initialized "java/lang/IllegalArgumentException", Cond.instanceMethod yX0_copyFrom, Cond.initialized RX0, Cond.selects RX0 yX0_copyFrom yX0_copyFrom, Cond.code yX0_copyFrom cX0_copyFrom 2 none, Cond.fieldLink RX0 9 "EffectTrain$State" "n" "I", Cond.fieldLink RX0 19 "EffectTrain$State" "clock" "I", Cond.fieldLink RX0 15 "EffectTrain$State" "settings" "[I", Cond.methodLink RX0 55 arraycopyName, Cond.native arraycopyName, Cond.static arraycopyName, Cond.initialized "java/lang/System", Cond.fieldLink RX0 22 "EffectTrain$State" "counts" "[I", Cond.fieldLink RX0 25 "EffectTrain$State" "area" "[I", Cond.fieldLink RX0 28 "EffectTrain$State" "water" "[I", Cond.fieldLink RX0 31 "EffectTrain$State" "solids" "[I", Cond.fieldLink RX0 34 "EffectTrain$State" "valve" "[I"]
def wsX1_growth_r2 : List Cond := [Cond.fieldLink RX0 37 "EffectTrain$State" "bleed" "[I", Cond.fieldLink RX0 40 "EffectTrain$State" "scale" "[I", Cond.fieldLink RX0 43 "EffectTrain$State" "scaling" "[I", Cond.fieldLink RX0 46 "EffectTrain$State" "left" "[I", Cond.instanceMethod yX0_pass, Cond.selects RX0 yX0_pass yX0_pass, Cond.code yX0_pass cX0_pass 4 (some .int), Cond.methodLink RX0 68 yX0_beginWashInTurn, Cond.instanceMethod yX0_beginWashInTurn, Cond.selects RX0 yX0_beginWashInTurn yX0_beginWashInTurn, Cond.code yX0_beginWashInTurn cX0_beginWashInTurn 4 none, Cond.methodLink RX0 80 yX0_washedEffects, Cond.instanceMethod yX0_washedEffects, Cond.selects RX0 yX0_washedEffects yX0_washedEffects, Cond.code yX0_washedEffects cX0_washedEffects 3 (some .int), Cond.methodLink RX0 71 yX0_boilAll, Cond.instanceMethod yX0_boilAll, Cond.selects RX0 yX0_boilAll yX0_boilAll, Cond.code yX0_boilAll cX0_boilAll 4 none, Cond.methodLink RX0 84 yX0_boil, Cond.instanceMethod yX0_boil, Cond.selects RX0 yX0_boil yX0_boil, Cond.code yX0_boil cX0_boil 7 (some .int), Cond.methodLink RX0 88 Lib.Math.min.name]
def wsX1_growth_r3 : List Cond := [Cond.static Lib.Math.min.name, Cond.initialized "java/lang/Math", Cond.code Lib.Math.min.name Lib.Math.min.code 2 (some .int), Cond.methodLink RX0 61 yX0_thickness, Cond.instanceMethod yX0_thickness, Cond.selects RX0 yX0_thickness yX0_thickness, Cond.code yX0_thickness cX0_thickness 3 (some .int), Cond.methodLink RX0 65 yX0_power, Cond.instanceMethod yX0_power, Cond.selects RX0 yX0_power yX0_power, Cond.code yX0_power cX0_power 3 (some .int), Cond.methodLink RX0 74 yX0_flowOn, Cond.instanceMethod yX0_flowOn, Cond.selects RX0 yX0_flowOn yX0_flowOn, Cond.code yX0_flowOn cX0_flowOn 9 none, Cond.methodLink RX0 93 yX0_effectBehind, Cond.instanceMethod yX0_effectBehind, Cond.selects RX0 yX0_effectBehind yX0_effectBehind, Cond.code yX0_effectBehind cX0_effectBehind 3 (some .int), Cond.methodLink RX0 96 yX0_amount, Cond.instanceMethod yX0_amount, Cond.selects RX0 yX0_amount yX0_amount, Cond.code yX0_amount cX0_amount 2 (some .int), Cond.methodLink RX0 99 yX0_flowFrom]
def wsX1_growth_r4 : List Cond := [Cond.instanceMethod yX0_flowFrom, Cond.selects RX0 yX0_flowFrom yX0_flowFrom, Cond.code yX0_flowFrom cX0_flowFrom 4 (some .int), Cond.methodLink RX0 77 yX0_washOn, Cond.instanceMethod yX0_washOn, Cond.selects RX0 yX0_washOn yX0_washOn, Cond.code yX0_washOn cX0_washOn 2 none, Cond.methodLink RX0 102 Lib.Math.max.name, Cond.static Lib.Math.max.name, Cond.code Lib.Math.max.name Lib.Math.max.code 2 (some .int)]
def wsX1_growth : List Cond := .code yX1_growth cX1_growth 3 (some .int) :: ((wsX1_growth_r1 ++ (wsX1_growth_r2 ++ (wsX1_growth_r3 ++ wsX1_growth_r4))) ++ wsX10 ++ wsX00 ++ (vx_atS RX1 183 "java/lang/IllegalArgumentException" ["java/lang/RuntimeException", "java/lang/Exception"]).filter goodWord)
def wsX1_washGain_r1 : List Cond := [Cond.fieldLink RX1 28 "EffectTrain" "trial" "LEffectTrain$State;", Cond.fieldLink RX1 24 "EffectTrain" "now" "LEffectTrain$State;", Cond.methodLink RX1 109 yX1_checkEffect, Cond.instanceMethod yX1_checkEffect, Cond.selects RX1 yX1_checkEffect yX1_checkEffect, Cond.initialized RX1, Cond.code yX1_checkEffect cX1_checkEffect 2 none, Cond.classLink RX1 211 "java/lang/IndexOutOfBoundsException", Cond.initialized "java/lang/IndexOutOfBoundsException", Cond.methodLink RX1 51 yX1_checkRange, Cond.static yX1_checkRange, Cond.code yX1_checkRange cX1_checkRange 3 none, Cond.classLink RX1 179 "java/lang/IllegalArgumentException", Cond.initialized "java/lang/IllegalArgumentException", Cond.methodLink RX1 141 yX1_checkWorks, Cond.instanceMethod yX1_checkWorks, Cond.selects RX1 yX1_checkWorks yX1_checkWorks, Cond.code yX1_checkWorks cX1_checkWorks 2 none, Cond.classLink RX1 55 "java/lang/IllegalStateException", Cond.initialized "java/lang/IllegalStateException", Cond.instanceMethod yX0_copyFrom, Cond.initialized RX0, Cond.selects RX0 yX0_copyFrom yX0_copyFrom, Cond.code yX0_copyFrom cX0_copyFrom 2 none]
def wsX1_washGain_r2 : List Cond := [Cond.fieldLink RX0 9 "EffectTrain$State" "n" "I", Cond.fieldLink RX0 19 "EffectTrain$State" "clock" "I", Cond.fieldLink RX0 15 "EffectTrain$State" "settings" "[I", Cond.methodLink RX0 55 arraycopyName, Cond.native arraycopyName, Cond.static arraycopyName, Cond.initialized "java/lang/System", Cond.fieldLink RX0 22 "EffectTrain$State" "counts" "[I", Cond.fieldLink RX0 25 "EffectTrain$State" "area" "[I", Cond.fieldLink RX0 28 "EffectTrain$State" "water" "[I", Cond.fieldLink RX0 31 "EffectTrain$State" "solids" "[I", Cond.fieldLink RX0 34 "EffectTrain$State" "valve" "[I", Cond.fieldLink RX0 37 "EffectTrain$State" "bleed" "[I", Cond.fieldLink RX0 40 "EffectTrain$State" "scale" "[I", Cond.fieldLink RX0 43 "EffectTrain$State" "scaling" "[I", Cond.fieldLink RX0 46 "EffectTrain$State" "left" "[I", Cond.instanceMethod yX0_pass, Cond.selects RX0 yX0_pass yX0_pass, Cond.code yX0_pass cX0_pass 4 (some .int), Cond.methodLink RX0 68 yX0_beginWashInTurn, Cond.instanceMethod yX0_beginWashInTurn, Cond.selects RX0 yX0_beginWashInTurn yX0_beginWashInTurn, Cond.code yX0_beginWashInTurn cX0_beginWashInTurn 4 none, Cond.methodLink RX0 80 yX0_washedEffects]
def wsX1_washGain_r3 : List Cond := [Cond.instanceMethod yX0_washedEffects, Cond.selects RX0 yX0_washedEffects yX0_washedEffects, Cond.code yX0_washedEffects cX0_washedEffects 3 (some .int), Cond.methodLink RX0 71 yX0_boilAll, Cond.instanceMethod yX0_boilAll, Cond.selects RX0 yX0_boilAll yX0_boilAll, Cond.code yX0_boilAll cX0_boilAll 4 none, Cond.methodLink RX0 84 yX0_boil, Cond.instanceMethod yX0_boil, Cond.selects RX0 yX0_boil yX0_boil, Cond.code yX0_boil cX0_boil 7 (some .int), Cond.methodLink RX0 88 Lib.Math.min.name, Cond.static Lib.Math.min.name, Cond.initialized "java/lang/Math", Cond.code Lib.Math.min.name Lib.Math.min.code 2 (some .int), Cond.methodLink RX0 61 yX0_thickness, Cond.instanceMethod yX0_thickness, Cond.selects RX0 yX0_thickness yX0_thickness, Cond.code yX0_thickness cX0_thickness 3 (some .int), Cond.methodLink RX0 65 yX0_power, Cond.instanceMethod yX0_power, Cond.selects RX0 yX0_power yX0_power, Cond.code yX0_power cX0_power 3 (some .int), Cond.methodLink RX0 74 yX0_flowOn]
def wsX1_washGain_r4 : List Cond := [Cond.instanceMethod yX0_flowOn, Cond.selects RX0 yX0_flowOn yX0_flowOn, Cond.code yX0_flowOn cX0_flowOn 9 none, Cond.methodLink RX0 93 yX0_effectBehind, Cond.instanceMethod yX0_effectBehind, Cond.selects RX0 yX0_effectBehind yX0_effectBehind, Cond.code yX0_effectBehind cX0_effectBehind 3 (some .int), Cond.methodLink RX0 96 yX0_amount, Cond.instanceMethod yX0_amount, Cond.selects RX0 yX0_amount yX0_amount, Cond.code yX0_amount cX0_amount 2 (some .int), Cond.methodLink RX0 99 yX0_flowFrom, Cond.instanceMethod yX0_flowFrom, Cond.selects RX0 yX0_flowFrom yX0_flowFrom, Cond.code yX0_flowFrom cX0_flowFrom 4 (some .int), Cond.methodLink RX0 77 yX0_washOn, Cond.instanceMethod yX0_washOn, Cond.selects RX0 yX0_washOn yX0_washOn, Cond.code yX0_washOn cX0_washOn 2 none, Cond.methodLink RX0 102 Lib.Math.max.name, Cond.static Lib.Math.max.name, Cond.code Lib.Math.max.name Lib.Math.max.code 2 (some .int)]
def wsX1_washGain : List Cond := .code yX1_washGain cX1_washGain 5 (some .int) :: ((wsX1_washGain_r1 ++ (wsX1_washGain_r2 ++ (wsX1_washGain_r3 ++ wsX1_washGain_r4))) ++ wsX10 ++ wsX00 ++ (vx_atS RX1 215 "java/lang/IndexOutOfBoundsException" ["java/lang/RuntimeException", "java/lang/Exception"]).filter goodWord ++ (vx_atS RX1 183 "java/lang/IllegalArgumentException" ["java/lang/RuntimeException", "java/lang/Exception"]).filter goodWord ++ (vx_atS RX1 59 "java/lang/IllegalStateException" ["java/lang/RuntimeException", "java/lang/Exception"]).filter goodWord)
def wsX1_greatestVapor_r1 : List Cond := [Cond.methodLink RX1 167 Lib.Math.max.name, Cond.static Lib.Math.max.name, Cond.initialized "java/lang/Math", Cond.code Lib.Math.max.name Lib.Math.max.code 2 (some .int), Cond.methodLink RX1 159 yX1_vaporWithChoice, Cond.instanceMethod yX1_vaporWithChoice, Cond.selects RX1 yX1_vaporWithChoice yX1_vaporWithChoice, Cond.initialized RX1, Cond.code yX1_vaporWithChoice cX1_vaporWithChoice 5 (some .int), Cond.fieldLink RX1 31 "EffectTrain" "turnStates" "[LEffectTrain$State;", Cond.methodLink RX1 151 yX1_stateAt, Cond.static yX1_stateAt, Cond.code yX1_stateAt cX1_stateAt 3 (some (.object "EffectTrain$State")), Cond.classLink RX1 21 RX0, Cond.instantiable RX0 12, Cond.initialized RX0, Cond.instanceMethod yX0_init, Cond.code yX0_init cX0_init 1 none, Cond.methodLink RX0 3 objectInit, Cond.instanceMethod objectInit, Cond.code objectInit ⟨#[0xb1]⟩ 1 none, Cond.fieldLink RX0 9 "EffectTrain$State" "n" "I", Cond.arrayClass .int, Cond.fieldLink RX0 15 "EffectTrain$State" "settings" "[I"]
def wsX1_greatestVapor_r2 : List Cond := [Cond.fieldLink RX0 19 "EffectTrain$State" "clock" "I", Cond.fieldLink RX0 22 "EffectTrain$State" "counts" "[I", Cond.fieldLink RX0 25 "EffectTrain$State" "area" "[I", Cond.fieldLink RX0 28 "EffectTrain$State" "water" "[I", Cond.fieldLink RX0 31 "EffectTrain$State" "solids" "[I", Cond.fieldLink RX0 34 "EffectTrain$State" "valve" "[I", Cond.fieldLink RX0 37 "EffectTrain$State" "bleed" "[I", Cond.fieldLink RX0 40 "EffectTrain$State" "scale" "[I", Cond.fieldLink RX0 43 "EffectTrain$State" "scaling" "[I", Cond.fieldLink RX0 46 "EffectTrain$State" "left" "[I", Cond.methodLink RX0 49 yJ7_fill_53178, Cond.static yJ7_fill_53178, Cond.initialized RJ7, Cond.code yJ7_fill_53178 cJ7_fill_53178 4 none, Cond.instanceMethod yX0_copyFrom, Cond.selects RX0 yX0_copyFrom yX0_copyFrom, Cond.code yX0_copyFrom cX0_copyFrom 2 none, Cond.methodLink RX0 55 arraycopyName, Cond.native arraycopyName, Cond.static arraycopyName, Cond.initialized "java/lang/System", Cond.instanceMethod yX0_pass, Cond.selects RX0 yX0_pass yX0_pass, Cond.code yX0_pass cX0_pass 4 (some .int)]
def wsX1_greatestVapor_r3 : List Cond := [Cond.methodLink RX0 68 yX0_beginWashInTurn, Cond.instanceMethod yX0_beginWashInTurn, Cond.selects RX0 yX0_beginWashInTurn yX0_beginWashInTurn, Cond.code yX0_beginWashInTurn cX0_beginWashInTurn 4 none, Cond.methodLink RX0 80 yX0_washedEffects, Cond.instanceMethod yX0_washedEffects, Cond.selects RX0 yX0_washedEffects yX0_washedEffects, Cond.code yX0_washedEffects cX0_washedEffects 3 (some .int), Cond.methodLink RX0 71 yX0_boilAll, Cond.instanceMethod yX0_boilAll, Cond.selects RX0 yX0_boilAll yX0_boilAll, Cond.code yX0_boilAll cX0_boilAll 4 none, Cond.methodLink RX0 84 yX0_boil, Cond.instanceMethod yX0_boil, Cond.selects RX0 yX0_boil yX0_boil, Cond.code yX0_boil cX0_boil 7 (some .int), Cond.methodLink RX0 88 Lib.Math.min.name, Cond.static Lib.Math.min.name, Cond.code Lib.Math.min.name Lib.Math.min.code 2 (some .int), Cond.methodLink RX0 61 yX0_thickness, Cond.instanceMethod yX0_thickness, Cond.selects RX0 yX0_thickness yX0_thickness, Cond.code yX0_thickness cX0_thickness 3 (some .int), Cond.methodLink RX0 65 yX0_power]
def wsX1_greatestVapor_r4 : List Cond := [Cond.instanceMethod yX0_power, Cond.selects RX0 yX0_power yX0_power, Cond.code yX0_power cX0_power 3 (some .int), Cond.methodLink RX0 74 yX0_flowOn, Cond.instanceMethod yX0_flowOn, Cond.selects RX0 yX0_flowOn yX0_flowOn, Cond.code yX0_flowOn cX0_flowOn 9 none, Cond.methodLink RX0 93 yX0_effectBehind, Cond.instanceMethod yX0_effectBehind, Cond.selects RX0 yX0_effectBehind yX0_effectBehind, Cond.code yX0_effectBehind cX0_effectBehind 3 (some .int), Cond.methodLink RX0 96 yX0_amount, Cond.instanceMethod yX0_amount, Cond.selects RX0 yX0_amount yX0_amount, Cond.code yX0_amount cX0_amount 2 (some .int), Cond.methodLink RX0 99 yX0_flowFrom, Cond.instanceMethod yX0_flowFrom, Cond.selects RX0 yX0_flowFrom yX0_flowFrom, Cond.code yX0_flowFrom cX0_flowFrom 4 (some .int), Cond.methodLink RX0 77 yX0_washOn, Cond.instanceMethod yX0_washOn, Cond.selects RX0 yX0_washOn yX0_washOn, Cond.code yX0_washOn cX0_washOn 2 none, Cond.methodLink RX0 102 Lib.Math.max.name]
def wsX1_greatestVapor_r5 : List Cond := [Cond.methodLink RX1 163 yX1_greatestVapor, Cond.instanceMethod yX1_greatestVapor, Cond.selects RX1 yX1_greatestVapor yX1_greatestVapor]
def wsX1_greatestVapor : List Cond := .code yX1_greatestVapor cX1_greatestVapor 5 (some .int) :: ((wsX1_greatestVapor_r1 ++ (wsX1_greatestVapor_r2 ++ (wsX1_greatestVapor_r3 ++ (wsX1_greatestVapor_r4 ++ wsX1_greatestVapor_r5)))) ++ wsX00 ++ wsX10)
def wsX1_vaporWithChoice_r1 : List Cond := [Cond.fieldLink RX1 31 "EffectTrain" "turnStates" "[LEffectTrain$State;", Cond.methodLink RX1 151 yX1_stateAt, Cond.static yX1_stateAt, Cond.initialized RX1, Cond.code yX1_stateAt cX1_stateAt 3 (some (.object "EffectTrain$State")), Cond.classLink RX1 21 RX0, Cond.instantiable RX0 12, Cond.initialized RX0, Cond.instanceMethod yX0_init, Cond.code yX0_init cX0_init 1 none, Cond.methodLink RX0 3 objectInit, Cond.instanceMethod objectInit, Cond.code objectInit ⟨#[0xb1]⟩ 1 none, Cond.fieldLink RX0 9 "EffectTrain$State" "n" "I", Cond.arrayClass .int, Cond.fieldLink RX0 15 "EffectTrain$State" "settings" "[I", Cond.fieldLink RX0 19 "EffectTrain$State" "clock" "I", Cond.fieldLink RX0 22 "EffectTrain$State" "counts" "[I", Cond.fieldLink RX0 25 "EffectTrain$State" "area" "[I", Cond.fieldLink RX0 28 "EffectTrain$State" "water" "[I", Cond.fieldLink RX0 31 "EffectTrain$State" "solids" "[I", Cond.fieldLink RX0 34 "EffectTrain$State" "valve" "[I", Cond.fieldLink RX0 37 "EffectTrain$State" "bleed" "[I", Cond.fieldLink RX0 40 "EffectTrain$State" "scale" "[I"]
def wsX1_vaporWithChoice_r2 : List Cond := [Cond.fieldLink RX0 43 "EffectTrain$State" "scaling" "[I", Cond.fieldLink RX0 46 "EffectTrain$State" "left" "[I", Cond.methodLink RX0 49 yJ7_fill_53178, Cond.static yJ7_fill_53178, Cond.initialized RJ7, Cond.code yJ7_fill_53178 cJ7_fill_53178 4 none, Cond.instanceMethod yX0_copyFrom, Cond.selects RX0 yX0_copyFrom yX0_copyFrom, Cond.code yX0_copyFrom cX0_copyFrom 2 none, Cond.methodLink RX0 55 arraycopyName, Cond.native arraycopyName, Cond.static arraycopyName, Cond.initialized "java/lang/System", Cond.instanceMethod yX0_pass, Cond.selects RX0 yX0_pass yX0_pass, Cond.code yX0_pass cX0_pass 4 (some .int), Cond.methodLink RX0 68 yX0_beginWashInTurn, Cond.instanceMethod yX0_beginWashInTurn, Cond.selects RX0 yX0_beginWashInTurn yX0_beginWashInTurn, Cond.code yX0_beginWashInTurn cX0_beginWashInTurn 4 none, Cond.methodLink RX0 80 yX0_washedEffects, Cond.instanceMethod yX0_washedEffects, Cond.selects RX0 yX0_washedEffects yX0_washedEffects, Cond.code yX0_washedEffects cX0_washedEffects 3 (some .int)]
def wsX1_vaporWithChoice_r3 : List Cond := [Cond.methodLink RX0 71 yX0_boilAll, Cond.instanceMethod yX0_boilAll, Cond.selects RX0 yX0_boilAll yX0_boilAll, Cond.code yX0_boilAll cX0_boilAll 4 none, Cond.methodLink RX0 84 yX0_boil, Cond.instanceMethod yX0_boil, Cond.selects RX0 yX0_boil yX0_boil, Cond.code yX0_boil cX0_boil 7 (some .int), Cond.methodLink RX0 88 Lib.Math.min.name, Cond.static Lib.Math.min.name, Cond.initialized "java/lang/Math", Cond.code Lib.Math.min.name Lib.Math.min.code 2 (some .int), Cond.methodLink RX0 61 yX0_thickness, Cond.instanceMethod yX0_thickness, Cond.selects RX0 yX0_thickness yX0_thickness, Cond.code yX0_thickness cX0_thickness 3 (some .int), Cond.methodLink RX0 65 yX0_power, Cond.instanceMethod yX0_power, Cond.selects RX0 yX0_power yX0_power, Cond.code yX0_power cX0_power 3 (some .int), Cond.methodLink RX0 74 yX0_flowOn, Cond.instanceMethod yX0_flowOn, Cond.selects RX0 yX0_flowOn yX0_flowOn, Cond.code yX0_flowOn cX0_flowOn 9 none]
def wsX1_vaporWithChoice_r4 : List Cond := [Cond.methodLink RX0 93 yX0_effectBehind, Cond.instanceMethod yX0_effectBehind, Cond.selects RX0 yX0_effectBehind yX0_effectBehind, Cond.code yX0_effectBehind cX0_effectBehind 3 (some .int), Cond.methodLink RX0 96 yX0_amount, Cond.instanceMethod yX0_amount, Cond.selects RX0 yX0_amount yX0_amount, Cond.code yX0_amount cX0_amount 2 (some .int), Cond.methodLink RX0 99 yX0_flowFrom, Cond.instanceMethod yX0_flowFrom, Cond.selects RX0 yX0_flowFrom yX0_flowFrom, Cond.code yX0_flowFrom cX0_flowFrom 4 (some .int), Cond.methodLink RX0 77 yX0_washOn, Cond.instanceMethod yX0_washOn, Cond.selects RX0 yX0_washOn yX0_washOn, Cond.code yX0_washOn cX0_washOn 2 none, Cond.methodLink RX0 102 Lib.Math.max.name, Cond.static Lib.Math.max.name, Cond.code Lib.Math.max.name Lib.Math.max.code 2 (some .int), Cond.methodLink RX1 163 yX1_greatestVapor, Cond.instanceMethod yX1_greatestVapor, Cond.selects RX1 yX1_greatestVapor yX1_greatestVapor, Cond.code yX1_greatestVapor cX1_greatestVapor 5 (some .int), Cond.methodLink RX1 167 Lib.Math.max.name]
def wsX1_vaporWithChoice_r5 : List Cond := [Cond.methodLink RX1 159 yX1_vaporWithChoice, Cond.instanceMethod yX1_vaporWithChoice, Cond.selects RX1 yX1_vaporWithChoice yX1_vaporWithChoice]
def wsX1_vaporWithChoice : List Cond := .code yX1_vaporWithChoice cX1_vaporWithChoice 5 (some .int) :: ((wsX1_vaporWithChoice_r1 ++ (wsX1_vaporWithChoice_r2 ++ (wsX1_vaporWithChoice_r3 ++ (wsX1_vaporWithChoice_r4 ++ wsX1_vaporWithChoice_r5)))) ++ wsX00 ++ wsX10)
def wsX1_bestTurns_r1 : List Cond := [Cond.fieldLink RX1 24 "EffectTrain" "now" "LEffectTrain$State;", Cond.methodLink RX1 51 yX1_checkRange, Cond.static yX1_checkRange, Cond.initialized RX1, Cond.code yX1_checkRange cX1_checkRange 3 none, Cond.classLink RX1 179 "java/lang/IllegalArgumentException", Cond.initialized "java/lang/IllegalArgumentException", Cond.methodLink RX1 159 yX1_vaporWithChoice, Cond.instanceMethod yX1_vaporWithChoice, Cond.selects RX1 yX1_vaporWithChoice yX1_vaporWithChoice, Cond.code yX1_vaporWithChoice cX1_vaporWithChoice 5 (some .int), Cond.fieldLink RX1 31 "EffectTrain" "turnStates" "[LEffectTrain$State;", Cond.methodLink RX1 151 yX1_stateAt, Cond.static yX1_stateAt, Cond.code yX1_stateAt cX1_stateAt 3 (some (.object "EffectTrain$State")), Cond.classLink RX1 21 RX0, Cond.instantiable RX0 12, Cond.initialized RX0, Cond.instanceMethod yX0_init, Cond.code yX0_init cX0_init 1 none, Cond.methodLink RX0 3 objectInit, Cond.instanceMethod objectInit, Cond.code objectInit ⟨#[0xb1]⟩ 1 none, Cond.fieldLink RX0 9 "EffectTrain$State" "n" "I"]
def wsX1_bestTurns_r2 : List Cond := [Cond.arrayClass .int, Cond.fieldLink RX0 15 "EffectTrain$State" "settings" "[I", Cond.fieldLink RX0 19 "EffectTrain$State" "clock" "I", Cond.fieldLink RX0 22 "EffectTrain$State" "counts" "[I", Cond.fieldLink RX0 25 "EffectTrain$State" "area" "[I", Cond.fieldLink RX0 28 "EffectTrain$State" "water" "[I", Cond.fieldLink RX0 31 "EffectTrain$State" "solids" "[I", Cond.fieldLink RX0 34 "EffectTrain$State" "valve" "[I", Cond.fieldLink RX0 37 "EffectTrain$State" "bleed" "[I", Cond.fieldLink RX0 40 "EffectTrain$State" "scale" "[I", Cond.fieldLink RX0 43 "EffectTrain$State" "scaling" "[I", Cond.fieldLink RX0 46 "EffectTrain$State" "left" "[I", Cond.methodLink RX0 49 yJ7_fill_53178, Cond.static yJ7_fill_53178, Cond.initialized RJ7, Cond.code yJ7_fill_53178 cJ7_fill_53178 4 none, Cond.instanceMethod yX0_copyFrom, Cond.selects RX0 yX0_copyFrom yX0_copyFrom, Cond.code yX0_copyFrom cX0_copyFrom 2 none, Cond.methodLink RX0 55 arraycopyName, Cond.native arraycopyName, Cond.static arraycopyName, Cond.initialized "java/lang/System", Cond.instanceMethod yX0_pass]
def wsX1_bestTurns_r3 : List Cond := [Cond.selects RX0 yX0_pass yX0_pass, Cond.code yX0_pass cX0_pass 4 (some .int), Cond.methodLink RX0 68 yX0_beginWashInTurn, Cond.instanceMethod yX0_beginWashInTurn, Cond.selects RX0 yX0_beginWashInTurn yX0_beginWashInTurn, Cond.code yX0_beginWashInTurn cX0_beginWashInTurn 4 none, Cond.methodLink RX0 80 yX0_washedEffects, Cond.instanceMethod yX0_washedEffects, Cond.selects RX0 yX0_washedEffects yX0_washedEffects, Cond.code yX0_washedEffects cX0_washedEffects 3 (some .int), Cond.methodLink RX0 71 yX0_boilAll, Cond.instanceMethod yX0_boilAll, Cond.selects RX0 yX0_boilAll yX0_boilAll, Cond.code yX0_boilAll cX0_boilAll 4 none, Cond.methodLink RX0 84 yX0_boil, Cond.instanceMethod yX0_boil, Cond.selects RX0 yX0_boil yX0_boil, Cond.code yX0_boil cX0_boil 7 (some .int), Cond.methodLink RX0 88 Lib.Math.min.name, Cond.static Lib.Math.min.name, Cond.initialized "java/lang/Math", Cond.code Lib.Math.min.name Lib.Math.min.code 2 (some .int), Cond.methodLink RX0 61 yX0_thickness, Cond.instanceMethod yX0_thickness]
def wsX1_bestTurns_r4 : List Cond := [Cond.selects RX0 yX0_thickness yX0_thickness, Cond.code yX0_thickness cX0_thickness 3 (some .int), Cond.methodLink RX0 65 yX0_power, Cond.instanceMethod yX0_power, Cond.selects RX0 yX0_power yX0_power, Cond.code yX0_power cX0_power 3 (some .int), Cond.methodLink RX0 74 yX0_flowOn, Cond.instanceMethod yX0_flowOn, Cond.selects RX0 yX0_flowOn yX0_flowOn, Cond.code yX0_flowOn cX0_flowOn 9 none, Cond.methodLink RX0 93 yX0_effectBehind, Cond.instanceMethod yX0_effectBehind, Cond.selects RX0 yX0_effectBehind yX0_effectBehind, Cond.code yX0_effectBehind cX0_effectBehind 3 (some .int), Cond.methodLink RX0 96 yX0_amount, Cond.instanceMethod yX0_amount, Cond.selects RX0 yX0_amount yX0_amount, Cond.code yX0_amount cX0_amount 2 (some .int), Cond.methodLink RX0 99 yX0_flowFrom, Cond.instanceMethod yX0_flowFrom, Cond.selects RX0 yX0_flowFrom yX0_flowFrom, Cond.code yX0_flowFrom cX0_flowFrom 4 (some .int), Cond.methodLink RX0 77 yX0_washOn, Cond.instanceMethod yX0_washOn]
def wsX1_bestTurns_r5 : List Cond := [Cond.selects RX0 yX0_washOn yX0_washOn, Cond.code yX0_washOn cX0_washOn 2 none, Cond.methodLink RX0 102 Lib.Math.max.name, Cond.static Lib.Math.max.name, Cond.code Lib.Math.max.name Lib.Math.max.code 2 (some .int), Cond.methodLink RX1 163 yX1_greatestVapor, Cond.instanceMethod yX1_greatestVapor, Cond.selects RX1 yX1_greatestVapor yX1_greatestVapor, Cond.code yX1_greatestVapor cX1_greatestVapor 5 (some .int), Cond.methodLink RX1 167 Lib.Math.max.name]
def wsX1_bestTurns : List Cond := .code yX1_bestTurns cX1_bestTurns 7 (some .int) :: ((wsX1_bestTurns_r1 ++ (wsX1_bestTurns_r2 ++ (wsX1_bestTurns_r3 ++ (wsX1_bestTurns_r4 ++ wsX1_bestTurns_r5)))) ++ wsX10 ++ wsX00 ++ (vx_atS RX1 183 "java/lang/IllegalArgumentException" ["java/lang/RuntimeException", "java/lang/Exception"]).filter goodWord)
def wsX1_scaledAfter_r1 : List Cond := [Cond.fieldLink RX1 28 "EffectTrain" "trial" "LEffectTrain$State;", Cond.fieldLink RX1 24 "EffectTrain" "now" "LEffectTrain$State;", Cond.methodLink RX1 109 yX1_checkEffect, Cond.instanceMethod yX1_checkEffect, Cond.selects RX1 yX1_checkEffect yX1_checkEffect, Cond.initialized RX1, Cond.code yX1_checkEffect cX1_checkEffect 2 none, Cond.classLink RX1 211 "java/lang/IndexOutOfBoundsException", Cond.initialized "java/lang/IndexOutOfBoundsException", Cond.methodLink RX1 51 yX1_checkRange, Cond.static yX1_checkRange, Cond.code yX1_checkRange cX1_checkRange 3 none, Cond.classLink RX1 179 "java/lang/IllegalArgumentException", Cond.initialized "java/lang/IllegalArgumentException", Cond.instanceMethod yX0_copyFrom, Cond.initialized RX0, Cond.selects RX0 yX0_copyFrom yX0_copyFrom, Cond.code yX0_copyFrom cX0_copyFrom 2 none, Cond.fieldLink RX0 9 "EffectTrain$State" "n" "I", Cond.fieldLink RX0 19 "EffectTrain$State" "clock" "I", Cond.fieldLink RX0 15 "EffectTrain$State" "settings" "[I", Cond.methodLink RX0 55 arraycopyName, Cond.native arraycopyName, Cond.static arraycopyName]
def wsX1_scaledAfter_r2 : List Cond := [Cond.initialized "java/lang/System", Cond.fieldLink RX0 22 "EffectTrain$State" "counts" "[I", Cond.fieldLink RX0 25 "EffectTrain$State" "area" "[I", Cond.fieldLink RX0 28 "EffectTrain$State" "water" "[I", Cond.fieldLink RX0 31 "EffectTrain$State" "solids" "[I", Cond.fieldLink RX0 34 "EffectTrain$State" "valve" "[I", Cond.fieldLink RX0 37 "EffectTrain$State" "bleed" "[I", Cond.fieldLink RX0 40 "EffectTrain$State" "scale" "[I", Cond.fieldLink RX0 43 "EffectTrain$State" "scaling" "[I", Cond.fieldLink RX0 46 "EffectTrain$State" "left" "[I", Cond.instanceMethod yX0_pass, Cond.selects RX0 yX0_pass yX0_pass, Cond.code yX0_pass cX0_pass 4 (some .int), Cond.methodLink RX0 68 yX0_beginWashInTurn, Cond.instanceMethod yX0_beginWashInTurn, Cond.selects RX0 yX0_beginWashInTurn yX0_beginWashInTurn, Cond.code yX0_beginWashInTurn cX0_beginWashInTurn 4 none, Cond.methodLink RX0 80 yX0_washedEffects, Cond.instanceMethod yX0_washedEffects, Cond.selects RX0 yX0_washedEffects yX0_washedEffects, Cond.code yX0_washedEffects cX0_washedEffects 3 (some .int), Cond.methodLink RX0 71 yX0_boilAll, Cond.instanceMethod yX0_boilAll, Cond.selects RX0 yX0_boilAll yX0_boilAll]
def wsX1_scaledAfter_r3 : List Cond := [Cond.code yX0_boilAll cX0_boilAll 4 none, Cond.methodLink RX0 84 yX0_boil, Cond.instanceMethod yX0_boil, Cond.selects RX0 yX0_boil yX0_boil, Cond.code yX0_boil cX0_boil 7 (some .int), Cond.methodLink RX0 88 Lib.Math.min.name, Cond.static Lib.Math.min.name, Cond.initialized "java/lang/Math", Cond.code Lib.Math.min.name Lib.Math.min.code 2 (some .int), Cond.methodLink RX0 61 yX0_thickness, Cond.instanceMethod yX0_thickness, Cond.selects RX0 yX0_thickness yX0_thickness, Cond.code yX0_thickness cX0_thickness 3 (some .int), Cond.methodLink RX0 65 yX0_power, Cond.instanceMethod yX0_power, Cond.selects RX0 yX0_power yX0_power, Cond.code yX0_power cX0_power 3 (some .int), Cond.methodLink RX0 74 yX0_flowOn, Cond.instanceMethod yX0_flowOn, Cond.selects RX0 yX0_flowOn yX0_flowOn, Cond.code yX0_flowOn cX0_flowOn 9 none, Cond.methodLink RX0 93 yX0_effectBehind, Cond.instanceMethod yX0_effectBehind, Cond.selects RX0 yX0_effectBehind yX0_effectBehind]
def wsX1_scaledAfter_r4 : List Cond := [Cond.code yX0_effectBehind cX0_effectBehind 3 (some .int), Cond.methodLink RX0 96 yX0_amount, Cond.instanceMethod yX0_amount, Cond.selects RX0 yX0_amount yX0_amount, Cond.code yX0_amount cX0_amount 2 (some .int), Cond.methodLink RX0 99 yX0_flowFrom, Cond.instanceMethod yX0_flowFrom, Cond.selects RX0 yX0_flowFrom yX0_flowFrom, Cond.code yX0_flowFrom cX0_flowFrom 4 (some .int), Cond.methodLink RX0 77 yX0_washOn, Cond.instanceMethod yX0_washOn, Cond.selects RX0 yX0_washOn yX0_washOn, Cond.code yX0_washOn cX0_washOn 2 none, Cond.methodLink RX0 102 Lib.Math.max.name, Cond.static Lib.Math.max.name, Cond.code Lib.Math.max.name Lib.Math.max.code 2 (some .int)]
def wsX1_scaledAfter : List Cond := .code yX1_scaledAfter cX1_scaledAfter 4 (some .int) :: ((wsX1_scaledAfter_r1 ++ (wsX1_scaledAfter_r2 ++ (wsX1_scaledAfter_r3 ++ wsX1_scaledAfter_r4))) ++ wsX10 ++ wsX00 ++ (vx_atS RX1 215 "java/lang/IndexOutOfBoundsException" ["java/lang/RuntimeException", "java/lang/Exception"]).filter goodWord ++ (vx_atS RX1 183 "java/lang/IllegalArgumentException" ["java/lang/RuntimeException", "java/lang/Exception"]).filter goodWord)
def wsX1_steamFor_r1 : List Cond := [Cond.fieldLink RX1 28 "EffectTrain" "trial" "LEffectTrain$State;", Cond.fieldLink RX1 24 "EffectTrain" "now" "LEffectTrain$State;", Cond.methodLink RX1 51 yX1_checkRange, Cond.static yX1_checkRange, Cond.initialized RX1, Cond.code yX1_checkRange cX1_checkRange 3 none, Cond.classLink RX1 179 "java/lang/IllegalArgumentException", Cond.initialized "java/lang/IllegalArgumentException", Cond.instanceMethod yX0_copyFrom, Cond.initialized RX0, Cond.selects RX0 yX0_copyFrom yX0_copyFrom, Cond.code yX0_copyFrom cX0_copyFrom 2 none, Cond.fieldLink RX0 9 "EffectTrain$State" "n" "I", Cond.fieldLink RX0 19 "EffectTrain$State" "clock" "I", Cond.fieldLink RX0 15 "EffectTrain$State" "settings" "[I", Cond.methodLink RX0 55 arraycopyName, Cond.native arraycopyName, Cond.static arraycopyName, Cond.initialized "java/lang/System", Cond.fieldLink RX0 22 "EffectTrain$State" "counts" "[I", Cond.fieldLink RX0 25 "EffectTrain$State" "area" "[I", Cond.fieldLink RX0 28 "EffectTrain$State" "water" "[I", Cond.fieldLink RX0 31 "EffectTrain$State" "solids" "[I", Cond.fieldLink RX0 34 "EffectTrain$State" "valve" "[I"]
def wsX1_steamFor_r2 : List Cond := [Cond.fieldLink RX0 37 "EffectTrain$State" "bleed" "[I", Cond.fieldLink RX0 40 "EffectTrain$State" "scale" "[I", Cond.fieldLink RX0 43 "EffectTrain$State" "scaling" "[I", Cond.fieldLink RX0 46 "EffectTrain$State" "left" "[I", Cond.instanceMethod yX0_pass, Cond.selects RX0 yX0_pass yX0_pass, Cond.code yX0_pass cX0_pass 4 (some .int), Cond.methodLink RX0 68 yX0_beginWashInTurn, Cond.instanceMethod yX0_beginWashInTurn, Cond.selects RX0 yX0_beginWashInTurn yX0_beginWashInTurn, Cond.code yX0_beginWashInTurn cX0_beginWashInTurn 4 none, Cond.methodLink RX0 80 yX0_washedEffects, Cond.instanceMethod yX0_washedEffects, Cond.selects RX0 yX0_washedEffects yX0_washedEffects, Cond.code yX0_washedEffects cX0_washedEffects 3 (some .int), Cond.methodLink RX0 71 yX0_boilAll, Cond.instanceMethod yX0_boilAll, Cond.selects RX0 yX0_boilAll yX0_boilAll, Cond.code yX0_boilAll cX0_boilAll 4 none, Cond.methodLink RX0 84 yX0_boil, Cond.instanceMethod yX0_boil, Cond.selects RX0 yX0_boil yX0_boil, Cond.code yX0_boil cX0_boil 7 (some .int), Cond.methodLink RX0 88 Lib.Math.min.name]
def wsX1_steamFor_r3 : List Cond := [Cond.static Lib.Math.min.name, Cond.initialized "java/lang/Math", Cond.code Lib.Math.min.name Lib.Math.min.code 2 (some .int), Cond.methodLink RX0 61 yX0_thickness, Cond.instanceMethod yX0_thickness, Cond.selects RX0 yX0_thickness yX0_thickness, Cond.code yX0_thickness cX0_thickness 3 (some .int), Cond.methodLink RX0 65 yX0_power, Cond.instanceMethod yX0_power, Cond.selects RX0 yX0_power yX0_power, Cond.code yX0_power cX0_power 3 (some .int), Cond.methodLink RX0 74 yX0_flowOn, Cond.instanceMethod yX0_flowOn, Cond.selects RX0 yX0_flowOn yX0_flowOn, Cond.code yX0_flowOn cX0_flowOn 9 none, Cond.methodLink RX0 93 yX0_effectBehind, Cond.instanceMethod yX0_effectBehind, Cond.selects RX0 yX0_effectBehind yX0_effectBehind, Cond.code yX0_effectBehind cX0_effectBehind 3 (some .int), Cond.methodLink RX0 96 yX0_amount, Cond.instanceMethod yX0_amount, Cond.selects RX0 yX0_amount yX0_amount, Cond.code yX0_amount cX0_amount 2 (some .int), Cond.methodLink RX0 99 yX0_flowFrom]
def wsX1_steamFor_r4 : List Cond := [Cond.instanceMethod yX0_flowFrom, Cond.selects RX0 yX0_flowFrom yX0_flowFrom, Cond.code yX0_flowFrom cX0_flowFrom 4 (some .int), Cond.methodLink RX0 77 yX0_washOn, Cond.instanceMethod yX0_washOn, Cond.selects RX0 yX0_washOn yX0_washOn, Cond.code yX0_washOn cX0_washOn 2 none, Cond.methodLink RX0 102 Lib.Math.max.name, Cond.static Lib.Math.max.name, Cond.code Lib.Math.max.name Lib.Math.max.code 2 (some .int)]
def wsX1_steamFor : List Cond := .code yX1_steamFor cX1_steamFor 4 (some .int) :: ((wsX1_steamFor_r1 ++ (wsX1_steamFor_r2 ++ (wsX1_steamFor_r3 ++ wsX1_steamFor_r4))) ++ wsX10 ++ wsX00 ++ (vx_atS RX1 183 "java/lang/IllegalArgumentException" ["java/lang/RuntimeException", "java/lang/Exception"]).filter goodWord)
def wsX1_withoutLastGroups : List Cond := .code yX1_withoutLastGroups cX1_withoutLastGroups 6 (some .long) :: ([.constantLong RX1 184 (100000)])
def wsX1_runEffectCommand : List Cond := .code yX1_runEffectCommand cX1_runEffectCommand 4 (some .boolean) :: ([.fieldLink RX1 28 "EffectTrain" "trial" "LEffectTrain$State;", .instanceMethod yX0_thickness, .initialized RX0, .selects RX0 yX0_thickness yX0_thickness, .code yX0_thickness cX0_thickness 3 (some .int), .fieldLink RX0 28 "EffectTrain$State" "water" "[I", .fieldLink RX0 31 "EffectTrain$State" "solids" "[I"] ++ wsX10 ++ wsX00)
def wsX1_runCommand_r1 : List Cond := [Cond.fieldLink RX1 28 "EffectTrain" "trial" "LEffectTrain$State;", Cond.fieldLink RX1 88 "EffectTrain" "GREATEST" "[I", Cond.instanceMethod yX0_pass, Cond.initialized RX0, Cond.selects RX0 yX0_pass yX0_pass, Cond.code yX0_pass cX0_pass 4 (some .int), Cond.fieldLink RX0 22 "EffectTrain$State" "counts" "[I", Cond.fieldLink RX0 19 "EffectTrain$State" "clock" "I", Cond.methodLink RX0 68 yX0_beginWashInTurn, Cond.instanceMethod yX0_beginWashInTurn, Cond.selects RX0 yX0_beginWashInTurn yX0_beginWashInTurn, Cond.code yX0_beginWashInTurn cX0_beginWashInTurn 4 none, Cond.fieldLink RX0 15 "EffectTrain$State" "settings" "[I", Cond.fieldLink RX0 9 "EffectTrain$State" "n" "I", Cond.fieldLink RX0 40 "EffectTrain$State" "scale" "[I", Cond.fieldLink RX0 46 "EffectTrain$State" "left" "[I", Cond.methodLink RX0 80 yX0_washedEffects, Cond.instanceMethod yX0_washedEffects, Cond.selects RX0 yX0_washedEffects yX0_washedEffects, Cond.code yX0_washedEffects cX0_washedEffects 3 (some .int), Cond.methodLink RX0 71 yX0_boilAll, Cond.instanceMethod yX0_boilAll, Cond.selects RX0 yX0_boilAll yX0_boilAll, Cond.code yX0_boilAll cX0_boilAll 4 none]
def wsX1_runCommand_r2 : List Cond := [Cond.methodLink RX0 84 yX0_boil, Cond.instanceMethod yX0_boil, Cond.selects RX0 yX0_boil yX0_boil, Cond.code yX0_boil cX0_boil 7 (some .int), Cond.methodLink RX0 88 Lib.Math.min.name, Cond.static Lib.Math.min.name, Cond.initialized "java/lang/Math", Cond.code Lib.Math.min.name Lib.Math.min.code 2 (some .int), Cond.fieldLink RX0 28 "EffectTrain$State" "water" "[I", Cond.fieldLink RX0 37 "EffectTrain$State" "bleed" "[I", Cond.fieldLink RX0 43 "EffectTrain$State" "scaling" "[I", Cond.methodLink RX0 61 yX0_thickness, Cond.instanceMethod yX0_thickness, Cond.selects RX0 yX0_thickness yX0_thickness, Cond.code yX0_thickness cX0_thickness 3 (some .int), Cond.fieldLink RX0 31 "EffectTrain$State" "solids" "[I", Cond.methodLink RX0 65 yX0_power, Cond.instanceMethod yX0_power, Cond.selects RX0 yX0_power yX0_power, Cond.code yX0_power cX0_power 3 (some .int), Cond.fieldLink RX0 25 "EffectTrain$State" "area" "[I", Cond.methodLink RX0 74 yX0_flowOn, Cond.instanceMethod yX0_flowOn, Cond.selects RX0 yX0_flowOn yX0_flowOn]
def wsX1_runCommand_r3 : List Cond := [Cond.code yX0_flowOn cX0_flowOn 9 none, Cond.methodLink RX0 93 yX0_effectBehind, Cond.instanceMethod yX0_effectBehind, Cond.selects RX0 yX0_effectBehind yX0_effectBehind, Cond.code yX0_effectBehind cX0_effectBehind 3 (some .int), Cond.methodLink RX0 96 yX0_amount, Cond.instanceMethod yX0_amount, Cond.selects RX0 yX0_amount yX0_amount, Cond.code yX0_amount cX0_amount 2 (some .int), Cond.methodLink RX0 99 yX0_flowFrom, Cond.instanceMethod yX0_flowFrom, Cond.selects RX0 yX0_flowFrom yX0_flowFrom, Cond.code yX0_flowFrom cX0_flowFrom 4 (some .int), Cond.fieldLink RX0 34 "EffectTrain$State" "valve" "[I", Cond.methodLink RX0 77 yX0_washOn, Cond.instanceMethod yX0_washOn, Cond.selects RX0 yX0_washOn yX0_washOn, Cond.code yX0_washOn cX0_washOn 2 none, Cond.methodLink RX0 102 Lib.Math.max.name, Cond.static Lib.Math.max.name, Cond.code Lib.Math.max.name Lib.Math.max.code 2 (some .int), Cond.methodLink RX1 190 yX1_runEffectCommand, Cond.instanceMethod yX1_runEffectCommand, Cond.selects RX1 yX1_runEffectCommand yX1_runEffectCommand]
def wsX1_runCommand_r4 : List Cond := [Cond.initialized RX1, Cond.code yX1_runEffectCommand cX1_runEffectCommand 4 (some .boolean)]
def wsX1_runCommand : List Cond := .code yX1_runCommand cX1_runCommand 4 (some .boolean) :: ((wsX1_runCommand_r1 ++ (wsX1_runCommand_r2 ++ (wsX1_runCommand_r3 ++ wsX1_runCommand_r4))) ++ wsX10 ++ wsX00)
def wsX1_runScript_r1 : List Cond := [Cond.classLink RX1 179 "java/lang/IllegalArgumentException", Cond.initialized "java/lang/IllegalArgumentException", Cond.fieldLink RX1 28 "EffectTrain" "trial" "LEffectTrain$State;", Cond.fieldLink RX1 24 "EffectTrain" "now" "LEffectTrain$State;", Cond.constantLong RX1 184 (100000), Cond.methodLink RX1 51 yX1_checkRange, Cond.static yX1_checkRange, Cond.initialized RX1, Cond.code yX1_checkRange cX1_checkRange 3 none, Cond.methodLink RX1 175 yX1_withoutLastGroups, Cond.static yX1_withoutLastGroups, Cond.code yX1_withoutLastGroups cX1_withoutLastGroups 6 (some .long), Cond.instanceMethod yX0_copyFrom, Cond.initialized RX0, Cond.selects RX0 yX0_copyFrom yX0_copyFrom, Cond.code yX0_copyFrom cX0_copyFrom 2 none, Cond.fieldLink RX0 9 "EffectTrain$State" "n" "I", Cond.fieldLink RX0 19 "EffectTrain$State" "clock" "I", Cond.fieldLink RX0 15 "EffectTrain$State" "settings" "[I", Cond.methodLink RX0 55 arraycopyName, Cond.native arraycopyName, Cond.static arraycopyName, Cond.initialized "java/lang/System", Cond.fieldLink RX0 22 "EffectTrain$State" "counts" "[I"]
def wsX1_runScript_r2 : List Cond := [Cond.fieldLink RX0 25 "EffectTrain$State" "area" "[I", Cond.fieldLink RX0 28 "EffectTrain$State" "water" "[I", Cond.fieldLink RX0 31 "EffectTrain$State" "solids" "[I", Cond.fieldLink RX0 34 "EffectTrain$State" "valve" "[I", Cond.fieldLink RX0 37 "EffectTrain$State" "bleed" "[I", Cond.fieldLink RX0 40 "EffectTrain$State" "scale" "[I", Cond.fieldLink RX0 43 "EffectTrain$State" "scaling" "[I", Cond.fieldLink RX0 46 "EffectTrain$State" "left" "[I", Cond.methodLink RX1 186 yX1_runCommand, Cond.instanceMethod yX1_runCommand, Cond.selects RX1 yX1_runCommand yX1_runCommand, Cond.code yX1_runCommand cX1_runCommand 4 (some .boolean), Cond.fieldLink RX1 88 "EffectTrain" "GREATEST" "[I", Cond.instanceMethod yX0_pass, Cond.selects RX0 yX0_pass yX0_pass, Cond.code yX0_pass cX0_pass 4 (some .int), Cond.methodLink RX0 68 yX0_beginWashInTurn, Cond.instanceMethod yX0_beginWashInTurn, Cond.selects RX0 yX0_beginWashInTurn yX0_beginWashInTurn, Cond.code yX0_beginWashInTurn cX0_beginWashInTurn 4 none, Cond.methodLink RX0 80 yX0_washedEffects, Cond.instanceMethod yX0_washedEffects, Cond.selects RX0 yX0_washedEffects yX0_washedEffects, Cond.code yX0_washedEffects cX0_washedEffects 3 (some .int)]
def wsX1_runScript_r3 : List Cond := [Cond.methodLink RX0 71 yX0_boilAll, Cond.instanceMethod yX0_boilAll, Cond.selects RX0 yX0_boilAll yX0_boilAll, Cond.code yX0_boilAll cX0_boilAll 4 none, Cond.methodLink RX0 84 yX0_boil, Cond.instanceMethod yX0_boil, Cond.selects RX0 yX0_boil yX0_boil, Cond.code yX0_boil cX0_boil 7 (some .int), Cond.methodLink RX0 88 Lib.Math.min.name, Cond.static Lib.Math.min.name, Cond.initialized "java/lang/Math", Cond.code Lib.Math.min.name Lib.Math.min.code 2 (some .int), Cond.methodLink RX0 61 yX0_thickness, Cond.instanceMethod yX0_thickness, Cond.selects RX0 yX0_thickness yX0_thickness, Cond.code yX0_thickness cX0_thickness 3 (some .int), Cond.methodLink RX0 65 yX0_power, Cond.instanceMethod yX0_power, Cond.selects RX0 yX0_power yX0_power, Cond.code yX0_power cX0_power 3 (some .int), Cond.methodLink RX0 74 yX0_flowOn, Cond.instanceMethod yX0_flowOn, Cond.selects RX0 yX0_flowOn yX0_flowOn, Cond.code yX0_flowOn cX0_flowOn 9 none]
def wsX1_runScript_r4 : List Cond := [Cond.methodLink RX0 93 yX0_effectBehind, Cond.instanceMethod yX0_effectBehind, Cond.selects RX0 yX0_effectBehind yX0_effectBehind, Cond.code yX0_effectBehind cX0_effectBehind 3 (some .int), Cond.methodLink RX0 96 yX0_amount, Cond.instanceMethod yX0_amount, Cond.selects RX0 yX0_amount yX0_amount, Cond.code yX0_amount cX0_amount 2 (some .int), Cond.methodLink RX0 99 yX0_flowFrom, Cond.instanceMethod yX0_flowFrom, Cond.selects RX0 yX0_flowFrom yX0_flowFrom, Cond.code yX0_flowFrom cX0_flowFrom 4 (some .int), Cond.methodLink RX0 77 yX0_washOn, Cond.instanceMethod yX0_washOn, Cond.selects RX0 yX0_washOn yX0_washOn, Cond.code yX0_washOn cX0_washOn 2 none, Cond.methodLink RX0 102 Lib.Math.max.name, Cond.static Lib.Math.max.name, Cond.code Lib.Math.max.name Lib.Math.max.code 2 (some .int), Cond.methodLink RX1 190 yX1_runEffectCommand, Cond.instanceMethod yX1_runEffectCommand, Cond.selects RX1 yX1_runEffectCommand yX1_runEffectCommand, Cond.code yX1_runEffectCommand cX1_runEffectCommand 4 (some .boolean)]
def wsX1_runScript : List Cond := .code yX1_runScript cX1_runScript 6 (some .int) :: ((wsX1_runScript_r1 ++ (wsX1_runScript_r2 ++ (wsX1_runScript_r3 ++ wsX1_runScript_r4))) ++ wsX10 ++ wsX00 ++ (vx_atS RX1 183 "java/lang/IllegalArgumentException" ["java/lang/RuntimeException", "java/lang/Exception"]).filter goodWord)
def wsX1_disturb : List Cond := .code yX1_disturb cX1_disturb 4 none :: ([.fieldLink RX1 28 "EffectTrain" "trial" "LEffectTrain$State;"] ++ wsX10 ++ wsX00)
def wsX1_simulate_r1 : List Cond := [Cond.fieldLink RX1 28 "EffectTrain" "trial" "LEffectTrain$State;", Cond.fieldLink RX1 24 "EffectTrain" "now" "LEffectTrain$State;", Cond.constantLong RX1 197 (6364136223846793005), Cond.constantLong RX1 199 (1442695040888963407), Cond.methodLink RX1 51 yX1_checkRange, Cond.static yX1_checkRange, Cond.initialized RX1, Cond.code yX1_checkRange cX1_checkRange 3 none, Cond.classLink RX1 179 "java/lang/IllegalArgumentException", Cond.initialized "java/lang/IllegalArgumentException", Cond.instanceMethod yX0_copyFrom, Cond.initialized RX0, Cond.selects RX0 yX0_copyFrom yX0_copyFrom, Cond.code yX0_copyFrom cX0_copyFrom 2 none, Cond.fieldLink RX0 9 "EffectTrain$State" "n" "I", Cond.fieldLink RX0 19 "EffectTrain$State" "clock" "I", Cond.fieldLink RX0 15 "EffectTrain$State" "settings" "[I", Cond.methodLink RX0 55 arraycopyName, Cond.native arraycopyName, Cond.static arraycopyName, Cond.initialized "java/lang/System", Cond.fieldLink RX0 22 "EffectTrain$State" "counts" "[I", Cond.fieldLink RX0 25 "EffectTrain$State" "area" "[I", Cond.fieldLink RX0 28 "EffectTrain$State" "water" "[I"]
def wsX1_simulate_r2 : List Cond := [Cond.fieldLink RX0 31 "EffectTrain$State" "solids" "[I", Cond.fieldLink RX0 34 "EffectTrain$State" "valve" "[I", Cond.fieldLink RX0 37 "EffectTrain$State" "bleed" "[I", Cond.fieldLink RX0 40 "EffectTrain$State" "scale" "[I", Cond.fieldLink RX0 43 "EffectTrain$State" "scaling" "[I", Cond.fieldLink RX0 46 "EffectTrain$State" "left" "[I", Cond.methodLink RX1 201 yX1_disturb, Cond.instanceMethod yX1_disturb, Cond.selects RX1 yX1_disturb yX1_disturb, Cond.code yX1_disturb cX1_disturb 4 none, Cond.instanceMethod yX0_pass, Cond.selects RX0 yX0_pass yX0_pass, Cond.code yX0_pass cX0_pass 4 (some .int), Cond.methodLink RX0 68 yX0_beginWashInTurn, Cond.instanceMethod yX0_beginWashInTurn, Cond.selects RX0 yX0_beginWashInTurn yX0_beginWashInTurn, Cond.code yX0_beginWashInTurn cX0_beginWashInTurn 4 none, Cond.methodLink RX0 80 yX0_washedEffects, Cond.instanceMethod yX0_washedEffects, Cond.selects RX0 yX0_washedEffects yX0_washedEffects, Cond.code yX0_washedEffects cX0_washedEffects 3 (some .int), Cond.methodLink RX0 71 yX0_boilAll, Cond.instanceMethod yX0_boilAll, Cond.selects RX0 yX0_boilAll yX0_boilAll]
def wsX1_simulate_r3 : List Cond := [Cond.code yX0_boilAll cX0_boilAll 4 none, Cond.methodLink RX0 84 yX0_boil, Cond.instanceMethod yX0_boil, Cond.selects RX0 yX0_boil yX0_boil, Cond.code yX0_boil cX0_boil 7 (some .int), Cond.methodLink RX0 88 Lib.Math.min.name, Cond.static Lib.Math.min.name, Cond.initialized "java/lang/Math", Cond.code Lib.Math.min.name Lib.Math.min.code 2 (some .int), Cond.methodLink RX0 61 yX0_thickness, Cond.instanceMethod yX0_thickness, Cond.selects RX0 yX0_thickness yX0_thickness, Cond.code yX0_thickness cX0_thickness 3 (some .int), Cond.methodLink RX0 65 yX0_power, Cond.instanceMethod yX0_power, Cond.selects RX0 yX0_power yX0_power, Cond.code yX0_power cX0_power 3 (some .int), Cond.methodLink RX0 74 yX0_flowOn, Cond.instanceMethod yX0_flowOn, Cond.selects RX0 yX0_flowOn yX0_flowOn, Cond.code yX0_flowOn cX0_flowOn 9 none, Cond.methodLink RX0 93 yX0_effectBehind, Cond.instanceMethod yX0_effectBehind, Cond.selects RX0 yX0_effectBehind yX0_effectBehind]
def wsX1_simulate_r4 : List Cond := [Cond.code yX0_effectBehind cX0_effectBehind 3 (some .int), Cond.methodLink RX0 96 yX0_amount, Cond.instanceMethod yX0_amount, Cond.selects RX0 yX0_amount yX0_amount, Cond.code yX0_amount cX0_amount 2 (some .int), Cond.methodLink RX0 99 yX0_flowFrom, Cond.instanceMethod yX0_flowFrom, Cond.selects RX0 yX0_flowFrom yX0_flowFrom, Cond.code yX0_flowFrom cX0_flowFrom 4 (some .int), Cond.methodLink RX0 77 yX0_washOn, Cond.instanceMethod yX0_washOn, Cond.selects RX0 yX0_washOn yX0_washOn, Cond.code yX0_washOn cX0_washOn 2 none, Cond.methodLink RX0 102 Lib.Math.max.name, Cond.static Lib.Math.max.name, Cond.code Lib.Math.max.name Lib.Math.max.code 2 (some .int)]
def wsX1_simulate : List Cond := .code yX1_simulate cX1_simulate 8 (some .int) :: ((wsX1_simulate_r1 ++ (wsX1_simulate_r2 ++ (wsX1_simulate_r3 ++ wsX1_simulate_r4))) ++ wsX10 ++ wsX00 ++ (vx_atS RX1 183 "java/lang/IllegalArgumentException" ["java/lang/RuntimeException", "java/lang/Exception"]).filter goodWord)
def wsX1_checkSlot : List Cond := .code yX1_checkSlot cX1_checkSlot 1 none :: ([.classLink RX1 211 "java/lang/IndexOutOfBoundsException", .initialized "java/lang/IndexOutOfBoundsException"] ++ (vx_atS RX1 215 "java/lang/IndexOutOfBoundsException" ["java/lang/RuntimeException", "java/lang/Exception"]).filter goodWord)
def wsX1_save_r1 : List Cond := [Cond.fieldLink RX1 44 "EffectTrain" "slots" "[LEffectTrain$State;", Cond.fieldLink RX1 24 "EffectTrain" "now" "LEffectTrain$State;", Cond.fieldLink RX1 47 "EffectTrain" "slotFilled" "[Z", Cond.methodLink RX1 204 yX1_checkSlot, Cond.static yX1_checkSlot, Cond.initialized RX1, Cond.code yX1_checkSlot cX1_checkSlot 1 none, Cond.classLink RX1 211 "java/lang/IndexOutOfBoundsException", Cond.initialized "java/lang/IndexOutOfBoundsException", Cond.methodLink RX1 151 yX1_stateAt, Cond.static yX1_stateAt, Cond.code yX1_stateAt cX1_stateAt 3 (some (.object "EffectTrain$State")), Cond.classLink RX1 21 RX0, Cond.instantiable RX0 12, Cond.initialized RX0, Cond.instanceMethod yX0_init, Cond.code yX0_init cX0_init 1 none, Cond.methodLink RX0 3 objectInit, Cond.instanceMethod objectInit, Cond.code objectInit ⟨#[0xb1]⟩ 1 none, Cond.fieldLink RX0 9 "EffectTrain$State" "n" "I", Cond.arrayClass .int, Cond.fieldLink RX0 15 "EffectTrain$State" "settings" "[I", Cond.fieldLink RX0 19 "EffectTrain$State" "clock" "I"]
def wsX1_save_r2 : List Cond := [Cond.fieldLink RX0 22 "EffectTrain$State" "counts" "[I", Cond.fieldLink RX0 25 "EffectTrain$State" "area" "[I", Cond.fieldLink RX0 28 "EffectTrain$State" "water" "[I", Cond.fieldLink RX0 31 "EffectTrain$State" "solids" "[I", Cond.fieldLink RX0 34 "EffectTrain$State" "valve" "[I", Cond.fieldLink RX0 37 "EffectTrain$State" "bleed" "[I", Cond.fieldLink RX0 40 "EffectTrain$State" "scale" "[I", Cond.fieldLink RX0 43 "EffectTrain$State" "scaling" "[I", Cond.fieldLink RX0 46 "EffectTrain$State" "left" "[I", Cond.methodLink RX0 49 yJ7_fill_53178, Cond.static yJ7_fill_53178, Cond.initialized RJ7, Cond.code yJ7_fill_53178 cJ7_fill_53178 4 none, Cond.instanceMethod yX0_copyFrom, Cond.selects RX0 yX0_copyFrom yX0_copyFrom, Cond.code yX0_copyFrom cX0_copyFrom 2 none, Cond.methodLink RX0 55 arraycopyName, Cond.native arraycopyName, Cond.static arraycopyName, Cond.initialized "java/lang/System"]
def wsX1_save : List Cond := .code yX1_save cX1_save 2 (some .int) :: ((wsX1_save_r1 ++ wsX1_save_r2) ++ wsX10 ++ wsX00 ++ (vx_atS RX1 215 "java/lang/IndexOutOfBoundsException" ["java/lang/RuntimeException", "java/lang/Exception"]).filter goodWord)
def wsX1_restore_r1 : List Cond := [Cond.classLink RX1 55 "java/lang/IllegalStateException", Cond.initialized "java/lang/IllegalStateException", Cond.fieldLink RX1 47 "EffectTrain" "slotFilled" "[Z", Cond.fieldLink RX1 24 "EffectTrain" "now" "LEffectTrain$State;", Cond.fieldLink RX1 44 "EffectTrain" "slots" "[LEffectTrain$State;", Cond.fieldLink RX1 41 "EffectTrain" "rememberedCount" "I", Cond.methodLink RX1 204 yX1_checkSlot, Cond.static yX1_checkSlot, Cond.initialized RX1, Cond.code yX1_checkSlot cX1_checkSlot 1 none, Cond.classLink RX1 211 "java/lang/IndexOutOfBoundsException", Cond.initialized "java/lang/IndexOutOfBoundsException", Cond.methodLink RX1 151 yX1_stateAt, Cond.static yX1_stateAt, Cond.code yX1_stateAt cX1_stateAt 3 (some (.object "EffectTrain$State")), Cond.classLink RX1 21 RX0, Cond.instantiable RX0 12, Cond.initialized RX0, Cond.instanceMethod yX0_init, Cond.code yX0_init cX0_init 1 none, Cond.methodLink RX0 3 objectInit, Cond.instanceMethod objectInit, Cond.code objectInit ⟨#[0xb1]⟩ 1 none, Cond.fieldLink RX0 9 "EffectTrain$State" "n" "I"]
def wsX1_restore_r2 : List Cond := [Cond.arrayClass .int, Cond.fieldLink RX0 15 "EffectTrain$State" "settings" "[I", Cond.fieldLink RX0 19 "EffectTrain$State" "clock" "I", Cond.fieldLink RX0 22 "EffectTrain$State" "counts" "[I", Cond.fieldLink RX0 25 "EffectTrain$State" "area" "[I", Cond.fieldLink RX0 28 "EffectTrain$State" "water" "[I", Cond.fieldLink RX0 31 "EffectTrain$State" "solids" "[I", Cond.fieldLink RX0 34 "EffectTrain$State" "valve" "[I", Cond.fieldLink RX0 37 "EffectTrain$State" "bleed" "[I", Cond.fieldLink RX0 40 "EffectTrain$State" "scale" "[I", Cond.fieldLink RX0 43 "EffectTrain$State" "scaling" "[I", Cond.fieldLink RX0 46 "EffectTrain$State" "left" "[I", Cond.methodLink RX0 49 yJ7_fill_53178, Cond.static yJ7_fill_53178, Cond.initialized RJ7, Cond.code yJ7_fill_53178 cJ7_fill_53178 4 none, Cond.instanceMethod yX0_copyFrom, Cond.selects RX0 yX0_copyFrom yX0_copyFrom, Cond.code yX0_copyFrom cX0_copyFrom 2 none, Cond.methodLink RX0 55 arraycopyName, Cond.native arraycopyName, Cond.static arraycopyName, Cond.initialized "java/lang/System"]
def wsX1_restore : List Cond := .code yX1_restore cX1_restore 2 (some .int) :: ((wsX1_restore_r1 ++ wsX1_restore_r2) ++ wsX10 ++ wsX00 ++ (vx_atS RX1 59 "java/lang/IllegalStateException" ["java/lang/RuntimeException", "java/lang/Exception"]).filter goodWord ++ (vx_atS RX1 215 "java/lang/IndexOutOfBoundsException" ["java/lang/RuntimeException", "java/lang/Exception"]).filter goodWord)
def wsX2_init : List Cond := .code yX2_init cX2_init 2 none :: ([.methodLink RX2 1 objectInit, .instanceMethod objectInit, .code objectInit ⟨#[0xb1]⟩ 1 none, .arrayClass .int, .fieldLink RX2 7 "EffectTrainModel" "script" "[I", .fieldLink RX2 13 "EffectTrainModel" "readRow" "[I", .fieldLink RX2 16 "EffectTrainModel" "now" "[I", .fieldLink RX2 19 "EffectTrainModel" "trial" "[I", .fieldLink RX2 22 "EffectTrainModel" "diary" "[I", .fieldLink RX2 25 "EffectTrainModel" "kept" "[I", .arrayClass .boolean, .fieldLink RX2 28 "EffectTrainModel" "isKept" "[Z", .fieldLink RX2 32 "EffectTrainModel" "flow" "[I", .fieldLink RX2 35 "EffectTrainModel" "salt" "[I", .fieldLink RX2 38 "EffectTrainModel" "n" "I"] ++ wsX20)
def wsX2_thrown : List Cond := .code yX2_thrown cX2_thrown 1 (some .int) :: ([.fieldLink RX2 42 "EffectTrainModel" "refusal" "I"] ++ wsX20)
def wsX2_refused : List Cond := .code yX2_refused cX2_refused 2 (some .boolean) :: ([.fieldLink RX2 42 "EffectTrainModel" "refusal" "I"] ++ wsX20)
def wsX2_in : List Cond := .code yX2_in cX2_in 6 (some .boolean) :: ([])
def wsX2_copy : List Cond := .code yX2_copy cX2_copy 6 none :: ([])
def wsX2_tenTo : List Cond := .code yX2_tenTo cX2_tenTo 4 (some .long) :: ([.constantLong RX2 45 (10)])
def wsX2_less : List Cond := .code yX2_less cX2_less 2 (some .int) :: ([])
def wsX2_note : List Cond := .code yX2_note cX2_note 1 none :: ([.fieldLink RX2 47 "EffectTrainModel" "acts" "I", .fieldLink RX2 22 "EffectTrainModel" "diary" "[I", .fieldLink RX2 16 "EffectTrainModel" "now" "[I", .methodLink RX2 50 yX2_copy, .static yX2_copy, .initialized RX2, .code yX2_copy cX2_copy 6 none] ++ wsX20)
def wsX2_isEffect : List Cond := .code yX2_isEffect cX2_isEffect 2 (some .boolean) :: ([.fieldLink RX2 38 "EffectTrainModel" "n" "I", .methodLink RX2 54 yX2_in, .static yX2_in, .initialized RX2, .code yX2_in cX2_in 6 (some .boolean)] ++ wsX20)
def wsX2_amount : List Cond := .code yX2_amount cX2_amount 2 (some .int) :: ([])
def wsX2_thickness : List Cond := .code yX2_thickness cX2_thickness 2 (some .int) :: ([.methodLink RX2 58 yX2_amount, .static yX2_amount, .initialized RX2, .code yX2_amount cX2_amount 2 (some .int)])
def wsX2_power : List Cond := .code yX2_power cX2_power 2 (some .int) :: ([])
def wsX2_works : List Cond := .code yX2_works cX2_works 2 (some .boolean) :: ([])
def wsX2_before : List Cond := .code yX2_before cX2_before 3 (some .int) :: ([.methodLink RX2 62 yX2_works, .static yX2_works, .initialized RX2, .code yX2_works cX2_works 2 (some .boolean)])
def wsX2_behind : List Cond := .code yX2_behind cX2_behind 4 (some .int) :: ([.fieldLink RX2 38 "EffectTrainModel" "n" "I", .methodLink RX2 62 yX2_works, .static yX2_works, .initialized RX2, .code yX2_works cX2_works 2 (some .boolean)] ++ wsX20)
def wsX2_washed : List Cond := .code yX2_washed cX2_washed 4 (some .int) :: ([.fieldLink RX2 38 "EffectTrainModel" "n" "I", .methodLink RX2 62 yX2_works, .static yX2_works, .initialized RX2, .code yX2_works cX2_works 2 (some .boolean)] ++ wsX20)
def wsX2_boil : List Cond := .code yX2_boil cX2_boil 7 none :: ([.fieldLink RX2 38 "EffectTrainModel" "n" "I", .methodLink RX2 66 yX2_washed, .instanceMethod yX2_washed, .selects RX2 yX2_washed yX2_washed, .initialized RX2, .code yX2_washed cX2_washed 4 (some .int), .methodLink RX2 62 yX2_works, .static yX2_works, .code yX2_works cX2_works 2 (some .boolean), .methodLink RX2 77 yX2_thickness, .static yX2_thickness, .code yX2_thickness cX2_thickness 2 (some .int), .methodLink RX2 58 yX2_amount, .static yX2_amount, .code yX2_amount cX2_amount 2 (some .int), .methodLink RX2 80 yX2_power, .static yX2_power, .code yX2_power cX2_power 2 (some .int), .methodLink RX2 83 yX2_less, .static yX2_less, .code yX2_less cX2_less 2 (some .int)] ++ wsX20)
def wsX2_go : List Cond := .code yX2_go cX2_go 8 none :: ([.fieldLink RX2 38 "EffectTrainModel" "n" "I", .fieldLink RX2 32 "EffectTrainModel" "flow" "[I", .fieldLink RX2 35 "EffectTrainModel" "salt" "[I", .methodLink RX2 87 yX2_behind, .instanceMethod yX2_behind, .selects RX2 yX2_behind yX2_behind, .initialized RX2, .code yX2_behind cX2_behind 4 (some .int), .methodLink RX2 62 yX2_works, .static yX2_works, .code yX2_works cX2_works 2 (some .boolean), .methodLink RX2 58 yX2_amount, .static yX2_amount, .code yX2_amount cX2_amount 2 (some .int), .methodLink RX2 83 yX2_less, .static yX2_less, .code yX2_less cX2_less 2 (some .int)] ++ wsX20)
def wsX2_tickOn_r1 : List Cond := [Cond.fieldLink RX2 38 "EffectTrainModel" "n" "I", Cond.methodLink RX2 66 yX2_washed, Cond.instanceMethod yX2_washed, Cond.selects RX2 yX2_washed yX2_washed, Cond.initialized RX2, Cond.code yX2_washed cX2_washed 4 (some .int), Cond.methodLink RX2 62 yX2_works, Cond.static yX2_works, Cond.code yX2_works cX2_works 2 (some .boolean), Cond.methodLink RX2 70 yX2_boil, Cond.instanceMethod yX2_boil, Cond.selects RX2 yX2_boil yX2_boil, Cond.code yX2_boil cX2_boil 7 none, Cond.methodLink RX2 77 yX2_thickness, Cond.static yX2_thickness, Cond.code yX2_thickness cX2_thickness 2 (some .int), Cond.methodLink RX2 58 yX2_amount, Cond.static yX2_amount, Cond.code yX2_amount cX2_amount 2 (some .int), Cond.methodLink RX2 80 yX2_power, Cond.static yX2_power, Cond.code yX2_power cX2_power 2 (some .int), Cond.methodLink RX2 83 yX2_less, Cond.static yX2_less]
def wsX2_tickOn_r2 : List Cond := [Cond.code yX2_less cX2_less 2 (some .int), Cond.methodLink RX2 74 yX2_go, Cond.instanceMethod yX2_go, Cond.selects RX2 yX2_go yX2_go, Cond.code yX2_go cX2_go 8 none, Cond.fieldLink RX2 32 "EffectTrainModel" "flow" "[I", Cond.fieldLink RX2 35 "EffectTrainModel" "salt" "[I", Cond.methodLink RX2 87 yX2_behind, Cond.instanceMethod yX2_behind, Cond.selects RX2 yX2_behind yX2_behind, Cond.code yX2_behind cX2_behind 4 (some .int)]
def wsX2_tickOn : List Cond := .code yX2_tickOn cX2_tickOn 4 none :: ((wsX2_tickOn_r1 ++ wsX2_tickOn_r2) ++ wsX20)
def wsX2_ticksOn_r1 : List Cond := [Cond.methodLink RX2 90 yX2_tickOn, Cond.instanceMethod yX2_tickOn, Cond.selects RX2 yX2_tickOn yX2_tickOn, Cond.initialized RX2, Cond.code yX2_tickOn cX2_tickOn 4 none, Cond.fieldLink RX2 38 "EffectTrainModel" "n" "I", Cond.methodLink RX2 66 yX2_washed, Cond.instanceMethod yX2_washed, Cond.selects RX2 yX2_washed yX2_washed, Cond.code yX2_washed cX2_washed 4 (some .int), Cond.methodLink RX2 62 yX2_works, Cond.static yX2_works, Cond.code yX2_works cX2_works 2 (some .boolean), Cond.methodLink RX2 70 yX2_boil, Cond.instanceMethod yX2_boil, Cond.selects RX2 yX2_boil yX2_boil, Cond.code yX2_boil cX2_boil 7 none, Cond.methodLink RX2 77 yX2_thickness, Cond.static yX2_thickness, Cond.code yX2_thickness cX2_thickness 2 (some .int), Cond.methodLink RX2 58 yX2_amount, Cond.static yX2_amount, Cond.code yX2_amount cX2_amount 2 (some .int), Cond.methodLink RX2 80 yX2_power]
def wsX2_ticksOn_r2 : List Cond := [Cond.static yX2_power, Cond.code yX2_power cX2_power 2 (some .int), Cond.methodLink RX2 83 yX2_less, Cond.static yX2_less, Cond.code yX2_less cX2_less 2 (some .int), Cond.methodLink RX2 74 yX2_go, Cond.instanceMethod yX2_go, Cond.selects RX2 yX2_go yX2_go, Cond.code yX2_go cX2_go 8 none, Cond.fieldLink RX2 32 "EffectTrainModel" "flow" "[I", Cond.fieldLink RX2 35 "EffectTrainModel" "salt" "[I", Cond.methodLink RX2 87 yX2_behind, Cond.instanceMethod yX2_behind, Cond.selects RX2 yX2_behind yX2_behind, Cond.code yX2_behind cX2_behind 4 (some .int)]
def wsX2_ticksOn : List Cond := .code yX2_ticksOn cX2_ticksOn 5 (some .int) :: ((wsX2_ticksOn_r1 ++ wsX2_ticksOn_r2) ++ wsX20)
def wsX2_append : List Cond := .code yX2_append cX2_append 2 (some .int) :: ([.constantLong RX2 93 (255), .fieldLink RX2 95 "EffectTrainModel" "scriptSize" "I", .fieldLink RX2 7 "EffectTrainModel" "script" "[I", .methodLink RX2 54 yX2_in, .static yX2_in, .initialized RX2, .code yX2_in cX2_in 6 (some .boolean), .methodLink RX2 98 yX2_refused, .instanceMethod yX2_refused, .selects RX2 yX2_refused yX2_refused, .code yX2_refused cX2_refused 2 (some .boolean), .fieldLink RX2 42 "EffectTrainModel" "refusal" "I"] ++ wsX20)
def wsX2_clearText : List Cond := .code yX2_clearText cX2_clearText 2 (some .int) :: ([.fieldLink RX2 42 "EffectTrainModel" "refusal" "I", .fieldLink RX2 95 "EffectTrainModel" "scriptSize" "I"] ++ wsX20)
def wsX2_number : List Cond := .code yX2_number cX2_number 9 (some .int) :: ([.fieldLink RX2 102 "EffectTrainModel" "spot" "I", .fieldLink RX2 95 "EffectTrainModel" "scriptSize" "I", .fieldLink RX2 7 "EffectTrainModel" "script" "[I", .constantLong RX2 109 (9), .methodLink RX2 105 yX2_tenTo, .static yX2_tenTo, .initialized RX2, .code yX2_tenTo cX2_tenTo 4 (some .long), .constantLong RX2 45 (10), .methodLink RX2 54 yX2_in, .static yX2_in, .code yX2_in cX2_in 6 (some .boolean)] ++ wsX20)
def wsX2_readEffect : List Cond := .code yX2_readEffect cX2_readEffect 4 (some .int) :: ([.fieldLink RX2 13 "EffectTrainModel" "readRow" "[I", .methodLink RX2 111 yX2_number, .instanceMethod yX2_number, .selects RX2 yX2_number yX2_number, .initialized RX2, .code yX2_number cX2_number 9 (some .int), .fieldLink RX2 102 "EffectTrainModel" "spot" "I", .fieldLink RX2 95 "EffectTrainModel" "scriptSize" "I", .fieldLink RX2 7 "EffectTrainModel" "script" "[I", .constantLong RX2 109 (9), .methodLink RX2 105 yX2_tenTo, .static yX2_tenTo, .code yX2_tenTo cX2_tenTo 4 (some .long), .constantLong RX2 45 (10), .methodLink RX2 54 yX2_in, .static yX2_in, .code yX2_in cX2_in 6 (some .boolean)] ++ wsX20)
def wsX2_readText : List Cond := .code yX2_readText cX2_readText 3 (some .int) :: ([.fieldLink RX2 13 "EffectTrainModel" "readRow" "[I", .fieldLink RX2 102 "EffectTrainModel" "spot" "I", .fieldLink RX2 95 "EffectTrainModel" "scriptSize" "I", .fieldLink RX2 7 "EffectTrainModel" "script" "[I", .fieldLink RX2 115 "EffectTrainModel" "readN" "I", .methodLink RX2 111 yX2_number, .instanceMethod yX2_number, .selects RX2 yX2_number yX2_number, .initialized RX2, .code yX2_number cX2_number 9 (some .int), .constantLong RX2 109 (9), .methodLink RX2 105 yX2_tenTo, .static yX2_tenTo, .code yX2_tenTo cX2_tenTo 4 (some .long), .constantLong RX2 45 (10), .methodLink RX2 54 yX2_in, .static yX2_in, .code yX2_in cX2_in 6 (some .boolean), .methodLink RX2 118 yX2_readEffect, .instanceMethod yX2_readEffect, .selects RX2 yX2_readEffect yX2_readEffect, .code yX2_readEffect cX2_readEffect 4 (some .int)] ++ wsX20)
def wsX2_errorPosition_r1 : List Cond := [Cond.fieldLink RX2 42 "EffectTrainModel" "refusal" "I", Cond.methodLink RX2 122 yX2_readText, Cond.instanceMethod yX2_readText, Cond.selects RX2 yX2_readText yX2_readText, Cond.initialized RX2, Cond.code yX2_readText cX2_readText 3 (some .int), Cond.fieldLink RX2 13 "EffectTrainModel" "readRow" "[I", Cond.fieldLink RX2 102 "EffectTrainModel" "spot" "I", Cond.fieldLink RX2 95 "EffectTrainModel" "scriptSize" "I", Cond.fieldLink RX2 7 "EffectTrainModel" "script" "[I", Cond.fieldLink RX2 115 "EffectTrainModel" "readN" "I", Cond.methodLink RX2 111 yX2_number, Cond.instanceMethod yX2_number, Cond.selects RX2 yX2_number yX2_number, Cond.code yX2_number cX2_number 9 (some .int), Cond.constantLong RX2 109 (9), Cond.methodLink RX2 105 yX2_tenTo, Cond.static yX2_tenTo, Cond.code yX2_tenTo cX2_tenTo 4 (some .long), Cond.constantLong RX2 45 (10), Cond.methodLink RX2 54 yX2_in, Cond.static yX2_in, Cond.code yX2_in cX2_in 6 (some .boolean), Cond.methodLink RX2 118 yX2_readEffect]
def wsX2_errorPosition_r2 : List Cond := [Cond.instanceMethod yX2_readEffect, Cond.selects RX2 yX2_readEffect yX2_readEffect, Cond.code yX2_readEffect cX2_readEffect 4 (some .int)]
def wsX2_errorPosition : List Cond := .code yX2_errorPosition cX2_errorPosition 1 (some .int) :: ((wsX2_errorPosition_r1 ++ wsX2_errorPosition_r2) ++ wsX20)
def wsX2_sumOf : List Cond := .code yX2_sumOf cX2_sumOf 5 (some .int) :: ([.fieldLink RX2 38 "EffectTrainModel" "n" "I"] ++ wsX20)
def wsX2_load_r1 : List Cond := [Cond.fieldLink RX2 115 "EffectTrainModel" "readN" "I", Cond.fieldLink RX2 38 "EffectTrainModel" "n" "I", Cond.fieldLink RX2 13 "EffectTrainModel" "readRow" "[I", Cond.fieldLink RX2 16 "EffectTrainModel" "now" "[I", Cond.fieldLink RX2 47 "EffectTrainModel" "acts" "I", Cond.fieldLink RX2 28 "EffectTrainModel" "isKept" "[Z", Cond.methodLink RX2 122 yX2_readText, Cond.instanceMethod yX2_readText, Cond.selects RX2 yX2_readText yX2_readText, Cond.initialized RX2, Cond.code yX2_readText cX2_readText 3 (some .int), Cond.fieldLink RX2 102 "EffectTrainModel" "spot" "I", Cond.fieldLink RX2 95 "EffectTrainModel" "scriptSize" "I", Cond.fieldLink RX2 7 "EffectTrainModel" "script" "[I", Cond.methodLink RX2 111 yX2_number, Cond.instanceMethod yX2_number, Cond.selects RX2 yX2_number yX2_number, Cond.code yX2_number cX2_number 9 (some .int), Cond.constantLong RX2 109 (9), Cond.methodLink RX2 105 yX2_tenTo, Cond.static yX2_tenTo, Cond.code yX2_tenTo cX2_tenTo 4 (some .long), Cond.constantLong RX2 45 (10), Cond.methodLink RX2 54 yX2_in]
def wsX2_load_r2 : List Cond := [Cond.static yX2_in, Cond.code yX2_in cX2_in 6 (some .boolean), Cond.methodLink RX2 118 yX2_readEffect, Cond.instanceMethod yX2_readEffect, Cond.selects RX2 yX2_readEffect yX2_readEffect, Cond.code yX2_readEffect cX2_readEffect 4 (some .int), Cond.methodLink RX2 98 yX2_refused, Cond.instanceMethod yX2_refused, Cond.selects RX2 yX2_refused yX2_refused, Cond.code yX2_refused cX2_refused 2 (some .boolean), Cond.fieldLink RX2 42 "EffectTrainModel" "refusal" "I", Cond.methodLink RX2 50 yX2_copy, Cond.static yX2_copy, Cond.code yX2_copy cX2_copy 6 none, Cond.methodLink RX2 126 yX2_sumOf, Cond.instanceMethod yX2_sumOf, Cond.selects RX2 yX2_sumOf yX2_sumOf, Cond.code yX2_sumOf cX2_sumOf 5 (some .int)]
def wsX2_load : List Cond := .code yX2_load cX2_load 1 (some .int) :: ((wsX2_load_r1 ++ wsX2_load_r2) ++ wsX20)
def wsX2_about : List Cond := .code yX2_about cX2_about 2 (some .int) :: ([.constantLong RX2 109 (9), .fieldLink RX2 38 "EffectTrainModel" "n" "I", .fieldLink RX2 16 "EffectTrainModel" "now" "[I", .methodLink RX2 54 yX2_in, .static yX2_in, .initialized RX2, .code yX2_in cX2_in 6 (some .boolean), .methodLink RX2 98 yX2_refused, .instanceMethod yX2_refused, .selects RX2 yX2_refused yX2_refused, .code yX2_refused cX2_refused 2 (some .boolean), .fieldLink RX2 42 "EffectTrainModel" "refusal" "I", .methodLink RX2 66 yX2_washed, .instanceMethod yX2_washed, .selects RX2 yX2_washed yX2_washed, .code yX2_washed cX2_washed 4 (some .int), .methodLink RX2 62 yX2_works, .static yX2_works, .code yX2_works cX2_works 2 (some .boolean), .methodLink RX2 126 yX2_sumOf, .instanceMethod yX2_sumOf, .selects RX2 yX2_sumOf yX2_sumOf, .code yX2_sumOf cX2_sumOf 5 (some .int)] ++ wsX20)
def wsX2_total : List Cond := .code yX2_total cX2_total 2 (some .int) :: ([.constantLong RX2 109 (9), .fieldLink RX2 16 "EffectTrainModel" "now" "[I", .methodLink RX2 54 yX2_in, .static yX2_in, .initialized RX2, .code yX2_in cX2_in 6 (some .boolean), .methodLink RX2 98 yX2_refused, .instanceMethod yX2_refused, .selects RX2 yX2_refused yX2_refused, .code yX2_refused cX2_refused 2 (some .boolean), .fieldLink RX2 42 "EffectTrainModel" "refusal" "I"] ++ wsX20)
def wsX2_detail : List Cond := .code yX2_detail cX2_detail 3 (some .int) :: ([.methodLink RX2 77 yX2_thickness, .static yX2_thickness, .initialized RX2, .code yX2_thickness cX2_thickness 2 (some .int), .methodLink RX2 58 yX2_amount, .static yX2_amount, .code yX2_amount cX2_amount 2 (some .int), .methodLink RX2 80 yX2_power, .static yX2_power, .code yX2_power cX2_power 2 (some .int)])
def wsX2_effect_r1 : List Cond := [Cond.constantLong RX2 109 (9), Cond.fieldLink RX2 16 "EffectTrainModel" "now" "[I", Cond.methodLink RX2 129 yX2_isEffect, Cond.instanceMethod yX2_isEffect, Cond.selects RX2 yX2_isEffect yX2_isEffect, Cond.initialized RX2, Cond.code yX2_isEffect cX2_isEffect 2 (some .boolean), Cond.fieldLink RX2 38 "EffectTrainModel" "n" "I", Cond.methodLink RX2 54 yX2_in, Cond.static yX2_in, Cond.code yX2_in cX2_in 6 (some .boolean), Cond.methodLink RX2 98 yX2_refused, Cond.instanceMethod yX2_refused, Cond.selects RX2 yX2_refused yX2_refused, Cond.code yX2_refused cX2_refused 2 (some .boolean), Cond.fieldLink RX2 42 "EffectTrainModel" "refusal" "I", Cond.methodLink RX2 132 yX2_detail, Cond.static yX2_detail, Cond.code yX2_detail cX2_detail 3 (some .int), Cond.methodLink RX2 77 yX2_thickness, Cond.static yX2_thickness, Cond.code yX2_thickness cX2_thickness 2 (some .int), Cond.methodLink RX2 58 yX2_amount, Cond.static yX2_amount]
def wsX2_effect_r2 : List Cond := [Cond.code yX2_amount cX2_amount 2 (some .int), Cond.methodLink RX2 80 yX2_power, Cond.static yX2_power, Cond.code yX2_power cX2_power 2 (some .int)]
def wsX2_effect : List Cond := .code yX2_effect cX2_effect 3 (some .int) :: ((wsX2_effect_r1 ++ wsX2_effect_r2) ++ wsX20)
def wsX2_neighbor_r1 : List Cond := [Cond.fieldLink RX2 16 "EffectTrainModel" "now" "[I", Cond.methodLink RX2 129 yX2_isEffect, Cond.instanceMethod yX2_isEffect, Cond.selects RX2 yX2_isEffect yX2_isEffect, Cond.initialized RX2, Cond.code yX2_isEffect cX2_isEffect 2 (some .boolean), Cond.fieldLink RX2 38 "EffectTrainModel" "n" "I", Cond.methodLink RX2 54 yX2_in, Cond.static yX2_in, Cond.code yX2_in cX2_in 6 (some .boolean), Cond.methodLink RX2 98 yX2_refused, Cond.instanceMethod yX2_refused, Cond.selects RX2 yX2_refused yX2_refused, Cond.code yX2_refused cX2_refused 2 (some .boolean), Cond.fieldLink RX2 42 "EffectTrainModel" "refusal" "I", Cond.methodLink RX2 87 yX2_behind, Cond.instanceMethod yX2_behind, Cond.selects RX2 yX2_behind yX2_behind, Cond.code yX2_behind cX2_behind 4 (some .int), Cond.methodLink RX2 62 yX2_works, Cond.static yX2_works, Cond.code yX2_works cX2_works 2 (some .boolean), Cond.methodLink RX2 136 yX2_before, Cond.static yX2_before]
def wsX2_neighbor_r2 : List Cond := [Cond.code yX2_before cX2_before 3 (some .int)]
def wsX2_neighbor : List Cond := .code yX2_neighbor cX2_neighbor 3 (some .int) :: ((wsX2_neighbor_r1 ++ wsX2_neighbor_r2) ++ wsX20)
def wsX2_economy : List Cond := .code yX2_economy cX2_economy 1 (some .float) :: ([.fieldLink RX2 42 "EffectTrainModel" "refusal" "I", .fieldLink RX2 16 "EffectTrainModel" "now" "[I"] ++ wsX20)
def wsX2_share : List Cond := .code yX2_share cX2_share 2 (some .float) :: ([.fieldLink RX2 16 "EffectTrainModel" "now" "[I", .methodLink RX2 129 yX2_isEffect, .instanceMethod yX2_isEffect, .selects RX2 yX2_isEffect yX2_isEffect, .initialized RX2, .code yX2_isEffect cX2_isEffect 2 (some .boolean), .fieldLink RX2 38 "EffectTrainModel" "n" "I", .methodLink RX2 54 yX2_in, .static yX2_in, .code yX2_in cX2_in 6 (some .boolean), .methodLink RX2 98 yX2_refused, .instanceMethod yX2_refused, .selects RX2 yX2_refused yX2_refused, .code yX2_refused cX2_refused 2 (some .boolean), .fieldLink RX2 42 "EffectTrainModel" "refusal" "I", .methodLink RX2 58 yX2_amount, .static yX2_amount, .code yX2_amount cX2_amount 2 (some .int)] ++ wsX20)
def wsX2_tick_r1 : List Cond := [Cond.constantLong RX2 139 (99), Cond.fieldLink RX2 16 "EffectTrainModel" "now" "[I", Cond.methodLink RX2 54 yX2_in, Cond.static yX2_in, Cond.initialized RX2, Cond.code yX2_in cX2_in 6 (some .boolean), Cond.methodLink RX2 98 yX2_refused, Cond.instanceMethod yX2_refused, Cond.selects RX2 yX2_refused yX2_refused, Cond.code yX2_refused cX2_refused 2 (some .boolean), Cond.fieldLink RX2 42 "EffectTrainModel" "refusal" "I", Cond.methodLink RX2 141 yX2_note, Cond.instanceMethod yX2_note, Cond.selects RX2 yX2_note yX2_note, Cond.code yX2_note cX2_note 1 none, Cond.fieldLink RX2 47 "EffectTrainModel" "acts" "I", Cond.fieldLink RX2 22 "EffectTrainModel" "diary" "[I", Cond.methodLink RX2 50 yX2_copy, Cond.static yX2_copy, Cond.code yX2_copy cX2_copy 6 none, Cond.methodLink RX2 144 yX2_ticksOn, Cond.instanceMethod yX2_ticksOn, Cond.selects RX2 yX2_ticksOn yX2_ticksOn, Cond.code yX2_ticksOn cX2_ticksOn 5 (some .int)]
def wsX2_tick_r2 : List Cond := [Cond.methodLink RX2 90 yX2_tickOn, Cond.instanceMethod yX2_tickOn, Cond.selects RX2 yX2_tickOn yX2_tickOn, Cond.code yX2_tickOn cX2_tickOn 4 none, Cond.fieldLink RX2 38 "EffectTrainModel" "n" "I", Cond.methodLink RX2 66 yX2_washed, Cond.instanceMethod yX2_washed, Cond.selects RX2 yX2_washed yX2_washed, Cond.code yX2_washed cX2_washed 4 (some .int), Cond.methodLink RX2 62 yX2_works, Cond.static yX2_works, Cond.code yX2_works cX2_works 2 (some .boolean), Cond.methodLink RX2 70 yX2_boil, Cond.instanceMethod yX2_boil, Cond.selects RX2 yX2_boil yX2_boil, Cond.code yX2_boil cX2_boil 7 none, Cond.methodLink RX2 77 yX2_thickness, Cond.static yX2_thickness, Cond.code yX2_thickness cX2_thickness 2 (some .int), Cond.methodLink RX2 58 yX2_amount, Cond.static yX2_amount, Cond.code yX2_amount cX2_amount 2 (some .int), Cond.methodLink RX2 80 yX2_power, Cond.static yX2_power]
def wsX2_tick_r3 : List Cond := [Cond.code yX2_power cX2_power 2 (some .int), Cond.methodLink RX2 83 yX2_less, Cond.static yX2_less, Cond.code yX2_less cX2_less 2 (some .int), Cond.methodLink RX2 74 yX2_go, Cond.instanceMethod yX2_go, Cond.selects RX2 yX2_go yX2_go, Cond.code yX2_go cX2_go 8 none, Cond.fieldLink RX2 32 "EffectTrainModel" "flow" "[I", Cond.fieldLink RX2 35 "EffectTrainModel" "salt" "[I", Cond.methodLink RX2 87 yX2_behind, Cond.instanceMethod yX2_behind, Cond.selects RX2 yX2_behind yX2_behind, Cond.code yX2_behind cX2_behind 4 (some .int)]
def wsX2_tick : List Cond := .code yX2_tick cX2_tick 2 (some .int) :: ((wsX2_tick_r1 ++ (wsX2_tick_r2 ++ wsX2_tick_r3)) ++ wsX20)
def wsX2_set : List Cond := .code yX2_set cX2_set 5 (some .int) :: ([.constantLong RX2 147 (999), .constantLong RX2 139 (99), .constantLong RX2 149 (20), .constantLong RX2 151 (4), .fieldLink RX2 16 "EffectTrainModel" "now" "[I", .methodLink RX2 54 yX2_in, .static yX2_in, .initialized RX2, .code yX2_in cX2_in 6 (some .boolean), .methodLink RX2 98 yX2_refused, .instanceMethod yX2_refused, .selects RX2 yX2_refused yX2_refused, .code yX2_refused cX2_refused 2 (some .boolean), .fieldLink RX2 42 "EffectTrainModel" "refusal" "I", .methodLink RX2 141 yX2_note, .instanceMethod yX2_note, .selects RX2 yX2_note yX2_note, .code yX2_note cX2_note 1 none, .fieldLink RX2 47 "EffectTrainModel" "acts" "I", .fieldLink RX2 22 "EffectTrainModel" "diary" "[I", .methodLink RX2 50 yX2_copy, .static yX2_copy, .code yX2_copy cX2_copy 6 none] ++ wsX20)
def wsX2_change : List Cond := .code yX2_change cX2_change 4 (some .int) :: ([.fieldLink RX2 16 "EffectTrainModel" "now" "[I", .methodLink RX2 141 yX2_note, .instanceMethod yX2_note, .selects RX2 yX2_note yX2_note, .initialized RX2, .code yX2_note cX2_note 1 none, .fieldLink RX2 47 "EffectTrainModel" "acts" "I", .fieldLink RX2 22 "EffectTrainModel" "diary" "[I", .methodLink RX2 50 yX2_copy, .static yX2_copy, .code yX2_copy cX2_copy 6 none] ++ wsX20)
def wsX2_setValve_r1 : List Cond := [Cond.constantLong RX2 147 (999), Cond.methodLink RX2 129 yX2_isEffect, Cond.instanceMethod yX2_isEffect, Cond.selects RX2 yX2_isEffect yX2_isEffect, Cond.initialized RX2, Cond.code yX2_isEffect cX2_isEffect 2 (some .boolean), Cond.fieldLink RX2 38 "EffectTrainModel" "n" "I", Cond.methodLink RX2 54 yX2_in, Cond.static yX2_in, Cond.code yX2_in cX2_in 6 (some .boolean), Cond.methodLink RX2 98 yX2_refused, Cond.instanceMethod yX2_refused, Cond.selects RX2 yX2_refused yX2_refused, Cond.code yX2_refused cX2_refused 2 (some .boolean), Cond.fieldLink RX2 42 "EffectTrainModel" "refusal" "I", Cond.methodLink RX2 153 yX2_change, Cond.instanceMethod yX2_change, Cond.selects RX2 yX2_change yX2_change, Cond.code yX2_change cX2_change 4 (some .int), Cond.fieldLink RX2 16 "EffectTrainModel" "now" "[I", Cond.methodLink RX2 141 yX2_note, Cond.instanceMethod yX2_note, Cond.selects RX2 yX2_note yX2_note, Cond.code yX2_note cX2_note 1 none]
def wsX2_setValve_r2 : List Cond := [Cond.fieldLink RX2 47 "EffectTrainModel" "acts" "I", Cond.fieldLink RX2 22 "EffectTrainModel" "diary" "[I", Cond.methodLink RX2 50 yX2_copy, Cond.static yX2_copy, Cond.code yX2_copy cX2_copy 6 none]
def wsX2_setValve : List Cond := .code yX2_setValve cX2_setValve 3 (some .int) :: ((wsX2_setValve_r1 ++ wsX2_setValve_r2) ++ wsX20)
def wsX2_setBleed_r1 : List Cond := [Cond.constantLong RX2 156 (90), Cond.methodLink RX2 129 yX2_isEffect, Cond.instanceMethod yX2_isEffect, Cond.selects RX2 yX2_isEffect yX2_isEffect, Cond.initialized RX2, Cond.code yX2_isEffect cX2_isEffect 2 (some .boolean), Cond.fieldLink RX2 38 "EffectTrainModel" "n" "I", Cond.methodLink RX2 54 yX2_in, Cond.static yX2_in, Cond.code yX2_in cX2_in 6 (some .boolean), Cond.methodLink RX2 98 yX2_refused, Cond.instanceMethod yX2_refused, Cond.selects RX2 yX2_refused yX2_refused, Cond.code yX2_refused cX2_refused 2 (some .boolean), Cond.fieldLink RX2 42 "EffectTrainModel" "refusal" "I", Cond.methodLink RX2 153 yX2_change, Cond.instanceMethod yX2_change, Cond.selects RX2 yX2_change yX2_change, Cond.code yX2_change cX2_change 4 (some .int), Cond.fieldLink RX2 16 "EffectTrainModel" "now" "[I", Cond.methodLink RX2 141 yX2_note, Cond.instanceMethod yX2_note, Cond.selects RX2 yX2_note yX2_note, Cond.code yX2_note cX2_note 1 none]
def wsX2_setBleed_r2 : List Cond := [Cond.fieldLink RX2 47 "EffectTrainModel" "acts" "I", Cond.fieldLink RX2 22 "EffectTrainModel" "diary" "[I", Cond.methodLink RX2 50 yX2_copy, Cond.static yX2_copy, Cond.code yX2_copy cX2_copy 6 none]
def wsX2_setBleed : List Cond := .code yX2_setBleed cX2_setBleed 3 (some .int) :: ((wsX2_setBleed_r1 ++ wsX2_setBleed_r2) ++ wsX20)
def wsX2_wash_r1 : List Cond := [Cond.constantLong RX2 149 (20), Cond.fieldLink RX2 16 "EffectTrainModel" "now" "[I", Cond.methodLink RX2 129 yX2_isEffect, Cond.instanceMethod yX2_isEffect, Cond.selects RX2 yX2_isEffect yX2_isEffect, Cond.initialized RX2, Cond.code yX2_isEffect cX2_isEffect 2 (some .boolean), Cond.fieldLink RX2 38 "EffectTrainModel" "n" "I", Cond.methodLink RX2 54 yX2_in, Cond.static yX2_in, Cond.code yX2_in cX2_in 6 (some .boolean), Cond.methodLink RX2 62 yX2_works, Cond.static yX2_works, Cond.code yX2_works cX2_works 2 (some .boolean), Cond.methodLink RX2 98 yX2_refused, Cond.instanceMethod yX2_refused, Cond.selects RX2 yX2_refused yX2_refused, Cond.code yX2_refused cX2_refused 2 (some .boolean), Cond.fieldLink RX2 42 "EffectTrainModel" "refusal" "I", Cond.methodLink RX2 153 yX2_change, Cond.instanceMethod yX2_change, Cond.selects RX2 yX2_change yX2_change, Cond.code yX2_change cX2_change 4 (some .int), Cond.methodLink RX2 141 yX2_note]
def wsX2_wash_r2 : List Cond := [Cond.instanceMethod yX2_note, Cond.selects RX2 yX2_note yX2_note, Cond.code yX2_note cX2_note 1 none, Cond.fieldLink RX2 47 "EffectTrainModel" "acts" "I", Cond.fieldLink RX2 22 "EffectTrainModel" "diary" "[I", Cond.methodLink RX2 50 yX2_copy, Cond.static yX2_copy, Cond.code yX2_copy cX2_copy 6 none, Cond.methodLink RX2 66 yX2_washed, Cond.instanceMethod yX2_washed, Cond.selects RX2 yX2_washed yX2_washed, Cond.code yX2_washed cX2_washed 4 (some .int)]
def wsX2_wash : List Cond := .code yX2_wash cX2_wash 3 (some .int) :: ((wsX2_wash_r1 ++ wsX2_wash_r2) ++ wsX20)
def wsX2_endWash_r1 : List Cond := [Cond.fieldLink RX2 16 "EffectTrainModel" "now" "[I", Cond.methodLink RX2 129 yX2_isEffect, Cond.instanceMethod yX2_isEffect, Cond.selects RX2 yX2_isEffect yX2_isEffect, Cond.initialized RX2, Cond.code yX2_isEffect cX2_isEffect 2 (some .boolean), Cond.fieldLink RX2 38 "EffectTrainModel" "n" "I", Cond.methodLink RX2 54 yX2_in, Cond.static yX2_in, Cond.code yX2_in cX2_in 6 (some .boolean), Cond.methodLink RX2 62 yX2_works, Cond.static yX2_works, Cond.code yX2_works cX2_works 2 (some .boolean), Cond.methodLink RX2 98 yX2_refused, Cond.instanceMethod yX2_refused, Cond.selects RX2 yX2_refused yX2_refused, Cond.code yX2_refused cX2_refused 2 (some .boolean), Cond.fieldLink RX2 42 "EffectTrainModel" "refusal" "I", Cond.methodLink RX2 153 yX2_change, Cond.instanceMethod yX2_change, Cond.selects RX2 yX2_change yX2_change, Cond.code yX2_change cX2_change 4 (some .int), Cond.methodLink RX2 141 yX2_note, Cond.instanceMethod yX2_note]
def wsX2_endWash_r2 : List Cond := [Cond.selects RX2 yX2_note yX2_note, Cond.code yX2_note cX2_note 1 none, Cond.fieldLink RX2 47 "EffectTrainModel" "acts" "I", Cond.fieldLink RX2 22 "EffectTrainModel" "diary" "[I", Cond.methodLink RX2 50 yX2_copy, Cond.static yX2_copy, Cond.code yX2_copy cX2_copy 6 none]
def wsX2_endWash : List Cond := .code yX2_endWash cX2_endWash 2 (some .int) :: ((wsX2_endWash_r1 ++ wsX2_endWash_r2) ++ wsX20)
def wsX2_undo : List Cond := .code yX2_undo cX2_undo 1 (some .int) :: ([.fieldLink RX2 47 "EffectTrainModel" "acts" "I", .fieldLink RX2 22 "EffectTrainModel" "diary" "[I", .fieldLink RX2 16 "EffectTrainModel" "now" "[I", .methodLink RX2 98 yX2_refused, .instanceMethod yX2_refused, .selects RX2 yX2_refused yX2_refused, .initialized RX2, .code yX2_refused cX2_refused 2 (some .boolean), .fieldLink RX2 42 "EffectTrainModel" "refusal" "I", .methodLink RX2 50 yX2_copy, .static yX2_copy, .code yX2_copy cX2_copy 6 none] ++ wsX20)
def wsX2_ahead_r1 : List Cond := [Cond.constantLong RX2 139 (99), Cond.constantLong RX2 109 (9), Cond.fieldLink RX2 16 "EffectTrainModel" "now" "[I", Cond.fieldLink RX2 19 "EffectTrainModel" "trial" "[I", Cond.methodLink RX2 129 yX2_isEffect, Cond.instanceMethod yX2_isEffect, Cond.selects RX2 yX2_isEffect yX2_isEffect, Cond.initialized RX2, Cond.code yX2_isEffect cX2_isEffect 2 (some .boolean), Cond.fieldLink RX2 38 "EffectTrainModel" "n" "I", Cond.methodLink RX2 54 yX2_in, Cond.static yX2_in, Cond.code yX2_in cX2_in 6 (some .boolean), Cond.methodLink RX2 98 yX2_refused, Cond.instanceMethod yX2_refused, Cond.selects RX2 yX2_refused yX2_refused, Cond.code yX2_refused cX2_refused 2 (some .boolean), Cond.fieldLink RX2 42 "EffectTrainModel" "refusal" "I", Cond.methodLink RX2 50 yX2_copy, Cond.static yX2_copy, Cond.code yX2_copy cX2_copy 6 none, Cond.methodLink RX2 144 yX2_ticksOn, Cond.instanceMethod yX2_ticksOn, Cond.selects RX2 yX2_ticksOn yX2_ticksOn]
def wsX2_ahead_r2 : List Cond := [Cond.code yX2_ticksOn cX2_ticksOn 5 (some .int), Cond.methodLink RX2 90 yX2_tickOn, Cond.instanceMethod yX2_tickOn, Cond.selects RX2 yX2_tickOn yX2_tickOn, Cond.code yX2_tickOn cX2_tickOn 4 none, Cond.methodLink RX2 66 yX2_washed, Cond.instanceMethod yX2_washed, Cond.selects RX2 yX2_washed yX2_washed, Cond.code yX2_washed cX2_washed 4 (some .int), Cond.methodLink RX2 62 yX2_works, Cond.static yX2_works, Cond.code yX2_works cX2_works 2 (some .boolean), Cond.methodLink RX2 70 yX2_boil, Cond.instanceMethod yX2_boil, Cond.selects RX2 yX2_boil yX2_boil, Cond.code yX2_boil cX2_boil 7 none, Cond.methodLink RX2 77 yX2_thickness, Cond.static yX2_thickness, Cond.code yX2_thickness cX2_thickness 2 (some .int), Cond.methodLink RX2 58 yX2_amount, Cond.static yX2_amount, Cond.code yX2_amount cX2_amount 2 (some .int), Cond.methodLink RX2 80 yX2_power, Cond.static yX2_power]
def wsX2_ahead_r3 : List Cond := [Cond.code yX2_power cX2_power 2 (some .int), Cond.methodLink RX2 83 yX2_less, Cond.static yX2_less, Cond.code yX2_less cX2_less 2 (some .int), Cond.methodLink RX2 74 yX2_go, Cond.instanceMethod yX2_go, Cond.selects RX2 yX2_go yX2_go, Cond.code yX2_go cX2_go 8 none, Cond.fieldLink RX2 32 "EffectTrainModel" "flow" "[I", Cond.fieldLink RX2 35 "EffectTrainModel" "salt" "[I", Cond.methodLink RX2 87 yX2_behind, Cond.instanceMethod yX2_behind, Cond.selects RX2 yX2_behind yX2_behind, Cond.code yX2_behind cX2_behind 4 (some .int), Cond.methodLink RX2 132 yX2_detail, Cond.static yX2_detail, Cond.code yX2_detail cX2_detail 3 (some .int)]
def wsX2_ahead : List Cond := .code yX2_ahead cX2_ahead 4 (some .int) :: ((wsX2_ahead_r1 ++ (wsX2_ahead_r2 ++ wsX2_ahead_r3)) ++ wsX20)
def wsX2_growth_r1 : List Cond := [Cond.constantLong RX2 139 (99), Cond.constantLong RX2 109 (9), Cond.fieldLink RX2 16 "EffectTrainModel" "now" "[I", Cond.fieldLink RX2 19 "EffectTrainModel" "trial" "[I", Cond.methodLink RX2 54 yX2_in, Cond.static yX2_in, Cond.initialized RX2, Cond.code yX2_in cX2_in 6 (some .boolean), Cond.methodLink RX2 98 yX2_refused, Cond.instanceMethod yX2_refused, Cond.selects RX2 yX2_refused yX2_refused, Cond.code yX2_refused cX2_refused 2 (some .boolean), Cond.fieldLink RX2 42 "EffectTrainModel" "refusal" "I", Cond.methodLink RX2 50 yX2_copy, Cond.static yX2_copy, Cond.code yX2_copy cX2_copy 6 none, Cond.methodLink RX2 144 yX2_ticksOn, Cond.instanceMethod yX2_ticksOn, Cond.selects RX2 yX2_ticksOn yX2_ticksOn, Cond.code yX2_ticksOn cX2_ticksOn 5 (some .int), Cond.methodLink RX2 90 yX2_tickOn, Cond.instanceMethod yX2_tickOn, Cond.selects RX2 yX2_tickOn yX2_tickOn, Cond.code yX2_tickOn cX2_tickOn 4 none]
def wsX2_growth_r2 : List Cond := [Cond.fieldLink RX2 38 "EffectTrainModel" "n" "I", Cond.methodLink RX2 66 yX2_washed, Cond.instanceMethod yX2_washed, Cond.selects RX2 yX2_washed yX2_washed, Cond.code yX2_washed cX2_washed 4 (some .int), Cond.methodLink RX2 62 yX2_works, Cond.static yX2_works, Cond.code yX2_works cX2_works 2 (some .boolean), Cond.methodLink RX2 70 yX2_boil, Cond.instanceMethod yX2_boil, Cond.selects RX2 yX2_boil yX2_boil, Cond.code yX2_boil cX2_boil 7 none, Cond.methodLink RX2 77 yX2_thickness, Cond.static yX2_thickness, Cond.code yX2_thickness cX2_thickness 2 (some .int), Cond.methodLink RX2 58 yX2_amount, Cond.static yX2_amount, Cond.code yX2_amount cX2_amount 2 (some .int), Cond.methodLink RX2 80 yX2_power, Cond.static yX2_power, Cond.code yX2_power cX2_power 2 (some .int), Cond.methodLink RX2 83 yX2_less, Cond.static yX2_less, Cond.code yX2_less cX2_less 2 (some .int)]
def wsX2_growth_r3 : List Cond := [Cond.methodLink RX2 74 yX2_go, Cond.instanceMethod yX2_go, Cond.selects RX2 yX2_go yX2_go, Cond.code yX2_go cX2_go 8 none, Cond.fieldLink RX2 32 "EffectTrainModel" "flow" "[I", Cond.fieldLink RX2 35 "EffectTrainModel" "salt" "[I", Cond.methodLink RX2 87 yX2_behind, Cond.instanceMethod yX2_behind, Cond.selects RX2 yX2_behind yX2_behind, Cond.code yX2_behind cX2_behind 4 (some .int)]
def wsX2_growth : List Cond := .code yX2_growth cX2_growth 3 (some .int) :: ((wsX2_growth_r1 ++ (wsX2_growth_r2 ++ wsX2_growth_r3)) ++ wsX20)
def wsX2_washGain_r1 : List Cond := [Cond.constantLong RX2 149 (20), Cond.constantLong RX2 139 (99), Cond.fieldLink RX2 16 "EffectTrainModel" "now" "[I", Cond.fieldLink RX2 19 "EffectTrainModel" "trial" "[I", Cond.methodLink RX2 129 yX2_isEffect, Cond.instanceMethod yX2_isEffect, Cond.selects RX2 yX2_isEffect yX2_isEffect, Cond.initialized RX2, Cond.code yX2_isEffect cX2_isEffect 2 (some .boolean), Cond.fieldLink RX2 38 "EffectTrainModel" "n" "I", Cond.methodLink RX2 54 yX2_in, Cond.static yX2_in, Cond.code yX2_in cX2_in 6 (some .boolean), Cond.methodLink RX2 62 yX2_works, Cond.static yX2_works, Cond.code yX2_works cX2_works 2 (some .boolean), Cond.methodLink RX2 98 yX2_refused, Cond.instanceMethod yX2_refused, Cond.selects RX2 yX2_refused yX2_refused, Cond.code yX2_refused cX2_refused 2 (some .boolean), Cond.fieldLink RX2 42 "EffectTrainModel" "refusal" "I", Cond.methodLink RX2 50 yX2_copy, Cond.static yX2_copy, Cond.code yX2_copy cX2_copy 6 none]
def wsX2_washGain_r2 : List Cond := [Cond.methodLink RX2 144 yX2_ticksOn, Cond.instanceMethod yX2_ticksOn, Cond.selects RX2 yX2_ticksOn yX2_ticksOn, Cond.code yX2_ticksOn cX2_ticksOn 5 (some .int), Cond.methodLink RX2 90 yX2_tickOn, Cond.instanceMethod yX2_tickOn, Cond.selects RX2 yX2_tickOn yX2_tickOn, Cond.code yX2_tickOn cX2_tickOn 4 none, Cond.methodLink RX2 66 yX2_washed, Cond.instanceMethod yX2_washed, Cond.selects RX2 yX2_washed yX2_washed, Cond.code yX2_washed cX2_washed 4 (some .int), Cond.methodLink RX2 70 yX2_boil, Cond.instanceMethod yX2_boil, Cond.selects RX2 yX2_boil yX2_boil, Cond.code yX2_boil cX2_boil 7 none, Cond.methodLink RX2 77 yX2_thickness, Cond.static yX2_thickness, Cond.code yX2_thickness cX2_thickness 2 (some .int), Cond.methodLink RX2 58 yX2_amount, Cond.static yX2_amount, Cond.code yX2_amount cX2_amount 2 (some .int), Cond.methodLink RX2 80 yX2_power, Cond.static yX2_power]
def wsX2_washGain_r3 : List Cond := [Cond.code yX2_power cX2_power 2 (some .int), Cond.methodLink RX2 83 yX2_less, Cond.static yX2_less, Cond.code yX2_less cX2_less 2 (some .int), Cond.methodLink RX2 74 yX2_go, Cond.instanceMethod yX2_go, Cond.selects RX2 yX2_go yX2_go, Cond.code yX2_go cX2_go 8 none, Cond.fieldLink RX2 32 "EffectTrainModel" "flow" "[I", Cond.fieldLink RX2 35 "EffectTrainModel" "salt" "[I", Cond.methodLink RX2 87 yX2_behind, Cond.instanceMethod yX2_behind, Cond.selects RX2 yX2_behind yX2_behind, Cond.code yX2_behind cX2_behind 4 (some .int)]
def wsX2_washGain : List Cond := .code yX2_washGain cX2_washGain 5 (some .int) :: ((wsX2_washGain_r1 ++ (wsX2_washGain_r2 ++ wsX2_washGain_r3)) ++ wsX20)
def wsX2_turns_r1 : List Cond := [Cond.fieldLink RX2 16 "EffectTrainModel" "now" "[I", Cond.fieldLink RX2 19 "EffectTrainModel" "trial" "[I", Cond.fieldLink RX2 38 "EffectTrainModel" "n" "I", Cond.methodLink RX2 50 yX2_copy, Cond.static yX2_copy, Cond.initialized RX2, Cond.code yX2_copy cX2_copy 6 none, Cond.methodLink RX2 62 yX2_works, Cond.static yX2_works, Cond.code yX2_works cX2_works 2 (some .boolean), Cond.methodLink RX2 144 yX2_ticksOn, Cond.instanceMethod yX2_ticksOn, Cond.selects RX2 yX2_ticksOn yX2_ticksOn, Cond.code yX2_ticksOn cX2_ticksOn 5 (some .int), Cond.methodLink RX2 90 yX2_tickOn, Cond.instanceMethod yX2_tickOn, Cond.selects RX2 yX2_tickOn yX2_tickOn, Cond.code yX2_tickOn cX2_tickOn 4 none, Cond.methodLink RX2 66 yX2_washed, Cond.instanceMethod yX2_washed, Cond.selects RX2 yX2_washed yX2_washed, Cond.code yX2_washed cX2_washed 4 (some .int), Cond.methodLink RX2 70 yX2_boil, Cond.instanceMethod yX2_boil]
def wsX2_turns_r2 : List Cond := [Cond.selects RX2 yX2_boil yX2_boil, Cond.code yX2_boil cX2_boil 7 none, Cond.methodLink RX2 77 yX2_thickness, Cond.static yX2_thickness, Cond.code yX2_thickness cX2_thickness 2 (some .int), Cond.methodLink RX2 58 yX2_amount, Cond.static yX2_amount, Cond.code yX2_amount cX2_amount 2 (some .int), Cond.methodLink RX2 80 yX2_power, Cond.static yX2_power, Cond.code yX2_power cX2_power 2 (some .int), Cond.methodLink RX2 83 yX2_less, Cond.static yX2_less, Cond.code yX2_less cX2_less 2 (some .int), Cond.methodLink RX2 74 yX2_go, Cond.instanceMethod yX2_go, Cond.selects RX2 yX2_go yX2_go, Cond.code yX2_go cX2_go 8 none, Cond.fieldLink RX2 32 "EffectTrainModel" "flow" "[I", Cond.fieldLink RX2 35 "EffectTrainModel" "salt" "[I", Cond.methodLink RX2 87 yX2_behind, Cond.instanceMethod yX2_behind, Cond.selects RX2 yX2_behind yX2_behind, Cond.code yX2_behind cX2_behind 4 (some .int)]
def wsX2_turns : List Cond := .code yX2_turns cX2_turns 7 (some .int) :: ((wsX2_turns_r1 ++ wsX2_turns_r2) ++ wsX20)
def wsX2_bestTurns_r1 : List Cond := [Cond.constantLong RX2 158 (3), Cond.fieldLink RX2 38 "EffectTrainModel" "n" "I", Cond.methodLink RX2 54 yX2_in, Cond.static yX2_in, Cond.initialized RX2, Cond.code yX2_in cX2_in 6 (some .boolean), Cond.methodLink RX2 98 yX2_refused, Cond.instanceMethod yX2_refused, Cond.selects RX2 yX2_refused yX2_refused, Cond.code yX2_refused cX2_refused 2 (some .boolean), Cond.fieldLink RX2 42 "EffectTrainModel" "refusal" "I", Cond.methodLink RX2 160 yX2_turns, Cond.instanceMethod yX2_turns, Cond.selects RX2 yX2_turns yX2_turns, Cond.code yX2_turns cX2_turns 7 (some .int), Cond.fieldLink RX2 16 "EffectTrainModel" "now" "[I", Cond.fieldLink RX2 19 "EffectTrainModel" "trial" "[I", Cond.methodLink RX2 50 yX2_copy, Cond.static yX2_copy, Cond.code yX2_copy cX2_copy 6 none, Cond.methodLink RX2 62 yX2_works, Cond.static yX2_works, Cond.code yX2_works cX2_works 2 (some .boolean), Cond.methodLink RX2 144 yX2_ticksOn]
def wsX2_bestTurns_r2 : List Cond := [Cond.instanceMethod yX2_ticksOn, Cond.selects RX2 yX2_ticksOn yX2_ticksOn, Cond.code yX2_ticksOn cX2_ticksOn 5 (some .int), Cond.methodLink RX2 90 yX2_tickOn, Cond.instanceMethod yX2_tickOn, Cond.selects RX2 yX2_tickOn yX2_tickOn, Cond.code yX2_tickOn cX2_tickOn 4 none, Cond.methodLink RX2 66 yX2_washed, Cond.instanceMethod yX2_washed, Cond.selects RX2 yX2_washed yX2_washed, Cond.code yX2_washed cX2_washed 4 (some .int), Cond.methodLink RX2 70 yX2_boil, Cond.instanceMethod yX2_boil, Cond.selects RX2 yX2_boil yX2_boil, Cond.code yX2_boil cX2_boil 7 none, Cond.methodLink RX2 77 yX2_thickness, Cond.static yX2_thickness, Cond.code yX2_thickness cX2_thickness 2 (some .int), Cond.methodLink RX2 58 yX2_amount, Cond.static yX2_amount, Cond.code yX2_amount cX2_amount 2 (some .int), Cond.methodLink RX2 80 yX2_power, Cond.static yX2_power, Cond.code yX2_power cX2_power 2 (some .int)]
def wsX2_bestTurns_r3 : List Cond := [Cond.methodLink RX2 83 yX2_less, Cond.static yX2_less, Cond.code yX2_less cX2_less 2 (some .int), Cond.methodLink RX2 74 yX2_go, Cond.instanceMethod yX2_go, Cond.selects RX2 yX2_go yX2_go, Cond.code yX2_go cX2_go 8 none, Cond.fieldLink RX2 32 "EffectTrainModel" "flow" "[I", Cond.fieldLink RX2 35 "EffectTrainModel" "salt" "[I", Cond.methodLink RX2 87 yX2_behind, Cond.instanceMethod yX2_behind, Cond.selects RX2 yX2_behind yX2_behind, Cond.code yX2_behind cX2_behind 4 (some .int)]
def wsX2_bestTurns : List Cond := .code yX2_bestTurns cX2_bestTurns 8 (some .int) :: ((wsX2_bestTurns_r1 ++ (wsX2_bestTurns_r2 ++ wsX2_bestTurns_r3)) ++ wsX20)
def wsX2_scaledAfter_r1 : List Cond := [Cond.constantLong RX2 139 (99), Cond.fieldLink RX2 16 "EffectTrainModel" "now" "[I", Cond.fieldLink RX2 19 "EffectTrainModel" "trial" "[I", Cond.methodLink RX2 129 yX2_isEffect, Cond.instanceMethod yX2_isEffect, Cond.selects RX2 yX2_isEffect yX2_isEffect, Cond.initialized RX2, Cond.code yX2_isEffect cX2_isEffect 2 (some .boolean), Cond.fieldLink RX2 38 "EffectTrainModel" "n" "I", Cond.methodLink RX2 54 yX2_in, Cond.static yX2_in, Cond.code yX2_in cX2_in 6 (some .boolean), Cond.methodLink RX2 98 yX2_refused, Cond.instanceMethod yX2_refused, Cond.selects RX2 yX2_refused yX2_refused, Cond.code yX2_refused cX2_refused 2 (some .boolean), Cond.fieldLink RX2 42 "EffectTrainModel" "refusal" "I", Cond.methodLink RX2 50 yX2_copy, Cond.static yX2_copy, Cond.code yX2_copy cX2_copy 6 none, Cond.methodLink RX2 90 yX2_tickOn, Cond.instanceMethod yX2_tickOn, Cond.selects RX2 yX2_tickOn yX2_tickOn, Cond.code yX2_tickOn cX2_tickOn 4 none]
def wsX2_scaledAfter_r2 : List Cond := [Cond.methodLink RX2 66 yX2_washed, Cond.instanceMethod yX2_washed, Cond.selects RX2 yX2_washed yX2_washed, Cond.code yX2_washed cX2_washed 4 (some .int), Cond.methodLink RX2 62 yX2_works, Cond.static yX2_works, Cond.code yX2_works cX2_works 2 (some .boolean), Cond.methodLink RX2 70 yX2_boil, Cond.instanceMethod yX2_boil, Cond.selects RX2 yX2_boil yX2_boil, Cond.code yX2_boil cX2_boil 7 none, Cond.methodLink RX2 77 yX2_thickness, Cond.static yX2_thickness, Cond.code yX2_thickness cX2_thickness 2 (some .int), Cond.methodLink RX2 58 yX2_amount, Cond.static yX2_amount, Cond.code yX2_amount cX2_amount 2 (some .int), Cond.methodLink RX2 80 yX2_power, Cond.static yX2_power, Cond.code yX2_power cX2_power 2 (some .int), Cond.methodLink RX2 83 yX2_less, Cond.static yX2_less, Cond.code yX2_less cX2_less 2 (some .int), Cond.methodLink RX2 74 yX2_go]
def wsX2_scaledAfter_r3 : List Cond := [Cond.instanceMethod yX2_go, Cond.selects RX2 yX2_go yX2_go, Cond.code yX2_go cX2_go 8 none, Cond.fieldLink RX2 32 "EffectTrainModel" "flow" "[I", Cond.fieldLink RX2 35 "EffectTrainModel" "salt" "[I", Cond.methodLink RX2 87 yX2_behind, Cond.instanceMethod yX2_behind, Cond.selects RX2 yX2_behind yX2_behind, Cond.code yX2_behind cX2_behind 4 (some .int)]
def wsX2_scaledAfter : List Cond := .code yX2_scaledAfter cX2_scaledAfter 4 (some .int) :: ((wsX2_scaledAfter_r1 ++ (wsX2_scaledAfter_r2 ++ wsX2_scaledAfter_r3)) ++ wsX20)
def wsX2_steamFor_r1 : List Cond := [Cond.constantLong RX2 163 (9999), Cond.constantLong RX2 149 (20), Cond.fieldLink RX2 16 "EffectTrainModel" "now" "[I", Cond.fieldLink RX2 19 "EffectTrainModel" "trial" "[I", Cond.methodLink RX2 54 yX2_in, Cond.static yX2_in, Cond.initialized RX2, Cond.code yX2_in cX2_in 6 (some .boolean), Cond.methodLink RX2 98 yX2_refused, Cond.instanceMethod yX2_refused, Cond.selects RX2 yX2_refused yX2_refused, Cond.code yX2_refused cX2_refused 2 (some .boolean), Cond.fieldLink RX2 42 "EffectTrainModel" "refusal" "I", Cond.methodLink RX2 50 yX2_copy, Cond.static yX2_copy, Cond.code yX2_copy cX2_copy 6 none, Cond.methodLink RX2 144 yX2_ticksOn, Cond.instanceMethod yX2_ticksOn, Cond.selects RX2 yX2_ticksOn yX2_ticksOn, Cond.code yX2_ticksOn cX2_ticksOn 5 (some .int), Cond.methodLink RX2 90 yX2_tickOn, Cond.instanceMethod yX2_tickOn, Cond.selects RX2 yX2_tickOn yX2_tickOn, Cond.code yX2_tickOn cX2_tickOn 4 none]
def wsX2_steamFor_r2 : List Cond := [Cond.fieldLink RX2 38 "EffectTrainModel" "n" "I", Cond.methodLink RX2 66 yX2_washed, Cond.instanceMethod yX2_washed, Cond.selects RX2 yX2_washed yX2_washed, Cond.code yX2_washed cX2_washed 4 (some .int), Cond.methodLink RX2 62 yX2_works, Cond.static yX2_works, Cond.code yX2_works cX2_works 2 (some .boolean), Cond.methodLink RX2 70 yX2_boil, Cond.instanceMethod yX2_boil, Cond.selects RX2 yX2_boil yX2_boil, Cond.code yX2_boil cX2_boil 7 none, Cond.methodLink RX2 77 yX2_thickness, Cond.static yX2_thickness, Cond.code yX2_thickness cX2_thickness 2 (some .int), Cond.methodLink RX2 58 yX2_amount, Cond.static yX2_amount, Cond.code yX2_amount cX2_amount 2 (some .int), Cond.methodLink RX2 80 yX2_power, Cond.static yX2_power, Cond.code yX2_power cX2_power 2 (some .int), Cond.methodLink RX2 83 yX2_less, Cond.static yX2_less, Cond.code yX2_less cX2_less 2 (some .int)]
def wsX2_steamFor_r3 : List Cond := [Cond.methodLink RX2 74 yX2_go, Cond.instanceMethod yX2_go, Cond.selects RX2 yX2_go yX2_go, Cond.code yX2_go cX2_go 8 none, Cond.fieldLink RX2 32 "EffectTrainModel" "flow" "[I", Cond.fieldLink RX2 35 "EffectTrainModel" "salt" "[I", Cond.methodLink RX2 87 yX2_behind, Cond.instanceMethod yX2_behind, Cond.selects RX2 yX2_behind yX2_behind, Cond.code yX2_behind cX2_behind 4 (some .int)]
def wsX2_steamFor : List Cond := .code yX2_steamFor cX2_steamFor 4 (some .int) :: ((wsX2_steamFor_r1 ++ (wsX2_steamFor_r2 ++ wsX2_steamFor_r3)) ++ wsX20)
def wsX2_command_r1 : List Cond := [Cond.fieldLink RX2 19 "EffectTrainModel" "trial" "[I", Cond.constantLong RX2 149 (20), Cond.methodLink RX2 144 yX2_ticksOn, Cond.instanceMethod yX2_ticksOn, Cond.selects RX2 yX2_ticksOn yX2_ticksOn, Cond.initialized RX2, Cond.code yX2_ticksOn cX2_ticksOn 5 (some .int), Cond.methodLink RX2 90 yX2_tickOn, Cond.instanceMethod yX2_tickOn, Cond.selects RX2 yX2_tickOn yX2_tickOn, Cond.code yX2_tickOn cX2_tickOn 4 none, Cond.fieldLink RX2 38 "EffectTrainModel" "n" "I", Cond.methodLink RX2 66 yX2_washed, Cond.instanceMethod yX2_washed, Cond.selects RX2 yX2_washed yX2_washed, Cond.code yX2_washed cX2_washed 4 (some .int), Cond.methodLink RX2 62 yX2_works, Cond.static yX2_works, Cond.code yX2_works cX2_works 2 (some .boolean), Cond.methodLink RX2 70 yX2_boil, Cond.instanceMethod yX2_boil, Cond.selects RX2 yX2_boil yX2_boil, Cond.code yX2_boil cX2_boil 7 none, Cond.methodLink RX2 77 yX2_thickness]
def wsX2_command_r2 : List Cond := [Cond.static yX2_thickness, Cond.code yX2_thickness cX2_thickness 2 (some .int), Cond.methodLink RX2 58 yX2_amount, Cond.static yX2_amount, Cond.code yX2_amount cX2_amount 2 (some .int), Cond.methodLink RX2 80 yX2_power, Cond.static yX2_power, Cond.code yX2_power cX2_power 2 (some .int), Cond.methodLink RX2 83 yX2_less, Cond.static yX2_less, Cond.code yX2_less cX2_less 2 (some .int), Cond.methodLink RX2 74 yX2_go, Cond.instanceMethod yX2_go, Cond.selects RX2 yX2_go yX2_go, Cond.code yX2_go cX2_go 8 none, Cond.fieldLink RX2 32 "EffectTrainModel" "flow" "[I", Cond.fieldLink RX2 35 "EffectTrainModel" "salt" "[I", Cond.methodLink RX2 87 yX2_behind, Cond.instanceMethod yX2_behind, Cond.selects RX2 yX2_behind yX2_behind, Cond.code yX2_behind cX2_behind 4 (some .int), Cond.methodLink RX2 129 yX2_isEffect, Cond.instanceMethod yX2_isEffect, Cond.selects RX2 yX2_isEffect yX2_isEffect]
def wsX2_command_r3 : List Cond := [Cond.code yX2_isEffect cX2_isEffect 2 (some .boolean), Cond.methodLink RX2 54 yX2_in, Cond.static yX2_in, Cond.code yX2_in cX2_in 6 (some .boolean)]
def wsX2_command : List Cond := .code yX2_command cX2_command 7 (some .boolean) :: ((wsX2_command_r1 ++ (wsX2_command_r2 ++ wsX2_command_r3)) ++ wsX20)
def wsX2_runScript_r1 : List Cond := [Cond.constantLong RX2 158 (3), Cond.fieldLink RX2 16 "EffectTrainModel" "now" "[I", Cond.fieldLink RX2 19 "EffectTrainModel" "trial" "[I", Cond.constantLong RX2 165 (100000), Cond.methodLink RX2 54 yX2_in, Cond.static yX2_in, Cond.initialized RX2, Cond.code yX2_in cX2_in 6 (some .boolean), Cond.methodLink RX2 105 yX2_tenTo, Cond.static yX2_tenTo, Cond.code yX2_tenTo cX2_tenTo 4 (some .long), Cond.constantLong RX2 45 (10), Cond.methodLink RX2 98 yX2_refused, Cond.instanceMethod yX2_refused, Cond.selects RX2 yX2_refused yX2_refused, Cond.code yX2_refused cX2_refused 2 (some .boolean), Cond.fieldLink RX2 42 "EffectTrainModel" "refusal" "I", Cond.methodLink RX2 50 yX2_copy, Cond.static yX2_copy, Cond.code yX2_copy cX2_copy 6 none, Cond.methodLink RX2 167 yX2_command, Cond.instanceMethod yX2_command, Cond.selects RX2 yX2_command yX2_command, Cond.code yX2_command cX2_command 7 (some .boolean)]
def wsX2_runScript_r2 : List Cond := [Cond.constantLong RX2 149 (20), Cond.methodLink RX2 144 yX2_ticksOn, Cond.instanceMethod yX2_ticksOn, Cond.selects RX2 yX2_ticksOn yX2_ticksOn, Cond.code yX2_ticksOn cX2_ticksOn 5 (some .int), Cond.methodLink RX2 90 yX2_tickOn, Cond.instanceMethod yX2_tickOn, Cond.selects RX2 yX2_tickOn yX2_tickOn, Cond.code yX2_tickOn cX2_tickOn 4 none, Cond.fieldLink RX2 38 "EffectTrainModel" "n" "I", Cond.methodLink RX2 66 yX2_washed, Cond.instanceMethod yX2_washed, Cond.selects RX2 yX2_washed yX2_washed, Cond.code yX2_washed cX2_washed 4 (some .int), Cond.methodLink RX2 62 yX2_works, Cond.static yX2_works, Cond.code yX2_works cX2_works 2 (some .boolean), Cond.methodLink RX2 70 yX2_boil, Cond.instanceMethod yX2_boil, Cond.selects RX2 yX2_boil yX2_boil, Cond.code yX2_boil cX2_boil 7 none, Cond.methodLink RX2 77 yX2_thickness, Cond.static yX2_thickness, Cond.code yX2_thickness cX2_thickness 2 (some .int)]
def wsX2_runScript_r3 : List Cond := [Cond.methodLink RX2 58 yX2_amount, Cond.static yX2_amount, Cond.code yX2_amount cX2_amount 2 (some .int), Cond.methodLink RX2 80 yX2_power, Cond.static yX2_power, Cond.code yX2_power cX2_power 2 (some .int), Cond.methodLink RX2 83 yX2_less, Cond.static yX2_less, Cond.code yX2_less cX2_less 2 (some .int), Cond.methodLink RX2 74 yX2_go, Cond.instanceMethod yX2_go, Cond.selects RX2 yX2_go yX2_go, Cond.code yX2_go cX2_go 8 none, Cond.fieldLink RX2 32 "EffectTrainModel" "flow" "[I", Cond.fieldLink RX2 35 "EffectTrainModel" "salt" "[I", Cond.methodLink RX2 87 yX2_behind, Cond.instanceMethod yX2_behind, Cond.selects RX2 yX2_behind yX2_behind, Cond.code yX2_behind cX2_behind 4 (some .int), Cond.methodLink RX2 129 yX2_isEffect, Cond.instanceMethod yX2_isEffect, Cond.selects RX2 yX2_isEffect yX2_isEffect, Cond.code yX2_isEffect cX2_isEffect 2 (some .boolean)]
def wsX2_runScript : List Cond := .code yX2_runScript cX2_runScript 5 (some .int) :: ((wsX2_runScript_r1 ++ (wsX2_runScript_r2 ++ wsX2_runScript_r3)) ++ wsX20)
def wsX2_simulate_r1 : List Cond := [Cond.constantLong RX2 139 (99), Cond.fieldLink RX2 16 "EffectTrainModel" "now" "[I", Cond.fieldLink RX2 19 "EffectTrainModel" "trial" "[I", Cond.constantLong RX2 170 (6364136223846793005), Cond.constantLong RX2 172 (1442695040888963407), Cond.fieldLink RX2 38 "EffectTrainModel" "n" "I", Cond.methodLink RX2 54 yX2_in, Cond.static yX2_in, Cond.initialized RX2, Cond.code yX2_in cX2_in 6 (some .boolean), Cond.methodLink RX2 98 yX2_refused, Cond.instanceMethod yX2_refused, Cond.selects RX2 yX2_refused yX2_refused, Cond.code yX2_refused cX2_refused 2 (some .boolean), Cond.fieldLink RX2 42 "EffectTrainModel" "refusal" "I", Cond.methodLink RX2 50 yX2_copy, Cond.static yX2_copy, Cond.code yX2_copy cX2_copy 6 none, Cond.methodLink RX2 62 yX2_works, Cond.static yX2_works, Cond.code yX2_works cX2_works 2 (some .boolean), Cond.methodLink RX2 90 yX2_tickOn, Cond.instanceMethod yX2_tickOn, Cond.selects RX2 yX2_tickOn yX2_tickOn]
def wsX2_simulate_r2 : List Cond := [Cond.code yX2_tickOn cX2_tickOn 4 none, Cond.methodLink RX2 66 yX2_washed, Cond.instanceMethod yX2_washed, Cond.selects RX2 yX2_washed yX2_washed, Cond.code yX2_washed cX2_washed 4 (some .int), Cond.methodLink RX2 70 yX2_boil, Cond.instanceMethod yX2_boil, Cond.selects RX2 yX2_boil yX2_boil, Cond.code yX2_boil cX2_boil 7 none, Cond.methodLink RX2 77 yX2_thickness, Cond.static yX2_thickness, Cond.code yX2_thickness cX2_thickness 2 (some .int), Cond.methodLink RX2 58 yX2_amount, Cond.static yX2_amount, Cond.code yX2_amount cX2_amount 2 (some .int), Cond.methodLink RX2 80 yX2_power, Cond.static yX2_power, Cond.code yX2_power cX2_power 2 (some .int), Cond.methodLink RX2 83 yX2_less, Cond.static yX2_less, Cond.code yX2_less cX2_less 2 (some .int), Cond.methodLink RX2 74 yX2_go, Cond.instanceMethod yX2_go, Cond.selects RX2 yX2_go yX2_go]
def wsX2_simulate_r3 : List Cond := [Cond.code yX2_go cX2_go 8 none, Cond.fieldLink RX2 32 "EffectTrainModel" "flow" "[I", Cond.fieldLink RX2 35 "EffectTrainModel" "salt" "[I", Cond.methodLink RX2 87 yX2_behind, Cond.instanceMethod yX2_behind, Cond.selects RX2 yX2_behind yX2_behind, Cond.code yX2_behind cX2_behind 4 (some .int)]
def wsX2_simulate : List Cond := .code yX2_simulate cX2_simulate 9 (some .int) :: ((wsX2_simulate_r1 ++ (wsX2_simulate_r2 ++ wsX2_simulate_r3)) ++ wsX20)
def wsX2_save : List Cond := .code yX2_save cX2_save 2 (some .int) :: ([.fieldLink RX2 28 "EffectTrainModel" "isKept" "[Z", .fieldLink RX2 16 "EffectTrainModel" "now" "[I", .fieldLink RX2 25 "EffectTrainModel" "kept" "[I", .methodLink RX2 54 yX2_in, .static yX2_in, .initialized RX2, .code yX2_in cX2_in 6 (some .boolean), .methodLink RX2 98 yX2_refused, .instanceMethod yX2_refused, .selects RX2 yX2_refused yX2_refused, .code yX2_refused cX2_refused 2 (some .boolean), .fieldLink RX2 42 "EffectTrainModel" "refusal" "I", .methodLink RX2 50 yX2_copy, .static yX2_copy, .code yX2_copy cX2_copy 6 none] ++ wsX20)
def wsX2_restore : List Cond := .code yX2_restore cX2_restore 2 (some .int) :: ([.fieldLink RX2 28 "EffectTrainModel" "isKept" "[Z", .fieldLink RX2 25 "EffectTrainModel" "kept" "[I", .fieldLink RX2 16 "EffectTrainModel" "now" "[I", .fieldLink RX2 47 "EffectTrainModel" "acts" "I", .methodLink RX2 54 yX2_in, .static yX2_in, .initialized RX2, .code yX2_in cX2_in 6 (some .boolean), .methodLink RX2 98 yX2_refused, .instanceMethod yX2_refused, .selects RX2 yX2_refused yX2_refused, .code yX2_refused cX2_refused 2 (some .boolean), .fieldLink RX2 42 "EffectTrainModel" "refusal" "I", .methodLink RX2 50 yX2_copy, .static yX2_copy, .code yX2_copy cX2_copy 6 none] ++ wsX20)
def wsJ9_max_7cf53 : List Cond := .code yJ9_max_7cf53 cJ9_max_7cf53 2 (some .int) :: ([])
def wsJ9_min_7cf53 : List Cond := .code yJ9_min_7cf53 cJ9_min_7cf53 2 (some .int) :: ([])
def wsL_append : List Cond := .codeWith yL_append cL_append 4 (some .int) [(0, 9, 12, 13), (0, 9, 15, 15)] :: ([.classLink RL 13 "java/lang/IllegalArgumentException", .classLink RL 15 "java/lang/IllegalStateException", .methodLink RL 7 yX1_append, .instanceMethod yX1_append, .selects RX1 yX1_append yX1_append, .initialized RX1, .code yX1_append cX1_append 2 (some .int), .classLink RX1 55 "java/lang/IllegalStateException", .initialized "java/lang/IllegalStateException", .fieldLink RX1 13 "EffectTrain" "textLength" "I", .fieldLink RX1 9 "EffectTrain" "text" "[C", .methodLink RX1 51 yX1_checkRange, .static yX1_checkRange, .code yX1_checkRange cX1_checkRange 3 none, .classLink RX1 179 "java/lang/IllegalArgumentException", .initialized "java/lang/IllegalArgumentException"] ++ wsX10 ++ (vx_atS RX1 59 "java/lang/IllegalStateException" ["java/lang/RuntimeException", "java/lang/Exception"]).filter goodWord ++ (vx_atS RX1 183 "java/lang/IllegalArgumentException" ["java/lang/RuntimeException", "java/lang/Exception"]).filter goodWord)
def wsL_load_r1 : List Cond := [Cond.classLink RL 15 "java/lang/IllegalStateException", Cond.methodLink RL 17 yX1_load, Cond.instanceMethod yX1_load, Cond.selects RX1 yX1_load yX1_load, Cond.initialized RX1, Cond.code yX1_load cX1_load 2 (some .int), Cond.classLink RX1 55 "java/lang/IllegalStateException", Cond.initialized "java/lang/IllegalStateException", Cond.fieldLink RX1 24 "EffectTrain" "now" "LEffectTrain$State;", Cond.fieldLink RX1 17 "EffectTrain" "textNumbers" "[I", Cond.fieldLink RX1 41 "EffectTrain" "rememberedCount" "I", Cond.fieldLink RX1 47 "EffectTrain" "slotFilled" "[Z", Cond.methodLink RX1 62 yX1_readText, Cond.instanceMethod yX1_readText, Cond.selects RX1 yX1_readText yX1_readText, Cond.code yX1_readText cX1_readText 6 (some .int), Cond.fieldLink RX1 13 "EffectTrain" "textLength" "I", Cond.fieldLink RX1 9 "EffectTrain" "text" "[C", Cond.fieldLink RX1 82 "EffectTrain" "DIGITS" "[I", Cond.methodLink RX1 78 yX1_numberError, Cond.instanceMethod yX1_numberError, Cond.selects RX1 yX1_numberError yX1_numberError, Cond.code yX1_numberError cX1_numberError 8 (some .int), Cond.fieldLink RX1 88 "EffectTrain" "GREATEST" "[I"]
def wsL_load_r2 : List Cond := [Cond.fieldLink RX1 91 "EffectTrain" "LEAST" "[I", Cond.methodLink RX1 85 yX1_numberAt, Cond.instanceMethod yX1_numberAt, Cond.selects RX1 yX1_numberAt yX1_numberAt, Cond.code yX1_numberAt cX1_numberAt 5 (some .int), Cond.instanceMethod yX0_takeNumbers, Cond.initialized RX0, Cond.selects RX0 yX0_takeNumbers yX0_takeNumbers, Cond.code yX0_takeNumbers cX0_takeNumbers 4 none, Cond.fieldLink RX0 9 "EffectTrain$State" "n" "I", Cond.fieldLink RX0 15 "EffectTrain$State" "settings" "[I", Cond.methodLink RX0 55 arraycopyName, Cond.native arraycopyName, Cond.static arraycopyName, Cond.initialized "java/lang/System", Cond.fieldLink RX0 19 "EffectTrain$State" "clock" "I", Cond.fieldLink RX0 22 "EffectTrain$State" "counts" "[I", Cond.fieldLink RX0 43 "EffectTrain$State" "scaling" "[I", Cond.fieldLink RX0 46 "EffectTrain$State" "left" "[I", Cond.fieldLink RX0 25 "EffectTrain$State" "area" "[I", Cond.fieldLink RX0 28 "EffectTrain$State" "water" "[I", Cond.fieldLink RX0 31 "EffectTrain$State" "solids" "[I", Cond.fieldLink RX0 34 "EffectTrain$State" "valve" "[I", Cond.fieldLink RX0 37 "EffectTrain$State" "bleed" "[I"]
def wsL_load_r3 : List Cond := [Cond.fieldLink RX0 40 "EffectTrain$State" "scale" "[I", Cond.methodLink RX0 49 yJ7_fill_53178, Cond.static yJ7_fill_53178, Cond.initialized RJ7, Cond.code yJ7_fill_53178 cJ7_fill_53178 4 none, Cond.instanceMethod yX0_allWater, Cond.selects RX0 yX0_allWater yX0_allWater, Cond.code yX0_allWater cX0_allWater 3 (some .int), Cond.instanceMethod yX0_allSolids, Cond.selects RX0 yX0_allSolids yX0_allSolids, Cond.code yX0_allSolids cX0_allSolids 3 (some .int)]
def wsL_load : List Cond := .codeWith yL_load cL_load 3 (some .int) [(0, 8, 11, 15)] :: ((wsL_load_r1 ++ (wsL_load_r2 ++ wsL_load_r3)) ++ wsX10 ++ wsX00 ++ (vx_atS RX1 59 "java/lang/IllegalStateException" ["java/lang/RuntimeException", "java/lang/Exception"]).filter goodWord)
def wsL_about_r1 : List Cond := [Cond.classLink RL 13 "java/lang/IllegalArgumentException", Cond.methodLink RL 21 yX1_about, Cond.instanceMethod yX1_about, Cond.selects RX1 yX1_about yX1_about, Cond.initialized RX1, Cond.code yX1_about cX1_about 2 (some .int), Cond.fieldLink RX1 24 "EffectTrain" "now" "LEffectTrain$State;", Cond.methodLink RX1 51 yX1_checkRange, Cond.static yX1_checkRange, Cond.code yX1_checkRange cX1_checkRange 3 none, Cond.classLink RX1 179 "java/lang/IllegalArgumentException", Cond.initialized "java/lang/IllegalArgumentException", Cond.instanceMethod yX0_washedEffects, Cond.initialized RX0, Cond.selects RX0 yX0_washedEffects yX0_washedEffects, Cond.code yX0_washedEffects cX0_washedEffects 3 (some .int), Cond.fieldLink RX0 9 "EffectTrain$State" "n" "I", Cond.fieldLink RX0 46 "EffectTrain$State" "left" "[I", Cond.instanceMethod yX0_allWater, Cond.selects RX0 yX0_allWater yX0_allWater, Cond.code yX0_allWater cX0_allWater 3 (some .int), Cond.fieldLink RX0 28 "EffectTrain$State" "water" "[I", Cond.instanceMethod yX0_allSolids, Cond.selects RX0 yX0_allSolids yX0_allSolids]
def wsL_about_r2 : List Cond := [Cond.code yX0_allSolids cX0_allSolids 3 (some .int), Cond.fieldLink RX0 31 "EffectTrain$State" "solids" "[I"]
def wsL_about : List Cond := .codeWith yL_about cL_about 4 (some .int) [(0, 9, 12, 13)] :: ((wsL_about_r1 ++ wsL_about_r2) ++ wsX10 ++ wsX00 ++ (vx_atS RX1 183 "java/lang/IllegalArgumentException" ["java/lang/RuntimeException", "java/lang/Exception"]).filter goodWord)
def wsL_total : List Cond := .codeWith yL_total cL_total 4 (some .int) [(0, 9, 12, 13)] :: ([.classLink RL 13 "java/lang/IllegalArgumentException", .methodLink RL 24 yX1_total, .instanceMethod yX1_total, .selects RX1 yX1_total yX1_total, .initialized RX1, .code yX1_total cX1_total 2 (some .int), .fieldLink RX1 24 "EffectTrain" "now" "LEffectTrain$State;", .methodLink RX1 51 yX1_checkRange, .static yX1_checkRange, .code yX1_checkRange cX1_checkRange 3 none, .classLink RX1 179 "java/lang/IllegalArgumentException", .initialized "java/lang/IllegalArgumentException"] ++ wsX10 ++ wsX00 ++ (vx_atS RX1 183 "java/lang/IllegalArgumentException" ["java/lang/RuntimeException", "java/lang/Exception"]).filter goodWord)
def wsL_effect_r1 : List Cond := [Cond.classLink RL 31 "java/lang/IndexOutOfBoundsException", Cond.classLink RL 13 "java/lang/IllegalArgumentException", Cond.methodLink RL 27 yX1_effect, Cond.instanceMethod yX1_effect, Cond.selects RX1 yX1_effect yX1_effect, Cond.initialized RX1, Cond.code yX1_effect cX1_effect 3 (some .int), Cond.fieldLink RX1 24 "EffectTrain" "now" "LEffectTrain$State;", Cond.methodLink RX1 109 yX1_checkEffect, Cond.instanceMethod yX1_checkEffect, Cond.selects RX1 yX1_checkEffect yX1_checkEffect, Cond.code yX1_checkEffect cX1_checkEffect 2 none, Cond.classLink RX1 211 "java/lang/IndexOutOfBoundsException", Cond.initialized "java/lang/IndexOutOfBoundsException", Cond.methodLink RX1 51 yX1_checkRange, Cond.static yX1_checkRange, Cond.code yX1_checkRange cX1_checkRange 3 none, Cond.classLink RX1 179 "java/lang/IllegalArgumentException", Cond.initialized "java/lang/IllegalArgumentException", Cond.instanceMethod yX0_numberOf, Cond.initialized RX0, Cond.selects RX0 yX0_numberOf yX0_numberOf, Cond.code yX0_numberOf cX0_numberOf 3 (some .int), Cond.fieldLink RX0 25 "EffectTrain$State" "area" "[I"]
def wsL_effect_r2 : List Cond := [Cond.fieldLink RX0 28 "EffectTrain$State" "water" "[I", Cond.fieldLink RX0 31 "EffectTrain$State" "solids" "[I", Cond.fieldLink RX0 34 "EffectTrain$State" "valve" "[I", Cond.fieldLink RX0 37 "EffectTrain$State" "bleed" "[I", Cond.fieldLink RX0 40 "EffectTrain$State" "scale" "[I", Cond.fieldLink RX0 43 "EffectTrain$State" "scaling" "[I", Cond.fieldLink RX0 46 "EffectTrain$State" "left" "[I", Cond.methodLink RX0 61 yX0_thickness, Cond.instanceMethod yX0_thickness, Cond.selects RX0 yX0_thickness yX0_thickness, Cond.code yX0_thickness cX0_thickness 3 (some .int), Cond.methodLink RX0 65 yX0_power, Cond.instanceMethod yX0_power, Cond.selects RX0 yX0_power yX0_power, Cond.code yX0_power cX0_power 3 (some .int)]
def wsL_effect : List Cond := .codeWith yL_effect cL_effect 5 (some .int) [(0, 10, 13, 31), (0, 10, 17, 13)] :: ((wsL_effect_r1 ++ wsL_effect_r2) ++ wsX10 ++ wsX00 ++ (vx_atS RX1 215 "java/lang/IndexOutOfBoundsException" ["java/lang/RuntimeException", "java/lang/Exception"]).filter goodWord ++ (vx_atS RX1 183 "java/lang/IllegalArgumentException" ["java/lang/RuntimeException", "java/lang/Exception"]).filter goodWord)
def wsL_neighbor : List Cond := .codeWith yL_neighbor cL_neighbor 5 (some .int) [(0, 10, 13, 31)] :: ([.classLink RL 31 "java/lang/IndexOutOfBoundsException", .methodLink RL 33 yX1_neighbor, .instanceMethod yX1_neighbor, .selects RX1 yX1_neighbor yX1_neighbor, .initialized RX1, .code yX1_neighbor cX1_neighbor 3 (some .int), .fieldLink RX1 24 "EffectTrain" "now" "LEffectTrain$State;", .methodLink RX1 109 yX1_checkEffect, .instanceMethod yX1_checkEffect, .selects RX1 yX1_checkEffect yX1_checkEffect, .code yX1_checkEffect cX1_checkEffect 2 none, .classLink RX1 211 "java/lang/IndexOutOfBoundsException", .initialized "java/lang/IndexOutOfBoundsException", .instanceMethod yX0_effectBehind, .initialized RX0, .selects RX0 yX0_effectBehind yX0_effectBehind, .code yX0_effectBehind cX0_effectBehind 3 (some .int), .fieldLink RX0 9 "EffectTrain$State" "n" "I", .fieldLink RX0 46 "EffectTrain$State" "left" "[I", .instanceMethod yX0_effectBefore, .selects RX0 yX0_effectBefore yX0_effectBefore, .code yX0_effectBefore cX0_effectBefore 3 (some .int)] ++ wsX10 ++ wsX00 ++ (vx_atS RX1 215 "java/lang/IndexOutOfBoundsException" ["java/lang/RuntimeException", "java/lang/Exception"]).filter goodWord)
def wsL_share : List Cond := .codeWith yL_share cL_share 4 (some .int) [(0, 9, 12, 31)] :: ([.classLink RL 31 "java/lang/IndexOutOfBoundsException", .methodLink RL 37 yX1_share, .instanceMethod yX1_share, .selects RX1 yX1_share yX1_share, .initialized RX1, .code yX1_share cX1_share 3 (some .float), .fieldLink RX1 24 "EffectTrain" "now" "LEffectTrain$State;", .methodLink RX1 109 yX1_checkEffect, .instanceMethod yX1_checkEffect, .selects RX1 yX1_checkEffect yX1_checkEffect, .code yX1_checkEffect cX1_checkEffect 2 none, .classLink RX1 211 "java/lang/IndexOutOfBoundsException", .initialized "java/lang/IndexOutOfBoundsException", .instanceMethod yX0_amount, .initialized RX0, .selects RX0 yX0_amount yX0_amount, .code yX0_amount cX0_amount 2 (some .int), .fieldLink RX0 28 "EffectTrain$State" "water" "[I", .fieldLink RX0 31 "EffectTrain$State" "solids" "[I"] ++ wsX10 ++ wsX00 ++ (vx_atS RX1 215 "java/lang/IndexOutOfBoundsException" ["java/lang/RuntimeException", "java/lang/Exception"]).filter goodWord)
def wsL_tick_r1 : List Cond := [Cond.classLink RL 13 "java/lang/IllegalArgumentException", Cond.methodLink RL 41 yX1_tick, Cond.instanceMethod yX1_tick, Cond.selects RX1 yX1_tick yX1_tick, Cond.initialized RX1, Cond.code yX1_tick cX1_tick 2 (some .int), Cond.fieldLink RX1 24 "EffectTrain" "now" "LEffectTrain$State;", Cond.methodLink RX1 51 yX1_checkRange, Cond.static yX1_checkRange, Cond.code yX1_checkRange cX1_checkRange 3 none, Cond.classLink RX1 179 "java/lang/IllegalArgumentException", Cond.initialized "java/lang/IllegalArgumentException", Cond.methodLink RX1 129 yX1_remember, Cond.instanceMethod yX1_remember, Cond.selects RX1 yX1_remember yX1_remember, Cond.code yX1_remember cX1_remember 1 none, Cond.fieldLink RX1 38 "EffectTrain" "newest" "I", Cond.fieldLink RX1 35 "EffectTrain" "remembered" "[LEffectTrain$State;", Cond.fieldLink RX1 41 "EffectTrain" "rememberedCount" "I", Cond.methodLink RX1 151 yX1_stateAt, Cond.static yX1_stateAt, Cond.code yX1_stateAt cX1_stateAt 3 (some (.object "EffectTrain$State")), Cond.classLink RX1 21 RX0, Cond.instantiable RX0 12]
def wsL_tick_r2 : List Cond := [Cond.initialized RX0, Cond.instanceMethod yX0_init, Cond.code yX0_init cX0_init 1 none, Cond.methodLink RX0 3 objectInit, Cond.instanceMethod objectInit, Cond.code objectInit ⟨#[0xb1]⟩ 1 none, Cond.fieldLink RX0 9 "EffectTrain$State" "n" "I", Cond.arrayClass .int, Cond.fieldLink RX0 15 "EffectTrain$State" "settings" "[I", Cond.fieldLink RX0 19 "EffectTrain$State" "clock" "I", Cond.fieldLink RX0 22 "EffectTrain$State" "counts" "[I", Cond.fieldLink RX0 25 "EffectTrain$State" "area" "[I", Cond.fieldLink RX0 28 "EffectTrain$State" "water" "[I", Cond.fieldLink RX0 31 "EffectTrain$State" "solids" "[I", Cond.fieldLink RX0 34 "EffectTrain$State" "valve" "[I", Cond.fieldLink RX0 37 "EffectTrain$State" "bleed" "[I", Cond.fieldLink RX0 40 "EffectTrain$State" "scale" "[I", Cond.fieldLink RX0 43 "EffectTrain$State" "scaling" "[I", Cond.fieldLink RX0 46 "EffectTrain$State" "left" "[I", Cond.methodLink RX0 49 yJ7_fill_53178, Cond.static yJ7_fill_53178, Cond.initialized RJ7, Cond.code yJ7_fill_53178 cJ7_fill_53178 4 none, Cond.instanceMethod yX0_copyFrom]
def wsL_tick_r3 : List Cond := [Cond.selects RX0 yX0_copyFrom yX0_copyFrom, Cond.code yX0_copyFrom cX0_copyFrom 2 none, Cond.methodLink RX0 55 arraycopyName, Cond.native arraycopyName, Cond.static arraycopyName, Cond.initialized "java/lang/System", Cond.instanceMethod yX0_pass, Cond.selects RX0 yX0_pass yX0_pass, Cond.code yX0_pass cX0_pass 4 (some .int), Cond.methodLink RX0 68 yX0_beginWashInTurn, Cond.instanceMethod yX0_beginWashInTurn, Cond.selects RX0 yX0_beginWashInTurn yX0_beginWashInTurn, Cond.code yX0_beginWashInTurn cX0_beginWashInTurn 4 none, Cond.methodLink RX0 80 yX0_washedEffects, Cond.instanceMethod yX0_washedEffects, Cond.selects RX0 yX0_washedEffects yX0_washedEffects, Cond.code yX0_washedEffects cX0_washedEffects 3 (some .int), Cond.methodLink RX0 71 yX0_boilAll, Cond.instanceMethod yX0_boilAll, Cond.selects RX0 yX0_boilAll yX0_boilAll, Cond.code yX0_boilAll cX0_boilAll 4 none, Cond.methodLink RX0 84 yX0_boil, Cond.instanceMethod yX0_boil, Cond.selects RX0 yX0_boil yX0_boil]
def wsL_tick_r4 : List Cond := [Cond.code yX0_boil cX0_boil 7 (some .int), Cond.methodLink RX0 88 Lib.Math.min.name, Cond.static Lib.Math.min.name, Cond.initialized "java/lang/Math", Cond.code Lib.Math.min.name Lib.Math.min.code 2 (some .int), Cond.methodLink RX0 61 yX0_thickness, Cond.instanceMethod yX0_thickness, Cond.selects RX0 yX0_thickness yX0_thickness, Cond.code yX0_thickness cX0_thickness 3 (some .int), Cond.methodLink RX0 65 yX0_power, Cond.instanceMethod yX0_power, Cond.selects RX0 yX0_power yX0_power, Cond.code yX0_power cX0_power 3 (some .int), Cond.methodLink RX0 74 yX0_flowOn, Cond.instanceMethod yX0_flowOn, Cond.selects RX0 yX0_flowOn yX0_flowOn, Cond.code yX0_flowOn cX0_flowOn 9 none, Cond.methodLink RX0 93 yX0_effectBehind, Cond.instanceMethod yX0_effectBehind, Cond.selects RX0 yX0_effectBehind yX0_effectBehind, Cond.code yX0_effectBehind cX0_effectBehind 3 (some .int), Cond.methodLink RX0 96 yX0_amount, Cond.instanceMethod yX0_amount, Cond.selects RX0 yX0_amount yX0_amount]
def wsL_tick_r5 : List Cond := [Cond.code yX0_amount cX0_amount 2 (some .int), Cond.methodLink RX0 99 yX0_flowFrom, Cond.instanceMethod yX0_flowFrom, Cond.selects RX0 yX0_flowFrom yX0_flowFrom, Cond.code yX0_flowFrom cX0_flowFrom 4 (some .int), Cond.methodLink RX0 77 yX0_washOn, Cond.instanceMethod yX0_washOn, Cond.selects RX0 yX0_washOn yX0_washOn, Cond.code yX0_washOn cX0_washOn 2 none, Cond.methodLink RX0 102 Lib.Math.max.name, Cond.static Lib.Math.max.name, Cond.code Lib.Math.max.name Lib.Math.max.code 2 (some .int)]
def wsL_tick : List Cond := .codeWith yL_tick cL_tick 4 (some .int) [(0, 9, 12, 13)] :: ((wsL_tick_r1 ++ (wsL_tick_r2 ++ (wsL_tick_r3 ++ (wsL_tick_r4 ++ wsL_tick_r5)))) ++ wsX10 ++ wsX00 ++ (vx_atS RX1 183 "java/lang/IllegalArgumentException" ["java/lang/RuntimeException", "java/lang/Exception"]).filter goodWord)
def wsL_set_r1 : List Cond := [Cond.classLink RL 13 "java/lang/IllegalArgumentException", Cond.methodLink RL 44 yX1_set, Cond.instanceMethod yX1_set, Cond.selects RX1 yX1_set yX1_set, Cond.initialized RX1, Cond.code yX1_set cX1_set 4 (some .int), Cond.fieldLink RX1 91 "EffectTrain" "LEAST" "[I", Cond.fieldLink RX1 88 "EffectTrain" "GREATEST" "[I", Cond.fieldLink RX1 24 "EffectTrain" "now" "LEffectTrain$State;", Cond.methodLink RX1 51 yX1_checkRange, Cond.static yX1_checkRange, Cond.code yX1_checkRange cX1_checkRange 3 none, Cond.classLink RX1 179 "java/lang/IllegalArgumentException", Cond.initialized "java/lang/IllegalArgumentException", Cond.methodLink RX1 129 yX1_remember, Cond.instanceMethod yX1_remember, Cond.selects RX1 yX1_remember yX1_remember, Cond.code yX1_remember cX1_remember 1 none, Cond.fieldLink RX1 38 "EffectTrain" "newest" "I", Cond.fieldLink RX1 35 "EffectTrain" "remembered" "[LEffectTrain$State;", Cond.fieldLink RX1 41 "EffectTrain" "rememberedCount" "I", Cond.methodLink RX1 151 yX1_stateAt, Cond.static yX1_stateAt, Cond.code yX1_stateAt cX1_stateAt 3 (some (.object "EffectTrain$State"))]
def wsL_set_r2 : List Cond := [Cond.classLink RX1 21 RX0, Cond.instantiable RX0 12, Cond.initialized RX0, Cond.instanceMethod yX0_init, Cond.code yX0_init cX0_init 1 none, Cond.methodLink RX0 3 objectInit, Cond.instanceMethod objectInit, Cond.code objectInit ⟨#[0xb1]⟩ 1 none, Cond.fieldLink RX0 9 "EffectTrain$State" "n" "I", Cond.arrayClass .int, Cond.fieldLink RX0 15 "EffectTrain$State" "settings" "[I", Cond.fieldLink RX0 19 "EffectTrain$State" "clock" "I", Cond.fieldLink RX0 22 "EffectTrain$State" "counts" "[I", Cond.fieldLink RX0 25 "EffectTrain$State" "area" "[I", Cond.fieldLink RX0 28 "EffectTrain$State" "water" "[I", Cond.fieldLink RX0 31 "EffectTrain$State" "solids" "[I", Cond.fieldLink RX0 34 "EffectTrain$State" "valve" "[I", Cond.fieldLink RX0 37 "EffectTrain$State" "bleed" "[I", Cond.fieldLink RX0 40 "EffectTrain$State" "scale" "[I", Cond.fieldLink RX0 43 "EffectTrain$State" "scaling" "[I", Cond.fieldLink RX0 46 "EffectTrain$State" "left" "[I", Cond.methodLink RX0 49 yJ7_fill_53178, Cond.static yJ7_fill_53178, Cond.initialized RJ7]
def wsL_set_r3 : List Cond := [Cond.code yJ7_fill_53178 cJ7_fill_53178 4 none, Cond.instanceMethod yX0_copyFrom, Cond.selects RX0 yX0_copyFrom yX0_copyFrom, Cond.code yX0_copyFrom cX0_copyFrom 2 none, Cond.methodLink RX0 55 arraycopyName, Cond.native arraycopyName, Cond.static arraycopyName, Cond.initialized "java/lang/System"]
def wsL_set : List Cond := .codeWith yL_set cL_set 5 (some .int) [(0, 10, 13, 13)] :: ((wsL_set_r1 ++ (wsL_set_r2 ++ wsL_set_r3)) ++ wsX10 ++ wsX00 ++ (vx_atS RX1 183 "java/lang/IllegalArgumentException" ["java/lang/RuntimeException", "java/lang/Exception"]).filter goodWord)
def wsL_setValve_r1 : List Cond := [Cond.classLink RL 31 "java/lang/IndexOutOfBoundsException", Cond.classLink RL 13 "java/lang/IllegalArgumentException", Cond.methodLink RL 47 yX1_setValve, Cond.instanceMethod yX1_setValve, Cond.selects RX1 yX1_setValve yX1_setValve, Cond.initialized RX1, Cond.code yX1_setValve cX1_setValve 4 (some .int), Cond.fieldLink RX1 24 "EffectTrain" "now" "LEffectTrain$State;", Cond.methodLink RX1 109 yX1_checkEffect, Cond.instanceMethod yX1_checkEffect, Cond.selects RX1 yX1_checkEffect yX1_checkEffect, Cond.code yX1_checkEffect cX1_checkEffect 2 none, Cond.classLink RX1 211 "java/lang/IndexOutOfBoundsException", Cond.initialized "java/lang/IndexOutOfBoundsException", Cond.methodLink RX1 51 yX1_checkRange, Cond.static yX1_checkRange, Cond.code yX1_checkRange cX1_checkRange 3 none, Cond.classLink RX1 179 "java/lang/IllegalArgumentException", Cond.initialized "java/lang/IllegalArgumentException", Cond.methodLink RX1 129 yX1_remember, Cond.instanceMethod yX1_remember, Cond.selects RX1 yX1_remember yX1_remember, Cond.code yX1_remember cX1_remember 1 none, Cond.fieldLink RX1 38 "EffectTrain" "newest" "I"]
def wsL_setValve_r2 : List Cond := [Cond.fieldLink RX1 35 "EffectTrain" "remembered" "[LEffectTrain$State;", Cond.fieldLink RX1 41 "EffectTrain" "rememberedCount" "I", Cond.methodLink RX1 151 yX1_stateAt, Cond.static yX1_stateAt, Cond.code yX1_stateAt cX1_stateAt 3 (some (.object "EffectTrain$State")), Cond.classLink RX1 21 RX0, Cond.instantiable RX0 12, Cond.initialized RX0, Cond.instanceMethod yX0_init, Cond.code yX0_init cX0_init 1 none, Cond.methodLink RX0 3 objectInit, Cond.instanceMethod objectInit, Cond.code objectInit ⟨#[0xb1]⟩ 1 none, Cond.fieldLink RX0 9 "EffectTrain$State" "n" "I", Cond.arrayClass .int, Cond.fieldLink RX0 15 "EffectTrain$State" "settings" "[I", Cond.fieldLink RX0 19 "EffectTrain$State" "clock" "I", Cond.fieldLink RX0 22 "EffectTrain$State" "counts" "[I", Cond.fieldLink RX0 25 "EffectTrain$State" "area" "[I", Cond.fieldLink RX0 28 "EffectTrain$State" "water" "[I", Cond.fieldLink RX0 31 "EffectTrain$State" "solids" "[I", Cond.fieldLink RX0 34 "EffectTrain$State" "valve" "[I", Cond.fieldLink RX0 37 "EffectTrain$State" "bleed" "[I", Cond.fieldLink RX0 40 "EffectTrain$State" "scale" "[I"]
def wsL_setValve_r3 : List Cond := [Cond.fieldLink RX0 43 "EffectTrain$State" "scaling" "[I", Cond.fieldLink RX0 46 "EffectTrain$State" "left" "[I", Cond.methodLink RX0 49 yJ7_fill_53178, Cond.static yJ7_fill_53178, Cond.initialized RJ7, Cond.code yJ7_fill_53178 cJ7_fill_53178 4 none, Cond.instanceMethod yX0_copyFrom, Cond.selects RX0 yX0_copyFrom yX0_copyFrom, Cond.code yX0_copyFrom cX0_copyFrom 2 none, Cond.methodLink RX0 55 arraycopyName, Cond.native arraycopyName, Cond.static arraycopyName, Cond.initialized "java/lang/System"]
def wsL_setValve : List Cond := .codeWith yL_setValve cL_setValve 5 (some .int) [(0, 10, 13, 31), (0, 10, 17, 13)] :: ((wsL_setValve_r1 ++ (wsL_setValve_r2 ++ wsL_setValve_r3)) ++ wsX10 ++ wsX00 ++ (vx_atS RX1 215 "java/lang/IndexOutOfBoundsException" ["java/lang/RuntimeException", "java/lang/Exception"]).filter goodWord ++ (vx_atS RX1 183 "java/lang/IllegalArgumentException" ["java/lang/RuntimeException", "java/lang/Exception"]).filter goodWord)
def wsL_setBleed_r1 : List Cond := [Cond.classLink RL 31 "java/lang/IndexOutOfBoundsException", Cond.classLink RL 13 "java/lang/IllegalArgumentException", Cond.methodLink RL 50 yX1_setBleed, Cond.instanceMethod yX1_setBleed, Cond.selects RX1 yX1_setBleed yX1_setBleed, Cond.initialized RX1, Cond.code yX1_setBleed cX1_setBleed 4 (some .int), Cond.fieldLink RX1 24 "EffectTrain" "now" "LEffectTrain$State;", Cond.methodLink RX1 109 yX1_checkEffect, Cond.instanceMethod yX1_checkEffect, Cond.selects RX1 yX1_checkEffect yX1_checkEffect, Cond.code yX1_checkEffect cX1_checkEffect 2 none, Cond.classLink RX1 211 "java/lang/IndexOutOfBoundsException", Cond.initialized "java/lang/IndexOutOfBoundsException", Cond.methodLink RX1 51 yX1_checkRange, Cond.static yX1_checkRange, Cond.code yX1_checkRange cX1_checkRange 3 none, Cond.classLink RX1 179 "java/lang/IllegalArgumentException", Cond.initialized "java/lang/IllegalArgumentException", Cond.methodLink RX1 129 yX1_remember, Cond.instanceMethod yX1_remember, Cond.selects RX1 yX1_remember yX1_remember, Cond.code yX1_remember cX1_remember 1 none, Cond.fieldLink RX1 38 "EffectTrain" "newest" "I"]
def wsL_setBleed_r2 : List Cond := [Cond.fieldLink RX1 35 "EffectTrain" "remembered" "[LEffectTrain$State;", Cond.fieldLink RX1 41 "EffectTrain" "rememberedCount" "I", Cond.methodLink RX1 151 yX1_stateAt, Cond.static yX1_stateAt, Cond.code yX1_stateAt cX1_stateAt 3 (some (.object "EffectTrain$State")), Cond.classLink RX1 21 RX0, Cond.instantiable RX0 12, Cond.initialized RX0, Cond.instanceMethod yX0_init, Cond.code yX0_init cX0_init 1 none, Cond.methodLink RX0 3 objectInit, Cond.instanceMethod objectInit, Cond.code objectInit ⟨#[0xb1]⟩ 1 none, Cond.fieldLink RX0 9 "EffectTrain$State" "n" "I", Cond.arrayClass .int, Cond.fieldLink RX0 15 "EffectTrain$State" "settings" "[I", Cond.fieldLink RX0 19 "EffectTrain$State" "clock" "I", Cond.fieldLink RX0 22 "EffectTrain$State" "counts" "[I", Cond.fieldLink RX0 25 "EffectTrain$State" "area" "[I", Cond.fieldLink RX0 28 "EffectTrain$State" "water" "[I", Cond.fieldLink RX0 31 "EffectTrain$State" "solids" "[I", Cond.fieldLink RX0 34 "EffectTrain$State" "valve" "[I", Cond.fieldLink RX0 37 "EffectTrain$State" "bleed" "[I", Cond.fieldLink RX0 40 "EffectTrain$State" "scale" "[I"]
def wsL_setBleed_r3 : List Cond := [Cond.fieldLink RX0 43 "EffectTrain$State" "scaling" "[I", Cond.fieldLink RX0 46 "EffectTrain$State" "left" "[I", Cond.methodLink RX0 49 yJ7_fill_53178, Cond.static yJ7_fill_53178, Cond.initialized RJ7, Cond.code yJ7_fill_53178 cJ7_fill_53178 4 none, Cond.instanceMethod yX0_copyFrom, Cond.selects RX0 yX0_copyFrom yX0_copyFrom, Cond.code yX0_copyFrom cX0_copyFrom 2 none, Cond.methodLink RX0 55 arraycopyName, Cond.native arraycopyName, Cond.static arraycopyName, Cond.initialized "java/lang/System"]
def wsL_setBleed : List Cond := .codeWith yL_setBleed cL_setBleed 5 (some .int) [(0, 10, 13, 31), (0, 10, 17, 13)] :: ((wsL_setBleed_r1 ++ (wsL_setBleed_r2 ++ wsL_setBleed_r3)) ++ wsX10 ++ wsX00 ++ (vx_atS RX1 215 "java/lang/IndexOutOfBoundsException" ["java/lang/RuntimeException", "java/lang/Exception"]).filter goodWord ++ (vx_atS RX1 183 "java/lang/IllegalArgumentException" ["java/lang/RuntimeException", "java/lang/Exception"]).filter goodWord)
def wsL_wash_r1 : List Cond := [Cond.classLink RL 31 "java/lang/IndexOutOfBoundsException", Cond.classLink RL 13 "java/lang/IllegalArgumentException", Cond.classLink RL 15 "java/lang/IllegalStateException", Cond.methodLink RL 53 yX1_wash, Cond.instanceMethod yX1_wash, Cond.selects RX1 yX1_wash yX1_wash, Cond.initialized RX1, Cond.code yX1_wash cX1_wash 3 (some .int), Cond.fieldLink RX1 24 "EffectTrain" "now" "LEffectTrain$State;", Cond.methodLink RX1 109 yX1_checkEffect, Cond.instanceMethod yX1_checkEffect, Cond.selects RX1 yX1_checkEffect yX1_checkEffect, Cond.code yX1_checkEffect cX1_checkEffect 2 none, Cond.classLink RX1 211 "java/lang/IndexOutOfBoundsException", Cond.initialized "java/lang/IndexOutOfBoundsException", Cond.methodLink RX1 51 yX1_checkRange, Cond.static yX1_checkRange, Cond.code yX1_checkRange cX1_checkRange 3 none, Cond.classLink RX1 179 "java/lang/IllegalArgumentException", Cond.initialized "java/lang/IllegalArgumentException", Cond.methodLink RX1 141 yX1_checkWorks, Cond.instanceMethod yX1_checkWorks, Cond.selects RX1 yX1_checkWorks yX1_checkWorks, Cond.code yX1_checkWorks cX1_checkWorks 2 none]
def wsL_wash_r2 : List Cond := [Cond.classLink RX1 55 "java/lang/IllegalStateException", Cond.initialized "java/lang/IllegalStateException", Cond.methodLink RX1 129 yX1_remember, Cond.instanceMethod yX1_remember, Cond.selects RX1 yX1_remember yX1_remember, Cond.code yX1_remember cX1_remember 1 none, Cond.fieldLink RX1 38 "EffectTrain" "newest" "I", Cond.fieldLink RX1 35 "EffectTrain" "remembered" "[LEffectTrain$State;", Cond.fieldLink RX1 41 "EffectTrain" "rememberedCount" "I", Cond.methodLink RX1 151 yX1_stateAt, Cond.static yX1_stateAt, Cond.code yX1_stateAt cX1_stateAt 3 (some (.object "EffectTrain$State")), Cond.classLink RX1 21 RX0, Cond.instantiable RX0 12, Cond.initialized RX0, Cond.instanceMethod yX0_init, Cond.code yX0_init cX0_init 1 none, Cond.methodLink RX0 3 objectInit, Cond.instanceMethod objectInit, Cond.code objectInit ⟨#[0xb1]⟩ 1 none, Cond.fieldLink RX0 9 "EffectTrain$State" "n" "I", Cond.arrayClass .int, Cond.fieldLink RX0 15 "EffectTrain$State" "settings" "[I", Cond.fieldLink RX0 19 "EffectTrain$State" "clock" "I"]
def wsL_wash_r3 : List Cond := [Cond.fieldLink RX0 22 "EffectTrain$State" "counts" "[I", Cond.fieldLink RX0 25 "EffectTrain$State" "area" "[I", Cond.fieldLink RX0 28 "EffectTrain$State" "water" "[I", Cond.fieldLink RX0 31 "EffectTrain$State" "solids" "[I", Cond.fieldLink RX0 34 "EffectTrain$State" "valve" "[I", Cond.fieldLink RX0 37 "EffectTrain$State" "bleed" "[I", Cond.fieldLink RX0 40 "EffectTrain$State" "scale" "[I", Cond.fieldLink RX0 43 "EffectTrain$State" "scaling" "[I", Cond.fieldLink RX0 46 "EffectTrain$State" "left" "[I", Cond.methodLink RX0 49 yJ7_fill_53178, Cond.static yJ7_fill_53178, Cond.initialized RJ7, Cond.code yJ7_fill_53178 cJ7_fill_53178 4 none, Cond.instanceMethod yX0_copyFrom, Cond.selects RX0 yX0_copyFrom yX0_copyFrom, Cond.code yX0_copyFrom cX0_copyFrom 2 none, Cond.methodLink RX0 55 arraycopyName, Cond.native arraycopyName, Cond.static arraycopyName, Cond.initialized "java/lang/System", Cond.instanceMethod yX0_washedEffects, Cond.selects RX0 yX0_washedEffects yX0_washedEffects, Cond.code yX0_washedEffects cX0_washedEffects 3 (some .int)]
def wsL_wash : List Cond := .codeWith yL_wash cL_wash 5 (some .int) [(0, 10, 13, 31), (0, 10, 17, 13), (0, 10, 21, 15)] :: ((wsL_wash_r1 ++ (wsL_wash_r2 ++ wsL_wash_r3)) ++ wsX10 ++ wsX00 ++ (vx_atS RX1 215 "java/lang/IndexOutOfBoundsException" ["java/lang/RuntimeException", "java/lang/Exception"]).filter goodWord ++ (vx_atS RX1 183 "java/lang/IllegalArgumentException" ["java/lang/RuntimeException", "java/lang/Exception"]).filter goodWord ++ (vx_atS RX1 59 "java/lang/IllegalStateException" ["java/lang/RuntimeException", "java/lang/Exception"]).filter goodWord)
def wsL_endWash_r1 : List Cond := [Cond.classLink RL 31 "java/lang/IndexOutOfBoundsException", Cond.classLink RL 15 "java/lang/IllegalStateException", Cond.methodLink RL 56 yX1_endWash, Cond.instanceMethod yX1_endWash, Cond.selects RX1 yX1_endWash yX1_endWash, Cond.initialized RX1, Cond.code yX1_endWash cX1_endWash 3 (some .int), Cond.classLink RX1 55 "java/lang/IllegalStateException", Cond.initialized "java/lang/IllegalStateException", Cond.fieldLink RX1 24 "EffectTrain" "now" "LEffectTrain$State;", Cond.methodLink RX1 109 yX1_checkEffect, Cond.instanceMethod yX1_checkEffect, Cond.selects RX1 yX1_checkEffect yX1_checkEffect, Cond.code yX1_checkEffect cX1_checkEffect 2 none, Cond.classLink RX1 211 "java/lang/IndexOutOfBoundsException", Cond.initialized "java/lang/IndexOutOfBoundsException", Cond.methodLink RX1 129 yX1_remember, Cond.instanceMethod yX1_remember, Cond.selects RX1 yX1_remember yX1_remember, Cond.code yX1_remember cX1_remember 1 none, Cond.fieldLink RX1 38 "EffectTrain" "newest" "I", Cond.fieldLink RX1 35 "EffectTrain" "remembered" "[LEffectTrain$State;", Cond.fieldLink RX1 41 "EffectTrain" "rememberedCount" "I", Cond.methodLink RX1 151 yX1_stateAt]
def wsL_endWash_r2 : List Cond := [Cond.static yX1_stateAt, Cond.code yX1_stateAt cX1_stateAt 3 (some (.object "EffectTrain$State")), Cond.classLink RX1 21 RX0, Cond.instantiable RX0 12, Cond.initialized RX0, Cond.instanceMethod yX0_init, Cond.code yX0_init cX0_init 1 none, Cond.methodLink RX0 3 objectInit, Cond.instanceMethod objectInit, Cond.code objectInit ⟨#[0xb1]⟩ 1 none, Cond.fieldLink RX0 9 "EffectTrain$State" "n" "I", Cond.arrayClass .int, Cond.fieldLink RX0 15 "EffectTrain$State" "settings" "[I", Cond.fieldLink RX0 19 "EffectTrain$State" "clock" "I", Cond.fieldLink RX0 22 "EffectTrain$State" "counts" "[I", Cond.fieldLink RX0 25 "EffectTrain$State" "area" "[I", Cond.fieldLink RX0 28 "EffectTrain$State" "water" "[I", Cond.fieldLink RX0 31 "EffectTrain$State" "solids" "[I", Cond.fieldLink RX0 34 "EffectTrain$State" "valve" "[I", Cond.fieldLink RX0 37 "EffectTrain$State" "bleed" "[I", Cond.fieldLink RX0 40 "EffectTrain$State" "scale" "[I", Cond.fieldLink RX0 43 "EffectTrain$State" "scaling" "[I", Cond.fieldLink RX0 46 "EffectTrain$State" "left" "[I", Cond.methodLink RX0 49 yJ7_fill_53178]
def wsL_endWash_r3 : List Cond := [Cond.static yJ7_fill_53178, Cond.initialized RJ7, Cond.code yJ7_fill_53178 cJ7_fill_53178 4 none, Cond.instanceMethod yX0_copyFrom, Cond.selects RX0 yX0_copyFrom yX0_copyFrom, Cond.code yX0_copyFrom cX0_copyFrom 2 none, Cond.methodLink RX0 55 arraycopyName, Cond.native arraycopyName, Cond.static arraycopyName, Cond.initialized "java/lang/System"]
def wsL_endWash : List Cond := .codeWith yL_endWash cL_endWash 4 (some .int) [(0, 9, 12, 31), (0, 9, 15, 15)] :: ((wsL_endWash_r1 ++ (wsL_endWash_r2 ++ wsL_endWash_r3)) ++ wsX10 ++ wsX00 ++ (vx_atS RX1 59 "java/lang/IllegalStateException" ["java/lang/RuntimeException", "java/lang/Exception"]).filter goodWord ++ (vx_atS RX1 215 "java/lang/IndexOutOfBoundsException" ["java/lang/RuntimeException", "java/lang/Exception"]).filter goodWord)
def wsL_undo_r1 : List Cond := [Cond.classLink RL 15 "java/lang/IllegalStateException", Cond.methodLink RL 59 yX1_undo, Cond.instanceMethod yX1_undo, Cond.selects RX1 yX1_undo yX1_undo, Cond.initialized RX1, Cond.code yX1_undo cX1_undo 1 (some .int), Cond.classLink RX1 55 "java/lang/IllegalStateException", Cond.initialized "java/lang/IllegalStateException", Cond.fieldLink RX1 41 "EffectTrain" "rememberedCount" "I", Cond.fieldLink RX1 24 "EffectTrain" "now" "LEffectTrain$State;", Cond.fieldLink RX1 35 "EffectTrain" "remembered" "[LEffectTrain$State;", Cond.fieldLink RX1 38 "EffectTrain" "newest" "I", Cond.methodLink RX1 151 yX1_stateAt, Cond.static yX1_stateAt, Cond.code yX1_stateAt cX1_stateAt 3 (some (.object "EffectTrain$State")), Cond.classLink RX1 21 RX0, Cond.instantiable RX0 12, Cond.initialized RX0, Cond.instanceMethod yX0_init, Cond.code yX0_init cX0_init 1 none, Cond.methodLink RX0 3 objectInit, Cond.instanceMethod objectInit, Cond.code objectInit ⟨#[0xb1]⟩ 1 none, Cond.fieldLink RX0 9 "EffectTrain$State" "n" "I"]
def wsL_undo_r2 : List Cond := [Cond.arrayClass .int, Cond.fieldLink RX0 15 "EffectTrain$State" "settings" "[I", Cond.fieldLink RX0 19 "EffectTrain$State" "clock" "I", Cond.fieldLink RX0 22 "EffectTrain$State" "counts" "[I", Cond.fieldLink RX0 25 "EffectTrain$State" "area" "[I", Cond.fieldLink RX0 28 "EffectTrain$State" "water" "[I", Cond.fieldLink RX0 31 "EffectTrain$State" "solids" "[I", Cond.fieldLink RX0 34 "EffectTrain$State" "valve" "[I", Cond.fieldLink RX0 37 "EffectTrain$State" "bleed" "[I", Cond.fieldLink RX0 40 "EffectTrain$State" "scale" "[I", Cond.fieldLink RX0 43 "EffectTrain$State" "scaling" "[I", Cond.fieldLink RX0 46 "EffectTrain$State" "left" "[I", Cond.methodLink RX0 49 yJ7_fill_53178, Cond.static yJ7_fill_53178, Cond.initialized RJ7, Cond.code yJ7_fill_53178 cJ7_fill_53178 4 none, Cond.instanceMethod yX0_copyFrom, Cond.selects RX0 yX0_copyFrom yX0_copyFrom, Cond.code yX0_copyFrom cX0_copyFrom 2 none, Cond.methodLink RX0 55 arraycopyName, Cond.native arraycopyName, Cond.static arraycopyName, Cond.initialized "java/lang/System"]
def wsL_undo : List Cond := .codeWith yL_undo cL_undo 3 (some .int) [(0, 8, 11, 15)] :: ((wsL_undo_r1 ++ wsL_undo_r2) ++ wsX10 ++ wsX00 ++ (vx_atS RX1 59 "java/lang/IllegalStateException" ["java/lang/RuntimeException", "java/lang/Exception"]).filter goodWord)
def wsL_ahead_r1 : List Cond := [Cond.classLink RL 31 "java/lang/IndexOutOfBoundsException", Cond.classLink RL 13 "java/lang/IllegalArgumentException", Cond.methodLink RL 62 yX1_ahead, Cond.instanceMethod yX1_ahead, Cond.selects RX1 yX1_ahead yX1_ahead, Cond.initialized RX1, Cond.code yX1_ahead cX1_ahead 4 (some .int), Cond.fieldLink RX1 28 "EffectTrain" "trial" "LEffectTrain$State;", Cond.fieldLink RX1 24 "EffectTrain" "now" "LEffectTrain$State;", Cond.methodLink RX1 109 yX1_checkEffect, Cond.instanceMethod yX1_checkEffect, Cond.selects RX1 yX1_checkEffect yX1_checkEffect, Cond.code yX1_checkEffect cX1_checkEffect 2 none, Cond.classLink RX1 211 "java/lang/IndexOutOfBoundsException", Cond.initialized "java/lang/IndexOutOfBoundsException", Cond.methodLink RX1 51 yX1_checkRange, Cond.static yX1_checkRange, Cond.code yX1_checkRange cX1_checkRange 3 none, Cond.classLink RX1 179 "java/lang/IllegalArgumentException", Cond.initialized "java/lang/IllegalArgumentException", Cond.instanceMethod yX0_copyFrom, Cond.initialized RX0, Cond.selects RX0 yX0_copyFrom yX0_copyFrom, Cond.code yX0_copyFrom cX0_copyFrom 2 none]
def wsL_ahead_r2 : List Cond := [Cond.fieldLink RX0 9 "EffectTrain$State" "n" "I", Cond.fieldLink RX0 19 "EffectTrain$State" "clock" "I", Cond.fieldLink RX0 15 "EffectTrain$State" "settings" "[I", Cond.methodLink RX0 55 arraycopyName, Cond.native arraycopyName, Cond.static arraycopyName, Cond.initialized "java/lang/System", Cond.fieldLink RX0 22 "EffectTrain$State" "counts" "[I", Cond.fieldLink RX0 25 "EffectTrain$State" "area" "[I", Cond.fieldLink RX0 28 "EffectTrain$State" "water" "[I", Cond.fieldLink RX0 31 "EffectTrain$State" "solids" "[I", Cond.fieldLink RX0 34 "EffectTrain$State" "valve" "[I", Cond.fieldLink RX0 37 "EffectTrain$State" "bleed" "[I", Cond.fieldLink RX0 40 "EffectTrain$State" "scale" "[I", Cond.fieldLink RX0 43 "EffectTrain$State" "scaling" "[I", Cond.fieldLink RX0 46 "EffectTrain$State" "left" "[I", Cond.instanceMethod yX0_pass, Cond.selects RX0 yX0_pass yX0_pass, Cond.code yX0_pass cX0_pass 4 (some .int), Cond.methodLink RX0 68 yX0_beginWashInTurn, Cond.instanceMethod yX0_beginWashInTurn, Cond.selects RX0 yX0_beginWashInTurn yX0_beginWashInTurn, Cond.code yX0_beginWashInTurn cX0_beginWashInTurn 4 none, Cond.methodLink RX0 80 yX0_washedEffects]
def wsL_ahead_r3 : List Cond := [Cond.instanceMethod yX0_washedEffects, Cond.selects RX0 yX0_washedEffects yX0_washedEffects, Cond.code yX0_washedEffects cX0_washedEffects 3 (some .int), Cond.methodLink RX0 71 yX0_boilAll, Cond.instanceMethod yX0_boilAll, Cond.selects RX0 yX0_boilAll yX0_boilAll, Cond.code yX0_boilAll cX0_boilAll 4 none, Cond.methodLink RX0 84 yX0_boil, Cond.instanceMethod yX0_boil, Cond.selects RX0 yX0_boil yX0_boil, Cond.code yX0_boil cX0_boil 7 (some .int), Cond.methodLink RX0 88 Lib.Math.min.name, Cond.static Lib.Math.min.name, Cond.initialized "java/lang/Math", Cond.code Lib.Math.min.name Lib.Math.min.code 2 (some .int), Cond.methodLink RX0 61 yX0_thickness, Cond.instanceMethod yX0_thickness, Cond.selects RX0 yX0_thickness yX0_thickness, Cond.code yX0_thickness cX0_thickness 3 (some .int), Cond.methodLink RX0 65 yX0_power, Cond.instanceMethod yX0_power, Cond.selects RX0 yX0_power yX0_power, Cond.code yX0_power cX0_power 3 (some .int), Cond.methodLink RX0 74 yX0_flowOn]
def wsL_ahead_r4 : List Cond := [Cond.instanceMethod yX0_flowOn, Cond.selects RX0 yX0_flowOn yX0_flowOn, Cond.code yX0_flowOn cX0_flowOn 9 none, Cond.methodLink RX0 93 yX0_effectBehind, Cond.instanceMethod yX0_effectBehind, Cond.selects RX0 yX0_effectBehind yX0_effectBehind, Cond.code yX0_effectBehind cX0_effectBehind 3 (some .int), Cond.methodLink RX0 96 yX0_amount, Cond.instanceMethod yX0_amount, Cond.selects RX0 yX0_amount yX0_amount, Cond.code yX0_amount cX0_amount 2 (some .int), Cond.methodLink RX0 99 yX0_flowFrom, Cond.instanceMethod yX0_flowFrom, Cond.selects RX0 yX0_flowFrom yX0_flowFrom, Cond.code yX0_flowFrom cX0_flowFrom 4 (some .int), Cond.methodLink RX0 77 yX0_washOn, Cond.instanceMethod yX0_washOn, Cond.selects RX0 yX0_washOn yX0_washOn, Cond.code yX0_washOn cX0_washOn 2 none, Cond.methodLink RX0 102 Lib.Math.max.name, Cond.static Lib.Math.max.name, Cond.code Lib.Math.max.name Lib.Math.max.code 2 (some .int), Cond.instanceMethod yX0_numberOf, Cond.selects RX0 yX0_numberOf yX0_numberOf]
def wsL_ahead_r5 : List Cond := [Cond.code yX0_numberOf cX0_numberOf 3 (some .int)]
def wsL_ahead : List Cond := .codeWith yL_ahead cL_ahead 6 (some .int) [(0, 12, 15, 31), (0, 12, 19, 13)] :: ((wsL_ahead_r1 ++ (wsL_ahead_r2 ++ (wsL_ahead_r3 ++ (wsL_ahead_r4 ++ wsL_ahead_r5)))) ++ wsX10 ++ wsX00 ++ (vx_atS RX1 215 "java/lang/IndexOutOfBoundsException" ["java/lang/RuntimeException", "java/lang/Exception"]).filter goodWord ++ (vx_atS RX1 183 "java/lang/IllegalArgumentException" ["java/lang/RuntimeException", "java/lang/Exception"]).filter goodWord)
def wsL_growth_r1 : List Cond := [Cond.classLink RL 13 "java/lang/IllegalArgumentException", Cond.methodLink RL 66 yX1_growth, Cond.instanceMethod yX1_growth, Cond.selects RX1 yX1_growth yX1_growth, Cond.initialized RX1, Cond.code yX1_growth cX1_growth 3 (some .int), Cond.fieldLink RX1 28 "EffectTrain" "trial" "LEffectTrain$State;", Cond.fieldLink RX1 24 "EffectTrain" "now" "LEffectTrain$State;", Cond.methodLink RX1 51 yX1_checkRange, Cond.static yX1_checkRange, Cond.code yX1_checkRange cX1_checkRange 3 none, Cond.classLink RX1 179 "java/lang/IllegalArgumentException", Cond.initialized "java/lang/IllegalArgumentException", Cond.instanceMethod yX0_copyFrom, Cond.initialized RX0, Cond.selects RX0 yX0_copyFrom yX0_copyFrom, Cond.code yX0_copyFrom cX0_copyFrom 2 none, Cond.fieldLink RX0 9 "EffectTrain$State" "n" "I", Cond.fieldLink RX0 19 "EffectTrain$State" "clock" "I", Cond.fieldLink RX0 15 "EffectTrain$State" "settings" "[I", Cond.methodLink RX0 55 arraycopyName, Cond.native arraycopyName, Cond.static arraycopyName, Cond.initialized "java/lang/System"]
def wsL_growth_r2 : List Cond := [Cond.fieldLink RX0 22 "EffectTrain$State" "counts" "[I", Cond.fieldLink RX0 25 "EffectTrain$State" "area" "[I", Cond.fieldLink RX0 28 "EffectTrain$State" "water" "[I", Cond.fieldLink RX0 31 "EffectTrain$State" "solids" "[I", Cond.fieldLink RX0 34 "EffectTrain$State" "valve" "[I", Cond.fieldLink RX0 37 "EffectTrain$State" "bleed" "[I", Cond.fieldLink RX0 40 "EffectTrain$State" "scale" "[I", Cond.fieldLink RX0 43 "EffectTrain$State" "scaling" "[I", Cond.fieldLink RX0 46 "EffectTrain$State" "left" "[I", Cond.instanceMethod yX0_pass, Cond.selects RX0 yX0_pass yX0_pass, Cond.code yX0_pass cX0_pass 4 (some .int), Cond.methodLink RX0 68 yX0_beginWashInTurn, Cond.instanceMethod yX0_beginWashInTurn, Cond.selects RX0 yX0_beginWashInTurn yX0_beginWashInTurn, Cond.code yX0_beginWashInTurn cX0_beginWashInTurn 4 none, Cond.methodLink RX0 80 yX0_washedEffects, Cond.instanceMethod yX0_washedEffects, Cond.selects RX0 yX0_washedEffects yX0_washedEffects, Cond.code yX0_washedEffects cX0_washedEffects 3 (some .int), Cond.methodLink RX0 71 yX0_boilAll, Cond.instanceMethod yX0_boilAll, Cond.selects RX0 yX0_boilAll yX0_boilAll, Cond.code yX0_boilAll cX0_boilAll 4 none]
def wsL_growth_r3 : List Cond := [Cond.methodLink RX0 84 yX0_boil, Cond.instanceMethod yX0_boil, Cond.selects RX0 yX0_boil yX0_boil, Cond.code yX0_boil cX0_boil 7 (some .int), Cond.methodLink RX0 88 Lib.Math.min.name, Cond.static Lib.Math.min.name, Cond.initialized "java/lang/Math", Cond.code Lib.Math.min.name Lib.Math.min.code 2 (some .int), Cond.methodLink RX0 61 yX0_thickness, Cond.instanceMethod yX0_thickness, Cond.selects RX0 yX0_thickness yX0_thickness, Cond.code yX0_thickness cX0_thickness 3 (some .int), Cond.methodLink RX0 65 yX0_power, Cond.instanceMethod yX0_power, Cond.selects RX0 yX0_power yX0_power, Cond.code yX0_power cX0_power 3 (some .int), Cond.methodLink RX0 74 yX0_flowOn, Cond.instanceMethod yX0_flowOn, Cond.selects RX0 yX0_flowOn yX0_flowOn, Cond.code yX0_flowOn cX0_flowOn 9 none, Cond.methodLink RX0 93 yX0_effectBehind, Cond.instanceMethod yX0_effectBehind, Cond.selects RX0 yX0_effectBehind yX0_effectBehind, Cond.code yX0_effectBehind cX0_effectBehind 3 (some .int)]
def wsL_growth_r4 : List Cond := [Cond.methodLink RX0 96 yX0_amount, Cond.instanceMethod yX0_amount, Cond.selects RX0 yX0_amount yX0_amount, Cond.code yX0_amount cX0_amount 2 (some .int), Cond.methodLink RX0 99 yX0_flowFrom, Cond.instanceMethod yX0_flowFrom, Cond.selects RX0 yX0_flowFrom yX0_flowFrom, Cond.code yX0_flowFrom cX0_flowFrom 4 (some .int), Cond.methodLink RX0 77 yX0_washOn, Cond.instanceMethod yX0_washOn, Cond.selects RX0 yX0_washOn yX0_washOn, Cond.code yX0_washOn cX0_washOn 2 none, Cond.methodLink RX0 102 Lib.Math.max.name, Cond.static Lib.Math.max.name, Cond.code Lib.Math.max.name Lib.Math.max.code 2 (some .int)]
def wsL_growth : List Cond := .codeWith yL_growth cL_growth 5 (some .int) [(0, 10, 13, 13)] :: ((wsL_growth_r1 ++ (wsL_growth_r2 ++ (wsL_growth_r3 ++ wsL_growth_r4))) ++ wsX10 ++ wsX00 ++ (vx_atS RX1 183 "java/lang/IllegalArgumentException" ["java/lang/RuntimeException", "java/lang/Exception"]).filter goodWord)
def wsL_washGain_r1 : List Cond := [Cond.classLink RL 31 "java/lang/IndexOutOfBoundsException", Cond.classLink RL 13 "java/lang/IllegalArgumentException", Cond.classLink RL 15 "java/lang/IllegalStateException", Cond.methodLink RL 69 yX1_washGain, Cond.instanceMethod yX1_washGain, Cond.selects RX1 yX1_washGain yX1_washGain, Cond.initialized RX1, Cond.code yX1_washGain cX1_washGain 5 (some .int), Cond.fieldLink RX1 28 "EffectTrain" "trial" "LEffectTrain$State;", Cond.fieldLink RX1 24 "EffectTrain" "now" "LEffectTrain$State;", Cond.methodLink RX1 109 yX1_checkEffect, Cond.instanceMethod yX1_checkEffect, Cond.selects RX1 yX1_checkEffect yX1_checkEffect, Cond.code yX1_checkEffect cX1_checkEffect 2 none, Cond.classLink RX1 211 "java/lang/IndexOutOfBoundsException", Cond.initialized "java/lang/IndexOutOfBoundsException", Cond.methodLink RX1 51 yX1_checkRange, Cond.static yX1_checkRange, Cond.code yX1_checkRange cX1_checkRange 3 none, Cond.classLink RX1 179 "java/lang/IllegalArgumentException", Cond.initialized "java/lang/IllegalArgumentException", Cond.methodLink RX1 141 yX1_checkWorks, Cond.instanceMethod yX1_checkWorks, Cond.selects RX1 yX1_checkWorks yX1_checkWorks]
def wsL_washGain_r2 : List Cond := [Cond.code yX1_checkWorks cX1_checkWorks 2 none, Cond.classLink RX1 55 "java/lang/IllegalStateException", Cond.initialized "java/lang/IllegalStateException", Cond.instanceMethod yX0_copyFrom, Cond.initialized RX0, Cond.selects RX0 yX0_copyFrom yX0_copyFrom, Cond.code yX0_copyFrom cX0_copyFrom 2 none, Cond.fieldLink RX0 9 "EffectTrain$State" "n" "I", Cond.fieldLink RX0 19 "EffectTrain$State" "clock" "I", Cond.fieldLink RX0 15 "EffectTrain$State" "settings" "[I", Cond.methodLink RX0 55 arraycopyName, Cond.native arraycopyName, Cond.static arraycopyName, Cond.initialized "java/lang/System", Cond.fieldLink RX0 22 "EffectTrain$State" "counts" "[I", Cond.fieldLink RX0 25 "EffectTrain$State" "area" "[I", Cond.fieldLink RX0 28 "EffectTrain$State" "water" "[I", Cond.fieldLink RX0 31 "EffectTrain$State" "solids" "[I", Cond.fieldLink RX0 34 "EffectTrain$State" "valve" "[I", Cond.fieldLink RX0 37 "EffectTrain$State" "bleed" "[I", Cond.fieldLink RX0 40 "EffectTrain$State" "scale" "[I", Cond.fieldLink RX0 43 "EffectTrain$State" "scaling" "[I", Cond.fieldLink RX0 46 "EffectTrain$State" "left" "[I", Cond.instanceMethod yX0_pass]
def wsL_washGain_r3 : List Cond := [Cond.selects RX0 yX0_pass yX0_pass, Cond.code yX0_pass cX0_pass 4 (some .int), Cond.methodLink RX0 68 yX0_beginWashInTurn, Cond.instanceMethod yX0_beginWashInTurn, Cond.selects RX0 yX0_beginWashInTurn yX0_beginWashInTurn, Cond.code yX0_beginWashInTurn cX0_beginWashInTurn 4 none, Cond.methodLink RX0 80 yX0_washedEffects, Cond.instanceMethod yX0_washedEffects, Cond.selects RX0 yX0_washedEffects yX0_washedEffects, Cond.code yX0_washedEffects cX0_washedEffects 3 (some .int), Cond.methodLink RX0 71 yX0_boilAll, Cond.instanceMethod yX0_boilAll, Cond.selects RX0 yX0_boilAll yX0_boilAll, Cond.code yX0_boilAll cX0_boilAll 4 none, Cond.methodLink RX0 84 yX0_boil, Cond.instanceMethod yX0_boil, Cond.selects RX0 yX0_boil yX0_boil, Cond.code yX0_boil cX0_boil 7 (some .int), Cond.methodLink RX0 88 Lib.Math.min.name, Cond.static Lib.Math.min.name, Cond.initialized "java/lang/Math", Cond.code Lib.Math.min.name Lib.Math.min.code 2 (some .int), Cond.methodLink RX0 61 yX0_thickness, Cond.instanceMethod yX0_thickness]
def wsL_washGain_r4 : List Cond := [Cond.selects RX0 yX0_thickness yX0_thickness, Cond.code yX0_thickness cX0_thickness 3 (some .int), Cond.methodLink RX0 65 yX0_power, Cond.instanceMethod yX0_power, Cond.selects RX0 yX0_power yX0_power, Cond.code yX0_power cX0_power 3 (some .int), Cond.methodLink RX0 74 yX0_flowOn, Cond.instanceMethod yX0_flowOn, Cond.selects RX0 yX0_flowOn yX0_flowOn, Cond.code yX0_flowOn cX0_flowOn 9 none, Cond.methodLink RX0 93 yX0_effectBehind, Cond.instanceMethod yX0_effectBehind, Cond.selects RX0 yX0_effectBehind yX0_effectBehind, Cond.code yX0_effectBehind cX0_effectBehind 3 (some .int), Cond.methodLink RX0 96 yX0_amount, Cond.instanceMethod yX0_amount, Cond.selects RX0 yX0_amount yX0_amount, Cond.code yX0_amount cX0_amount 2 (some .int), Cond.methodLink RX0 99 yX0_flowFrom, Cond.instanceMethod yX0_flowFrom, Cond.selects RX0 yX0_flowFrom yX0_flowFrom, Cond.code yX0_flowFrom cX0_flowFrom 4 (some .int), Cond.methodLink RX0 77 yX0_washOn, Cond.instanceMethod yX0_washOn]
def wsL_washGain_r5 : List Cond := [Cond.selects RX0 yX0_washOn yX0_washOn, Cond.code yX0_washOn cX0_washOn 2 none, Cond.methodLink RX0 102 Lib.Math.max.name, Cond.static Lib.Math.max.name, Cond.code Lib.Math.max.name Lib.Math.max.code 2 (some .int)]
def wsL_washGain : List Cond := .codeWith yL_washGain cL_washGain 6 (some .int) [(0, 12, 15, 31), (0, 12, 19, 13), (0, 12, 23, 15)] :: ((wsL_washGain_r1 ++ (wsL_washGain_r2 ++ (wsL_washGain_r3 ++ (wsL_washGain_r4 ++ wsL_washGain_r5)))) ++ wsX10 ++ wsX00 ++ (vx_atS RX1 215 "java/lang/IndexOutOfBoundsException" ["java/lang/RuntimeException", "java/lang/Exception"]).filter goodWord ++ (vx_atS RX1 183 "java/lang/IllegalArgumentException" ["java/lang/RuntimeException", "java/lang/Exception"]).filter goodWord ++ (vx_atS RX1 59 "java/lang/IllegalStateException" ["java/lang/RuntimeException", "java/lang/Exception"]).filter goodWord)
def wsL_bestTurns_r1 : List Cond := [Cond.classLink RL 13 "java/lang/IllegalArgumentException", Cond.methodLink RL 72 yX1_bestTurns, Cond.instanceMethod yX1_bestTurns, Cond.selects RX1 yX1_bestTurns yX1_bestTurns, Cond.initialized RX1, Cond.code yX1_bestTurns cX1_bestTurns 7 (some .int), Cond.fieldLink RX1 24 "EffectTrain" "now" "LEffectTrain$State;", Cond.methodLink RX1 51 yX1_checkRange, Cond.static yX1_checkRange, Cond.code yX1_checkRange cX1_checkRange 3 none, Cond.classLink RX1 179 "java/lang/IllegalArgumentException", Cond.initialized "java/lang/IllegalArgumentException", Cond.methodLink RX1 159 yX1_vaporWithChoice, Cond.instanceMethod yX1_vaporWithChoice, Cond.selects RX1 yX1_vaporWithChoice yX1_vaporWithChoice, Cond.code yX1_vaporWithChoice cX1_vaporWithChoice 5 (some .int), Cond.fieldLink RX1 31 "EffectTrain" "turnStates" "[LEffectTrain$State;", Cond.methodLink RX1 151 yX1_stateAt, Cond.static yX1_stateAt, Cond.code yX1_stateAt cX1_stateAt 3 (some (.object "EffectTrain$State")), Cond.classLink RX1 21 RX0, Cond.instantiable RX0 12, Cond.initialized RX0, Cond.instanceMethod yX0_init]
def wsL_bestTurns_r2 : List Cond := [Cond.code yX0_init cX0_init 1 none, Cond.methodLink RX0 3 objectInit, Cond.instanceMethod objectInit, Cond.code objectInit ⟨#[0xb1]⟩ 1 none, Cond.fieldLink RX0 9 "EffectTrain$State" "n" "I", Cond.arrayClass .int, Cond.fieldLink RX0 15 "EffectTrain$State" "settings" "[I", Cond.fieldLink RX0 19 "EffectTrain$State" "clock" "I", Cond.fieldLink RX0 22 "EffectTrain$State" "counts" "[I", Cond.fieldLink RX0 25 "EffectTrain$State" "area" "[I", Cond.fieldLink RX0 28 "EffectTrain$State" "water" "[I", Cond.fieldLink RX0 31 "EffectTrain$State" "solids" "[I", Cond.fieldLink RX0 34 "EffectTrain$State" "valve" "[I", Cond.fieldLink RX0 37 "EffectTrain$State" "bleed" "[I", Cond.fieldLink RX0 40 "EffectTrain$State" "scale" "[I", Cond.fieldLink RX0 43 "EffectTrain$State" "scaling" "[I", Cond.fieldLink RX0 46 "EffectTrain$State" "left" "[I", Cond.methodLink RX0 49 yJ7_fill_53178, Cond.static yJ7_fill_53178, Cond.initialized RJ7, Cond.code yJ7_fill_53178 cJ7_fill_53178 4 none, Cond.instanceMethod yX0_copyFrom, Cond.selects RX0 yX0_copyFrom yX0_copyFrom, Cond.code yX0_copyFrom cX0_copyFrom 2 none]
def wsL_bestTurns_r3 : List Cond := [Cond.methodLink RX0 55 arraycopyName, Cond.native arraycopyName, Cond.static arraycopyName, Cond.initialized "java/lang/System", Cond.instanceMethod yX0_pass, Cond.selects RX0 yX0_pass yX0_pass, Cond.code yX0_pass cX0_pass 4 (some .int), Cond.methodLink RX0 68 yX0_beginWashInTurn, Cond.instanceMethod yX0_beginWashInTurn, Cond.selects RX0 yX0_beginWashInTurn yX0_beginWashInTurn, Cond.code yX0_beginWashInTurn cX0_beginWashInTurn 4 none, Cond.methodLink RX0 80 yX0_washedEffects, Cond.instanceMethod yX0_washedEffects, Cond.selects RX0 yX0_washedEffects yX0_washedEffects, Cond.code yX0_washedEffects cX0_washedEffects 3 (some .int), Cond.methodLink RX0 71 yX0_boilAll, Cond.instanceMethod yX0_boilAll, Cond.selects RX0 yX0_boilAll yX0_boilAll, Cond.code yX0_boilAll cX0_boilAll 4 none, Cond.methodLink RX0 84 yX0_boil, Cond.instanceMethod yX0_boil, Cond.selects RX0 yX0_boil yX0_boil, Cond.code yX0_boil cX0_boil 7 (some .int), Cond.methodLink RX0 88 Lib.Math.min.name]
def wsL_bestTurns_r4 : List Cond := [Cond.static Lib.Math.min.name, Cond.initialized "java/lang/Math", Cond.code Lib.Math.min.name Lib.Math.min.code 2 (some .int), Cond.methodLink RX0 61 yX0_thickness, Cond.instanceMethod yX0_thickness, Cond.selects RX0 yX0_thickness yX0_thickness, Cond.code yX0_thickness cX0_thickness 3 (some .int), Cond.methodLink RX0 65 yX0_power, Cond.instanceMethod yX0_power, Cond.selects RX0 yX0_power yX0_power, Cond.code yX0_power cX0_power 3 (some .int), Cond.methodLink RX0 74 yX0_flowOn, Cond.instanceMethod yX0_flowOn, Cond.selects RX0 yX0_flowOn yX0_flowOn, Cond.code yX0_flowOn cX0_flowOn 9 none, Cond.methodLink RX0 93 yX0_effectBehind, Cond.instanceMethod yX0_effectBehind, Cond.selects RX0 yX0_effectBehind yX0_effectBehind, Cond.code yX0_effectBehind cX0_effectBehind 3 (some .int), Cond.methodLink RX0 96 yX0_amount, Cond.instanceMethod yX0_amount, Cond.selects RX0 yX0_amount yX0_amount, Cond.code yX0_amount cX0_amount 2 (some .int), Cond.methodLink RX0 99 yX0_flowFrom]
def wsL_bestTurns_r5 : List Cond := [Cond.instanceMethod yX0_flowFrom, Cond.selects RX0 yX0_flowFrom yX0_flowFrom, Cond.code yX0_flowFrom cX0_flowFrom 4 (some .int), Cond.methodLink RX0 77 yX0_washOn, Cond.instanceMethod yX0_washOn, Cond.selects RX0 yX0_washOn yX0_washOn, Cond.code yX0_washOn cX0_washOn 2 none, Cond.methodLink RX0 102 Lib.Math.max.name, Cond.static Lib.Math.max.name, Cond.code Lib.Math.max.name Lib.Math.max.code 2 (some .int), Cond.methodLink RX1 163 yX1_greatestVapor, Cond.instanceMethod yX1_greatestVapor, Cond.selects RX1 yX1_greatestVapor yX1_greatestVapor, Cond.code yX1_greatestVapor cX1_greatestVapor 5 (some .int), Cond.methodLink RX1 167 Lib.Math.max.name]
def wsL_bestTurns : List Cond := .codeWith yL_bestTurns cL_bestTurns 5 (some .int) [(0, 10, 13, 13)] :: ((wsL_bestTurns_r1 ++ (wsL_bestTurns_r2 ++ (wsL_bestTurns_r3 ++ (wsL_bestTurns_r4 ++ wsL_bestTurns_r5)))) ++ wsX10 ++ wsX00 ++ (vx_atS RX1 183 "java/lang/IllegalArgumentException" ["java/lang/RuntimeException", "java/lang/Exception"]).filter goodWord)
def wsL_scaledAfter_r1 : List Cond := [Cond.classLink RL 31 "java/lang/IndexOutOfBoundsException", Cond.classLink RL 13 "java/lang/IllegalArgumentException", Cond.methodLink RL 75 yX1_scaledAfter, Cond.instanceMethod yX1_scaledAfter, Cond.selects RX1 yX1_scaledAfter yX1_scaledAfter, Cond.initialized RX1, Cond.code yX1_scaledAfter cX1_scaledAfter 4 (some .int), Cond.fieldLink RX1 28 "EffectTrain" "trial" "LEffectTrain$State;", Cond.fieldLink RX1 24 "EffectTrain" "now" "LEffectTrain$State;", Cond.methodLink RX1 109 yX1_checkEffect, Cond.instanceMethod yX1_checkEffect, Cond.selects RX1 yX1_checkEffect yX1_checkEffect, Cond.code yX1_checkEffect cX1_checkEffect 2 none, Cond.classLink RX1 211 "java/lang/IndexOutOfBoundsException", Cond.initialized "java/lang/IndexOutOfBoundsException", Cond.methodLink RX1 51 yX1_checkRange, Cond.static yX1_checkRange, Cond.code yX1_checkRange cX1_checkRange 3 none, Cond.classLink RX1 179 "java/lang/IllegalArgumentException", Cond.initialized "java/lang/IllegalArgumentException", Cond.instanceMethod yX0_copyFrom, Cond.initialized RX0, Cond.selects RX0 yX0_copyFrom yX0_copyFrom, Cond.code yX0_copyFrom cX0_copyFrom 2 none]
def wsL_scaledAfter_r2 : List Cond := [Cond.fieldLink RX0 9 "EffectTrain$State" "n" "I", Cond.fieldLink RX0 19 "EffectTrain$State" "clock" "I", Cond.fieldLink RX0 15 "EffectTrain$State" "settings" "[I", Cond.methodLink RX0 55 arraycopyName, Cond.native arraycopyName, Cond.static arraycopyName, Cond.initialized "java/lang/System", Cond.fieldLink RX0 22 "EffectTrain$State" "counts" "[I", Cond.fieldLink RX0 25 "EffectTrain$State" "area" "[I", Cond.fieldLink RX0 28 "EffectTrain$State" "water" "[I", Cond.fieldLink RX0 31 "EffectTrain$State" "solids" "[I", Cond.fieldLink RX0 34 "EffectTrain$State" "valve" "[I", Cond.fieldLink RX0 37 "EffectTrain$State" "bleed" "[I", Cond.fieldLink RX0 40 "EffectTrain$State" "scale" "[I", Cond.fieldLink RX0 43 "EffectTrain$State" "scaling" "[I", Cond.fieldLink RX0 46 "EffectTrain$State" "left" "[I", Cond.instanceMethod yX0_pass, Cond.selects RX0 yX0_pass yX0_pass, Cond.code yX0_pass cX0_pass 4 (some .int), Cond.methodLink RX0 68 yX0_beginWashInTurn, Cond.instanceMethod yX0_beginWashInTurn, Cond.selects RX0 yX0_beginWashInTurn yX0_beginWashInTurn, Cond.code yX0_beginWashInTurn cX0_beginWashInTurn 4 none, Cond.methodLink RX0 80 yX0_washedEffects]
def wsL_scaledAfter_r3 : List Cond := [Cond.instanceMethod yX0_washedEffects, Cond.selects RX0 yX0_washedEffects yX0_washedEffects, Cond.code yX0_washedEffects cX0_washedEffects 3 (some .int), Cond.methodLink RX0 71 yX0_boilAll, Cond.instanceMethod yX0_boilAll, Cond.selects RX0 yX0_boilAll yX0_boilAll, Cond.code yX0_boilAll cX0_boilAll 4 none, Cond.methodLink RX0 84 yX0_boil, Cond.instanceMethod yX0_boil, Cond.selects RX0 yX0_boil yX0_boil, Cond.code yX0_boil cX0_boil 7 (some .int), Cond.methodLink RX0 88 Lib.Math.min.name, Cond.static Lib.Math.min.name, Cond.initialized "java/lang/Math", Cond.code Lib.Math.min.name Lib.Math.min.code 2 (some .int), Cond.methodLink RX0 61 yX0_thickness, Cond.instanceMethod yX0_thickness, Cond.selects RX0 yX0_thickness yX0_thickness, Cond.code yX0_thickness cX0_thickness 3 (some .int), Cond.methodLink RX0 65 yX0_power, Cond.instanceMethod yX0_power, Cond.selects RX0 yX0_power yX0_power, Cond.code yX0_power cX0_power 3 (some .int), Cond.methodLink RX0 74 yX0_flowOn]
def wsL_scaledAfter_r4 : List Cond := [Cond.instanceMethod yX0_flowOn, Cond.selects RX0 yX0_flowOn yX0_flowOn, Cond.code yX0_flowOn cX0_flowOn 9 none, Cond.methodLink RX0 93 yX0_effectBehind, Cond.instanceMethod yX0_effectBehind, Cond.selects RX0 yX0_effectBehind yX0_effectBehind, Cond.code yX0_effectBehind cX0_effectBehind 3 (some .int), Cond.methodLink RX0 96 yX0_amount, Cond.instanceMethod yX0_amount, Cond.selects RX0 yX0_amount yX0_amount, Cond.code yX0_amount cX0_amount 2 (some .int), Cond.methodLink RX0 99 yX0_flowFrom, Cond.instanceMethod yX0_flowFrom, Cond.selects RX0 yX0_flowFrom yX0_flowFrom, Cond.code yX0_flowFrom cX0_flowFrom 4 (some .int), Cond.methodLink RX0 77 yX0_washOn, Cond.instanceMethod yX0_washOn, Cond.selects RX0 yX0_washOn yX0_washOn, Cond.code yX0_washOn cX0_washOn 2 none, Cond.methodLink RX0 102 Lib.Math.max.name, Cond.static Lib.Math.max.name, Cond.code Lib.Math.max.name Lib.Math.max.code 2 (some .int)]
def wsL_scaledAfter : List Cond := .codeWith yL_scaledAfter cL_scaledAfter 5 (some .int) [(0, 10, 13, 31), (0, 10, 17, 13)] :: ((wsL_scaledAfter_r1 ++ (wsL_scaledAfter_r2 ++ (wsL_scaledAfter_r3 ++ wsL_scaledAfter_r4))) ++ wsX10 ++ wsX00 ++ (vx_atS RX1 215 "java/lang/IndexOutOfBoundsException" ["java/lang/RuntimeException", "java/lang/Exception"]).filter goodWord ++ (vx_atS RX1 183 "java/lang/IllegalArgumentException" ["java/lang/RuntimeException", "java/lang/Exception"]).filter goodWord)
def wsL_steamFor_r1 : List Cond := [Cond.classLink RL 13 "java/lang/IllegalArgumentException", Cond.methodLink RL 78 yX1_steamFor, Cond.instanceMethod yX1_steamFor, Cond.selects RX1 yX1_steamFor yX1_steamFor, Cond.initialized RX1, Cond.code yX1_steamFor cX1_steamFor 4 (some .int), Cond.fieldLink RX1 28 "EffectTrain" "trial" "LEffectTrain$State;", Cond.fieldLink RX1 24 "EffectTrain" "now" "LEffectTrain$State;", Cond.methodLink RX1 51 yX1_checkRange, Cond.static yX1_checkRange, Cond.code yX1_checkRange cX1_checkRange 3 none, Cond.classLink RX1 179 "java/lang/IllegalArgumentException", Cond.initialized "java/lang/IllegalArgumentException", Cond.instanceMethod yX0_copyFrom, Cond.initialized RX0, Cond.selects RX0 yX0_copyFrom yX0_copyFrom, Cond.code yX0_copyFrom cX0_copyFrom 2 none, Cond.fieldLink RX0 9 "EffectTrain$State" "n" "I", Cond.fieldLink RX0 19 "EffectTrain$State" "clock" "I", Cond.fieldLink RX0 15 "EffectTrain$State" "settings" "[I", Cond.methodLink RX0 55 arraycopyName, Cond.native arraycopyName, Cond.static arraycopyName, Cond.initialized "java/lang/System"]
def wsL_steamFor_r2 : List Cond := [Cond.fieldLink RX0 22 "EffectTrain$State" "counts" "[I", Cond.fieldLink RX0 25 "EffectTrain$State" "area" "[I", Cond.fieldLink RX0 28 "EffectTrain$State" "water" "[I", Cond.fieldLink RX0 31 "EffectTrain$State" "solids" "[I", Cond.fieldLink RX0 34 "EffectTrain$State" "valve" "[I", Cond.fieldLink RX0 37 "EffectTrain$State" "bleed" "[I", Cond.fieldLink RX0 40 "EffectTrain$State" "scale" "[I", Cond.fieldLink RX0 43 "EffectTrain$State" "scaling" "[I", Cond.fieldLink RX0 46 "EffectTrain$State" "left" "[I", Cond.instanceMethod yX0_pass, Cond.selects RX0 yX0_pass yX0_pass, Cond.code yX0_pass cX0_pass 4 (some .int), Cond.methodLink RX0 68 yX0_beginWashInTurn, Cond.instanceMethod yX0_beginWashInTurn, Cond.selects RX0 yX0_beginWashInTurn yX0_beginWashInTurn, Cond.code yX0_beginWashInTurn cX0_beginWashInTurn 4 none, Cond.methodLink RX0 80 yX0_washedEffects, Cond.instanceMethod yX0_washedEffects, Cond.selects RX0 yX0_washedEffects yX0_washedEffects, Cond.code yX0_washedEffects cX0_washedEffects 3 (some .int), Cond.methodLink RX0 71 yX0_boilAll, Cond.instanceMethod yX0_boilAll, Cond.selects RX0 yX0_boilAll yX0_boilAll, Cond.code yX0_boilAll cX0_boilAll 4 none]
def wsL_steamFor_r3 : List Cond := [Cond.methodLink RX0 84 yX0_boil, Cond.instanceMethod yX0_boil, Cond.selects RX0 yX0_boil yX0_boil, Cond.code yX0_boil cX0_boil 7 (some .int), Cond.methodLink RX0 88 Lib.Math.min.name, Cond.static Lib.Math.min.name, Cond.initialized "java/lang/Math", Cond.code Lib.Math.min.name Lib.Math.min.code 2 (some .int), Cond.methodLink RX0 61 yX0_thickness, Cond.instanceMethod yX0_thickness, Cond.selects RX0 yX0_thickness yX0_thickness, Cond.code yX0_thickness cX0_thickness 3 (some .int), Cond.methodLink RX0 65 yX0_power, Cond.instanceMethod yX0_power, Cond.selects RX0 yX0_power yX0_power, Cond.code yX0_power cX0_power 3 (some .int), Cond.methodLink RX0 74 yX0_flowOn, Cond.instanceMethod yX0_flowOn, Cond.selects RX0 yX0_flowOn yX0_flowOn, Cond.code yX0_flowOn cX0_flowOn 9 none, Cond.methodLink RX0 93 yX0_effectBehind, Cond.instanceMethod yX0_effectBehind, Cond.selects RX0 yX0_effectBehind yX0_effectBehind, Cond.code yX0_effectBehind cX0_effectBehind 3 (some .int)]
def wsL_steamFor_r4 : List Cond := [Cond.methodLink RX0 96 yX0_amount, Cond.instanceMethod yX0_amount, Cond.selects RX0 yX0_amount yX0_amount, Cond.code yX0_amount cX0_amount 2 (some .int), Cond.methodLink RX0 99 yX0_flowFrom, Cond.instanceMethod yX0_flowFrom, Cond.selects RX0 yX0_flowFrom yX0_flowFrom, Cond.code yX0_flowFrom cX0_flowFrom 4 (some .int), Cond.methodLink RX0 77 yX0_washOn, Cond.instanceMethod yX0_washOn, Cond.selects RX0 yX0_washOn yX0_washOn, Cond.code yX0_washOn cX0_washOn 2 none, Cond.methodLink RX0 102 Lib.Math.max.name, Cond.static Lib.Math.max.name, Cond.code Lib.Math.max.name Lib.Math.max.code 2 (some .int)]
def wsL_steamFor : List Cond := .codeWith yL_steamFor cL_steamFor 5 (some .int) [(0, 10, 13, 13)] :: ((wsL_steamFor_r1 ++ (wsL_steamFor_r2 ++ (wsL_steamFor_r3 ++ wsL_steamFor_r4))) ++ wsX10 ++ wsX00 ++ (vx_atS RX1 183 "java/lang/IllegalArgumentException" ["java/lang/RuntimeException", "java/lang/Exception"]).filter goodWord)
def wsL_runScript_r1 : List Cond := [Cond.classLink RL 13 "java/lang/IllegalArgumentException", Cond.methodLink RL 81 yX1_runScript, Cond.instanceMethod yX1_runScript, Cond.selects RX1 yX1_runScript yX1_runScript, Cond.initialized RX1, Cond.code yX1_runScript cX1_runScript 6 (some .int), Cond.classLink RX1 179 "java/lang/IllegalArgumentException", Cond.initialized "java/lang/IllegalArgumentException", Cond.fieldLink RX1 28 "EffectTrain" "trial" "LEffectTrain$State;", Cond.fieldLink RX1 24 "EffectTrain" "now" "LEffectTrain$State;", Cond.constantLong RX1 184 (100000), Cond.methodLink RX1 51 yX1_checkRange, Cond.static yX1_checkRange, Cond.code yX1_checkRange cX1_checkRange 3 none, Cond.methodLink RX1 175 yX1_withoutLastGroups, Cond.static yX1_withoutLastGroups, Cond.code yX1_withoutLastGroups cX1_withoutLastGroups 6 (some .long), Cond.instanceMethod yX0_copyFrom, Cond.initialized RX0, Cond.selects RX0 yX0_copyFrom yX0_copyFrom, Cond.code yX0_copyFrom cX0_copyFrom 2 none, Cond.fieldLink RX0 9 "EffectTrain$State" "n" "I", Cond.fieldLink RX0 19 "EffectTrain$State" "clock" "I", Cond.fieldLink RX0 15 "EffectTrain$State" "settings" "[I"]
def wsL_runScript_r2 : List Cond := [Cond.methodLink RX0 55 arraycopyName, Cond.native arraycopyName, Cond.static arraycopyName, Cond.initialized "java/lang/System", Cond.fieldLink RX0 22 "EffectTrain$State" "counts" "[I", Cond.fieldLink RX0 25 "EffectTrain$State" "area" "[I", Cond.fieldLink RX0 28 "EffectTrain$State" "water" "[I", Cond.fieldLink RX0 31 "EffectTrain$State" "solids" "[I", Cond.fieldLink RX0 34 "EffectTrain$State" "valve" "[I", Cond.fieldLink RX0 37 "EffectTrain$State" "bleed" "[I", Cond.fieldLink RX0 40 "EffectTrain$State" "scale" "[I", Cond.fieldLink RX0 43 "EffectTrain$State" "scaling" "[I", Cond.fieldLink RX0 46 "EffectTrain$State" "left" "[I", Cond.methodLink RX1 186 yX1_runCommand, Cond.instanceMethod yX1_runCommand, Cond.selects RX1 yX1_runCommand yX1_runCommand, Cond.code yX1_runCommand cX1_runCommand 4 (some .boolean), Cond.fieldLink RX1 88 "EffectTrain" "GREATEST" "[I", Cond.instanceMethod yX0_pass, Cond.selects RX0 yX0_pass yX0_pass, Cond.code yX0_pass cX0_pass 4 (some .int), Cond.methodLink RX0 68 yX0_beginWashInTurn, Cond.instanceMethod yX0_beginWashInTurn, Cond.selects RX0 yX0_beginWashInTurn yX0_beginWashInTurn]
def wsL_runScript_r3 : List Cond := [Cond.code yX0_beginWashInTurn cX0_beginWashInTurn 4 none, Cond.methodLink RX0 80 yX0_washedEffects, Cond.instanceMethod yX0_washedEffects, Cond.selects RX0 yX0_washedEffects yX0_washedEffects, Cond.code yX0_washedEffects cX0_washedEffects 3 (some .int), Cond.methodLink RX0 71 yX0_boilAll, Cond.instanceMethod yX0_boilAll, Cond.selects RX0 yX0_boilAll yX0_boilAll, Cond.code yX0_boilAll cX0_boilAll 4 none, Cond.methodLink RX0 84 yX0_boil, Cond.instanceMethod yX0_boil, Cond.selects RX0 yX0_boil yX0_boil, Cond.code yX0_boil cX0_boil 7 (some .int), Cond.methodLink RX0 88 Lib.Math.min.name, Cond.static Lib.Math.min.name, Cond.initialized "java/lang/Math", Cond.code Lib.Math.min.name Lib.Math.min.code 2 (some .int), Cond.methodLink RX0 61 yX0_thickness, Cond.instanceMethod yX0_thickness, Cond.selects RX0 yX0_thickness yX0_thickness, Cond.code yX0_thickness cX0_thickness 3 (some .int), Cond.methodLink RX0 65 yX0_power, Cond.instanceMethod yX0_power, Cond.selects RX0 yX0_power yX0_power]
def wsL_runScript_r4 : List Cond := [Cond.code yX0_power cX0_power 3 (some .int), Cond.methodLink RX0 74 yX0_flowOn, Cond.instanceMethod yX0_flowOn, Cond.selects RX0 yX0_flowOn yX0_flowOn, Cond.code yX0_flowOn cX0_flowOn 9 none, Cond.methodLink RX0 93 yX0_effectBehind, Cond.instanceMethod yX0_effectBehind, Cond.selects RX0 yX0_effectBehind yX0_effectBehind, Cond.code yX0_effectBehind cX0_effectBehind 3 (some .int), Cond.methodLink RX0 96 yX0_amount, Cond.instanceMethod yX0_amount, Cond.selects RX0 yX0_amount yX0_amount, Cond.code yX0_amount cX0_amount 2 (some .int), Cond.methodLink RX0 99 yX0_flowFrom, Cond.instanceMethod yX0_flowFrom, Cond.selects RX0 yX0_flowFrom yX0_flowFrom, Cond.code yX0_flowFrom cX0_flowFrom 4 (some .int), Cond.methodLink RX0 77 yX0_washOn, Cond.instanceMethod yX0_washOn, Cond.selects RX0 yX0_washOn yX0_washOn, Cond.code yX0_washOn cX0_washOn 2 none, Cond.methodLink RX0 102 Lib.Math.max.name, Cond.static Lib.Math.max.name, Cond.code Lib.Math.max.name Lib.Math.max.code 2 (some .int)]
def wsL_runScript_r5 : List Cond := [Cond.methodLink RX1 190 yX1_runEffectCommand, Cond.instanceMethod yX1_runEffectCommand, Cond.selects RX1 yX1_runEffectCommand yX1_runEffectCommand, Cond.code yX1_runEffectCommand cX1_runEffectCommand 4 (some .boolean)]
def wsL_runScript : List Cond := .codeWith yL_runScript cL_runScript 6 (some .int) [(0, 11, 14, 13)] :: ((wsL_runScript_r1 ++ (wsL_runScript_r2 ++ (wsL_runScript_r3 ++ (wsL_runScript_r4 ++ wsL_runScript_r5)))) ++ wsX10 ++ wsX00 ++ (vx_atS RX1 183 "java/lang/IllegalArgumentException" ["java/lang/RuntimeException", "java/lang/Exception"]).filter goodWord)
def wsL_simulate_r1 : List Cond := [Cond.classLink RL 13 "java/lang/IllegalArgumentException", Cond.methodLink RL 85 yX1_simulate, Cond.instanceMethod yX1_simulate, Cond.selects RX1 yX1_simulate yX1_simulate, Cond.initialized RX1, Cond.code yX1_simulate cX1_simulate 8 (some .int), Cond.fieldLink RX1 28 "EffectTrain" "trial" "LEffectTrain$State;", Cond.fieldLink RX1 24 "EffectTrain" "now" "LEffectTrain$State;", Cond.constantLong RX1 197 (6364136223846793005), Cond.constantLong RX1 199 (1442695040888963407), Cond.methodLink RX1 51 yX1_checkRange, Cond.static yX1_checkRange, Cond.code yX1_checkRange cX1_checkRange 3 none, Cond.classLink RX1 179 "java/lang/IllegalArgumentException", Cond.initialized "java/lang/IllegalArgumentException", Cond.instanceMethod yX0_copyFrom, Cond.initialized RX0, Cond.selects RX0 yX0_copyFrom yX0_copyFrom, Cond.code yX0_copyFrom cX0_copyFrom 2 none, Cond.fieldLink RX0 9 "EffectTrain$State" "n" "I", Cond.fieldLink RX0 19 "EffectTrain$State" "clock" "I", Cond.fieldLink RX0 15 "EffectTrain$State" "settings" "[I", Cond.methodLink RX0 55 arraycopyName, Cond.native arraycopyName]
def wsL_simulate_r2 : List Cond := [Cond.static arraycopyName, Cond.initialized "java/lang/System", Cond.fieldLink RX0 22 "EffectTrain$State" "counts" "[I", Cond.fieldLink RX0 25 "EffectTrain$State" "area" "[I", Cond.fieldLink RX0 28 "EffectTrain$State" "water" "[I", Cond.fieldLink RX0 31 "EffectTrain$State" "solids" "[I", Cond.fieldLink RX0 34 "EffectTrain$State" "valve" "[I", Cond.fieldLink RX0 37 "EffectTrain$State" "bleed" "[I", Cond.fieldLink RX0 40 "EffectTrain$State" "scale" "[I", Cond.fieldLink RX0 43 "EffectTrain$State" "scaling" "[I", Cond.fieldLink RX0 46 "EffectTrain$State" "left" "[I", Cond.methodLink RX1 201 yX1_disturb, Cond.instanceMethod yX1_disturb, Cond.selects RX1 yX1_disturb yX1_disturb, Cond.code yX1_disturb cX1_disturb 4 none, Cond.instanceMethod yX0_pass, Cond.selects RX0 yX0_pass yX0_pass, Cond.code yX0_pass cX0_pass 4 (some .int), Cond.methodLink RX0 68 yX0_beginWashInTurn, Cond.instanceMethod yX0_beginWashInTurn, Cond.selects RX0 yX0_beginWashInTurn yX0_beginWashInTurn, Cond.code yX0_beginWashInTurn cX0_beginWashInTurn 4 none, Cond.methodLink RX0 80 yX0_washedEffects, Cond.instanceMethod yX0_washedEffects]
def wsL_simulate_r3 : List Cond := [Cond.selects RX0 yX0_washedEffects yX0_washedEffects, Cond.code yX0_washedEffects cX0_washedEffects 3 (some .int), Cond.methodLink RX0 71 yX0_boilAll, Cond.instanceMethod yX0_boilAll, Cond.selects RX0 yX0_boilAll yX0_boilAll, Cond.code yX0_boilAll cX0_boilAll 4 none, Cond.methodLink RX0 84 yX0_boil, Cond.instanceMethod yX0_boil, Cond.selects RX0 yX0_boil yX0_boil, Cond.code yX0_boil cX0_boil 7 (some .int), Cond.methodLink RX0 88 Lib.Math.min.name, Cond.static Lib.Math.min.name, Cond.initialized "java/lang/Math", Cond.code Lib.Math.min.name Lib.Math.min.code 2 (some .int), Cond.methodLink RX0 61 yX0_thickness, Cond.instanceMethod yX0_thickness, Cond.selects RX0 yX0_thickness yX0_thickness, Cond.code yX0_thickness cX0_thickness 3 (some .int), Cond.methodLink RX0 65 yX0_power, Cond.instanceMethod yX0_power, Cond.selects RX0 yX0_power yX0_power, Cond.code yX0_power cX0_power 3 (some .int), Cond.methodLink RX0 74 yX0_flowOn, Cond.instanceMethod yX0_flowOn]
def wsL_simulate_r4 : List Cond := [Cond.selects RX0 yX0_flowOn yX0_flowOn, Cond.code yX0_flowOn cX0_flowOn 9 none, Cond.methodLink RX0 93 yX0_effectBehind, Cond.instanceMethod yX0_effectBehind, Cond.selects RX0 yX0_effectBehind yX0_effectBehind, Cond.code yX0_effectBehind cX0_effectBehind 3 (some .int), Cond.methodLink RX0 96 yX0_amount, Cond.instanceMethod yX0_amount, Cond.selects RX0 yX0_amount yX0_amount, Cond.code yX0_amount cX0_amount 2 (some .int), Cond.methodLink RX0 99 yX0_flowFrom, Cond.instanceMethod yX0_flowFrom, Cond.selects RX0 yX0_flowFrom yX0_flowFrom, Cond.code yX0_flowFrom cX0_flowFrom 4 (some .int), Cond.methodLink RX0 77 yX0_washOn, Cond.instanceMethod yX0_washOn, Cond.selects RX0 yX0_washOn yX0_washOn, Cond.code yX0_washOn cX0_washOn 2 none, Cond.methodLink RX0 102 Lib.Math.max.name, Cond.static Lib.Math.max.name, Cond.code Lib.Math.max.name Lib.Math.max.code 2 (some .int)]
def wsL_simulate : List Cond := .codeWith yL_simulate cL_simulate 6 (some .int) [(0, 11, 14, 13)] :: ((wsL_simulate_r1 ++ (wsL_simulate_r2 ++ (wsL_simulate_r3 ++ wsL_simulate_r4))) ++ wsX10 ++ wsX00 ++ (vx_atS RX1 183 "java/lang/IllegalArgumentException" ["java/lang/RuntimeException", "java/lang/Exception"]).filter goodWord)
def wsL_save_r1 : List Cond := [Cond.classLink RL 31 "java/lang/IndexOutOfBoundsException", Cond.methodLink RL 89 yX1_save, Cond.instanceMethod yX1_save, Cond.selects RX1 yX1_save yX1_save, Cond.initialized RX1, Cond.code yX1_save cX1_save 2 (some .int), Cond.fieldLink RX1 44 "EffectTrain" "slots" "[LEffectTrain$State;", Cond.fieldLink RX1 24 "EffectTrain" "now" "LEffectTrain$State;", Cond.fieldLink RX1 47 "EffectTrain" "slotFilled" "[Z", Cond.methodLink RX1 204 yX1_checkSlot, Cond.static yX1_checkSlot, Cond.code yX1_checkSlot cX1_checkSlot 1 none, Cond.classLink RX1 211 "java/lang/IndexOutOfBoundsException", Cond.initialized "java/lang/IndexOutOfBoundsException", Cond.methodLink RX1 151 yX1_stateAt, Cond.static yX1_stateAt, Cond.code yX1_stateAt cX1_stateAt 3 (some (.object "EffectTrain$State")), Cond.classLink RX1 21 RX0, Cond.instantiable RX0 12, Cond.initialized RX0, Cond.instanceMethod yX0_init, Cond.code yX0_init cX0_init 1 none, Cond.methodLink RX0 3 objectInit, Cond.instanceMethod objectInit]
def wsL_save_r2 : List Cond := [Cond.code objectInit ⟨#[0xb1]⟩ 1 none, Cond.fieldLink RX0 9 "EffectTrain$State" "n" "I", Cond.arrayClass .int, Cond.fieldLink RX0 15 "EffectTrain$State" "settings" "[I", Cond.fieldLink RX0 19 "EffectTrain$State" "clock" "I", Cond.fieldLink RX0 22 "EffectTrain$State" "counts" "[I", Cond.fieldLink RX0 25 "EffectTrain$State" "area" "[I", Cond.fieldLink RX0 28 "EffectTrain$State" "water" "[I", Cond.fieldLink RX0 31 "EffectTrain$State" "solids" "[I", Cond.fieldLink RX0 34 "EffectTrain$State" "valve" "[I", Cond.fieldLink RX0 37 "EffectTrain$State" "bleed" "[I", Cond.fieldLink RX0 40 "EffectTrain$State" "scale" "[I", Cond.fieldLink RX0 43 "EffectTrain$State" "scaling" "[I", Cond.fieldLink RX0 46 "EffectTrain$State" "left" "[I", Cond.methodLink RX0 49 yJ7_fill_53178, Cond.static yJ7_fill_53178, Cond.initialized RJ7, Cond.code yJ7_fill_53178 cJ7_fill_53178 4 none, Cond.instanceMethod yX0_copyFrom, Cond.selects RX0 yX0_copyFrom yX0_copyFrom, Cond.code yX0_copyFrom cX0_copyFrom 2 none, Cond.methodLink RX0 55 arraycopyName, Cond.native arraycopyName, Cond.static arraycopyName]
def wsL_save_r3 : List Cond := [Cond.initialized "java/lang/System"]
def wsL_save : List Cond := .codeWith yL_save cL_save 4 (some .int) [(0, 9, 12, 31)] :: ((wsL_save_r1 ++ (wsL_save_r2 ++ wsL_save_r3)) ++ wsX10 ++ wsX00 ++ (vx_atS RX1 215 "java/lang/IndexOutOfBoundsException" ["java/lang/RuntimeException", "java/lang/Exception"]).filter goodWord)
def wsL_restore_r1 : List Cond := [Cond.classLink RL 31 "java/lang/IndexOutOfBoundsException", Cond.classLink RL 15 "java/lang/IllegalStateException", Cond.methodLink RL 92 yX1_restore, Cond.instanceMethod yX1_restore, Cond.selects RX1 yX1_restore yX1_restore, Cond.initialized RX1, Cond.code yX1_restore cX1_restore 2 (some .int), Cond.classLink RX1 55 "java/lang/IllegalStateException", Cond.initialized "java/lang/IllegalStateException", Cond.fieldLink RX1 47 "EffectTrain" "slotFilled" "[Z", Cond.fieldLink RX1 24 "EffectTrain" "now" "LEffectTrain$State;", Cond.fieldLink RX1 44 "EffectTrain" "slots" "[LEffectTrain$State;", Cond.fieldLink RX1 41 "EffectTrain" "rememberedCount" "I", Cond.methodLink RX1 204 yX1_checkSlot, Cond.static yX1_checkSlot, Cond.code yX1_checkSlot cX1_checkSlot 1 none, Cond.classLink RX1 211 "java/lang/IndexOutOfBoundsException", Cond.initialized "java/lang/IndexOutOfBoundsException", Cond.methodLink RX1 151 yX1_stateAt, Cond.static yX1_stateAt, Cond.code yX1_stateAt cX1_stateAt 3 (some (.object "EffectTrain$State")), Cond.classLink RX1 21 RX0, Cond.instantiable RX0 12, Cond.initialized RX0]
def wsL_restore_r2 : List Cond := [Cond.instanceMethod yX0_init, Cond.code yX0_init cX0_init 1 none, Cond.methodLink RX0 3 objectInit, Cond.instanceMethod objectInit, Cond.code objectInit ⟨#[0xb1]⟩ 1 none, Cond.fieldLink RX0 9 "EffectTrain$State" "n" "I", Cond.arrayClass .int, Cond.fieldLink RX0 15 "EffectTrain$State" "settings" "[I", Cond.fieldLink RX0 19 "EffectTrain$State" "clock" "I", Cond.fieldLink RX0 22 "EffectTrain$State" "counts" "[I", Cond.fieldLink RX0 25 "EffectTrain$State" "area" "[I", Cond.fieldLink RX0 28 "EffectTrain$State" "water" "[I", Cond.fieldLink RX0 31 "EffectTrain$State" "solids" "[I", Cond.fieldLink RX0 34 "EffectTrain$State" "valve" "[I", Cond.fieldLink RX0 37 "EffectTrain$State" "bleed" "[I", Cond.fieldLink RX0 40 "EffectTrain$State" "scale" "[I", Cond.fieldLink RX0 43 "EffectTrain$State" "scaling" "[I", Cond.fieldLink RX0 46 "EffectTrain$State" "left" "[I", Cond.methodLink RX0 49 yJ7_fill_53178, Cond.static yJ7_fill_53178, Cond.initialized RJ7, Cond.code yJ7_fill_53178 cJ7_fill_53178 4 none, Cond.instanceMethod yX0_copyFrom, Cond.selects RX0 yX0_copyFrom yX0_copyFrom]
def wsL_restore_r3 : List Cond := [Cond.code yX0_copyFrom cX0_copyFrom 2 none, Cond.methodLink RX0 55 arraycopyName, Cond.native arraycopyName, Cond.static arraycopyName, Cond.initialized "java/lang/System"]
def wsL_restore : List Cond := .codeWith yL_restore cL_restore 4 (some .int) [(0, 9, 12, 31), (0, 9, 15, 15)] :: ((wsL_restore_r1 ++ (wsL_restore_r2 ++ wsL_restore_r3)) ++ wsX10 ++ wsX00 ++ (vx_atS RX1 59 "java/lang/IllegalStateException" ["java/lang/RuntimeException", "java/lang/Exception"]).filter goodWord ++ (vx_atS RX1 215 "java/lang/IndexOutOfBoundsException" ["java/lang/RuntimeException", "java/lang/Exception"]).filter goodWord)
def wsL_law0_r1 : List Cond := [Cond.classLink RL 8 RX1, Cond.instantiable RX1 11, Cond.initialized RX1, Cond.classLink RL 96 RX2, Cond.instantiable RX2 15, Cond.initialized RX2, Cond.arrayClass .long, Cond.arrayClass .double, Cond.constantLong RL 183 (4294967295), Cond.methodLink RL 95 yX1_init, Cond.instanceMethod yX1_init, Cond.code yX1_init cX1_init 1 none, Cond.methodLink RX1 3 objectInit, Cond.instanceMethod objectInit, Cond.code objectInit ⟨#[0xb1]⟩ 1 none, Cond.arrayClass .char, Cond.fieldLink RX1 9 "EffectTrain" "text" "[C", Cond.fieldLink RX1 13 "EffectTrain" "textLength" "I", Cond.arrayClass .int, Cond.fieldLink RX1 17 "EffectTrain" "textNumbers" "[I", Cond.classLink RX1 21 RX0, Cond.instantiable RX0 12, Cond.initialized RX0, Cond.fieldLink RX1 24 "EffectTrain" "now" "LEffectTrain$State;"]
def wsL_law0_r2 : List Cond := [Cond.fieldLink RX1 28 "EffectTrain" "trial" "LEffectTrain$State;", Cond.fieldLink RX1 31 "EffectTrain" "turnStates" "[LEffectTrain$State;", Cond.fieldLink RX1 35 "EffectTrain" "remembered" "[LEffectTrain$State;", Cond.fieldLink RX1 38 "EffectTrain" "newest" "I", Cond.fieldLink RX1 41 "EffectTrain" "rememberedCount" "I", Cond.fieldLink RX1 44 "EffectTrain" "slots" "[LEffectTrain$State;", Cond.arrayClass .boolean, Cond.fieldLink RX1 47 "EffectTrain" "slotFilled" "[Z", Cond.instanceMethod yX0_init, Cond.code yX0_init cX0_init 1 none, Cond.methodLink RX0 3 objectInit, Cond.fieldLink RX0 9 "EffectTrain$State" "n" "I", Cond.fieldLink RX0 15 "EffectTrain$State" "settings" "[I", Cond.fieldLink RX0 19 "EffectTrain$State" "clock" "I", Cond.fieldLink RX0 22 "EffectTrain$State" "counts" "[I", Cond.fieldLink RX0 25 "EffectTrain$State" "area" "[I", Cond.fieldLink RX0 28 "EffectTrain$State" "water" "[I", Cond.fieldLink RX0 31 "EffectTrain$State" "solids" "[I", Cond.fieldLink RX0 34 "EffectTrain$State" "valve" "[I", Cond.fieldLink RX0 37 "EffectTrain$State" "bleed" "[I", Cond.fieldLink RX0 40 "EffectTrain$State" "scale" "[I", Cond.fieldLink RX0 43 "EffectTrain$State" "scaling" "[I", Cond.fieldLink RX0 46 "EffectTrain$State" "left" "[I", Cond.methodLink RX0 49 yJ7_fill_53178]
def wsL_law0_r3 : List Cond := [Cond.static yJ7_fill_53178, Cond.initialized RJ7, Cond.code yJ7_fill_53178 cJ7_fill_53178 4 none, Cond.methodLink RL 98 yX2_init, Cond.instanceMethod yX2_init, Cond.code yX2_init cX2_init 2 none, Cond.methodLink RX2 1 objectInit, Cond.fieldLink RX2 7 "EffectTrainModel" "script" "[I", Cond.fieldLink RX2 13 "EffectTrainModel" "readRow" "[I", Cond.fieldLink RX2 16 "EffectTrainModel" "now" "[I", Cond.fieldLink RX2 19 "EffectTrainModel" "trial" "[I", Cond.fieldLink RX2 22 "EffectTrainModel" "diary" "[I", Cond.fieldLink RX2 25 "EffectTrainModel" "kept" "[I", Cond.fieldLink RX2 28 "EffectTrainModel" "isKept" "[Z", Cond.fieldLink RX2 32 "EffectTrainModel" "flow" "[I", Cond.fieldLink RX2 35 "EffectTrainModel" "salt" "[I", Cond.fieldLink RX2 38 "EffectTrainModel" "n" "I", Cond.methodLink RL 99 yL_append, Cond.static yL_append, Cond.initialized RL, Cond.codeWith yL_append cL_append 4 (some .int) [(0, 9, 12, 13), (0, 9, 15, 15)], Cond.classLink RL 13 "java/lang/IllegalArgumentException", Cond.classLink RL 15 "java/lang/IllegalStateException", Cond.methodLink RL 7 yX1_append]
def wsL_law0_r4 : List Cond := [Cond.instanceMethod yX1_append, Cond.selects RX1 yX1_append yX1_append, Cond.code yX1_append cX1_append 2 (some .int), Cond.classLink RX1 55 "java/lang/IllegalStateException", Cond.initialized "java/lang/IllegalStateException", Cond.methodLink RX1 51 yX1_checkRange, Cond.static yX1_checkRange, Cond.code yX1_checkRange cX1_checkRange 3 none, Cond.classLink RX1 179 "java/lang/IllegalArgumentException", Cond.initialized "java/lang/IllegalArgumentException", Cond.methodLink RL 104 yX2_append, Cond.instanceMethod yX2_append, Cond.selects RX2 yX2_append yX2_append, Cond.code yX2_append cX2_append 2 (some .int), Cond.constantLong RX2 93 (255), Cond.fieldLink RX2 95 "EffectTrainModel" "scriptSize" "I", Cond.methodLink RX2 54 yX2_in, Cond.static yX2_in, Cond.code yX2_in cX2_in 6 (some .boolean), Cond.methodLink RX2 98 yX2_refused, Cond.instanceMethod yX2_refused, Cond.selects RX2 yX2_refused yX2_refused, Cond.code yX2_refused cX2_refused 2 (some .boolean), Cond.fieldLink RX2 42 "EffectTrainModel" "refusal" "I"]
def wsL_law0_r5 : List Cond := [Cond.methodLink RL 105 yX2_thrown, Cond.instanceMethod yX2_thrown, Cond.selects RX2 yX2_thrown yX2_thrown, Cond.code yX2_thrown cX2_thrown 1 (some .int), Cond.methodLink RL 108 yX1_clearText, Cond.instanceMethod yX1_clearText, Cond.selects RX1 yX1_clearText yX1_clearText, Cond.code yX1_clearText cX1_clearText 2 (some .int), Cond.methodLink RL 111 yX2_clearText, Cond.instanceMethod yX2_clearText, Cond.selects RX2 yX2_clearText yX2_clearText, Cond.code yX2_clearText cX2_clearText 2 (some .int), Cond.methodLink RL 112 yX1_errorPosition, Cond.instanceMethod yX1_errorPosition, Cond.selects RX1 yX1_errorPosition yX1_errorPosition, Cond.code yX1_errorPosition cX1_errorPosition 1 (some .int), Cond.methodLink RX1 62 yX1_readText, Cond.instanceMethod yX1_readText, Cond.selects RX1 yX1_readText yX1_readText, Cond.code yX1_readText cX1_readText 6 (some .int), Cond.fieldLink RX1 82 "EffectTrain" "DIGITS" "[I", Cond.methodLink RX1 78 yX1_numberError, Cond.instanceMethod yX1_numberError, Cond.selects RX1 yX1_numberError yX1_numberError]
def wsL_law0_r6 : List Cond := [Cond.code yX1_numberError cX1_numberError 8 (some .int), Cond.fieldLink RX1 88 "EffectTrain" "GREATEST" "[I", Cond.fieldLink RX1 91 "EffectTrain" "LEAST" "[I", Cond.methodLink RX1 85 yX1_numberAt, Cond.instanceMethod yX1_numberAt, Cond.selects RX1 yX1_numberAt yX1_numberAt, Cond.code yX1_numberAt cX1_numberAt 5 (some .int), Cond.methodLink RL 115 yX2_errorPosition, Cond.instanceMethod yX2_errorPosition, Cond.selects RX2 yX2_errorPosition yX2_errorPosition, Cond.code yX2_errorPosition cX2_errorPosition 1 (some .int), Cond.methodLink RX2 122 yX2_readText, Cond.instanceMethod yX2_readText, Cond.selects RX2 yX2_readText yX2_readText, Cond.code yX2_readText cX2_readText 3 (some .int), Cond.fieldLink RX2 102 "EffectTrainModel" "spot" "I", Cond.fieldLink RX2 115 "EffectTrainModel" "readN" "I", Cond.methodLink RX2 111 yX2_number, Cond.instanceMethod yX2_number, Cond.selects RX2 yX2_number yX2_number, Cond.code yX2_number cX2_number 9 (some .int), Cond.constantLong RX2 109 (9), Cond.methodLink RX2 105 yX2_tenTo, Cond.static yX2_tenTo]
def wsL_law0_r7 : List Cond := [Cond.code yX2_tenTo cX2_tenTo 4 (some .long), Cond.constantLong RX2 45 (10), Cond.methodLink RX2 118 yX2_readEffect, Cond.instanceMethod yX2_readEffect, Cond.selects RX2 yX2_readEffect yX2_readEffect, Cond.code yX2_readEffect cX2_readEffect 4 (some .int), Cond.methodLink RL 116 yL_load, Cond.static yL_load, Cond.codeWith yL_load cL_load 3 (some .int) [(0, 8, 11, 15)], Cond.methodLink RL 17 yX1_load, Cond.instanceMethod yX1_load, Cond.selects RX1 yX1_load yX1_load, Cond.code yX1_load cX1_load 2 (some .int), Cond.instanceMethod yX0_takeNumbers, Cond.selects RX0 yX0_takeNumbers yX0_takeNumbers, Cond.code yX0_takeNumbers cX0_takeNumbers 4 none, Cond.methodLink RX0 55 arraycopyName, Cond.native arraycopyName, Cond.static arraycopyName, Cond.initialized "java/lang/System", Cond.instanceMethod yX0_allWater, Cond.selects RX0 yX0_allWater yX0_allWater, Cond.code yX0_allWater cX0_allWater 3 (some .int), Cond.instanceMethod yX0_allSolids]
def wsL_law0_r8 : List Cond := [Cond.selects RX0 yX0_allSolids yX0_allSolids, Cond.code yX0_allSolids cX0_allSolids 3 (some .int), Cond.methodLink RL 119 yX2_load, Cond.instanceMethod yX2_load, Cond.selects RX2 yX2_load yX2_load, Cond.code yX2_load cX2_load 1 (some .int), Cond.fieldLink RX2 47 "EffectTrainModel" "acts" "I", Cond.methodLink RX2 50 yX2_copy, Cond.static yX2_copy, Cond.code yX2_copy cX2_copy 6 none, Cond.methodLink RX2 126 yX2_sumOf, Cond.instanceMethod yX2_sumOf, Cond.selects RX2 yX2_sumOf yX2_sumOf, Cond.code yX2_sumOf cX2_sumOf 5 (some .int), Cond.methodLink RL 120 yL_about, Cond.static yL_about, Cond.codeWith yL_about cL_about 4 (some .int) [(0, 9, 12, 13)], Cond.methodLink RL 21 yX1_about, Cond.instanceMethod yX1_about, Cond.selects RX1 yX1_about yX1_about, Cond.code yX1_about cX1_about 2 (some .int), Cond.instanceMethod yX0_washedEffects, Cond.selects RX0 yX0_washedEffects yX0_washedEffects, Cond.code yX0_washedEffects cX0_washedEffects 3 (some .int)]
def wsL_law0_r9 : List Cond := [Cond.methodLink RL 122 yX2_about, Cond.instanceMethod yX2_about, Cond.selects RX2 yX2_about yX2_about, Cond.code yX2_about cX2_about 2 (some .int), Cond.methodLink RX2 66 yX2_washed, Cond.instanceMethod yX2_washed, Cond.selects RX2 yX2_washed yX2_washed, Cond.code yX2_washed cX2_washed 4 (some .int), Cond.methodLink RX2 62 yX2_works, Cond.static yX2_works, Cond.code yX2_works cX2_works 2 (some .boolean), Cond.methodLink RL 123 yL_total, Cond.static yL_total, Cond.codeWith yL_total cL_total 4 (some .int) [(0, 9, 12, 13)], Cond.methodLink RL 24 yX1_total, Cond.instanceMethod yX1_total, Cond.selects RX1 yX1_total yX1_total, Cond.code yX1_total cX1_total 2 (some .int), Cond.methodLink RL 125 yX2_total, Cond.instanceMethod yX2_total, Cond.selects RX2 yX2_total yX2_total, Cond.code yX2_total cX2_total 2 (some .int), Cond.methodLink RL 126 yL_effect, Cond.static yL_effect]
def wsL_law0_r10 : List Cond := [Cond.codeWith yL_effect cL_effect 5 (some .int) [(0, 10, 13, 31), (0, 10, 17, 13)], Cond.classLink RL 31 "java/lang/IndexOutOfBoundsException", Cond.methodLink RL 27 yX1_effect, Cond.instanceMethod yX1_effect, Cond.selects RX1 yX1_effect yX1_effect, Cond.code yX1_effect cX1_effect 3 (some .int), Cond.methodLink RX1 109 yX1_checkEffect, Cond.instanceMethod yX1_checkEffect, Cond.selects RX1 yX1_checkEffect yX1_checkEffect, Cond.code yX1_checkEffect cX1_checkEffect 2 none, Cond.classLink RX1 211 "java/lang/IndexOutOfBoundsException", Cond.initialized "java/lang/IndexOutOfBoundsException", Cond.instanceMethod yX0_numberOf, Cond.selects RX0 yX0_numberOf yX0_numberOf, Cond.code yX0_numberOf cX0_numberOf 3 (some .int), Cond.methodLink RX0 61 yX0_thickness, Cond.instanceMethod yX0_thickness, Cond.selects RX0 yX0_thickness yX0_thickness, Cond.code yX0_thickness cX0_thickness 3 (some .int), Cond.methodLink RX0 65 yX0_power, Cond.instanceMethod yX0_power, Cond.selects RX0 yX0_power yX0_power, Cond.code yX0_power cX0_power 3 (some .int), Cond.methodLink RL 129 yX2_effect]
def wsL_law0_r11 : List Cond := [Cond.instanceMethod yX2_effect, Cond.selects RX2 yX2_effect yX2_effect, Cond.code yX2_effect cX2_effect 3 (some .int), Cond.methodLink RX2 129 yX2_isEffect, Cond.instanceMethod yX2_isEffect, Cond.selects RX2 yX2_isEffect yX2_isEffect, Cond.code yX2_isEffect cX2_isEffect 2 (some .boolean), Cond.methodLink RX2 132 yX2_detail, Cond.static yX2_detail, Cond.code yX2_detail cX2_detail 3 (some .int), Cond.methodLink RX2 77 yX2_thickness, Cond.static yX2_thickness, Cond.code yX2_thickness cX2_thickness 2 (some .int), Cond.methodLink RX2 58 yX2_amount, Cond.static yX2_amount, Cond.code yX2_amount cX2_amount 2 (some .int), Cond.methodLink RX2 80 yX2_power, Cond.static yX2_power, Cond.code yX2_power cX2_power 2 (some .int), Cond.methodLink RL 130 yL_neighbor, Cond.static yL_neighbor, Cond.codeWith yL_neighbor cL_neighbor 5 (some .int) [(0, 10, 13, 31)], Cond.methodLink RL 33 yX1_neighbor, Cond.instanceMethod yX1_neighbor]
def wsL_law0_r12 : List Cond := [Cond.selects RX1 yX1_neighbor yX1_neighbor, Cond.code yX1_neighbor cX1_neighbor 3 (some .int), Cond.instanceMethod yX0_effectBehind, Cond.selects RX0 yX0_effectBehind yX0_effectBehind, Cond.code yX0_effectBehind cX0_effectBehind 3 (some .int), Cond.instanceMethod yX0_effectBefore, Cond.selects RX0 yX0_effectBefore yX0_effectBefore, Cond.code yX0_effectBefore cX0_effectBefore 3 (some .int), Cond.methodLink RL 133 yX2_neighbor, Cond.instanceMethod yX2_neighbor, Cond.selects RX2 yX2_neighbor yX2_neighbor, Cond.code yX2_neighbor cX2_neighbor 3 (some .int), Cond.methodLink RX2 87 yX2_behind, Cond.instanceMethod yX2_behind, Cond.selects RX2 yX2_behind yX2_behind, Cond.code yX2_behind cX2_behind 4 (some .int), Cond.methodLink RX2 136 yX2_before, Cond.static yX2_before, Cond.code yX2_before cX2_before 3 (some .int), Cond.methodLink RL 134 yX1_economy, Cond.instanceMethod yX1_economy, Cond.selects RX1 yX1_economy yX1_economy, Cond.code yX1_economy cX1_economy 2 (some .float), Cond.methodLink RL 138 yX2_economy]
def wsL_law0_r13 : List Cond := [Cond.instanceMethod yX2_economy, Cond.selects RX2 yX2_economy yX2_economy, Cond.code yX2_economy cX2_economy 1 (some .float), Cond.methodLink RL 139 yL_share, Cond.static yL_share, Cond.codeWith yL_share cL_share 4 (some .int) [(0, 9, 12, 31)], Cond.methodLink RL 37 yX1_share, Cond.instanceMethod yX1_share, Cond.selects RX1 yX1_share yX1_share, Cond.code yX1_share cX1_share 3 (some .float), Cond.instanceMethod yX0_amount, Cond.selects RX0 yX0_amount yX0_amount, Cond.code yX0_amount cX0_amount 2 (some .int), Cond.methodLink RL 142 yX2_share, Cond.instanceMethod yX2_share, Cond.selects RX2 yX2_share yX2_share, Cond.code yX2_share cX2_share 2 (some .float), Cond.methodLink RL 143 yL_tick, Cond.static yL_tick, Cond.codeWith yL_tick cL_tick 4 (some .int) [(0, 9, 12, 13)], Cond.methodLink RL 41 yX1_tick, Cond.instanceMethod yX1_tick, Cond.selects RX1 yX1_tick yX1_tick, Cond.code yX1_tick cX1_tick 2 (some .int)]
def wsL_law0_r14 : List Cond := [Cond.methodLink RX1 129 yX1_remember, Cond.instanceMethod yX1_remember, Cond.selects RX1 yX1_remember yX1_remember, Cond.code yX1_remember cX1_remember 1 none, Cond.methodLink RX1 151 yX1_stateAt, Cond.static yX1_stateAt, Cond.code yX1_stateAt cX1_stateAt 3 (some (.object "EffectTrain$State")), Cond.instanceMethod yX0_copyFrom, Cond.selects RX0 yX0_copyFrom yX0_copyFrom, Cond.code yX0_copyFrom cX0_copyFrom 2 none, Cond.instanceMethod yX0_pass, Cond.selects RX0 yX0_pass yX0_pass, Cond.code yX0_pass cX0_pass 4 (some .int), Cond.methodLink RX0 68 yX0_beginWashInTurn, Cond.instanceMethod yX0_beginWashInTurn, Cond.selects RX0 yX0_beginWashInTurn yX0_beginWashInTurn, Cond.code yX0_beginWashInTurn cX0_beginWashInTurn 4 none, Cond.methodLink RX0 80 yX0_washedEffects, Cond.methodLink RX0 71 yX0_boilAll, Cond.instanceMethod yX0_boilAll, Cond.selects RX0 yX0_boilAll yX0_boilAll, Cond.code yX0_boilAll cX0_boilAll 4 none, Cond.methodLink RX0 84 yX0_boil, Cond.instanceMethod yX0_boil]
def wsL_law0_r15 : List Cond := [Cond.selects RX0 yX0_boil yX0_boil, Cond.code yX0_boil cX0_boil 7 (some .int), Cond.methodLink RX0 88 Lib.Math.min.name, Cond.static Lib.Math.min.name, Cond.initialized "java/lang/Math", Cond.code Lib.Math.min.name Lib.Math.min.code 2 (some .int), Cond.methodLink RX0 74 yX0_flowOn, Cond.instanceMethod yX0_flowOn, Cond.selects RX0 yX0_flowOn yX0_flowOn, Cond.code yX0_flowOn cX0_flowOn 9 none, Cond.methodLink RX0 93 yX0_effectBehind, Cond.methodLink RX0 96 yX0_amount, Cond.methodLink RX0 99 yX0_flowFrom, Cond.instanceMethod yX0_flowFrom, Cond.selects RX0 yX0_flowFrom yX0_flowFrom, Cond.code yX0_flowFrom cX0_flowFrom 4 (some .int), Cond.methodLink RX0 77 yX0_washOn, Cond.instanceMethod yX0_washOn, Cond.selects RX0 yX0_washOn yX0_washOn, Cond.code yX0_washOn cX0_washOn 2 none, Cond.methodLink RX0 102 Lib.Math.max.name, Cond.static Lib.Math.max.name, Cond.code Lib.Math.max.name Lib.Math.max.code 2 (some .int), Cond.methodLink RL 145 yX2_tick]
def wsL_law0_r16 : List Cond := [Cond.instanceMethod yX2_tick, Cond.selects RX2 yX2_tick yX2_tick, Cond.code yX2_tick cX2_tick 2 (some .int), Cond.constantLong RX2 139 (99), Cond.methodLink RX2 141 yX2_note, Cond.instanceMethod yX2_note, Cond.selects RX2 yX2_note yX2_note, Cond.code yX2_note cX2_note 1 none, Cond.methodLink RX2 144 yX2_ticksOn, Cond.instanceMethod yX2_ticksOn, Cond.selects RX2 yX2_ticksOn yX2_ticksOn, Cond.code yX2_ticksOn cX2_ticksOn 5 (some .int), Cond.methodLink RX2 90 yX2_tickOn, Cond.instanceMethod yX2_tickOn, Cond.selects RX2 yX2_tickOn yX2_tickOn, Cond.code yX2_tickOn cX2_tickOn 4 none, Cond.methodLink RX2 70 yX2_boil, Cond.instanceMethod yX2_boil, Cond.selects RX2 yX2_boil yX2_boil, Cond.code yX2_boil cX2_boil 7 none, Cond.methodLink RX2 83 yX2_less, Cond.static yX2_less, Cond.code yX2_less cX2_less 2 (some .int), Cond.methodLink RX2 74 yX2_go]
def wsL_law0_r17 : List Cond := [Cond.instanceMethod yX2_go, Cond.selects RX2 yX2_go yX2_go, Cond.code yX2_go cX2_go 8 none, Cond.methodLink RL 146 yL_set, Cond.static yL_set, Cond.codeWith yL_set cL_set 5 (some .int) [(0, 10, 13, 13)], Cond.methodLink RL 44 yX1_set, Cond.instanceMethod yX1_set, Cond.selects RX1 yX1_set yX1_set, Cond.code yX1_set cX1_set 4 (some .int), Cond.methodLink RL 148 yX2_set, Cond.instanceMethod yX2_set, Cond.selects RX2 yX2_set yX2_set, Cond.code yX2_set cX2_set 5 (some .int), Cond.constantLong RX2 147 (999), Cond.constantLong RX2 149 (20), Cond.constantLong RX2 151 (4), Cond.methodLink RL 149 yL_setValve, Cond.static yL_setValve, Cond.codeWith yL_setValve cL_setValve 5 (some .int) [(0, 10, 13, 31), (0, 10, 17, 13)], Cond.methodLink RL 47 yX1_setValve, Cond.instanceMethod yX1_setValve, Cond.selects RX1 yX1_setValve yX1_setValve, Cond.code yX1_setValve cX1_setValve 4 (some .int)]
def wsL_law0_r18 : List Cond := [Cond.methodLink RL 151 yX2_setValve, Cond.instanceMethod yX2_setValve, Cond.selects RX2 yX2_setValve yX2_setValve, Cond.code yX2_setValve cX2_setValve 3 (some .int), Cond.methodLink RX2 153 yX2_change, Cond.instanceMethod yX2_change, Cond.selects RX2 yX2_change yX2_change, Cond.code yX2_change cX2_change 4 (some .int), Cond.methodLink RL 152 yL_setBleed, Cond.static yL_setBleed, Cond.codeWith yL_setBleed cL_setBleed 5 (some .int) [(0, 10, 13, 31), (0, 10, 17, 13)], Cond.methodLink RL 50 yX1_setBleed, Cond.instanceMethod yX1_setBleed, Cond.selects RX1 yX1_setBleed yX1_setBleed, Cond.code yX1_setBleed cX1_setBleed 4 (some .int), Cond.methodLink RL 154 yX2_setBleed, Cond.instanceMethod yX2_setBleed, Cond.selects RX2 yX2_setBleed yX2_setBleed, Cond.code yX2_setBleed cX2_setBleed 3 (some .int), Cond.constantLong RX2 156 (90), Cond.methodLink RL 155 yL_wash, Cond.static yL_wash, Cond.codeWith yL_wash cL_wash 5 (some .int) [(0, 10, 13, 31), (0, 10, 17, 13), (0, 10, 21, 15)], Cond.methodLink RL 53 yX1_wash]
def wsL_law0_r19 : List Cond := [Cond.instanceMethod yX1_wash, Cond.selects RX1 yX1_wash yX1_wash, Cond.code yX1_wash cX1_wash 3 (some .int), Cond.methodLink RX1 141 yX1_checkWorks, Cond.instanceMethod yX1_checkWorks, Cond.selects RX1 yX1_checkWorks yX1_checkWorks, Cond.code yX1_checkWorks cX1_checkWorks 2 none, Cond.methodLink RL 157 yX2_wash, Cond.instanceMethod yX2_wash, Cond.selects RX2 yX2_wash yX2_wash, Cond.code yX2_wash cX2_wash 3 (some .int), Cond.methodLink RL 158 yL_endWash, Cond.static yL_endWash, Cond.codeWith yL_endWash cL_endWash 4 (some .int) [(0, 9, 12, 31), (0, 9, 15, 15)], Cond.methodLink RL 56 yX1_endWash, Cond.instanceMethod yX1_endWash, Cond.selects RX1 yX1_endWash yX1_endWash, Cond.code yX1_endWash cX1_endWash 3 (some .int), Cond.methodLink RL 160 yX2_endWash, Cond.instanceMethod yX2_endWash, Cond.selects RX2 yX2_endWash yX2_endWash, Cond.code yX2_endWash cX2_endWash 2 (some .int), Cond.methodLink RL 161 yL_undo, Cond.static yL_undo]
def wsL_law0_r20 : List Cond := [Cond.codeWith yL_undo cL_undo 3 (some .int) [(0, 8, 11, 15)], Cond.methodLink RL 59 yX1_undo, Cond.instanceMethod yX1_undo, Cond.selects RX1 yX1_undo yX1_undo, Cond.code yX1_undo cX1_undo 1 (some .int), Cond.methodLink RL 163 yX2_undo, Cond.instanceMethod yX2_undo, Cond.selects RX2 yX2_undo yX2_undo, Cond.code yX2_undo cX2_undo 1 (some .int), Cond.methodLink RL 164 yL_ahead, Cond.static yL_ahead, Cond.codeWith yL_ahead cL_ahead 6 (some .int) [(0, 12, 15, 31), (0, 12, 19, 13)], Cond.methodLink RL 62 yX1_ahead, Cond.instanceMethod yX1_ahead, Cond.selects RX1 yX1_ahead yX1_ahead, Cond.code yX1_ahead cX1_ahead 4 (some .int), Cond.methodLink RL 167 yX2_ahead, Cond.instanceMethod yX2_ahead, Cond.selects RX2 yX2_ahead yX2_ahead, Cond.code yX2_ahead cX2_ahead 4 (some .int), Cond.methodLink RL 168 yL_growth, Cond.static yL_growth, Cond.codeWith yL_growth cL_growth 5 (some .int) [(0, 10, 13, 13)], Cond.methodLink RL 66 yX1_growth]
def wsL_law0_r21 : List Cond := [Cond.instanceMethod yX1_growth, Cond.selects RX1 yX1_growth yX1_growth, Cond.code yX1_growth cX1_growth 3 (some .int), Cond.methodLink RL 170 yX2_growth, Cond.instanceMethod yX2_growth, Cond.selects RX2 yX2_growth yX2_growth, Cond.code yX2_growth cX2_growth 3 (some .int), Cond.methodLink RL 171 yL_washGain, Cond.static yL_washGain, Cond.codeWith yL_washGain cL_washGain 6 (some .int) [(0, 12, 15, 31), (0, 12, 19, 13), (0, 12, 23, 15)], Cond.methodLink RL 69 yX1_washGain, Cond.instanceMethod yX1_washGain, Cond.selects RX1 yX1_washGain yX1_washGain, Cond.code yX1_washGain cX1_washGain 5 (some .int), Cond.methodLink RL 173 yX2_washGain, Cond.instanceMethod yX2_washGain, Cond.selects RX2 yX2_washGain yX2_washGain, Cond.code yX2_washGain cX2_washGain 5 (some .int), Cond.methodLink RL 174 yL_bestTurns, Cond.static yL_bestTurns, Cond.codeWith yL_bestTurns cL_bestTurns 5 (some .int) [(0, 10, 13, 13)], Cond.methodLink RL 72 yX1_bestTurns, Cond.instanceMethod yX1_bestTurns, Cond.selects RX1 yX1_bestTurns yX1_bestTurns]
def wsL_law0_r22 : List Cond := [Cond.code yX1_bestTurns cX1_bestTurns 7 (some .int), Cond.methodLink RX1 159 yX1_vaporWithChoice, Cond.instanceMethod yX1_vaporWithChoice, Cond.selects RX1 yX1_vaporWithChoice yX1_vaporWithChoice, Cond.code yX1_vaporWithChoice cX1_vaporWithChoice 5 (some .int), Cond.methodLink RX1 163 yX1_greatestVapor, Cond.instanceMethod yX1_greatestVapor, Cond.selects RX1 yX1_greatestVapor yX1_greatestVapor, Cond.code yX1_greatestVapor cX1_greatestVapor 5 (some .int), Cond.methodLink RX1 167 Lib.Math.max.name, Cond.methodLink RL 176 yX2_bestTurns, Cond.instanceMethod yX2_bestTurns, Cond.selects RX2 yX2_bestTurns yX2_bestTurns, Cond.code yX2_bestTurns cX2_bestTurns 8 (some .int), Cond.constantLong RX2 158 (3), Cond.methodLink RX2 160 yX2_turns, Cond.instanceMethod yX2_turns, Cond.selects RX2 yX2_turns yX2_turns, Cond.code yX2_turns cX2_turns 7 (some .int), Cond.methodLink RL 177 yL_scaledAfter, Cond.static yL_scaledAfter, Cond.codeWith yL_scaledAfter cL_scaledAfter 5 (some .int) [(0, 10, 13, 31), (0, 10, 17, 13)], Cond.methodLink RL 75 yX1_scaledAfter, Cond.instanceMethod yX1_scaledAfter]
def wsL_law0_r23 : List Cond := [Cond.selects RX1 yX1_scaledAfter yX1_scaledAfter, Cond.code yX1_scaledAfter cX1_scaledAfter 4 (some .int), Cond.methodLink RL 179 yX2_scaledAfter, Cond.instanceMethod yX2_scaledAfter, Cond.selects RX2 yX2_scaledAfter yX2_scaledAfter, Cond.code yX2_scaledAfter cX2_scaledAfter 4 (some .int), Cond.methodLink RL 180 yL_steamFor, Cond.static yL_steamFor, Cond.codeWith yL_steamFor cL_steamFor 5 (some .int) [(0, 10, 13, 13)], Cond.methodLink RL 78 yX1_steamFor, Cond.instanceMethod yX1_steamFor, Cond.selects RX1 yX1_steamFor yX1_steamFor, Cond.code yX1_steamFor cX1_steamFor 4 (some .int), Cond.methodLink RL 182 yX2_steamFor, Cond.instanceMethod yX2_steamFor, Cond.selects RX2 yX2_steamFor yX2_steamFor, Cond.code yX2_steamFor cX2_steamFor 4 (some .int), Cond.constantLong RX2 163 (9999), Cond.methodLink RL 185 yL_runScript, Cond.static yL_runScript, Cond.codeWith yL_runScript cL_runScript 6 (some .int) [(0, 11, 14, 13)], Cond.methodLink RL 81 yX1_runScript, Cond.instanceMethod yX1_runScript, Cond.selects RX1 yX1_runScript yX1_runScript]
def wsL_law0_r24 : List Cond := [Cond.code yX1_runScript cX1_runScript 6 (some .int), Cond.constantLong RX1 184 (100000), Cond.methodLink RX1 175 yX1_withoutLastGroups, Cond.static yX1_withoutLastGroups, Cond.code yX1_withoutLastGroups cX1_withoutLastGroups 6 (some .long), Cond.methodLink RX1 186 yX1_runCommand, Cond.instanceMethod yX1_runCommand, Cond.selects RX1 yX1_runCommand yX1_runCommand, Cond.code yX1_runCommand cX1_runCommand 4 (some .boolean), Cond.methodLink RX1 190 yX1_runEffectCommand, Cond.instanceMethod yX1_runEffectCommand, Cond.selects RX1 yX1_runEffectCommand yX1_runEffectCommand, Cond.code yX1_runEffectCommand cX1_runEffectCommand 4 (some .boolean), Cond.methodLink RL 188 yX2_runScript, Cond.instanceMethod yX2_runScript, Cond.selects RX2 yX2_runScript yX2_runScript, Cond.code yX2_runScript cX2_runScript 5 (some .int), Cond.constantLong RX2 165 (100000), Cond.methodLink RX2 167 yX2_command, Cond.instanceMethod yX2_command, Cond.selects RX2 yX2_command yX2_command, Cond.code yX2_command cX2_command 7 (some .boolean), Cond.methodLink RL 189 yL_simulate, Cond.static yL_simulate]
def wsL_law0_r25 : List Cond := [Cond.codeWith yL_simulate cL_simulate 6 (some .int) [(0, 11, 14, 13)], Cond.methodLink RL 85 yX1_simulate, Cond.instanceMethod yX1_simulate, Cond.selects RX1 yX1_simulate yX1_simulate, Cond.code yX1_simulate cX1_simulate 8 (some .int), Cond.constantLong RX1 197 (6364136223846793005), Cond.constantLong RX1 199 (1442695040888963407), Cond.methodLink RX1 201 yX1_disturb, Cond.instanceMethod yX1_disturb, Cond.selects RX1 yX1_disturb yX1_disturb, Cond.code yX1_disturb cX1_disturb 4 none, Cond.methodLink RL 192 yX2_simulate, Cond.instanceMethod yX2_simulate, Cond.selects RX2 yX2_simulate yX2_simulate, Cond.code yX2_simulate cX2_simulate 9 (some .int), Cond.constantLong RX2 170 (6364136223846793005), Cond.constantLong RX2 172 (1442695040888963407), Cond.methodLink RL 193 yL_save, Cond.static yL_save, Cond.codeWith yL_save cL_save 4 (some .int) [(0, 9, 12, 31)], Cond.methodLink RL 89 yX1_save, Cond.instanceMethod yX1_save, Cond.selects RX1 yX1_save yX1_save, Cond.code yX1_save cX1_save 2 (some .int)]
def wsL_law0_r26 : List Cond := [Cond.methodLink RX1 204 yX1_checkSlot, Cond.static yX1_checkSlot, Cond.code yX1_checkSlot cX1_checkSlot 1 none, Cond.methodLink RL 195 yX2_save, Cond.instanceMethod yX2_save, Cond.selects RX2 yX2_save yX2_save, Cond.code yX2_save cX2_save 2 (some .int), Cond.methodLink RL 196 yL_restore, Cond.static yL_restore, Cond.codeWith yL_restore cL_restore 4 (some .int) [(0, 9, 12, 31), (0, 9, 15, 15)], Cond.methodLink RL 92 yX1_restore, Cond.instanceMethod yX1_restore, Cond.selects RX1 yX1_restore yX1_restore, Cond.code yX1_restore cX1_restore 2 (some .int), Cond.methodLink RL 198 yX2_restore, Cond.instanceMethod yX2_restore, Cond.selects RX2 yX2_restore yX2_restore, Cond.code yX2_restore cX2_restore 2 (some .int)]
def wsL_law0 : List Cond := (wsL_law0_r1 ++ (wsL_law0_r2 ++ (wsL_law0_r3 ++ (wsL_law0_r4 ++ (wsL_law0_r5 ++ (wsL_law0_r6 ++ (wsL_law0_r7 ++ (wsL_law0_r8 ++ (wsL_law0_r9 ++ (wsL_law0_r10 ++ (wsL_law0_r11 ++ (wsL_law0_r12 ++ (wsL_law0_r13 ++ (wsL_law0_r14 ++ (wsL_law0_r15 ++ (wsL_law0_r16 ++ (wsL_law0_r17 ++ (wsL_law0_r18 ++ (wsL_law0_r19 ++ (wsL_law0_r20 ++ (wsL_law0_r21 ++ (wsL_law0_r22 ++ (wsL_law0_r23 ++ (wsL_law0_r24 ++ (wsL_law0_r25 ++ wsL_law0_r26))))))))))))))))))))))))) ++ wsX10 ++ wsX20 ++ wsX00 ++ ([] : List Cond)
def wsL_law : List Cond := wsL_law0 ++ (vx_atS RX1 59 "java/lang/IllegalStateException" ["java/lang/RuntimeException", "java/lang/Exception"]).filter goodWord ++ (vx_atS RX1 183 "java/lang/IllegalArgumentException" ["java/lang/RuntimeException", "java/lang/Exception"]).filter goodWord ++ (vx_atS RX1 215 "java/lang/IndexOutOfBoundsException" ["java/lang/RuntimeException", "java/lang/Exception"]).filter goodWord
abbrev vwCl : List vw_C := [(RX0, TX0, 12), (RX1, TX1, 11), (RX2, TX2, 15)]
end
section
set_option maxRecDepth 20000 in
theorem ggX0_init_J7_fill_53178 : GoodIn wsX0_init wsJ7_fill_53178 := goodIn_r _ [20] (by decide +kernel) (by decide +kernel)
set_option maxRecDepth 20000 in
theorem gX0_init_J7_fill_53178 : GoodIn wsX0_init (va_wsS RX0 49 yJ7_fill_53178 wsJ7_fill_53178) := goodIn_app (goodIn_of _ (by decide +kernel)) ggX0_init_J7_fill_53178
theorem dX0_init_0 : decode cX0_init 0 = .ok (.aload_n 0, 1) := by decide +kernel
theorem dX0_init_1 : decode cX0_init 1 = .ok (.invokespecial 3, 3) := by decide +kernel
theorem dX0_init_4 : decode cX0_init 4 = .ok (.aload_n 0, 1) := by decide +kernel
theorem dX0_init_5 : decode cX0_init 5 = .ok (.iconst 2, 1) := by decide +kernel
theorem dX0_init_6 : decode cX0_init 6 = .ok (.putfield 9, 3) := by decide +kernel
theorem dX0_init_9 : decode cX0_init 9 = .ok (.aload_n 0, 1) := by decide +kernel
theorem dX0_init_10 : decode cX0_init 10 = .ok (.iconst 5, 1) := by decide +kernel
theorem dX0_init_11 : decode cX0_init 11 = .ok (.newarray .int, 2) := by decide +kernel
theorem dX0_init_13 : decode cX0_init 13 = .ok (.dup, 1) := by decide +kernel
theorem dX0_init_14 : decode cX0_init 14 = .ok (.iconst 0, 1) := by decide +kernel
theorem dX0_init_15 : decode cX0_init 15 = .ok (.bipush 100, 2) := by decide +kernel
theorem dX0_init_17 : decode cX0_init 17 = .ok (.iastore, 1) := by decide +kernel
theorem dX0_init_18 : decode cX0_init 18 = .ok (.dup, 1) := by decide +kernel
theorem dX0_init_19 : decode cX0_init 19 = .ok (.iconst 1, 1) := by decide +kernel
theorem dX0_init_20 : decode cX0_init 20 = .ok (.bipush 90, 2) := by decide +kernel
theorem dX0_init_22 : decode cX0_init 22 = .ok (.iastore, 1) := by decide +kernel
theorem dX0_init_23 : decode cX0_init 23 = .ok (.dup, 1) := by decide +kernel
theorem dX0_init_24 : decode cX0_init 24 = .ok (.iconst 2, 1) := by decide +kernel
theorem dX0_init_25 : decode cX0_init 25 = .ok (.bipush 10, 2) := by decide +kernel
theorem dX0_init_27 : decode cX0_init 27 = .ok (.iastore, 1) := by decide +kernel
theorem dX0_init_28 : decode cX0_init 28 = .ok (.dup, 1) := by decide +kernel
theorem dX0_init_29 : decode cX0_init 29 = .ok (.iconst 3, 1) := by decide +kernel
theorem dX0_init_30 : decode cX0_init 30 = .ok (.iconst 0, 1) := by decide +kernel
theorem dX0_init_31 : decode cX0_init 31 = .ok (.iastore, 1) := by decide +kernel
theorem dX0_init_32 : decode cX0_init 32 = .ok (.dup, 1) := by decide +kernel
theorem dX0_init_33 : decode cX0_init 33 = .ok (.iconst 4, 1) := by decide +kernel
theorem dX0_init_34 : decode cX0_init 34 = .ok (.iconst 5, 1) := by decide +kernel
theorem dX0_init_35 : decode cX0_init 35 = .ok (.iastore, 1) := by decide +kernel
theorem dX0_init_36 : decode cX0_init 36 = .ok (.putfield 15, 3) := by decide +kernel
theorem dX0_init_39 : decode cX0_init 39 = .ok (.aload_n 0, 1) := by decide +kernel
theorem dX0_init_40 : decode cX0_init 40 = .ok (.iconst 0, 1) := by decide +kernel
theorem dX0_init_41 : decode cX0_init 41 = .ok (.putfield 19, 3) := by decide +kernel
theorem dX0_init_44 : decode cX0_init 44 = .ok (.aload_n 0, 1) := by decide +kernel
theorem dX0_init_45 : decode cX0_init 45 = .ok (.bipush 10, 2) := by decide +kernel
theorem dX0_init_47 : decode cX0_init 47 = .ok (.newarray .int, 2) := by decide +kernel
theorem dX0_init_49 : decode cX0_init 49 = .ok (.putfield 22, 3) := by decide +kernel
theorem dX0_init_52 : decode cX0_init 52 = .ok (.aload_n 0, 1) := by decide +kernel
theorem dX0_init_53 : decode cX0_init 53 = .ok (.bipush 6, 2) := by decide +kernel
theorem dX0_init_55 : decode cX0_init 55 = .ok (.newarray .int, 2) := by decide +kernel
theorem dX0_init_57 : decode cX0_init 57 = .ok (.putfield 25, 3) := by decide +kernel
theorem dX0_init_60 : decode cX0_init 60 = .ok (.aload_n 0, 1) := by decide +kernel
theorem dX0_init_61 : decode cX0_init 61 = .ok (.bipush 6, 2) := by decide +kernel
theorem dX0_init_63 : decode cX0_init 63 = .ok (.newarray .int, 2) := by decide +kernel
theorem dX0_init_65 : decode cX0_init 65 = .ok (.putfield 28, 3) := by decide +kernel
theorem dX0_init_68 : decode cX0_init 68 = .ok (.aload_n 0, 1) := by decide +kernel
theorem dX0_init_69 : decode cX0_init 69 = .ok (.bipush 6, 2) := by decide +kernel
theorem dX0_init_71 : decode cX0_init 71 = .ok (.newarray .int, 2) := by decide +kernel
theorem dX0_init_73 : decode cX0_init 73 = .ok (.putfield 31, 3) := by decide +kernel
theorem dX0_init_76 : decode cX0_init 76 = .ok (.aload_n 0, 1) := by decide +kernel
theorem dX0_init_77 : decode cX0_init 77 = .ok (.bipush 6, 2) := by decide +kernel
theorem dX0_init_79 : decode cX0_init 79 = .ok (.newarray .int, 2) := by decide +kernel
theorem dX0_init_81 : decode cX0_init 81 = .ok (.putfield 34, 3) := by decide +kernel
theorem dX0_init_84 : decode cX0_init 84 = .ok (.aload_n 0, 1) := by decide +kernel
theorem dX0_init_85 : decode cX0_init 85 = .ok (.bipush 6, 2) := by decide +kernel
theorem dX0_init_87 : decode cX0_init 87 = .ok (.newarray .int, 2) := by decide +kernel
theorem dX0_init_89 : decode cX0_init 89 = .ok (.putfield 37, 3) := by decide +kernel
theorem dX0_init_92 : decode cX0_init 92 = .ok (.aload_n 0, 1) := by decide +kernel
theorem dX0_init_93 : decode cX0_init 93 = .ok (.bipush 6, 2) := by decide +kernel
theorem dX0_init_95 : decode cX0_init 95 = .ok (.newarray .int, 2) := by decide +kernel
theorem dX0_init_97 : decode cX0_init 97 = .ok (.putfield 40, 3) := by decide +kernel
theorem dX0_init_100 : decode cX0_init 100 = .ok (.aload_n 0, 1) := by decide +kernel
theorem dX0_init_101 : decode cX0_init 101 = .ok (.bipush 6, 2) := by decide +kernel
theorem dX0_init_103 : decode cX0_init 103 = .ok (.newarray .int, 2) := by decide +kernel
theorem dX0_init_105 : decode cX0_init 105 = .ok (.putfield 43, 3) := by decide +kernel
theorem dX0_init_108 : decode cX0_init 108 = .ok (.aload_n 0, 1) := by decide +kernel
theorem dX0_init_109 : decode cX0_init 109 = .ok (.bipush 6, 2) := by decide +kernel
theorem dX0_init_111 : decode cX0_init 111 = .ok (.newarray .int, 2) := by decide +kernel
theorem dX0_init_113 : decode cX0_init 113 = .ok (.putfield 46, 3) := by decide +kernel
theorem dX0_init_116 : decode cX0_init 116 = .ok (.aload_n 0, 1) := by decide +kernel
theorem dX0_init_117 : decode cX0_init 117 = .ok (.getfield 25, 3) := by decide +kernel
theorem dX0_init_120 : decode cX0_init 120 = .ok (.iconst 5, 1) := by decide +kernel
theorem dX0_init_121 : decode cX0_init 121 = .ok (.invokestatic 49, 3) := by decide +kernel
theorem dX0_init_124 : decode cX0_init 124 = .ok (.aload_n 0, 1) := by decide +kernel
theorem dX0_init_125 : decode cX0_init 125 = .ok (.getfield 34, 3) := by decide +kernel
theorem dX0_init_128 : decode cX0_init 128 = .ok (.bipush 50, 2) := by decide +kernel
theorem dX0_init_130 : decode cX0_init 130 = .ok (.invokestatic 49, 3) := by decide +kernel
theorem dX0_init_133 : decode cX0_init 133 = .ok (.return_, 1) := by decide +kernel
theorem dX0_copyFrom_0 : decode cX0_copyFrom 0 = .ok (.aload_n 0, 1) := by decide +kernel
theorem dX0_copyFrom_1 : decode cX0_copyFrom 1 = .ok (.aload_n 1, 1) := by decide +kernel
theorem dX0_copyFrom_2 : decode cX0_copyFrom 2 = .ok (.getfield 9, 3) := by decide +kernel
theorem dX0_copyFrom_5 : decode cX0_copyFrom 5 = .ok (.putfield 9, 3) := by decide +kernel
theorem dX0_copyFrom_8 : decode cX0_copyFrom 8 = .ok (.aload_n 0, 1) := by decide +kernel
theorem dX0_copyFrom_9 : decode cX0_copyFrom 9 = .ok (.aload_n 1, 1) := by decide +kernel
theorem dX0_copyFrom_10 : decode cX0_copyFrom 10 = .ok (.getfield 19, 3) := by decide +kernel
theorem dX0_copyFrom_13 : decode cX0_copyFrom 13 = .ok (.putfield 19, 3) := by decide +kernel
theorem dX0_copyFrom_16 : decode cX0_copyFrom 16 = .ok (.aload_n 1, 1) := by decide +kernel
theorem dX0_copyFrom_17 : decode cX0_copyFrom 17 = .ok (.getfield 15, 3) := by decide +kernel
theorem dX0_copyFrom_20 : decode cX0_copyFrom 20 = .ok (.iconst 0, 1) := by decide +kernel
theorem dX0_copyFrom_21 : decode cX0_copyFrom 21 = .ok (.aload_n 0, 1) := by decide +kernel
theorem dX0_copyFrom_22 : decode cX0_copyFrom 22 = .ok (.getfield 15, 3) := by decide +kernel
theorem dX0_copyFrom_25 : decode cX0_copyFrom 25 = .ok (.iconst 0, 1) := by decide +kernel
theorem dX0_copyFrom_26 : decode cX0_copyFrom 26 = .ok (.iconst 5, 1) := by decide +kernel
theorem dX0_copyFrom_27 : decode cX0_copyFrom 27 = .ok (.invokestatic 55, 3) := by decide +kernel
theorem dX0_copyFrom_30 : decode cX0_copyFrom 30 = .ok (.aload_n 1, 1) := by decide +kernel
theorem dX0_copyFrom_31 : decode cX0_copyFrom 31 = .ok (.getfield 22, 3) := by decide +kernel
theorem dX0_copyFrom_34 : decode cX0_copyFrom 34 = .ok (.iconst 0, 1) := by decide +kernel
theorem dX0_copyFrom_35 : decode cX0_copyFrom 35 = .ok (.aload_n 0, 1) := by decide +kernel
theorem dX0_copyFrom_36 : decode cX0_copyFrom 36 = .ok (.getfield 22, 3) := by decide +kernel
theorem dX0_copyFrom_39 : decode cX0_copyFrom 39 = .ok (.iconst 0, 1) := by decide +kernel
theorem dX0_copyFrom_40 : decode cX0_copyFrom 40 = .ok (.bipush 10, 2) := by decide +kernel
theorem dX0_copyFrom_42 : decode cX0_copyFrom 42 = .ok (.invokestatic 55, 3) := by decide +kernel
theorem dX0_copyFrom_45 : decode cX0_copyFrom 45 = .ok (.aload_n 1, 1) := by decide +kernel
theorem dX0_copyFrom_46 : decode cX0_copyFrom 46 = .ok (.getfield 25, 3) := by decide +kernel
theorem dX0_copyFrom_49 : decode cX0_copyFrom 49 = .ok (.iconst 0, 1) := by decide +kernel
theorem dX0_copyFrom_50 : decode cX0_copyFrom 50 = .ok (.aload_n 0, 1) := by decide +kernel
theorem dX0_copyFrom_51 : decode cX0_copyFrom 51 = .ok (.getfield 25, 3) := by decide +kernel
theorem dX0_copyFrom_54 : decode cX0_copyFrom 54 = .ok (.iconst 0, 1) := by decide +kernel
theorem dX0_copyFrom_55 : decode cX0_copyFrom 55 = .ok (.bipush 6, 2) := by decide +kernel
theorem dX0_copyFrom_57 : decode cX0_copyFrom 57 = .ok (.invokestatic 55, 3) := by decide +kernel
theorem dX0_copyFrom_60 : decode cX0_copyFrom 60 = .ok (.aload_n 1, 1) := by decide +kernel
theorem dX0_copyFrom_61 : decode cX0_copyFrom 61 = .ok (.getfield 28, 3) := by decide +kernel
theorem dX0_copyFrom_64 : decode cX0_copyFrom 64 = .ok (.iconst 0, 1) := by decide +kernel
theorem dX0_copyFrom_65 : decode cX0_copyFrom 65 = .ok (.aload_n 0, 1) := by decide +kernel
theorem dX0_copyFrom_66 : decode cX0_copyFrom 66 = .ok (.getfield 28, 3) := by decide +kernel
theorem dX0_copyFrom_69 : decode cX0_copyFrom 69 = .ok (.iconst 0, 1) := by decide +kernel
theorem dX0_copyFrom_70 : decode cX0_copyFrom 70 = .ok (.bipush 6, 2) := by decide +kernel
theorem dX0_copyFrom_72 : decode cX0_copyFrom 72 = .ok (.invokestatic 55, 3) := by decide +kernel
theorem dX0_copyFrom_75 : decode cX0_copyFrom 75 = .ok (.aload_n 1, 1) := by decide +kernel
theorem dX0_copyFrom_76 : decode cX0_copyFrom 76 = .ok (.getfield 31, 3) := by decide +kernel
theorem dX0_copyFrom_79 : decode cX0_copyFrom 79 = .ok (.iconst 0, 1) := by decide +kernel
theorem dX0_copyFrom_80 : decode cX0_copyFrom 80 = .ok (.aload_n 0, 1) := by decide +kernel
theorem dX0_copyFrom_81 : decode cX0_copyFrom 81 = .ok (.getfield 31, 3) := by decide +kernel
theorem dX0_copyFrom_84 : decode cX0_copyFrom 84 = .ok (.iconst 0, 1) := by decide +kernel
theorem dX0_copyFrom_85 : decode cX0_copyFrom 85 = .ok (.bipush 6, 2) := by decide +kernel
theorem dX0_copyFrom_87 : decode cX0_copyFrom 87 = .ok (.invokestatic 55, 3) := by decide +kernel
theorem dX0_copyFrom_90 : decode cX0_copyFrom 90 = .ok (.aload_n 1, 1) := by decide +kernel
theorem dX0_copyFrom_91 : decode cX0_copyFrom 91 = .ok (.getfield 34, 3) := by decide +kernel
theorem dX0_copyFrom_94 : decode cX0_copyFrom 94 = .ok (.iconst 0, 1) := by decide +kernel
theorem dX0_copyFrom_95 : decode cX0_copyFrom 95 = .ok (.aload_n 0, 1) := by decide +kernel
theorem dX0_copyFrom_96 : decode cX0_copyFrom 96 = .ok (.getfield 34, 3) := by decide +kernel
theorem dX0_copyFrom_99 : decode cX0_copyFrom 99 = .ok (.iconst 0, 1) := by decide +kernel
theorem dX0_copyFrom_100 : decode cX0_copyFrom 100 = .ok (.bipush 6, 2) := by decide +kernel
theorem dX0_copyFrom_102 : decode cX0_copyFrom 102 = .ok (.invokestatic 55, 3) := by decide +kernel
theorem dX0_copyFrom_105 : decode cX0_copyFrom 105 = .ok (.aload_n 1, 1) := by decide +kernel
theorem dX0_copyFrom_106 : decode cX0_copyFrom 106 = .ok (.getfield 37, 3) := by decide +kernel
theorem dX0_copyFrom_109 : decode cX0_copyFrom 109 = .ok (.iconst 0, 1) := by decide +kernel
theorem dX0_copyFrom_110 : decode cX0_copyFrom 110 = .ok (.aload_n 0, 1) := by decide +kernel
theorem dX0_copyFrom_111 : decode cX0_copyFrom 111 = .ok (.getfield 37, 3) := by decide +kernel
theorem dX0_copyFrom_114 : decode cX0_copyFrom 114 = .ok (.iconst 0, 1) := by decide +kernel
theorem dX0_copyFrom_115 : decode cX0_copyFrom 115 = .ok (.bipush 6, 2) := by decide +kernel
theorem dX0_copyFrom_117 : decode cX0_copyFrom 117 = .ok (.invokestatic 55, 3) := by decide +kernel
theorem dX0_copyFrom_120 : decode cX0_copyFrom 120 = .ok (.aload_n 1, 1) := by decide +kernel
theorem dX0_copyFrom_121 : decode cX0_copyFrom 121 = .ok (.getfield 40, 3) := by decide +kernel
theorem dX0_copyFrom_124 : decode cX0_copyFrom 124 = .ok (.iconst 0, 1) := by decide +kernel
theorem dX0_copyFrom_125 : decode cX0_copyFrom 125 = .ok (.aload_n 0, 1) := by decide +kernel
theorem dX0_copyFrom_126 : decode cX0_copyFrom 126 = .ok (.getfield 40, 3) := by decide +kernel
theorem dX0_copyFrom_129 : decode cX0_copyFrom 129 = .ok (.iconst 0, 1) := by decide +kernel
theorem dX0_copyFrom_130 : decode cX0_copyFrom 130 = .ok (.bipush 6, 2) := by decide +kernel
theorem dX0_copyFrom_132 : decode cX0_copyFrom 132 = .ok (.invokestatic 55, 3) := by decide +kernel
theorem dX0_copyFrom_135 : decode cX0_copyFrom 135 = .ok (.aload_n 1, 1) := by decide +kernel
theorem dX0_copyFrom_136 : decode cX0_copyFrom 136 = .ok (.getfield 43, 3) := by decide +kernel
theorem dX0_copyFrom_139 : decode cX0_copyFrom 139 = .ok (.iconst 0, 1) := by decide +kernel
theorem dX0_copyFrom_140 : decode cX0_copyFrom 140 = .ok (.aload_n 0, 1) := by decide +kernel
theorem dX0_copyFrom_141 : decode cX0_copyFrom 141 = .ok (.getfield 43, 3) := by decide +kernel
theorem dX0_copyFrom_144 : decode cX0_copyFrom 144 = .ok (.iconst 0, 1) := by decide +kernel
theorem dX0_copyFrom_145 : decode cX0_copyFrom 145 = .ok (.bipush 6, 2) := by decide +kernel
theorem dX0_copyFrom_147 : decode cX0_copyFrom 147 = .ok (.invokestatic 55, 3) := by decide +kernel
theorem dX0_copyFrom_150 : decode cX0_copyFrom 150 = .ok (.aload_n 1, 1) := by decide +kernel
theorem dX0_copyFrom_151 : decode cX0_copyFrom 151 = .ok (.getfield 46, 3) := by decide +kernel
theorem dX0_copyFrom_154 : decode cX0_copyFrom 154 = .ok (.iconst 0, 1) := by decide +kernel
theorem dX0_copyFrom_155 : decode cX0_copyFrom 155 = .ok (.aload_n 0, 1) := by decide +kernel
theorem dX0_copyFrom_156 : decode cX0_copyFrom 156 = .ok (.getfield 46, 3) := by decide +kernel
theorem dX0_copyFrom_159 : decode cX0_copyFrom 159 = .ok (.iconst 0, 1) := by decide +kernel
theorem dX0_copyFrom_160 : decode cX0_copyFrom 160 = .ok (.bipush 6, 2) := by decide +kernel
theorem dX0_copyFrom_162 : decode cX0_copyFrom 162 = .ok (.invokestatic 55, 3) := by decide +kernel
theorem dX0_copyFrom_165 : decode cX0_copyFrom 165 = .ok (.return_, 1) := by decide +kernel
set_option maxRecDepth 20000 in
theorem ggX0_takeNumbers_J7_fill_53178 : GoodIn wsX0_takeNumbers wsJ7_fill_53178 := goodIn_r _ [20] (by decide +kernel) (by decide +kernel)
set_option maxRecDepth 20000 in
theorem gX0_takeNumbers_J7_fill_53178 : GoodIn wsX0_takeNumbers (va_wsS RX0 49 yJ7_fill_53178 wsJ7_fill_53178) := goodIn_app (goodIn_of _ (by decide +kernel)) ggX0_takeNumbers_J7_fill_53178
theorem dX0_takeNumbers_0 : decode cX0_takeNumbers 0 = .ok (.aload_n 0, 1) := by decide +kernel
theorem dX0_takeNumbers_1 : decode cX0_takeNumbers 1 = .ok (.aload_n 1, 1) := by decide +kernel
theorem dX0_takeNumbers_2 : decode cX0_takeNumbers 2 = .ok (.iconst 0, 1) := by decide +kernel
theorem dX0_takeNumbers_3 : decode cX0_takeNumbers 3 = .ok (.iaload, 1) := by decide +kernel
theorem dX0_takeNumbers_4 : decode cX0_takeNumbers 4 = .ok (.putfield 9, 3) := by decide +kernel
theorem dX0_takeNumbers_7 : decode cX0_takeNumbers 7 = .ok (.aload_n 1, 1) := by decide +kernel
theorem dX0_takeNumbers_8 : decode cX0_takeNumbers 8 = .ok (.iconst 1, 1) := by decide +kernel
theorem dX0_takeNumbers_9 : decode cX0_takeNumbers 9 = .ok (.aload_n 0, 1) := by decide +kernel
theorem dX0_takeNumbers_10 : decode cX0_takeNumbers 10 = .ok (.getfield 15, 3) := by decide +kernel
theorem dX0_takeNumbers_13 : decode cX0_takeNumbers 13 = .ok (.iconst 0, 1) := by decide +kernel
theorem dX0_takeNumbers_14 : decode cX0_takeNumbers 14 = .ok (.iconst 5, 1) := by decide +kernel
theorem dX0_takeNumbers_15 : decode cX0_takeNumbers 15 = .ok (.invokestatic 55, 3) := by decide +kernel
theorem dX0_takeNumbers_18 : decode cX0_takeNumbers 18 = .ok (.aload_n 0, 1) := by decide +kernel
theorem dX0_takeNumbers_19 : decode cX0_takeNumbers 19 = .ok (.iconst 0, 1) := by decide +kernel
theorem dX0_takeNumbers_20 : decode cX0_takeNumbers 20 = .ok (.putfield 19, 3) := by decide +kernel
theorem dX0_takeNumbers_23 : decode cX0_takeNumbers 23 = .ok (.aload_n 0, 1) := by decide +kernel
theorem dX0_takeNumbers_24 : decode cX0_takeNumbers 24 = .ok (.getfield 22, 3) := by decide +kernel
theorem dX0_takeNumbers_27 : decode cX0_takeNumbers 27 = .ok (.iconst 0, 1) := by decide +kernel
theorem dX0_takeNumbers_28 : decode cX0_takeNumbers 28 = .ok (.invokestatic 49, 3) := by decide +kernel
theorem dX0_takeNumbers_31 : decode cX0_takeNumbers 31 = .ok (.aload_n 0, 1) := by decide +kernel
theorem dX0_takeNumbers_32 : decode cX0_takeNumbers 32 = .ok (.getfield 43, 3) := by decide +kernel
theorem dX0_takeNumbers_35 : decode cX0_takeNumbers 35 = .ok (.iconst 0, 1) := by decide +kernel
theorem dX0_takeNumbers_36 : decode cX0_takeNumbers 36 = .ok (.invokestatic 49, 3) := by decide +kernel
theorem dX0_takeNumbers_39 : decode cX0_takeNumbers 39 = .ok (.aload_n 0, 1) := by decide +kernel
theorem dX0_takeNumbers_40 : decode cX0_takeNumbers 40 = .ok (.getfield 46, 3) := by decide +kernel
theorem dX0_takeNumbers_43 : decode cX0_takeNumbers 43 = .ok (.iconst 0, 1) := by decide +kernel
theorem dX0_takeNumbers_44 : decode cX0_takeNumbers 44 = .ok (.invokestatic 49, 3) := by decide +kernel
theorem dX0_takeNumbers_47 : decode cX0_takeNumbers 47 = .ok (.iconst 0, 1) := by decide +kernel
theorem dX0_takeNumbers_48 : decode cX0_takeNumbers 48 = .ok (.istore_n 2, 1) := by decide +kernel
theorem dX0_takeNumbers_49 : decode cX0_takeNumbers 49 = .ok (.iload_n 2, 1) := by decide +kernel
theorem dX0_takeNumbers_50 : decode cX0_takeNumbers 50 = .ok (.aload_n 0, 1) := by decide +kernel
theorem dX0_takeNumbers_51 : decode cX0_takeNumbers 51 = .ok (.getfield 9, 3) := by decide +kernel
theorem dX0_takeNumbers_54 : decode cX0_takeNumbers 54 = .ok (.if_icmp .ge 87, 3) := by decide +kernel
theorem dX0_takeNumbers_57 : decode cX0_takeNumbers 57 = .ok (.iload_n 2, 1) := by decide +kernel
theorem dX0_takeNumbers_58 : decode cX0_takeNumbers 58 = .ok (.bipush 6, 2) := by decide +kernel
theorem dX0_takeNumbers_60 : decode cX0_takeNumbers 60 = .ok (.if_icmp .ge 81, 3) := by decide +kernel
theorem dX0_takeNumbers_63 : decode cX0_takeNumbers 63 = .ok (.bipush 6, 2) := by decide +kernel
theorem dX0_takeNumbers_65 : decode cX0_takeNumbers 65 = .ok (.bipush 6, 2) := by decide +kernel
theorem dX0_takeNumbers_67 : decode cX0_takeNumbers 67 = .ok (.iload_n 2, 1) := by decide +kernel
theorem dX0_takeNumbers_68 : decode cX0_takeNumbers 68 = .ok (.imul, 1) := by decide +kernel
theorem dX0_takeNumbers_69 : decode cX0_takeNumbers 69 = .ok (.iadd, 1) := by decide +kernel
theorem dX0_takeNumbers_70 : decode cX0_takeNumbers 70 = .ok (.istore_n 3, 1) := by decide +kernel
theorem dX0_takeNumbers_71 : decode cX0_takeNumbers 71 = .ok (.aload_n 0, 1) := by decide +kernel
theorem dX0_takeNumbers_72 : decode cX0_takeNumbers 72 = .ok (.getfield 25, 3) := by decide +kernel
theorem dX0_takeNumbers_75 : decode cX0_takeNumbers 75 = .ok (.iload_n 2, 1) := by decide +kernel
theorem dX0_takeNumbers_76 : decode cX0_takeNumbers 76 = .ok (.aload_n 1, 1) := by decide +kernel
theorem dX0_takeNumbers_77 : decode cX0_takeNumbers 77 = .ok (.iload_n 3, 1) := by decide +kernel
theorem dX0_takeNumbers_78 : decode cX0_takeNumbers 78 = .ok (.iaload, 1) := by decide +kernel
theorem dX0_takeNumbers_79 : decode cX0_takeNumbers 79 = .ok (.iastore, 1) := by decide +kernel
theorem dX0_takeNumbers_80 : decode cX0_takeNumbers 80 = .ok (.aload_n 0, 1) := by decide +kernel
theorem dX0_takeNumbers_81 : decode cX0_takeNumbers 81 = .ok (.getfield 28, 3) := by decide +kernel
theorem dX0_takeNumbers_84 : decode cX0_takeNumbers 84 = .ok (.iload_n 2, 1) := by decide +kernel
theorem dX0_takeNumbers_85 : decode cX0_takeNumbers 85 = .ok (.aload_n 1, 1) := by decide +kernel
theorem dX0_takeNumbers_86 : decode cX0_takeNumbers 86 = .ok (.iload_n 3, 1) := by decide +kernel
theorem dX0_takeNumbers_87 : decode cX0_takeNumbers 87 = .ok (.iconst 1, 1) := by decide +kernel
theorem dX0_takeNumbers_88 : decode cX0_takeNumbers 88 = .ok (.iadd, 1) := by decide +kernel
theorem dX0_takeNumbers_89 : decode cX0_takeNumbers 89 = .ok (.iaload, 1) := by decide +kernel
theorem dX0_takeNumbers_90 : decode cX0_takeNumbers 90 = .ok (.iastore, 1) := by decide +kernel
theorem dX0_takeNumbers_91 : decode cX0_takeNumbers 91 = .ok (.aload_n 0, 1) := by decide +kernel
theorem dX0_takeNumbers_92 : decode cX0_takeNumbers 92 = .ok (.getfield 31, 3) := by decide +kernel
theorem dX0_takeNumbers_95 : decode cX0_takeNumbers 95 = .ok (.iload_n 2, 1) := by decide +kernel
theorem dX0_takeNumbers_96 : decode cX0_takeNumbers 96 = .ok (.aload_n 1, 1) := by decide +kernel
theorem dX0_takeNumbers_97 : decode cX0_takeNumbers 97 = .ok (.iload_n 3, 1) := by decide +kernel
theorem dX0_takeNumbers_98 : decode cX0_takeNumbers 98 = .ok (.iconst 2, 1) := by decide +kernel
theorem dX0_takeNumbers_99 : decode cX0_takeNumbers 99 = .ok (.iadd, 1) := by decide +kernel
theorem dX0_takeNumbers_100 : decode cX0_takeNumbers 100 = .ok (.iaload, 1) := by decide +kernel
theorem dX0_takeNumbers_101 : decode cX0_takeNumbers 101 = .ok (.iastore, 1) := by decide +kernel
theorem dX0_takeNumbers_102 : decode cX0_takeNumbers 102 = .ok (.aload_n 0, 1) := by decide +kernel
theorem dX0_takeNumbers_103 : decode cX0_takeNumbers 103 = .ok (.getfield 34, 3) := by decide +kernel
theorem dX0_takeNumbers_106 : decode cX0_takeNumbers 106 = .ok (.iload_n 2, 1) := by decide +kernel
theorem dX0_takeNumbers_107 : decode cX0_takeNumbers 107 = .ok (.aload_n 1, 1) := by decide +kernel
theorem dX0_takeNumbers_108 : decode cX0_takeNumbers 108 = .ok (.iload_n 3, 1) := by decide +kernel
theorem dX0_takeNumbers_109 : decode cX0_takeNumbers 109 = .ok (.iconst 3, 1) := by decide +kernel
theorem dX0_takeNumbers_110 : decode cX0_takeNumbers 110 = .ok (.iadd, 1) := by decide +kernel
theorem dX0_takeNumbers_111 : decode cX0_takeNumbers 111 = .ok (.iaload, 1) := by decide +kernel
theorem dX0_takeNumbers_112 : decode cX0_takeNumbers 112 = .ok (.iastore, 1) := by decide +kernel
theorem dX0_takeNumbers_113 : decode cX0_takeNumbers 113 = .ok (.aload_n 0, 1) := by decide +kernel
theorem dX0_takeNumbers_114 : decode cX0_takeNumbers 114 = .ok (.getfield 37, 3) := by decide +kernel
theorem dX0_takeNumbers_117 : decode cX0_takeNumbers 117 = .ok (.iload_n 2, 1) := by decide +kernel
theorem dX0_takeNumbers_118 : decode cX0_takeNumbers 118 = .ok (.aload_n 1, 1) := by decide +kernel
theorem dX0_takeNumbers_119 : decode cX0_takeNumbers 119 = .ok (.iload_n 3, 1) := by decide +kernel
theorem dX0_takeNumbers_120 : decode cX0_takeNumbers 120 = .ok (.iconst 4, 1) := by decide +kernel
theorem dX0_takeNumbers_121 : decode cX0_takeNumbers 121 = .ok (.iadd, 1) := by decide +kernel
theorem dX0_takeNumbers_122 : decode cX0_takeNumbers 122 = .ok (.iaload, 1) := by decide +kernel
theorem dX0_takeNumbers_123 : decode cX0_takeNumbers 123 = .ok (.iastore, 1) := by decide +kernel
theorem dX0_takeNumbers_124 : decode cX0_takeNumbers 124 = .ok (.aload_n 0, 1) := by decide +kernel
theorem dX0_takeNumbers_125 : decode cX0_takeNumbers 125 = .ok (.getfield 40, 3) := by decide +kernel
theorem dX0_takeNumbers_128 : decode cX0_takeNumbers 128 = .ok (.iload_n 2, 1) := by decide +kernel
theorem dX0_takeNumbers_129 : decode cX0_takeNumbers 129 = .ok (.aload_n 1, 1) := by decide +kernel
theorem dX0_takeNumbers_130 : decode cX0_takeNumbers 130 = .ok (.iload_n 3, 1) := by decide +kernel
theorem dX0_takeNumbers_131 : decode cX0_takeNumbers 131 = .ok (.iconst 5, 1) := by decide +kernel
theorem dX0_takeNumbers_132 : decode cX0_takeNumbers 132 = .ok (.iadd, 1) := by decide +kernel
theorem dX0_takeNumbers_133 : decode cX0_takeNumbers 133 = .ok (.iaload, 1) := by decide +kernel
theorem dX0_takeNumbers_134 : decode cX0_takeNumbers 134 = .ok (.iastore, 1) := by decide +kernel
theorem dX0_takeNumbers_135 : decode cX0_takeNumbers 135 = .ok (.iinc 2 1, 3) := by decide +kernel
theorem dX0_takeNumbers_138 : decode cX0_takeNumbers 138 = .ok (.goto (-89), 3) := by decide +kernel
theorem dX0_takeNumbers_141 : decode cX0_takeNumbers 141 = .ok (.return_, 1) := by decide +kernel
set_option maxRecDepth 20000 in
theorem ggX0_numberOf_X0_thickness : GoodIn wsX0_numberOf wsX0_thickness := goodIn_r _ [13, 2, 3, 18, 19, 20, 21, 22, 23, 24, 25, 26, 27, 28, 29] (by decide +kernel) (by decide +kernel)
set_option maxRecDepth 20000 in
theorem gX0_numberOf_X0_thickness : GoodIn wsX0_numberOf (wsV RX0 61 RX0 yX0_thickness wsX0_thickness) := goodIn_app (goodIn_of _ (by decide +kernel)) ggX0_numberOf_X0_thickness
set_option maxRecDepth 20000 in
theorem ggX0_numberOf_X0_power : GoodIn wsX0_numberOf wsX0_power := goodIn_r _ [17, 6, 1, 18, 19, 20, 21, 22, 23, 24, 25, 26, 27, 28, 29] (by decide +kernel) (by decide +kernel)
set_option maxRecDepth 20000 in
theorem gX0_numberOf_X0_power : GoodIn wsX0_numberOf (wsV RX0 65 RX0 yX0_power wsX0_power) := goodIn_app (goodIn_of _ (by decide +kernel)) ggX0_numberOf_X0_power
theorem dX0_numberOf_0 : decode cX0_numberOf 0 = .ok (.iload_n 2, 1) := by decide +kernel
theorem dX0_numberOf_1 : decode cX0_numberOf 1 = .ok (.tableswitch 113 0 8 #[51, 58, 65, 72, 79, 86, 93, 100, 107], 51) := by decide +kernel
theorem dX0_numberOf_52 : decode cX0_numberOf 52 = .ok (.aload_n 0, 1) := by decide +kernel
theorem dX0_numberOf_53 : decode cX0_numberOf 53 = .ok (.getfield 25, 3) := by decide +kernel
theorem dX0_numberOf_56 : decode cX0_numberOf 56 = .ok (.iload_n 1, 1) := by decide +kernel
theorem dX0_numberOf_57 : decode cX0_numberOf 57 = .ok (.iaload, 1) := by decide +kernel
theorem dX0_numberOf_58 : decode cX0_numberOf 58 = .ok (.ireturn, 1) := by decide +kernel
theorem dX0_numberOf_59 : decode cX0_numberOf 59 = .ok (.aload_n 0, 1) := by decide +kernel
theorem dX0_numberOf_60 : decode cX0_numberOf 60 = .ok (.getfield 28, 3) := by decide +kernel
theorem dX0_numberOf_63 : decode cX0_numberOf 63 = .ok (.iload_n 1, 1) := by decide +kernel
theorem dX0_numberOf_64 : decode cX0_numberOf 64 = .ok (.iaload, 1) := by decide +kernel
theorem dX0_numberOf_65 : decode cX0_numberOf 65 = .ok (.ireturn, 1) := by decide +kernel
theorem dX0_numberOf_66 : decode cX0_numberOf 66 = .ok (.aload_n 0, 1) := by decide +kernel
theorem dX0_numberOf_67 : decode cX0_numberOf 67 = .ok (.getfield 31, 3) := by decide +kernel
theorem dX0_numberOf_70 : decode cX0_numberOf 70 = .ok (.iload_n 1, 1) := by decide +kernel
theorem dX0_numberOf_71 : decode cX0_numberOf 71 = .ok (.iaload, 1) := by decide +kernel
theorem dX0_numberOf_72 : decode cX0_numberOf 72 = .ok (.ireturn, 1) := by decide +kernel
theorem dX0_numberOf_73 : decode cX0_numberOf 73 = .ok (.aload_n 0, 1) := by decide +kernel
theorem dX0_numberOf_74 : decode cX0_numberOf 74 = .ok (.getfield 34, 3) := by decide +kernel
theorem dX0_numberOf_77 : decode cX0_numberOf 77 = .ok (.iload_n 1, 1) := by decide +kernel
theorem dX0_numberOf_78 : decode cX0_numberOf 78 = .ok (.iaload, 1) := by decide +kernel
theorem dX0_numberOf_79 : decode cX0_numberOf 79 = .ok (.ireturn, 1) := by decide +kernel
theorem dX0_numberOf_80 : decode cX0_numberOf 80 = .ok (.aload_n 0, 1) := by decide +kernel
theorem dX0_numberOf_81 : decode cX0_numberOf 81 = .ok (.getfield 37, 3) := by decide +kernel
theorem dX0_numberOf_84 : decode cX0_numberOf 84 = .ok (.iload_n 1, 1) := by decide +kernel
theorem dX0_numberOf_85 : decode cX0_numberOf 85 = .ok (.iaload, 1) := by decide +kernel
theorem dX0_numberOf_86 : decode cX0_numberOf 86 = .ok (.ireturn, 1) := by decide +kernel
theorem dX0_numberOf_87 : decode cX0_numberOf 87 = .ok (.aload_n 0, 1) := by decide +kernel
theorem dX0_numberOf_88 : decode cX0_numberOf 88 = .ok (.getfield 40, 3) := by decide +kernel
theorem dX0_numberOf_91 : decode cX0_numberOf 91 = .ok (.iload_n 1, 1) := by decide +kernel
theorem dX0_numberOf_92 : decode cX0_numberOf 92 = .ok (.iaload, 1) := by decide +kernel
theorem dX0_numberOf_93 : decode cX0_numberOf 93 = .ok (.ireturn, 1) := by decide +kernel
theorem dX0_numberOf_94 : decode cX0_numberOf 94 = .ok (.aload_n 0, 1) := by decide +kernel
theorem dX0_numberOf_95 : decode cX0_numberOf 95 = .ok (.getfield 43, 3) := by decide +kernel
theorem dX0_numberOf_98 : decode cX0_numberOf 98 = .ok (.iload_n 1, 1) := by decide +kernel
theorem dX0_numberOf_99 : decode cX0_numberOf 99 = .ok (.iaload, 1) := by decide +kernel
theorem dX0_numberOf_100 : decode cX0_numberOf 100 = .ok (.ireturn, 1) := by decide +kernel
theorem dX0_numberOf_101 : decode cX0_numberOf 101 = .ok (.aload_n 0, 1) := by decide +kernel
theorem dX0_numberOf_102 : decode cX0_numberOf 102 = .ok (.getfield 46, 3) := by decide +kernel
theorem dX0_numberOf_105 : decode cX0_numberOf 105 = .ok (.iload_n 1, 1) := by decide +kernel
theorem dX0_numberOf_106 : decode cX0_numberOf 106 = .ok (.iaload, 1) := by decide +kernel
theorem dX0_numberOf_107 : decode cX0_numberOf 107 = .ok (.ireturn, 1) := by decide +kernel
theorem dX0_numberOf_108 : decode cX0_numberOf 108 = .ok (.aload_n 0, 1) := by decide +kernel
theorem dX0_numberOf_109 : decode cX0_numberOf 109 = .ok (.iload_n 1, 1) := by decide +kernel
theorem dX0_numberOf_110 : decode cX0_numberOf 110 = .ok (.invokevirtual 61, 3) := by decide +kernel
theorem dX0_numberOf_113 : decode cX0_numberOf 113 = .ok (.ireturn, 1) := by decide +kernel
theorem dX0_numberOf_114 : decode cX0_numberOf 114 = .ok (.aload_n 0, 1) := by decide +kernel
theorem dX0_numberOf_115 : decode cX0_numberOf 115 = .ok (.iload_n 1, 1) := by decide +kernel
theorem dX0_numberOf_116 : decode cX0_numberOf 116 = .ok (.invokevirtual 65, 3) := by decide +kernel
theorem dX0_numberOf_119 : decode cX0_numberOf 119 = .ok (.ireturn, 1) := by decide +kernel
theorem dX0_amount_0 : decode cX0_amount 0 = .ok (.aload_n 0, 1) := by decide +kernel
theorem dX0_amount_1 : decode cX0_amount 1 = .ok (.getfield 28, 3) := by decide +kernel
theorem dX0_amount_4 : decode cX0_amount 4 = .ok (.iload_n 1, 1) := by decide +kernel
theorem dX0_amount_5 : decode cX0_amount 5 = .ok (.iaload, 1) := by decide +kernel
theorem dX0_amount_6 : decode cX0_amount 6 = .ok (.aload_n 0, 1) := by decide +kernel
theorem dX0_amount_7 : decode cX0_amount 7 = .ok (.getfield 31, 3) := by decide +kernel
theorem dX0_amount_10 : decode cX0_amount 10 = .ok (.iload_n 1, 1) := by decide +kernel
theorem dX0_amount_11 : decode cX0_amount 11 = .ok (.iaload, 1) := by decide +kernel
theorem dX0_amount_12 : decode cX0_amount 12 = .ok (.iadd, 1) := by decide +kernel
theorem dX0_amount_13 : decode cX0_amount 13 = .ok (.ireturn, 1) := by decide +kernel
theorem dX0_thickness_0 : decode cX0_thickness 0 = .ok (.aload_n 0, 1) := by decide +kernel
theorem dX0_thickness_1 : decode cX0_thickness 1 = .ok (.getfield 28, 3) := by decide +kernel
theorem dX0_thickness_4 : decode cX0_thickness 4 = .ok (.iload_n 1, 1) := by decide +kernel
theorem dX0_thickness_5 : decode cX0_thickness 5 = .ok (.iaload, 1) := by decide +kernel
theorem dX0_thickness_6 : decode cX0_thickness 6 = .ok (.aload_n 0, 1) := by decide +kernel
theorem dX0_thickness_7 : decode cX0_thickness 7 = .ok (.getfield 31, 3) := by decide +kernel
theorem dX0_thickness_10 : decode cX0_thickness 10 = .ok (.iload_n 1, 1) := by decide +kernel
theorem dX0_thickness_11 : decode cX0_thickness 11 = .ok (.iaload, 1) := by decide +kernel
theorem dX0_thickness_12 : decode cX0_thickness 12 = .ok (.iadd, 1) := by decide +kernel
theorem dX0_thickness_13 : decode cX0_thickness 13 = .ok (.istore_n 2, 1) := by decide +kernel
theorem dX0_thickness_14 : decode cX0_thickness 14 = .ok (.iload_n 2, 1) := by decide +kernel
theorem dX0_thickness_15 : decode cX0_thickness 15 = .ok (.ifCond .le 17, 3) := by decide +kernel
theorem dX0_thickness_18 : decode cX0_thickness 18 = .ok (.bipush 100, 2) := by decide +kernel
theorem dX0_thickness_20 : decode cX0_thickness 20 = .ok (.aload_n 0, 1) := by decide +kernel
theorem dX0_thickness_21 : decode cX0_thickness 21 = .ok (.getfield 31, 3) := by decide +kernel
theorem dX0_thickness_24 : decode cX0_thickness 24 = .ok (.iload_n 1, 1) := by decide +kernel
theorem dX0_thickness_25 : decode cX0_thickness 25 = .ok (.iaload, 1) := by decide +kernel
theorem dX0_thickness_26 : decode cX0_thickness 26 = .ok (.imul, 1) := by decide +kernel
theorem dX0_thickness_27 : decode cX0_thickness 27 = .ok (.iload_n 2, 1) := by decide +kernel
theorem dX0_thickness_28 : decode cX0_thickness 28 = .ok (.idiv, 1) := by decide +kernel
theorem dX0_thickness_29 : decode cX0_thickness 29 = .ok (.goto 4, 3) := by decide +kernel
theorem dX0_thickness_32 : decode cX0_thickness 32 = .ok (.iconst 0, 1) := by decide +kernel
theorem dX0_thickness_33 : decode cX0_thickness 33 = .ok (.ireturn, 1) := by decide +kernel
theorem dX0_power_0 : decode cX0_power 0 = .ok (.bipush 10, 2) := by decide +kernel
theorem dX0_power_2 : decode cX0_power 2 = .ok (.aload_n 0, 1) := by decide +kernel
theorem dX0_power_3 : decode cX0_power 3 = .ok (.getfield 40, 3) := by decide +kernel
theorem dX0_power_6 : decode cX0_power 6 = .ok (.iload_n 1, 1) := by decide +kernel
theorem dX0_power_7 : decode cX0_power 7 = .ok (.iaload, 1) := by decide +kernel
theorem dX0_power_8 : decode cX0_power 8 = .ok (.iadd, 1) := by decide +kernel
theorem dX0_power_9 : decode cX0_power 9 = .ok (.istore_n 2, 1) := by decide +kernel
theorem dX0_power_10 : decode cX0_power 10 = .ok (.iload_n 2, 1) := by decide +kernel
theorem dX0_power_11 : decode cX0_power 11 = .ok (.ifCond .le 17, 3) := by decide +kernel
theorem dX0_power_14 : decode cX0_power 14 = .ok (.bipush 100, 2) := by decide +kernel
theorem dX0_power_16 : decode cX0_power 16 = .ok (.aload_n 0, 1) := by decide +kernel
theorem dX0_power_17 : decode cX0_power 17 = .ok (.getfield 25, 3) := by decide +kernel
theorem dX0_power_20 : decode cX0_power 20 = .ok (.iload_n 1, 1) := by decide +kernel
theorem dX0_power_21 : decode cX0_power 21 = .ok (.iaload, 1) := by decide +kernel
theorem dX0_power_22 : decode cX0_power 22 = .ok (.imul, 1) := by decide +kernel
theorem dX0_power_23 : decode cX0_power 23 = .ok (.iload_n 2, 1) := by decide +kernel
theorem dX0_power_24 : decode cX0_power 24 = .ok (.idiv, 1) := by decide +kernel
theorem dX0_power_25 : decode cX0_power 25 = .ok (.goto 4, 3) := by decide +kernel
theorem dX0_power_28 : decode cX0_power 28 = .ok (.iconst 0, 1) := by decide +kernel
theorem dX0_power_29 : decode cX0_power 29 = .ok (.ireturn, 1) := by decide +kernel
theorem dX0_allWater_0 : decode cX0_allWater 0 = .ok (.iconst 0, 1) := by decide +kernel
theorem dX0_allWater_1 : decode cX0_allWater 1 = .ok (.istore_n 1, 1) := by decide +kernel
theorem dX0_allWater_2 : decode cX0_allWater 2 = .ok (.iconst 0, 1) := by decide +kernel
theorem dX0_allWater_3 : decode cX0_allWater 3 = .ok (.istore_n 2, 1) := by decide +kernel
theorem dX0_allWater_4 : decode cX0_allWater 4 = .ok (.iload_n 2, 1) := by decide +kernel
theorem dX0_allWater_5 : decode cX0_allWater 5 = .ok (.aload_n 0, 1) := by decide +kernel
theorem dX0_allWater_6 : decode cX0_allWater 6 = .ok (.getfield 9, 3) := by decide +kernel
theorem dX0_allWater_9 : decode cX0_allWater 9 = .ok (.if_icmp .ge 18, 3) := by decide +kernel
theorem dX0_allWater_12 : decode cX0_allWater 12 = .ok (.iload_n 1, 1) := by decide +kernel
theorem dX0_allWater_13 : decode cX0_allWater 13 = .ok (.aload_n 0, 1) := by decide +kernel
theorem dX0_allWater_14 : decode cX0_allWater 14 = .ok (.getfield 28, 3) := by decide +kernel
theorem dX0_allWater_17 : decode cX0_allWater 17 = .ok (.iload_n 2, 1) := by decide +kernel
theorem dX0_allWater_18 : decode cX0_allWater 18 = .ok (.iaload, 1) := by decide +kernel
theorem dX0_allWater_19 : decode cX0_allWater 19 = .ok (.iadd, 1) := by decide +kernel
theorem dX0_allWater_20 : decode cX0_allWater 20 = .ok (.istore_n 1, 1) := by decide +kernel
theorem dX0_allWater_21 : decode cX0_allWater 21 = .ok (.iinc 2 1, 3) := by decide +kernel
theorem dX0_allWater_24 : decode cX0_allWater 24 = .ok (.goto (-20), 3) := by decide +kernel
theorem dX0_allWater_27 : decode cX0_allWater 27 = .ok (.iload_n 1, 1) := by decide +kernel
theorem dX0_allWater_28 : decode cX0_allWater 28 = .ok (.ireturn, 1) := by decide +kernel
theorem dX0_allSolids_0 : decode cX0_allSolids 0 = .ok (.iconst 0, 1) := by decide +kernel
theorem dX0_allSolids_1 : decode cX0_allSolids 1 = .ok (.istore_n 1, 1) := by decide +kernel
theorem dX0_allSolids_2 : decode cX0_allSolids 2 = .ok (.iconst 0, 1) := by decide +kernel
theorem dX0_allSolids_3 : decode cX0_allSolids 3 = .ok (.istore_n 2, 1) := by decide +kernel
theorem dX0_allSolids_4 : decode cX0_allSolids 4 = .ok (.iload_n 2, 1) := by decide +kernel
theorem dX0_allSolids_5 : decode cX0_allSolids 5 = .ok (.aload_n 0, 1) := by decide +kernel
theorem dX0_allSolids_6 : decode cX0_allSolids 6 = .ok (.getfield 9, 3) := by decide +kernel
theorem dX0_allSolids_9 : decode cX0_allSolids 9 = .ok (.if_icmp .ge 18, 3) := by decide +kernel
theorem dX0_allSolids_12 : decode cX0_allSolids 12 = .ok (.iload_n 1, 1) := by decide +kernel
theorem dX0_allSolids_13 : decode cX0_allSolids 13 = .ok (.aload_n 0, 1) := by decide +kernel
theorem dX0_allSolids_14 : decode cX0_allSolids 14 = .ok (.getfield 31, 3) := by decide +kernel
theorem dX0_allSolids_17 : decode cX0_allSolids 17 = .ok (.iload_n 2, 1) := by decide +kernel
theorem dX0_allSolids_18 : decode cX0_allSolids 18 = .ok (.iaload, 1) := by decide +kernel
theorem dX0_allSolids_19 : decode cX0_allSolids 19 = .ok (.iadd, 1) := by decide +kernel
theorem dX0_allSolids_20 : decode cX0_allSolids 20 = .ok (.istore_n 1, 1) := by decide +kernel
theorem dX0_allSolids_21 : decode cX0_allSolids 21 = .ok (.iinc 2 1, 3) := by decide +kernel
theorem dX0_allSolids_24 : decode cX0_allSolids 24 = .ok (.goto (-20), 3) := by decide +kernel
theorem dX0_allSolids_27 : decode cX0_allSolids 27 = .ok (.iload_n 1, 1) := by decide +kernel
theorem dX0_allSolids_28 : decode cX0_allSolids 28 = .ok (.ireturn, 1) := by decide +kernel
theorem dX0_washedEffects_0 : decode cX0_washedEffects 0 = .ok (.iconst 0, 1) := by decide +kernel
theorem dX0_washedEffects_1 : decode cX0_washedEffects 1 = .ok (.istore_n 1, 1) := by decide +kernel
theorem dX0_washedEffects_2 : decode cX0_washedEffects 2 = .ok (.iconst 0, 1) := by decide +kernel
theorem dX0_washedEffects_3 : decode cX0_washedEffects 3 = .ok (.istore_n 2, 1) := by decide +kernel
theorem dX0_washedEffects_4 : decode cX0_washedEffects 4 = .ok (.iload_n 2, 1) := by decide +kernel
theorem dX0_washedEffects_5 : decode cX0_washedEffects 5 = .ok (.aload_n 0, 1) := by decide +kernel
theorem dX0_washedEffects_6 : decode cX0_washedEffects 6 = .ok (.getfield 9, 3) := by decide +kernel
theorem dX0_washedEffects_9 : decode cX0_washedEffects 9 = .ok (.if_icmp .ge 21, 3) := by decide +kernel
theorem dX0_washedEffects_12 : decode cX0_washedEffects 12 = .ok (.aload_n 0, 1) := by decide +kernel
theorem dX0_washedEffects_13 : decode cX0_washedEffects 13 = .ok (.getfield 46, 3) := by decide +kernel
theorem dX0_washedEffects_16 : decode cX0_washedEffects 16 = .ok (.iload_n 2, 1) := by decide +kernel
theorem dX0_washedEffects_17 : decode cX0_washedEffects 17 = .ok (.iaload, 1) := by decide +kernel
theorem dX0_washedEffects_18 : decode cX0_washedEffects 18 = .ok (.ifCond .le 6, 3) := by decide +kernel
theorem dX0_washedEffects_21 : decode cX0_washedEffects 21 = .ok (.iinc 1 1, 3) := by decide +kernel
theorem dX0_washedEffects_24 : decode cX0_washedEffects 24 = .ok (.iinc 2 1, 3) := by decide +kernel
theorem dX0_washedEffects_27 : decode cX0_washedEffects 27 = .ok (.goto (-23), 3) := by decide +kernel
theorem dX0_washedEffects_30 : decode cX0_washedEffects 30 = .ok (.iload_n 1, 1) := by decide +kernel
theorem dX0_washedEffects_31 : decode cX0_washedEffects 31 = .ok (.ireturn, 1) := by decide +kernel
theorem dX0_effectBehind_0 : decode cX0_effectBehind 0 = .ok (.iload_n 1, 1) := by decide +kernel
theorem dX0_effectBehind_1 : decode cX0_effectBehind 1 = .ok (.iconst 1, 1) := by decide +kernel
theorem dX0_effectBehind_2 : decode cX0_effectBehind 2 = .ok (.iadd, 1) := by decide +kernel
theorem dX0_effectBehind_3 : decode cX0_effectBehind 3 = .ok (.istore_n 2, 1) := by decide +kernel
theorem dX0_effectBehind_4 : decode cX0_effectBehind 4 = .ok (.iload_n 2, 1) := by decide +kernel
theorem dX0_effectBehind_5 : decode cX0_effectBehind 5 = .ok (.aload_n 0, 1) := by decide +kernel
theorem dX0_effectBehind_6 : decode cX0_effectBehind 6 = .ok (.getfield 9, 3) := by decide +kernel
theorem dX0_effectBehind_9 : decode cX0_effectBehind 9 = .ok (.if_icmp .ge 20, 3) := by decide +kernel
theorem dX0_effectBehind_12 : decode cX0_effectBehind 12 = .ok (.aload_n 0, 1) := by decide +kernel
theorem dX0_effectBehind_13 : decode cX0_effectBehind 13 = .ok (.getfield 46, 3) := by decide +kernel
theorem dX0_effectBehind_16 : decode cX0_effectBehind 16 = .ok (.iload_n 2, 1) := by decide +kernel
theorem dX0_effectBehind_17 : decode cX0_effectBehind 17 = .ok (.iaload, 1) := by decide +kernel
theorem dX0_effectBehind_18 : decode cX0_effectBehind 18 = .ok (.ifCond .ne 5, 3) := by decide +kernel
theorem dX0_effectBehind_21 : decode cX0_effectBehind 21 = .ok (.iload_n 2, 1) := by decide +kernel
theorem dX0_effectBehind_22 : decode cX0_effectBehind 22 = .ok (.ireturn, 1) := by decide +kernel
theorem dX0_effectBehind_23 : decode cX0_effectBehind 23 = .ok (.iinc 2 1, 3) := by decide +kernel
theorem dX0_effectBehind_26 : decode cX0_effectBehind 26 = .ok (.goto (-22), 3) := by decide +kernel
theorem dX0_effectBehind_29 : decode cX0_effectBehind 29 = .ok (.bipush (-9), 2) := by decide +kernel
theorem dX0_effectBehind_31 : decode cX0_effectBehind 31 = .ok (.ireturn, 1) := by decide +kernel
theorem dX0_effectBefore_0 : decode cX0_effectBefore 0 = .ok (.iload_n 1, 1) := by decide +kernel
theorem dX0_effectBefore_1 : decode cX0_effectBefore 1 = .ok (.iconst 1, 1) := by decide +kernel
theorem dX0_effectBefore_2 : decode cX0_effectBefore 2 = .ok (.isub, 1) := by decide +kernel
theorem dX0_effectBefore_3 : decode cX0_effectBefore 3 = .ok (.istore_n 2, 1) := by decide +kernel
theorem dX0_effectBefore_4 : decode cX0_effectBefore 4 = .ok (.iload_n 2, 1) := by decide +kernel
theorem dX0_effectBefore_5 : decode cX0_effectBefore 5 = .ok (.ifCond .lt 20, 3) := by decide +kernel
theorem dX0_effectBefore_8 : decode cX0_effectBefore 8 = .ok (.aload_n 0, 1) := by decide +kernel
theorem dX0_effectBefore_9 : decode cX0_effectBefore 9 = .ok (.getfield 46, 3) := by decide +kernel
theorem dX0_effectBefore_12 : decode cX0_effectBefore 12 = .ok (.iload_n 2, 1) := by decide +kernel
theorem dX0_effectBefore_13 : decode cX0_effectBefore 13 = .ok (.iaload, 1) := by decide +kernel
theorem dX0_effectBefore_14 : decode cX0_effectBefore 14 = .ok (.ifCond .ne 5, 3) := by decide +kernel
theorem dX0_effectBefore_17 : decode cX0_effectBefore 17 = .ok (.iload_n 2, 1) := by decide +kernel
theorem dX0_effectBefore_18 : decode cX0_effectBefore 18 = .ok (.ireturn, 1) := by decide +kernel
theorem dX0_effectBefore_19 : decode cX0_effectBefore 19 = .ok (.iinc 2 (-1), 3) := by decide +kernel
theorem dX0_effectBefore_22 : decode cX0_effectBefore 22 = .ok (.goto (-18), 3) := by decide +kernel
theorem dX0_effectBefore_25 : decode cX0_effectBefore 25 = .ok (.bipush (-9), 2) := by decide +kernel
theorem dX0_effectBefore_27 : decode cX0_effectBefore 27 = .ok (.ireturn, 1) := by decide +kernel
set_option maxRecDepth 20000 in
theorem ggX0_pass_X0_beginWashInTurn : GoodIn wsX0_pass wsX0_beginWashInTurn := goodIn_r _ [7, 8, 2, 9, 10, 11, 12, 13, 14, 6, 15, 65, 66, 67, 68, 69, 70, 71, 72, 73, 74, 75, 76] (by decide +kernel) (by decide +kernel)
set_option maxRecDepth 20000 in
theorem gX0_pass_X0_beginWashInTurn : GoodIn wsX0_pass (wsV RX0 68 RX0 yX0_beginWashInTurn wsX0_beginWashInTurn) := goodIn_app (goodIn_of _ (by decide +kernel)) ggX0_pass_X0_beginWashInTurn
set_option maxRecDepth 20000 in
theorem ggX0_pass_X0_boilAll : GoodIn wsX0_pass wsX0_boilAll := goodIn_r _ [19, 8, 9, 11, 1, 20, 21, 22, 6, 23, 24, 25, 26, 27, 28, 29, 30, 10, 31, 32, 33, 34, 35, 36, 37, 38, 39, 40, 65, 66, 67, 68, 69, 70, 71, 72, 73, 74, 75, 76] (by decide +kernel) (by decide +kernel)
set_option maxRecDepth 20000 in
theorem gX0_pass_X0_boilAll : GoodIn wsX0_pass (wsV RX0 71 RX0 yX0_boilAll wsX0_boilAll) := goodIn_app (goodIn_of _ (by decide +kernel)) ggX0_pass_X0_boilAll
set_option maxRecDepth 20000 in
theorem ggX0_pass_X0_flowOn : GoodIn wsX0_pass wsX0_flowOn := goodIn_r _ [44, 8, 1, 9, 11, 35, 28, 45, 46, 47, 6, 48, 49, 50, 51, 52, 53, 54, 55, 56, 57, 24, 25, 26, 27, 65, 66, 67, 68, 69, 70, 71, 72, 73, 74, 75, 76] (by decide +kernel) (by decide +kernel)
set_option maxRecDepth 20000 in
theorem gX0_pass_X0_flowOn : GoodIn wsX0_pass (wsV RX0 74 RX0 yX0_flowOn wsX0_flowOn) := goodIn_app (goodIn_of _ (by decide +kernel)) ggX0_pass_X0_flowOn
set_option maxRecDepth 20000 in
theorem ggX0_pass_X0_washOn : GoodIn wsX0_pass wsX0_washOn := goodIn_r _ [61, 9, 11, 10, 62, 63, 26, 64, 65, 66, 67, 68, 69, 70, 71, 72, 73, 74, 75, 76] (by decide +kernel) (by decide +kernel)
set_option maxRecDepth 20000 in
theorem gX0_pass_X0_washOn : GoodIn wsX0_pass (wsV RX0 77 RX0 yX0_washOn wsX0_washOn) := goodIn_app (goodIn_of _ (by decide +kernel)) ggX0_pass_X0_washOn
theorem dX0_pass_0 : decode cX0_pass 0 = .ok (.aload_n 0, 1) := by decide +kernel
theorem dX0_pass_1 : decode cX0_pass 1 = .ok (.getfield 22, 3) := by decide +kernel
theorem dX0_pass_4 : decode cX0_pass 4 = .ok (.iconst 1, 1) := by decide +kernel
theorem dX0_pass_5 : decode cX0_pass 5 = .ok (.iaload, 1) := by decide +kernel
theorem dX0_pass_6 : decode cX0_pass 6 = .ok (.istore_n 2, 1) := by decide +kernel
theorem dX0_pass_7 : decode cX0_pass 7 = .ok (.iconst 0, 1) := by decide +kernel
theorem dX0_pass_8 : decode cX0_pass 8 = .ok (.istore_n 3, 1) := by decide +kernel
theorem dX0_pass_9 : decode cX0_pass 9 = .ok (.iload_n 3, 1) := by decide +kernel
theorem dX0_pass_10 : decode cX0_pass 10 = .ok (.iload_n 1, 1) := by decide +kernel
theorem dX0_pass_11 : decode cX0_pass 11 = .ok (.if_icmp .ge 35, 3) := by decide +kernel
theorem dX0_pass_14 : decode cX0_pass 14 = .ok (.aload_n 0, 1) := by decide +kernel
theorem dX0_pass_15 : decode cX0_pass 15 = .ok (.invokevirtual 68, 3) := by decide +kernel
theorem dX0_pass_18 : decode cX0_pass 18 = .ok (.aload_n 0, 1) := by decide +kernel
theorem dX0_pass_19 : decode cX0_pass 19 = .ok (.invokevirtual 71, 3) := by decide +kernel
theorem dX0_pass_22 : decode cX0_pass 22 = .ok (.aload_n 0, 1) := by decide +kernel
theorem dX0_pass_23 : decode cX0_pass 23 = .ok (.invokevirtual 74, 3) := by decide +kernel
theorem dX0_pass_26 : decode cX0_pass 26 = .ok (.aload_n 0, 1) := by decide +kernel
theorem dX0_pass_27 : decode cX0_pass 27 = .ok (.invokevirtual 77, 3) := by decide +kernel
theorem dX0_pass_30 : decode cX0_pass 30 = .ok (.aload_n 0, 1) := by decide +kernel
theorem dX0_pass_31 : decode cX0_pass 31 = .ok (.dup, 1) := by decide +kernel
theorem dX0_pass_32 : decode cX0_pass 32 = .ok (.getfield 19, 3) := by decide +kernel
theorem dX0_pass_35 : decode cX0_pass 35 = .ok (.iconst 1, 1) := by decide +kernel
theorem dX0_pass_36 : decode cX0_pass 36 = .ok (.iadd, 1) := by decide +kernel
theorem dX0_pass_37 : decode cX0_pass 37 = .ok (.putfield 19, 3) := by decide +kernel
theorem dX0_pass_40 : decode cX0_pass 40 = .ok (.iinc 3 1, 3) := by decide +kernel
theorem dX0_pass_43 : decode cX0_pass 43 = .ok (.goto (-34), 3) := by decide +kernel
theorem dX0_pass_46 : decode cX0_pass 46 = .ok (.aload_n 0, 1) := by decide +kernel
theorem dX0_pass_47 : decode cX0_pass 47 = .ok (.getfield 22, 3) := by decide +kernel
theorem dX0_pass_50 : decode cX0_pass 50 = .ok (.iconst 1, 1) := by decide +kernel
theorem dX0_pass_51 : decode cX0_pass 51 = .ok (.iaload, 1) := by decide +kernel
theorem dX0_pass_52 : decode cX0_pass 52 = .ok (.iload_n 2, 1) := by decide +kernel
theorem dX0_pass_53 : decode cX0_pass 53 = .ok (.isub, 1) := by decide +kernel
theorem dX0_pass_54 : decode cX0_pass 54 = .ok (.ireturn, 1) := by decide +kernel
set_option maxRecDepth 20000 in
theorem ggX0_beginWashInTurn_X0_washedEffects : GoodIn wsX0_beginWashInTurn wsX0_washedEffects := goodIn_r _ [10, 3, 5, 11, 12, 13, 14, 15, 16, 17, 18, 19, 20, 21, 22] (by decide +kernel) (by decide +kernel)
set_option maxRecDepth 20000 in
theorem gX0_beginWashInTurn_X0_washedEffects : GoodIn wsX0_beginWashInTurn (wsV RX0 80 RX0 yX0_washedEffects wsX0_washedEffects) := goodIn_app (goodIn_of _ (by decide +kernel)) ggX0_beginWashInTurn_X0_washedEffects
theorem dX0_beginWashInTurn_0 : decode cX0_beginWashInTurn 0 = .ok (.aload_n 0, 1) := by decide +kernel
theorem dX0_beginWashInTurn_1 : decode cX0_beginWashInTurn 1 = .ok (.getfield 15, 3) := by decide +kernel
theorem dX0_beginWashInTurn_4 : decode cX0_beginWashInTurn 4 = .ok (.iconst 3, 1) := by decide +kernel
theorem dX0_beginWashInTurn_5 : decode cX0_beginWashInTurn 5 = .ok (.iaload, 1) := by decide +kernel
theorem dX0_beginWashInTurn_6 : decode cX0_beginWashInTurn 6 = .ok (.istore_n 1, 1) := by decide +kernel
theorem dX0_beginWashInTurn_7 : decode cX0_beginWashInTurn 7 = .ok (.iload_n 1, 1) := by decide +kernel
theorem dX0_beginWashInTurn_8 : decode cX0_beginWashInTurn 8 = .ok (.ifCond .eq 19, 3) := by decide +kernel
theorem dX0_beginWashInTurn_11 : decode cX0_beginWashInTurn 11 = .ok (.aload_n 0, 1) := by decide +kernel
theorem dX0_beginWashInTurn_12 : decode cX0_beginWashInTurn 12 = .ok (.getfield 19, 3) := by decide +kernel
theorem dX0_beginWashInTurn_15 : decode cX0_beginWashInTurn 15 = .ok (.iload_n 1, 1) := by decide +kernel
theorem dX0_beginWashInTurn_16 : decode cX0_beginWashInTurn 16 = .ok (.irem, 1) := by decide +kernel
theorem dX0_beginWashInTurn_17 : decode cX0_beginWashInTurn 17 = .ok (.ifCond .ne 10, 3) := by decide +kernel
theorem dX0_beginWashInTurn_20 : decode cX0_beginWashInTurn 20 = .ok (.aload_n 0, 1) := by decide +kernel
theorem dX0_beginWashInTurn_21 : decode cX0_beginWashInTurn 21 = .ok (.invokevirtual 80, 3) := by decide +kernel
theorem dX0_beginWashInTurn_24 : decode cX0_beginWashInTurn 24 = .ok (.ifCond .le 4, 3) := by decide +kernel
theorem dX0_beginWashInTurn_27 : decode cX0_beginWashInTurn 27 = .ok (.return_, 1) := by decide +kernel
theorem dX0_beginWashInTurn_28 : decode cX0_beginWashInTurn 28 = .ok (.iconst 0, 1) := by decide +kernel
theorem dX0_beginWashInTurn_29 : decode cX0_beginWashInTurn 29 = .ok (.istore_n 2, 1) := by decide +kernel
theorem dX0_beginWashInTurn_30 : decode cX0_beginWashInTurn 30 = .ok (.iconst 1, 1) := by decide +kernel
theorem dX0_beginWashInTurn_31 : decode cX0_beginWashInTurn 31 = .ok (.istore_n 3, 1) := by decide +kernel
theorem dX0_beginWashInTurn_32 : decode cX0_beginWashInTurn 32 = .ok (.iload_n 3, 1) := by decide +kernel
theorem dX0_beginWashInTurn_33 : decode cX0_beginWashInTurn 33 = .ok (.aload_n 0, 1) := by decide +kernel
theorem dX0_beginWashInTurn_34 : decode cX0_beginWashInTurn 34 = .ok (.getfield 9, 3) := by decide +kernel
theorem dX0_beginWashInTurn_37 : decode cX0_beginWashInTurn 37 = .ok (.if_icmp .ge 26, 3) := by decide +kernel
theorem dX0_beginWashInTurn_40 : decode cX0_beginWashInTurn 40 = .ok (.aload_n 0, 1) := by decide +kernel
theorem dX0_beginWashInTurn_41 : decode cX0_beginWashInTurn 41 = .ok (.getfield 40, 3) := by decide +kernel
theorem dX0_beginWashInTurn_44 : decode cX0_beginWashInTurn 44 = .ok (.iload_n 3, 1) := by decide +kernel
theorem dX0_beginWashInTurn_45 : decode cX0_beginWashInTurn 45 = .ok (.iaload, 1) := by decide +kernel
theorem dX0_beginWashInTurn_46 : decode cX0_beginWashInTurn 46 = .ok (.aload_n 0, 1) := by decide +kernel
theorem dX0_beginWashInTurn_47 : decode cX0_beginWashInTurn 47 = .ok (.getfield 40, 3) := by decide +kernel
theorem dX0_beginWashInTurn_50 : decode cX0_beginWashInTurn 50 = .ok (.iload_n 2, 1) := by decide +kernel
theorem dX0_beginWashInTurn_51 : decode cX0_beginWashInTurn 51 = .ok (.iaload, 1) := by decide +kernel
theorem dX0_beginWashInTurn_52 : decode cX0_beginWashInTurn 52 = .ok (.if_icmp .le 5, 3) := by decide +kernel
theorem dX0_beginWashInTurn_55 : decode cX0_beginWashInTurn 55 = .ok (.iload_n 3, 1) := by decide +kernel
theorem dX0_beginWashInTurn_56 : decode cX0_beginWashInTurn 56 = .ok (.istore_n 2, 1) := by decide +kernel
theorem dX0_beginWashInTurn_57 : decode cX0_beginWashInTurn 57 = .ok (.iinc 3 1, 3) := by decide +kernel
theorem dX0_beginWashInTurn_60 : decode cX0_beginWashInTurn 60 = .ok (.goto (-28), 3) := by decide +kernel
theorem dX0_beginWashInTurn_63 : decode cX0_beginWashInTurn 63 = .ok (.aload_n 0, 1) := by decide +kernel
theorem dX0_beginWashInTurn_64 : decode cX0_beginWashInTurn 64 = .ok (.getfield 40, 3) := by decide +kernel
theorem dX0_beginWashInTurn_67 : decode cX0_beginWashInTurn 67 = .ok (.iload_n 2, 1) := by decide +kernel
theorem dX0_beginWashInTurn_68 : decode cX0_beginWashInTurn 68 = .ok (.iaload, 1) := by decide +kernel
theorem dX0_beginWashInTurn_69 : decode cX0_beginWashInTurn 69 = .ok (.ifCond .le 15, 3) := by decide +kernel
theorem dX0_beginWashInTurn_72 : decode cX0_beginWashInTurn 72 = .ok (.aload_n 0, 1) := by decide +kernel
theorem dX0_beginWashInTurn_73 : decode cX0_beginWashInTurn 73 = .ok (.getfield 46, 3) := by decide +kernel
theorem dX0_beginWashInTurn_76 : decode cX0_beginWashInTurn 76 = .ok (.iload_n 2, 1) := by decide +kernel
theorem dX0_beginWashInTurn_77 : decode cX0_beginWashInTurn 77 = .ok (.aload_n 0, 1) := by decide +kernel
theorem dX0_beginWashInTurn_78 : decode cX0_beginWashInTurn 78 = .ok (.getfield 15, 3) := by decide +kernel
theorem dX0_beginWashInTurn_81 : decode cX0_beginWashInTurn 81 = .ok (.iconst 4, 1) := by decide +kernel
theorem dX0_beginWashInTurn_82 : decode cX0_beginWashInTurn 82 = .ok (.iaload, 1) := by decide +kernel
theorem dX0_beginWashInTurn_83 : decode cX0_beginWashInTurn 83 = .ok (.iastore, 1) := by decide +kernel
theorem dX0_beginWashInTurn_84 : decode cX0_beginWashInTurn 84 = .ok (.return_, 1) := by decide +kernel
set_option maxRecDepth 20000 in
theorem ggX0_boilAll_X0_boil : GoodIn wsX0_boilAll wsX0_boil := goodIn_r _ [9, 10, 11, 12, 13, 14, 15, 4, 16, 17, 18, 19, 20, 8, 21, 22, 23, 24, 25, 26, 27, 28, 29, 30, 31, 32, 33, 34, 35, 36, 37, 38, 39] (by decide +kernel) (by decide +kernel)
set_option maxRecDepth 20000 in
theorem gX0_boilAll_X0_boil : GoodIn wsX0_boilAll (wsV RX0 84 RX0 yX0_boil wsX0_boil) := goodIn_app (goodIn_of _ (by decide +kernel)) ggX0_boilAll_X0_boil
theorem dX0_boilAll_0 : decode cX0_boilAll 0 = .ok (.aload_n 0, 1) := by decide +kernel
theorem dX0_boilAll_1 : decode cX0_boilAll 1 = .ok (.getfield 15, 3) := by decide +kernel
theorem dX0_boilAll_4 : decode cX0_boilAll 4 = .ok (.iconst 0, 1) := by decide +kernel
theorem dX0_boilAll_5 : decode cX0_boilAll 5 = .ok (.iaload, 1) := by decide +kernel
theorem dX0_boilAll_6 : decode cX0_boilAll 6 = .ok (.istore_n 1, 1) := by decide +kernel
theorem dX0_boilAll_7 : decode cX0_boilAll 7 = .ok (.iconst 0, 1) := by decide +kernel
theorem dX0_boilAll_8 : decode cX0_boilAll 8 = .ok (.istore_n 2, 1) := by decide +kernel
theorem dX0_boilAll_9 : decode cX0_boilAll 9 = .ok (.iconst 0, 1) := by decide +kernel
theorem dX0_boilAll_10 : decode cX0_boilAll 10 = .ok (.istore_n 3, 1) := by decide +kernel
theorem dX0_boilAll_11 : decode cX0_boilAll 11 = .ok (.iload_n 3, 1) := by decide +kernel
theorem dX0_boilAll_12 : decode cX0_boilAll 12 = .ok (.aload_n 0, 1) := by decide +kernel
theorem dX0_boilAll_13 : decode cX0_boilAll 13 = .ok (.getfield 9, 3) := by decide +kernel
theorem dX0_boilAll_16 : decode cX0_boilAll 16 = .ok (.if_icmp .ge 27, 3) := by decide +kernel
theorem dX0_boilAll_19 : decode cX0_boilAll 19 = .ok (.aload_n 0, 1) := by decide +kernel
theorem dX0_boilAll_20 : decode cX0_boilAll 20 = .ok (.getfield 46, 3) := by decide +kernel
theorem dX0_boilAll_23 : decode cX0_boilAll 23 = .ok (.iload_n 3, 1) := by decide +kernel
theorem dX0_boilAll_24 : decode cX0_boilAll 24 = .ok (.iaload, 1) := by decide +kernel
theorem dX0_boilAll_25 : decode cX0_boilAll 25 = .ok (.ifCond .ne 12, 3) := by decide +kernel
theorem dX0_boilAll_28 : decode cX0_boilAll 28 = .ok (.iconst 1, 1) := by decide +kernel
theorem dX0_boilAll_29 : decode cX0_boilAll 29 = .ok (.istore_n 2, 1) := by decide +kernel
theorem dX0_boilAll_30 : decode cX0_boilAll 30 = .ok (.aload_n 0, 1) := by decide +kernel
theorem dX0_boilAll_31 : decode cX0_boilAll 31 = .ok (.iload_n 3, 1) := by decide +kernel
theorem dX0_boilAll_32 : decode cX0_boilAll 32 = .ok (.iload_n 1, 1) := by decide +kernel
theorem dX0_boilAll_33 : decode cX0_boilAll 33 = .ok (.invokevirtual 84, 3) := by decide +kernel
theorem dX0_boilAll_36 : decode cX0_boilAll 36 = .ok (.istore_n 1, 1) := by decide +kernel
theorem dX0_boilAll_37 : decode cX0_boilAll 37 = .ok (.iinc 3 1, 3) := by decide +kernel
theorem dX0_boilAll_40 : decode cX0_boilAll 40 = .ok (.goto (-29), 3) := by decide +kernel
theorem dX0_boilAll_43 : decode cX0_boilAll 43 = .ok (.iload_n 2, 1) := by decide +kernel
theorem dX0_boilAll_44 : decode cX0_boilAll 44 = .ok (.ifCond .eq 28, 3) := by decide +kernel
theorem dX0_boilAll_47 : decode cX0_boilAll 47 = .ok (.aload_n 0, 1) := by decide +kernel
theorem dX0_boilAll_48 : decode cX0_boilAll 48 = .ok (.getfield 22, 3) := by decide +kernel
theorem dX0_boilAll_51 : decode cX0_boilAll 51 = .ok (.iconst 0, 1) := by decide +kernel
theorem dX0_boilAll_52 : decode cX0_boilAll 52 = .ok (.dup2, 1) := by decide +kernel
theorem dX0_boilAll_53 : decode cX0_boilAll 53 = .ok (.iaload, 1) := by decide +kernel
theorem dX0_boilAll_54 : decode cX0_boilAll 54 = .ok (.aload_n 0, 1) := by decide +kernel
theorem dX0_boilAll_55 : decode cX0_boilAll 55 = .ok (.getfield 15, 3) := by decide +kernel
theorem dX0_boilAll_58 : decode cX0_boilAll 58 = .ok (.iconst 0, 1) := by decide +kernel
theorem dX0_boilAll_59 : decode cX0_boilAll 59 = .ok (.iaload, 1) := by decide +kernel
theorem dX0_boilAll_60 : decode cX0_boilAll 60 = .ok (.iadd, 1) := by decide +kernel
theorem dX0_boilAll_61 : decode cX0_boilAll 61 = .ok (.iastore, 1) := by decide +kernel
theorem dX0_boilAll_62 : decode cX0_boilAll 62 = .ok (.aload_n 0, 1) := by decide +kernel
theorem dX0_boilAll_63 : decode cX0_boilAll 63 = .ok (.getfield 22, 3) := by decide +kernel
theorem dX0_boilAll_66 : decode cX0_boilAll 66 = .ok (.iconst 3, 1) := by decide +kernel
theorem dX0_boilAll_67 : decode cX0_boilAll 67 = .ok (.dup2, 1) := by decide +kernel
theorem dX0_boilAll_68 : decode cX0_boilAll 68 = .ok (.iaload, 1) := by decide +kernel
theorem dX0_boilAll_69 : decode cX0_boilAll 69 = .ok (.iload_n 1, 1) := by decide +kernel
theorem dX0_boilAll_70 : decode cX0_boilAll 70 = .ok (.iadd, 1) := by decide +kernel
theorem dX0_boilAll_71 : decode cX0_boilAll 71 = .ok (.iastore, 1) := by decide +kernel
theorem dX0_boilAll_72 : decode cX0_boilAll 72 = .ok (.return_, 1) := by decide +kernel
set_option maxRecDepth 20000 in
theorem ggX0_boil_X0_thickness : GoodIn wsX0_boil wsX0_thickness := goodIn_r _ [14, 5, 15, 21, 22, 23, 24, 25, 26, 27, 28, 29, 30, 31, 32] (by decide +kernel) (by decide +kernel)
set_option maxRecDepth 20000 in
theorem gX0_boil_X0_thickness : GoodIn wsX0_boil (wsV RX0 61 RX0 yX0_thickness wsX0_thickness) := goodIn_app (goodIn_of _ (by decide +kernel)) ggX0_boil_X0_thickness
set_option maxRecDepth 20000 in
theorem ggX0_boil_X0_power : GoodIn wsX0_boil wsX0_power := goodIn_r _ [19, 9, 20, 21, 22, 23, 24, 25, 26, 27, 28, 29, 30, 31, 32] (by decide +kernel) (by decide +kernel)
set_option maxRecDepth 20000 in
theorem gX0_boil_X0_power : GoodIn wsX0_boil (wsV RX0 65 RX0 yX0_power wsX0_power) := goodIn_app (goodIn_of _ (by decide +kernel)) ggX0_boil_X0_power
theorem dX0_boil_0 : decode cX0_boil 0 = .ok (.aload_n 0, 1) := by decide +kernel
theorem dX0_boil_1 : decode cX0_boil 1 = .ok (.iload_n 1, 1) := by decide +kernel
theorem dX0_boil_2 : decode cX0_boil 2 = .ok (.invokevirtual 61, 3) := by decide +kernel
theorem dX0_boil_5 : decode cX0_boil 5 = .ok (.istore_n 3, 1) := by decide +kernel
theorem dX0_boil_6 : decode cX0_boil 6 = .ok (.iload_n 2, 1) := by decide +kernel
theorem dX0_boil_7 : decode cX0_boil 7 = .ok (.aload_n 0, 1) := by decide +kernel
theorem dX0_boil_8 : decode cX0_boil 8 = .ok (.iload_n 1, 1) := by decide +kernel
theorem dX0_boil_9 : decode cX0_boil 9 = .ok (.invokevirtual 65, 3) := by decide +kernel
theorem dX0_boil_12 : decode cX0_boil 12 = .ok (.invokestatic 88, 3) := by decide +kernel
theorem dX0_boil_15 : decode cX0_boil 15 = .ok (.istore 4, 2) := by decide +kernel
theorem dX0_boil_17 : decode cX0_boil 17 = .ok (.iload 4, 2) := by decide +kernel
theorem dX0_boil_19 : decode cX0_boil 19 = .ok (.iload 4, 2) := by decide +kernel
theorem dX0_boil_21 : decode cX0_boil 21 = .ok (.iload_n 3, 1) := by decide +kernel
theorem dX0_boil_22 : decode cX0_boil 22 = .ok (.imul, 1) := by decide +kernel
theorem dX0_boil_23 : decode cX0_boil 23 = .ok (.sipush 200, 3) := by decide +kernel
theorem dX0_boil_26 : decode cX0_boil 26 = .ok (.idiv, 1) := by decide +kernel
theorem dX0_boil_27 : decode cX0_boil 27 = .ok (.isub, 1) := by decide +kernel
theorem dX0_boil_28 : decode cX0_boil 28 = .ok (.istore 4, 2) := by decide +kernel
theorem dX0_boil_30 : decode cX0_boil 30 = .ok (.iload 4, 2) := by decide +kernel
theorem dX0_boil_32 : decode cX0_boil 32 = .ok (.aload_n 0, 1) := by decide +kernel
theorem dX0_boil_33 : decode cX0_boil 33 = .ok (.getfield 28, 3) := by decide +kernel
theorem dX0_boil_36 : decode cX0_boil 36 = .ok (.iload_n 1, 1) := by decide +kernel
theorem dX0_boil_37 : decode cX0_boil 37 = .ok (.iaload, 1) := by decide +kernel
theorem dX0_boil_38 : decode cX0_boil 38 = .ok (.invokestatic 88, 3) := by decide +kernel
theorem dX0_boil_41 : decode cX0_boil 41 = .ok (.istore 4, 2) := by decide +kernel
theorem dX0_boil_43 : decode cX0_boil 43 = .ok (.iload 4, 2) := by decide +kernel
theorem dX0_boil_45 : decode cX0_boil 45 = .ok (.aload_n 0, 1) := by decide +kernel
theorem dX0_boil_46 : decode cX0_boil 46 = .ok (.getfield 37, 3) := by decide +kernel
theorem dX0_boil_49 : decode cX0_boil 49 = .ok (.iload_n 1, 1) := by decide +kernel
theorem dX0_boil_50 : decode cX0_boil 50 = .ok (.iaload, 1) := by decide +kernel
theorem dX0_boil_51 : decode cX0_boil 51 = .ok (.imul, 1) := by decide +kernel
theorem dX0_boil_52 : decode cX0_boil 52 = .ok (.bipush 100, 2) := by decide +kernel
theorem dX0_boil_54 : decode cX0_boil 54 = .ok (.idiv, 1) := by decide +kernel
theorem dX0_boil_55 : decode cX0_boil 55 = .ok (.istore 5, 2) := by decide +kernel
theorem dX0_boil_57 : decode cX0_boil 57 = .ok (.aload_n 0, 1) := by decide +kernel
theorem dX0_boil_58 : decode cX0_boil 58 = .ok (.getfield 28, 3) := by decide +kernel
theorem dX0_boil_61 : decode cX0_boil 61 = .ok (.iload_n 1, 1) := by decide +kernel
theorem dX0_boil_62 : decode cX0_boil 62 = .ok (.dup2, 1) := by decide +kernel
theorem dX0_boil_63 : decode cX0_boil 63 = .ok (.iaload, 1) := by decide +kernel
theorem dX0_boil_64 : decode cX0_boil 64 = .ok (.iload 4, 2) := by decide +kernel
theorem dX0_boil_66 : decode cX0_boil 66 = .ok (.isub, 1) := by decide +kernel
theorem dX0_boil_67 : decode cX0_boil 67 = .ok (.iastore, 1) := by decide +kernel
theorem dX0_boil_68 : decode cX0_boil 68 = .ok (.aload_n 0, 1) := by decide +kernel
theorem dX0_boil_69 : decode cX0_boil 69 = .ok (.getfield 22, 3) := by decide +kernel
theorem dX0_boil_72 : decode cX0_boil 72 = .ok (.iconst 1, 1) := by decide +kernel
theorem dX0_boil_73 : decode cX0_boil 73 = .ok (.dup2, 1) := by decide +kernel
theorem dX0_boil_74 : decode cX0_boil 74 = .ok (.iaload, 1) := by decide +kernel
theorem dX0_boil_75 : decode cX0_boil 75 = .ok (.iload 4, 2) := by decide +kernel
theorem dX0_boil_77 : decode cX0_boil 77 = .ok (.iadd, 1) := by decide +kernel
theorem dX0_boil_78 : decode cX0_boil 78 = .ok (.iastore, 1) := by decide +kernel
theorem dX0_boil_79 : decode cX0_boil 79 = .ok (.aload_n 0, 1) := by decide +kernel
theorem dX0_boil_80 : decode cX0_boil 80 = .ok (.getfield 22, 3) := by decide +kernel
theorem dX0_boil_83 : decode cX0_boil 83 = .ok (.iconst 2, 1) := by decide +kernel
theorem dX0_boil_84 : decode cX0_boil 84 = .ok (.dup2, 1) := by decide +kernel
theorem dX0_boil_85 : decode cX0_boil 85 = .ok (.iaload, 1) := by decide +kernel
theorem dX0_boil_86 : decode cX0_boil 86 = .ok (.iload 5, 2) := by decide +kernel
theorem dX0_boil_88 : decode cX0_boil 88 = .ok (.iadd, 1) := by decide +kernel
theorem dX0_boil_89 : decode cX0_boil 89 = .ok (.iastore, 1) := by decide +kernel
theorem dX0_boil_90 : decode cX0_boil 90 = .ok (.aload_n 0, 1) := by decide +kernel
theorem dX0_boil_91 : decode cX0_boil 91 = .ok (.getfield 22, 3) := by decide +kernel
theorem dX0_boil_94 : decode cX0_boil 94 = .ok (.iconst 4, 1) := by decide +kernel
theorem dX0_boil_95 : decode cX0_boil 95 = .ok (.dup2, 1) := by decide +kernel
theorem dX0_boil_96 : decode cX0_boil 96 = .ok (.iaload, 1) := by decide +kernel
theorem dX0_boil_97 : decode cX0_boil 97 = .ok (.iload_n 2, 1) := by decide +kernel
theorem dX0_boil_98 : decode cX0_boil 98 = .ok (.iload 4, 2) := by decide +kernel
theorem dX0_boil_100 : decode cX0_boil 100 = .ok (.isub, 1) := by decide +kernel
theorem dX0_boil_101 : decode cX0_boil 101 = .ok (.iadd, 1) := by decide +kernel
theorem dX0_boil_102 : decode cX0_boil 102 = .ok (.iastore, 1) := by decide +kernel
theorem dX0_boil_103 : decode cX0_boil 103 = .ok (.aload_n 0, 1) := by decide +kernel
theorem dX0_boil_104 : decode cX0_boil 104 = .ok (.getfield 43, 3) := by decide +kernel
theorem dX0_boil_107 : decode cX0_boil 107 = .ok (.iload_n 1, 1) := by decide +kernel
theorem dX0_boil_108 : decode cX0_boil 108 = .ok (.iaload, 1) := by decide +kernel
theorem dX0_boil_109 : decode cX0_boil 109 = .ok (.iload 4, 2) := by decide +kernel
theorem dX0_boil_111 : decode cX0_boil 111 = .ok (.iload_n 3, 1) := by decide +kernel
theorem dX0_boil_112 : decode cX0_boil 112 = .ok (.imul, 1) := by decide +kernel
theorem dX0_boil_113 : decode cX0_boil 113 = .ok (.bipush 10, 2) := by decide +kernel
theorem dX0_boil_115 : decode cX0_boil 115 = .ok (.idiv, 1) := by decide +kernel
theorem dX0_boil_116 : decode cX0_boil 116 = .ok (.iadd, 1) := by decide +kernel
theorem dX0_boil_117 : decode cX0_boil 117 = .ok (.istore 6, 2) := by decide +kernel
theorem dX0_boil_119 : decode cX0_boil 119 = .ok (.aload_n 0, 1) := by decide +kernel
theorem dX0_boil_120 : decode cX0_boil 120 = .ok (.getfield 40, 3) := by decide +kernel
theorem dX0_boil_123 : decode cX0_boil 123 = .ok (.iload_n 1, 1) := by decide +kernel
theorem dX0_boil_124 : decode cX0_boil 124 = .ok (.bipush 99, 2) := by decide +kernel
theorem dX0_boil_126 : decode cX0_boil 126 = .ok (.aload_n 0, 1) := by decide +kernel
theorem dX0_boil_127 : decode cX0_boil 127 = .ok (.getfield 40, 3) := by decide +kernel
theorem dX0_boil_130 : decode cX0_boil 130 = .ok (.iload_n 1, 1) := by decide +kernel
theorem dX0_boil_131 : decode cX0_boil 131 = .ok (.iaload, 1) := by decide +kernel
theorem dX0_boil_132 : decode cX0_boil 132 = .ok (.iload 6, 2) := by decide +kernel
theorem dX0_boil_134 : decode cX0_boil 134 = .ok (.sipush 1000, 3) := by decide +kernel
theorem dX0_boil_137 : decode cX0_boil 137 = .ok (.idiv, 1) := by decide +kernel
theorem dX0_boil_138 : decode cX0_boil 138 = .ok (.iadd, 1) := by decide +kernel
theorem dX0_boil_139 : decode cX0_boil 139 = .ok (.invokestatic 88, 3) := by decide +kernel
theorem dX0_boil_142 : decode cX0_boil 142 = .ok (.iastore, 1) := by decide +kernel
theorem dX0_boil_143 : decode cX0_boil 143 = .ok (.aload_n 0, 1) := by decide +kernel
theorem dX0_boil_144 : decode cX0_boil 144 = .ok (.getfield 43, 3) := by decide +kernel
theorem dX0_boil_147 : decode cX0_boil 147 = .ok (.iload_n 1, 1) := by decide +kernel
theorem dX0_boil_148 : decode cX0_boil 148 = .ok (.iload 6, 2) := by decide +kernel
theorem dX0_boil_150 : decode cX0_boil 150 = .ok (.sipush 1000, 3) := by decide +kernel
theorem dX0_boil_153 : decode cX0_boil 153 = .ok (.irem, 1) := by decide +kernel
theorem dX0_boil_154 : decode cX0_boil 154 = .ok (.iastore, 1) := by decide +kernel
theorem dX0_boil_155 : decode cX0_boil 155 = .ok (.iload 4, 2) := by decide +kernel
theorem dX0_boil_157 : decode cX0_boil 157 = .ok (.iload 5, 2) := by decide +kernel
theorem dX0_boil_159 : decode cX0_boil 159 = .ok (.isub, 1) := by decide +kernel
theorem dX0_boil_160 : decode cX0_boil 160 = .ok (.ireturn, 1) := by decide +kernel
set_option maxRecDepth 20000 in
theorem ggX0_flowOn_X0_effectBehind : GoodIn wsX0_flowOn wsX0_effectBehind := goodIn_r _ [11, 3, 4, 25, 26, 27, 28, 29, 30, 31, 32, 33, 34, 35, 36] (by decide +kernel) (by decide +kernel)
set_option maxRecDepth 20000 in
theorem gX0_flowOn_X0_effectBehind : GoodIn wsX0_flowOn (wsV RX0 93 RX0 yX0_effectBehind wsX0_effectBehind) := goodIn_app (goodIn_of _ (by decide +kernel)) ggX0_flowOn_X0_effectBehind
set_option maxRecDepth 20000 in
theorem ggX0_flowOn_X0_amount : GoodIn wsX0_flowOn wsX0_amount := goodIn_r _ [15, 6, 5, 25, 26, 27, 28, 29, 30, 31, 32, 33, 34, 35, 36] (by decide +kernel) (by decide +kernel)
set_option maxRecDepth 20000 in
theorem gX0_flowOn_X0_amount : GoodIn wsX0_flowOn (wsV RX0 96 RX0 yX0_amount wsX0_amount) := goodIn_app (goodIn_of _ (by decide +kernel)) ggX0_flowOn_X0_amount
set_option maxRecDepth 20000 in
theorem ggX0_flowOn_X0_flowFrom : GoodIn wsX0_flowOn wsX0_flowFrom := goodIn_r _ [19, 20, 21, 22, 23, 24, 12, 13, 14, 10, 15, 6, 5, 7, 8, 9, 11, 3, 4, 25, 26, 27, 28, 29, 30, 31, 32, 33, 34, 35, 36] (by decide +kernel) (by decide +kernel)
set_option maxRecDepth 20000 in
theorem gX0_flowOn_X0_flowFrom : GoodIn wsX0_flowOn (wsV RX0 99 RX0 yX0_flowFrom wsX0_flowFrom) := goodIn_app (goodIn_of _ (by decide +kernel)) ggX0_flowOn_X0_flowFrom
theorem dX0_flowOn_0 : decode cX0_flowOn 0 = .ok (.iconst 0, 1) := by decide +kernel
theorem dX0_flowOn_1 : decode cX0_flowOn 1 = .ok (.istore_n 1, 1) := by decide +kernel
theorem dX0_flowOn_2 : decode cX0_flowOn 2 = .ok (.iconst 0, 1) := by decide +kernel
theorem dX0_flowOn_3 : decode cX0_flowOn 3 = .ok (.istore_n 2, 1) := by decide +kernel
theorem dX0_flowOn_4 : decode cX0_flowOn 4 = .ok (.aload_n 0, 1) := by decide +kernel
theorem dX0_flowOn_5 : decode cX0_flowOn 5 = .ok (.iconst (-1), 1) := by decide +kernel
theorem dX0_flowOn_6 : decode cX0_flowOn 6 = .ok (.invokevirtual 93, 3) := by decide +kernel
theorem dX0_flowOn_9 : decode cX0_flowOn 9 = .ok (.istore_n 3, 1) := by decide +kernel
theorem dX0_flowOn_10 : decode cX0_flowOn 10 = .ok (.iload_n 3, 1) := by decide +kernel
theorem dX0_flowOn_11 : decode cX0_flowOn 11 = .ok (.bipush (-9), 2) := by decide +kernel
theorem dX0_flowOn_13 : decode cX0_flowOn 13 = .ok (.if_icmp .eq 28, 3) := by decide +kernel
theorem dX0_flowOn_16 : decode cX0_flowOn 16 = .ok (.sipush 5000, 3) := by decide +kernel
theorem dX0_flowOn_19 : decode cX0_flowOn 19 = .ok (.aload_n 0, 1) := by decide +kernel
theorem dX0_flowOn_20 : decode cX0_flowOn 20 = .ok (.iload_n 3, 1) := by decide +kernel
theorem dX0_flowOn_21 : decode cX0_flowOn 21 = .ok (.invokevirtual 96, 3) := by decide +kernel
theorem dX0_flowOn_24 : decode cX0_flowOn 24 = .ok (.isub, 1) := by decide +kernel
theorem dX0_flowOn_25 : decode cX0_flowOn 25 = .ok (.aload_n 0, 1) := by decide +kernel
theorem dX0_flowOn_26 : decode cX0_flowOn 26 = .ok (.getfield 15, 3) := by decide +kernel
theorem dX0_flowOn_29 : decode cX0_flowOn 29 = .ok (.iconst 1, 1) := by decide +kernel
theorem dX0_flowOn_30 : decode cX0_flowOn 30 = .ok (.iaload, 1) := by decide +kernel
theorem dX0_flowOn_31 : decode cX0_flowOn 31 = .ok (.aload_n 0, 1) := by decide +kernel
theorem dX0_flowOn_32 : decode cX0_flowOn 32 = .ok (.getfield 15, 3) := by decide +kernel
theorem dX0_flowOn_35 : decode cX0_flowOn 35 = .ok (.iconst 2, 1) := by decide +kernel
theorem dX0_flowOn_36 : decode cX0_flowOn 36 = .ok (.iaload, 1) := by decide +kernel
theorem dX0_flowOn_37 : decode cX0_flowOn 37 = .ok (.iadd, 1) := by decide +kernel
theorem dX0_flowOn_38 : decode cX0_flowOn 38 = .ok (.if_icmp .ge 17, 3) := by decide +kernel
theorem dX0_flowOn_41 : decode cX0_flowOn 41 = .ok (.aload_n 0, 1) := by decide +kernel
theorem dX0_flowOn_42 : decode cX0_flowOn 42 = .ok (.getfield 22, 3) := by decide +kernel
theorem dX0_flowOn_45 : decode cX0_flowOn 45 = .ok (.bipush 9, 2) := by decide +kernel
theorem dX0_flowOn_47 : decode cX0_flowOn 47 = .ok (.dup2, 1) := by decide +kernel
theorem dX0_flowOn_48 : decode cX0_flowOn 48 = .ok (.iaload, 1) := by decide +kernel
theorem dX0_flowOn_49 : decode cX0_flowOn 49 = .ok (.iconst 1, 1) := by decide +kernel
theorem dX0_flowOn_50 : decode cX0_flowOn 50 = .ok (.iadd, 1) := by decide +kernel
theorem dX0_flowOn_51 : decode cX0_flowOn 51 = .ok (.iastore, 1) := by decide +kernel
theorem dX0_flowOn_52 : decode cX0_flowOn 52 = .ok (.goto 38, 3) := by decide +kernel
theorem dX0_flowOn_55 : decode cX0_flowOn 55 = .ok (.aload_n 0, 1) := by decide +kernel
theorem dX0_flowOn_56 : decode cX0_flowOn 56 = .ok (.getfield 15, 3) := by decide +kernel
theorem dX0_flowOn_59 : decode cX0_flowOn 59 = .ok (.iconst 1, 1) := by decide +kernel
theorem dX0_flowOn_60 : decode cX0_flowOn 60 = .ok (.iaload, 1) := by decide +kernel
theorem dX0_flowOn_61 : decode cX0_flowOn 61 = .ok (.istore_n 1, 1) := by decide +kernel
theorem dX0_flowOn_62 : decode cX0_flowOn 62 = .ok (.aload_n 0, 1) := by decide +kernel
theorem dX0_flowOn_63 : decode cX0_flowOn 63 = .ok (.getfield 15, 3) := by decide +kernel
theorem dX0_flowOn_66 : decode cX0_flowOn 66 = .ok (.iconst 2, 1) := by decide +kernel
theorem dX0_flowOn_67 : decode cX0_flowOn 67 = .ok (.iaload, 1) := by decide +kernel
theorem dX0_flowOn_68 : decode cX0_flowOn 68 = .ok (.istore_n 2, 1) := by decide +kernel
theorem dX0_flowOn_69 : decode cX0_flowOn 69 = .ok (.aload_n 0, 1) := by decide +kernel
theorem dX0_flowOn_70 : decode cX0_flowOn 70 = .ok (.getfield 22, 3) := by decide +kernel
theorem dX0_flowOn_73 : decode cX0_flowOn 73 = .ok (.iconst 5, 1) := by decide +kernel
theorem dX0_flowOn_74 : decode cX0_flowOn 74 = .ok (.dup2, 1) := by decide +kernel
theorem dX0_flowOn_75 : decode cX0_flowOn 75 = .ok (.iaload, 1) := by decide +kernel
theorem dX0_flowOn_76 : decode cX0_flowOn 76 = .ok (.iload_n 1, 1) := by decide +kernel
theorem dX0_flowOn_77 : decode cX0_flowOn 77 = .ok (.iadd, 1) := by decide +kernel
theorem dX0_flowOn_78 : decode cX0_flowOn 78 = .ok (.iastore, 1) := by decide +kernel
theorem dX0_flowOn_79 : decode cX0_flowOn 79 = .ok (.aload_n 0, 1) := by decide +kernel
theorem dX0_flowOn_80 : decode cX0_flowOn 80 = .ok (.getfield 22, 3) := by decide +kernel
theorem dX0_flowOn_83 : decode cX0_flowOn 83 = .ok (.bipush 6, 2) := by decide +kernel
theorem dX0_flowOn_85 : decode cX0_flowOn 85 = .ok (.dup2, 1) := by decide +kernel
theorem dX0_flowOn_86 : decode cX0_flowOn 86 = .ok (.iaload, 1) := by decide +kernel
theorem dX0_flowOn_87 : decode cX0_flowOn 87 = .ok (.iload_n 2, 1) := by decide +kernel
theorem dX0_flowOn_88 : decode cX0_flowOn 88 = .ok (.iadd, 1) := by decide +kernel
theorem dX0_flowOn_89 : decode cX0_flowOn 89 = .ok (.iastore, 1) := by decide +kernel
theorem dX0_flowOn_90 : decode cX0_flowOn 90 = .ok (.iconst 0, 1) := by decide +kernel
theorem dX0_flowOn_91 : decode cX0_flowOn 91 = .ok (.istore 4, 2) := by decide +kernel
theorem dX0_flowOn_93 : decode cX0_flowOn 93 = .ok (.iload 4, 2) := by decide +kernel
theorem dX0_flowOn_95 : decode cX0_flowOn 95 = .ok (.aload_n 0, 1) := by decide +kernel
theorem dX0_flowOn_96 : decode cX0_flowOn 96 = .ok (.getfield 9, 3) := by decide +kernel
theorem dX0_flowOn_99 : decode cX0_flowOn 99 = .ok (.if_icmp .ge 100, 3) := by decide +kernel
theorem dX0_flowOn_102 : decode cX0_flowOn 102 = .ok (.aload_n 0, 1) := by decide +kernel
theorem dX0_flowOn_103 : decode cX0_flowOn 103 = .ok (.getfield 46, 3) := by decide +kernel
theorem dX0_flowOn_106 : decode cX0_flowOn 106 = .ok (.iload 4, 2) := by decide +kernel
theorem dX0_flowOn_108 : decode cX0_flowOn 108 = .ok (.iaload, 1) := by decide +kernel
theorem dX0_flowOn_109 : decode cX0_flowOn 109 = .ok (.ifCond .ne 84, 3) := by decide +kernel
theorem dX0_flowOn_112 : decode cX0_flowOn 112 = .ok (.aload_n 0, 1) := by decide +kernel
theorem dX0_flowOn_113 : decode cX0_flowOn 113 = .ok (.iload 4, 2) := by decide +kernel
theorem dX0_flowOn_115 : decode cX0_flowOn 115 = .ok (.invokevirtual 99, 3) := by decide +kernel
theorem dX0_flowOn_118 : decode cX0_flowOn 118 = .ok (.istore 5, 2) := by decide +kernel
theorem dX0_flowOn_120 : decode cX0_flowOn 120 = .ok (.aload_n 0, 1) := by decide +kernel
theorem dX0_flowOn_121 : decode cX0_flowOn 121 = .ok (.iload 4, 2) := by decide +kernel
theorem dX0_flowOn_123 : decode cX0_flowOn 123 = .ok (.invokevirtual 96, 3) := by decide +kernel
theorem dX0_flowOn_126 : decode cX0_flowOn 126 = .ok (.istore 6, 2) := by decide +kernel
theorem dX0_flowOn_128 : decode cX0_flowOn 128 = .ok (.iload 6, 2) := by decide +kernel
theorem dX0_flowOn_130 : decode cX0_flowOn 130 = .ok (.ifCond .le 19, 3) := by decide +kernel
theorem dX0_flowOn_133 : decode cX0_flowOn 133 = .ok (.aload_n 0, 1) := by decide +kernel
theorem dX0_flowOn_134 : decode cX0_flowOn 134 = .ok (.getfield 31, 3) := by decide +kernel
theorem dX0_flowOn_137 : decode cX0_flowOn 137 = .ok (.iload 4, 2) := by decide +kernel
theorem dX0_flowOn_139 : decode cX0_flowOn 139 = .ok (.iaload, 1) := by decide +kernel
theorem dX0_flowOn_140 : decode cX0_flowOn 140 = .ok (.iload 5, 2) := by decide +kernel
theorem dX0_flowOn_142 : decode cX0_flowOn 142 = .ok (.imul, 1) := by decide +kernel
theorem dX0_flowOn_143 : decode cX0_flowOn 143 = .ok (.iload 6, 2) := by decide +kernel
theorem dX0_flowOn_145 : decode cX0_flowOn 145 = .ok (.idiv, 1) := by decide +kernel
theorem dX0_flowOn_146 : decode cX0_flowOn 146 = .ok (.goto 4, 3) := by decide +kernel
theorem dX0_flowOn_149 : decode cX0_flowOn 149 = .ok (.iconst 0, 1) := by decide +kernel
theorem dX0_flowOn_150 : decode cX0_flowOn 150 = .ok (.istore 7, 2) := by decide +kernel
theorem dX0_flowOn_152 : decode cX0_flowOn 152 = .ok (.iload 5, 2) := by decide +kernel
theorem dX0_flowOn_154 : decode cX0_flowOn 154 = .ok (.iload 7, 2) := by decide +kernel
theorem dX0_flowOn_156 : decode cX0_flowOn 156 = .ok (.isub, 1) := by decide +kernel
theorem dX0_flowOn_157 : decode cX0_flowOn 157 = .ok (.istore 8, 2) := by decide +kernel
theorem dX0_flowOn_159 : decode cX0_flowOn 159 = .ok (.aload_n 0, 1) := by decide +kernel
theorem dX0_flowOn_160 : decode cX0_flowOn 160 = .ok (.getfield 28, 3) := by decide +kernel
theorem dX0_flowOn_163 : decode cX0_flowOn 163 = .ok (.iload 4, 2) := by decide +kernel
theorem dX0_flowOn_165 : decode cX0_flowOn 165 = .ok (.dup2, 1) := by decide +kernel
theorem dX0_flowOn_166 : decode cX0_flowOn 166 = .ok (.iaload, 1) := by decide +kernel
theorem dX0_flowOn_167 : decode cX0_flowOn 167 = .ok (.iload_n 1, 1) := by decide +kernel
theorem dX0_flowOn_168 : decode cX0_flowOn 168 = .ok (.iload 8, 2) := by decide +kernel
theorem dX0_flowOn_170 : decode cX0_flowOn 170 = .ok (.isub, 1) := by decide +kernel
theorem dX0_flowOn_171 : decode cX0_flowOn 171 = .ok (.iadd, 1) := by decide +kernel
theorem dX0_flowOn_172 : decode cX0_flowOn 172 = .ok (.iastore, 1) := by decide +kernel
theorem dX0_flowOn_173 : decode cX0_flowOn 173 = .ok (.aload_n 0, 1) := by decide +kernel
theorem dX0_flowOn_174 : decode cX0_flowOn 174 = .ok (.getfield 31, 3) := by decide +kernel
theorem dX0_flowOn_177 : decode cX0_flowOn 177 = .ok (.iload 4, 2) := by decide +kernel
theorem dX0_flowOn_179 : decode cX0_flowOn 179 = .ok (.dup2, 1) := by decide +kernel
theorem dX0_flowOn_180 : decode cX0_flowOn 180 = .ok (.iaload, 1) := by decide +kernel
theorem dX0_flowOn_181 : decode cX0_flowOn 181 = .ok (.iload_n 2, 1) := by decide +kernel
theorem dX0_flowOn_182 : decode cX0_flowOn 182 = .ok (.iload 7, 2) := by decide +kernel
theorem dX0_flowOn_184 : decode cX0_flowOn 184 = .ok (.isub, 1) := by decide +kernel
theorem dX0_flowOn_185 : decode cX0_flowOn 185 = .ok (.iadd, 1) := by decide +kernel
theorem dX0_flowOn_186 : decode cX0_flowOn 186 = .ok (.iastore, 1) := by decide +kernel
theorem dX0_flowOn_187 : decode cX0_flowOn 187 = .ok (.iload 8, 2) := by decide +kernel
theorem dX0_flowOn_189 : decode cX0_flowOn 189 = .ok (.istore_n 1, 1) := by decide +kernel
theorem dX0_flowOn_190 : decode cX0_flowOn 190 = .ok (.iload 7, 2) := by decide +kernel
theorem dX0_flowOn_192 : decode cX0_flowOn 192 = .ok (.istore_n 2, 1) := by decide +kernel
theorem dX0_flowOn_193 : decode cX0_flowOn 193 = .ok (.iinc 4 1, 3) := by decide +kernel
theorem dX0_flowOn_196 : decode cX0_flowOn 196 = .ok (.goto (-103), 3) := by decide +kernel
theorem dX0_flowOn_199 : decode cX0_flowOn 199 = .ok (.aload_n 0, 1) := by decide +kernel
theorem dX0_flowOn_200 : decode cX0_flowOn 200 = .ok (.getfield 22, 3) := by decide +kernel
theorem dX0_flowOn_203 : decode cX0_flowOn 203 = .ok (.bipush 7, 2) := by decide +kernel
theorem dX0_flowOn_205 : decode cX0_flowOn 205 = .ok (.dup2, 1) := by decide +kernel
theorem dX0_flowOn_206 : decode cX0_flowOn 206 = .ok (.iaload, 1) := by decide +kernel
theorem dX0_flowOn_207 : decode cX0_flowOn 207 = .ok (.iload_n 1, 1) := by decide +kernel
theorem dX0_flowOn_208 : decode cX0_flowOn 208 = .ok (.iadd, 1) := by decide +kernel
theorem dX0_flowOn_209 : decode cX0_flowOn 209 = .ok (.iastore, 1) := by decide +kernel
theorem dX0_flowOn_210 : decode cX0_flowOn 210 = .ok (.aload_n 0, 1) := by decide +kernel
theorem dX0_flowOn_211 : decode cX0_flowOn 211 = .ok (.getfield 22, 3) := by decide +kernel
theorem dX0_flowOn_214 : decode cX0_flowOn 214 = .ok (.bipush 8, 2) := by decide +kernel
theorem dX0_flowOn_216 : decode cX0_flowOn 216 = .ok (.dup2, 1) := by decide +kernel
theorem dX0_flowOn_217 : decode cX0_flowOn 217 = .ok (.iaload, 1) := by decide +kernel
theorem dX0_flowOn_218 : decode cX0_flowOn 218 = .ok (.iload_n 2, 1) := by decide +kernel
theorem dX0_flowOn_219 : decode cX0_flowOn 219 = .ok (.iadd, 1) := by decide +kernel
theorem dX0_flowOn_220 : decode cX0_flowOn 220 = .ok (.iastore, 1) := by decide +kernel
theorem dX0_flowOn_221 : decode cX0_flowOn 221 = .ok (.return_, 1) := by decide +kernel
set_option maxRecDepth 20000 in
theorem ggX0_flowFrom_X0_amount : GoodIn wsX0_flowFrom wsX0_amount := goodIn_r _ [10, 11, 12, 19, 20, 21, 22, 23, 24, 25, 26, 27, 28, 29, 30] (by decide +kernel) (by decide +kernel)
set_option maxRecDepth 20000 in
theorem gX0_flowFrom_X0_amount : GoodIn wsX0_flowFrom (wsV RX0 96 RX0 yX0_amount wsX0_amount) := goodIn_app (goodIn_of _ (by decide +kernel)) ggX0_flowFrom_X0_amount
set_option maxRecDepth 20000 in
theorem ggX0_flowFrom_X0_effectBehind : GoodIn wsX0_flowFrom wsX0_effectBehind := goodIn_r _ [16, 17, 18, 19, 20, 21, 22, 23, 24, 25, 26, 27, 28, 29, 30] (by decide +kernel) (by decide +kernel)
set_option maxRecDepth 20000 in
theorem gX0_flowFrom_X0_effectBehind : GoodIn wsX0_flowFrom (wsV RX0 93 RX0 yX0_effectBehind wsX0_effectBehind) := goodIn_app (goodIn_of _ (by decide +kernel)) ggX0_flowFrom_X0_effectBehind
theorem dX0_flowFrom_0 : decode cX0_flowFrom 0 = .ok (.aload_n 0, 1) := by decide +kernel
theorem dX0_flowFrom_1 : decode cX0_flowFrom 1 = .ok (.getfield 34, 3) := by decide +kernel
theorem dX0_flowFrom_4 : decode cX0_flowFrom 4 = .ok (.iload_n 1, 1) := by decide +kernel
theorem dX0_flowFrom_5 : decode cX0_flowFrom 5 = .ok (.iaload, 1) := by decide +kernel
theorem dX0_flowFrom_6 : decode cX0_flowFrom 6 = .ok (.aload_n 0, 1) := by decide +kernel
theorem dX0_flowFrom_7 : decode cX0_flowFrom 7 = .ok (.iload_n 1, 1) := by decide +kernel
theorem dX0_flowFrom_8 : decode cX0_flowFrom 8 = .ok (.invokevirtual 96, 3) := by decide +kernel
theorem dX0_flowFrom_11 : decode cX0_flowFrom 11 = .ok (.invokestatic 88, 3) := by decide +kernel
theorem dX0_flowFrom_14 : decode cX0_flowFrom 14 = .ok (.istore_n 2, 1) := by decide +kernel
theorem dX0_flowFrom_15 : decode cX0_flowFrom 15 = .ok (.aload_n 0, 1) := by decide +kernel
theorem dX0_flowFrom_16 : decode cX0_flowFrom 16 = .ok (.iload_n 1, 1) := by decide +kernel
theorem dX0_flowFrom_17 : decode cX0_flowFrom 17 = .ok (.invokevirtual 93, 3) := by decide +kernel
theorem dX0_flowFrom_20 : decode cX0_flowFrom 20 = .ok (.istore_n 3, 1) := by decide +kernel
theorem dX0_flowFrom_21 : decode cX0_flowFrom 21 = .ok (.iload_n 3, 1) := by decide +kernel
theorem dX0_flowFrom_22 : decode cX0_flowFrom 22 = .ok (.bipush (-9), 2) := by decide +kernel
theorem dX0_flowFrom_24 : decode cX0_flowFrom 24 = .ok (.if_icmp .ne 7, 3) := by decide +kernel
theorem dX0_flowFrom_27 : decode cX0_flowFrom 27 = .ok (.iload_n 2, 1) := by decide +kernel
theorem dX0_flowFrom_28 : decode cX0_flowFrom 28 = .ok (.goto 16, 3) := by decide +kernel
theorem dX0_flowFrom_31 : decode cX0_flowFrom 31 = .ok (.iload_n 2, 1) := by decide +kernel
theorem dX0_flowFrom_32 : decode cX0_flowFrom 32 = .ok (.sipush 5000, 3) := by decide +kernel
theorem dX0_flowFrom_35 : decode cX0_flowFrom 35 = .ok (.aload_n 0, 1) := by decide +kernel
theorem dX0_flowFrom_36 : decode cX0_flowFrom 36 = .ok (.iload_n 3, 1) := by decide +kernel
theorem dX0_flowFrom_37 : decode cX0_flowFrom 37 = .ok (.invokevirtual 96, 3) := by decide +kernel
theorem dX0_flowFrom_40 : decode cX0_flowFrom 40 = .ok (.isub, 1) := by decide +kernel
theorem dX0_flowFrom_41 : decode cX0_flowFrom 41 = .ok (.invokestatic 88, 3) := by decide +kernel
theorem dX0_flowFrom_44 : decode cX0_flowFrom 44 = .ok (.ireturn, 1) := by decide +kernel
theorem dX0_washOn_0 : decode cX0_washOn 0 = .ok (.iconst 0, 1) := by decide +kernel
theorem dX0_washOn_1 : decode cX0_washOn 1 = .ok (.istore_n 1, 1) := by decide +kernel
theorem dX0_washOn_2 : decode cX0_washOn 2 = .ok (.iload_n 1, 1) := by decide +kernel
theorem dX0_washOn_3 : decode cX0_washOn 3 = .ok (.aload_n 0, 1) := by decide +kernel
theorem dX0_washOn_4 : decode cX0_washOn 4 = .ok (.getfield 9, 3) := by decide +kernel
theorem dX0_washOn_7 : decode cX0_washOn 7 = .ok (.if_icmp .ge 46, 3) := by decide +kernel
theorem dX0_washOn_10 : decode cX0_washOn 10 = .ok (.aload_n 0, 1) := by decide +kernel
theorem dX0_washOn_11 : decode cX0_washOn 11 = .ok (.getfield 46, 3) := by decide +kernel
theorem dX0_washOn_14 : decode cX0_washOn 14 = .ok (.iload_n 1, 1) := by decide +kernel
theorem dX0_washOn_15 : decode cX0_washOn 15 = .ok (.iaload, 1) := by decide +kernel
theorem dX0_washOn_16 : decode cX0_washOn 16 = .ok (.ifCond .le 31, 3) := by decide +kernel
theorem dX0_washOn_19 : decode cX0_washOn 19 = .ok (.aload_n 0, 1) := by decide +kernel
theorem dX0_washOn_20 : decode cX0_washOn 20 = .ok (.getfield 40, 3) := by decide +kernel
theorem dX0_washOn_23 : decode cX0_washOn 23 = .ok (.iload_n 1, 1) := by decide +kernel
theorem dX0_washOn_24 : decode cX0_washOn 24 = .ok (.iconst 0, 1) := by decide +kernel
theorem dX0_washOn_25 : decode cX0_washOn 25 = .ok (.aload_n 0, 1) := by decide +kernel
theorem dX0_washOn_26 : decode cX0_washOn 26 = .ok (.getfield 40, 3) := by decide +kernel
theorem dX0_washOn_29 : decode cX0_washOn 29 = .ok (.iload_n 1, 1) := by decide +kernel
theorem dX0_washOn_30 : decode cX0_washOn 30 = .ok (.iaload, 1) := by decide +kernel
theorem dX0_washOn_31 : decode cX0_washOn 31 = .ok (.iconst 5, 1) := by decide +kernel
theorem dX0_washOn_32 : decode cX0_washOn 32 = .ok (.isub, 1) := by decide +kernel
theorem dX0_washOn_33 : decode cX0_washOn 33 = .ok (.invokestatic 102, 3) := by decide +kernel
theorem dX0_washOn_36 : decode cX0_washOn 36 = .ok (.iastore, 1) := by decide +kernel
theorem dX0_washOn_37 : decode cX0_washOn 37 = .ok (.aload_n 0, 1) := by decide +kernel
theorem dX0_washOn_38 : decode cX0_washOn 38 = .ok (.getfield 46, 3) := by decide +kernel
theorem dX0_washOn_41 : decode cX0_washOn 41 = .ok (.iload_n 1, 1) := by decide +kernel
theorem dX0_washOn_42 : decode cX0_washOn 42 = .ok (.dup2, 1) := by decide +kernel
theorem dX0_washOn_43 : decode cX0_washOn 43 = .ok (.iaload, 1) := by decide +kernel
theorem dX0_washOn_44 : decode cX0_washOn 44 = .ok (.iconst 1, 1) := by decide +kernel
theorem dX0_washOn_45 : decode cX0_washOn 45 = .ok (.isub, 1) := by decide +kernel
theorem dX0_washOn_46 : decode cX0_washOn 46 = .ok (.iastore, 1) := by decide +kernel
theorem dX0_washOn_47 : decode cX0_washOn 47 = .ok (.iinc 1 1, 3) := by decide +kernel
theorem dX0_washOn_50 : decode cX0_washOn 50 = .ok (.goto (-48), 3) := by decide +kernel
theorem dX0_washOn_53 : decode cX0_washOn 53 = .ok (.return_, 1) := by decide +kernel
theorem dJ9_max_7cf53_0 : decode cJ9_max_7cf53 0 = .ok (.iload_n 0, 1) := by decide +kernel
theorem dJ9_max_7cf53_1 : decode cJ9_max_7cf53 1 = .ok (.iload_n 1, 1) := by decide +kernel
theorem dJ9_max_7cf53_2 : decode cJ9_max_7cf53 2 = .ok (.if_icmp .lt 7, 3) := by decide +kernel
theorem dJ9_max_7cf53_5 : decode cJ9_max_7cf53 5 = .ok (.iload_n 0, 1) := by decide +kernel
theorem dJ9_max_7cf53_6 : decode cJ9_max_7cf53 6 = .ok (.goto 4, 3) := by decide +kernel
theorem dJ9_max_7cf53_9 : decode cJ9_max_7cf53 9 = .ok (.iload_n 1, 1) := by decide +kernel
theorem dJ9_max_7cf53_10 : decode cJ9_max_7cf53 10 = .ok (.ireturn, 1) := by decide +kernel
theorem dJ9_min_7cf53_0 : decode cJ9_min_7cf53 0 = .ok (.iload_n 0, 1) := by decide +kernel
theorem dJ9_min_7cf53_1 : decode cJ9_min_7cf53 1 = .ok (.iload_n 1, 1) := by decide +kernel
theorem dJ9_min_7cf53_2 : decode cJ9_min_7cf53 2 = .ok (.if_icmp .gt 7, 3) := by decide +kernel
theorem dJ9_min_7cf53_5 : decode cJ9_min_7cf53 5 = .ok (.iload_n 0, 1) := by decide +kernel
theorem dJ9_min_7cf53_6 : decode cJ9_min_7cf53 6 = .ok (.goto 4, 3) := by decide +kernel
theorem dJ9_min_7cf53_9 : decode cJ9_min_7cf53 9 = .ok (.iload_n 1, 1) := by decide +kernel
theorem dJ9_min_7cf53_10 : decode cJ9_min_7cf53 10 = .ok (.ireturn, 1) := by decide +kernel
theorem dJ7_fill_53178_0 : decode cJ7_fill_53178 0 = .ok (.iconst 0, 1) := by decide +kernel
theorem dJ7_fill_53178_1 : decode cJ7_fill_53178 1 = .ok (.istore_n 2, 1) := by decide +kernel
theorem dJ7_fill_53178_2 : decode cJ7_fill_53178 2 = .ok (.aload_n 0, 1) := by decide +kernel
theorem dJ7_fill_53178_3 : decode cJ7_fill_53178 3 = .ok (.arraylength, 1) := by decide +kernel
theorem dJ7_fill_53178_4 : decode cJ7_fill_53178 4 = .ok (.istore_n 3, 1) := by decide +kernel
theorem dJ7_fill_53178_5 : decode cJ7_fill_53178 5 = .ok (.iload_n 2, 1) := by decide +kernel
theorem dJ7_fill_53178_6 : decode cJ7_fill_53178 6 = .ok (.iload_n 3, 1) := by decide +kernel
theorem dJ7_fill_53178_7 : decode cJ7_fill_53178 7 = .ok (.if_icmp .ge 13, 3) := by decide +kernel
theorem dJ7_fill_53178_10 : decode cJ7_fill_53178 10 = .ok (.aload_n 0, 1) := by decide +kernel
theorem dJ7_fill_53178_11 : decode cJ7_fill_53178 11 = .ok (.iload_n 2, 1) := by decide +kernel
theorem dJ7_fill_53178_12 : decode cJ7_fill_53178 12 = .ok (.iload_n 1, 1) := by decide +kernel
theorem dJ7_fill_53178_13 : decode cJ7_fill_53178 13 = .ok (.iastore, 1) := by decide +kernel
theorem dJ7_fill_53178_14 : decode cJ7_fill_53178 14 = .ok (.iinc 2 1, 3) := by decide +kernel
theorem dJ7_fill_53178_17 : decode cJ7_fill_53178 17 = .ok (.goto (-12), 3) := by decide +kernel
theorem dJ7_fill_53178_20 : decode cJ7_fill_53178 20 = .ok (.return_, 1) := by decide +kernel
end
section
/-! own words: partial functions that a walk follows, contracts of one fixed outcome, calls in place -/
/-- a guard -/
def gb {α : Type} (b : Bool) (k : Option α) : Option α := match b with
  | true => k
  | false => none
theorem gb_l {α : Type} {b : Bool} {k : Option α} {o : α} (h : gb b k = some o) : b = true := by
  cases b with
  | true => rfl
  | false => cases h
theorem gb_r {α : Type} {b : Bool} {k : Option α} {o : α} (h : gb b k = some o) : k = some o := by
  cases b with
  | true => exact h
  | false => cases h
theorem gb_t {α : Type} {b : Bool} {k : Option α} (h : b = true) : gb b k = k := by subst h; rfl
def bd {α β : Type} (x : Option α) (k : α → Option β) : Option β := match x with
  | none => none
  | some a => k a
theorem bd_l {α β : Type} {x : Option α} {k : α → Option β} {o : β} (h : bd x k = some o) : ∃ a, x = some a ∧ k a = some o := by
  cases x with
  | none => cases h
  | some a => exact ⟨a, rfl, h⟩
theorem bd_t {α β : Type} {x : Option α} {k : α → Option β} {a : α} (h : x = some a) : bd x k = k a := by subst h; rfl
/-- a name for what was computed -/
def nm {α β : Type} (x : α) (k : α → Option β) : Option β := k x
theorem nm_l {α β : Type} {x y : α} {k : α → Option β} {o : β} (h : nm x k = some o) (e : y = x) : k y = some o := by subst e; exact h
theorem it_l {c : Prop} [Decidable c] {α : Type} {a b : Option α} {o : α} (hc : c) (h : (if c then a else b) = some o) : a = some o := by rwa [if_pos hc] at h
theorem it_r {c : Prop} [Decidable c] {α : Type} {a b : Option α} {o : α} (hc : ¬ c) (h : (if c then a else b) = some o) : b = some o := by rwa [if_neg hc] at h
/-- a callee that throws or answers -/
def bx {α β : Type} (x : Option (String ⊕ α)) (k : α → Option (String ⊕ β)) : Option (String ⊕ β) := match x with
  | none => none
  | some (.inl E) => some (.inl E)
  | some (.inr a) => k a
theorem bx_l {α β : Type} {x : Option (String ⊕ α)} {k : α → Option (String ⊕ β)} {o : String ⊕ β} (h : bx x k = some o) : (∃ E, x = some (.inl E) ∧ o = .inl E) ∨ ∃ a, x = some (.inr a) ∧ k a = some o := by
  cases x with
  | none => cases h
  | some a =>
    cases a with
    | inl E => exact Or.inl ⟨E, rfl, (Option.some.inj h).symm⟩
    | inr a => exact Or.inr ⟨a, rfl, h⟩
def inb (i : Int32) (n : Nat) : Bool := !(decide (i < 0)) && decide (i.toNatClampNeg < n)
theorem inb_vp {i : Int32} {n : Nat} (h : inb i n = true) : vp_in i n := by
  unfold inb at h
  simp only [Bool.and_eq_true, Bool.not_eq_true', decide_eq_false_iff_not, decide_eq_true_eq] at h
  intro q
  rcases q with q | q
  · exact h.1 q
  · omega
theorem vp_inb {i : Int32} {n : Nat} (h : vp_in i n) : inb i n = true := by
  unfold inb
  simp only [Bool.and_eq_true, Bool.not_eq_true', decide_eq_false_iff_not, decide_eq_true_eq]
  exact ⟨fun q => h (Or.inl q), Nat.not_le.mp fun q => h (Or.inr q)⟩
def nz (y : Int32) : Bool := !decide (y = 0)
theorem nz_l {y : Int32} (h : nz y = true) : ¬ y = 0 := by
  unfold nz at h
  simpa using h
theorem nz_t {y : Int32} (h : ¬ y = 0) : nz y = true := by
  unfold nz
  simpa using h
def nzl (y : Int64) : Bool := !decide (y = 0)
theorem nzl_l {y : Int64} (h : nzl y = true) : ¬ y = 0 := by
  unfold nzl at h
  simpa using h
theorem nzl_t {y : Int64} (h : ¬ y = 0) : nzl y = true := by
  unfold nzl
  simpa using h
/-! a world changed in place -/
def va_sets : va_W → List Nat → va_W → va_W
  | w, i :: is, q :: qs => va_sets (w.set i q) is qs
  | w, _, _ => w
theorem va_sets_nil (w : va_W) (qs : va_W) : va_sets w [] qs = w := by cases qs <;> rfl
theorem va_sets_P {D : va_G} {cl : List vw_C} {H1 : Heap} : ∀ (is : List Nat) (w w' : va_W), is.length = w'.length → va_P D cl w' H1 → (∀ (k : Nat) (q : Nat × va_E), w[k]? = some q → va_at D cl q H1 ∨ k ∈ is) → va_P D cl (va_sets w is w') H1
  | [], w, w', _, _, h => by
    rw [va_sets_nil]
    intro k q hk
    rcases h k q hk with h | h
    · exact h
    · cases h
  | i :: is, w, [], hl, _, _ => by simp at hl
  | i :: is, w, q0 :: qs, hl, hP, h => by
    show va_P D cl (va_sets (w.set i q0) is qs) H1
    refine va_sets_P is (w.set i q0) qs (by simpa using hl) (fun k q hk => hP (k + 1) q (by simpa using hk)) fun k q hk => ?_
    by_cases hki : k = i
    · subst hki
      have hlt : k < (w.set k q0).length := (List.getElem?_eq_some_iff.mp hk).1
      rw [List.getElem?_set_self (by simpa using hlt)] at hk
      cases hk
      exact Or.inl (hP 0 q0 rfl)
    · rw [List.getElem?_set_ne (Ne.symm hki)] at hk
      rcases h k q hk with h | h
      · exact Or.inl h
      · rcases List.mem_cons.mp h with h | h
        · exact absurd h hki
        · exact Or.inr h
theorem va_sets_fst : ∀ (is : List Nat) (w w' : va_W), is.map (fun i => (w[i]?).map Prod.fst) = w'.map (fun q => some q.1) → (va_sets w is w').map Prod.fst = w.map Prod.fst
  | [], w, w', _ => by rw [va_sets_nil]
  | i :: is, w, [], _ => rfl
  | i :: is, w, q0 :: qs, h => by
    show (va_sets (w.set i q0) is qs).map Prod.fst = w.map Prod.fst
    simp only [List.map_cons, List.cons.injEq] at h
    obtain ⟨h1, h2⟩ := h
    have e : (w.set i q0).map Prod.fst = w.map Prod.fst := by
      rw [List.map_set]
      apply List.ext_getElem?
      intro k
      by_cases hki : i = k
      · subst hki
        by_cases hlt : i < (w.map Prod.fst).length
        · rw [List.getElem?_set_self hlt]
          rw [List.getElem?_map, h1]
        · rw [List.getElem?_eq_none (by simpa using hlt), List.getElem?_eq_none (by simpa using hlt)]
      · rw [List.getElem?_set_ne hki]
    rw [va_sets_fst is (w.set i q0) qs ?_, e]
    rw [← h2]
    apply List.map_congr_left
    intro k _
    rw [← List.getElem?_map, ← List.getElem?_map, e]
theorem va_D_fst {A : Nat → Prop} {w w' : va_W} (e : w'.map Prod.fst = w.map Prod.fst) (h : va_D A w) : va_D A w' := by
  have key : ∀ (k : Nat) (q : Nat × va_E), w'[k]? = some q → ∃ q0, w[k]? = some q0 ∧ q0.1 = q.1 := by
    intro k q hk
    have h1 : (w'.map Prod.fst)[k]? = some q.1 := by rw [List.getElem?_map, hk]; rfl
    rw [e, List.getElem?_map] at h1
    cases hw : w[k]? with
    | none => rw [hw] at h1; cases h1
    | some q0 => rw [hw] at h1; exact ⟨q0, rfl, Option.some.inj h1⟩
  refine ⟨fun i j x y hi hj hxy => ?_, fun k q hk => ?_⟩
  · obtain ⟨x0, h1, h2⟩ := key i x hi
    obtain ⟨y0, h3, h4⟩ := key j y hj
    exact h.1 i j x0 y0 h1 h3 (h2.trans (hxy.trans h4.symm))
  · obtain ⟨q0, h1, h2⟩ := key k q hk
    rw [← h2]
    exact h.2 k q0 h1
theorem va_inplace {A0 : Nat → Prop} {D : va_G} {cl : List vw_C} {w0 wc wc' w0' : va_W} {H H1 : Heap} (hP : va_P D cl w0 H) (hD : va_D A0 w0) (is : List Nat) (hi : is.map (fun i => w0[i]?) = wc.map some) (ha : wc'.map Prod.fst = wc.map Prod.fst) (hs : va_sets w0 is wc' = w0')
    (hk : ∀ q : Nat, q < H.size → ¬ va_A wc H.size q → H1[q]? = H[q]?) (hP1 : va_P D cl wc' H1) : va_P D cl w0' H1 ∧ va_D A0 w0' := by
  subst hs
  have hlen : is.length = wc'.length := by
    have h1 : wc'.length = wc.length := by simpa using congrArg List.length ha
    have h2 : is.length = wc.length := by simpa using congrArg List.length hi
    omega
  refine ⟨va_sets_P is w0 wc' hlen hP1 fun k q hq => ?_, va_D_fst (va_sets_fst is w0 wc' ?_) hD⟩
  · by_cases hm : k ∈ is
    · exact Or.inr hm
    · refine Or.inl ((hP k q hq).kept (hk q.1 (hP k q hq).lt fun h => ?_))
      rcases h with ⟨k2, e, h⟩ | h
      · have h1 : (is.map (fun i => w0[i]?))[k2]? = some (some (q.1, e)) := by rw [hi, List.getElem?_map, h]; rfl
        rw [List.getElem?_map] at h1
        cases hik : is[k2]? with
        | none => rw [hik] at h1; cases h1
        | some i =>
          rw [hik] at h1
          have h2 := Option.some.inj h1
          have h3 := hD.1 k i q (q.1, e) hq h2 rfl
          exact hm (h3 ▸ List.mem_of_getElem? hik)
      · have := (hP k q hq).lt
        omega
  · have h1 : is.map (fun i => (w0[i]?).map Prod.fst) = (is.map (fun i => w0[i]?)).map (Option.map Prod.fst) := by rw [List.map_map]; rfl
    rw [h1, hi, List.map_map]
    have h2 : wc'.map (fun q => some q.1) = (wc'.map Prod.fst).map some := by rw [List.map_map]; rfl
    rw [h2, ha, List.map_map]
    rfl
/-! contracts of one outcome -/
def Qk (D : va_G) (A : Nat → Prop) (ov : Option Value) (w2 : va_W) : Array Value → State → Outcome → State → Prop := fun _ st oc t => oc = .returned ov ∧ (va_P D vwCl w2 t.heap ∧ va_D A w2) ∧ va_F A st t
def Pk (D : va_G) (tys : List (ClassId × FieldType)) (w1 : va_W) (sz : Nat) (U : State) : Prop := U.heap.size = sz ∧ va_P D vwCl w1 U.heap ∧ va_K D vwCl tys U ∧ va_D (fun _ => True) w1
def Ck (l : Launch) (D : va_G) (tys : List (ClassId × FieldType)) (y : MethodName) (ws : List Cond) (rm : Room) (av : List Value) (w1 : va_W) (ov : Option Value) (w2 : va_W) : Prop :=
  ∀ sz : Nat, Met l y ws rm (va_Pc av (Pk D tys w1 sz)) (Qk D (va_A w1 sz) ov w2) rm.cells rm.slots (va_A w1 sz)
theorem Ck_of {l : Launch} {D : va_G} {tys : List (ClassId × FieldType)} {y : MethodName} {ws ws' : List Cond} {rm : Room} {av : List Value} {w1 : va_W} {ov : Option Value} {w2 : va_W} {cc : ByteArray} {maxL : Nat} {ret : Option FieldType}
    (hy : plainName y.cls = true) (hw : ws = Cond.code y cc maxL ret :: ws') (hlen : (lg_sl av).length ≤ maxL)
    (body : ∀ (p : Program) (e : Env) (s : State) (m : MethodId) (args : Array Value) (below : List Frame) (meth : Method) (c : Code) (A : Nat → Prop) (ls : Array Slot), p.tables.exec = Jvm.exec → c.code = cc → meth.sig.returnType = ret → c.maxLocals = maxL → (∀ w ∈ ws, w.before args s = true) → s.vm.findClass y.cls = some m.cls → meth.locks = false → va_K D vwCl tys s → (∀ q : Nat, s.heap.size ≤ q → A q) → va_P D vwCl w1 s.heap → va_D A w1 → va_S A s.heap s.heap [] → lv_has ls maxL (lv_args 0 av) →
      W p l e rm s m args below meth c s.heap [] 0 0 (MQ below (Qk D A ov w2) args s rm.cells rm.slots A) (F0 m 0 ls [])) : Ck l D tys y ws rm av w1 ov w2 := by
  intro sz
  refine Met.ofW (cc := cc) (maxL := maxL) (ret := ret) hy hw ?_
  intro p e s m args below meth c s₁ B hml hv
  obtain ⟨rfl, hsz, hP, hK, hD0⟩ := hv
  subst hsz
  rw [lg_entry_eq]
  exact body p e s m _ below meth c (va_A w1 s.heap.size) _ B.exec B.bytes B.returns hml (atoms_spec (ws := ws) B.pre) (findClass_of_methodNamed B.named) B.notSynchronized hK (fun q h => Or.inr h) hP hD0.self va_S.rf (lv_entry av hlen)
section OWN
variable {p : Program} {l : Launch} {e : Env} {R : Room} {s : State} {m : MethodId} {args : Array Value} {below : List Frame} {meth : Method} {c : Code} {H : Heap} {locs : List Loc} {cells slots : Nat} {Q : State → Prop}
variable {cc : ByteArray} {pc : Nat} {ls : Array Slot} {rest : List Value} {D : va_G} {A : Nat → Prop} {H0 : Heap} {w w2 : va_W}
theorem Ck_iret {v : Int32} (hexec : p.tables.exec = Jvm.exec) (hb : c.code = cc) (hr : meth.sig.returnType = some .int) (hP : va_P D vwCl w H) (hD : va_D A w) (hS : va_S A s.heap H locs) (hdg : decode cc pc = .ok (.ireturn, 1)) (hlocks : meth.locks = false) :
    W p l e R s m args below meth c H locs cells slots (MQ below (Qk D A (some (.int v)) w) args s cells slots A) (F0 m pc ls [.int v]) :=
  W.iret hexec hb hr (fun t ht _ => ⟨rfl, ⟨by rw [ht]; exact hP, hD⟩, hS.F ht⟩) hS.2.2 hdg hlocks
theorem Ck_zret {v : Int32} {ty : FieldType} (hexec : p.tables.exec = Jvm.exec) (hb : c.code = cc) (hr : meth.sig.returnType = some ty) (hn : narrow ty (.int v) = .int v) (hP : va_P D vwCl w H) (hD : va_D A w) (hS : va_S A s.heap H locs) (hdg : decode cc pc = .ok (.ireturn, 1)) (hlocks : meth.locks = false) :
    W p l e R s m args below meth c H locs cells slots (MQ below (Qk D A (some (.int v)) w) args s cells slots A) (F0 m pc ls [.int v]) :=
  W.zret hexec hb hr hn (fun t ht _ => ⟨rfl, ⟨by rw [ht]; exact hP, hD⟩, hS.F ht⟩) hS.2.2 hdg hlocks
theorem Ck_vret (hexec : p.tables.exec = Jvm.exec) (hb : c.code = cc) (hr : meth.sig.returnType = none) (hP : va_P D vwCl w H) (hD : va_D A w) (hS : va_S A s.heap H locs) (hdg : decode cc pc = .ok (.return_, 1)) (hlocks : meth.locks = false) :
    W p l e R s m args below meth c H locs cells slots (MQ below (Qk D A none w) args s cells slots A) (F0 m pc ls []) :=
  W.vret hexec hb hr (fun t ht _ => ⟨rfl, ⟨by rw [ht]; exact hP, hD⟩, hS.F ht⟩) hS.2.2 hdg hlocks
theorem Pk_blind {tys : List (ClassId × FieldType)} {av : List Value} {w1 : va_W} {sz : Nat} : FrameBlind (va_Pc av (Pk D tys w1 sz)) := by
  intro a U g mk h
  obtain ⟨h1, h2, h3, h4, h5⟩ := h
  exact ⟨h1, h2, h3, va_K.moved (u := U) (U := U.calling g mk a) (Vm.Alike.refl U.vm) h4, h5⟩
theorem Pk_at {tys : List (ClassId × FieldType)} {av : List Value} {w0 wc : va_W} {A0 : Nat → Prop} (hK : va_K D vwCl tys s) (hP : va_P D vwCl w0 H) (hD : va_D A0 w0) (is : List Nat) (hi : is.map (fun i => w0[i]?) = wc.map some) (hn : va_nd is = true) : ∀ U : State, U.heap = H → s.WarmedH U.vm → va_Pc av (Pk D tys wc H.size) av.toArray U := by
  intro U hU hW
  refine ⟨rfl, by rw [hU], ?_, va_K.moved hW.alike hK, (hD.sub is hn hi).weaken (fun _ _ _ _ => trivial)⟩
  rw [hU]
  intro k q hk
  have h1 : (is.map (fun i => w0[i]?))[k]? = some (some q) := by rw [hi, List.getElem?_map, hk]; rfl
  rw [List.getElem?_map] at h1
  cases hx : is[k]? with
  | none => rw [hx] at h1; cases h1
  | some i => rw [hx] at h1; exact hP i q (Option.some.inj h1)
/-- behind a call, in place -/
theorem Ck_go {A0 : Nat → Prop} {w0 wc wc' w0' : va_W} {mc ms : Nat} {st0 : List Value} {ov : Option Value} {a : Array Value} (hr : va_Run p l e R s m args below meth c H locs cells slots mc ms (F0 m pc ls st0) rest (Qk D (va_A wc H.size) ov wc' a) (va_A wc H.size))
    (hP : va_P D vwCl w0 H) (hD : va_D A0 w0) (hS : va_S A0 H0 H locs) (hA : ∀ q : Nat, H0.size ≤ q → A0 q) (is : List Nat) (hi : is.map (fun i => w0[i]?) = wc.map some) (ha : wc'.map Prod.fst = wc.map Prod.fst) (hs : va_sets w0 is wc' = w0')
    (kk : ∀ (H1 : Heap) (locs1 : List Loc), va_P D vwCl w0' H1 → va_D A0 w0' → va_S A0 H0 H1 locs1 → W p l e R s m args below meth c H1 locs1 (cells + mc) (slots + ms) Q (F0 m (pc + 3) ls (ov.toList ++ rest))) : W p l e R s m args below meth c H locs cells slots Q (F0 m pc ls st0) := by
  intro T hT X
  obtain ⟨v, st₀, t, T', L, h0, X', hL, e1, e2, ⟨hv, ⟨hP1, -⟩, hz, hk⟩, st⟩ := hr T hT X
  cases hv
  rw [h0] at hz hk
  have hF := va_free hD hS hA is hi
  obtain ⟨hP', hD'⟩ := va_inplace (H1 := T'.heap) hP hD is hi ha hs (fun q h1 h2 => by rw [e1]; exact hk q h1 h2) (by rw [e1]; exact hP1)
  obtain ⟨t2, a1, b1⟩ := kk T'.heap (locs ++ L) hP' hD'
    ⟨Nat.le_trans hS.1 (by rw [e1]; exact hz), fun q h1 h2 => by rw [e1, hk q (Nat.lt_of_lt_of_le h1 hS.1) (fun z => h2 (hF q z))]; exact hS.2.1 q h1 h2, fun q hq => by
      rcases List.mem_append.mp hq with h | h
      · exact hS.2.2 q h
      · exact hF _ (hL q h)⟩ T' rfl X'
  exact ⟨t2, st t2 a1, b1⟩
theorem Ck_V {A0 : Nat → Prop} {w0 wc wc' w0' : va_W} {nL maxL index n q0 ci N : Nat} {own C : String} {T : u_T} {fs : List Value} {Ts ws : List Cond} {bytes : ByteArray} {ret : Option FieldType} {y : MethodName} {rm : Room} {b : Nat} {As st0 : List Value} {ov : Option Value} {tys : List (ClassId × FieldType)}
    (S : CallFix p m c cc nL s args Ts own) (hC : Ck l D tys y ws rm (.ref b :: As) wc ov wc') (cw : CallW R s args own C index y bytes maxL ret ws rm rm.cells rm.slots n)
    (hK : va_K D vwCl tys s) (hP : va_P D vwCl w0 H) (hD : va_D A0 w0) (hS : va_S A0 H0 H locs) (hA : ∀ q : Nat, H0.size ≤ q → A0 q) (he : w0[q0]? = some (b, .inr (ci, fs))) (hc : vwCl[ci]? = some (C, T, N))
    (is : List Nat) (hi : is.map (fun i => w0[i]?) = wc.map some) (hn : va_nd is = true) (ha : wc'.map Prod.fst = wc.map Prod.fst) (hs : va_sets w0 is wc' = w0')
    (hAs : As.length = n) (hsize : ls.size = nL) (hstack : st0 = As.reverse ++ .ref b :: rest) (hW : (rest.map fun v => v.category).sum ≤ 8) (hdg : decode cc pc = .ok (.invokevirtual index, 3)) (hf : cells + rm.cells ≤ R.cells ∧ slots + rm.slots ≤ R.slots)
    (kk : ∀ (H1 : Heap) (locs1 : List Loc), va_P D vwCl w0' H1 → va_D A0 w0' → va_S A0 H0 H1 locs1 → W p l e R s m args below meth c H1 locs1 (cells + rm.cells) (slots + rm.slots) Q (F0 m (pc + 3) ls (ov.toList ++ rest))) : W p l e R s m args below meth c H locs cells slots Q (F0 m pc ls st0) :=
  Ck_go (va_runV (As := As) (rest := rest) S (hC H.size) cw ⟨Pk_blind, va_recv hK hP hc he, Pk_at hK hP hD is hi hn⟩ rfl hAs hsize hstack (by show 2 * 0 + _ ≤ 8; omega) hdg hf) hP hD hS hA is hi ha hs kk
theorem Ck_S {A0 : Nat → Prop} {w0 wc wc' w0' : va_W} {nL maxL index n : Nat} {own : String} {Ts ws : List Cond} {bytes : ByteArray} {ret : Option FieldType} {y : MethodName} {rm : Room} {As st0 : List Value} {ov : Option Value} {tys : List (ClassId × FieldType)}
    (S : CallFix p m c cc nL s args Ts own) (hC : Ck l D tys y ws rm As wc ov wc') (cw : CallB R s args own index y bytes maxL ret ws rm rm.cells rm.slots n ∧ (Cond.static y).before args s = true)
    (hK : va_K D vwCl tys s) (hP : va_P D vwCl w0 H) (hD : va_D A0 w0) (hS : va_S A0 H0 H locs) (hA : ∀ q : Nat, H0.size ≤ q → A0 q)
    (is : List Nat) (hi : is.map (fun i => w0[i]?) = wc.map some) (hn : va_nd is = true) (ha : wc'.map Prod.fst = wc.map Prod.fst) (hs : va_sets w0 is wc' = w0')
    (hAs : As.length = n) (hsize : ls.size = nL) (hstack : st0 = As.reverse ++ rest) (hW : (rest.map fun v => v.category).sum ≤ 8) (hdg : decode cc pc = .ok (.invokestatic index, 3)) (hf : cells + rm.cells ≤ R.cells ∧ slots + rm.slots ≤ R.slots)
    (kk : ∀ (H1 : Heap) (locs1 : List Loc), va_P D vwCl w0' H1 → va_D A0 w0' → va_S A0 H0 H1 locs1 → W p l e R s m args below meth c H1 locs1 (cells + rm.cells) (slots + rm.slots) Q (F0 m (pc + 3) ls (ov.toList ++ rest))) : W p l e R s m args below meth c H locs cells slots Q (F0 m pc ls st0) :=
  Ck_go (va_runS (As := As) (rest := rest) S (hC H.size) cw ⟨Pk_blind, Pk_at hK hP hD is hi hn⟩ rfl hAs hsize hstack (by show 2 * 0 + _ ≤ 8; omega) hdg hf) hP hD hS hA is hi ha hs kk
theorem Ck_VN {A0 : Nat → Prop} {w0 wc wc' w0' : va_W} {nL maxL index n q0 ci N : Nat} {own C host : String} {T : u_T} {fs : List Value} {Ts ws : List Cond} {bytes : ByteArray} {ret : Option FieldType} {y : MethodName} {rm : Room} {b : Nat} {As st0 : List Value} {ov : Option Value} {tys : List (ClassId × FieldType)}
    (S : CallFix p m c cc nL s args Ts own) (hC : Ck l D tys y ws rm (.ref b :: As) wc ov wc') (cw : va_CN R s args own index y host bytes maxL ret ws rm rm.cells rm.slots n ∧ (Cond.instanceMethod y).before args s = true ∧ (Cond.selects C y y).before args s = true)
    (hK : va_K D vwCl tys s) (hP : va_P D vwCl w0 H) (hD : va_D A0 w0) (hS : va_S A0 H0 H locs) (hA : ∀ q : Nat, H0.size ≤ q → A0 q) (he : w0[q0]? = some (b, .inr (ci, fs))) (hc : vwCl[ci]? = some (C, T, N))
    (is : List Nat) (hi : is.map (fun i => w0[i]?) = wc.map some) (hn : va_nd is = true) (ha : wc'.map Prod.fst = wc.map Prod.fst) (hs : va_sets w0 is wc' = w0')
    (hAs : As.length = n) (hsize : ls.size = nL) (hstack : st0 = As.reverse ++ .ref b :: rest) (hW : (rest.map fun v => v.category).sum ≤ 8) (hdg : decode cc pc = .ok (.invokevirtual index, 3)) (hf : cells + rm.cells ≤ R.cells ∧ slots + rm.slots ≤ R.slots)
    (kk : ∀ (H1 : Heap) (locs1 : List Loc), va_P D vwCl w0' H1 → va_D A0 w0' → va_S A0 H0 H1 locs1 → W p l e R s m args below meth c H1 locs1 (cells + rm.cells) (slots + rm.slots) Q (F0 m (pc + 3) ls (ov.toList ++ rest))) : W p l e R s m args below meth c H locs cells slots Q (F0 m pc ls st0) :=
  Ck_go (va_runVN (As := As) (rest := rest) S (hC H.size) cw ⟨Pk_blind, va_recv hK hP hc he, Pk_at hK hP hD is hi hn⟩ rfl hAs hsize hstack (by show 2 * 0 + _ ≤ 8; omega) hdg hf) hP hD hS hA is hi ha hs kk
end OWN
theorem no_l {α : Type} {o : α} (h : (none : Option α) = some o) : False := by cases h
theorem set_appL1 {A B : va_W} {q : Nat} {y : Nat × va_E} (h : q < A.length) : (A ++ B).set q y = A.set q y ++ B := List.set_append_left _ _ h
theorem set_appR1 {A B : va_W} {q : Nat} {y : Nat × va_E} (h : A.length ≤ q) : (A ++ B).set q y = A ++ B.set (q - A.length) y := List.set_append_right _ _ h
end
section
/-! values: a state of the train; the reference's own numbers and rows; worlds of them -/
abbrev tyK (k : Nat → ClassId) : List (ClassId × FieldType) := [(k 0, .int), (k 1, .char), (k 2, .boolean), (k 3, .object "EffectTrain$State"), (k 4, .long), (k 5, .double)]
def mn (x y : Int32) : Int32 := if y < x then y else x
def mx (x y : Int32) : Int32 := if x < y then y else x
abbrev StV : Type := Int32 × Int32 × (Nat → Int32) × (Nat → Int32) × (Nat → Int32) × (Nat → Int32) × (Nat → Int32) × (Nat → Int32) × (Nat → Int32) × (Nat → Int32) × (Nat → Int32) × (Nat → Int32)
def s_n (S : StV) : Int32 := S.1
def s_clk (S : StV) : Int32 := S.2.1
def s_set (S : StV) : Nat → Int32 := S.2.2.1
def s_cou (S : StV) : Nat → Int32 := S.2.2.2.1
def s_are (S : StV) : Nat → Int32 := S.2.2.2.2.1
def s_wat (S : StV) : Nat → Int32 := S.2.2.2.2.2.1
def s_sol (S : StV) : Nat → Int32 := S.2.2.2.2.2.2.1
def s_val (S : StV) : Nat → Int32 := S.2.2.2.2.2.2.2.1
def s_ble (S : StV) : Nat → Int32 := S.2.2.2.2.2.2.2.2.1
def s_sca (S : StV) : Nat → Int32 := S.2.2.2.2.2.2.2.2.2.1
def s_scl (S : StV) : Nat → Int32 := S.2.2.2.2.2.2.2.2.2.2.1
def s_lef (S : StV) : Nat → Int32 := S.2.2.2.2.2.2.2.2.2.2.2
def su_n (S : StV) (x : Int32) : StV := (x, s_clk S, s_set S, s_cou S, s_are S, s_wat S, s_sol S, s_val S, s_ble S, s_sca S, s_scl S, s_lef S)
def su_clk (S : StV) (x : Int32) : StV := (s_n S, x, s_set S, s_cou S, s_are S, s_wat S, s_sol S, s_val S, s_ble S, s_sca S, s_scl S, s_lef S)
def su_set (S : StV) (x : Nat → Int32) : StV := (s_n S, s_clk S, x, s_cou S, s_are S, s_wat S, s_sol S, s_val S, s_ble S, s_sca S, s_scl S, s_lef S)
def su_cou (S : StV) (x : Nat → Int32) : StV := (s_n S, s_clk S, s_set S, x, s_are S, s_wat S, s_sol S, s_val S, s_ble S, s_sca S, s_scl S, s_lef S)
def su_are (S : StV) (x : Nat → Int32) : StV := (s_n S, s_clk S, s_set S, s_cou S, x, s_wat S, s_sol S, s_val S, s_ble S, s_sca S, s_scl S, s_lef S)
def su_wat (S : StV) (x : Nat → Int32) : StV := (s_n S, s_clk S, s_set S, s_cou S, s_are S, x, s_sol S, s_val S, s_ble S, s_sca S, s_scl S, s_lef S)
def su_sol (S : StV) (x : Nat → Int32) : StV := (s_n S, s_clk S, s_set S, s_cou S, s_are S, s_wat S, x, s_val S, s_ble S, s_sca S, s_scl S, s_lef S)
def su_val (S : StV) (x : Nat → Int32) : StV := (s_n S, s_clk S, s_set S, s_cou S, s_are S, s_wat S, s_sol S, x, s_ble S, s_sca S, s_scl S, s_lef S)
def su_ble (S : StV) (x : Nat → Int32) : StV := (s_n S, s_clk S, s_set S, s_cou S, s_are S, s_wat S, s_sol S, s_val S, x, s_sca S, s_scl S, s_lef S)
def su_sca (S : StV) (x : Nat → Int32) : StV := (s_n S, s_clk S, s_set S, s_cou S, s_are S, s_wat S, s_sol S, s_val S, s_ble S, x, s_scl S, s_lef S)
def su_scl (S : StV) (x : Nat → Int32) : StV := (s_n S, s_clk S, s_set S, s_cou S, s_are S, s_wat S, s_sol S, s_val S, s_ble S, s_sca S, x, s_lef S)
def su_lef (S : StV) (x : Nat → Int32) : StV := (s_n S, s_clk S, s_set S, s_cou S, s_are S, s_wat S, s_sol S, s_val S, s_ble S, s_sca S, s_scl S, x)
abbrev stW (k : Nat → ClassId) (a : Nat → Nat) (S : StV) : va_W := [(a 0, .inr (0, [.int (s_n S), .ref (a 1), .int (s_clk S), .ref (a 2), .ref (a 3), .ref (a 4), .ref (a 5), .ref (a 6), .ref (a 7), .ref (a 8), .ref (a 9), .ref (a 10)])), (a 1, .inl (k 0, 5, .inl (s_set S))), (a 2, .inl (k 0, 10, .inl (s_cou S))), (a 3, .inl (k 0, 6, .inl (s_are S))), (a 4, .inl (k 0, 6, .inl (s_wat S))), (a 5, .inl (k 0, 6, .inl (s_sol S))), (a 6, .inl (k 0, 6, .inl (s_val S))), (a 7, .inl (k 0, 6, .inl (s_ble S))), (a 8, .inl (k 0, 6, .inl (s_sca S))), (a 9, .inl (k 0, 6, .inl (s_scl S))), (a 10, .inl (k 0, 6, .inl (s_lef S)))]
abbrev MdV : Type := Int32 × Int32 × Int32 × Int32 × Int32 × Int32 × (Nat → Int32) × (Nat → Int32) × (Nat → Int32) × (Nat → Int32) × (Nat → Int32) × (Nat → Int32) × (Nat → Int32) × (Nat → Int32) × (Nat → Int32)
def m_ref (S : MdV) : Int32 := S.1
def m_scs (S : MdV) : Int32 := S.2.1
def m_spo (S : MdV) : Int32 := S.2.2.1
def m_rdn (S : MdV) : Int32 := S.2.2.2.1
def m_n (S : MdV) : Int32 := S.2.2.2.2.1
def m_act (S : MdV) : Int32 := S.2.2.2.2.2.1
def m_scr (S : MdV) : Nat → Int32 := S.2.2.2.2.2.2.1
def m_rrw (S : MdV) : Nat → Int32 := S.2.2.2.2.2.2.2.1
def m_now (S : MdV) : Nat → Int32 := S.2.2.2.2.2.2.2.2.1
def m_tri (S : MdV) : Nat → Int32 := S.2.2.2.2.2.2.2.2.2.1
def m_dia (S : MdV) : Nat → Int32 := S.2.2.2.2.2.2.2.2.2.2.1
def m_kep (S : MdV) : Nat → Int32 := S.2.2.2.2.2.2.2.2.2.2.2.1
def m_isk (S : MdV) : Nat → Int32 := S.2.2.2.2.2.2.2.2.2.2.2.2.1
def m_flo (S : MdV) : Nat → Int32 := S.2.2.2.2.2.2.2.2.2.2.2.2.2.1
def m_sal (S : MdV) : Nat → Int32 := S.2.2.2.2.2.2.2.2.2.2.2.2.2.2
def mu_ref (S : MdV) (x : Int32) : MdV := (x, m_scs S, m_spo S, m_rdn S, m_n S, m_act S, m_scr S, m_rrw S, m_now S, m_tri S, m_dia S, m_kep S, m_isk S, m_flo S, m_sal S)
def mu_scs (S : MdV) (x : Int32) : MdV := (m_ref S, x, m_spo S, m_rdn S, m_n S, m_act S, m_scr S, m_rrw S, m_now S, m_tri S, m_dia S, m_kep S, m_isk S, m_flo S, m_sal S)
def mu_spo (S : MdV) (x : Int32) : MdV := (m_ref S, m_scs S, x, m_rdn S, m_n S, m_act S, m_scr S, m_rrw S, m_now S, m_tri S, m_dia S, m_kep S, m_isk S, m_flo S, m_sal S)
def mu_rdn (S : MdV) (x : Int32) : MdV := (m_ref S, m_scs S, m_spo S, x, m_n S, m_act S, m_scr S, m_rrw S, m_now S, m_tri S, m_dia S, m_kep S, m_isk S, m_flo S, m_sal S)
def mu_n (S : MdV) (x : Int32) : MdV := (m_ref S, m_scs S, m_spo S, m_rdn S, x, m_act S, m_scr S, m_rrw S, m_now S, m_tri S, m_dia S, m_kep S, m_isk S, m_flo S, m_sal S)
def mu_act (S : MdV) (x : Int32) : MdV := (m_ref S, m_scs S, m_spo S, m_rdn S, m_n S, x, m_scr S, m_rrw S, m_now S, m_tri S, m_dia S, m_kep S, m_isk S, m_flo S, m_sal S)
def mu_scr (S : MdV) (x : Nat → Int32) : MdV := (m_ref S, m_scs S, m_spo S, m_rdn S, m_n S, m_act S, x, m_rrw S, m_now S, m_tri S, m_dia S, m_kep S, m_isk S, m_flo S, m_sal S)
def mu_rrw (S : MdV) (x : Nat → Int32) : MdV := (m_ref S, m_scs S, m_spo S, m_rdn S, m_n S, m_act S, m_scr S, x, m_now S, m_tri S, m_dia S, m_kep S, m_isk S, m_flo S, m_sal S)
def mu_now (S : MdV) (x : Nat → Int32) : MdV := (m_ref S, m_scs S, m_spo S, m_rdn S, m_n S, m_act S, m_scr S, m_rrw S, x, m_tri S, m_dia S, m_kep S, m_isk S, m_flo S, m_sal S)
def mu_tri (S : MdV) (x : Nat → Int32) : MdV := (m_ref S, m_scs S, m_spo S, m_rdn S, m_n S, m_act S, m_scr S, m_rrw S, m_now S, x, m_dia S, m_kep S, m_isk S, m_flo S, m_sal S)
def mu_dia (S : MdV) (x : Nat → Int32) : MdV := (m_ref S, m_scs S, m_spo S, m_rdn S, m_n S, m_act S, m_scr S, m_rrw S, m_now S, m_tri S, x, m_kep S, m_isk S, m_flo S, m_sal S)
def mu_kep (S : MdV) (x : Nat → Int32) : MdV := (m_ref S, m_scs S, m_spo S, m_rdn S, m_n S, m_act S, m_scr S, m_rrw S, m_now S, m_tri S, m_dia S, x, m_isk S, m_flo S, m_sal S)
def mu_isk (S : MdV) (x : Nat → Int32) : MdV := (m_ref S, m_scs S, m_spo S, m_rdn S, m_n S, m_act S, m_scr S, m_rrw S, m_now S, m_tri S, m_dia S, m_kep S, x, m_flo S, m_sal S)
def mu_flo (S : MdV) (x : Nat → Int32) : MdV := (m_ref S, m_scs S, m_spo S, m_rdn S, m_n S, m_act S, m_scr S, m_rrw S, m_now S, m_tri S, m_dia S, m_kep S, m_isk S, x, m_sal S)
def mu_sal (S : MdV) (x : Nat → Int32) : MdV := (m_ref S, m_scs S, m_spo S, m_rdn S, m_n S, m_act S, m_scr S, m_rrw S, m_now S, m_tri S, m_dia S, m_kep S, m_isk S, m_flo S, x)
abbrev mdO (b : Nat → Nat) (M : MdV) : Nat × va_E := (b 0, .inr (2, [.int (m_ref M), .ref (b 1), .int (m_scs M), .int (m_spo M), .int (m_rdn M), .ref (b 2), .int (m_n M), .ref (b 3), .ref (b 4), .ref (b 5), .int (m_act M), .ref (b 6), .ref (b 7), .ref (b 8), .ref (b 9)]))
abbrev mdW (k : Nat → ClassId) (b : Nat → Nat) (M : MdV) : va_W := [mdO b M, (b 1, .inl (k 0, 120, .inl (m_scr M))), (b 2, .inl (k 0, 64, .inl (m_rrw M))), (b 3, .inl (k 0, 64, .inl (m_now M))), (b 4, .inl (k 0, 64, .inl (m_tri M))), (b 5, .inl (k 0, 896, .inl (m_dia M))), (b 6, .inl (k 0, 128, .inl (m_kep M))), (b 7, .inl (k 2, 2, .inl (m_isk M))), (b 8, .inl (k 0, 6, .inl (m_flo M))), (b 9, .inl (k 0, 6, .inl (m_sal M)))]
theorem st_set_n (k : Nat → ClassId) (a : Nat → Nat) (S : StV) (x : Int32) : (stW k a S).set 0 (a 0, .inr (0, ([.int (s_n S), .ref (a 1), .int (s_clk S), .ref (a 2), .ref (a 3), .ref (a 4), .ref (a 5), .ref (a 6), .ref (a 7), .ref (a 8), .ref (a 9), .ref (a 10)] : List Value).set 0 (.int x))) = stW k a (su_n S x) := rfl
theorem st_set_clk (k : Nat → ClassId) (a : Nat → Nat) (S : StV) (x : Int32) : (stW k a S).set 0 (a 0, .inr (0, ([.int (s_n S), .ref (a 1), .int (s_clk S), .ref (a 2), .ref (a 3), .ref (a 4), .ref (a 5), .ref (a 6), .ref (a 7), .ref (a 8), .ref (a 9), .ref (a 10)] : List Value).set 2 (.int x))) = stW k a (su_clk S x) := rfl
theorem st_set_set (k : Nat → ClassId) (a : Nat → Nat) (S : StV) (x : Nat → Int32) : (stW k a S).set 1 (a 1, .inl (k 0, 5, .inl x)) = stW k a (su_set S x) := rfl
theorem st_set_cou (k : Nat → ClassId) (a : Nat → Nat) (S : StV) (x : Nat → Int32) : (stW k a S).set 2 (a 2, .inl (k 0, 10, .inl x)) = stW k a (su_cou S x) := rfl
theorem st_set_are (k : Nat → ClassId) (a : Nat → Nat) (S : StV) (x : Nat → Int32) : (stW k a S).set 3 (a 3, .inl (k 0, 6, .inl x)) = stW k a (su_are S x) := rfl
theorem st_set_wat (k : Nat → ClassId) (a : Nat → Nat) (S : StV) (x : Nat → Int32) : (stW k a S).set 4 (a 4, .inl (k 0, 6, .inl x)) = stW k a (su_wat S x) := rfl
theorem st_set_sol (k : Nat → ClassId) (a : Nat → Nat) (S : StV) (x : Nat → Int32) : (stW k a S).set 5 (a 5, .inl (k 0, 6, .inl x)) = stW k a (su_sol S x) := rfl
theorem st_set_val (k : Nat → ClassId) (a : Nat → Nat) (S : StV) (x : Nat → Int32) : (stW k a S).set 6 (a 6, .inl (k 0, 6, .inl x)) = stW k a (su_val S x) := rfl
theorem st_set_ble (k : Nat → ClassId) (a : Nat → Nat) (S : StV) (x : Nat → Int32) : (stW k a S).set 7 (a 7, .inl (k 0, 6, .inl x)) = stW k a (su_ble S x) := rfl
theorem st_set_sca (k : Nat → ClassId) (a : Nat → Nat) (S : StV) (x : Nat → Int32) : (stW k a S).set 8 (a 8, .inl (k 0, 6, .inl x)) = stW k a (su_sca S x) := rfl
theorem st_set_scl (k : Nat → ClassId) (a : Nat → Nat) (S : StV) (x : Nat → Int32) : (stW k a S).set 9 (a 9, .inl (k 0, 6, .inl x)) = stW k a (su_scl S x) := rfl
theorem st_set_lef (k : Nat → ClassId) (a : Nat → Nat) (S : StV) (x : Nat → Int32) : (stW k a S).set 10 (a 10, .inl (k 0, 6, .inl x)) = stW k a (su_lef S x) := rfl
theorem md_set_ref (k : Nat → ClassId) (b : Nat → Nat) (S : MdV) (x : Int32) : (mdW k b S).set 0 (b 0, .inr (2, ([.int (m_ref S), .ref (b 1), .int (m_scs S), .int (m_spo S), .int (m_rdn S), .ref (b 2), .int (m_n S), .ref (b 3), .ref (b 4), .ref (b 5), .int (m_act S), .ref (b 6), .ref (b 7), .ref (b 8), .ref (b 9)] : List Value).set 0 (.int x))) = mdW k b (mu_ref S x) := rfl
theorem md_set_scs (k : Nat → ClassId) (b : Nat → Nat) (S : MdV) (x : Int32) : (mdW k b S).set 0 (b 0, .inr (2, ([.int (m_ref S), .ref (b 1), .int (m_scs S), .int (m_spo S), .int (m_rdn S), .ref (b 2), .int (m_n S), .ref (b 3), .ref (b 4), .ref (b 5), .int (m_act S), .ref (b 6), .ref (b 7), .ref (b 8), .ref (b 9)] : List Value).set 2 (.int x))) = mdW k b (mu_scs S x) := rfl
theorem md_set_spo (k : Nat → ClassId) (b : Nat → Nat) (S : MdV) (x : Int32) : (mdW k b S).set 0 (b 0, .inr (2, ([.int (m_ref S), .ref (b 1), .int (m_scs S), .int (m_spo S), .int (m_rdn S), .ref (b 2), .int (m_n S), .ref (b 3), .ref (b 4), .ref (b 5), .int (m_act S), .ref (b 6), .ref (b 7), .ref (b 8), .ref (b 9)] : List Value).set 3 (.int x))) = mdW k b (mu_spo S x) := rfl
theorem md_set_rdn (k : Nat → ClassId) (b : Nat → Nat) (S : MdV) (x : Int32) : (mdW k b S).set 0 (b 0, .inr (2, ([.int (m_ref S), .ref (b 1), .int (m_scs S), .int (m_spo S), .int (m_rdn S), .ref (b 2), .int (m_n S), .ref (b 3), .ref (b 4), .ref (b 5), .int (m_act S), .ref (b 6), .ref (b 7), .ref (b 8), .ref (b 9)] : List Value).set 4 (.int x))) = mdW k b (mu_rdn S x) := rfl
theorem md_set_n (k : Nat → ClassId) (b : Nat → Nat) (S : MdV) (x : Int32) : (mdW k b S).set 0 (b 0, .inr (2, ([.int (m_ref S), .ref (b 1), .int (m_scs S), .int (m_spo S), .int (m_rdn S), .ref (b 2), .int (m_n S), .ref (b 3), .ref (b 4), .ref (b 5), .int (m_act S), .ref (b 6), .ref (b 7), .ref (b 8), .ref (b 9)] : List Value).set 6 (.int x))) = mdW k b (mu_n S x) := rfl
theorem md_set_act (k : Nat → ClassId) (b : Nat → Nat) (S : MdV) (x : Int32) : (mdW k b S).set 0 (b 0, .inr (2, ([.int (m_ref S), .ref (b 1), .int (m_scs S), .int (m_spo S), .int (m_rdn S), .ref (b 2), .int (m_n S), .ref (b 3), .ref (b 4), .ref (b 5), .int (m_act S), .ref (b 6), .ref (b 7), .ref (b 8), .ref (b 9)] : List Value).set 10 (.int x))) = mdW k b (mu_act S x) := rfl
theorem md_set_scr (k : Nat → ClassId) (b : Nat → Nat) (S : MdV) (x : Nat → Int32) : (mdW k b S).set 1 (b 1, .inl (k 0, 120, .inl x)) = mdW k b (mu_scr S x) := rfl
theorem md_set_rrw (k : Nat → ClassId) (b : Nat → Nat) (S : MdV) (x : Nat → Int32) : (mdW k b S).set 2 (b 2, .inl (k 0, 64, .inl x)) = mdW k b (mu_rrw S x) := rfl
theorem md_set_now (k : Nat → ClassId) (b : Nat → Nat) (S : MdV) (x : Nat → Int32) : (mdW k b S).set 3 (b 3, .inl (k 0, 64, .inl x)) = mdW k b (mu_now S x) := rfl
theorem md_set_tri (k : Nat → ClassId) (b : Nat → Nat) (S : MdV) (x : Nat → Int32) : (mdW k b S).set 4 (b 4, .inl (k 0, 64, .inl x)) = mdW k b (mu_tri S x) := rfl
theorem md_set_dia (k : Nat → ClassId) (b : Nat → Nat) (S : MdV) (x : Nat → Int32) : (mdW k b S).set 5 (b 5, .inl (k 0, 896, .inl x)) = mdW k b (mu_dia S x) := rfl
theorem md_set_kep (k : Nat → ClassId) (b : Nat → Nat) (S : MdV) (x : Nat → Int32) : (mdW k b S).set 6 (b 6, .inl (k 0, 128, .inl x)) = mdW k b (mu_kep S x) := rfl
theorem md_set_isk (k : Nat → ClassId) (b : Nat → Nat) (S : MdV) (x : Nat → Int32) : (mdW k b S).set 7 (b 7, .inl (k 2, 2, .inl x)) = mdW k b (mu_isk S x) := rfl
theorem md_set_flo (k : Nat → ClassId) (b : Nat → Nat) (S : MdV) (x : Nat → Int32) : (mdW k b S).set 8 (b 8, .inl (k 0, 6, .inl x)) = mdW k b (mu_flo S x) := rfl
theorem md_set_sal (k : Nat → ClassId) (b : Nat → Nat) (S : MdV) (x : Nat → Int32) : (mdW k b S).set 9 (b 9, .inl (k 0, 6, .inl x)) = mdW k b (mu_sal S x) := rfl
theorem mo_set_ref (b : Nat → Nat) (S : MdV) (x : Int32) : ([mdO b S]).set 0 (b 0, .inr (2, ([.int (m_ref S), .ref (b 1), .int (m_scs S), .int (m_spo S), .int (m_rdn S), .ref (b 2), .int (m_n S), .ref (b 3), .ref (b 4), .ref (b 5), .int (m_act S), .ref (b 6), .ref (b 7), .ref (b 8), .ref (b 9)] : List Value).set 0 (.int x))) = [mdO b (mu_ref S x)] := rfl
theorem mo_set_scs (b : Nat → Nat) (S : MdV) (x : Int32) : ([mdO b S]).set 0 (b 0, .inr (2, ([.int (m_ref S), .ref (b 1), .int (m_scs S), .int (m_spo S), .int (m_rdn S), .ref (b 2), .int (m_n S), .ref (b 3), .ref (b 4), .ref (b 5), .int (m_act S), .ref (b 6), .ref (b 7), .ref (b 8), .ref (b 9)] : List Value).set 2 (.int x))) = [mdO b (mu_scs S x)] := rfl
theorem mo_set_spo (b : Nat → Nat) (S : MdV) (x : Int32) : ([mdO b S]).set 0 (b 0, .inr (2, ([.int (m_ref S), .ref (b 1), .int (m_scs S), .int (m_spo S), .int (m_rdn S), .ref (b 2), .int (m_n S), .ref (b 3), .ref (b 4), .ref (b 5), .int (m_act S), .ref (b 6), .ref (b 7), .ref (b 8), .ref (b 9)] : List Value).set 3 (.int x))) = [mdO b (mu_spo S x)] := rfl
theorem mo_set_rdn (b : Nat → Nat) (S : MdV) (x : Int32) : ([mdO b S]).set 0 (b 0, .inr (2, ([.int (m_ref S), .ref (b 1), .int (m_scs S), .int (m_spo S), .int (m_rdn S), .ref (b 2), .int (m_n S), .ref (b 3), .ref (b 4), .ref (b 5), .int (m_act S), .ref (b 6), .ref (b 7), .ref (b 8), .ref (b 9)] : List Value).set 4 (.int x))) = [mdO b (mu_rdn S x)] := rfl
theorem mo_set_n (b : Nat → Nat) (S : MdV) (x : Int32) : ([mdO b S]).set 0 (b 0, .inr (2, ([.int (m_ref S), .ref (b 1), .int (m_scs S), .int (m_spo S), .int (m_rdn S), .ref (b 2), .int (m_n S), .ref (b 3), .ref (b 4), .ref (b 5), .int (m_act S), .ref (b 6), .ref (b 7), .ref (b 8), .ref (b 9)] : List Value).set 6 (.int x))) = [mdO b (mu_n S x)] := rfl
theorem mo_set_act (b : Nat → Nat) (S : MdV) (x : Int32) : ([mdO b S]).set 0 (b 0, .inr (2, ([.int (m_ref S), .ref (b 1), .int (m_scs S), .int (m_spo S), .int (m_rdn S), .ref (b 2), .int (m_n S), .ref (b 3), .ref (b 4), .ref (b 5), .int (m_act S), .ref (b 6), .ref (b 7), .ref (b 8), .ref (b 9)] : List Value).set 10 (.int x))) = [mdO b (mu_act S x)] := rfl
theorem md_set_0 (k : Nat → ClassId) (b : Nat → Nat) (S : MdV) : (mdW k b S).set 0 (mdO b S) = mdW k b S := rfl
theorem st_set_0 (k : Nat → ClassId) (a : Nat → Nat) (S : StV) : (stW k a S).set 0 (a 0, .inr (0, [.int (s_n S), .ref (a 1), .int (s_clk S), .ref (a 2), .ref (a 3), .ref (a 4), .ref (a 5), .ref (a 6), .ref (a 7), .ref (a 8), .ref (a 9), .ref (a 10)])) = stW k a S := rfl
theorem mo_set_0 (b : Nat → Nat) (S : MdV) : [mdO b S].set 0 (mdO b S) = [mdO b S] := rfl
theorem s_n_su_n (S : StV) (x : Int32) : s_n (su_n S x) = x := rfl
theorem s_clk_su_n (S : StV) (x : Int32) : s_clk (su_n S x) = s_clk S := rfl
theorem s_set_su_n (S : StV) (x : Int32) : s_set (su_n S x) = s_set S := rfl
theorem s_cou_su_n (S : StV) (x : Int32) : s_cou (su_n S x) = s_cou S := rfl
theorem s_are_su_n (S : StV) (x : Int32) : s_are (su_n S x) = s_are S := rfl
theorem s_wat_su_n (S : StV) (x : Int32) : s_wat (su_n S x) = s_wat S := rfl
theorem s_sol_su_n (S : StV) (x : Int32) : s_sol (su_n S x) = s_sol S := rfl
theorem s_val_su_n (S : StV) (x : Int32) : s_val (su_n S x) = s_val S := rfl
theorem s_ble_su_n (S : StV) (x : Int32) : s_ble (su_n S x) = s_ble S := rfl
theorem s_sca_su_n (S : StV) (x : Int32) : s_sca (su_n S x) = s_sca S := rfl
theorem s_scl_su_n (S : StV) (x : Int32) : s_scl (su_n S x) = s_scl S := rfl
theorem s_lef_su_n (S : StV) (x : Int32) : s_lef (su_n S x) = s_lef S := rfl
theorem s_n_su_clk (S : StV) (x : Int32) : s_n (su_clk S x) = s_n S := rfl
theorem s_clk_su_clk (S : StV) (x : Int32) : s_clk (su_clk S x) = x := rfl
theorem s_set_su_clk (S : StV) (x : Int32) : s_set (su_clk S x) = s_set S := rfl
theorem s_cou_su_clk (S : StV) (x : Int32) : s_cou (su_clk S x) = s_cou S := rfl
theorem s_are_su_clk (S : StV) (x : Int32) : s_are (su_clk S x) = s_are S := rfl
theorem s_wat_su_clk (S : StV) (x : Int32) : s_wat (su_clk S x) = s_wat S := rfl
theorem s_sol_su_clk (S : StV) (x : Int32) : s_sol (su_clk S x) = s_sol S := rfl
theorem s_val_su_clk (S : StV) (x : Int32) : s_val (su_clk S x) = s_val S := rfl
theorem s_ble_su_clk (S : StV) (x : Int32) : s_ble (su_clk S x) = s_ble S := rfl
theorem s_sca_su_clk (S : StV) (x : Int32) : s_sca (su_clk S x) = s_sca S := rfl
theorem s_scl_su_clk (S : StV) (x : Int32) : s_scl (su_clk S x) = s_scl S := rfl
theorem s_lef_su_clk (S : StV) (x : Int32) : s_lef (su_clk S x) = s_lef S := rfl
theorem s_n_su_set (S : StV) (x : Nat → Int32) : s_n (su_set S x) = s_n S := rfl
theorem s_clk_su_set (S : StV) (x : Nat → Int32) : s_clk (su_set S x) = s_clk S := rfl
theorem s_set_su_set (S : StV) (x : Nat → Int32) : s_set (su_set S x) = x := rfl
theorem s_cou_su_set (S : StV) (x : Nat → Int32) : s_cou (su_set S x) = s_cou S := rfl
theorem s_are_su_set (S : StV) (x : Nat → Int32) : s_are (su_set S x) = s_are S := rfl
theorem s_wat_su_set (S : StV) (x : Nat → Int32) : s_wat (su_set S x) = s_wat S := rfl
theorem s_sol_su_set (S : StV) (x : Nat → Int32) : s_sol (su_set S x) = s_sol S := rfl
theorem s_val_su_set (S : StV) (x : Nat → Int32) : s_val (su_set S x) = s_val S := rfl
theorem s_ble_su_set (S : StV) (x : Nat → Int32) : s_ble (su_set S x) = s_ble S := rfl
theorem s_sca_su_set (S : StV) (x : Nat → Int32) : s_sca (su_set S x) = s_sca S := rfl
theorem s_scl_su_set (S : StV) (x : Nat → Int32) : s_scl (su_set S x) = s_scl S := rfl
theorem s_lef_su_set (S : StV) (x : Nat → Int32) : s_lef (su_set S x) = s_lef S := rfl
theorem s_n_su_cou (S : StV) (x : Nat → Int32) : s_n (su_cou S x) = s_n S := rfl
theorem s_clk_su_cou (S : StV) (x : Nat → Int32) : s_clk (su_cou S x) = s_clk S := rfl
theorem s_set_su_cou (S : StV) (x : Nat → Int32) : s_set (su_cou S x) = s_set S := rfl
theorem s_cou_su_cou (S : StV) (x : Nat → Int32) : s_cou (su_cou S x) = x := rfl
theorem s_are_su_cou (S : StV) (x : Nat → Int32) : s_are (su_cou S x) = s_are S := rfl
theorem s_wat_su_cou (S : StV) (x : Nat → Int32) : s_wat (su_cou S x) = s_wat S := rfl
theorem s_sol_su_cou (S : StV) (x : Nat → Int32) : s_sol (su_cou S x) = s_sol S := rfl
theorem s_val_su_cou (S : StV) (x : Nat → Int32) : s_val (su_cou S x) = s_val S := rfl
theorem s_ble_su_cou (S : StV) (x : Nat → Int32) : s_ble (su_cou S x) = s_ble S := rfl
theorem s_sca_su_cou (S : StV) (x : Nat → Int32) : s_sca (su_cou S x) = s_sca S := rfl
theorem s_scl_su_cou (S : StV) (x : Nat → Int32) : s_scl (su_cou S x) = s_scl S := rfl
theorem s_lef_su_cou (S : StV) (x : Nat → Int32) : s_lef (su_cou S x) = s_lef S := rfl
theorem s_n_su_are (S : StV) (x : Nat → Int32) : s_n (su_are S x) = s_n S := rfl
theorem s_clk_su_are (S : StV) (x : Nat → Int32) : s_clk (su_are S x) = s_clk S := rfl
theorem s_set_su_are (S : StV) (x : Nat → Int32) : s_set (su_are S x) = s_set S := rfl
theorem s_cou_su_are (S : StV) (x : Nat → Int32) : s_cou (su_are S x) = s_cou S := rfl
theorem s_are_su_are (S : StV) (x : Nat → Int32) : s_are (su_are S x) = x := rfl
theorem s_wat_su_are (S : StV) (x : Nat → Int32) : s_wat (su_are S x) = s_wat S := rfl
theorem s_sol_su_are (S : StV) (x : Nat → Int32) : s_sol (su_are S x) = s_sol S := rfl
theorem s_val_su_are (S : StV) (x : Nat → Int32) : s_val (su_are S x) = s_val S := rfl
theorem s_ble_su_are (S : StV) (x : Nat → Int32) : s_ble (su_are S x) = s_ble S := rfl
theorem s_sca_su_are (S : StV) (x : Nat → Int32) : s_sca (su_are S x) = s_sca S := rfl
theorem s_scl_su_are (S : StV) (x : Nat → Int32) : s_scl (su_are S x) = s_scl S := rfl
theorem s_lef_su_are (S : StV) (x : Nat → Int32) : s_lef (su_are S x) = s_lef S := rfl
theorem s_n_su_wat (S : StV) (x : Nat → Int32) : s_n (su_wat S x) = s_n S := rfl
theorem s_clk_su_wat (S : StV) (x : Nat → Int32) : s_clk (su_wat S x) = s_clk S := rfl
theorem s_set_su_wat (S : StV) (x : Nat → Int32) : s_set (su_wat S x) = s_set S := rfl
theorem s_cou_su_wat (S : StV) (x : Nat → Int32) : s_cou (su_wat S x) = s_cou S := rfl
theorem s_are_su_wat (S : StV) (x : Nat → Int32) : s_are (su_wat S x) = s_are S := rfl
theorem s_wat_su_wat (S : StV) (x : Nat → Int32) : s_wat (su_wat S x) = x := rfl
theorem s_sol_su_wat (S : StV) (x : Nat → Int32) : s_sol (su_wat S x) = s_sol S := rfl
theorem s_val_su_wat (S : StV) (x : Nat → Int32) : s_val (su_wat S x) = s_val S := rfl
theorem s_ble_su_wat (S : StV) (x : Nat → Int32) : s_ble (su_wat S x) = s_ble S := rfl
theorem s_sca_su_wat (S : StV) (x : Nat → Int32) : s_sca (su_wat S x) = s_sca S := rfl
theorem s_scl_su_wat (S : StV) (x : Nat → Int32) : s_scl (su_wat S x) = s_scl S := rfl
theorem s_lef_su_wat (S : StV) (x : Nat → Int32) : s_lef (su_wat S x) = s_lef S := rfl
theorem s_n_su_sol (S : StV) (x : Nat → Int32) : s_n (su_sol S x) = s_n S := rfl
theorem s_clk_su_sol (S : StV) (x : Nat → Int32) : s_clk (su_sol S x) = s_clk S := rfl
theorem s_set_su_sol (S : StV) (x : Nat → Int32) : s_set (su_sol S x) = s_set S := rfl
theorem s_cou_su_sol (S : StV) (x : Nat → Int32) : s_cou (su_sol S x) = s_cou S := rfl
theorem s_are_su_sol (S : StV) (x : Nat → Int32) : s_are (su_sol S x) = s_are S := rfl
theorem s_wat_su_sol (S : StV) (x : Nat → Int32) : s_wat (su_sol S x) = s_wat S := rfl
theorem s_sol_su_sol (S : StV) (x : Nat → Int32) : s_sol (su_sol S x) = x := rfl
theorem s_val_su_sol (S : StV) (x : Nat → Int32) : s_val (su_sol S x) = s_val S := rfl
theorem s_ble_su_sol (S : StV) (x : Nat → Int32) : s_ble (su_sol S x) = s_ble S := rfl
theorem s_sca_su_sol (S : StV) (x : Nat → Int32) : s_sca (su_sol S x) = s_sca S := rfl
theorem s_scl_su_sol (S : StV) (x : Nat → Int32) : s_scl (su_sol S x) = s_scl S := rfl
theorem s_lef_su_sol (S : StV) (x : Nat → Int32) : s_lef (su_sol S x) = s_lef S := rfl
theorem s_n_su_val (S : StV) (x : Nat → Int32) : s_n (su_val S x) = s_n S := rfl
theorem s_clk_su_val (S : StV) (x : Nat → Int32) : s_clk (su_val S x) = s_clk S := rfl
theorem s_set_su_val (S : StV) (x : Nat → Int32) : s_set (su_val S x) = s_set S := rfl
theorem s_cou_su_val (S : StV) (x : Nat → Int32) : s_cou (su_val S x) = s_cou S := rfl
theorem s_are_su_val (S : StV) (x : Nat → Int32) : s_are (su_val S x) = s_are S := rfl
theorem s_wat_su_val (S : StV) (x : Nat → Int32) : s_wat (su_val S x) = s_wat S := rfl
theorem s_sol_su_val (S : StV) (x : Nat → Int32) : s_sol (su_val S x) = s_sol S := rfl
theorem s_val_su_val (S : StV) (x : Nat → Int32) : s_val (su_val S x) = x := rfl
theorem s_ble_su_val (S : StV) (x : Nat → Int32) : s_ble (su_val S x) = s_ble S := rfl
theorem s_sca_su_val (S : StV) (x : Nat → Int32) : s_sca (su_val S x) = s_sca S := rfl
theorem s_scl_su_val (S : StV) (x : Nat → Int32) : s_scl (su_val S x) = s_scl S := rfl
theorem s_lef_su_val (S : StV) (x : Nat → Int32) : s_lef (su_val S x) = s_lef S := rfl
theorem s_n_su_ble (S : StV) (x : Nat → Int32) : s_n (su_ble S x) = s_n S := rfl
theorem s_clk_su_ble (S : StV) (x : Nat → Int32) : s_clk (su_ble S x) = s_clk S := rfl
theorem s_set_su_ble (S : StV) (x : Nat → Int32) : s_set (su_ble S x) = s_set S := rfl
theorem s_cou_su_ble (S : StV) (x : Nat → Int32) : s_cou (su_ble S x) = s_cou S := rfl
theorem s_are_su_ble (S : StV) (x : Nat → Int32) : s_are (su_ble S x) = s_are S := rfl
theorem s_wat_su_ble (S : StV) (x : Nat → Int32) : s_wat (su_ble S x) = s_wat S := rfl
theorem s_sol_su_ble (S : StV) (x : Nat → Int32) : s_sol (su_ble S x) = s_sol S := rfl
theorem s_val_su_ble (S : StV) (x : Nat → Int32) : s_val (su_ble S x) = s_val S := rfl
theorem s_ble_su_ble (S : StV) (x : Nat → Int32) : s_ble (su_ble S x) = x := rfl
theorem s_sca_su_ble (S : StV) (x : Nat → Int32) : s_sca (su_ble S x) = s_sca S := rfl
theorem s_scl_su_ble (S : StV) (x : Nat → Int32) : s_scl (su_ble S x) = s_scl S := rfl
theorem s_lef_su_ble (S : StV) (x : Nat → Int32) : s_lef (su_ble S x) = s_lef S := rfl
theorem s_n_su_sca (S : StV) (x : Nat → Int32) : s_n (su_sca S x) = s_n S := rfl
theorem s_clk_su_sca (S : StV) (x : Nat → Int32) : s_clk (su_sca S x) = s_clk S := rfl
theorem s_set_su_sca (S : StV) (x : Nat → Int32) : s_set (su_sca S x) = s_set S := rfl
theorem s_cou_su_sca (S : StV) (x : Nat → Int32) : s_cou (su_sca S x) = s_cou S := rfl
theorem s_are_su_sca (S : StV) (x : Nat → Int32) : s_are (su_sca S x) = s_are S := rfl
theorem s_wat_su_sca (S : StV) (x : Nat → Int32) : s_wat (su_sca S x) = s_wat S := rfl
theorem s_sol_su_sca (S : StV) (x : Nat → Int32) : s_sol (su_sca S x) = s_sol S := rfl
theorem s_val_su_sca (S : StV) (x : Nat → Int32) : s_val (su_sca S x) = s_val S := rfl
theorem s_ble_su_sca (S : StV) (x : Nat → Int32) : s_ble (su_sca S x) = s_ble S := rfl
theorem s_sca_su_sca (S : StV) (x : Nat → Int32) : s_sca (su_sca S x) = x := rfl
theorem s_scl_su_sca (S : StV) (x : Nat → Int32) : s_scl (su_sca S x) = s_scl S := rfl
theorem s_lef_su_sca (S : StV) (x : Nat → Int32) : s_lef (su_sca S x) = s_lef S := rfl
theorem s_n_su_scl (S : StV) (x : Nat → Int32) : s_n (su_scl S x) = s_n S := rfl
theorem s_clk_su_scl (S : StV) (x : Nat → Int32) : s_clk (su_scl S x) = s_clk S := rfl
theorem s_set_su_scl (S : StV) (x : Nat → Int32) : s_set (su_scl S x) = s_set S := rfl
theorem s_cou_su_scl (S : StV) (x : Nat → Int32) : s_cou (su_scl S x) = s_cou S := rfl
theorem s_are_su_scl (S : StV) (x : Nat → Int32) : s_are (su_scl S x) = s_are S := rfl
theorem s_wat_su_scl (S : StV) (x : Nat → Int32) : s_wat (su_scl S x) = s_wat S := rfl
theorem s_sol_su_scl (S : StV) (x : Nat → Int32) : s_sol (su_scl S x) = s_sol S := rfl
theorem s_val_su_scl (S : StV) (x : Nat → Int32) : s_val (su_scl S x) = s_val S := rfl
theorem s_ble_su_scl (S : StV) (x : Nat → Int32) : s_ble (su_scl S x) = s_ble S := rfl
theorem s_sca_su_scl (S : StV) (x : Nat → Int32) : s_sca (su_scl S x) = s_sca S := rfl
theorem s_scl_su_scl (S : StV) (x : Nat → Int32) : s_scl (su_scl S x) = x := rfl
theorem s_lef_su_scl (S : StV) (x : Nat → Int32) : s_lef (su_scl S x) = s_lef S := rfl
theorem s_n_su_lef (S : StV) (x : Nat → Int32) : s_n (su_lef S x) = s_n S := rfl
theorem s_clk_su_lef (S : StV) (x : Nat → Int32) : s_clk (su_lef S x) = s_clk S := rfl
theorem s_set_su_lef (S : StV) (x : Nat → Int32) : s_set (su_lef S x) = s_set S := rfl
theorem s_cou_su_lef (S : StV) (x : Nat → Int32) : s_cou (su_lef S x) = s_cou S := rfl
theorem s_are_su_lef (S : StV) (x : Nat → Int32) : s_are (su_lef S x) = s_are S := rfl
theorem s_wat_su_lef (S : StV) (x : Nat → Int32) : s_wat (su_lef S x) = s_wat S := rfl
theorem s_sol_su_lef (S : StV) (x : Nat → Int32) : s_sol (su_lef S x) = s_sol S := rfl
theorem s_val_su_lef (S : StV) (x : Nat → Int32) : s_val (su_lef S x) = s_val S := rfl
theorem s_ble_su_lef (S : StV) (x : Nat → Int32) : s_ble (su_lef S x) = s_ble S := rfl
theorem s_sca_su_lef (S : StV) (x : Nat → Int32) : s_sca (su_lef S x) = s_sca S := rfl
theorem s_scl_su_lef (S : StV) (x : Nat → Int32) : s_scl (su_lef S x) = s_scl S := rfl
theorem s_lef_su_lef (S : StV) (x : Nat → Int32) : s_lef (su_lef S x) = x := rfl
theorem m_ref_mu_ref (S : MdV) (x : Int32) : m_ref (mu_ref S x) = x := rfl
theorem m_scs_mu_ref (S : MdV) (x : Int32) : m_scs (mu_ref S x) = m_scs S := rfl
theorem m_spo_mu_ref (S : MdV) (x : Int32) : m_spo (mu_ref S x) = m_spo S := rfl
theorem m_rdn_mu_ref (S : MdV) (x : Int32) : m_rdn (mu_ref S x) = m_rdn S := rfl
theorem m_n_mu_ref (S : MdV) (x : Int32) : m_n (mu_ref S x) = m_n S := rfl
theorem m_act_mu_ref (S : MdV) (x : Int32) : m_act (mu_ref S x) = m_act S := rfl
theorem m_scr_mu_ref (S : MdV) (x : Int32) : m_scr (mu_ref S x) = m_scr S := rfl
theorem m_rrw_mu_ref (S : MdV) (x : Int32) : m_rrw (mu_ref S x) = m_rrw S := rfl
theorem m_now_mu_ref (S : MdV) (x : Int32) : m_now (mu_ref S x) = m_now S := rfl
theorem m_tri_mu_ref (S : MdV) (x : Int32) : m_tri (mu_ref S x) = m_tri S := rfl
theorem m_dia_mu_ref (S : MdV) (x : Int32) : m_dia (mu_ref S x) = m_dia S := rfl
theorem m_kep_mu_ref (S : MdV) (x : Int32) : m_kep (mu_ref S x) = m_kep S := rfl
theorem m_isk_mu_ref (S : MdV) (x : Int32) : m_isk (mu_ref S x) = m_isk S := rfl
theorem m_flo_mu_ref (S : MdV) (x : Int32) : m_flo (mu_ref S x) = m_flo S := rfl
theorem m_sal_mu_ref (S : MdV) (x : Int32) : m_sal (mu_ref S x) = m_sal S := rfl
theorem m_ref_mu_scs (S : MdV) (x : Int32) : m_ref (mu_scs S x) = m_ref S := rfl
theorem m_scs_mu_scs (S : MdV) (x : Int32) : m_scs (mu_scs S x) = x := rfl
theorem m_spo_mu_scs (S : MdV) (x : Int32) : m_spo (mu_scs S x) = m_spo S := rfl
theorem m_rdn_mu_scs (S : MdV) (x : Int32) : m_rdn (mu_scs S x) = m_rdn S := rfl
theorem m_n_mu_scs (S : MdV) (x : Int32) : m_n (mu_scs S x) = m_n S := rfl
theorem m_act_mu_scs (S : MdV) (x : Int32) : m_act (mu_scs S x) = m_act S := rfl
theorem m_scr_mu_scs (S : MdV) (x : Int32) : m_scr (mu_scs S x) = m_scr S := rfl
theorem m_rrw_mu_scs (S : MdV) (x : Int32) : m_rrw (mu_scs S x) = m_rrw S := rfl
theorem m_now_mu_scs (S : MdV) (x : Int32) : m_now (mu_scs S x) = m_now S := rfl
theorem m_tri_mu_scs (S : MdV) (x : Int32) : m_tri (mu_scs S x) = m_tri S := rfl
theorem m_dia_mu_scs (S : MdV) (x : Int32) : m_dia (mu_scs S x) = m_dia S := rfl
theorem m_kep_mu_scs (S : MdV) (x : Int32) : m_kep (mu_scs S x) = m_kep S := rfl
theorem m_isk_mu_scs (S : MdV) (x : Int32) : m_isk (mu_scs S x) = m_isk S := rfl
theorem m_flo_mu_scs (S : MdV) (x : Int32) : m_flo (mu_scs S x) = m_flo S := rfl
theorem m_sal_mu_scs (S : MdV) (x : Int32) : m_sal (mu_scs S x) = m_sal S := rfl
theorem m_ref_mu_spo (S : MdV) (x : Int32) : m_ref (mu_spo S x) = m_ref S := rfl
theorem m_scs_mu_spo (S : MdV) (x : Int32) : m_scs (mu_spo S x) = m_scs S := rfl
theorem m_spo_mu_spo (S : MdV) (x : Int32) : m_spo (mu_spo S x) = x := rfl
theorem m_rdn_mu_spo (S : MdV) (x : Int32) : m_rdn (mu_spo S x) = m_rdn S := rfl
theorem m_n_mu_spo (S : MdV) (x : Int32) : m_n (mu_spo S x) = m_n S := rfl
theorem m_act_mu_spo (S : MdV) (x : Int32) : m_act (mu_spo S x) = m_act S := rfl
theorem m_scr_mu_spo (S : MdV) (x : Int32) : m_scr (mu_spo S x) = m_scr S := rfl
theorem m_rrw_mu_spo (S : MdV) (x : Int32) : m_rrw (mu_spo S x) = m_rrw S := rfl
theorem m_now_mu_spo (S : MdV) (x : Int32) : m_now (mu_spo S x) = m_now S := rfl
theorem m_tri_mu_spo (S : MdV) (x : Int32) : m_tri (mu_spo S x) = m_tri S := rfl
theorem m_dia_mu_spo (S : MdV) (x : Int32) : m_dia (mu_spo S x) = m_dia S := rfl
theorem m_kep_mu_spo (S : MdV) (x : Int32) : m_kep (mu_spo S x) = m_kep S := rfl
theorem m_isk_mu_spo (S : MdV) (x : Int32) : m_isk (mu_spo S x) = m_isk S := rfl
theorem m_flo_mu_spo (S : MdV) (x : Int32) : m_flo (mu_spo S x) = m_flo S := rfl
theorem m_sal_mu_spo (S : MdV) (x : Int32) : m_sal (mu_spo S x) = m_sal S := rfl
theorem m_ref_mu_rdn (S : MdV) (x : Int32) : m_ref (mu_rdn S x) = m_ref S := rfl
theorem m_scs_mu_rdn (S : MdV) (x : Int32) : m_scs (mu_rdn S x) = m_scs S := rfl
theorem m_spo_mu_rdn (S : MdV) (x : Int32) : m_spo (mu_rdn S x) = m_spo S := rfl
theorem m_rdn_mu_rdn (S : MdV) (x : Int32) : m_rdn (mu_rdn S x) = x := rfl
theorem m_n_mu_rdn (S : MdV) (x : Int32) : m_n (mu_rdn S x) = m_n S := rfl
theorem m_act_mu_rdn (S : MdV) (x : Int32) : m_act (mu_rdn S x) = m_act S := rfl
theorem m_scr_mu_rdn (S : MdV) (x : Int32) : m_scr (mu_rdn S x) = m_scr S := rfl
theorem m_rrw_mu_rdn (S : MdV) (x : Int32) : m_rrw (mu_rdn S x) = m_rrw S := rfl
theorem m_now_mu_rdn (S : MdV) (x : Int32) : m_now (mu_rdn S x) = m_now S := rfl
theorem m_tri_mu_rdn (S : MdV) (x : Int32) : m_tri (mu_rdn S x) = m_tri S := rfl
theorem m_dia_mu_rdn (S : MdV) (x : Int32) : m_dia (mu_rdn S x) = m_dia S := rfl
theorem m_kep_mu_rdn (S : MdV) (x : Int32) : m_kep (mu_rdn S x) = m_kep S := rfl
theorem m_isk_mu_rdn (S : MdV) (x : Int32) : m_isk (mu_rdn S x) = m_isk S := rfl
theorem m_flo_mu_rdn (S : MdV) (x : Int32) : m_flo (mu_rdn S x) = m_flo S := rfl
theorem m_sal_mu_rdn (S : MdV) (x : Int32) : m_sal (mu_rdn S x) = m_sal S := rfl
theorem m_ref_mu_n (S : MdV) (x : Int32) : m_ref (mu_n S x) = m_ref S := rfl
theorem m_scs_mu_n (S : MdV) (x : Int32) : m_scs (mu_n S x) = m_scs S := rfl
theorem m_spo_mu_n (S : MdV) (x : Int32) : m_spo (mu_n S x) = m_spo S := rfl
theorem m_rdn_mu_n (S : MdV) (x : Int32) : m_rdn (mu_n S x) = m_rdn S := rfl
theorem m_n_mu_n (S : MdV) (x : Int32) : m_n (mu_n S x) = x := rfl
theorem m_act_mu_n (S : MdV) (x : Int32) : m_act (mu_n S x) = m_act S := rfl
theorem m_scr_mu_n (S : MdV) (x : Int32) : m_scr (mu_n S x) = m_scr S := rfl
theorem m_rrw_mu_n (S : MdV) (x : Int32) : m_rrw (mu_n S x) = m_rrw S := rfl
theorem m_now_mu_n (S : MdV) (x : Int32) : m_now (mu_n S x) = m_now S := rfl
theorem m_tri_mu_n (S : MdV) (x : Int32) : m_tri (mu_n S x) = m_tri S := rfl
theorem m_dia_mu_n (S : MdV) (x : Int32) : m_dia (mu_n S x) = m_dia S := rfl
theorem m_kep_mu_n (S : MdV) (x : Int32) : m_kep (mu_n S x) = m_kep S := rfl
theorem m_isk_mu_n (S : MdV) (x : Int32) : m_isk (mu_n S x) = m_isk S := rfl
theorem m_flo_mu_n (S : MdV) (x : Int32) : m_flo (mu_n S x) = m_flo S := rfl
theorem m_sal_mu_n (S : MdV) (x : Int32) : m_sal (mu_n S x) = m_sal S := rfl
theorem m_ref_mu_act (S : MdV) (x : Int32) : m_ref (mu_act S x) = m_ref S := rfl
theorem m_scs_mu_act (S : MdV) (x : Int32) : m_scs (mu_act S x) = m_scs S := rfl
theorem m_spo_mu_act (S : MdV) (x : Int32) : m_spo (mu_act S x) = m_spo S := rfl
theorem m_rdn_mu_act (S : MdV) (x : Int32) : m_rdn (mu_act S x) = m_rdn S := rfl
theorem m_n_mu_act (S : MdV) (x : Int32) : m_n (mu_act S x) = m_n S := rfl
theorem m_act_mu_act (S : MdV) (x : Int32) : m_act (mu_act S x) = x := rfl
theorem m_scr_mu_act (S : MdV) (x : Int32) : m_scr (mu_act S x) = m_scr S := rfl
theorem m_rrw_mu_act (S : MdV) (x : Int32) : m_rrw (mu_act S x) = m_rrw S := rfl
theorem m_now_mu_act (S : MdV) (x : Int32) : m_now (mu_act S x) = m_now S := rfl
theorem m_tri_mu_act (S : MdV) (x : Int32) : m_tri (mu_act S x) = m_tri S := rfl
theorem m_dia_mu_act (S : MdV) (x : Int32) : m_dia (mu_act S x) = m_dia S := rfl
theorem m_kep_mu_act (S : MdV) (x : Int32) : m_kep (mu_act S x) = m_kep S := rfl
theorem m_isk_mu_act (S : MdV) (x : Int32) : m_isk (mu_act S x) = m_isk S := rfl
theorem m_flo_mu_act (S : MdV) (x : Int32) : m_flo (mu_act S x) = m_flo S := rfl
theorem m_sal_mu_act (S : MdV) (x : Int32) : m_sal (mu_act S x) = m_sal S := rfl
theorem m_ref_mu_scr (S : MdV) (x : Nat → Int32) : m_ref (mu_scr S x) = m_ref S := rfl
theorem m_scs_mu_scr (S : MdV) (x : Nat → Int32) : m_scs (mu_scr S x) = m_scs S := rfl
theorem m_spo_mu_scr (S : MdV) (x : Nat → Int32) : m_spo (mu_scr S x) = m_spo S := rfl
theorem m_rdn_mu_scr (S : MdV) (x : Nat → Int32) : m_rdn (mu_scr S x) = m_rdn S := rfl
theorem m_n_mu_scr (S : MdV) (x : Nat → Int32) : m_n (mu_scr S x) = m_n S := rfl
theorem m_act_mu_scr (S : MdV) (x : Nat → Int32) : m_act (mu_scr S x) = m_act S := rfl
theorem m_scr_mu_scr (S : MdV) (x : Nat → Int32) : m_scr (mu_scr S x) = x := rfl
theorem m_rrw_mu_scr (S : MdV) (x : Nat → Int32) : m_rrw (mu_scr S x) = m_rrw S := rfl
theorem m_now_mu_scr (S : MdV) (x : Nat → Int32) : m_now (mu_scr S x) = m_now S := rfl
theorem m_tri_mu_scr (S : MdV) (x : Nat → Int32) : m_tri (mu_scr S x) = m_tri S := rfl
theorem m_dia_mu_scr (S : MdV) (x : Nat → Int32) : m_dia (mu_scr S x) = m_dia S := rfl
theorem m_kep_mu_scr (S : MdV) (x : Nat → Int32) : m_kep (mu_scr S x) = m_kep S := rfl
theorem m_isk_mu_scr (S : MdV) (x : Nat → Int32) : m_isk (mu_scr S x) = m_isk S := rfl
theorem m_flo_mu_scr (S : MdV) (x : Nat → Int32) : m_flo (mu_scr S x) = m_flo S := rfl
theorem m_sal_mu_scr (S : MdV) (x : Nat → Int32) : m_sal (mu_scr S x) = m_sal S := rfl
theorem m_ref_mu_rrw (S : MdV) (x : Nat → Int32) : m_ref (mu_rrw S x) = m_ref S := rfl
theorem m_scs_mu_rrw (S : MdV) (x : Nat → Int32) : m_scs (mu_rrw S x) = m_scs S := rfl
theorem m_spo_mu_rrw (S : MdV) (x : Nat → Int32) : m_spo (mu_rrw S x) = m_spo S := rfl
theorem m_rdn_mu_rrw (S : MdV) (x : Nat → Int32) : m_rdn (mu_rrw S x) = m_rdn S := rfl
theorem m_n_mu_rrw (S : MdV) (x : Nat → Int32) : m_n (mu_rrw S x) = m_n S := rfl
theorem m_act_mu_rrw (S : MdV) (x : Nat → Int32) : m_act (mu_rrw S x) = m_act S := rfl
theorem m_scr_mu_rrw (S : MdV) (x : Nat → Int32) : m_scr (mu_rrw S x) = m_scr S := rfl
theorem m_rrw_mu_rrw (S : MdV) (x : Nat → Int32) : m_rrw (mu_rrw S x) = x := rfl
theorem m_now_mu_rrw (S : MdV) (x : Nat → Int32) : m_now (mu_rrw S x) = m_now S := rfl
theorem m_tri_mu_rrw (S : MdV) (x : Nat → Int32) : m_tri (mu_rrw S x) = m_tri S := rfl
theorem m_dia_mu_rrw (S : MdV) (x : Nat → Int32) : m_dia (mu_rrw S x) = m_dia S := rfl
theorem m_kep_mu_rrw (S : MdV) (x : Nat → Int32) : m_kep (mu_rrw S x) = m_kep S := rfl
theorem m_isk_mu_rrw (S : MdV) (x : Nat → Int32) : m_isk (mu_rrw S x) = m_isk S := rfl
theorem m_flo_mu_rrw (S : MdV) (x : Nat → Int32) : m_flo (mu_rrw S x) = m_flo S := rfl
theorem m_sal_mu_rrw (S : MdV) (x : Nat → Int32) : m_sal (mu_rrw S x) = m_sal S := rfl
theorem m_ref_mu_now (S : MdV) (x : Nat → Int32) : m_ref (mu_now S x) = m_ref S := rfl
theorem m_scs_mu_now (S : MdV) (x : Nat → Int32) : m_scs (mu_now S x) = m_scs S := rfl
theorem m_spo_mu_now (S : MdV) (x : Nat → Int32) : m_spo (mu_now S x) = m_spo S := rfl
theorem m_rdn_mu_now (S : MdV) (x : Nat → Int32) : m_rdn (mu_now S x) = m_rdn S := rfl
theorem m_n_mu_now (S : MdV) (x : Nat → Int32) : m_n (mu_now S x) = m_n S := rfl
theorem m_act_mu_now (S : MdV) (x : Nat → Int32) : m_act (mu_now S x) = m_act S := rfl
theorem m_scr_mu_now (S : MdV) (x : Nat → Int32) : m_scr (mu_now S x) = m_scr S := rfl
theorem m_rrw_mu_now (S : MdV) (x : Nat → Int32) : m_rrw (mu_now S x) = m_rrw S := rfl
theorem m_now_mu_now (S : MdV) (x : Nat → Int32) : m_now (mu_now S x) = x := rfl
theorem m_tri_mu_now (S : MdV) (x : Nat → Int32) : m_tri (mu_now S x) = m_tri S := rfl
theorem m_dia_mu_now (S : MdV) (x : Nat → Int32) : m_dia (mu_now S x) = m_dia S := rfl
theorem m_kep_mu_now (S : MdV) (x : Nat → Int32) : m_kep (mu_now S x) = m_kep S := rfl
theorem m_isk_mu_now (S : MdV) (x : Nat → Int32) : m_isk (mu_now S x) = m_isk S := rfl
theorem m_flo_mu_now (S : MdV) (x : Nat → Int32) : m_flo (mu_now S x) = m_flo S := rfl
theorem m_sal_mu_now (S : MdV) (x : Nat → Int32) : m_sal (mu_now S x) = m_sal S := rfl
theorem m_ref_mu_tri (S : MdV) (x : Nat → Int32) : m_ref (mu_tri S x) = m_ref S := rfl
theorem m_scs_mu_tri (S : MdV) (x : Nat → Int32) : m_scs (mu_tri S x) = m_scs S := rfl
theorem m_spo_mu_tri (S : MdV) (x : Nat → Int32) : m_spo (mu_tri S x) = m_spo S := rfl
theorem m_rdn_mu_tri (S : MdV) (x : Nat → Int32) : m_rdn (mu_tri S x) = m_rdn S := rfl
theorem m_n_mu_tri (S : MdV) (x : Nat → Int32) : m_n (mu_tri S x) = m_n S := rfl
theorem m_act_mu_tri (S : MdV) (x : Nat → Int32) : m_act (mu_tri S x) = m_act S := rfl
theorem m_scr_mu_tri (S : MdV) (x : Nat → Int32) : m_scr (mu_tri S x) = m_scr S := rfl
theorem m_rrw_mu_tri (S : MdV) (x : Nat → Int32) : m_rrw (mu_tri S x) = m_rrw S := rfl
theorem m_now_mu_tri (S : MdV) (x : Nat → Int32) : m_now (mu_tri S x) = m_now S := rfl
theorem m_tri_mu_tri (S : MdV) (x : Nat → Int32) : m_tri (mu_tri S x) = x := rfl
theorem m_dia_mu_tri (S : MdV) (x : Nat → Int32) : m_dia (mu_tri S x) = m_dia S := rfl
theorem m_kep_mu_tri (S : MdV) (x : Nat → Int32) : m_kep (mu_tri S x) = m_kep S := rfl
theorem m_isk_mu_tri (S : MdV) (x : Nat → Int32) : m_isk (mu_tri S x) = m_isk S := rfl
theorem m_flo_mu_tri (S : MdV) (x : Nat → Int32) : m_flo (mu_tri S x) = m_flo S := rfl
theorem m_sal_mu_tri (S : MdV) (x : Nat → Int32) : m_sal (mu_tri S x) = m_sal S := rfl
theorem m_ref_mu_dia (S : MdV) (x : Nat → Int32) : m_ref (mu_dia S x) = m_ref S := rfl
theorem m_scs_mu_dia (S : MdV) (x : Nat → Int32) : m_scs (mu_dia S x) = m_scs S := rfl
theorem m_spo_mu_dia (S : MdV) (x : Nat → Int32) : m_spo (mu_dia S x) = m_spo S := rfl
theorem m_rdn_mu_dia (S : MdV) (x : Nat → Int32) : m_rdn (mu_dia S x) = m_rdn S := rfl
theorem m_n_mu_dia (S : MdV) (x : Nat → Int32) : m_n (mu_dia S x) = m_n S := rfl
theorem m_act_mu_dia (S : MdV) (x : Nat → Int32) : m_act (mu_dia S x) = m_act S := rfl
theorem m_scr_mu_dia (S : MdV) (x : Nat → Int32) : m_scr (mu_dia S x) = m_scr S := rfl
theorem m_rrw_mu_dia (S : MdV) (x : Nat → Int32) : m_rrw (mu_dia S x) = m_rrw S := rfl
theorem m_now_mu_dia (S : MdV) (x : Nat → Int32) : m_now (mu_dia S x) = m_now S := rfl
theorem m_tri_mu_dia (S : MdV) (x : Nat → Int32) : m_tri (mu_dia S x) = m_tri S := rfl
theorem m_dia_mu_dia (S : MdV) (x : Nat → Int32) : m_dia (mu_dia S x) = x := rfl
theorem m_kep_mu_dia (S : MdV) (x : Nat → Int32) : m_kep (mu_dia S x) = m_kep S := rfl
theorem m_isk_mu_dia (S : MdV) (x : Nat → Int32) : m_isk (mu_dia S x) = m_isk S := rfl
theorem m_flo_mu_dia (S : MdV) (x : Nat → Int32) : m_flo (mu_dia S x) = m_flo S := rfl
theorem m_sal_mu_dia (S : MdV) (x : Nat → Int32) : m_sal (mu_dia S x) = m_sal S := rfl
theorem m_ref_mu_kep (S : MdV) (x : Nat → Int32) : m_ref (mu_kep S x) = m_ref S := rfl
theorem m_scs_mu_kep (S : MdV) (x : Nat → Int32) : m_scs (mu_kep S x) = m_scs S := rfl
theorem m_spo_mu_kep (S : MdV) (x : Nat → Int32) : m_spo (mu_kep S x) = m_spo S := rfl
theorem m_rdn_mu_kep (S : MdV) (x : Nat → Int32) : m_rdn (mu_kep S x) = m_rdn S := rfl
theorem m_n_mu_kep (S : MdV) (x : Nat → Int32) : m_n (mu_kep S x) = m_n S := rfl
theorem m_act_mu_kep (S : MdV) (x : Nat → Int32) : m_act (mu_kep S x) = m_act S := rfl
theorem m_scr_mu_kep (S : MdV) (x : Nat → Int32) : m_scr (mu_kep S x) = m_scr S := rfl
theorem m_rrw_mu_kep (S : MdV) (x : Nat → Int32) : m_rrw (mu_kep S x) = m_rrw S := rfl
theorem m_now_mu_kep (S : MdV) (x : Nat → Int32) : m_now (mu_kep S x) = m_now S := rfl
theorem m_tri_mu_kep (S : MdV) (x : Nat → Int32) : m_tri (mu_kep S x) = m_tri S := rfl
theorem m_dia_mu_kep (S : MdV) (x : Nat → Int32) : m_dia (mu_kep S x) = m_dia S := rfl
theorem m_kep_mu_kep (S : MdV) (x : Nat → Int32) : m_kep (mu_kep S x) = x := rfl
theorem m_isk_mu_kep (S : MdV) (x : Nat → Int32) : m_isk (mu_kep S x) = m_isk S := rfl
theorem m_flo_mu_kep (S : MdV) (x : Nat → Int32) : m_flo (mu_kep S x) = m_flo S := rfl
theorem m_sal_mu_kep (S : MdV) (x : Nat → Int32) : m_sal (mu_kep S x) = m_sal S := rfl
theorem m_ref_mu_isk (S : MdV) (x : Nat → Int32) : m_ref (mu_isk S x) = m_ref S := rfl
theorem m_scs_mu_isk (S : MdV) (x : Nat → Int32) : m_scs (mu_isk S x) = m_scs S := rfl
theorem m_spo_mu_isk (S : MdV) (x : Nat → Int32) : m_spo (mu_isk S x) = m_spo S := rfl
theorem m_rdn_mu_isk (S : MdV) (x : Nat → Int32) : m_rdn (mu_isk S x) = m_rdn S := rfl
theorem m_n_mu_isk (S : MdV) (x : Nat → Int32) : m_n (mu_isk S x) = m_n S := rfl
theorem m_act_mu_isk (S : MdV) (x : Nat → Int32) : m_act (mu_isk S x) = m_act S := rfl
theorem m_scr_mu_isk (S : MdV) (x : Nat → Int32) : m_scr (mu_isk S x) = m_scr S := rfl
theorem m_rrw_mu_isk (S : MdV) (x : Nat → Int32) : m_rrw (mu_isk S x) = m_rrw S := rfl
theorem m_now_mu_isk (S : MdV) (x : Nat → Int32) : m_now (mu_isk S x) = m_now S := rfl
theorem m_tri_mu_isk (S : MdV) (x : Nat → Int32) : m_tri (mu_isk S x) = m_tri S := rfl
theorem m_dia_mu_isk (S : MdV) (x : Nat → Int32) : m_dia (mu_isk S x) = m_dia S := rfl
theorem m_kep_mu_isk (S : MdV) (x : Nat → Int32) : m_kep (mu_isk S x) = m_kep S := rfl
theorem m_isk_mu_isk (S : MdV) (x : Nat → Int32) : m_isk (mu_isk S x) = x := rfl
theorem m_flo_mu_isk (S : MdV) (x : Nat → Int32) : m_flo (mu_isk S x) = m_flo S := rfl
theorem m_sal_mu_isk (S : MdV) (x : Nat → Int32) : m_sal (mu_isk S x) = m_sal S := rfl
theorem m_ref_mu_flo (S : MdV) (x : Nat → Int32) : m_ref (mu_flo S x) = m_ref S := rfl
theorem m_scs_mu_flo (S : MdV) (x : Nat → Int32) : m_scs (mu_flo S x) = m_scs S := rfl
theorem m_spo_mu_flo (S : MdV) (x : Nat → Int32) : m_spo (mu_flo S x) = m_spo S := rfl
theorem m_rdn_mu_flo (S : MdV) (x : Nat → Int32) : m_rdn (mu_flo S x) = m_rdn S := rfl
theorem m_n_mu_flo (S : MdV) (x : Nat → Int32) : m_n (mu_flo S x) = m_n S := rfl
theorem m_act_mu_flo (S : MdV) (x : Nat → Int32) : m_act (mu_flo S x) = m_act S := rfl
theorem m_scr_mu_flo (S : MdV) (x : Nat → Int32) : m_scr (mu_flo S x) = m_scr S := rfl
theorem m_rrw_mu_flo (S : MdV) (x : Nat → Int32) : m_rrw (mu_flo S x) = m_rrw S := rfl
theorem m_now_mu_flo (S : MdV) (x : Nat → Int32) : m_now (mu_flo S x) = m_now S := rfl
theorem m_tri_mu_flo (S : MdV) (x : Nat → Int32) : m_tri (mu_flo S x) = m_tri S := rfl
theorem m_dia_mu_flo (S : MdV) (x : Nat → Int32) : m_dia (mu_flo S x) = m_dia S := rfl
theorem m_kep_mu_flo (S : MdV) (x : Nat → Int32) : m_kep (mu_flo S x) = m_kep S := rfl
theorem m_isk_mu_flo (S : MdV) (x : Nat → Int32) : m_isk (mu_flo S x) = m_isk S := rfl
theorem m_flo_mu_flo (S : MdV) (x : Nat → Int32) : m_flo (mu_flo S x) = x := rfl
theorem m_sal_mu_flo (S : MdV) (x : Nat → Int32) : m_sal (mu_flo S x) = m_sal S := rfl
theorem m_ref_mu_sal (S : MdV) (x : Nat → Int32) : m_ref (mu_sal S x) = m_ref S := rfl
theorem m_scs_mu_sal (S : MdV) (x : Nat → Int32) : m_scs (mu_sal S x) = m_scs S := rfl
theorem m_spo_mu_sal (S : MdV) (x : Nat → Int32) : m_spo (mu_sal S x) = m_spo S := rfl
theorem m_rdn_mu_sal (S : MdV) (x : Nat → Int32) : m_rdn (mu_sal S x) = m_rdn S := rfl
theorem m_n_mu_sal (S : MdV) (x : Nat → Int32) : m_n (mu_sal S x) = m_n S := rfl
theorem m_act_mu_sal (S : MdV) (x : Nat → Int32) : m_act (mu_sal S x) = m_act S := rfl
theorem m_scr_mu_sal (S : MdV) (x : Nat → Int32) : m_scr (mu_sal S x) = m_scr S := rfl
theorem m_rrw_mu_sal (S : MdV) (x : Nat → Int32) : m_rrw (mu_sal S x) = m_rrw S := rfl
theorem m_now_mu_sal (S : MdV) (x : Nat → Int32) : m_now (mu_sal S x) = m_now S := rfl
theorem m_tri_mu_sal (S : MdV) (x : Nat → Int32) : m_tri (mu_sal S x) = m_tri S := rfl
theorem m_dia_mu_sal (S : MdV) (x : Nat → Int32) : m_dia (mu_sal S x) = m_dia S := rfl
theorem m_kep_mu_sal (S : MdV) (x : Nat → Int32) : m_kep (mu_sal S x) = m_kep S := rfl
theorem m_isk_mu_sal (S : MdV) (x : Nat → Int32) : m_isk (mu_sal S x) = m_isk S := rfl
theorem m_flo_mu_sal (S : MdV) (x : Nat → Int32) : m_flo (mu_sal S x) = m_flo S := rfl
theorem m_sal_mu_sal (S : MdV) (x : Nat → Int32) : m_sal (mu_sal S x) = x := rfl
end
section
def f_J7_fill_53178_5 (N : Nat) (p1 : Int32) : Nat → Int32 → Int32 → (Nat → Int32) → Option ((Nat → Int32))
  | 0, _, _, _ => none
  | fu + 1, x2_5, x3_5, af_5 => if x3_5 ≤ x2_5 then (some (af_5)) else (gb (inb x2_5 N) <| nm (upd af_5 x2_5.toNatClampNeg p1) fun q_3 => (f_J7_fill_53178_5 N p1 fu) (x2_5 + 1) x3_5 q_3)
def f_J7_fill_53178 (N : Nat) (af : Nat → Int32) (p1 : Int32) : Option ((Nat → Int32)) := nm (Int32.ofNat N) fun v_4 => f_J7_fill_53178_5 N p1 2000 0 v_4 af
set_option maxRecDepth 100000 in
set_option maxHeartbeats 4000000 in
theorem c_J7_fill_53178 (l : Launch) (D : va_G) (k : Nat → ClassId) (ar : Nat) (N : Nat) (af : Nat → Int32) (p1 : Int32) (o0 : Nat → Int32) (h : f_J7_fill_53178 N af p1 = some (o0)) : Ck l D (tyK k) yJ7_fill_53178 wsJ7_fill_53178 ({ frames := 0, cells := 0, slots := 0, locals := 0 } : Room) [.ref ar, .int p1] ([(ar, .inl (k 0, N, .inl af))]) none ([(ar, .inl (k 0, N, .inl o0))]) := by
  refine Ck_of (cc := cJ7_fill_53178) (maxL := 4) (ret := none) (by decide) rfl (Nat.le_of_ble_eq_true rfl) ?_
  intro p e s m args below meth c A ls hx hb hr hml hts hown hlocks hK hA hP hD hS hl
  have hl : lv_has ls 4 [(0, .ref ar), (1, .int p1)] := hl
  have hP : va_P D vwCl ([(ar, .inl (k 0, N, .inl af))]) s.heap := hP
  unfold f_J7_fill_53178 at h
  have hC_5 : ∀ (fu_5 : Nat) (x2_5 : Int32) (x3_5 : Int32) (af_5 : Nat → Int32) (H : Heap) (locs : List Loc) (ls : Array Slot), va_P D vwCl ([(ar, .inl (k 0, N, .inl af_5))]) H → va_D A ([(ar, .inl (k 0, N, .inl af_5))]) → va_S A s.heap H locs → lv_has ls 4 [(0, .ref ar), (1, .int p1), (2, .int x2_5), (3, .int x3_5)] → f_J7_fill_53178_5 N p1 fu_5 x2_5 x3_5 af_5 = some (o0) → W p l e ({ frames := 0, cells := 0, slots := 0, locals := 0 } : Room) s m args below meth c H locs 0 0 (MQ below (Qk D A none ([(ar, .inl (k 0, N, .inl o0))])) args s 0 0 A) (F0 m 5 ls []) := by
    intro fu_5
    induction fu_5 with
    | zero => intro x2_5 x3_5 af_5 H locs ls _ _ _ _ h; exact (no_l h).elim
    | succ fu_5 ih_5 =>
      intro x2_5 x3_5 af_5 H locs ls hP hD hS hl h
      rw [f_J7_fill_53178_5] at h
      refine lv_iload_n hx hb dJ7_fill_53178_5 rfl (lv_at hl 2 rfl) ?_
      refine lv_iload_n hx hb dJ7_fill_53178_6 rfl (lv_at hl 3 rfl) ?_
      refine lv_icmp_ge (tgt := 20) hx hb dJ7_fill_53178_7 (by decide) (fun c_1 => ?_) (fun c_1 => ?_)
      · have h := it_l c_1 h
        cases h
        exact Ck_vret hx hb hr hP hD hS dJ7_fill_53178_20 hlocks
      · have h := it_r c_1 h
        refine lv_aload_n hx hb dJ7_fill_53178_10 rfl (lv_at hl 0 rfl) ?_
        refine lv_iload_n hx hb dJ7_fill_53178_11 rfl (lv_at hl 2 rfl) ?_
        refine lv_iload_n hx hb dJ7_fill_53178_12 rfl (lv_at hl 1 rfl) ?_
        have g_2 := inb_vp (gb_l h)
        have h := gb_r h
        refine va_iast hx hb hK hP hD hS 0 0 rfl rfl g_2 dJ7_fill_53178_13 (fun H locs hP hD hS => ?_)
        obtain ⟨q_3, eq_3⟩ : ∃ y : Nat → Int32, y = upd af_5 x2_5.toNatClampNeg p1 := ⟨_, rfl⟩
        have hP : va_P D vwCl ([(ar, .inl (k 0, N, .inl q_3))]) H := by rw [eq_3]; exact hP
        have hD : va_D A ([(ar, .inl (k 0, N, .inl q_3))]) := by rw [eq_3]; exact hD
        have h := nm_l h eq_3
        refine lv_iinc (v := (x2_5 + 1)) (lv' := [(2, .int (x2_5 + 1)), (0, .ref ar), (1, .int p1), (3, .int x3_5)]) hx hb dJ7_fill_53178_14 hl (k := 2) rfl rfl (by decide) rfl (fun ls hl => ?_)
        refine lv_goto (tgt := 5) hx hb dJ7_fill_53178_17 (by decide) ?_
        exact ih_5 (x2_5 + 1) x3_5 q_3 _ _ _ hP hD hS (lv_sub hl [1, 2, 0, 3] rfl) h
  refine lv_iconst (v := 0) hx hb dJ7_fill_53178_0 (by decide) ?_
  refine lv_istore_n (lv' := [(2, .int 0), (0, .ref ar), (1, .int p1)]) hx hb dJ7_fill_53178_1 rfl hl (by decide) rfl (fun ls hl => ?_)
  refine lv_aload_n hx hb dJ7_fill_53178_2 rfl (lv_at hl 1 rfl) ?_
  refine va_alen hx hb hK hP 0 0 rfl rfl rfl dJ7_fill_53178_3 ?_
  refine lv_topi (fun v_4 ev_4 => ?_)
  have h := nm_l h ev_4
  refine lv_istore_n (lv' := [(3, .int v_4), (2, .int 0), (0, .ref ar), (1, .int p1)]) hx hb dJ7_fill_53178_4 rfl hl (by decide) rfl (fun ls hl => ?_)
  exact hC_5 2000 0 v_4 af _ _ _ hP hD hS (lv_sub hl [2, 3, 1, 0] rfl) h
def f_X0_amount (S : StV) (p1 : Int32) : Option (Int32) := gb (inb p1 6) <| gb (inb p1 6) <| some ((((s_wat S) p1.toNatClampNeg) + ((s_sol S) p1.toNatClampNeg)))
set_option maxRecDepth 100000 in
set_option maxHeartbeats 4000000 in
theorem c_X0_amount (l : Launch) (D : va_G) (k : Nat → ClassId) (a : Nat → Nat) (S : StV) (p1 : Int32) (o0 : Int32) (h : f_X0_amount S p1 = some (o0)) : Ck l D (tyK k) yX0_amount wsX0_amount ({ frames := 0, cells := 0, slots := 0, locals := 0 } : Room) [.ref (a 0), .int p1] (stW k a S) (some (.int o0)) (stW k a S) := by
  refine Ck_of (cc := cX0_amount) (maxL := 2) (ret := (some .int)) (by decide) rfl (Nat.le_of_ble_eq_true rfl) ?_
  intro p e s m args below meth c A ls hx hb hr hml hts hown hlocks hK hA hP hD hS hl
  have hl : lv_has ls 2 [(0, .ref (a 0)), (1, .int p1)] := hl
  have hP : va_P D vwCl (stW k a S) s.heap := hP
  have w_0 := hts (.fieldLink RX0 28 "EffectTrain$State" "water" "[I") (by decide +kernel)
  have w_1 : ∀ w ∈ wsX00, w ∈ wsX0_amount := by decide +kernel
  have w_2 := hts (.fieldLink RX0 31 "EffectTrain$State" "solids" "[I") (by decide +kernel)
  unfold f_X0_amount at h
  refine lv_aload_n hx hb dX0_amount_0 rfl (lv_at hl 0 rfl) ?_
  refine va_get (D := D) (ci := 0) (v := .ref (a 4)) (C := RX0) (T := TX0) (N := 12) hx hb hts w_1 hown hK hP 0 rfl rfl 5 (by decide) w_0 (fun _ h9 => h9) rfl dX0_amount_1 ?_
  refine lv_iload_n hx hb dX0_amount_4 rfl (lv_at hl 1 rfl) ?_
  have g_1 := inb_vp (gb_l h)
  have h := gb_r h
  refine va_iald hx hb hK hP 4 0 rfl rfl g_1 dX0_amount_5 ?_
  refine lv_aload_n hx hb dX0_amount_6 rfl (lv_at hl 0 rfl) ?_
  refine va_get (D := D) (ci := 0) (v := .ref (a 5)) (C := RX0) (T := TX0) (N := 12) hx hb hts w_1 hown hK hP 0 rfl rfl 6 (by decide) w_2 (fun _ h9 => h9) rfl dX0_amount_7 ?_
  refine lv_iload_n hx hb dX0_amount_10 rfl (lv_at hl 1 rfl) ?_
  have g_2 := inb_vp (gb_l h)
  have h := gb_r h
  refine va_iald hx hb hK hP 5 0 rfl rfl g_2 dX0_amount_11 ?_
  refine lv_iadd hx hb dX0_amount_12 ?_
  cases h
  exact Ck_iret hx hb hr hP hD hS dX0_amount_13 hlocks
def f_X0_thickness (S : StV) (p1 : Int32) : Option (Int32) := gb (inb p1 6) <| gb (inb p1 6) <| nm (((s_wat S) p1.toNatClampNeg) + ((s_sol S) p1.toNatClampNeg)) fun v_3 => if v_3 ≤ 0 then (some (0)) else (gb (inb p1 6) <| gb (nz v_3) <| some (((100 * ((s_sol S) p1.toNatClampNeg)) / v_3)))
set_option maxRecDepth 100000 in
set_option maxHeartbeats 4000000 in
theorem c_X0_thickness (l : Launch) (D : va_G) (k : Nat → ClassId) (a : Nat → Nat) (S : StV) (p1 : Int32) (o0 : Int32) (h : f_X0_thickness S p1 = some (o0)) : Ck l D (tyK k) yX0_thickness wsX0_thickness ({ frames := 0, cells := 0, slots := 0, locals := 0 } : Room) [.ref (a 0), .int p1] (stW k a S) (some (.int o0)) (stW k a S) := by
  refine Ck_of (cc := cX0_thickness) (maxL := 3) (ret := (some .int)) (by decide) rfl (Nat.le_of_ble_eq_true rfl) ?_
  intro p e s m args below meth c A ls hx hb hr hml hts hown hlocks hK hA hP hD hS hl
  have hl : lv_has ls 3 [(0, .ref (a 0)), (1, .int p1)] := hl
  have hP : va_P D vwCl (stW k a S) s.heap := hP
  have w_0 := hts (.fieldLink RX0 28 "EffectTrain$State" "water" "[I") (by decide +kernel)
  have w_1 : ∀ w ∈ wsX00, w ∈ wsX0_thickness := by decide +kernel
  have w_2 := hts (.fieldLink RX0 31 "EffectTrain$State" "solids" "[I") (by decide +kernel)
  unfold f_X0_thickness at h
  refine lv_aload_n hx hb dX0_thickness_0 rfl (lv_at hl 0 rfl) ?_
  refine va_get (D := D) (ci := 0) (v := .ref (a 4)) (C := RX0) (T := TX0) (N := 12) hx hb hts w_1 hown hK hP 0 rfl rfl 5 (by decide) w_0 (fun _ h9 => h9) rfl dX0_thickness_1 ?_
  refine lv_iload_n hx hb dX0_thickness_4 rfl (lv_at hl 1 rfl) ?_
  have g_1 := inb_vp (gb_l h)
  have h := gb_r h
  refine va_iald hx hb hK hP 4 0 rfl rfl g_1 dX0_thickness_5 ?_
  refine lv_aload_n hx hb dX0_thickness_6 rfl (lv_at hl 0 rfl) ?_
  refine va_get (D := D) (ci := 0) (v := .ref (a 5)) (C := RX0) (T := TX0) (N := 12) hx hb hts w_1 hown hK hP 0 rfl rfl 6 (by decide) w_2 (fun _ h9 => h9) rfl dX0_thickness_7 ?_
  refine lv_iload_n hx hb dX0_thickness_10 rfl (lv_at hl 1 rfl) ?_
  have g_2 := inb_vp (gb_l h)
  have h := gb_r h
  refine va_iald hx hb hK hP 5 0 rfl rfl g_2 dX0_thickness_11 ?_
  refine lv_iadd hx hb dX0_thickness_12 ?_
  refine lv_topi (fun v_3 ev_3 => ?_)
  have h := nm_l h ev_3
  refine lv_istore_n (lv' := [(2, .int v_3), (0, .ref (a 0)), (1, .int p1)]) hx hb dX0_thickness_13 rfl hl (by decide) rfl (fun ls hl => ?_)
  refine lv_iload_n hx hb dX0_thickness_14 rfl (lv_at hl 0 rfl) ?_
  refine lv_if_le (tgt := 32) hx hb dX0_thickness_15 (by decide) (fun c_4 => ?_) (fun c_4 => ?_)
  · have h := it_l c_4 h
    refine lv_iconst (v := 0) hx hb dX0_thickness_32 (by decide) ?_
    cases h
    exact Ck_iret hx hb hr hP hD hS dX0_thickness_33 hlocks
  · have h := it_r c_4 h
    refine lv_bipush (v := 100) hx hb dX0_thickness_18 (by decide) ?_
    refine lv_aload_n hx hb dX0_thickness_20 rfl (lv_at hl 1 rfl) ?_
    refine va_get (D := D) (ci := 0) (v := .ref (a 5)) (C := RX0) (T := TX0) (N := 12) hx hb hts w_1 hown hK hP 0 rfl rfl 6 (by decide) w_2 (fun _ h9 => h9) rfl dX0_thickness_21 ?_
    refine lv_iload_n hx hb dX0_thickness_24 rfl (lv_at hl 2 rfl) ?_
    have g_5 := inb_vp (gb_l h)
    have h := gb_r h
    refine va_iald hx hb hK hP 5 0 rfl rfl g_5 dX0_thickness_25 ?_
    refine lv_imul hx hb dX0_thickness_26 ?_
    refine lv_iload_n hx hb dX0_thickness_27 rfl (lv_at hl 0 rfl) ?_
    have g_6 := nz_l (gb_l h)
    have h := gb_r h
    refine lv_idiv hx hb dX0_thickness_28 g_6 ?_
    refine lv_goto (tgt := 33) hx hb dX0_thickness_29 (by decide) ?_
    cases h
    exact Ck_iret hx hb hr hP hD hS dX0_thickness_33 hlocks
def f_X0_power (S : StV) (p1 : Int32) : Option (Int32) := gb (inb p1 6) <| nm (10 + ((s_sca S) p1.toNatClampNeg)) fun v_2 => if v_2 ≤ 0 then (some (0)) else (gb (inb p1 6) <| gb (nz v_2) <| some (((100 * ((s_are S) p1.toNatClampNeg)) / v_2)))
set_option maxRecDepth 100000 in
set_option maxHeartbeats 4000000 in
theorem c_X0_power (l : Launch) (D : va_G) (k : Nat → ClassId) (a : Nat → Nat) (S : StV) (p1 : Int32) (o0 : Int32) (h : f_X0_power S p1 = some (o0)) : Ck l D (tyK k) yX0_power wsX0_power ({ frames := 0, cells := 0, slots := 0, locals := 0 } : Room) [.ref (a 0), .int p1] (stW k a S) (some (.int o0)) (stW k a S) := by
  refine Ck_of (cc := cX0_power) (maxL := 3) (ret := (some .int)) (by decide) rfl (Nat.le_of_ble_eq_true rfl) ?_
  intro p e s m args below meth c A ls hx hb hr hml hts hown hlocks hK hA hP hD hS hl
  have hl : lv_has ls 3 [(0, .ref (a 0)), (1, .int p1)] := hl
  have hP : va_P D vwCl (stW k a S) s.heap := hP
  have w_0 := hts (.fieldLink RX0 40 "EffectTrain$State" "scale" "[I") (by decide +kernel)
  have w_1 : ∀ w ∈ wsX00, w ∈ wsX0_power := by decide +kernel
  have w_2 := hts (.fieldLink RX0 25 "EffectTrain$State" "area" "[I") (by decide +kernel)
  unfold f_X0_power at h
  refine lv_bipush (v := 10) hx hb dX0_power_0 (by decide) ?_
  refine lv_aload_n hx hb dX0_power_2 rfl (lv_at hl 0 rfl) ?_
  refine va_get (D := D) (ci := 0) (v := .ref (a 8)) (C := RX0) (T := TX0) (N := 12) hx hb hts w_1 hown hK hP 0 rfl rfl 9 (by decide) w_0 (fun _ h9 => h9) rfl dX0_power_3 ?_
  refine lv_iload_n hx hb dX0_power_6 rfl (lv_at hl 1 rfl) ?_
  have g_1 := inb_vp (gb_l h)
  have h := gb_r h
  refine va_iald hx hb hK hP 8 0 rfl rfl g_1 dX0_power_7 ?_
  refine lv_iadd hx hb dX0_power_8 ?_
  refine lv_topi (fun v_2 ev_2 => ?_)
  have h := nm_l h ev_2
  refine lv_istore_n (lv' := [(2, .int v_2), (0, .ref (a 0)), (1, .int p1)]) hx hb dX0_power_9 rfl hl (by decide) rfl (fun ls hl => ?_)
  refine lv_iload_n hx hb dX0_power_10 rfl (lv_at hl 0 rfl) ?_
  refine lv_if_le (tgt := 28) hx hb dX0_power_11 (by decide) (fun c_3 => ?_) (fun c_3 => ?_)
  · have h := it_l c_3 h
    refine lv_iconst (v := 0) hx hb dX0_power_28 (by decide) ?_
    cases h
    exact Ck_iret hx hb hr hP hD hS dX0_power_29 hlocks
  · have h := it_r c_3 h
    refine lv_bipush (v := 100) hx hb dX0_power_14 (by decide) ?_
    refine lv_aload_n hx hb dX0_power_16 rfl (lv_at hl 1 rfl) ?_
    refine va_get (D := D) (ci := 0) (v := .ref (a 3)) (C := RX0) (T := TX0) (N := 12) hx hb hts w_1 hown hK hP 0 rfl rfl 4 (by decide) w_2 (fun _ h9 => h9) rfl dX0_power_17 ?_
    refine lv_iload_n hx hb dX0_power_20 rfl (lv_at hl 2 rfl) ?_
    have g_4 := inb_vp (gb_l h)
    have h := gb_r h
    refine va_iald hx hb hK hP 3 0 rfl rfl g_4 dX0_power_21 ?_
    refine lv_imul hx hb dX0_power_22 ?_
    refine lv_iload_n hx hb dX0_power_23 rfl (lv_at hl 0 rfl) ?_
    have g_5 := nz_l (gb_l h)
    have h := gb_r h
    refine lv_idiv hx hb dX0_power_24 g_5 ?_
    refine lv_goto (tgt := 29) hx hb dX0_power_25 (by decide) ?_
    cases h
    exact Ck_iret hx hb hr hP hD hS dX0_power_29 hlocks
def f_X0_numberOf (S : StV) (p1 : Int32) (p2 : Int32) : Option (Int32) := if p2 = 0 then (gb (inb p1 6) <| some (((s_are S) p1.toNatClampNeg))) else (if p2 = 1 then (gb (inb p1 6) <| some (((s_wat S) p1.toNatClampNeg))) else (if p2 = 2 then (gb (inb p1 6) <| some (((s_sol S) p1.toNatClampNeg))) else (if p2 = 3 then (gb (inb p1 6) <| some (((s_val S) p1.toNatClampNeg))) else (if p2 = 4 then (gb (inb p1 6) <| some (((s_ble S) p1.toNatClampNeg))) else (if p2 = 5 then (gb (inb p1 6) <| some (((s_sca S) p1.toNatClampNeg))) else (if p2 = 6 then (gb (inb p1 6) <| some (((s_scl S) p1.toNatClampNeg))) else (if p2 = 7 then (gb (inb p1 6) <| some (((s_lef S) p1.toNatClampNeg))) else (if p2 = 8 then (bd (f_X0_thickness S p1) fun v_18 => some (v_18)) else (bd (f_X0_power S p1) fun v_20 => some (v_20))))))))))
set_option maxRecDepth 100000 in
set_option maxHeartbeats 4000000 in
theorem c_X0_numberOf (l : Launch) (D : va_G) (k : Nat → ClassId) (a : Nat → Nat) (S : StV) (p1 : Int32) (p2 : Int32) (o0 : Int32) (h : f_X0_numberOf S p1 p2 = some (o0)) : Ck l D (tyK k) yX0_numberOf wsX0_numberOf ({ frames := 1, cells := 0, slots := 0, locals := 22 } : Room) [.ref (a 0), .int p1, .int p2] (stW k a S) (some (.int o0)) (stW k a S) := by
  refine Ck_of (cc := cX0_numberOf) (maxL := 3) (ret := (some .int)) (by decide) rfl (Nat.le_of_ble_eq_true rfl) ?_
  intro p e s m args below meth c A ls hx hb hr hml hts hown hlocks hK hA hP hD hS hl
  have hl : lv_has ls 3 [(0, .ref (a 0)), (1, .int p1), (2, .int p2)] := hl
  have hP : va_P D vwCl (stW k a S) s.heap := hP
  have w_0 := hts (.fieldLink RX0 25 "EffectTrain$State" "area" "[I") (by decide +kernel)
  have w_1 : ∀ w ∈ wsX00, w ∈ wsX0_numberOf := by decide +kernel
  have w_2 := hts (.fieldLink RX0 28 "EffectTrain$State" "water" "[I") (by decide +kernel)
  have w_3 := hts (.fieldLink RX0 31 "EffectTrain$State" "solids" "[I") (by decide +kernel)
  have w_4 := hts (.fieldLink RX0 34 "EffectTrain$State" "valve" "[I") (by decide +kernel)
  have w_5 := hts (.fieldLink RX0 37 "EffectTrain$State" "bleed" "[I") (by decide +kernel)
  have w_6 := hts (.fieldLink RX0 40 "EffectTrain$State" "scale" "[I") (by decide +kernel)
  have w_7 := hts (.fieldLink RX0 43 "EffectTrain$State" "scaling" "[I") (by decide +kernel)
  have w_8 := hts (.fieldLink RX0 46 "EffectTrain$State" "left" "[I") (by decide +kernel)
  unfold f_X0_numberOf at h
  refine lv_iload_n hx hb dX0_numberOf_0 rfl (lv_at hl 2 rfl) ?_
  by_cases c_1 : p2 = 0
  · have h := it_l c_1 h
    refine lv_tableIn (tgt := 52) hx hb dX0_numberOf_1 (by rw [c_1]; decide) (by rw [c_1]; decide) (by rw [c_1]; rfl) (by decide) ?_
    refine lv_aload_n hx hb dX0_numberOf_52 rfl (lv_at hl 0 rfl) ?_
    refine va_get (D := D) (ci := 0) (v := .ref (a 3)) (C := RX0) (T := TX0) (N := 12) hx hb hts w_1 hown hK hP 0 rfl rfl 4 (by decide) w_0 (fun _ h9 => h9) rfl dX0_numberOf_53 ?_
    refine lv_iload_n hx hb dX0_numberOf_56 rfl (lv_at hl 1 rfl) ?_
    have g_2 := inb_vp (gb_l h)
    have h := gb_r h
    refine va_iald hx hb hK hP 3 0 rfl rfl g_2 dX0_numberOf_57 ?_
    cases h
    exact Ck_iret hx hb hr hP hD hS dX0_numberOf_58 hlocks
  · have h := it_r c_1 h
    by_cases c_3 : p2 = 1
    · have h := it_l c_3 h
      refine lv_tableIn (tgt := 59) hx hb dX0_numberOf_1 (by rw [c_3]; decide) (by rw [c_3]; decide) (by rw [c_3]; rfl) (by decide) ?_
      refine lv_aload_n hx hb dX0_numberOf_59 rfl (lv_at hl 0 rfl) ?_
      refine va_get (D := D) (ci := 0) (v := .ref (a 4)) (C := RX0) (T := TX0) (N := 12) hx hb hts w_1 hown hK hP 0 rfl rfl 5 (by decide) w_2 (fun _ h9 => h9) rfl dX0_numberOf_60 ?_
      refine lv_iload_n hx hb dX0_numberOf_63 rfl (lv_at hl 1 rfl) ?_
      have g_4 := inb_vp (gb_l h)
      have h := gb_r h
      refine va_iald hx hb hK hP 4 0 rfl rfl g_4 dX0_numberOf_64 ?_
      cases h
      exact Ck_iret hx hb hr hP hD hS dX0_numberOf_65 hlocks
    · have h := it_r c_3 h
      by_cases c_5 : p2 = 2
      · have h := it_l c_5 h
        refine lv_tableIn (tgt := 66) hx hb dX0_numberOf_1 (by rw [c_5]; decide) (by rw [c_5]; decide) (by rw [c_5]; rfl) (by decide) ?_
        refine lv_aload_n hx hb dX0_numberOf_66 rfl (lv_at hl 0 rfl) ?_
        refine va_get (D := D) (ci := 0) (v := .ref (a 5)) (C := RX0) (T := TX0) (N := 12) hx hb hts w_1 hown hK hP 0 rfl rfl 6 (by decide) w_3 (fun _ h9 => h9) rfl dX0_numberOf_67 ?_
        refine lv_iload_n hx hb dX0_numberOf_70 rfl (lv_at hl 1 rfl) ?_
        have g_6 := inb_vp (gb_l h)
        have h := gb_r h
        refine va_iald hx hb hK hP 5 0 rfl rfl g_6 dX0_numberOf_71 ?_
        cases h
        exact Ck_iret hx hb hr hP hD hS dX0_numberOf_72 hlocks
      · have h := it_r c_5 h
        by_cases c_7 : p2 = 3
        · have h := it_l c_7 h
          refine lv_tableIn (tgt := 73) hx hb dX0_numberOf_1 (by rw [c_7]; decide) (by rw [c_7]; decide) (by rw [c_7]; rfl) (by decide) ?_
          refine lv_aload_n hx hb dX0_numberOf_73 rfl (lv_at hl 0 rfl) ?_
          refine va_get (D := D) (ci := 0) (v := .ref (a 6)) (C := RX0) (T := TX0) (N := 12) hx hb hts w_1 hown hK hP 0 rfl rfl 7 (by decide) w_4 (fun _ h9 => h9) rfl dX0_numberOf_74 ?_
          refine lv_iload_n hx hb dX0_numberOf_77 rfl (lv_at hl 1 rfl) ?_
          have g_8 := inb_vp (gb_l h)
          have h := gb_r h
          refine va_iald hx hb hK hP 6 0 rfl rfl g_8 dX0_numberOf_78 ?_
          cases h
          exact Ck_iret hx hb hr hP hD hS dX0_numberOf_79 hlocks
        · have h := it_r c_7 h
          by_cases c_9 : p2 = 4
          · have h := it_l c_9 h
            refine lv_tableIn (tgt := 80) hx hb dX0_numberOf_1 (by rw [c_9]; decide) (by rw [c_9]; decide) (by rw [c_9]; rfl) (by decide) ?_
            refine lv_aload_n hx hb dX0_numberOf_80 rfl (lv_at hl 0 rfl) ?_
            refine va_get (D := D) (ci := 0) (v := .ref (a 7)) (C := RX0) (T := TX0) (N := 12) hx hb hts w_1 hown hK hP 0 rfl rfl 8 (by decide) w_5 (fun _ h9 => h9) rfl dX0_numberOf_81 ?_
            refine lv_iload_n hx hb dX0_numberOf_84 rfl (lv_at hl 1 rfl) ?_
            have g_10 := inb_vp (gb_l h)
            have h := gb_r h
            refine va_iald hx hb hK hP 7 0 rfl rfl g_10 dX0_numberOf_85 ?_
            cases h
            exact Ck_iret hx hb hr hP hD hS dX0_numberOf_86 hlocks
          · have h := it_r c_9 h
            by_cases c_11 : p2 = 5
            · have h := it_l c_11 h
              refine lv_tableIn (tgt := 87) hx hb dX0_numberOf_1 (by rw [c_11]; decide) (by rw [c_11]; decide) (by rw [c_11]; rfl) (by decide) ?_
              refine lv_aload_n hx hb dX0_numberOf_87 rfl (lv_at hl 0 rfl) ?_
              refine va_get (D := D) (ci := 0) (v := .ref (a 8)) (C := RX0) (T := TX0) (N := 12) hx hb hts w_1 hown hK hP 0 rfl rfl 9 (by decide) w_6 (fun _ h9 => h9) rfl dX0_numberOf_88 ?_
              refine lv_iload_n hx hb dX0_numberOf_91 rfl (lv_at hl 1 rfl) ?_
              have g_12 := inb_vp (gb_l h)
              have h := gb_r h
              refine va_iald hx hb hK hP 8 0 rfl rfl g_12 dX0_numberOf_92 ?_
              cases h
              exact Ck_iret hx hb hr hP hD hS dX0_numberOf_93 hlocks
            · have h := it_r c_11 h
              by_cases c_13 : p2 = 6
              · have h := it_l c_13 h
                refine lv_tableIn (tgt := 94) hx hb dX0_numberOf_1 (by rw [c_13]; decide) (by rw [c_13]; decide) (by rw [c_13]; rfl) (by decide) ?_
                refine lv_aload_n hx hb dX0_numberOf_94 rfl (lv_at hl 0 rfl) ?_
                refine va_get (D := D) (ci := 0) (v := .ref (a 9)) (C := RX0) (T := TX0) (N := 12) hx hb hts w_1 hown hK hP 0 rfl rfl 10 (by decide) w_7 (fun _ h9 => h9) rfl dX0_numberOf_95 ?_
                refine lv_iload_n hx hb dX0_numberOf_98 rfl (lv_at hl 1 rfl) ?_
                have g_14 := inb_vp (gb_l h)
                have h := gb_r h
                refine va_iald hx hb hK hP 9 0 rfl rfl g_14 dX0_numberOf_99 ?_
                cases h
                exact Ck_iret hx hb hr hP hD hS dX0_numberOf_100 hlocks
              · have h := it_r c_13 h
                by_cases c_15 : p2 = 7
                · have h := it_l c_15 h
                  refine lv_tableIn (tgt := 101) hx hb dX0_numberOf_1 (by rw [c_15]; decide) (by rw [c_15]; decide) (by rw [c_15]; rfl) (by decide) ?_
                  refine lv_aload_n hx hb dX0_numberOf_101 rfl (lv_at hl 0 rfl) ?_
                  refine va_get (D := D) (ci := 0) (v := .ref (a 10)) (C := RX0) (T := TX0) (N := 12) hx hb hts w_1 hown hK hP 0 rfl rfl 11 (by decide) w_8 (fun _ h9 => h9) rfl dX0_numberOf_102 ?_
                  refine lv_iload_n hx hb dX0_numberOf_105 rfl (lv_at hl 1 rfl) ?_
                  have g_16 := inb_vp (gb_l h)
                  have h := gb_r h
                  refine va_iald hx hb hK hP 10 0 rfl rfl g_16 dX0_numberOf_106 ?_
                  cases h
                  exact Ck_iret hx hb hr hP hD hS dX0_numberOf_107 hlocks
                · have h := it_r c_15 h
                  by_cases c_17 : p2 = 8
                  · have h := it_l c_17 h
                    refine lv_tableIn (tgt := 108) hx hb dX0_numberOf_1 (by rw [c_17]; decide) (by rw [c_17]; decide) (by rw [c_17]; rfl) (by decide) ?_
                    refine lv_aload_n hx hb dX0_numberOf_108 rfl (lv_at hl 0 rfl) ?_
                    refine lv_iload_n hx hb dX0_numberOf_109 rfl (lv_at hl 1 rfl) ?_
                    obtain ⟨v_18, hv_19, h⟩ := bd_l h
                    refine Ck_V (As := [.int p1]) (rest := []) (wc := stW k a S) (wc' := stW k a S) (w0' := stW k a S) ⟨hx, hb, hml, hown, hts⟩ (c_X0_thickness l D k a S p1 v_18 hv_19) (cwV 1 hts gX0_numberOf_X0_thickness rfl rfl rfl (by decide +kernel) ⟨Nat.le_of_ble_eq_true rfl, Nat.le_of_ble_eq_true rfl⟩) hK hP hD hS hA (q0 := 0) (ci := 0) rfl rfl [0, 1, 2, 3, 4, 5, 6, 7, 8, 9, 10] rfl (by decide) rfl rfl rfl hl.1 rfl (Nat.le_of_ble_eq_true rfl) dX0_numberOf_110 ⟨Nat.le_of_ble_eq_true rfl, Nat.le_of_ble_eq_true rfl⟩ (fun H locs hP hD hS => ?_)
                    refine W.eq (g2 := F0 m 113 ls [.int v_18]) rfl ?_
                    cases h
                    exact Ck_iret hx hb hr hP hD hS dX0_numberOf_113 hlocks
                  · have h := it_r c_17 h
                    have n_c_1 : ¬ p2.toInt = 0 := fun z9 => c_1 (Int32.toInt_inj.mp (z9.trans (by decide)))
                    have n_c_3 : ¬ p2.toInt = 1 := fun z9 => c_3 (Int32.toInt_inj.mp (z9.trans (by decide)))
                    have n_c_5 : ¬ p2.toInt = 2 := fun z9 => c_5 (Int32.toInt_inj.mp (z9.trans (by decide)))
                    have n_c_7 : ¬ p2.toInt = 3 := fun z9 => c_7 (Int32.toInt_inj.mp (z9.trans (by decide)))
                    have n_c_9 : ¬ p2.toInt = 4 := fun z9 => c_9 (Int32.toInt_inj.mp (z9.trans (by decide)))
                    have n_c_11 : ¬ p2.toInt = 5 := fun z9 => c_11 (Int32.toInt_inj.mp (z9.trans (by decide)))
                    have n_c_13 : ¬ p2.toInt = 6 := fun z9 => c_13 (Int32.toInt_inj.mp (z9.trans (by decide)))
                    have n_c_15 : ¬ p2.toInt = 7 := fun z9 => c_15 (Int32.toInt_inj.mp (z9.trans (by decide)))
                    have n_c_17 : ¬ p2.toInt = 8 := fun z9 => c_17 (Int32.toInt_inj.mp (z9.trans (by decide)))
                    refine lv_tableOut (tgt := 114) hx hb dX0_numberOf_1 (by omega) (by decide) ?_
                    refine lv_aload_n hx hb dX0_numberOf_114 rfl (lv_at hl 0 rfl) ?_
                    refine lv_iload_n hx hb dX0_numberOf_115 rfl (lv_at hl 1 rfl) ?_
                    obtain ⟨v_20, hv_21, h⟩ := bd_l h
                    refine Ck_V (As := [.int p1]) (rest := []) (wc := stW k a S) (wc' := stW k a S) (w0' := stW k a S) ⟨hx, hb, hml, hown, hts⟩ (c_X0_power l D k a S p1 v_20 hv_21) (cwV 1 hts gX0_numberOf_X0_power rfl rfl rfl (by decide +kernel) ⟨Nat.le_of_ble_eq_true rfl, Nat.le_of_ble_eq_true rfl⟩) hK hP hD hS hA (q0 := 0) (ci := 0) rfl rfl [0, 1, 2, 3, 4, 5, 6, 7, 8, 9, 10] rfl (by decide) rfl rfl rfl hl.1 rfl (Nat.le_of_ble_eq_true rfl) dX0_numberOf_116 ⟨Nat.le_of_ble_eq_true rfl, Nat.le_of_ble_eq_true rfl⟩ (fun H locs hP hD hS => ?_)
                    refine W.eq (g2 := F0 m 119 ls [.int v_20]) rfl ?_
                    cases h
                    exact Ck_iret hx hb hr hP hD hS dX0_numberOf_119 hlocks
def f_X0_allWater_4 (S : StV) : Nat → Int32 → Int32 → Option (Int32)
  | 0, _, _ => none
  | fu + 1, x1_4, x2_4 => if (s_n S) ≤ x2_4 then (some (x1_4)) else (gb (inb x2_4 6) <| nm (x1_4 + ((s_wat S) x2_4.toNatClampNeg)) fun v_3 => (f_X0_allWater_4 S fu) v_3 (x2_4 + 1))
def f_X0_allWater (S : StV) : Option (Int32) := f_X0_allWater_4 S 2000 0 0
set_option maxRecDepth 100000 in
set_option maxHeartbeats 4000000 in
theorem c_X0_allWater (l : Launch) (D : va_G) (k : Nat → ClassId) (a : Nat → Nat) (S : StV) (o0 : Int32) (h : f_X0_allWater S = some (o0)) : Ck l D (tyK k) yX0_allWater wsX0_allWater ({ frames := 0, cells := 0, slots := 0, locals := 0 } : Room) [.ref (a 0)] (stW k a S) (some (.int o0)) (stW k a S) := by
  refine Ck_of (cc := cX0_allWater) (maxL := 3) (ret := (some .int)) (by decide) rfl (Nat.le_of_ble_eq_true rfl) ?_
  intro p e s m args below meth c A ls hx hb hr hml hts hown hlocks hK hA hP hD hS hl
  have hl : lv_has ls 3 [(0, .ref (a 0))] := hl
  have hP : va_P D vwCl (stW k a S) s.heap := hP
  have w_0 := hts (.fieldLink RX0 9 "EffectTrain$State" "n" "I") (by decide +kernel)
  have w_1 : ∀ w ∈ wsX00, w ∈ wsX0_allWater := by decide +kernel
  have w_2 := hts (.fieldLink RX0 28 "EffectTrain$State" "water" "[I") (by decide +kernel)
  unfold f_X0_allWater at h
  have hC_4 : ∀ (fu_4 : Nat) (x1_4 : Int32) (x2_4 : Int32) (H : Heap) (locs : List Loc) (ls : Array Slot), va_P D vwCl (stW k a S) H → va_D A (stW k a S) → va_S A s.heap H locs → lv_has ls 3 [(0, .ref (a 0)), (1, .int x1_4), (2, .int x2_4)] → f_X0_allWater_4 S fu_4 x1_4 x2_4 = some (o0) → W p l e ({ frames := 0, cells := 0, slots := 0, locals := 0 } : Room) s m args below meth c H locs 0 0 (MQ below (Qk D A (some (.int o0)) (stW k a S)) args s 0 0 A) (F0 m 4 ls []) := by
    intro fu_4
    induction fu_4 with
    | zero => intro x1_4 x2_4 H locs ls _ _ _ _ h; exact (no_l h).elim
    | succ fu_4 ih_4 =>
      intro x1_4 x2_4 H locs ls hP hD hS hl h
      rw [f_X0_allWater_4] at h
      refine lv_iload_n hx hb dX0_allWater_4 rfl (lv_at hl 2 rfl) ?_
      refine lv_aload_n hx hb dX0_allWater_5 rfl (lv_at hl 0 rfl) ?_
      refine va_get (D := D) (ci := 0) (v := .int (s_n S)) (C := RX0) (T := TX0) (N := 12) hx hb hts w_1 hown hK hP 0 rfl rfl 0 (by decide) w_0 (fun _ h9 => h9) rfl dX0_allWater_6 ?_
      refine lv_icmp_ge (tgt := 27) hx hb dX0_allWater_9 (by decide) (fun c_1 => ?_) (fun c_1 => ?_)
      · have h := it_l c_1 h
        refine lv_iload_n hx hb dX0_allWater_27 rfl (lv_at hl 1 rfl) ?_
        cases h
        exact Ck_iret hx hb hr hP hD hS dX0_allWater_28 hlocks
      · have h := it_r c_1 h
        refine lv_iload_n hx hb dX0_allWater_12 rfl (lv_at hl 1 rfl) ?_
        refine lv_aload_n hx hb dX0_allWater_13 rfl (lv_at hl 0 rfl) ?_
        refine va_get (D := D) (ci := 0) (v := .ref (a 4)) (C := RX0) (T := TX0) (N := 12) hx hb hts w_1 hown hK hP 0 rfl rfl 5 (by decide) w_2 (fun _ h9 => h9) rfl dX0_allWater_14 ?_
        refine lv_iload_n hx hb dX0_allWater_17 rfl (lv_at hl 2 rfl) ?_
        have g_2 := inb_vp (gb_l h)
        have h := gb_r h
        refine va_iald hx hb hK hP 4 0 rfl rfl g_2 dX0_allWater_18 ?_
        refine lv_iadd hx hb dX0_allWater_19 ?_
        refine lv_topi (fun v_3 ev_3 => ?_)
        have h := nm_l h ev_3
        refine lv_istore_n (lv' := [(1, .int v_3), (0, .ref (a 0)), (2, .int x2_4)]) hx hb dX0_allWater_20 rfl hl (by decide) rfl (fun ls hl => ?_)
        refine lv_iinc (v := (x2_4 + 1)) (lv' := [(2, .int (x2_4 + 1)), (1, .int v_3), (0, .ref (a 0))]) hx hb dX0_allWater_21 hl (k := 2) rfl rfl (by decide) rfl (fun ls hl => ?_)
        refine lv_goto (tgt := 4) hx hb dX0_allWater_24 (by decide) ?_
        exact ih_4 v_3 (x2_4 + 1) _ _ _ hP hD hS (lv_sub hl [2, 1, 0] rfl) h
  refine lv_iconst (v := 0) hx hb dX0_allWater_0 (by decide) ?_
  refine lv_istore_n (lv' := [(1, .int 0), (0, .ref (a 0))]) hx hb dX0_allWater_1 rfl hl (by decide) rfl (fun ls hl => ?_)
  refine lv_iconst (v := 0) hx hb dX0_allWater_2 (by decide) ?_
  refine lv_istore_n (lv' := [(2, .int 0), (1, .int 0), (0, .ref (a 0))]) hx hb dX0_allWater_3 rfl hl (by decide) rfl (fun ls hl => ?_)
  exact hC_4 2000 0 0 _ _ _ hP hD hS (lv_sub hl [2, 1, 0] rfl) h
def f_X0_allSolids_4 (S : StV) : Nat → Int32 → Int32 → Option (Int32)
  | 0, _, _ => none
  | fu + 1, x1_4, x2_4 => if (s_n S) ≤ x2_4 then (some (x1_4)) else (gb (inb x2_4 6) <| nm (x1_4 + ((s_sol S) x2_4.toNatClampNeg)) fun v_3 => (f_X0_allSolids_4 S fu) v_3 (x2_4 + 1))
def f_X0_allSolids (S : StV) : Option (Int32) := f_X0_allSolids_4 S 2000 0 0
set_option maxRecDepth 100000 in
set_option maxHeartbeats 4000000 in
theorem c_X0_allSolids (l : Launch) (D : va_G) (k : Nat → ClassId) (a : Nat → Nat) (S : StV) (o0 : Int32) (h : f_X0_allSolids S = some (o0)) : Ck l D (tyK k) yX0_allSolids wsX0_allSolids ({ frames := 0, cells := 0, slots := 0, locals := 0 } : Room) [.ref (a 0)] (stW k a S) (some (.int o0)) (stW k a S) := by
  refine Ck_of (cc := cX0_allSolids) (maxL := 3) (ret := (some .int)) (by decide) rfl (Nat.le_of_ble_eq_true rfl) ?_
  intro p e s m args below meth c A ls hx hb hr hml hts hown hlocks hK hA hP hD hS hl
  have hl : lv_has ls 3 [(0, .ref (a 0))] := hl
  have hP : va_P D vwCl (stW k a S) s.heap := hP
  have w_0 := hts (.fieldLink RX0 9 "EffectTrain$State" "n" "I") (by decide +kernel)
  have w_1 : ∀ w ∈ wsX00, w ∈ wsX0_allSolids := by decide +kernel
  have w_2 := hts (.fieldLink RX0 31 "EffectTrain$State" "solids" "[I") (by decide +kernel)
  unfold f_X0_allSolids at h
  have hC_4 : ∀ (fu_4 : Nat) (x1_4 : Int32) (x2_4 : Int32) (H : Heap) (locs : List Loc) (ls : Array Slot), va_P D vwCl (stW k a S) H → va_D A (stW k a S) → va_S A s.heap H locs → lv_has ls 3 [(0, .ref (a 0)), (1, .int x1_4), (2, .int x2_4)] → f_X0_allSolids_4 S fu_4 x1_4 x2_4 = some (o0) → W p l e ({ frames := 0, cells := 0, slots := 0, locals := 0 } : Room) s m args below meth c H locs 0 0 (MQ below (Qk D A (some (.int o0)) (stW k a S)) args s 0 0 A) (F0 m 4 ls []) := by
    intro fu_4
    induction fu_4 with
    | zero => intro x1_4 x2_4 H locs ls _ _ _ _ h; exact (no_l h).elim
    | succ fu_4 ih_4 =>
      intro x1_4 x2_4 H locs ls hP hD hS hl h
      rw [f_X0_allSolids_4] at h
      refine lv_iload_n hx hb dX0_allSolids_4 rfl (lv_at hl 2 rfl) ?_
      refine lv_aload_n hx hb dX0_allSolids_5 rfl (lv_at hl 0 rfl) ?_
      refine va_get (D := D) (ci := 0) (v := .int (s_n S)) (C := RX0) (T := TX0) (N := 12) hx hb hts w_1 hown hK hP 0 rfl rfl 0 (by decide) w_0 (fun _ h9 => h9) rfl dX0_allSolids_6 ?_
      refine lv_icmp_ge (tgt := 27) hx hb dX0_allSolids_9 (by decide) (fun c_1 => ?_) (fun c_1 => ?_)
      · have h := it_l c_1 h
        refine lv_iload_n hx hb dX0_allSolids_27 rfl (lv_at hl 1 rfl) ?_
        cases h
        exact Ck_iret hx hb hr hP hD hS dX0_allSolids_28 hlocks
      · have h := it_r c_1 h
        refine lv_iload_n hx hb dX0_allSolids_12 rfl (lv_at hl 1 rfl) ?_
        refine lv_aload_n hx hb dX0_allSolids_13 rfl (lv_at hl 0 rfl) ?_
        refine va_get (D := D) (ci := 0) (v := .ref (a 5)) (C := RX0) (T := TX0) (N := 12) hx hb hts w_1 hown hK hP 0 rfl rfl 6 (by decide) w_2 (fun _ h9 => h9) rfl dX0_allSolids_14 ?_
        refine lv_iload_n hx hb dX0_allSolids_17 rfl (lv_at hl 2 rfl) ?_
        have g_2 := inb_vp (gb_l h)
        have h := gb_r h
        refine va_iald hx hb hK hP 5 0 rfl rfl g_2 dX0_allSolids_18 ?_
        refine lv_iadd hx hb dX0_allSolids_19 ?_
        refine lv_topi (fun v_3 ev_3 => ?_)
        have h := nm_l h ev_3
        refine lv_istore_n (lv' := [(1, .int v_3), (0, .ref (a 0)), (2, .int x2_4)]) hx hb dX0_allSolids_20 rfl hl (by decide) rfl (fun ls hl => ?_)
        refine lv_iinc (v := (x2_4 + 1)) (lv' := [(2, .int (x2_4 + 1)), (1, .int v_3), (0, .ref (a 0))]) hx hb dX0_allSolids_21 hl (k := 2) rfl rfl (by decide) rfl (fun ls hl => ?_)
        refine lv_goto (tgt := 4) hx hb dX0_allSolids_24 (by decide) ?_
        exact ih_4 v_3 (x2_4 + 1) _ _ _ hP hD hS (lv_sub hl [2, 1, 0] rfl) h
  refine lv_iconst (v := 0) hx hb dX0_allSolids_0 (by decide) ?_
  refine lv_istore_n (lv' := [(1, .int 0), (0, .ref (a 0))]) hx hb dX0_allSolids_1 rfl hl (by decide) rfl (fun ls hl => ?_)
  refine lv_iconst (v := 0) hx hb dX0_allSolids_2 (by decide) ?_
  refine lv_istore_n (lv' := [(2, .int 0), (1, .int 0), (0, .ref (a 0))]) hx hb dX0_allSolids_3 rfl hl (by decide) rfl (fun ls hl => ?_)
  exact hC_4 2000 0 0 _ _ _ hP hD hS (lv_sub hl [2, 1, 0] rfl) h
def f_X0_washedEffects_4 (S : StV) : Nat → Int32 → Int32 → Option (Int32)
  | 0, _, _ => none
  | fu + 1, x1_4, x2_4 => if (s_n S) ≤ x2_4 then (some (x1_4)) else (gb (inb x2_4 6) <| if ((s_lef S) x2_4.toNatClampNeg) ≤ 0 then ((f_X0_washedEffects_4 S fu) x1_4 (x2_4 + 1)) else ((f_X0_washedEffects_4 S fu) (x1_4 + 1) (x2_4 + 1)))
def f_X0_washedEffects (S : StV) : Option (Int32) := f_X0_washedEffects_4 S 2000 0 0
set_option maxRecDepth 100000 in
set_option maxHeartbeats 4000000 in
theorem c_X0_washedEffects (l : Launch) (D : va_G) (k : Nat → ClassId) (a : Nat → Nat) (S : StV) (o0 : Int32) (h : f_X0_washedEffects S = some (o0)) : Ck l D (tyK k) yX0_washedEffects wsX0_washedEffects ({ frames := 0, cells := 0, slots := 0, locals := 0 } : Room) [.ref (a 0)] (stW k a S) (some (.int o0)) (stW k a S) := by
  refine Ck_of (cc := cX0_washedEffects) (maxL := 3) (ret := (some .int)) (by decide) rfl (Nat.le_of_ble_eq_true rfl) ?_
  intro p e s m args below meth c A ls hx hb hr hml hts hown hlocks hK hA hP hD hS hl
  have hl : lv_has ls 3 [(0, .ref (a 0))] := hl
  have hP : va_P D vwCl (stW k a S) s.heap := hP
  have w_0 := hts (.fieldLink RX0 9 "EffectTrain$State" "n" "I") (by decide +kernel)
  have w_1 : ∀ w ∈ wsX00, w ∈ wsX0_washedEffects := by decide +kernel
  have w_2 := hts (.fieldLink RX0 46 "EffectTrain$State" "left" "[I") (by decide +kernel)
  unfold f_X0_washedEffects at h
  have hC_4 : ∀ (fu_4 : Nat) (x1_4 : Int32) (x2_4 : Int32) (H : Heap) (locs : List Loc) (ls : Array Slot), va_P D vwCl (stW k a S) H → va_D A (stW k a S) → va_S A s.heap H locs → lv_has ls 3 [(0, .ref (a 0)), (1, .int x1_4), (2, .int x2_4)] → f_X0_washedEffects_4 S fu_4 x1_4 x2_4 = some (o0) → W p l e ({ frames := 0, cells := 0, slots := 0, locals := 0 } : Room) s m args below meth c H locs 0 0 (MQ below (Qk D A (some (.int o0)) (stW k a S)) args s 0 0 A) (F0 m 4 ls []) := by
    intro fu_4
    induction fu_4 with
    | zero => intro x1_4 x2_4 H locs ls _ _ _ _ h; exact (no_l h).elim
    | succ fu_4 ih_4 =>
      intro x1_4 x2_4 H locs ls hP hD hS hl h
      rw [f_X0_washedEffects_4] at h
      refine lv_iload_n hx hb dX0_washedEffects_4 rfl (lv_at hl 2 rfl) ?_
      refine lv_aload_n hx hb dX0_washedEffects_5 rfl (lv_at hl 0 rfl) ?_
      refine va_get (D := D) (ci := 0) (v := .int (s_n S)) (C := RX0) (T := TX0) (N := 12) hx hb hts w_1 hown hK hP 0 rfl rfl 0 (by decide) w_0 (fun _ h9 => h9) rfl dX0_washedEffects_6 ?_
      refine lv_icmp_ge (tgt := 30) hx hb dX0_washedEffects_9 (by decide) (fun c_1 => ?_) (fun c_1 => ?_)
      · have h := it_l c_1 h
        refine lv_iload_n hx hb dX0_washedEffects_30 rfl (lv_at hl 1 rfl) ?_
        cases h
        exact Ck_iret hx hb hr hP hD hS dX0_washedEffects_31 hlocks
      · have h := it_r c_1 h
        refine lv_aload_n hx hb dX0_washedEffects_12 rfl (lv_at hl 0 rfl) ?_
        refine va_get (D := D) (ci := 0) (v := .ref (a 10)) (C := RX0) (T := TX0) (N := 12) hx hb hts w_1 hown hK hP 0 rfl rfl 11 (by decide) w_2 (fun _ h9 => h9) rfl dX0_washedEffects_13 ?_
        refine lv_iload_n hx hb dX0_washedEffects_16 rfl (lv_at hl 2 rfl) ?_
        have g_2 := inb_vp (gb_l h)
        have h := gb_r h
        refine va_iald hx hb hK hP 10 0 rfl rfl g_2 dX0_washedEffects_17 ?_
        refine lv_if_le (tgt := 24) hx hb dX0_washedEffects_18 (by decide) (fun c_3 => ?_) (fun c_3 => ?_)
        · have h := it_l c_3 h
          refine lv_iinc (v := (x2_4 + 1)) (lv' := [(2, .int (x2_4 + 1)), (0, .ref (a 0)), (1, .int x1_4)]) hx hb dX0_washedEffects_24 hl (k := 2) rfl rfl (by decide) rfl (fun ls hl => ?_)
          refine lv_goto (tgt := 4) hx hb dX0_washedEffects_27 (by decide) ?_
          exact ih_4 x1_4 (x2_4 + 1) _ _ _ hP hD hS (lv_sub hl [1, 2, 0] rfl) h
        · have h := it_r c_3 h
          refine lv_iinc (v := (x1_4 + 1)) (lv' := [(1, .int (x1_4 + 1)), (0, .ref (a 0)), (2, .int x2_4)]) hx hb dX0_washedEffects_21 hl (k := 1) rfl rfl (by decide) rfl (fun ls hl => ?_)
          refine lv_iinc (v := (x2_4 + 1)) (lv' := [(2, .int (x2_4 + 1)), (1, .int (x1_4 + 1)), (0, .ref (a 0))]) hx hb dX0_washedEffects_24 hl (k := 2) rfl rfl (by decide) rfl (fun ls hl => ?_)
          refine lv_goto (tgt := 4) hx hb dX0_washedEffects_27 (by decide) ?_
          exact ih_4 (x1_4 + 1) (x2_4 + 1) _ _ _ hP hD hS (lv_sub hl [2, 1, 0] rfl) h
  refine lv_iconst (v := 0) hx hb dX0_washedEffects_0 (by decide) ?_
  refine lv_istore_n (lv' := [(1, .int 0), (0, .ref (a 0))]) hx hb dX0_washedEffects_1 rfl hl (by decide) rfl (fun ls hl => ?_)
  refine lv_iconst (v := 0) hx hb dX0_washedEffects_2 (by decide) ?_
  refine lv_istore_n (lv' := [(2, .int 0), (1, .int 0), (0, .ref (a 0))]) hx hb dX0_washedEffects_3 rfl hl (by decide) rfl (fun ls hl => ?_)
  exact hC_4 2000 0 0 _ _ _ hP hD hS (lv_sub hl [2, 1, 0] rfl) h
def f_X0_effectBehind_4 (S : StV) : Nat → Int32 → Option (Int32)
  | 0, _ => none
  | fu + 1, x2_4 => if (s_n S) ≤ x2_4 then (some ((-9))) else (gb (inb x2_4 6) <| if ((s_lef S) x2_4.toNatClampNeg) = 0 then (some (x2_4)) else ((f_X0_effectBehind_4 S fu) (x2_4 + 1)))
def f_X0_effectBehind (S : StV) (p1 : Int32) : Option (Int32) := nm (p1 + 1) fun v_4 => f_X0_effectBehind_4 S 2000 v_4
set_option maxRecDepth 100000 in
set_option maxHeartbeats 4000000 in
theorem c_X0_effectBehind (l : Launch) (D : va_G) (k : Nat → ClassId) (a : Nat → Nat) (S : StV) (p1 : Int32) (o0 : Int32) (h : f_X0_effectBehind S p1 = some (o0)) : Ck l D (tyK k) yX0_effectBehind wsX0_effectBehind ({ frames := 0, cells := 0, slots := 0, locals := 0 } : Room) [.ref (a 0), .int p1] (stW k a S) (some (.int o0)) (stW k a S) := by
  refine Ck_of (cc := cX0_effectBehind) (maxL := 3) (ret := (some .int)) (by decide) rfl (Nat.le_of_ble_eq_true rfl) ?_
  intro p e s m args below meth c A ls hx hb hr hml hts hown hlocks hK hA hP hD hS hl
  have hl : lv_has ls 3 [(0, .ref (a 0)), (1, .int p1)] := hl
  have hP : va_P D vwCl (stW k a S) s.heap := hP
  have w_0 := hts (.fieldLink RX0 9 "EffectTrain$State" "n" "I") (by decide +kernel)
  have w_1 : ∀ w ∈ wsX00, w ∈ wsX0_effectBehind := by decide +kernel
  have w_2 := hts (.fieldLink RX0 46 "EffectTrain$State" "left" "[I") (by decide +kernel)
  unfold f_X0_effectBehind at h
  have hC_4 : ∀ (fu_4 : Nat) (x2_4 : Int32) (H : Heap) (locs : List Loc) (ls : Array Slot), va_P D vwCl (stW k a S) H → va_D A (stW k a S) → va_S A s.heap H locs → lv_has ls 3 [(0, .ref (a 0)), (2, .int x2_4)] → f_X0_effectBehind_4 S fu_4 x2_4 = some (o0) → W p l e ({ frames := 0, cells := 0, slots := 0, locals := 0 } : Room) s m args below meth c H locs 0 0 (MQ below (Qk D A (some (.int o0)) (stW k a S)) args s 0 0 A) (F0 m 4 ls []) := by
    intro fu_4
    induction fu_4 with
    | zero => intro x2_4 H locs ls _ _ _ _ h; exact (no_l h).elim
    | succ fu_4 ih_4 =>
      intro x2_4 H locs ls hP hD hS hl h
      rw [f_X0_effectBehind_4] at h
      refine lv_iload_n hx hb dX0_effectBehind_4 rfl (lv_at hl 1 rfl) ?_
      refine lv_aload_n hx hb dX0_effectBehind_5 rfl (lv_at hl 0 rfl) ?_
      refine va_get (D := D) (ci := 0) (v := .int (s_n S)) (C := RX0) (T := TX0) (N := 12) hx hb hts w_1 hown hK hP 0 rfl rfl 0 (by decide) w_0 (fun _ h9 => h9) rfl dX0_effectBehind_6 ?_
      refine lv_icmp_ge (tgt := 29) hx hb dX0_effectBehind_9 (by decide) (fun c_1 => ?_) (fun c_1 => ?_)
      · have h := it_l c_1 h
        refine lv_bipush (v := (-9)) hx hb dX0_effectBehind_29 (by decide) ?_
        cases h
        exact Ck_iret hx hb hr hP hD hS dX0_effectBehind_31 hlocks
      · have h := it_r c_1 h
        refine lv_aload_n hx hb dX0_effectBehind_12 rfl (lv_at hl 0 rfl) ?_
        refine va_get (D := D) (ci := 0) (v := .ref (a 10)) (C := RX0) (T := TX0) (N := 12) hx hb hts w_1 hown hK hP 0 rfl rfl 11 (by decide) w_2 (fun _ h9 => h9) rfl dX0_effectBehind_13 ?_
        refine lv_iload_n hx hb dX0_effectBehind_16 rfl (lv_at hl 1 rfl) ?_
        have g_2 := inb_vp (gb_l h)
        have h := gb_r h
        refine va_iald hx hb hK hP 10 0 rfl rfl g_2 dX0_effectBehind_17 ?_
        refine lv_if_ne (tgt := 23) hx hb dX0_effectBehind_18 (by decide) (fun c_3 => ?_) (fun c_3 => ?_)
        · have h := it_r c_3 h
          refine lv_iinc (v := (x2_4 + 1)) (lv' := [(2, .int (x2_4 + 1)), (0, .ref (a 0))]) hx hb dX0_effectBehind_23 hl (k := 1) rfl rfl (by decide) rfl (fun ls hl => ?_)
          refine lv_goto (tgt := 4) hx hb dX0_effectBehind_26 (by decide) ?_
          exact ih_4 (x2_4 + 1) _ _ _ hP hD hS (lv_sub hl [1, 0] rfl) h
        · have h := it_l c_3 h
          refine lv_iload_n hx hb dX0_effectBehind_21 rfl (lv_at hl 1 rfl) ?_
          cases h
          exact Ck_iret hx hb hr hP hD hS dX0_effectBehind_22 hlocks
  refine lv_iload_n hx hb dX0_effectBehind_0 rfl (lv_at hl 1 rfl) ?_
  refine lv_iconst (v := 1) hx hb dX0_effectBehind_1 (by decide) ?_
  refine lv_iadd hx hb dX0_effectBehind_2 ?_
  refine lv_topi (fun v_4 ev_4 => ?_)
  have h := nm_l h ev_4
  refine lv_istore_n (lv' := [(2, .int v_4), (0, .ref (a 0)), (1, .int p1)]) hx hb dX0_effectBehind_3 rfl hl (by decide) rfl (fun ls hl => ?_)
  exact hC_4 2000 v_4 _ _ _ hP hD hS (lv_sub hl [1, 0] rfl) h
def f_X0_effectBefore_4 (S : StV) : Nat → Int32 → Option (Int32)
  | 0, _ => none
  | fu + 1, x2_4 => if x2_4 < 0 then (some ((-9))) else (gb (inb x2_4 6) <| if ((s_lef S) x2_4.toNatClampNeg) = 0 then (some (x2_4)) else ((f_X0_effectBefore_4 S fu) (x2_4 + (-1))))
def f_X0_effectBefore (S : StV) (p1 : Int32) : Option (Int32) := nm (p1 - 1) fun v_4 => f_X0_effectBefore_4 S 2000 v_4
set_option maxRecDepth 100000 in
set_option maxHeartbeats 4000000 in
theorem c_X0_effectBefore (l : Launch) (D : va_G) (k : Nat → ClassId) (a : Nat → Nat) (S : StV) (p1 : Int32) (o0 : Int32) (h : f_X0_effectBefore S p1 = some (o0)) : Ck l D (tyK k) yX0_effectBefore wsX0_effectBefore ({ frames := 0, cells := 0, slots := 0, locals := 0 } : Room) [.ref (a 0), .int p1] (stW k a S) (some (.int o0)) (stW k a S) := by
  refine Ck_of (cc := cX0_effectBefore) (maxL := 3) (ret := (some .int)) (by decide) rfl (Nat.le_of_ble_eq_true rfl) ?_
  intro p e s m args below meth c A ls hx hb hr hml hts hown hlocks hK hA hP hD hS hl
  have hl : lv_has ls 3 [(0, .ref (a 0)), (1, .int p1)] := hl
  have hP : va_P D vwCl (stW k a S) s.heap := hP
  have w_0 := hts (.fieldLink RX0 46 "EffectTrain$State" "left" "[I") (by decide +kernel)
  have w_1 : ∀ w ∈ wsX00, w ∈ wsX0_effectBefore := by decide +kernel
  unfold f_X0_effectBefore at h
  have hC_4 : ∀ (fu_4 : Nat) (x2_4 : Int32) (H : Heap) (locs : List Loc) (ls : Array Slot), va_P D vwCl (stW k a S) H → va_D A (stW k a S) → va_S A s.heap H locs → lv_has ls 3 [(0, .ref (a 0)), (2, .int x2_4)] → f_X0_effectBefore_4 S fu_4 x2_4 = some (o0) → W p l e ({ frames := 0, cells := 0, slots := 0, locals := 0 } : Room) s m args below meth c H locs 0 0 (MQ below (Qk D A (some (.int o0)) (stW k a S)) args s 0 0 A) (F0 m 4 ls []) := by
    intro fu_4
    induction fu_4 with
    | zero => intro x2_4 H locs ls _ _ _ _ h; exact (no_l h).elim
    | succ fu_4 ih_4 =>
      intro x2_4 H locs ls hP hD hS hl h
      rw [f_X0_effectBefore_4] at h
      refine lv_iload_n hx hb dX0_effectBefore_4 rfl (lv_at hl 1 rfl) ?_
      refine lv_if_lt (tgt := 25) hx hb dX0_effectBefore_5 (by decide) (fun c_1 => ?_) (fun c_1 => ?_)
      · have h := it_l c_1 h
        refine lv_bipush (v := (-9)) hx hb dX0_effectBefore_25 (by decide) ?_
        cases h
        exact Ck_iret hx hb hr hP hD hS dX0_effectBefore_27 hlocks
      · have h := it_r c_1 h
        refine lv_aload_n hx hb dX0_effectBefore_8 rfl (lv_at hl 0 rfl) ?_
        refine va_get (D := D) (ci := 0) (v := .ref (a 10)) (C := RX0) (T := TX0) (N := 12) hx hb hts w_1 hown hK hP 0 rfl rfl 11 (by decide) w_0 (fun _ h9 => h9) rfl dX0_effectBefore_9 ?_
        refine lv_iload_n hx hb dX0_effectBefore_12 rfl (lv_at hl 1 rfl) ?_
        have g_2 := inb_vp (gb_l h)
        have h := gb_r h
        refine va_iald hx hb hK hP 10 0 rfl rfl g_2 dX0_effectBefore_13 ?_
        refine lv_if_ne (tgt := 19) hx hb dX0_effectBefore_14 (by decide) (fun c_3 => ?_) (fun c_3 => ?_)
        · have h := it_r c_3 h
          refine lv_iinc (v := (x2_4 + (-1))) (lv' := [(2, .int (x2_4 + (-1))), (0, .ref (a 0))]) hx hb dX0_effectBefore_19 hl (k := 1) rfl rfl (by decide) rfl (fun ls hl => ?_)
          refine lv_goto (tgt := 4) hx hb dX0_effectBefore_22 (by decide) ?_
          exact ih_4 (x2_4 + (-1)) _ _ _ hP hD hS (lv_sub hl [1, 0] rfl) h
        · have h := it_l c_3 h
          refine lv_iload_n hx hb dX0_effectBefore_17 rfl (lv_at hl 1 rfl) ?_
          cases h
          exact Ck_iret hx hb hr hP hD hS dX0_effectBefore_18 hlocks
  refine lv_iload_n hx hb dX0_effectBefore_0 rfl (lv_at hl 1 rfl) ?_
  refine lv_iconst (v := 1) hx hb dX0_effectBefore_1 (by decide) ?_
  refine lv_isub hx hb dX0_effectBefore_2 ?_
  refine lv_topi (fun v_4 ev_4 => ?_)
  have h := nm_l h ev_4
  refine lv_istore_n (lv' := [(2, .int v_4), (0, .ref (a 0)), (1, .int p1)]) hx hb dX0_effectBefore_3 rfl hl (by decide) rfl (fun ls hl => ?_)
  exact hC_4 2000 v_4 _ _ _ hP hD hS (lv_sub hl [1, 0] rfl) h
def f_X0_beginWashInTurn_32 (S : StV) : Nat → Int32 → Int32 → Option (StV)
  | 0, _, _ => none
  | fu + 1, x2_32, x3_32 => if (s_n S) ≤ x3_32 then (gb (inb x2_32 6) <| if ((s_sca S) x2_32.toNatClampNeg) ≤ 0 then (some (S)) else (gb (inb x2_32 6) <| nm (su_lef S (upd (s_lef S) x2_32.toNatClampNeg ((s_set S) 4))) fun q_5 => some (q_5))) else (gb (inb x3_32 6) <| gb (inb x2_32 6) <| if ((s_sca S) x3_32.toNatClampNeg) ≤ ((s_sca S) x2_32.toNatClampNeg) then ((f_X0_beginWashInTurn_32 S fu) x2_32 (x3_32 + 1)) else ((f_X0_beginWashInTurn_32 S fu) x3_32 (x3_32 + 1)))
def f_X0_beginWashInTurn (S : StV) : Option (StV) := nm ((s_set S) 3) fun v_9 => if v_9 = 0 then (some (S)) else (gb (nz v_9) <| if ((s_clk S) - (s_clk S) / v_9 * v_9) = 0 then (bd (f_X0_washedEffects S) fun v_13 => if v_13 ≤ 0 then (f_X0_beginWashInTurn_32 S 2000 0 1) else (some (S))) else (some (S)))
set_option maxRecDepth 100000 in
set_option maxHeartbeats 4000000 in
theorem c_X0_beginWashInTurn (l : Launch) (D : va_G) (k : Nat → ClassId) (a : Nat → Nat) (S : StV) (o0 : StV) (h : f_X0_beginWashInTurn S = some (o0)) : Ck l D (tyK k) yX0_beginWashInTurn wsX0_beginWashInTurn ({ frames := 1, cells := 0, slots := 0, locals := 22 } : Room) [.ref (a 0)] (stW k a S) none (stW k a o0) := by
  refine Ck_of (cc := cX0_beginWashInTurn) (maxL := 4) (ret := none) (by decide) rfl (Nat.le_of_ble_eq_true rfl) ?_
  intro p e s m args below meth c A ls hx hb hr hml hts hown hlocks hK hA hP hD hS hl
  have hl : lv_has ls 4 [(0, .ref (a 0))] := hl
  have hP : va_P D vwCl (stW k a S) s.heap := hP
  have w_0 := hts (.fieldLink RX0 9 "EffectTrain$State" "n" "I") (by decide +kernel)
  have w_1 : ∀ w ∈ wsX00, w ∈ wsX0_beginWashInTurn := by decide +kernel
  have w_2 := hts (.fieldLink RX0 40 "EffectTrain$State" "scale" "[I") (by decide +kernel)
  have w_3 := hts (.fieldLink RX0 46 "EffectTrain$State" "left" "[I") (by decide +kernel)
  have w_4 := hts (.fieldLink RX0 15 "EffectTrain$State" "settings" "[I") (by decide +kernel)
  have w_5 := hts (.fieldLink RX0 19 "EffectTrain$State" "clock" "I") (by decide +kernel)
  unfold f_X0_beginWashInTurn at h
  have hC_32 : ∀ (fu_32 : Nat) (x2_32 : Int32) (x3_32 : Int32) (H : Heap) (locs : List Loc) (ls : Array Slot), va_P D vwCl (stW k a S) H → va_D A (stW k a S) → va_S A s.heap H locs → lv_has ls 4 [(0, .ref (a 0)), (2, .int x2_32), (3, .int x3_32)] → f_X0_beginWashInTurn_32 S fu_32 x2_32 x3_32 = some (o0) → W p l e ({ frames := 1, cells := 0, slots := 0, locals := 22 } : Room) s m args below meth c H locs 0 0 (MQ below (Qk D A none (stW k a o0)) args s 0 0 A) (F0 m 32 ls []) := by
    intro fu_32
    induction fu_32 with
    | zero => intro x2_32 x3_32 H locs ls _ _ _ _ h; exact (no_l h).elim
    | succ fu_32 ih_32 =>
      intro x2_32 x3_32 H locs ls hP hD hS hl h
      rw [f_X0_beginWashInTurn_32] at h
      refine lv_iload_n hx hb dX0_beginWashInTurn_32 rfl (lv_at hl 2 rfl) ?_
      refine lv_aload_n hx hb dX0_beginWashInTurn_33 rfl (lv_at hl 0 rfl) ?_
      refine va_get (D := D) (ci := 0) (v := .int (s_n S)) (C := RX0) (T := TX0) (N := 12) hx hb hts w_1 hown hK hP 0 rfl rfl 0 (by decide) w_0 (fun _ h9 => h9) rfl dX0_beginWashInTurn_34 ?_
      refine lv_icmp_ge (tgt := 63) hx hb dX0_beginWashInTurn_37 (by decide) (fun c_1 => ?_) (fun c_1 => ?_)
      · have h := it_l c_1 h
        refine lv_aload_n hx hb dX0_beginWashInTurn_63 rfl (lv_at hl 0 rfl) ?_
        refine va_get (D := D) (ci := 0) (v := .ref (a 8)) (C := RX0) (T := TX0) (N := 12) hx hb hts w_1 hown hK hP 0 rfl rfl 9 (by decide) w_2 (fun _ h9 => h9) rfl dX0_beginWashInTurn_64 ?_
        refine lv_iload_n hx hb dX0_beginWashInTurn_67 rfl (lv_at hl 1 rfl) ?_
        have g_2 := inb_vp (gb_l h)
        have h := gb_r h
        refine va_iald hx hb hK hP 8 0 rfl rfl g_2 dX0_beginWashInTurn_68 ?_
        refine lv_if_le (tgt := 84) hx hb dX0_beginWashInTurn_69 (by decide) (fun c_3 => ?_) (fun c_3 => ?_)
        · have h := it_l c_3 h
          cases h
          exact Ck_vret hx hb hr hP hD hS dX0_beginWashInTurn_84 hlocks
        · have h := it_r c_3 h
          refine lv_aload_n hx hb dX0_beginWashInTurn_72 rfl (lv_at hl 0 rfl) ?_
          refine va_get (D := D) (ci := 0) (v := .ref (a 10)) (C := RX0) (T := TX0) (N := 12) hx hb hts w_1 hown hK hP 0 rfl rfl 11 (by decide) w_3 (fun _ h9 => h9) rfl dX0_beginWashInTurn_73 ?_
          refine lv_iload_n hx hb dX0_beginWashInTurn_76 rfl (lv_at hl 1 rfl) ?_
          refine lv_aload_n hx hb dX0_beginWashInTurn_77 rfl (lv_at hl 0 rfl) ?_
          refine va_get (D := D) (ci := 0) (v := .ref (a 1)) (C := RX0) (T := TX0) (N := 12) hx hb hts w_1 hown hK hP 0 rfl rfl 1 (by decide) w_4 (fun _ h9 => h9) rfl dX0_beginWashInTurn_78 ?_
          refine lv_iconst (v := 4) hx hb dX0_beginWashInTurn_81 (by decide) ?_
          refine va_iald hx hb hK hP 1 0 rfl rfl (inb_vp (by decide)) dX0_beginWashInTurn_82 ?_
          refine W.eq (g2 := F0 m 83 ls [.int ((s_set S) 4), .int x2_32, .ref (a 10)]) rfl ?_
          have g_4 := inb_vp (gb_l h)
          have h := gb_r h
          refine va_iast hx hb hK hP hD hS 10 0 rfl rfl g_4 dX0_beginWashInTurn_83 (fun H locs hP hD hS => ?_)
          obtain ⟨q_5, eq_5⟩ : ∃ y : StV, y = su_lef S (upd (s_lef S) x2_32.toNatClampNeg ((s_set S) 4)) := ⟨_, rfl⟩
          have hP : va_P D vwCl (stW k a q_5) H := by rw [eq_5, ← st_set_lef k a S _]; exact hP
          have hD : va_D A (stW k a q_5) := by rw [eq_5, ← st_set_lef k a S _]; exact hD
          have h := nm_l h eq_5
          cases h
          exact Ck_vret hx hb hr hP hD hS dX0_beginWashInTurn_84 hlocks
      · have h := it_r c_1 h
        refine lv_aload_n hx hb dX0_beginWashInTurn_40 rfl (lv_at hl 0 rfl) ?_
        refine va_get (D := D) (ci := 0) (v := .ref (a 8)) (C := RX0) (T := TX0) (N := 12) hx hb hts w_1 hown hK hP 0 rfl rfl 9 (by decide) w_2 (fun _ h9 => h9) rfl dX0_beginWashInTurn_41 ?_
        refine lv_iload_n hx hb dX0_beginWashInTurn_44 rfl (lv_at hl 2 rfl) ?_
        have g_6 := inb_vp (gb_l h)
        have h := gb_r h
        refine va_iald hx hb hK hP 8 0 rfl rfl g_6 dX0_beginWashInTurn_45 ?_
        refine lv_aload_n hx hb dX0_beginWashInTurn_46 rfl (lv_at hl 0 rfl) ?_
        refine va_get (D := D) (ci := 0) (v := .ref (a 8)) (C := RX0) (T := TX0) (N := 12) hx hb hts w_1 hown hK hP 0 rfl rfl 9 (by decide) w_2 (fun _ h9 => h9) rfl dX0_beginWashInTurn_47 ?_
        refine lv_iload_n hx hb dX0_beginWashInTurn_50 rfl (lv_at hl 1 rfl) ?_
        have g_7 := inb_vp (gb_l h)
        have h := gb_r h
        refine va_iald hx hb hK hP 8 0 rfl rfl g_7 dX0_beginWashInTurn_51 ?_
        refine lv_icmp_le (tgt := 57) hx hb dX0_beginWashInTurn_52 (by decide) (fun c_8 => ?_) (fun c_8 => ?_)
        · have h := it_l c_8 h
          refine lv_iinc (v := (x3_32 + 1)) (lv' := [(3, .int (x3_32 + 1)), (0, .ref (a 0)), (2, .int x2_32)]) hx hb dX0_beginWashInTurn_57 hl (k := 2) rfl rfl (by decide) rfl (fun ls hl => ?_)
          refine lv_goto (tgt := 32) hx hb dX0_beginWashInTurn_60 (by decide) ?_
          exact ih_32 x2_32 (x3_32 + 1) _ _ _ hP hD hS (lv_sub hl [1, 2, 0] rfl) h
        · have h := it_r c_8 h
          refine lv_iload_n hx hb dX0_beginWashInTurn_55 rfl (lv_at hl 2 rfl) ?_
          refine lv_istore_n (lv' := [(2, .int x3_32), (0, .ref (a 0)), (3, .int x3_32)]) hx hb dX0_beginWashInTurn_56 rfl hl (by decide) rfl (fun ls hl => ?_)
          refine lv_iinc (v := (x3_32 + 1)) (lv' := [(3, .int (x3_32 + 1)), (2, .int x3_32), (0, .ref (a 0))]) hx hb dX0_beginWashInTurn_57 hl (k := 2) rfl rfl (by decide) rfl (fun ls hl => ?_)
          refine lv_goto (tgt := 32) hx hb dX0_beginWashInTurn_60 (by decide) ?_
          exact ih_32 x3_32 (x3_32 + 1) _ _ _ hP hD hS (lv_sub hl [2, 1, 0] rfl) h
  refine lv_aload_n hx hb dX0_beginWashInTurn_0 rfl (lv_at hl 0 rfl) ?_
  refine va_get (D := D) (ci := 0) (v := .ref (a 1)) (C := RX0) (T := TX0) (N := 12) hx hb hts w_1 hown hK hP 0 rfl rfl 1 (by decide) w_4 (fun _ h9 => h9) rfl dX0_beginWashInTurn_1 ?_
  refine lv_iconst (v := 3) hx hb dX0_beginWashInTurn_4 (by decide) ?_
  refine va_iald hx hb hK hP 1 0 rfl rfl (inb_vp (by decide)) dX0_beginWashInTurn_5 ?_
  refine W.eq (g2 := F0 m 6 ls [.int ((s_set S) 3)]) rfl ?_
  refine lv_topi (fun v_9 ev_9 => ?_)
  have h := nm_l h ev_9
  refine lv_istore_n (lv' := [(1, .int v_9), (0, .ref (a 0))]) hx hb dX0_beginWashInTurn_6 rfl hl (by decide) rfl (fun ls hl => ?_)
  refine lv_iload_n hx hb dX0_beginWashInTurn_7 rfl (lv_at hl 0 rfl) ?_
  refine lv_if_eq (tgt := 27) hx hb dX0_beginWashInTurn_8 (by decide) (fun c_10 => ?_) (fun c_10 => ?_)
  · have h := it_l c_10 h
    cases h
    exact Ck_vret hx hb hr hP hD hS dX0_beginWashInTurn_27 hlocks
  · have h := it_r c_10 h
    refine lv_aload_n hx hb dX0_beginWashInTurn_11 rfl (lv_at hl 1 rfl) ?_
    refine va_get (D := D) (ci := 0) (v := .int (s_clk S)) (C := RX0) (T := TX0) (N := 12) hx hb hts w_1 hown hK hP 0 rfl rfl 2 (by decide) w_5 (fun _ h9 => h9) rfl dX0_beginWashInTurn_12 ?_
    refine lv_iload_n hx hb dX0_beginWashInTurn_15 rfl (lv_at hl 0 rfl) ?_
    have g_11 := nz_l (gb_l h)
    have h := gb_r h
    refine lv_irem hx hb dX0_beginWashInTurn_16 g_11 ?_
    refine lv_if_ne (tgt := 27) hx hb dX0_beginWashInTurn_17 (by decide) (fun c_12 => ?_) (fun c_12 => ?_)
    · have h := it_r c_12 h
      cases h
      exact Ck_vret hx hb hr hP hD hS dX0_beginWashInTurn_27 hlocks
    · have h := it_l c_12 h
      refine lv_aload_n hx hb dX0_beginWashInTurn_20 rfl (lv_at hl 1 rfl) ?_
      obtain ⟨v_13, hv_14, h⟩ := bd_l h
      refine Ck_V (As := []) (rest := []) (wc := stW k a S) (wc' := stW k a S) (w0' := stW k a S) ⟨hx, hb, hml, hown, hts⟩ (c_X0_washedEffects l D k a S v_13 hv_14) (cwV 0 hts gX0_beginWashInTurn_X0_washedEffects rfl rfl rfl (by decide +kernel) ⟨Nat.le_of_ble_eq_true rfl, Nat.le_of_ble_eq_true rfl⟩) hK hP hD hS hA (q0 := 0) (ci := 0) rfl rfl [0, 1, 2, 3, 4, 5, 6, 7, 8, 9, 10] rfl (by decide) rfl rfl rfl hl.1 rfl (Nat.le_of_ble_eq_true rfl) dX0_beginWashInTurn_21 ⟨Nat.le_of_ble_eq_true rfl, Nat.le_of_ble_eq_true rfl⟩ (fun H locs hP hD hS => ?_)
      refine W.eq (g2 := F0 m 24 ls [.int v_13]) rfl ?_
      refine lv_if_le (tgt := 28) hx hb dX0_beginWashInTurn_24 (by decide) (fun c_15 => ?_) (fun c_15 => ?_)
      · have h := it_l c_15 h
        refine lv_iconst (v := 0) hx hb dX0_beginWashInTurn_28 (by decide) ?_
        refine lv_istore_n (lv' := [(2, .int 0), (1, .int v_9), (0, .ref (a 0))]) hx hb dX0_beginWashInTurn_29 rfl hl (by decide) rfl (fun ls hl => ?_)
        refine lv_iconst (v := 1) hx hb dX0_beginWashInTurn_30 (by decide) ?_
        refine lv_istore_n (lv' := [(3, .int 1), (2, .int 0), (1, .int v_9), (0, .ref (a 0))]) hx hb dX0_beginWashInTurn_31 rfl hl (by decide) rfl (fun ls hl => ?_)
        exact hC_32 2000 0 1 _ _ _ hP hD hS (lv_sub hl [3, 1, 0] rfl) h
      · have h := it_r c_15 h
        cases h
        exact Ck_vret hx hb hr hP hD hS dX0_beginWashInTurn_27 hlocks
def f_X0_boil (S : StV) (p1 : Int32) (p2 : Int32) : Option (Int32 × StV) := bd (f_X0_thickness S p1) fun v_1 => bd (f_X0_power S p1) fun v_3 => nm (mn p2 v_3) fun v_5 => nm (v_5 - ((v_5 * v_1) / 200)) fun v_6 => gb (inb p1 6) <| nm (mn v_6 ((s_wat S) p1.toNatClampNeg)) fun v_8 => gb (inb p1 6) <| nm ((v_8 * ((s_ble S) p1.toNatClampNeg)) / 100) fun v_10 => gb (inb p1 6) <| gb (inb p1 6) <| nm (su_wat S (upd (s_wat S) p1.toNatClampNeg (((s_wat S) p1.toNatClampNeg) - v_8))) fun q_13 => nm (su_cou q_13 (upd (s_cou q_13) 1 (((s_cou q_13) 1) + v_8))) fun q_14 => nm (su_cou q_14 (upd (s_cou q_14) 2 (((s_cou q_14) 2) + v_10))) fun q_15 => nm (su_cou q_15 (upd (s_cou q_15) 4 (((s_cou q_15) 4) + (p2 - v_8)))) fun q_16 => gb (inb p1 6) <| nm (((s_scl q_16) p1.toNatClampNeg) + ((v_8 * v_1) / 10)) fun v_18 => gb (inb p1 6) <| nm (mn 99 (((s_sca q_16) p1.toNatClampNeg) + (v_18 / 1000))) fun v_20 => gb (inb p1 6) <| nm (su_sca q_16 (upd (s_sca q_16) p1.toNatClampNeg v_20)) fun q_22 => gb (inb p1 6) <| nm (su_scl q_22 (upd (s_scl q_22) p1.toNatClampNeg (v_18 - v_18 / 1000 * 1000))) fun q_24 => some ((v_8 - v_10), q_24)
set_option maxRecDepth 100000 in
set_option maxHeartbeats 4000000 in
theorem c_X0_boil (l : Launch) (D : va_G) (k : Nat → ClassId) (a : Nat → Nat) (S : StV) (p1 : Int32) (p2 : Int32) (o0 : Int32) (o1 : StV) (h : f_X0_boil S p1 p2 = some (o0, o1)) : Ck l D (tyK k) yX0_boil wsX0_boil ({ frames := 1, cells := 0, slots := 0, locals := 22 } : Room) [.ref (a 0), .int p1, .int p2] (stW k a S) (some (.int o0)) (stW k a o1) := by
  refine Ck_of (cc := cX0_boil) (maxL := 7) (ret := (some .int)) (by decide) rfl (Nat.le_of_ble_eq_true rfl) ?_
  intro p e s m args below meth c A ls hx hb hr hml hts hown hlocks hK hA hP hD hS hl
  have hl : lv_has ls 7 [(0, .ref (a 0)), (1, .int p1), (2, .int p2)] := hl
  have hP : va_P D vwCl (stW k a S) s.heap := hP
  have w_0 := hts (.methodLink RX0 88 Lib.Math.min.name) (by decide +kernel)
  have w_1 := hts (.static Lib.Math.min.name) (by decide +kernel)
  have w_2 := hts (.initialized "java/lang/Math") (by decide +kernel)
  have w_3 := hts (.code Lib.Math.min.name Lib.Math.min.code 2 (some .int)) (by decide +kernel)
  have w_4 := hts (.fieldLink RX0 28 "EffectTrain$State" "water" "[I") (by decide +kernel)
  have w_5 : ∀ w ∈ wsX00, w ∈ wsX0_boil := by decide +kernel
  have w_6 := hts (.fieldLink RX0 37 "EffectTrain$State" "bleed" "[I") (by decide +kernel)
  have w_7 := hts (.fieldLink RX0 22 "EffectTrain$State" "counts" "[I") (by decide +kernel)
  have w_8 := hts (.fieldLink RX0 43 "EffectTrain$State" "scaling" "[I") (by decide +kernel)
  have w_9 := hts (.fieldLink RX0 40 "EffectTrain$State" "scale" "[I") (by decide +kernel)
  unfold f_X0_boil at h
  refine lv_aload_n hx hb dX0_boil_0 rfl (lv_at hl 0 rfl) ?_
  refine lv_iload_n hx hb dX0_boil_1 rfl (lv_at hl 1 rfl) ?_
  obtain ⟨v_1, hv_2, h⟩ := bd_l h
  refine Ck_V (As := [.int p1]) (rest := []) (wc := stW k a S) (wc' := stW k a S) (w0' := stW k a S) ⟨hx, hb, hml, hown, hts⟩ (c_X0_thickness l D k a S p1 v_1 hv_2) (cwV 1 hts gX0_boil_X0_thickness rfl rfl rfl (by decide +kernel) ⟨Nat.le_of_ble_eq_true rfl, Nat.le_of_ble_eq_true rfl⟩) hK hP hD hS hA (q0 := 0) (ci := 0) rfl rfl [0, 1, 2, 3, 4, 5, 6, 7, 8, 9, 10] rfl (by decide) rfl rfl rfl hl.1 rfl (Nat.le_of_ble_eq_true rfl) dX0_boil_2 ⟨Nat.le_of_ble_eq_true rfl, Nat.le_of_ble_eq_true rfl⟩ (fun H locs hP hD hS => ?_)
  refine W.eq (g2 := F0 m 5 ls [.int v_1]) rfl ?_
  refine lv_istore_n (lv' := [(3, .int v_1), (0, .ref (a 0)), (1, .int p1), (2, .int p2)]) hx hb dX0_boil_5 rfl hl (by decide) rfl (fun ls hl => ?_)
  refine lv_iload_n hx hb dX0_boil_6 rfl (lv_at hl 3 rfl) ?_
  refine lv_aload_n hx hb dX0_boil_7 rfl (lv_at hl 1 rfl) ?_
  refine lv_iload_n hx hb dX0_boil_8 rfl (lv_at hl 2 rfl) ?_
  obtain ⟨v_3, hv_4, h⟩ := bd_l h
  refine Ck_V (As := [.int p1]) (rest := [.int p2]) (wc := stW k a S) (wc' := stW k a S) (w0' := stW k a S) ⟨hx, hb, hml, hown, hts⟩ (c_X0_power l D k a S p1 v_3 hv_4) (cwV 1 hts gX0_boil_X0_power rfl rfl rfl (by decide +kernel) ⟨Nat.le_of_ble_eq_true rfl, Nat.le_of_ble_eq_true rfl⟩) hK hP hD hS hA (q0 := 0) (ci := 0) rfl rfl [0, 1, 2, 3, 4, 5, 6, 7, 8, 9, 10] rfl (by decide) rfl rfl rfl hl.1 rfl (Nat.le_of_ble_eq_true rfl) dX0_boil_9 ⟨Nat.le_of_ble_eq_true rfl, Nat.le_of_ble_eq_true rfl⟩ (fun H locs hP hD hS => ?_)
  refine W.eq (g2 := F0 m 12 ls [.int v_3, .int p2]) rfl ?_
  refine va_mmin hx hb (hml.trans hl.1.symm) hown w_0 w_1 w_2 w_3 (Nat.le_of_ble_eq_true rfl) (Nat.le_of_ble_eq_true rfl) (Nat.le_of_ble_eq_true rfl) (Nat.le_of_ble_eq_true rfl) dX0_boil_12 ?_
  refine lv_topi (fun v_5 ev_5 => ?_)
  have h := nm_l h ev_5
  refine lv_istore (lv' := [(4, .int v_5), (3, .int v_1), (0, .ref (a 0)), (1, .int p1), (2, .int p2)]) hx hb dX0_boil_15 hl (by decide) rfl (fun ls hl => ?_)
  refine lv_iload hx hb dX0_boil_17 (lv_at hl 0 rfl) ?_
  refine lv_iload hx hb dX0_boil_19 (lv_at hl 0 rfl) ?_
  refine lv_iload_n hx hb dX0_boil_21 rfl (lv_at hl 1 rfl) ?_
  refine lv_imul hx hb dX0_boil_22 ?_
  refine lv_sipush (v := 200) hx hb dX0_boil_23 (by decide) ?_
  refine lv_idiv hx hb dX0_boil_26 (by decide) ?_
  refine lv_isub hx hb dX0_boil_27 ?_
  refine lv_topi (fun v_6 ev_6 => ?_)
  have h := nm_l h ev_6
  refine lv_istore (lv' := [(4, .int v_6), (3, .int v_1), (0, .ref (a 0)), (1, .int p1), (2, .int p2)]) hx hb dX0_boil_28 hl (by decide) rfl (fun ls hl => ?_)
  refine lv_iload hx hb dX0_boil_30 (lv_at hl 0 rfl) ?_
  refine lv_aload_n hx hb dX0_boil_32 rfl (lv_at hl 2 rfl) ?_
  refine va_get (D := D) (ci := 0) (v := .ref (a 4)) (C := RX0) (T := TX0) (N := 12) hx hb hts w_5 hown hK hP 0 rfl rfl 5 (by decide) w_4 (fun _ h9 => h9) rfl dX0_boil_33 ?_
  refine lv_iload_n hx hb dX0_boil_36 rfl (lv_at hl 3 rfl) ?_
  have g_7 := inb_vp (gb_l h)
  have h := gb_r h
  refine va_iald hx hb hK hP 4 0 rfl rfl g_7 dX0_boil_37 ?_
  refine va_mmin hx hb (hml.trans hl.1.symm) hown w_0 w_1 w_2 w_3 (Nat.le_of_ble_eq_true rfl) (Nat.le_of_ble_eq_true rfl) (Nat.le_of_ble_eq_true rfl) (Nat.le_of_ble_eq_true rfl) dX0_boil_38 ?_
  refine lv_topi (fun v_8 ev_8 => ?_)
  have h := nm_l h ev_8
  refine lv_istore (lv' := [(4, .int v_8), (3, .int v_1), (0, .ref (a 0)), (1, .int p1), (2, .int p2)]) hx hb dX0_boil_41 hl (by decide) rfl (fun ls hl => ?_)
  refine lv_iload hx hb dX0_boil_43 (lv_at hl 0 rfl) ?_
  refine lv_aload_n hx hb dX0_boil_45 rfl (lv_at hl 2 rfl) ?_
  refine va_get (D := D) (ci := 0) (v := .ref (a 7)) (C := RX0) (T := TX0) (N := 12) hx hb hts w_5 hown hK hP 0 rfl rfl 8 (by decide) w_6 (fun _ h9 => h9) rfl dX0_boil_46 ?_
  refine lv_iload_n hx hb dX0_boil_49 rfl (lv_at hl 3 rfl) ?_
  have g_9 := inb_vp (gb_l h)
  have h := gb_r h
  refine va_iald hx hb hK hP 7 0 rfl rfl g_9 dX0_boil_50 ?_
  refine lv_imul hx hb dX0_boil_51 ?_
  refine lv_bipush (v := 100) hx hb dX0_boil_52 (by decide) ?_
  refine lv_idiv hx hb dX0_boil_54 (by decide) ?_
  refine lv_topi (fun v_10 ev_10 => ?_)
  have h := nm_l h ev_10
  refine lv_istore (lv' := [(5, .int v_10), (4, .int v_8), (3, .int v_1), (0, .ref (a 0)), (1, .int p1), (2, .int p2)]) hx hb dX0_boil_55 hl (by decide) rfl (fun ls hl => ?_)
  refine lv_aload_n hx hb dX0_boil_57 rfl (lv_at hl 3 rfl) ?_
  refine va_get (D := D) (ci := 0) (v := .ref (a 4)) (C := RX0) (T := TX0) (N := 12) hx hb hts w_5 hown hK hP 0 rfl rfl 5 (by decide) w_4 (fun _ h9 => h9) rfl dX0_boil_58 ?_
  refine lv_iload_n hx hb dX0_boil_61 rfl (lv_at hl 4 rfl) ?_
  refine lv_dup2_11 hx hb dX0_boil_62 rfl rfl ?_
  have g_11 := inb_vp (gb_l h)
  have h := gb_r h
  refine va_iald hx hb hK hP 4 0 rfl rfl g_11 dX0_boil_63 ?_
  refine lv_iload hx hb dX0_boil_64 (lv_at hl 1 rfl) ?_
  refine lv_isub hx hb dX0_boil_66 ?_
  have g_12 := inb_vp (gb_l h)
  have h := gb_r h
  refine va_iast hx hb hK hP hD hS 4 0 rfl rfl g_12 dX0_boil_67 (fun H locs hP hD hS => ?_)
  obtain ⟨q_13, eq_13⟩ : ∃ y : StV, y = su_wat S (upd (s_wat S) p1.toNatClampNeg (((s_wat S) p1.toNatClampNeg) - v_8)) := ⟨_, rfl⟩
  have hP : va_P D vwCl (stW k a q_13) H := by rw [eq_13, ← st_set_wat k a S _]; exact hP
  have hD : va_D A (stW k a q_13) := by rw [eq_13, ← st_set_wat k a S _]; exact hD
  have h := nm_l h eq_13
  refine lv_aload_n hx hb dX0_boil_68 rfl (lv_at hl 3 rfl) ?_
  refine va_get (D := D) (ci := 0) (v := .ref (a 2)) (C := RX0) (T := TX0) (N := 12) hx hb hts w_5 hown hK hP 0 rfl rfl 3 (by decide) w_7 (fun _ h9 => h9) rfl dX0_boil_69 ?_
  refine lv_iconst (v := 1) hx hb dX0_boil_72 (by decide) ?_
  refine lv_dup2_11 hx hb dX0_boil_73 rfl rfl ?_
  refine va_iald hx hb hK hP 2 0 rfl rfl (inb_vp (by decide)) dX0_boil_74 ?_
  refine W.eq (g2 := F0 m 75 ls [.int ((s_cou q_13) 1), .int 1, .ref (a 2)]) rfl ?_
  refine lv_iload hx hb dX0_boil_75 (lv_at hl 1 rfl) ?_
  refine lv_iadd hx hb dX0_boil_77 ?_
  refine va_iast hx hb hK hP hD hS 2 0 rfl rfl (inb_vp (by decide)) dX0_boil_78 (fun H locs hP hD hS => ?_)
  obtain ⟨q_14, eq_14⟩ : ∃ y : StV, y = su_cou q_13 (upd (s_cou q_13) 1 (((s_cou q_13) 1) + v_8)) := ⟨_, rfl⟩
  have hP : va_P D vwCl (stW k a q_14) H := by rw [eq_14, ← st_set_cou k a q_13 _]; exact hP
  have hD : va_D A (stW k a q_14) := by rw [eq_14, ← st_set_cou k a q_13 _]; exact hD
  have h := nm_l h eq_14
  refine lv_aload_n hx hb dX0_boil_79 rfl (lv_at hl 3 rfl) ?_
  refine va_get (D := D) (ci := 0) (v := .ref (a 2)) (C := RX0) (T := TX0) (N := 12) hx hb hts w_5 hown hK hP 0 rfl rfl 3 (by decide) w_7 (fun _ h9 => h9) rfl dX0_boil_80 ?_
  refine lv_iconst (v := 2) hx hb dX0_boil_83 (by decide) ?_
  refine lv_dup2_11 hx hb dX0_boil_84 rfl rfl ?_
  refine va_iald hx hb hK hP 2 0 rfl rfl (inb_vp (by decide)) dX0_boil_85 ?_
  refine W.eq (g2 := F0 m 86 ls [.int ((s_cou q_14) 2), .int 2, .ref (a 2)]) rfl ?_
  refine lv_iload hx hb dX0_boil_86 (lv_at hl 0 rfl) ?_
  refine lv_iadd hx hb dX0_boil_88 ?_
  refine va_iast hx hb hK hP hD hS 2 0 rfl rfl (inb_vp (by decide)) dX0_boil_89 (fun H locs hP hD hS => ?_)
  obtain ⟨q_15, eq_15⟩ : ∃ y : StV, y = su_cou q_14 (upd (s_cou q_14) 2 (((s_cou q_14) 2) + v_10)) := ⟨_, rfl⟩
  have hP : va_P D vwCl (stW k a q_15) H := by rw [eq_15, ← st_set_cou k a q_14 _]; exact hP
  have hD : va_D A (stW k a q_15) := by rw [eq_15, ← st_set_cou k a q_14 _]; exact hD
  have h := nm_l h eq_15
  refine lv_aload_n hx hb dX0_boil_90 rfl (lv_at hl 3 rfl) ?_
  refine va_get (D := D) (ci := 0) (v := .ref (a 2)) (C := RX0) (T := TX0) (N := 12) hx hb hts w_5 hown hK hP 0 rfl rfl 3 (by decide) w_7 (fun _ h9 => h9) rfl dX0_boil_91 ?_
  refine lv_iconst (v := 4) hx hb dX0_boil_94 (by decide) ?_
  refine lv_dup2_11 hx hb dX0_boil_95 rfl rfl ?_
  refine va_iald hx hb hK hP 2 0 rfl rfl (inb_vp (by decide)) dX0_boil_96 ?_
  refine W.eq (g2 := F0 m 97 ls [.int ((s_cou q_15) 4), .int 4, .ref (a 2)]) rfl ?_
  refine lv_iload_n hx hb dX0_boil_97 rfl (lv_at hl 5 rfl) ?_
  refine lv_iload hx hb dX0_boil_98 (lv_at hl 1 rfl) ?_
  refine lv_isub hx hb dX0_boil_100 ?_
  refine lv_iadd hx hb dX0_boil_101 ?_
  refine va_iast hx hb hK hP hD hS 2 0 rfl rfl (inb_vp (by decide)) dX0_boil_102 (fun H locs hP hD hS => ?_)
  obtain ⟨q_16, eq_16⟩ : ∃ y : StV, y = su_cou q_15 (upd (s_cou q_15) 4 (((s_cou q_15) 4) + (p2 - v_8))) := ⟨_, rfl⟩
  have hP : va_P D vwCl (stW k a q_16) H := by rw [eq_16, ← st_set_cou k a q_15 _]; exact hP
  have hD : va_D A (stW k a q_16) := by rw [eq_16, ← st_set_cou k a q_15 _]; exact hD
  have h := nm_l h eq_16
  refine lv_aload_n hx hb dX0_boil_103 rfl (lv_at hl 3 rfl) ?_
  refine va_get (D := D) (ci := 0) (v := .ref (a 9)) (C := RX0) (T := TX0) (N := 12) hx hb hts w_5 hown hK hP 0 rfl rfl 10 (by decide) w_8 (fun _ h9 => h9) rfl dX0_boil_104 ?_
  refine lv_iload_n hx hb dX0_boil_107 rfl (lv_at hl 4 rfl) ?_
  have g_17 := inb_vp (gb_l h)
  have h := gb_r h
  refine va_iald hx hb hK hP 9 0 rfl rfl g_17 dX0_boil_108 ?_
  refine lv_iload hx hb dX0_boil_109 (lv_at hl 1 rfl) ?_
  refine lv_iload_n hx hb dX0_boil_111 rfl (lv_at hl 2 rfl) ?_
  refine lv_imul hx hb dX0_boil_112 ?_
  refine lv_bipush (v := 10) hx hb dX0_boil_113 (by decide) ?_
  refine lv_idiv hx hb dX0_boil_115 (by decide) ?_
  refine lv_iadd hx hb dX0_boil_116 ?_
  refine lv_topi (fun v_18 ev_18 => ?_)
  have h := nm_l h ev_18
  refine lv_istore (lv' := [(6, .int v_18), (5, .int v_10), (4, .int v_8), (3, .int v_1), (0, .ref (a 0)), (1, .int p1), (2, .int p2)]) hx hb dX0_boil_117 hl (by decide) rfl (fun ls hl => ?_)
  refine lv_aload_n hx hb dX0_boil_119 rfl (lv_at hl 4 rfl) ?_
  refine va_get (D := D) (ci := 0) (v := .ref (a 8)) (C := RX0) (T := TX0) (N := 12) hx hb hts w_5 hown hK hP 0 rfl rfl 9 (by decide) w_9 (fun _ h9 => h9) rfl dX0_boil_120 ?_
  refine lv_iload_n hx hb dX0_boil_123 rfl (lv_at hl 5 rfl) ?_
  refine lv_bipush (v := 99) hx hb dX0_boil_124 (by decide) ?_
  refine lv_aload_n hx hb dX0_boil_126 rfl (lv_at hl 4 rfl) ?_
  refine va_get (D := D) (ci := 0) (v := .ref (a 8)) (C := RX0) (T := TX0) (N := 12) hx hb hts w_5 hown hK hP 0 rfl rfl 9 (by decide) w_9 (fun _ h9 => h9) rfl dX0_boil_127 ?_
  refine lv_iload_n hx hb dX0_boil_130 rfl (lv_at hl 5 rfl) ?_
  have g_19 := inb_vp (gb_l h)
  have h := gb_r h
  refine va_iald hx hb hK hP 8 0 rfl rfl g_19 dX0_boil_131 ?_
  refine lv_iload hx hb dX0_boil_132 (lv_at hl 0 rfl) ?_
  refine lv_sipush (v := 1000) hx hb dX0_boil_134 (by decide) ?_
  refine lv_idiv hx hb dX0_boil_137 (by decide) ?_
  refine lv_iadd hx hb dX0_boil_138 ?_
  refine va_mmin hx hb (hml.trans hl.1.symm) hown w_0 w_1 w_2 w_3 (Nat.le_of_ble_eq_true rfl) (Nat.le_of_ble_eq_true rfl) (Nat.le_of_ble_eq_true rfl) (Nat.le_of_ble_eq_true rfl) dX0_boil_139 ?_
  refine lv_topi (fun v_20 ev_20 => ?_)
  have h := nm_l h ev_20
  have g_21 := inb_vp (gb_l h)
  have h := gb_r h
  refine va_iast hx hb hK hP hD hS 8 0 rfl rfl g_21 dX0_boil_142 (fun H locs hP hD hS => ?_)
  obtain ⟨q_22, eq_22⟩ : ∃ y : StV, y = su_sca q_16 (upd (s_sca q_16) p1.toNatClampNeg v_20) := ⟨_, rfl⟩
  have hP : va_P D vwCl (stW k a q_22) H := by rw [eq_22, ← st_set_sca k a q_16 _]; exact hP
  have hD : va_D A (stW k a q_22) := by rw [eq_22, ← st_set_sca k a q_16 _]; exact hD
  have h := nm_l h eq_22
  refine lv_aload_n hx hb dX0_boil_143 rfl (lv_at hl 4 rfl) ?_
  refine va_get (D := D) (ci := 0) (v := .ref (a 9)) (C := RX0) (T := TX0) (N := 12) hx hb hts w_5 hown hK hP 0 rfl rfl 10 (by decide) w_8 (fun _ h9 => h9) rfl dX0_boil_144 ?_
  refine lv_iload_n hx hb dX0_boil_147 rfl (lv_at hl 5 rfl) ?_
  refine lv_iload hx hb dX0_boil_148 (lv_at hl 0 rfl) ?_
  refine lv_sipush (v := 1000) hx hb dX0_boil_150 (by decide) ?_
  refine lv_irem hx hb dX0_boil_153 (by decide) ?_
  have g_23 := inb_vp (gb_l h)
  have h := gb_r h
  refine va_iast hx hb hK hP hD hS 9 0 rfl rfl g_23 dX0_boil_154 (fun H locs hP hD hS => ?_)
  obtain ⟨q_24, eq_24⟩ : ∃ y : StV, y = su_scl q_22 (upd (s_scl q_22) p1.toNatClampNeg (v_18 - v_18 / 1000 * 1000)) := ⟨_, rfl⟩
  have hP : va_P D vwCl (stW k a q_24) H := by rw [eq_24, ← st_set_scl k a q_22 _]; exact hP
  have hD : va_D A (stW k a q_24) := by rw [eq_24, ← st_set_scl k a q_22 _]; exact hD
  have h := nm_l h eq_24
  refine lv_iload hx hb dX0_boil_155 (lv_at hl 2 rfl) ?_
  refine lv_iload hx hb dX0_boil_157 (lv_at hl 1 rfl) ?_
  refine lv_isub hx hb dX0_boil_159 ?_
  cases h
  exact Ck_iret hx hb hr hP hD hS dX0_boil_160 hlocks
def f_X0_boilAll_11 : Nat → Int32 → Int32 → Int32 → StV → Option (StV)
  | 0, _, _, _, _ => none
  | fu + 1, x1_11, x2_11, x3_11, S_11 => if (s_n S_11) ≤ x3_11 then (if x2_11 = 0 then (some (S_11)) else (nm (su_cou S_11 (upd (s_cou S_11) 0 (((s_cou S_11) 0) + ((s_set S_11) 0)))) fun q_3 => nm (su_cou q_3 (upd (s_cou q_3) 3 (((s_cou q_3) 3) + x1_11))) fun q_4 => some (q_4))) else (gb (inb x3_11 6) <| if ((s_lef S_11) x3_11.toNatClampNeg) = 0 then (bd (f_X0_boil S_11 x3_11 x1_11) fun ⟨v_7, q_8⟩ => (f_X0_boilAll_11 fu) v_7 1 (x3_11 + 1) q_8) else ((f_X0_boilAll_11 fu) x1_11 x2_11 (x3_11 + 1) S_11))
def f_X0_boilAll (S : StV) : Option (StV) := nm ((s_set S) 0) fun v_10 => f_X0_boilAll_11 2000 v_10 0 0 S
set_option maxRecDepth 100000 in
set_option maxHeartbeats 4000000 in
theorem c_X0_boilAll (l : Launch) (D : va_G) (k : Nat → ClassId) (a : Nat → Nat) (S : StV) (o0 : StV) (h : f_X0_boilAll S = some (o0)) : Ck l D (tyK k) yX0_boilAll wsX0_boilAll ({ frames := 2, cells := 0, slots := 0, locals := 48 } : Room) [.ref (a 0)] (stW k a S) none (stW k a o0) := by
  refine Ck_of (cc := cX0_boilAll) (maxL := 4) (ret := none) (by decide) rfl (Nat.le_of_ble_eq_true rfl) ?_
  intro p e s m args below meth c A ls hx hb hr hml hts hown hlocks hK hA hP hD hS hl
  have hl : lv_has ls 4 [(0, .ref (a 0))] := hl
  have hP : va_P D vwCl (stW k a S) s.heap := hP
  have w_0 := hts (.fieldLink RX0 9 "EffectTrain$State" "n" "I") (by decide +kernel)
  have w_1 : ∀ w ∈ wsX00, w ∈ wsX0_boilAll := by decide +kernel
  have w_2 := hts (.fieldLink RX0 22 "EffectTrain$State" "counts" "[I") (by decide +kernel)
  have w_3 := hts (.fieldLink RX0 15 "EffectTrain$State" "settings" "[I") (by decide +kernel)
  have w_4 := hts (.fieldLink RX0 46 "EffectTrain$State" "left" "[I") (by decide +kernel)
  unfold f_X0_boilAll at h
  have hC_11 : ∀ (fu_11 : Nat) (x1_11 : Int32) (x2_11 : Int32) (x3_11 : Int32) (S_11 : StV) (H : Heap) (locs : List Loc) (ls : Array Slot), va_P D vwCl (stW k a S_11) H → va_D A (stW k a S_11) → va_S A s.heap H locs → lv_has ls 4 [(0, .ref (a 0)), (1, .int x1_11), (2, .int x2_11), (3, .int x3_11)] → f_X0_boilAll_11 fu_11 x1_11 x2_11 x3_11 S_11 = some (o0) → W p l e ({ frames := 2, cells := 0, slots := 0, locals := 48 } : Room) s m args below meth c H locs 0 0 (MQ below (Qk D A none (stW k a o0)) args s 0 0 A) (F0 m 11 ls []) := by
    intro fu_11
    induction fu_11 with
    | zero => intro x1_11 x2_11 x3_11 S_11 H locs ls _ _ _ _ h; exact (no_l h).elim
    | succ fu_11 ih_11 =>
      intro x1_11 x2_11 x3_11 S_11 H locs ls hP hD hS hl h
      rw [f_X0_boilAll_11] at h
      refine lv_iload_n hx hb dX0_boilAll_11 rfl (lv_at hl 3 rfl) ?_
      refine lv_aload_n hx hb dX0_boilAll_12 rfl (lv_at hl 0 rfl) ?_
      refine va_get (D := D) (ci := 0) (v := .int (s_n S_11)) (C := RX0) (T := TX0) (N := 12) hx hb hts w_1 hown hK hP 0 rfl rfl 0 (by decide) w_0 (fun _ h9 => h9) rfl dX0_boilAll_13 ?_
      refine lv_icmp_ge (tgt := 43) hx hb dX0_boilAll_16 (by decide) (fun c_1 => ?_) (fun c_1 => ?_)
      · have h := it_l c_1 h
        refine lv_iload_n hx hb dX0_boilAll_43 rfl (lv_at hl 2 rfl) ?_
        refine lv_if_eq (tgt := 72) hx hb dX0_boilAll_44 (by decide) (fun c_2 => ?_) (fun c_2 => ?_)
        · have h := it_l c_2 h
          cases h
          exact Ck_vret hx hb hr hP hD hS dX0_boilAll_72 hlocks
        · have h := it_r c_2 h
          refine lv_aload_n hx hb dX0_boilAll_47 rfl (lv_at hl 0 rfl) ?_
          refine va_get (D := D) (ci := 0) (v := .ref (a 2)) (C := RX0) (T := TX0) (N := 12) hx hb hts w_1 hown hK hP 0 rfl rfl 3 (by decide) w_2 (fun _ h9 => h9) rfl dX0_boilAll_48 ?_
          refine lv_iconst (v := 0) hx hb dX0_boilAll_51 (by decide) ?_
          refine lv_dup2_11 hx hb dX0_boilAll_52 rfl rfl ?_
          refine va_iald hx hb hK hP 2 0 rfl rfl (inb_vp (by decide)) dX0_boilAll_53 ?_
          refine W.eq (g2 := F0 m 54 ls [.int ((s_cou S_11) 0), .int 0, .ref (a 2)]) rfl ?_
          refine lv_aload_n hx hb dX0_boilAll_54 rfl (lv_at hl 0 rfl) ?_
          refine va_get (D := D) (ci := 0) (v := .ref (a 1)) (C := RX0) (T := TX0) (N := 12) hx hb hts w_1 hown hK hP 0 rfl rfl 1 (by decide) w_3 (fun _ h9 => h9) rfl dX0_boilAll_55 ?_
          refine lv_iconst (v := 0) hx hb dX0_boilAll_58 (by decide) ?_
          refine va_iald hx hb hK hP 1 0 rfl rfl (inb_vp (by decide)) dX0_boilAll_59 ?_
          refine W.eq (g2 := F0 m 60 ls [.int ((s_set S_11) 0), .int ((s_cou S_11) 0), .int 0, .ref (a 2)]) rfl ?_
          refine lv_iadd hx hb dX0_boilAll_60 ?_
          refine va_iast hx hb hK hP hD hS 2 0 rfl rfl (inb_vp (by decide)) dX0_boilAll_61 (fun H locs hP hD hS => ?_)
          obtain ⟨q_3, eq_3⟩ : ∃ y : StV, y = su_cou S_11 (upd (s_cou S_11) 0 (((s_cou S_11) 0) + ((s_set S_11) 0))) := ⟨_, rfl⟩
          have hP : va_P D vwCl (stW k a q_3) H := by rw [eq_3, ← st_set_cou k a S_11 _]; exact hP
          have hD : va_D A (stW k a q_3) := by rw [eq_3, ← st_set_cou k a S_11 _]; exact hD
          have h := nm_l h eq_3
          refine lv_aload_n hx hb dX0_boilAll_62 rfl (lv_at hl 0 rfl) ?_
          refine va_get (D := D) (ci := 0) (v := .ref (a 2)) (C := RX0) (T := TX0) (N := 12) hx hb hts w_1 hown hK hP 0 rfl rfl 3 (by decide) w_2 (fun _ h9 => h9) rfl dX0_boilAll_63 ?_
          refine lv_iconst (v := 3) hx hb dX0_boilAll_66 (by decide) ?_
          refine lv_dup2_11 hx hb dX0_boilAll_67 rfl rfl ?_
          refine va_iald hx hb hK hP 2 0 rfl rfl (inb_vp (by decide)) dX0_boilAll_68 ?_
          refine W.eq (g2 := F0 m 69 ls [.int ((s_cou q_3) 3), .int 3, .ref (a 2)]) rfl ?_
          refine lv_iload_n hx hb dX0_boilAll_69 rfl (lv_at hl 1 rfl) ?_
          refine lv_iadd hx hb dX0_boilAll_70 ?_
          refine va_iast hx hb hK hP hD hS 2 0 rfl rfl (inb_vp (by decide)) dX0_boilAll_71 (fun H locs hP hD hS => ?_)
          obtain ⟨q_4, eq_4⟩ : ∃ y : StV, y = su_cou q_3 (upd (s_cou q_3) 3 (((s_cou q_3) 3) + x1_11)) := ⟨_, rfl⟩
          have hP : va_P D vwCl (stW k a q_4) H := by rw [eq_4, ← st_set_cou k a q_3 _]; exact hP
          have hD : va_D A (stW k a q_4) := by rw [eq_4, ← st_set_cou k a q_3 _]; exact hD
          have h := nm_l h eq_4
          cases h
          exact Ck_vret hx hb hr hP hD hS dX0_boilAll_72 hlocks
      · have h := it_r c_1 h
        refine lv_aload_n hx hb dX0_boilAll_19 rfl (lv_at hl 0 rfl) ?_
        refine va_get (D := D) (ci := 0) (v := .ref (a 10)) (C := RX0) (T := TX0) (N := 12) hx hb hts w_1 hown hK hP 0 rfl rfl 11 (by decide) w_4 (fun _ h9 => h9) rfl dX0_boilAll_20 ?_
        refine lv_iload_n hx hb dX0_boilAll_23 rfl (lv_at hl 3 rfl) ?_
        have g_5 := inb_vp (gb_l h)
        have h := gb_r h
        refine va_iald hx hb hK hP 10 0 rfl rfl g_5 dX0_boilAll_24 ?_
        refine lv_if_ne (tgt := 37) hx hb dX0_boilAll_25 (by decide) (fun c_6 => ?_) (fun c_6 => ?_)
        · have h := it_r c_6 h
          refine lv_iinc (v := (x3_11 + 1)) (lv' := [(3, .int (x3_11 + 1)), (0, .ref (a 0)), (1, .int x1_11), (2, .int x2_11)]) hx hb dX0_boilAll_37 hl (k := 3) rfl rfl (by decide) rfl (fun ls hl => ?_)
          refine lv_goto (tgt := 11) hx hb dX0_boilAll_40 (by decide) ?_
          exact ih_11 x1_11 x2_11 (x3_11 + 1) S_11 _ _ _ hP hD hS (lv_sub hl [1, 2, 3, 0] rfl) h
        · have h := it_l c_6 h
          refine lv_iconst (v := 1) hx hb dX0_boilAll_28 (by decide) ?_
          refine lv_istore_n (lv' := [(2, .int 1), (0, .ref (a 0)), (1, .int x1_11), (3, .int x3_11)]) hx hb dX0_boilAll_29 rfl hl (by decide) rfl (fun ls hl => ?_)
          refine lv_aload_n hx hb dX0_boilAll_30 rfl (lv_at hl 1 rfl) ?_
          refine lv_iload_n hx hb dX0_boilAll_31 rfl (lv_at hl 3 rfl) ?_
          refine lv_iload_n hx hb dX0_boilAll_32 rfl (lv_at hl 2 rfl) ?_
          obtain ⟨⟨v_7, q_8⟩, hv_9, h⟩ := bd_l h
          refine Ck_V (As := [.int x3_11, .int x1_11]) (rest := []) (wc := stW k a S_11) (wc' := stW k a q_8) (w0' := stW k a q_8) ⟨hx, hb, hml, hown, hts⟩ (c_X0_boil l D k a S_11 x3_11 x1_11 v_7 q_8 hv_9) (cwV 2 hts gX0_boilAll_X0_boil rfl rfl rfl (by decide +kernel) ⟨Nat.le_of_ble_eq_true rfl, Nat.le_of_ble_eq_true rfl⟩) hK hP hD hS hA (q0 := 0) (ci := 0) rfl rfl [0, 1, 2, 3, 4, 5, 6, 7, 8, 9, 10] rfl (by decide) rfl rfl rfl hl.1 rfl (Nat.le_of_ble_eq_true rfl) dX0_boilAll_33 ⟨Nat.le_of_ble_eq_true rfl, Nat.le_of_ble_eq_true rfl⟩ (fun H locs hP hD hS => ?_)
          refine W.eq (g2 := F0 m 36 ls [.int v_7]) rfl ?_
          refine lv_istore_n (lv' := [(1, .int v_7), (2, .int 1), (0, .ref (a 0)), (3, .int x3_11)]) hx hb dX0_boilAll_36 rfl hl (by decide) rfl (fun ls hl => ?_)
          refine lv_iinc (v := (x3_11 + 1)) (lv' := [(3, .int (x3_11 + 1)), (1, .int v_7), (2, .int 1), (0, .ref (a 0))]) hx hb dX0_boilAll_37 hl (k := 3) rfl rfl (by decide) rfl (fun ls hl => ?_)
          refine lv_goto (tgt := 11) hx hb dX0_boilAll_40 (by decide) ?_
          exact ih_11 v_7 1 (x3_11 + 1) q_8 _ _ _ hP hD hS (lv_sub hl [3, 1, 2, 0] rfl) h
  refine lv_aload_n hx hb dX0_boilAll_0 rfl (lv_at hl 0 rfl) ?_
  refine va_get (D := D) (ci := 0) (v := .ref (a 1)) (C := RX0) (T := TX0) (N := 12) hx hb hts w_1 hown hK hP 0 rfl rfl 1 (by decide) w_3 (fun _ h9 => h9) rfl dX0_boilAll_1 ?_
  refine lv_iconst (v := 0) hx hb dX0_boilAll_4 (by decide) ?_
  refine va_iald hx hb hK hP 1 0 rfl rfl (inb_vp (by decide)) dX0_boilAll_5 ?_
  refine W.eq (g2 := F0 m 6 ls [.int ((s_set S) 0)]) rfl ?_
  refine lv_topi (fun v_10 ev_10 => ?_)
  have h := nm_l h ev_10
  refine lv_istore_n (lv' := [(1, .int v_10), (0, .ref (a 0))]) hx hb dX0_boilAll_6 rfl hl (by decide) rfl (fun ls hl => ?_)
  refine lv_iconst (v := 0) hx hb dX0_boilAll_7 (by decide) ?_
  refine lv_istore_n (lv' := [(2, .int 0), (1, .int v_10), (0, .ref (a 0))]) hx hb dX0_boilAll_8 rfl hl (by decide) rfl (fun ls hl => ?_)
  refine lv_iconst (v := 0) hx hb dX0_boilAll_9 (by decide) ?_
  refine lv_istore_n (lv' := [(3, .int 0), (2, .int 0), (1, .int v_10), (0, .ref (a 0))]) hx hb dX0_boilAll_10 rfl hl (by decide) rfl (fun ls hl => ?_)
  exact hC_11 2000 v_10 0 0 S _ _ _ hP hD hS (lv_sub hl [3, 2, 1, 0] rfl) h
def f_X0_flowFrom (S : StV) (p1 : Int32) : Option (Int32) := gb (inb p1 6) <| bd (f_X0_amount S p1) fun v_2 => nm (mn ((s_val S) p1.toNatClampNeg) v_2) fun v_4 => bd (f_X0_effectBehind S p1) fun v_5 => if v_5 = (-9) then (some (v_4)) else (bd (f_X0_amount S v_5) fun v_8 => nm (mn v_4 (5000 - v_8)) fun v_10 => some (v_10))
set_option maxRecDepth 100000 in
set_option maxHeartbeats 4000000 in
theorem c_X0_flowFrom (l : Launch) (D : va_G) (k : Nat → ClassId) (a : Nat → Nat) (S : StV) (p1 : Int32) (o0 : Int32) (h : f_X0_flowFrom S p1 = some (o0)) : Ck l D (tyK k) yX0_flowFrom wsX0_flowFrom ({ frames := 1, cells := 0, slots := 0, locals := 22 } : Room) [.ref (a 0), .int p1] (stW k a S) (some (.int o0)) (stW k a S) := by
  refine Ck_of (cc := cX0_flowFrom) (maxL := 4) (ret := (some .int)) (by decide) rfl (Nat.le_of_ble_eq_true rfl) ?_
  intro p e s m args below meth c A ls hx hb hr hml hts hown hlocks hK hA hP hD hS hl
  have hl : lv_has ls 4 [(0, .ref (a 0)), (1, .int p1)] := hl
  have hP : va_P D vwCl (stW k a S) s.heap := hP
  have w_0 := hts (.fieldLink RX0 34 "EffectTrain$State" "valve" "[I") (by decide +kernel)
  have w_1 : ∀ w ∈ wsX00, w ∈ wsX0_flowFrom := by decide +kernel
  have w_2 := hts (.methodLink RX0 88 Lib.Math.min.name) (by decide +kernel)
  have w_3 := hts (.static Lib.Math.min.name) (by decide +kernel)
  have w_4 := hts (.initialized "java/lang/Math") (by decide +kernel)
  have w_5 := hts (.code Lib.Math.min.name Lib.Math.min.code 2 (some .int)) (by decide +kernel)
  unfold f_X0_flowFrom at h
  refine lv_aload_n hx hb dX0_flowFrom_0 rfl (lv_at hl 0 rfl) ?_
  refine va_get (D := D) (ci := 0) (v := .ref (a 6)) (C := RX0) (T := TX0) (N := 12) hx hb hts w_1 hown hK hP 0 rfl rfl 7 (by decide) w_0 (fun _ h9 => h9) rfl dX0_flowFrom_1 ?_
  refine lv_iload_n hx hb dX0_flowFrom_4 rfl (lv_at hl 1 rfl) ?_
  have g_1 := inb_vp (gb_l h)
  have h := gb_r h
  refine va_iald hx hb hK hP 6 0 rfl rfl g_1 dX0_flowFrom_5 ?_
  refine lv_aload_n hx hb dX0_flowFrom_6 rfl (lv_at hl 0 rfl) ?_
  refine lv_iload_n hx hb dX0_flowFrom_7 rfl (lv_at hl 1 rfl) ?_
  obtain ⟨v_2, hv_3, h⟩ := bd_l h
  refine Ck_V (As := [.int p1]) (rest := [.int ((s_val S) p1.toNatClampNeg)]) (wc := stW k a S) (wc' := stW k a S) (w0' := stW k a S) ⟨hx, hb, hml, hown, hts⟩ (c_X0_amount l D k a S p1 v_2 hv_3) (cwV 1 hts gX0_flowFrom_X0_amount rfl rfl rfl (by decide +kernel) ⟨Nat.le_of_ble_eq_true rfl, Nat.le_of_ble_eq_true rfl⟩) hK hP hD hS hA (q0 := 0) (ci := 0) rfl rfl [0, 1, 2, 3, 4, 5, 6, 7, 8, 9, 10] rfl (by decide) rfl rfl rfl hl.1 rfl (Nat.le_of_ble_eq_true rfl) dX0_flowFrom_8 ⟨Nat.le_of_ble_eq_true rfl, Nat.le_of_ble_eq_true rfl⟩ (fun H locs hP hD hS => ?_)
  refine W.eq (g2 := F0 m 11 ls [.int v_2, .int ((s_val S) p1.toNatClampNeg)]) rfl ?_
  refine va_mmin hx hb (hml.trans hl.1.symm) hown w_2 w_3 w_4 w_5 (Nat.le_of_ble_eq_true rfl) (Nat.le_of_ble_eq_true rfl) (Nat.le_of_ble_eq_true rfl) (Nat.le_of_ble_eq_true rfl) dX0_flowFrom_11 ?_
  refine lv_topi (fun v_4 ev_4 => ?_)
  have h := nm_l h ev_4
  refine lv_istore_n (lv' := [(2, .int v_4), (0, .ref (a 0)), (1, .int p1)]) hx hb dX0_flowFrom_14 rfl hl (by decide) rfl (fun ls hl => ?_)
  refine lv_aload_n hx hb dX0_flowFrom_15 rfl (lv_at hl 1 rfl) ?_
  refine lv_iload_n hx hb dX0_flowFrom_16 rfl (lv_at hl 2 rfl) ?_
  obtain ⟨v_5, hv_6, h⟩ := bd_l h
  refine Ck_V (As := [.int p1]) (rest := []) (wc := stW k a S) (wc' := stW k a S) (w0' := stW k a S) ⟨hx, hb, hml, hown, hts⟩ (c_X0_effectBehind l D k a S p1 v_5 hv_6) (cwV 1 hts gX0_flowFrom_X0_effectBehind rfl rfl rfl (by decide +kernel) ⟨Nat.le_of_ble_eq_true rfl, Nat.le_of_ble_eq_true rfl⟩) hK hP hD hS hA (q0 := 0) (ci := 0) rfl rfl [0, 1, 2, 3, 4, 5, 6, 7, 8, 9, 10] rfl (by decide) rfl rfl rfl hl.1 rfl (Nat.le_of_ble_eq_true rfl) dX0_flowFrom_17 ⟨Nat.le_of_ble_eq_true rfl, Nat.le_of_ble_eq_true rfl⟩ (fun H locs hP hD hS => ?_)
  refine W.eq (g2 := F0 m 20 ls [.int v_5]) rfl ?_
  refine lv_istore_n (lv' := [(3, .int v_5), (2, .int v_4), (0, .ref (a 0)), (1, .int p1)]) hx hb dX0_flowFrom_20 rfl hl (by decide) rfl (fun ls hl => ?_)
  refine lv_iload_n hx hb dX0_flowFrom_21 rfl (lv_at hl 0 rfl) ?_
  refine lv_bipush (v := (-9)) hx hb dX0_flowFrom_22 (by decide) ?_
  refine lv_icmp_ne (tgt := 31) hx hb dX0_flowFrom_24 (by decide) (fun c_7 => ?_) (fun c_7 => ?_)
  · have h := it_r c_7 h
    refine lv_iload_n hx hb dX0_flowFrom_31 rfl (lv_at hl 1 rfl) ?_
    refine lv_sipush (v := 5000) hx hb dX0_flowFrom_32 (by decide) ?_
    refine lv_aload_n hx hb dX0_flowFrom_35 rfl (lv_at hl 2 rfl) ?_
    refine lv_iload_n hx hb dX0_flowFrom_36 rfl (lv_at hl 0 rfl) ?_
    obtain ⟨v_8, hv_9, h⟩ := bd_l h
    refine Ck_V (As := [.int v_5]) (rest := [.int 5000, .int v_4]) (wc := stW k a S) (wc' := stW k a S) (w0' := stW k a S) ⟨hx, hb, hml, hown, hts⟩ (c_X0_amount l D k a S v_5 v_8 hv_9) (cwV 1 hts gX0_flowFrom_X0_amount rfl rfl rfl (by decide +kernel) ⟨Nat.le_of_ble_eq_true rfl, Nat.le_of_ble_eq_true rfl⟩) hK hP hD hS hA (q0 := 0) (ci := 0) rfl rfl [0, 1, 2, 3, 4, 5, 6, 7, 8, 9, 10] rfl (by decide) rfl rfl rfl hl.1 rfl (Nat.le_of_ble_eq_true rfl) dX0_flowFrom_37 ⟨Nat.le_of_ble_eq_true rfl, Nat.le_of_ble_eq_true rfl⟩ (fun H locs hP hD hS => ?_)
    refine W.eq (g2 := F0 m 40 ls [.int v_8, .int 5000, .int v_4]) rfl ?_
    refine lv_isub hx hb dX0_flowFrom_40 ?_
    refine va_mmin hx hb (hml.trans hl.1.symm) hown w_2 w_3 w_4 w_5 (Nat.le_of_ble_eq_true rfl) (Nat.le_of_ble_eq_true rfl) (Nat.le_of_ble_eq_true rfl) (Nat.le_of_ble_eq_true rfl) dX0_flowFrom_41 ?_
    refine lv_topi (fun v_10 ev_10 => ?_)
    have h := nm_l h ev_10
    cases h
    exact Ck_iret hx hb hr hP hD hS dX0_flowFrom_44 hlocks
  · have h := it_l c_7 h
    refine lv_iload_n hx hb dX0_flowFrom_27 rfl (lv_at hl 1 rfl) ?_
    refine lv_goto (tgt := 44) hx hb dX0_flowFrom_28 (by decide) ?_
    cases h
    exact Ck_iret hx hb hr hP hD hS dX0_flowFrom_44 hlocks
def f_X0_flowOn_150 (k_93 : Int32 → Int32 → Int32 → StV → Option (StV)) (x1_150 : Int32) (x2_150 : Int32) (x4_150 : Int32) (x5_150 : Int32) (t0_150 : Int32) (S_150 : StV) : Option (StV) := nm (x5_150 - t0_150) fun v_1 => gb (inb x4_150 6) <| gb (inb x4_150 6) <| nm (su_wat S_150 (upd (s_wat S_150) x4_150.toNatClampNeg (((s_wat S_150) x4_150.toNatClampNeg) + (x1_150 - v_1)))) fun q_4 => gb (inb x4_150 6) <| gb (inb x4_150 6) <| nm (su_sol q_4 (upd (s_sol q_4) x4_150.toNatClampNeg (((s_sol q_4) x4_150.toNatClampNeg) + (x2_150 - t0_150)))) fun q_7 => k_93 v_1 t0_150 (x4_150 + 1) q_7
def f_X0_flowOn_93 : Nat → Int32 → Int32 → Int32 → StV → Option (StV)
  | 0, _, _, _, _ => none
  | fu + 1, x1_93, x2_93, x4_93, S_93 => if (s_n S_93) ≤ x4_93 then (nm (su_cou S_93 (upd (s_cou S_93) 7 (((s_cou S_93) 7) + x1_93))) fun q_9 => nm (su_cou q_9 (upd (s_cou q_9) 8 (((s_cou q_9) 8) + x2_93))) fun q_10 => some (q_10)) else (gb (inb x4_93 6) <| if ((s_lef S_93) x4_93.toNatClampNeg) = 0 then (bd (f_X0_flowFrom S_93 x4_93) fun v_13 => bd (f_X0_amount S_93 x4_93) fun v_15 => if v_15 ≤ 0 then (f_X0_flowOn_150 (f_X0_flowOn_93 fu) x1_93 x2_93 x4_93 v_13 0 S_93) else (gb (inb x4_93 6) <| gb (nz v_15) <| f_X0_flowOn_150 (f_X0_flowOn_93 fu) x1_93 x2_93 x4_93 v_13 ((((s_sol S_93) x4_93.toNatClampNeg) * v_13) / v_15) S_93)) else ((f_X0_flowOn_93 fu) x1_93 x2_93 (x4_93 + 1) S_93))
def f_X0_flowOn_41 (S : StV) (x1_41 : Int32) (x2_41 : Int32) : Option (StV) := nm (su_cou S (upd (s_cou S) 9 (((s_cou S) 9) + 1))) fun q_20 => f_X0_flowOn_93 2000 x1_41 x2_41 0 q_20
def f_X0_flowOn (S : StV) : Option (StV) := bd (f_X0_effectBehind S (-1)) fun v_21 => if v_21 = (-9) then (f_X0_flowOn_41 S 0 0) else (bd (f_X0_amount S v_21) fun v_24 => if (((s_set S) 1) + ((s_set S) 2)) ≤ (5000 - v_24) then (nm ((s_set S) 1) fun v_27 => nm ((s_set S) 2) fun v_28 => nm (su_cou S (upd (s_cou S) 5 (((s_cou S) 5) + v_27))) fun q_29 => nm (su_cou q_29 (upd (s_cou q_29) 6 (((s_cou q_29) 6) + v_28))) fun q_30 => f_X0_flowOn_93 2000 v_27 v_28 0 q_30) else (f_X0_flowOn_41 S 0 0))
set_option maxRecDepth 100000 in
set_option maxHeartbeats 4000000 in
theorem c_X0_flowOn (l : Launch) (D : va_G) (k : Nat → ClassId) (a : Nat → Nat) (S : StV) (o0 : StV) (h : f_X0_flowOn S = some (o0)) : Ck l D (tyK k) yX0_flowOn wsX0_flowOn ({ frames := 2, cells := 0, slots := 0, locals := 45 } : Room) [.ref (a 0)] (stW k a S) none (stW k a o0) := by
  refine Ck_of (cc := cX0_flowOn) (maxL := 9) (ret := none) (by decide) rfl (Nat.le_of_ble_eq_true rfl) ?_
  intro p e s m args below meth c A ls hx hb hr hml hts hown hlocks hK hA hP hD hS hl
  have hl : lv_has ls 9 [(0, .ref (a 0))] := hl
  have hP : va_P D vwCl (stW k a S) s.heap := hP
  have w_0 := hts (.fieldLink RX0 28 "EffectTrain$State" "water" "[I") (by decide +kernel)
  have w_1 : ∀ w ∈ wsX00, w ∈ wsX0_flowOn := by decide +kernel
  have w_2 := hts (.fieldLink RX0 31 "EffectTrain$State" "solids" "[I") (by decide +kernel)
  have w_3 := hts (.fieldLink RX0 9 "EffectTrain$State" "n" "I") (by decide +kernel)
  have w_4 := hts (.fieldLink RX0 22 "EffectTrain$State" "counts" "[I") (by decide +kernel)
  have w_5 := hts (.fieldLink RX0 46 "EffectTrain$State" "left" "[I") (by decide +kernel)
  have w_6 := hts (.fieldLink RX0 15 "EffectTrain$State" "settings" "[I") (by decide +kernel)
  unfold f_X0_flowOn at h
  have hC_93 : ∀ (fu_93 : Nat) (x1_93 : Int32) (x2_93 : Int32) (x4_93 : Int32) (S_93 : StV) (H : Heap) (locs : List Loc) (ls : Array Slot), va_P D vwCl (stW k a S_93) H → va_D A (stW k a S_93) → va_S A s.heap H locs → lv_has ls 9 [(0, .ref (a 0)), (1, .int x1_93), (2, .int x2_93), (4, .int x4_93)] → f_X0_flowOn_93 fu_93 x1_93 x2_93 x4_93 S_93 = some (o0) → W p l e ({ frames := 2, cells := 0, slots := 0, locals := 45 } : Room) s m args below meth c H locs 0 0 (MQ below (Qk D A none (stW k a o0)) args s 0 0 A) (F0 m 93 ls []) := by
    intro fu_93
    induction fu_93 with
    | zero => intro x1_93 x2_93 x4_93 S_93 H locs ls _ _ _ _ h; exact (no_l h).elim
    | succ fu_93 ih_93 =>
      intro x1_93 x2_93 x4_93 S_93 H locs ls hP hD hS hl h
      rw [f_X0_flowOn_93] at h
      have hC_150 : ∀ (x1_150 : Int32) (x2_150 : Int32) (x4_150 : Int32) (x5_150 : Int32) (t0_150 : Int32) (S_150 : StV) (H : Heap) (locs : List Loc) (ls : Array Slot), va_P D vwCl (stW k a S_150) H → va_D A (stW k a S_150) → va_S A s.heap H locs → lv_has ls 9 [(0, .ref (a 0)), (1, .int x1_150), (2, .int x2_150), (4, .int x4_150), (5, .int x5_150)] → f_X0_flowOn_150 (f_X0_flowOn_93 fu_93) x1_150 x2_150 x4_150 x5_150 t0_150 S_150 = some (o0) → W p l e ({ frames := 2, cells := 0, slots := 0, locals := 45 } : Room) s m args below meth c H locs 0 0 (MQ below (Qk D A none (stW k a o0)) args s 0 0 A) (F0 m 150 ls [.int t0_150]) := by
        intro x1_150 x2_150 x4_150 x5_150 t0_150 S_150 H locs ls hP hD hS hl h
        unfold f_X0_flowOn_150 at h
        refine lv_istore (lv' := [(7, .int t0_150), (0, .ref (a 0)), (1, .int x1_150), (2, .int x2_150), (4, .int x4_150), (5, .int x5_150)]) hx hb dX0_flowOn_150 hl (by decide) rfl (fun ls hl => ?_)
        refine lv_iload hx hb dX0_flowOn_152 (lv_at hl 5 rfl) ?_
        refine lv_iload hx hb dX0_flowOn_154 (lv_at hl 0 rfl) ?_
        refine lv_isub hx hb dX0_flowOn_156 ?_
        refine lv_topi (fun v_1 ev_1 => ?_)
        have h := nm_l h ev_1
        refine lv_istore (lv' := [(8, .int v_1), (7, .int t0_150), (0, .ref (a 0)), (1, .int x1_150), (2, .int x2_150), (4, .int x4_150), (5, .int x5_150)]) hx hb dX0_flowOn_157 hl (by decide) rfl (fun ls hl => ?_)
        refine lv_aload_n hx hb dX0_flowOn_159 rfl (lv_at hl 2 rfl) ?_
        refine va_get (D := D) (ci := 0) (v := .ref (a 4)) (C := RX0) (T := TX0) (N := 12) hx hb hts w_1 hown hK hP 0 rfl rfl 5 (by decide) w_0 (fun _ h9 => h9) rfl dX0_flowOn_160 ?_
        refine lv_iload hx hb dX0_flowOn_163 (lv_at hl 5 rfl) ?_
        refine lv_dup2_11 hx hb dX0_flowOn_165 rfl rfl ?_
        have g_2 := inb_vp (gb_l h)
        have h := gb_r h
        refine va_iald hx hb hK hP 4 0 rfl rfl g_2 dX0_flowOn_166 ?_
        refine lv_iload_n hx hb dX0_flowOn_167 rfl (lv_at hl 3 rfl) ?_
        refine lv_iload hx hb dX0_flowOn_168 (lv_at hl 0 rfl) ?_
        refine lv_isub hx hb dX0_flowOn_170 ?_
        refine lv_iadd hx hb dX0_flowOn_171 ?_
        have g_3 := inb_vp (gb_l h)
        have h := gb_r h
        refine va_iast hx hb hK hP hD hS 4 0 rfl rfl g_3 dX0_flowOn_172 (fun H locs hP hD hS => ?_)
        obtain ⟨q_4, eq_4⟩ : ∃ y : StV, y = su_wat S_150 (upd (s_wat S_150) x4_150.toNatClampNeg (((s_wat S_150) x4_150.toNatClampNeg) + (x1_150 - v_1))) := ⟨_, rfl⟩
        have hP : va_P D vwCl (stW k a q_4) H := by rw [eq_4, ← st_set_wat k a S_150 _]; exact hP
        have hD : va_D A (stW k a q_4) := by rw [eq_4, ← st_set_wat k a S_150 _]; exact hD
        have h := nm_l h eq_4
        refine lv_aload_n hx hb dX0_flowOn_173 rfl (lv_at hl 2 rfl) ?_
        refine va_get (D := D) (ci := 0) (v := .ref (a 5)) (C := RX0) (T := TX0) (N := 12) hx hb hts w_1 hown hK hP 0 rfl rfl 6 (by decide) w_2 (fun _ h9 => h9) rfl dX0_flowOn_174 ?_
        refine lv_iload hx hb dX0_flowOn_177 (lv_at hl 5 rfl) ?_
        refine lv_dup2_11 hx hb dX0_flowOn_179 rfl rfl ?_
        have g_5 := inb_vp (gb_l h)
        have h := gb_r h
        refine va_iald hx hb hK hP 5 0 rfl rfl g_5 dX0_flowOn_180 ?_
        refine lv_iload_n hx hb dX0_flowOn_181 rfl (lv_at hl 4 rfl) ?_
        refine lv_iload hx hb dX0_flowOn_182 (lv_at hl 1 rfl) ?_
        refine lv_isub hx hb dX0_flowOn_184 ?_
        refine lv_iadd hx hb dX0_flowOn_185 ?_
        have g_6 := inb_vp (gb_l h)
        have h := gb_r h
        refine va_iast hx hb hK hP hD hS 5 0 rfl rfl g_6 dX0_flowOn_186 (fun H locs hP hD hS => ?_)
        obtain ⟨q_7, eq_7⟩ : ∃ y : StV, y = su_sol q_4 (upd (s_sol q_4) x4_150.toNatClampNeg (((s_sol q_4) x4_150.toNatClampNeg) + (x2_150 - t0_150))) := ⟨_, rfl⟩
        have hP : va_P D vwCl (stW k a q_7) H := by rw [eq_7, ← st_set_sol k a q_4 _]; exact hP
        have hD : va_D A (stW k a q_7) := by rw [eq_7, ← st_set_sol k a q_4 _]; exact hD
        have h := nm_l h eq_7
        refine lv_iload hx hb dX0_flowOn_187 (lv_at hl 0 rfl) ?_
        refine lv_istore_n (lv' := [(1, .int v_1), (8, .int v_1), (7, .int t0_150), (0, .ref (a 0)), (2, .int x2_150), (4, .int x4_150), (5, .int x5_150)]) hx hb dX0_flowOn_189 rfl hl (by decide) rfl (fun ls hl => ?_)
        refine lv_iload hx hb dX0_flowOn_190 (lv_at hl 2 rfl) ?_
        refine lv_istore_n (lv' := [(2, .int t0_150), (1, .int v_1), (8, .int v_1), (7, .int t0_150), (0, .ref (a 0)), (4, .int x4_150), (5, .int x5_150)]) hx hb dX0_flowOn_192 rfl hl (by decide) rfl (fun ls hl => ?_)
        refine lv_iinc (v := (x4_150 + 1)) (lv' := [(4, .int (x4_150 + 1)), (2, .int t0_150), (1, .int v_1), (8, .int v_1), (7, .int t0_150), (0, .ref (a 0)), (5, .int x5_150)]) hx hb dX0_flowOn_193 hl (k := 5) rfl rfl (by decide) rfl (fun ls hl => ?_)
        refine lv_goto (tgt := 93) hx hb dX0_flowOn_196 (by decide) ?_
        exact ih_93 v_1 t0_150 (x4_150 + 1) q_7 _ _ _ hP hD hS (lv_sub hl [5, 2, 1, 0] rfl) h
      refine lv_iload hx hb dX0_flowOn_93 (lv_at hl 3 rfl) ?_
      refine lv_aload_n hx hb dX0_flowOn_95 rfl (lv_at hl 0 rfl) ?_
      refine va_get (D := D) (ci := 0) (v := .int (s_n S_93)) (C := RX0) (T := TX0) (N := 12) hx hb hts w_1 hown hK hP 0 rfl rfl 0 (by decide) w_3 (fun _ h9 => h9) rfl dX0_flowOn_96 ?_
      refine lv_icmp_ge (tgt := 199) hx hb dX0_flowOn_99 (by decide) (fun c_8 => ?_) (fun c_8 => ?_)
      · have h := it_l c_8 h
        refine lv_aload_n hx hb dX0_flowOn_199 rfl (lv_at hl 0 rfl) ?_
        refine va_get (D := D) (ci := 0) (v := .ref (a 2)) (C := RX0) (T := TX0) (N := 12) hx hb hts w_1 hown hK hP 0 rfl rfl 3 (by decide) w_4 (fun _ h9 => h9) rfl dX0_flowOn_200 ?_
        refine lv_bipush (v := 7) hx hb dX0_flowOn_203 (by decide) ?_
        refine lv_dup2_11 hx hb dX0_flowOn_205 rfl rfl ?_
        refine va_iald hx hb hK hP 2 0 rfl rfl (inb_vp (by decide)) dX0_flowOn_206 ?_
        refine W.eq (g2 := F0 m 207 ls [.int ((s_cou S_93) 7), .int 7, .ref (a 2)]) rfl ?_
        refine lv_iload_n hx hb dX0_flowOn_207 rfl (lv_at hl 1 rfl) ?_
        refine lv_iadd hx hb dX0_flowOn_208 ?_
        refine va_iast hx hb hK hP hD hS 2 0 rfl rfl (inb_vp (by decide)) dX0_flowOn_209 (fun H locs hP hD hS => ?_)
        obtain ⟨q_9, eq_9⟩ : ∃ y : StV, y = su_cou S_93 (upd (s_cou S_93) 7 (((s_cou S_93) 7) + x1_93)) := ⟨_, rfl⟩
        have hP : va_P D vwCl (stW k a q_9) H := by rw [eq_9, ← st_set_cou k a S_93 _]; exact hP
        have hD : va_D A (stW k a q_9) := by rw [eq_9, ← st_set_cou k a S_93 _]; exact hD
        have h := nm_l h eq_9
        refine lv_aload_n hx hb dX0_flowOn_210 rfl (lv_at hl 0 rfl) ?_
        refine va_get (D := D) (ci := 0) (v := .ref (a 2)) (C := RX0) (T := TX0) (N := 12) hx hb hts w_1 hown hK hP 0 rfl rfl 3 (by decide) w_4 (fun _ h9 => h9) rfl dX0_flowOn_211 ?_
        refine lv_bipush (v := 8) hx hb dX0_flowOn_214 (by decide) ?_
        refine lv_dup2_11 hx hb dX0_flowOn_216 rfl rfl ?_
        refine va_iald hx hb hK hP 2 0 rfl rfl (inb_vp (by decide)) dX0_flowOn_217 ?_
        refine W.eq (g2 := F0 m 218 ls [.int ((s_cou q_9) 8), .int 8, .ref (a 2)]) rfl ?_
        refine lv_iload_n hx hb dX0_flowOn_218 rfl (lv_at hl 2 rfl) ?_
        refine lv_iadd hx hb dX0_flowOn_219 ?_
        refine va_iast hx hb hK hP hD hS 2 0 rfl rfl (inb_vp (by decide)) dX0_flowOn_220 (fun H locs hP hD hS => ?_)
        obtain ⟨q_10, eq_10⟩ : ∃ y : StV, y = su_cou q_9 (upd (s_cou q_9) 8 (((s_cou q_9) 8) + x2_93)) := ⟨_, rfl⟩
        have hP : va_P D vwCl (stW k a q_10) H := by rw [eq_10, ← st_set_cou k a q_9 _]; exact hP
        have hD : va_D A (stW k a q_10) := by rw [eq_10, ← st_set_cou k a q_9 _]; exact hD
        have h := nm_l h eq_10
        cases h
        exact Ck_vret hx hb hr hP hD hS dX0_flowOn_221 hlocks
      · have h := it_r c_8 h
        refine lv_aload_n hx hb dX0_flowOn_102 rfl (lv_at hl 0 rfl) ?_
        refine va_get (D := D) (ci := 0) (v := .ref (a 10)) (C := RX0) (T := TX0) (N := 12) hx hb hts w_1 hown hK hP 0 rfl rfl 11 (by decide) w_5 (fun _ h9 => h9) rfl dX0_flowOn_103 ?_
        refine lv_iload hx hb dX0_flowOn_106 (lv_at hl 3 rfl) ?_
        have g_11 := inb_vp (gb_l h)
        have h := gb_r h
        refine va_iald hx hb hK hP 10 0 rfl rfl g_11 dX0_flowOn_108 ?_
        refine lv_if_ne (tgt := 193) hx hb dX0_flowOn_109 (by decide) (fun c_12 => ?_) (fun c_12 => ?_)
        · have h := it_r c_12 h
          refine lv_iinc (v := (x4_93 + 1)) (lv' := [(4, .int (x4_93 + 1)), (0, .ref (a 0)), (1, .int x1_93), (2, .int x2_93)]) hx hb dX0_flowOn_193 hl (k := 3) rfl rfl (by decide) rfl (fun ls hl => ?_)
          refine lv_goto (tgt := 93) hx hb dX0_flowOn_196 (by decide) ?_
          exact ih_93 x1_93 x2_93 (x4_93 + 1) S_93 _ _ _ hP hD hS (lv_sub hl [1, 2, 3, 0] rfl) h
        · have h := it_l c_12 h
          refine lv_aload_n hx hb dX0_flowOn_112 rfl (lv_at hl 0 rfl) ?_
          refine lv_iload hx hb dX0_flowOn_113 (lv_at hl 3 rfl) ?_
          obtain ⟨v_13, hv_14, h⟩ := bd_l h
          refine Ck_V (As := [.int x4_93]) (rest := []) (wc := stW k a S_93) (wc' := stW k a S_93) (w0' := stW k a S_93) ⟨hx, hb, hml, hown, hts⟩ (c_X0_flowFrom l D k a S_93 x4_93 v_13 hv_14) (cwV 1 hts gX0_flowOn_X0_flowFrom rfl rfl rfl (by decide +kernel) ⟨Nat.le_of_ble_eq_true rfl, Nat.le_of_ble_eq_true rfl⟩) hK hP hD hS hA (q0 := 0) (ci := 0) rfl rfl [0, 1, 2, 3, 4, 5, 6, 7, 8, 9, 10] rfl (by decide) rfl rfl rfl hl.1 rfl (Nat.le_of_ble_eq_true rfl) dX0_flowOn_115 ⟨Nat.le_of_ble_eq_true rfl, Nat.le_of_ble_eq_true rfl⟩ (fun H locs hP hD hS => ?_)
          refine W.eq (g2 := F0 m 118 ls [.int v_13]) rfl ?_
          refine lv_istore (lv' := [(5, .int v_13), (0, .ref (a 0)), (1, .int x1_93), (2, .int x2_93), (4, .int x4_93)]) hx hb dX0_flowOn_118 hl (by decide) rfl (fun ls hl => ?_)
          refine lv_aload_n hx hb dX0_flowOn_120 rfl (lv_at hl 1 rfl) ?_
          refine lv_iload hx hb dX0_flowOn_121 (lv_at hl 4 rfl) ?_
          obtain ⟨v_15, hv_16, h⟩ := bd_l h
          refine Ck_V (As := [.int x4_93]) (rest := []) (wc := stW k a S_93) (wc' := stW k a S_93) (w0' := stW k a S_93) ⟨hx, hb, hml, hown, hts⟩ (c_X0_amount l D k a S_93 x4_93 v_15 hv_16) (cwV 1 hts gX0_flowOn_X0_amount rfl rfl rfl (by decide +kernel) ⟨Nat.le_of_ble_eq_true rfl, Nat.le_of_ble_eq_true rfl⟩) hK hP hD hS hA (q0 := 0) (ci := 0) rfl rfl [0, 1, 2, 3, 4, 5, 6, 7, 8, 9, 10] rfl (by decide) rfl rfl rfl hl.1 rfl (Nat.le_of_ble_eq_true rfl) dX0_flowOn_123 ⟨Nat.le_of_ble_eq_true rfl, Nat.le_of_ble_eq_true rfl⟩ (fun H locs hP hD hS => ?_)
          refine W.eq (g2 := F0 m 126 ls [.int v_15]) rfl ?_
          refine lv_istore (lv' := [(6, .int v_15), (5, .int v_13), (0, .ref (a 0)), (1, .int x1_93), (2, .int x2_93), (4, .int x4_93)]) hx hb dX0_flowOn_126 hl (by decide) rfl (fun ls hl => ?_)
          refine lv_iload hx hb dX0_flowOn_128 (lv_at hl 0 rfl) ?_
          refine lv_if_le (tgt := 149) hx hb dX0_flowOn_130 (by decide) (fun c_17 => ?_) (fun c_17 => ?_)
          · have h := it_l c_17 h
            refine lv_iconst (v := 0) hx hb dX0_flowOn_149 (by decide) ?_
            exact hC_150 x1_93 x2_93 x4_93 v_13 0 S_93 _ _ _ hP hD hS (lv_sub hl [2, 3, 4, 5, 1] rfl) h
          · have h := it_r c_17 h
            refine lv_aload_n hx hb dX0_flowOn_133 rfl (lv_at hl 2 rfl) ?_
            refine va_get (D := D) (ci := 0) (v := .ref (a 5)) (C := RX0) (T := TX0) (N := 12) hx hb hts w_1 hown hK hP 0 rfl rfl 6 (by decide) w_2 (fun _ h9 => h9) rfl dX0_flowOn_134 ?_
            refine lv_iload hx hb dX0_flowOn_137 (lv_at hl 5 rfl) ?_
            have g_18 := inb_vp (gb_l h)
            have h := gb_r h
            refine va_iald hx hb hK hP 5 0 rfl rfl g_18 dX0_flowOn_139 ?_
            refine lv_iload hx hb dX0_flowOn_140 (lv_at hl 1 rfl) ?_
            refine lv_imul hx hb dX0_flowOn_142 ?_
            refine lv_iload hx hb dX0_flowOn_143 (lv_at hl 0 rfl) ?_
            have g_19 := nz_l (gb_l h)
            have h := gb_r h
            refine lv_idiv hx hb dX0_flowOn_145 g_19 ?_
            refine lv_goto (tgt := 150) hx hb dX0_flowOn_146 (by decide) ?_
            exact hC_150 x1_93 x2_93 x4_93 v_13 ((((s_sol S_93) x4_93.toNatClampNeg) * v_13) / v_15) S_93 _ _ _ hP hD hS (lv_sub hl [2, 3, 4, 5, 1] rfl) h
  have hC_41 : ∀ (x1_41 : Int32) (x2_41 : Int32) (H : Heap) (locs : List Loc) (ls : Array Slot), va_P D vwCl (stW k a S) H → va_D A (stW k a S) → va_S A s.heap H locs → lv_has ls 9 [(0, .ref (a 0)), (1, .int x1_41), (2, .int x2_41)] → f_X0_flowOn_41 S x1_41 x2_41 = some (o0) → W p l e ({ frames := 2, cells := 0, slots := 0, locals := 45 } : Room) s m args below meth c H locs 0 0 (MQ below (Qk D A none (stW k a o0)) args s 0 0 A) (F0 m 41 ls []) := by
    intro x1_41 x2_41 H locs ls hP hD hS hl h
    unfold f_X0_flowOn_41 at h
    refine lv_aload_n hx hb dX0_flowOn_41 rfl (lv_at hl 0 rfl) ?_
    refine va_get (D := D) (ci := 0) (v := .ref (a 2)) (C := RX0) (T := TX0) (N := 12) hx hb hts w_1 hown hK hP 0 rfl rfl 3 (by decide) w_4 (fun _ h9 => h9) rfl dX0_flowOn_42 ?_
    refine lv_bipush (v := 9) hx hb dX0_flowOn_45 (by decide) ?_
    refine lv_dup2_11 hx hb dX0_flowOn_47 rfl rfl ?_
    refine va_iald hx hb hK hP 2 0 rfl rfl (inb_vp (by decide)) dX0_flowOn_48 ?_
    refine W.eq (g2 := F0 m 49 ls [.int ((s_cou S) 9), .int 9, .ref (a 2)]) rfl ?_
    refine lv_iconst (v := 1) hx hb dX0_flowOn_49 (by decide) ?_
    refine lv_iadd hx hb dX0_flowOn_50 ?_
    refine va_iast hx hb hK hP hD hS 2 0 rfl rfl (inb_vp (by decide)) dX0_flowOn_51 (fun H locs hP hD hS => ?_)
    obtain ⟨q_20, eq_20⟩ : ∃ y : StV, y = su_cou S (upd (s_cou S) 9 (((s_cou S) 9) + 1)) := ⟨_, rfl⟩
    have hP : va_P D vwCl (stW k a q_20) H := by rw [eq_20, ← st_set_cou k a S _]; exact hP
    have hD : va_D A (stW k a q_20) := by rw [eq_20, ← st_set_cou k a S _]; exact hD
    have h := nm_l h eq_20
    refine lv_goto (tgt := 90) hx hb dX0_flowOn_52 (by decide) ?_
    refine lv_iconst (v := 0) hx hb dX0_flowOn_90 (by decide) ?_
    refine lv_istore (lv' := [(4, .int 0), (0, .ref (a 0)), (1, .int x1_41), (2, .int x2_41)]) hx hb dX0_flowOn_91 hl (by decide) rfl (fun ls hl => ?_)
    exact hC_93 2000 x1_41 x2_41 0 q_20 _ _ _ hP hD hS (lv_sub hl [1, 2, 3, 0] rfl) h
  refine lv_iconst (v := 0) hx hb dX0_flowOn_0 (by decide) ?_
  refine lv_istore_n (lv' := [(1, .int 0), (0, .ref (a 0))]) hx hb dX0_flowOn_1 rfl hl (by decide) rfl (fun ls hl => ?_)
  refine lv_iconst (v := 0) hx hb dX0_flowOn_2 (by decide) ?_
  refine lv_istore_n (lv' := [(2, .int 0), (1, .int 0), (0, .ref (a 0))]) hx hb dX0_flowOn_3 rfl hl (by decide) rfl (fun ls hl => ?_)
  refine lv_aload_n hx hb dX0_flowOn_4 rfl (lv_at hl 2 rfl) ?_
  refine lv_iconst (v := (-1)) hx hb dX0_flowOn_5 (by decide) ?_
  obtain ⟨v_21, hv_22, h⟩ := bd_l h
  refine Ck_V (As := [.int (-1)]) (rest := []) (wc := stW k a S) (wc' := stW k a S) (w0' := stW k a S) ⟨hx, hb, hml, hown, hts⟩ (c_X0_effectBehind l D k a S (-1) v_21 hv_22) (cwV 1 hts gX0_flowOn_X0_effectBehind rfl rfl rfl (by decide +kernel) ⟨Nat.le_of_ble_eq_true rfl, Nat.le_of_ble_eq_true rfl⟩) hK hP hD hS hA (q0 := 0) (ci := 0) rfl rfl [0, 1, 2, 3, 4, 5, 6, 7, 8, 9, 10] rfl (by decide) rfl rfl rfl hl.1 rfl (Nat.le_of_ble_eq_true rfl) dX0_flowOn_6 ⟨Nat.le_of_ble_eq_true rfl, Nat.le_of_ble_eq_true rfl⟩ (fun H locs hP hD hS => ?_)
  refine W.eq (g2 := F0 m 9 ls [.int v_21]) rfl ?_
  refine lv_istore_n (lv' := [(3, .int v_21), (2, .int 0), (1, .int 0), (0, .ref (a 0))]) hx hb dX0_flowOn_9 rfl hl (by decide) rfl (fun ls hl => ?_)
  refine lv_iload_n hx hb dX0_flowOn_10 rfl (lv_at hl 0 rfl) ?_
  refine lv_bipush (v := (-9)) hx hb dX0_flowOn_11 (by decide) ?_
  refine lv_icmp_eq (tgt := 41) hx hb dX0_flowOn_13 (by decide) (fun c_23 => ?_) (fun c_23 => ?_)
  · have h := it_l c_23 h
    exact hC_41 0 0 _ _ _ hP hD hS (lv_sub hl [3, 2, 1] rfl) h
  · have h := it_r c_23 h
    refine lv_sipush (v := 5000) hx hb dX0_flowOn_16 (by decide) ?_
    refine lv_aload_n hx hb dX0_flowOn_19 rfl (lv_at hl 3 rfl) ?_
    refine lv_iload_n hx hb dX0_flowOn_20 rfl (lv_at hl 0 rfl) ?_
    obtain ⟨v_24, hv_25, h⟩ := bd_l h
    refine Ck_V (As := [.int v_21]) (rest := [.int 5000]) (wc := stW k a S) (wc' := stW k a S) (w0' := stW k a S) ⟨hx, hb, hml, hown, hts⟩ (c_X0_amount l D k a S v_21 v_24 hv_25) (cwV 1 hts gX0_flowOn_X0_amount rfl rfl rfl (by decide +kernel) ⟨Nat.le_of_ble_eq_true rfl, Nat.le_of_ble_eq_true rfl⟩) hK hP hD hS hA (q0 := 0) (ci := 0) rfl rfl [0, 1, 2, 3, 4, 5, 6, 7, 8, 9, 10] rfl (by decide) rfl rfl rfl hl.1 rfl (Nat.le_of_ble_eq_true rfl) dX0_flowOn_21 ⟨Nat.le_of_ble_eq_true rfl, Nat.le_of_ble_eq_true rfl⟩ (fun H locs hP hD hS => ?_)
    refine W.eq (g2 := F0 m 24 ls [.int v_24, .int 5000]) rfl ?_
    refine lv_isub hx hb dX0_flowOn_24 ?_
    refine lv_aload_n hx hb dX0_flowOn_25 rfl (lv_at hl 3 rfl) ?_
    refine va_get (D := D) (ci := 0) (v := .ref (a 1)) (C := RX0) (T := TX0) (N := 12) hx hb hts w_1 hown hK hP 0 rfl rfl 1 (by decide) w_6 (fun _ h9 => h9) rfl dX0_flowOn_26 ?_
    refine lv_iconst (v := 1) hx hb dX0_flowOn_29 (by decide) ?_
    refine va_iald hx hb hK hP 1 0 rfl rfl (inb_vp (by decide)) dX0_flowOn_30 ?_
    refine W.eq (g2 := F0 m 31 ls [.int ((s_set S) 1), .int (5000 - v_24)]) rfl ?_
    refine lv_aload_n hx hb dX0_flowOn_31 rfl (lv_at hl 3 rfl) ?_
    refine va_get (D := D) (ci := 0) (v := .ref (a 1)) (C := RX0) (T := TX0) (N := 12) hx hb hts w_1 hown hK hP 0 rfl rfl 1 (by decide) w_6 (fun _ h9 => h9) rfl dX0_flowOn_32 ?_
    refine lv_iconst (v := 2) hx hb dX0_flowOn_35 (by decide) ?_
    refine va_iald hx hb hK hP 1 0 rfl rfl (inb_vp (by decide)) dX0_flowOn_36 ?_
    refine W.eq (g2 := F0 m 37 ls [.int ((s_set S) 2), .int ((s_set S) 1), .int (5000 - v_24)]) rfl ?_
    refine lv_iadd hx hb dX0_flowOn_37 ?_
    refine lv_icmp_ge (tgt := 55) hx hb dX0_flowOn_38 (by decide) (fun c_26 => ?_) (fun c_26 => ?_)
    · have h := it_l c_26 h
      refine lv_aload_n hx hb dX0_flowOn_55 rfl (lv_at hl 3 rfl) ?_
      refine va_get (D := D) (ci := 0) (v := .ref (a 1)) (C := RX0) (T := TX0) (N := 12) hx hb hts w_1 hown hK hP 0 rfl rfl 1 (by decide) w_6 (fun _ h9 => h9) rfl dX0_flowOn_56 ?_
      refine lv_iconst (v := 1) hx hb dX0_flowOn_59 (by decide) ?_
      refine va_iald hx hb hK hP 1 0 rfl rfl (inb_vp (by decide)) dX0_flowOn_60 ?_
      refine W.eq (g2 := F0 m 61 ls [.int ((s_set S) 1)]) rfl ?_
      refine lv_topi (fun v_27 ev_27 => ?_)
      have h := nm_l h ev_27
      refine lv_istore_n (lv' := [(1, .int v_27), (3, .int v_21), (2, .int 0), (0, .ref (a 0))]) hx hb dX0_flowOn_61 rfl hl (by decide) rfl (fun ls hl => ?_)
      refine lv_aload_n hx hb dX0_flowOn_62 rfl (lv_at hl 3 rfl) ?_
      refine va_get (D := D) (ci := 0) (v := .ref (a 1)) (C := RX0) (T := TX0) (N := 12) hx hb hts w_1 hown hK hP 0 rfl rfl 1 (by decide) w_6 (fun _ h9 => h9) rfl dX0_flowOn_63 ?_
      refine lv_iconst (v := 2) hx hb dX0_flowOn_66 (by decide) ?_
      refine va_iald hx hb hK hP 1 0 rfl rfl (inb_vp (by decide)) dX0_flowOn_67 ?_
      refine W.eq (g2 := F0 m 68 ls [.int ((s_set S) 2)]) rfl ?_
      refine lv_topi (fun v_28 ev_28 => ?_)
      have h := nm_l h ev_28
      refine lv_istore_n (lv' := [(2, .int v_28), (1, .int v_27), (3, .int v_21), (0, .ref (a 0))]) hx hb dX0_flowOn_68 rfl hl (by decide) rfl (fun ls hl => ?_)
      refine lv_aload_n hx hb dX0_flowOn_69 rfl (lv_at hl 3 rfl) ?_
      refine va_get (D := D) (ci := 0) (v := .ref (a 2)) (C := RX0) (T := TX0) (N := 12) hx hb hts w_1 hown hK hP 0 rfl rfl 3 (by decide) w_4 (fun _ h9 => h9) rfl dX0_flowOn_70 ?_
      refine lv_iconst (v := 5) hx hb dX0_flowOn_73 (by decide) ?_
      refine lv_dup2_11 hx hb dX0_flowOn_74 rfl rfl ?_
      refine va_iald hx hb hK hP 2 0 rfl rfl (inb_vp (by decide)) dX0_flowOn_75 ?_
      refine W.eq (g2 := F0 m 76 ls [.int ((s_cou S) 5), .int 5, .ref (a 2)]) rfl ?_
      refine lv_iload_n hx hb dX0_flowOn_76 rfl (lv_at hl 1 rfl) ?_
      refine lv_iadd hx hb dX0_flowOn_77 ?_
      refine va_iast hx hb hK hP hD hS 2 0 rfl rfl (inb_vp (by decide)) dX0_flowOn_78 (fun H locs hP hD hS => ?_)
      obtain ⟨q_29, eq_29⟩ : ∃ y : StV, y = su_cou S (upd (s_cou S) 5 (((s_cou S) 5) + v_27)) := ⟨_, rfl⟩
      have hP : va_P D vwCl (stW k a q_29) H := by rw [eq_29, ← st_set_cou k a S _]; exact hP
      have hD : va_D A (stW k a q_29) := by rw [eq_29, ← st_set_cou k a S _]; exact hD
      have h := nm_l h eq_29
      refine lv_aload_n hx hb dX0_flowOn_79 rfl (lv_at hl 3 rfl) ?_
      refine va_get (D := D) (ci := 0) (v := .ref (a 2)) (C := RX0) (T := TX0) (N := 12) hx hb hts w_1 hown hK hP 0 rfl rfl 3 (by decide) w_4 (fun _ h9 => h9) rfl dX0_flowOn_80 ?_
      refine lv_bipush (v := 6) hx hb dX0_flowOn_83 (by decide) ?_
      refine lv_dup2_11 hx hb dX0_flowOn_85 rfl rfl ?_
      refine va_iald hx hb hK hP 2 0 rfl rfl (inb_vp (by decide)) dX0_flowOn_86 ?_
      refine W.eq (g2 := F0 m 87 ls [.int ((s_cou q_29) 6), .int 6, .ref (a 2)]) rfl ?_
      refine lv_iload_n hx hb dX0_flowOn_87 rfl (lv_at hl 0 rfl) ?_
      refine lv_iadd hx hb dX0_flowOn_88 ?_
      refine va_iast hx hb hK hP hD hS 2 0 rfl rfl (inb_vp (by decide)) dX0_flowOn_89 (fun H locs hP hD hS => ?_)
      obtain ⟨q_30, eq_30⟩ : ∃ y : StV, y = su_cou q_29 (upd (s_cou q_29) 6 (((s_cou q_29) 6) + v_28)) := ⟨_, rfl⟩
      have hP : va_P D vwCl (stW k a q_30) H := by rw [eq_30, ← st_set_cou k a q_29 _]; exact hP
      have hD : va_D A (stW k a q_30) := by rw [eq_30, ← st_set_cou k a q_29 _]; exact hD
      have h := nm_l h eq_30
      refine lv_iconst (v := 0) hx hb dX0_flowOn_90 (by decide) ?_
      refine lv_istore (lv' := [(4, .int 0), (2, .int v_28), (1, .int v_27), (3, .int v_21), (0, .ref (a 0))]) hx hb dX0_flowOn_91 hl (by decide) rfl (fun ls hl => ?_)
      exact hC_93 2000 v_27 v_28 0 q_30 _ _ _ hP hD hS (lv_sub hl [4, 2, 1, 0] rfl) h
    · have h := it_r c_26 h
      exact hC_41 0 0 _ _ _ hP hD hS (lv_sub hl [3, 2, 1] rfl) h
def f_X0_washOn_2 : Nat → Int32 → StV → Option (StV)
  | 0, _, _ => none
  | fu + 1, x1_2, S_2 => if (s_n S_2) ≤ x1_2 then (some (S_2)) else (gb (inb x1_2 6) <| if ((s_lef S_2) x1_2.toNatClampNeg) ≤ 0 then ((f_X0_washOn_2 fu) (x1_2 + 1) S_2) else (gb (inb x1_2 6) <| nm (mx 0 (((s_sca S_2) x1_2.toNatClampNeg) - 5)) fun v_5 => gb (inb x1_2 6) <| nm (su_sca S_2 (upd (s_sca S_2) x1_2.toNatClampNeg v_5)) fun q_7 => gb (inb x1_2 6) <| gb (inb x1_2 6) <| nm (su_lef q_7 (upd (s_lef q_7) x1_2.toNatClampNeg (((s_lef q_7) x1_2.toNatClampNeg) - 1))) fun q_10 => (f_X0_washOn_2 fu) (x1_2 + 1) q_10))
def f_X0_washOn (S : StV) : Option (StV) := f_X0_washOn_2 2000 0 S
set_option maxRecDepth 100000 in
set_option maxHeartbeats 4000000 in
theorem c_X0_washOn (l : Launch) (D : va_G) (k : Nat → ClassId) (a : Nat → Nat) (S : StV) (o0 : StV) (h : f_X0_washOn S = some (o0)) : Ck l D (tyK k) yX0_washOn wsX0_washOn ({ frames := 1, cells := 0, slots := 0, locals := 17 } : Room) [.ref (a 0)] (stW k a S) none (stW k a o0) := by
  refine Ck_of (cc := cX0_washOn) (maxL := 2) (ret := none) (by decide) rfl (Nat.le_of_ble_eq_true rfl) ?_
  intro p e s m args below meth c A ls hx hb hr hml hts hown hlocks hK hA hP hD hS hl
  have hl : lv_has ls 2 [(0, .ref (a 0))] := hl
  have hP : va_P D vwCl (stW k a S) s.heap := hP
  have w_0 := hts (.fieldLink RX0 9 "EffectTrain$State" "n" "I") (by decide +kernel)
  have w_1 : ∀ w ∈ wsX00, w ∈ wsX0_washOn := by decide +kernel
  have w_2 := hts (.fieldLink RX0 46 "EffectTrain$State" "left" "[I") (by decide +kernel)
  have w_3 := hts (.fieldLink RX0 40 "EffectTrain$State" "scale" "[I") (by decide +kernel)
  have w_4 := hts (.methodLink RX0 102 Lib.Math.max.name) (by decide +kernel)
  have w_5 := hts (.static Lib.Math.max.name) (by decide +kernel)
  have w_6 := hts (.initialized "java/lang/Math") (by decide +kernel)
  have w_7 := hts (.code Lib.Math.max.name Lib.Math.max.code 2 (some .int)) (by decide +kernel)
  unfold f_X0_washOn at h
  have hC_2 : ∀ (fu_2 : Nat) (x1_2 : Int32) (S_2 : StV) (H : Heap) (locs : List Loc) (ls : Array Slot), va_P D vwCl (stW k a S_2) H → va_D A (stW k a S_2) → va_S A s.heap H locs → lv_has ls 2 [(0, .ref (a 0)), (1, .int x1_2)] → f_X0_washOn_2 fu_2 x1_2 S_2 = some (o0) → W p l e ({ frames := 1, cells := 0, slots := 0, locals := 17 } : Room) s m args below meth c H locs 0 0 (MQ below (Qk D A none (stW k a o0)) args s 0 0 A) (F0 m 2 ls []) := by
    intro fu_2
    induction fu_2 with
    | zero => intro x1_2 S_2 H locs ls _ _ _ _ h; exact (no_l h).elim
    | succ fu_2 ih_2 =>
      intro x1_2 S_2 H locs ls hP hD hS hl h
      rw [f_X0_washOn_2] at h
      refine lv_iload_n hx hb dX0_washOn_2 rfl (lv_at hl 1 rfl) ?_
      refine lv_aload_n hx hb dX0_washOn_3 rfl (lv_at hl 0 rfl) ?_
      refine va_get (D := D) (ci := 0) (v := .int (s_n S_2)) (C := RX0) (T := TX0) (N := 12) hx hb hts w_1 hown hK hP 0 rfl rfl 0 (by decide) w_0 (fun _ h9 => h9) rfl dX0_washOn_4 ?_
      refine lv_icmp_ge (tgt := 53) hx hb dX0_washOn_7 (by decide) (fun c_1 => ?_) (fun c_1 => ?_)
      · have h := it_l c_1 h
        cases h
        exact Ck_vret hx hb hr hP hD hS dX0_washOn_53 hlocks
      · have h := it_r c_1 h
        refine lv_aload_n hx hb dX0_washOn_10 rfl (lv_at hl 0 rfl) ?_
        refine va_get (D := D) (ci := 0) (v := .ref (a 10)) (C := RX0) (T := TX0) (N := 12) hx hb hts w_1 hown hK hP 0 rfl rfl 11 (by decide) w_2 (fun _ h9 => h9) rfl dX0_washOn_11 ?_
        refine lv_iload_n hx hb dX0_washOn_14 rfl (lv_at hl 1 rfl) ?_
        have g_2 := inb_vp (gb_l h)
        have h := gb_r h
        refine va_iald hx hb hK hP 10 0 rfl rfl g_2 dX0_washOn_15 ?_
        refine lv_if_le (tgt := 47) hx hb dX0_washOn_16 (by decide) (fun c_3 => ?_) (fun c_3 => ?_)
        · have h := it_l c_3 h
          refine lv_iinc (v := (x1_2 + 1)) (lv' := [(1, .int (x1_2 + 1)), (0, .ref (a 0))]) hx hb dX0_washOn_47 hl (k := 1) rfl rfl (by decide) rfl (fun ls hl => ?_)
          refine lv_goto (tgt := 2) hx hb dX0_washOn_50 (by decide) ?_
          exact ih_2 (x1_2 + 1) S_2 _ _ _ hP hD hS (lv_sub hl [1, 0] rfl) h
        · have h := it_r c_3 h
          refine lv_aload_n hx hb dX0_washOn_19 rfl (lv_at hl 0 rfl) ?_
          refine va_get (D := D) (ci := 0) (v := .ref (a 8)) (C := RX0) (T := TX0) (N := 12) hx hb hts w_1 hown hK hP 0 rfl rfl 9 (by decide) w_3 (fun _ h9 => h9) rfl dX0_washOn_20 ?_
          refine lv_iload_n hx hb dX0_washOn_23 rfl (lv_at hl 1 rfl) ?_
          refine lv_iconst (v := 0) hx hb dX0_washOn_24 (by decide) ?_
          refine lv_aload_n hx hb dX0_washOn_25 rfl (lv_at hl 0 rfl) ?_
          refine va_get (D := D) (ci := 0) (v := .ref (a 8)) (C := RX0) (T := TX0) (N := 12) hx hb hts w_1 hown hK hP 0 rfl rfl 9 (by decide) w_3 (fun _ h9 => h9) rfl dX0_washOn_26 ?_
          refine lv_iload_n hx hb dX0_washOn_29 rfl (lv_at hl 1 rfl) ?_
          have g_4 := inb_vp (gb_l h)
          have h := gb_r h
          refine va_iald hx hb hK hP 8 0 rfl rfl g_4 dX0_washOn_30 ?_
          refine lv_iconst (v := 5) hx hb dX0_washOn_31 (by decide) ?_
          refine lv_isub hx hb dX0_washOn_32 ?_
          refine va_mmax hx hb (hml.trans hl.1.symm) hown w_4 w_5 w_6 w_7 (Nat.le_of_ble_eq_true rfl) (Nat.le_of_ble_eq_true rfl) (Nat.le_of_ble_eq_true rfl) (Nat.le_of_ble_eq_true rfl) dX0_washOn_33 ?_
          refine lv_topi (fun v_5 ev_5 => ?_)
          have h := nm_l h ev_5
          have g_6 := inb_vp (gb_l h)
          have h := gb_r h
          refine va_iast hx hb hK hP hD hS 8 0 rfl rfl g_6 dX0_washOn_36 (fun H locs hP hD hS => ?_)
          obtain ⟨q_7, eq_7⟩ : ∃ y : StV, y = su_sca S_2 (upd (s_sca S_2) x1_2.toNatClampNeg v_5) := ⟨_, rfl⟩
          have hP : va_P D vwCl (stW k a q_7) H := by rw [eq_7, ← st_set_sca k a S_2 _]; exact hP
          have hD : va_D A (stW k a q_7) := by rw [eq_7, ← st_set_sca k a S_2 _]; exact hD
          have h := nm_l h eq_7
          refine lv_aload_n hx hb dX0_washOn_37 rfl (lv_at hl 0 rfl) ?_
          refine va_get (D := D) (ci := 0) (v := .ref (a 10)) (C := RX0) (T := TX0) (N := 12) hx hb hts w_1 hown hK hP 0 rfl rfl 11 (by decide) w_2 (fun _ h9 => h9) rfl dX0_washOn_38 ?_
          refine lv_iload_n hx hb dX0_washOn_41 rfl (lv_at hl 1 rfl) ?_
          refine lv_dup2_11 hx hb dX0_washOn_42 rfl rfl ?_
          have g_8 := inb_vp (gb_l h)
          have h := gb_r h
          refine va_iald hx hb hK hP 10 0 rfl rfl g_8 dX0_washOn_43 ?_
          refine lv_iconst (v := 1) hx hb dX0_washOn_44 (by decide) ?_
          refine lv_isub hx hb dX0_washOn_45 ?_
          have g_9 := inb_vp (gb_l h)
          have h := gb_r h
          refine va_iast hx hb hK hP hD hS 10 0 rfl rfl g_9 dX0_washOn_46 (fun H locs hP hD hS => ?_)
          obtain ⟨q_10, eq_10⟩ : ∃ y : StV, y = su_lef q_7 (upd (s_lef q_7) x1_2.toNatClampNeg (((s_lef q_7) x1_2.toNatClampNeg) - 1)) := ⟨_, rfl⟩
          have hP : va_P D vwCl (stW k a q_10) H := by rw [eq_10, ← st_set_lef k a q_7 _]; exact hP
          have hD : va_D A (stW k a q_10) := by rw [eq_10, ← st_set_lef k a q_7 _]; exact hD
          have h := nm_l h eq_10
          refine lv_iinc (v := (x1_2 + 1)) (lv' := [(1, .int (x1_2 + 1)), (0, .ref (a 0))]) hx hb dX0_washOn_47 hl (k := 1) rfl rfl (by decide) rfl (fun ls hl => ?_)
          refine lv_goto (tgt := 2) hx hb dX0_washOn_50 (by decide) ?_
          exact ih_2 (x1_2 + 1) q_10 _ _ _ hP hD hS (lv_sub hl [1, 0] rfl) h
  refine lv_iconst (v := 0) hx hb dX0_washOn_0 (by decide) ?_
  refine lv_istore_n (lv' := [(1, .int 0), (0, .ref (a 0))]) hx hb dX0_washOn_1 rfl hl (by decide) rfl (fun ls hl => ?_)
  exact hC_2 2000 0 S _ _ _ hP hD hS (lv_sub hl [1, 0] rfl) h
def f_X0_pass_9 (p1 : Int32) : Nat → Int32 → Int32 → StV → Option (Int32 × StV)
  | 0, _, _, _ => none
  | fu + 1, x2_9, x3_9, S_9 => if p1 ≤ x3_9 then (some ((((s_cou S_9) 1) - x2_9), S_9)) else (bd (f_X0_beginWashInTurn S_9) fun q_2 => bd (f_X0_boilAll q_2) fun q_4 => bd (f_X0_flowOn q_4) fun q_6 => bd (f_X0_washOn q_6) fun q_8 => nm ((s_clk q_8) + 1) fun v_10 => nm (su_clk q_8 v_10) fun q_11 => (f_X0_pass_9 p1 fu) x2_9 (x3_9 + 1) q_11)
def f_X0_pass (S : StV) (p1 : Int32) : Option (Int32 × StV) := nm ((s_cou S) 1) fun v_12 => f_X0_pass_9 p1 2000 v_12 0 S
set_option maxRecDepth 100000 in
set_option maxHeartbeats 4000000 in
theorem c_X0_pass (l : Launch) (D : va_G) (k : Nat → ClassId) (a : Nat → Nat) (S : StV) (p1 : Int32) (o0 : Int32) (o1 : StV) (h : f_X0_pass S p1 = some (o0, o1)) : Ck l D (tyK k) yX0_pass wsX0_pass ({ frames := 3, cells := 0, slots := 0, locals := 73 } : Room) [.ref (a 0), .int p1] (stW k a S) (some (.int o0)) (stW k a o1) := by
  refine Ck_of (cc := cX0_pass) (maxL := 4) (ret := (some .int)) (by decide) rfl (Nat.le_of_ble_eq_true rfl) ?_
  intro p e s m args below meth c A ls hx hb hr hml hts hown hlocks hK hA hP hD hS hl
  have hl : lv_has ls 4 [(0, .ref (a 0)), (1, .int p1)] := hl
  have hP : va_P D vwCl (stW k a S) s.heap := hP
  have w_0 := hts (.fieldLink RX0 22 "EffectTrain$State" "counts" "[I") (by decide +kernel)
  have w_1 : ∀ w ∈ wsX00, w ∈ wsX0_pass := by decide +kernel
  have w_2 := hts (.fieldLink RX0 19 "EffectTrain$State" "clock" "I") (by decide +kernel)
  unfold f_X0_pass at h
  have hC_9 : ∀ (fu_9 : Nat) (x2_9 : Int32) (x3_9 : Int32) (S_9 : StV) (H : Heap) (locs : List Loc) (ls : Array Slot), va_P D vwCl (stW k a S_9) H → va_D A (stW k a S_9) → va_S A s.heap H locs → lv_has ls 4 [(0, .ref (a 0)), (1, .int p1), (2, .int x2_9), (3, .int x3_9)] → f_X0_pass_9 p1 fu_9 x2_9 x3_9 S_9 = some (o0, o1) → W p l e ({ frames := 3, cells := 0, slots := 0, locals := 73 } : Room) s m args below meth c H locs 0 0 (MQ below (Qk D A (some (.int o0)) (stW k a o1)) args s 0 0 A) (F0 m 9 ls []) := by
    intro fu_9
    induction fu_9 with
    | zero => intro x2_9 x3_9 S_9 H locs ls _ _ _ _ h; exact (no_l h).elim
    | succ fu_9 ih_9 =>
      intro x2_9 x3_9 S_9 H locs ls hP hD hS hl h
      rw [f_X0_pass_9] at h
      refine lv_iload_n hx hb dX0_pass_9 rfl (lv_at hl 3 rfl) ?_
      refine lv_iload_n hx hb dX0_pass_10 rfl (lv_at hl 1 rfl) ?_
      refine lv_icmp_ge (tgt := 46) hx hb dX0_pass_11 (by decide) (fun c_1 => ?_) (fun c_1 => ?_)
      · have h := it_l c_1 h
        refine lv_aload_n hx hb dX0_pass_46 rfl (lv_at hl 0 rfl) ?_
        refine va_get (D := D) (ci := 0) (v := .ref (a 2)) (C := RX0) (T := TX0) (N := 12) hx hb hts w_1 hown hK hP 0 rfl rfl 3 (by decide) w_0 (fun _ h9 => h9) rfl dX0_pass_47 ?_
        refine lv_iconst (v := 1) hx hb dX0_pass_50 (by decide) ?_
        refine va_iald hx hb hK hP 2 0 rfl rfl (inb_vp (by decide)) dX0_pass_51 ?_
        refine W.eq (g2 := F0 m 52 ls [.int ((s_cou S_9) 1)]) rfl ?_
        refine lv_iload_n hx hb dX0_pass_52 rfl (lv_at hl 2 rfl) ?_
        refine lv_isub hx hb dX0_pass_53 ?_
        cases h
        exact Ck_iret hx hb hr hP hD hS dX0_pass_54 hlocks
      · have h := it_r c_1 h
        refine lv_aload_n hx hb dX0_pass_14 rfl (lv_at hl 0 rfl) ?_
        obtain ⟨q_2, hv_3, h⟩ := bd_l h
        refine Ck_V (As := []) (rest := []) (wc := stW k a S_9) (wc' := stW k a q_2) (w0' := stW k a q_2) ⟨hx, hb, hml, hown, hts⟩ (c_X0_beginWashInTurn l D k a S_9 q_2 hv_3) (cwV 0 hts gX0_pass_X0_beginWashInTurn rfl rfl rfl (by decide +kernel) ⟨Nat.le_of_ble_eq_true rfl, Nat.le_of_ble_eq_true rfl⟩) hK hP hD hS hA (q0 := 0) (ci := 0) rfl rfl [0, 1, 2, 3, 4, 5, 6, 7, 8, 9, 10] rfl (by decide) rfl rfl rfl hl.1 rfl (Nat.le_of_ble_eq_true rfl) dX0_pass_15 ⟨Nat.le_of_ble_eq_true rfl, Nat.le_of_ble_eq_true rfl⟩ (fun H locs hP hD hS => ?_)
        refine W.eq (g2 := F0 m 18 ls []) rfl ?_
        refine lv_aload_n hx hb dX0_pass_18 rfl (lv_at hl 0 rfl) ?_
        obtain ⟨q_4, hv_5, h⟩ := bd_l h
        refine Ck_V (As := []) (rest := []) (wc := stW k a q_2) (wc' := stW k a q_4) (w0' := stW k a q_4) ⟨hx, hb, hml, hown, hts⟩ (c_X0_boilAll l D k a q_2 q_4 hv_5) (cwV 0 hts gX0_pass_X0_boilAll rfl rfl rfl (by decide +kernel) ⟨Nat.le_of_ble_eq_true rfl, Nat.le_of_ble_eq_true rfl⟩) hK hP hD hS hA (q0 := 0) (ci := 0) rfl rfl [0, 1, 2, 3, 4, 5, 6, 7, 8, 9, 10] rfl (by decide) rfl rfl rfl hl.1 rfl (Nat.le_of_ble_eq_true rfl) dX0_pass_19 ⟨Nat.le_of_ble_eq_true rfl, Nat.le_of_ble_eq_true rfl⟩ (fun H locs hP hD hS => ?_)
        refine W.eq (g2 := F0 m 22 ls []) rfl ?_
        refine lv_aload_n hx hb dX0_pass_22 rfl (lv_at hl 0 rfl) ?_
        obtain ⟨q_6, hv_7, h⟩ := bd_l h
        refine Ck_V (As := []) (rest := []) (wc := stW k a q_4) (wc' := stW k a q_6) (w0' := stW k a q_6) ⟨hx, hb, hml, hown, hts⟩ (c_X0_flowOn l D k a q_4 q_6 hv_7) (cwV 0 hts gX0_pass_X0_flowOn rfl rfl rfl (by decide +kernel) ⟨Nat.le_of_ble_eq_true rfl, Nat.le_of_ble_eq_true rfl⟩) hK hP hD hS hA (q0 := 0) (ci := 0) rfl rfl [0, 1, 2, 3, 4, 5, 6, 7, 8, 9, 10] rfl (by decide) rfl rfl rfl hl.1 rfl (Nat.le_of_ble_eq_true rfl) dX0_pass_23 ⟨Nat.le_of_ble_eq_true rfl, Nat.le_of_ble_eq_true rfl⟩ (fun H locs hP hD hS => ?_)
        refine W.eq (g2 := F0 m 26 ls []) rfl ?_
        refine lv_aload_n hx hb dX0_pass_26 rfl (lv_at hl 0 rfl) ?_
        obtain ⟨q_8, hv_9, h⟩ := bd_l h
        refine Ck_V (As := []) (rest := []) (wc := stW k a q_6) (wc' := stW k a q_8) (w0' := stW k a q_8) ⟨hx, hb, hml, hown, hts⟩ (c_X0_washOn l D k a q_6 q_8 hv_9) (cwV 0 hts gX0_pass_X0_washOn rfl rfl rfl (by decide +kernel) ⟨Nat.le_of_ble_eq_true rfl, Nat.le_of_ble_eq_true rfl⟩) hK hP hD hS hA (q0 := 0) (ci := 0) rfl rfl [0, 1, 2, 3, 4, 5, 6, 7, 8, 9, 10] rfl (by decide) rfl rfl rfl hl.1 rfl (Nat.le_of_ble_eq_true rfl) dX0_pass_27 ⟨Nat.le_of_ble_eq_true rfl, Nat.le_of_ble_eq_true rfl⟩ (fun H locs hP hD hS => ?_)
        refine W.eq (g2 := F0 m 30 ls []) rfl ?_
        refine lv_aload_n hx hb dX0_pass_30 rfl (lv_at hl 0 rfl) ?_
        refine lv_dup hx hb dX0_pass_31 rfl ?_
        refine va_get (D := D) (ci := 0) (v := .int (s_clk q_8)) (C := RX0) (T := TX0) (N := 12) hx hb hts w_1 hown hK hP 0 rfl rfl 2 (by decide) w_2 (fun _ h9 => h9) rfl dX0_pass_32 ?_
        refine lv_iconst (v := 1) hx hb dX0_pass_35 (by decide) ?_
        refine lv_iadd hx hb dX0_pass_36 ?_
        refine lv_topi (fun v_10 ev_10 => ?_)
        have h := nm_l h ev_10
        refine va_put (D := D) (ci := 0) (v := .int v_10) (ty := .int) (C := RX0) (T := TX0) (N := 12) hx hb hts w_1 tyX0 tyX0_ok nmX0 hown hK hP hD hS 0 rfl rfl 2 (by decide) w_2 (fun _ h9 => h9) rfl (by decide +kernel) rfl rfl (Nat.le_of_ble_eq_true rfl) dX0_pass_37 (fun H locs hP hD hS => ?_)
        obtain ⟨q_11, eq_11⟩ : ∃ y : StV, y = su_clk q_8 v_10 := ⟨_, rfl⟩
        have hP : va_P D vwCl (stW k a q_11) H := by rw [eq_11, ← st_set_clk k a q_8 _]; exact hP
        have hD : va_D A (stW k a q_11) := by rw [eq_11, ← st_set_clk k a q_8 _]; exact hD
        have h := nm_l h eq_11
        refine lv_iinc (v := (x3_9 + 1)) (lv' := [(3, .int (x3_9 + 1)), (0, .ref (a 0)), (1, .int p1), (2, .int x2_9)]) hx hb dX0_pass_40 hl (k := 3) rfl rfl (by decide) rfl (fun ls hl => ?_)
        refine lv_goto (tgt := 9) hx hb dX0_pass_43 (by decide) ?_
        exact ih_9 x2_9 (x3_9 + 1) q_11 _ _ _ hP hD hS (lv_sub hl [1, 2, 3, 0] rfl) h
  refine lv_aload_n hx hb dX0_pass_0 rfl (lv_at hl 0 rfl) ?_
  refine va_get (D := D) (ci := 0) (v := .ref (a 2)) (C := RX0) (T := TX0) (N := 12) hx hb hts w_1 hown hK hP 0 rfl rfl 3 (by decide) w_0 (fun _ h9 => h9) rfl dX0_pass_1 ?_
  refine lv_iconst (v := 1) hx hb dX0_pass_4 (by decide) ?_
  refine va_iald hx hb hK hP 2 0 rfl rfl (inb_vp (by decide)) dX0_pass_5 ?_
  refine W.eq (g2 := F0 m 6 ls [.int ((s_cou S) 1)]) rfl ?_
  refine lv_topi (fun v_12 ev_12 => ?_)
  have h := nm_l h ev_12
  refine lv_istore_n (lv' := [(2, .int v_12), (0, .ref (a 0)), (1, .int p1)]) hx hb dX0_pass_6 rfl hl (by decide) rfl (fun ls hl => ?_)
  refine lv_iconst (v := 0) hx hb dX0_pass_7 (by decide) ?_
  refine lv_istore_n (lv' := [(3, .int 0), (2, .int v_12), (0, .ref (a 0)), (1, .int p1)]) hx hb dX0_pass_8 rfl hl (by decide) rfl (fun ls hl => ?_)
  exact hC_9 2000 v_12 0 S _ _ _ hP hD hS (lv_sub hl [2, 3, 1, 0] rfl) h
def f_X0_copyFrom (S : StV) (O : StV) : Option (StV) := nm (s_n O) fun v_1 => nm (su_n S v_1) fun q_2 => nm (s_clk O) fun v_3 => nm (su_clk q_2 v_3) fun q_4 => nm (su_set q_4 (va_cpy (s_set O) (s_set q_4) 0 0 5)) fun q_5 => nm (su_cou q_5 (va_cpy (s_cou O) (s_cou q_5) 0 0 10)) fun q_6 => nm (su_are q_6 (va_cpy (s_are O) (s_are q_6) 0 0 6)) fun q_7 => nm (su_wat q_7 (va_cpy (s_wat O) (s_wat q_7) 0 0 6)) fun q_8 => nm (su_sol q_8 (va_cpy (s_sol O) (s_sol q_8) 0 0 6)) fun q_9 => nm (su_val q_9 (va_cpy (s_val O) (s_val q_9) 0 0 6)) fun q_10 => nm (su_ble q_10 (va_cpy (s_ble O) (s_ble q_10) 0 0 6)) fun q_11 => nm (su_sca q_11 (va_cpy (s_sca O) (s_sca q_11) 0 0 6)) fun q_12 => nm (su_scl q_12 (va_cpy (s_scl O) (s_scl q_12) 0 0 6)) fun q_13 => nm (su_lef q_13 (va_cpy (s_lef O) (s_lef q_13) 0 0 6)) fun q_14 => some (q_14)
set_option maxRecDepth 100000 in
set_option maxHeartbeats 4000000 in
theorem c_X0_copyFrom (l : Launch) (D : va_G) (k : Nat → ClassId) (a : Nat → Nat) (b : Nat → Nat) (S : StV) (O : StV) (o0 : StV) (h : f_X0_copyFrom S O = some (o0)) : Ck l D (tyK k) yX0_copyFrom wsX0_copyFrom ({ frames := 1, cells := 0, slots := 0, locals := 60 } : Room) [.ref (a 0), .ref (b 0)] (stW k a S ++ stW k b O) none (stW k a o0 ++ stW k b O) := by
  refine Ck_of (cc := cX0_copyFrom) (maxL := 2) (ret := none) (by decide) rfl (Nat.le_of_ble_eq_true rfl) ?_
  intro p e s m args below meth c A ls hx hb hr hml hts hown hlocks hK hA hP hD hS hl
  have hl : lv_has ls 2 [(0, .ref (a 0)), (1, .ref (b 0))] := hl
  have hP : va_P D vwCl (stW k a S ++ stW k b O) s.heap := hP
  have w_0 := hts (.fieldLink RX0 9 "EffectTrain$State" "n" "I") (by decide +kernel)
  have w_1 : ∀ w ∈ wsX00, w ∈ wsX0_copyFrom := by decide +kernel
  have w_2 := hts (.fieldLink RX0 19 "EffectTrain$State" "clock" "I") (by decide +kernel)
  have w_3 := hts (.fieldLink RX0 15 "EffectTrain$State" "settings" "[I") (by decide +kernel)
  have w_4 := hts (.methodLink RX0 55 arraycopyName) (by decide +kernel)
  have w_5 := hts (.native arraycopyName) (by decide +kernel)
  have w_6 := hts (.static arraycopyName) (by decide +kernel)
  have w_7 := hts (.initialized "java/lang/System") (by decide +kernel)
  have w_8 := hts (.fieldLink RX0 22 "EffectTrain$State" "counts" "[I") (by decide +kernel)
  have w_9 := hts (.fieldLink RX0 25 "EffectTrain$State" "area" "[I") (by decide +kernel)
  have w_10 := hts (.fieldLink RX0 28 "EffectTrain$State" "water" "[I") (by decide +kernel)
  have w_11 := hts (.fieldLink RX0 31 "EffectTrain$State" "solids" "[I") (by decide +kernel)
  have w_12 := hts (.fieldLink RX0 34 "EffectTrain$State" "valve" "[I") (by decide +kernel)
  have w_13 := hts (.fieldLink RX0 37 "EffectTrain$State" "bleed" "[I") (by decide +kernel)
  have w_14 := hts (.fieldLink RX0 40 "EffectTrain$State" "scale" "[I") (by decide +kernel)
  have w_15 := hts (.fieldLink RX0 43 "EffectTrain$State" "scaling" "[I") (by decide +kernel)
  have w_16 := hts (.fieldLink RX0 46 "EffectTrain$State" "left" "[I") (by decide +kernel)
  unfold f_X0_copyFrom at h
  refine lv_aload_n hx hb dX0_copyFrom_0 rfl (lv_at hl 0 rfl) ?_
  refine lv_aload_n hx hb dX0_copyFrom_1 rfl (lv_at hl 1 rfl) ?_
  refine va_get (D := D) (ci := 0) (v := .int (s_n O)) (C := RX0) (T := TX0) (N := 12) hx hb hts w_1 hown hK hP 11 rfl rfl 0 (by decide) w_0 (fun _ h9 => h9) rfl dX0_copyFrom_2 ?_
  refine lv_topi (fun v_1 ev_1 => ?_)
  have h := nm_l h ev_1
  refine va_put (D := D) (ci := 0) (v := .int v_1) (ty := .int) (C := RX0) (T := TX0) (N := 12) hx hb hts w_1 tyX0 tyX0_ok nmX0 hown hK hP hD hS 0 rfl rfl 0 (by decide) w_0 (fun _ h9 => h9) rfl (by decide +kernel) rfl rfl (Nat.le_of_ble_eq_true rfl) dX0_copyFrom_5 (fun H locs hP hD hS => ?_)
  obtain ⟨q_2, eq_2⟩ : ∃ y : StV, y = su_n S v_1 := ⟨_, rfl⟩
  have hP : va_P D vwCl (stW k a q_2 ++ stW k b O) H := by rw [eq_2, ← st_set_n k a S _, ← set_appL1 (Nat.le_of_ble_eq_true rfl)]; exact hP
  have hD : va_D A (stW k a q_2 ++ stW k b O) := by rw [eq_2, ← st_set_n k a S _, ← set_appL1 (Nat.le_of_ble_eq_true rfl)]; exact hD
  have h := nm_l h eq_2
  refine lv_aload_n hx hb dX0_copyFrom_8 rfl (lv_at hl 0 rfl) ?_
  refine lv_aload_n hx hb dX0_copyFrom_9 rfl (lv_at hl 1 rfl) ?_
  refine va_get (D := D) (ci := 0) (v := .int (s_clk O)) (C := RX0) (T := TX0) (N := 12) hx hb hts w_1 hown hK hP 11 rfl rfl 2 (by decide) w_2 (fun _ h9 => h9) rfl dX0_copyFrom_10 ?_
  refine lv_topi (fun v_3 ev_3 => ?_)
  have h := nm_l h ev_3
  refine va_put (D := D) (ci := 0) (v := .int v_3) (ty := .int) (C := RX0) (T := TX0) (N := 12) hx hb hts w_1 tyX0 tyX0_ok nmX0 hown hK hP hD hS 0 rfl rfl 2 (by decide) w_2 (fun _ h9 => h9) rfl (by decide +kernel) rfl rfl (Nat.le_of_ble_eq_true rfl) dX0_copyFrom_13 (fun H locs hP hD hS => ?_)
  obtain ⟨q_4, eq_4⟩ : ∃ y : StV, y = su_clk q_2 v_3 := ⟨_, rfl⟩
  have hP : va_P D vwCl (stW k a q_4 ++ stW k b O) H := by rw [eq_4, ← st_set_clk k a q_2 _, ← set_appL1 (Nat.le_of_ble_eq_true rfl)]; exact hP
  have hD : va_D A (stW k a q_4 ++ stW k b O) := by rw [eq_4, ← st_set_clk k a q_2 _, ← set_appL1 (Nat.le_of_ble_eq_true rfl)]; exact hD
  have h := nm_l h eq_4
  refine lv_aload_n hx hb dX0_copyFrom_16 rfl (lv_at hl 1 rfl) ?_
  refine va_get (D := D) (ci := 0) (v := .ref (b 1)) (C := RX0) (T := TX0) (N := 12) hx hb hts w_1 hown hK hP 11 rfl rfl 1 (by decide) w_3 (fun _ h9 => h9) rfl dX0_copyFrom_17 ?_
  refine lv_iconst (v := 0) hx hb dX0_copyFrom_20 (by decide) ?_
  refine lv_aload_n hx hb dX0_copyFrom_21 rfl (lv_at hl 0 rfl) ?_
  refine va_get (D := D) (ci := 0) (v := .ref (a 1)) (C := RX0) (T := TX0) (N := 12) hx hb hts w_1 hown hK hP 0 rfl rfl 1 (by decide) w_3 (fun _ h9 => h9) rfl dX0_copyFrom_22 ?_
  refine lv_iconst (v := 0) hx hb dX0_copyFrom_25 (by decide) ?_
  refine lv_iconst (v := 5) hx hb dX0_copyFrom_26 (by decide) ?_
  refine va_copyi (sp := 0) (dp := 0) (n := 5) (ty := .int) hx hb (hml.trans hl.1.symm) hown w_4 w_5 w_6 w_7 hK hP hD hS 12 1 0 0 rfl rfl rfl rfl rfl (by decide) (by decide) (by decide) (by decide) (by decide) (fun _ _ => rfl) (Nat.le_of_ble_eq_true rfl) (Nat.le_of_ble_eq_true rfl) dX0_copyFrom_27 (fun H locs hP hD hS => ?_)
  obtain ⟨q_5, eq_5⟩ : ∃ y : StV, y = su_set q_4 (va_cpy (s_set O) (s_set q_4) 0 0 5) := ⟨_, rfl⟩
  have hP : va_P D vwCl (stW k a q_5 ++ stW k b O) H := by rw [eq_5, ← st_set_set k a q_4 _, ← set_appL1 (Nat.le_of_ble_eq_true rfl)]; exact hP
  have hD : va_D A (stW k a q_5 ++ stW k b O) := by rw [eq_5, ← st_set_set k a q_4 _, ← set_appL1 (Nat.le_of_ble_eq_true rfl)]; exact hD
  have h := nm_l h eq_5
  refine lv_aload_n hx hb dX0_copyFrom_30 rfl (lv_at hl 1 rfl) ?_
  refine va_get (D := D) (ci := 0) (v := .ref (b 2)) (C := RX0) (T := TX0) (N := 12) hx hb hts w_1 hown hK hP 11 rfl rfl 3 (by decide) w_8 (fun _ h9 => h9) rfl dX0_copyFrom_31 ?_
  refine lv_iconst (v := 0) hx hb dX0_copyFrom_34 (by decide) ?_
  refine lv_aload_n hx hb dX0_copyFrom_35 rfl (lv_at hl 0 rfl) ?_
  refine va_get (D := D) (ci := 0) (v := .ref (a 2)) (C := RX0) (T := TX0) (N := 12) hx hb hts w_1 hown hK hP 0 rfl rfl 3 (by decide) w_8 (fun _ h9 => h9) rfl dX0_copyFrom_36 ?_
  refine lv_iconst (v := 0) hx hb dX0_copyFrom_39 (by decide) ?_
  refine lv_bipush (v := 10) hx hb dX0_copyFrom_40 (by decide) ?_
  refine va_copyi (sp := 0) (dp := 0) (n := 10) (ty := .int) hx hb (hml.trans hl.1.symm) hown w_4 w_5 w_6 w_7 hK hP hD hS 13 2 0 0 rfl rfl rfl rfl rfl (by decide) (by decide) (by decide) (by decide) (by decide) (fun _ _ => rfl) (Nat.le_of_ble_eq_true rfl) (Nat.le_of_ble_eq_true rfl) dX0_copyFrom_42 (fun H locs hP hD hS => ?_)
  obtain ⟨q_6, eq_6⟩ : ∃ y : StV, y = su_cou q_5 (va_cpy (s_cou O) (s_cou q_5) 0 0 10) := ⟨_, rfl⟩
  have hP : va_P D vwCl (stW k a q_6 ++ stW k b O) H := by rw [eq_6, ← st_set_cou k a q_5 _, ← set_appL1 (Nat.le_of_ble_eq_true rfl)]; exact hP
  have hD : va_D A (stW k a q_6 ++ stW k b O) := by rw [eq_6, ← st_set_cou k a q_5 _, ← set_appL1 (Nat.le_of_ble_eq_true rfl)]; exact hD
  have h := nm_l h eq_6
  refine lv_aload_n hx hb dX0_copyFrom_45 rfl (lv_at hl 1 rfl) ?_
  refine va_get (D := D) (ci := 0) (v := .ref (b 3)) (C := RX0) (T := TX0) (N := 12) hx hb hts w_1 hown hK hP 11 rfl rfl 4 (by decide) w_9 (fun _ h9 => h9) rfl dX0_copyFrom_46 ?_
  refine lv_iconst (v := 0) hx hb dX0_copyFrom_49 (by decide) ?_
  refine lv_aload_n hx hb dX0_copyFrom_50 rfl (lv_at hl 0 rfl) ?_
  refine va_get (D := D) (ci := 0) (v := .ref (a 3)) (C := RX0) (T := TX0) (N := 12) hx hb hts w_1 hown hK hP 0 rfl rfl 4 (by decide) w_9 (fun _ h9 => h9) rfl dX0_copyFrom_51 ?_
  refine lv_iconst (v := 0) hx hb dX0_copyFrom_54 (by decide) ?_
  refine lv_bipush (v := 6) hx hb dX0_copyFrom_55 (by decide) ?_
  refine va_copyi (sp := 0) (dp := 0) (n := 6) (ty := .int) hx hb (hml.trans hl.1.symm) hown w_4 w_5 w_6 w_7 hK hP hD hS 14 3 0 0 rfl rfl rfl rfl rfl (by decide) (by decide) (by decide) (by decide) (by decide) (fun _ _ => rfl) (Nat.le_of_ble_eq_true rfl) (Nat.le_of_ble_eq_true rfl) dX0_copyFrom_57 (fun H locs hP hD hS => ?_)
  obtain ⟨q_7, eq_7⟩ : ∃ y : StV, y = su_are q_6 (va_cpy (s_are O) (s_are q_6) 0 0 6) := ⟨_, rfl⟩
  have hP : va_P D vwCl (stW k a q_7 ++ stW k b O) H := by rw [eq_7, ← st_set_are k a q_6 _, ← set_appL1 (Nat.le_of_ble_eq_true rfl)]; exact hP
  have hD : va_D A (stW k a q_7 ++ stW k b O) := by rw [eq_7, ← st_set_are k a q_6 _, ← set_appL1 (Nat.le_of_ble_eq_true rfl)]; exact hD
  have h := nm_l h eq_7
  refine lv_aload_n hx hb dX0_copyFrom_60 rfl (lv_at hl 1 rfl) ?_
  refine va_get (D := D) (ci := 0) (v := .ref (b 4)) (C := RX0) (T := TX0) (N := 12) hx hb hts w_1 hown hK hP 11 rfl rfl 5 (by decide) w_10 (fun _ h9 => h9) rfl dX0_copyFrom_61 ?_
  refine lv_iconst (v := 0) hx hb dX0_copyFrom_64 (by decide) ?_
  refine lv_aload_n hx hb dX0_copyFrom_65 rfl (lv_at hl 0 rfl) ?_
  refine va_get (D := D) (ci := 0) (v := .ref (a 4)) (C := RX0) (T := TX0) (N := 12) hx hb hts w_1 hown hK hP 0 rfl rfl 5 (by decide) w_10 (fun _ h9 => h9) rfl dX0_copyFrom_66 ?_
  refine lv_iconst (v := 0) hx hb dX0_copyFrom_69 (by decide) ?_
  refine lv_bipush (v := 6) hx hb dX0_copyFrom_70 (by decide) ?_
  refine va_copyi (sp := 0) (dp := 0) (n := 6) (ty := .int) hx hb (hml.trans hl.1.symm) hown w_4 w_5 w_6 w_7 hK hP hD hS 15 4 0 0 rfl rfl rfl rfl rfl (by decide) (by decide) (by decide) (by decide) (by decide) (fun _ _ => rfl) (Nat.le_of_ble_eq_true rfl) (Nat.le_of_ble_eq_true rfl) dX0_copyFrom_72 (fun H locs hP hD hS => ?_)
  obtain ⟨q_8, eq_8⟩ : ∃ y : StV, y = su_wat q_7 (va_cpy (s_wat O) (s_wat q_7) 0 0 6) := ⟨_, rfl⟩
  have hP : va_P D vwCl (stW k a q_8 ++ stW k b O) H := by rw [eq_8, ← st_set_wat k a q_7 _, ← set_appL1 (Nat.le_of_ble_eq_true rfl)]; exact hP
  have hD : va_D A (stW k a q_8 ++ stW k b O) := by rw [eq_8, ← st_set_wat k a q_7 _, ← set_appL1 (Nat.le_of_ble_eq_true rfl)]; exact hD
  have h := nm_l h eq_8
  refine lv_aload_n hx hb dX0_copyFrom_75 rfl (lv_at hl 1 rfl) ?_
  refine va_get (D := D) (ci := 0) (v := .ref (b 5)) (C := RX0) (T := TX0) (N := 12) hx hb hts w_1 hown hK hP 11 rfl rfl 6 (by decide) w_11 (fun _ h9 => h9) rfl dX0_copyFrom_76 ?_
  refine lv_iconst (v := 0) hx hb dX0_copyFrom_79 (by decide) ?_
  refine lv_aload_n hx hb dX0_copyFrom_80 rfl (lv_at hl 0 rfl) ?_
  refine va_get (D := D) (ci := 0) (v := .ref (a 5)) (C := RX0) (T := TX0) (N := 12) hx hb hts w_1 hown hK hP 0 rfl rfl 6 (by decide) w_11 (fun _ h9 => h9) rfl dX0_copyFrom_81 ?_
  refine lv_iconst (v := 0) hx hb dX0_copyFrom_84 (by decide) ?_
  refine lv_bipush (v := 6) hx hb dX0_copyFrom_85 (by decide) ?_
  refine va_copyi (sp := 0) (dp := 0) (n := 6) (ty := .int) hx hb (hml.trans hl.1.symm) hown w_4 w_5 w_6 w_7 hK hP hD hS 16 5 0 0 rfl rfl rfl rfl rfl (by decide) (by decide) (by decide) (by decide) (by decide) (fun _ _ => rfl) (Nat.le_of_ble_eq_true rfl) (Nat.le_of_ble_eq_true rfl) dX0_copyFrom_87 (fun H locs hP hD hS => ?_)
  obtain ⟨q_9, eq_9⟩ : ∃ y : StV, y = su_sol q_8 (va_cpy (s_sol O) (s_sol q_8) 0 0 6) := ⟨_, rfl⟩
  have hP : va_P D vwCl (stW k a q_9 ++ stW k b O) H := by rw [eq_9, ← st_set_sol k a q_8 _, ← set_appL1 (Nat.le_of_ble_eq_true rfl)]; exact hP
  have hD : va_D A (stW k a q_9 ++ stW k b O) := by rw [eq_9, ← st_set_sol k a q_8 _, ← set_appL1 (Nat.le_of_ble_eq_true rfl)]; exact hD
  have h := nm_l h eq_9
  refine lv_aload_n hx hb dX0_copyFrom_90 rfl (lv_at hl 1 rfl) ?_
  refine va_get (D := D) (ci := 0) (v := .ref (b 6)) (C := RX0) (T := TX0) (N := 12) hx hb hts w_1 hown hK hP 11 rfl rfl 7 (by decide) w_12 (fun _ h9 => h9) rfl dX0_copyFrom_91 ?_
  refine lv_iconst (v := 0) hx hb dX0_copyFrom_94 (by decide) ?_
  refine lv_aload_n hx hb dX0_copyFrom_95 rfl (lv_at hl 0 rfl) ?_
  refine va_get (D := D) (ci := 0) (v := .ref (a 6)) (C := RX0) (T := TX0) (N := 12) hx hb hts w_1 hown hK hP 0 rfl rfl 7 (by decide) w_12 (fun _ h9 => h9) rfl dX0_copyFrom_96 ?_
  refine lv_iconst (v := 0) hx hb dX0_copyFrom_99 (by decide) ?_
  refine lv_bipush (v := 6) hx hb dX0_copyFrom_100 (by decide) ?_
  refine va_copyi (sp := 0) (dp := 0) (n := 6) (ty := .int) hx hb (hml.trans hl.1.symm) hown w_4 w_5 w_6 w_7 hK hP hD hS 17 6 0 0 rfl rfl rfl rfl rfl (by decide) (by decide) (by decide) (by decide) (by decide) (fun _ _ => rfl) (Nat.le_of_ble_eq_true rfl) (Nat.le_of_ble_eq_true rfl) dX0_copyFrom_102 (fun H locs hP hD hS => ?_)
  obtain ⟨q_10, eq_10⟩ : ∃ y : StV, y = su_val q_9 (va_cpy (s_val O) (s_val q_9) 0 0 6) := ⟨_, rfl⟩
  have hP : va_P D vwCl (stW k a q_10 ++ stW k b O) H := by rw [eq_10, ← st_set_val k a q_9 _, ← set_appL1 (Nat.le_of_ble_eq_true rfl)]; exact hP
  have hD : va_D A (stW k a q_10 ++ stW k b O) := by rw [eq_10, ← st_set_val k a q_9 _, ← set_appL1 (Nat.le_of_ble_eq_true rfl)]; exact hD
  have h := nm_l h eq_10
  refine lv_aload_n hx hb dX0_copyFrom_105 rfl (lv_at hl 1 rfl) ?_
  refine va_get (D := D) (ci := 0) (v := .ref (b 7)) (C := RX0) (T := TX0) (N := 12) hx hb hts w_1 hown hK hP 11 rfl rfl 8 (by decide) w_13 (fun _ h9 => h9) rfl dX0_copyFrom_106 ?_
  refine lv_iconst (v := 0) hx hb dX0_copyFrom_109 (by decide) ?_
  refine lv_aload_n hx hb dX0_copyFrom_110 rfl (lv_at hl 0 rfl) ?_
  refine va_get (D := D) (ci := 0) (v := .ref (a 7)) (C := RX0) (T := TX0) (N := 12) hx hb hts w_1 hown hK hP 0 rfl rfl 8 (by decide) w_13 (fun _ h9 => h9) rfl dX0_copyFrom_111 ?_
  refine lv_iconst (v := 0) hx hb dX0_copyFrom_114 (by decide) ?_
  refine lv_bipush (v := 6) hx hb dX0_copyFrom_115 (by decide) ?_
  refine va_copyi (sp := 0) (dp := 0) (n := 6) (ty := .int) hx hb (hml.trans hl.1.symm) hown w_4 w_5 w_6 w_7 hK hP hD hS 18 7 0 0 rfl rfl rfl rfl rfl (by decide) (by decide) (by decide) (by decide) (by decide) (fun _ _ => rfl) (Nat.le_of_ble_eq_true rfl) (Nat.le_of_ble_eq_true rfl) dX0_copyFrom_117 (fun H locs hP hD hS => ?_)
  obtain ⟨q_11, eq_11⟩ : ∃ y : StV, y = su_ble q_10 (va_cpy (s_ble O) (s_ble q_10) 0 0 6) := ⟨_, rfl⟩
  have hP : va_P D vwCl (stW k a q_11 ++ stW k b O) H := by rw [eq_11, ← st_set_ble k a q_10 _, ← set_appL1 (Nat.le_of_ble_eq_true rfl)]; exact hP
  have hD : va_D A (stW k a q_11 ++ stW k b O) := by rw [eq_11, ← st_set_ble k a q_10 _, ← set_appL1 (Nat.le_of_ble_eq_true rfl)]; exact hD
  have h := nm_l h eq_11
  refine lv_aload_n hx hb dX0_copyFrom_120 rfl (lv_at hl 1 rfl) ?_
  refine va_get (D := D) (ci := 0) (v := .ref (b 8)) (C := RX0) (T := TX0) (N := 12) hx hb hts w_1 hown hK hP 11 rfl rfl 9 (by decide) w_14 (fun _ h9 => h9) rfl dX0_copyFrom_121 ?_
  refine lv_iconst (v := 0) hx hb dX0_copyFrom_124 (by decide) ?_
  refine lv_aload_n hx hb dX0_copyFrom_125 rfl (lv_at hl 0 rfl) ?_
  refine va_get (D := D) (ci := 0) (v := .ref (a 8)) (C := RX0) (T := TX0) (N := 12) hx hb hts w_1 hown hK hP 0 rfl rfl 9 (by decide) w_14 (fun _ h9 => h9) rfl dX0_copyFrom_126 ?_
  refine lv_iconst (v := 0) hx hb dX0_copyFrom_129 (by decide) ?_
  refine lv_bipush (v := 6) hx hb dX0_copyFrom_130 (by decide) ?_
  refine va_copyi (sp := 0) (dp := 0) (n := 6) (ty := .int) hx hb (hml.trans hl.1.symm) hown w_4 w_5 w_6 w_7 hK hP hD hS 19 8 0 0 rfl rfl rfl rfl rfl (by decide) (by decide) (by decide) (by decide) (by decide) (fun _ _ => rfl) (Nat.le_of_ble_eq_true rfl) (Nat.le_of_ble_eq_true rfl) dX0_copyFrom_132 (fun H locs hP hD hS => ?_)
  obtain ⟨q_12, eq_12⟩ : ∃ y : StV, y = su_sca q_11 (va_cpy (s_sca O) (s_sca q_11) 0 0 6) := ⟨_, rfl⟩
  have hP : va_P D vwCl (stW k a q_12 ++ stW k b O) H := by rw [eq_12, ← st_set_sca k a q_11 _, ← set_appL1 (Nat.le_of_ble_eq_true rfl)]; exact hP
  have hD : va_D A (stW k a q_12 ++ stW k b O) := by rw [eq_12, ← st_set_sca k a q_11 _, ← set_appL1 (Nat.le_of_ble_eq_true rfl)]; exact hD
  have h := nm_l h eq_12
  refine lv_aload_n hx hb dX0_copyFrom_135 rfl (lv_at hl 1 rfl) ?_
  refine va_get (D := D) (ci := 0) (v := .ref (b 9)) (C := RX0) (T := TX0) (N := 12) hx hb hts w_1 hown hK hP 11 rfl rfl 10 (by decide) w_15 (fun _ h9 => h9) rfl dX0_copyFrom_136 ?_
  refine lv_iconst (v := 0) hx hb dX0_copyFrom_139 (by decide) ?_
  refine lv_aload_n hx hb dX0_copyFrom_140 rfl (lv_at hl 0 rfl) ?_
  refine va_get (D := D) (ci := 0) (v := .ref (a 9)) (C := RX0) (T := TX0) (N := 12) hx hb hts w_1 hown hK hP 0 rfl rfl 10 (by decide) w_15 (fun _ h9 => h9) rfl dX0_copyFrom_141 ?_
  refine lv_iconst (v := 0) hx hb dX0_copyFrom_144 (by decide) ?_
  refine lv_bipush (v := 6) hx hb dX0_copyFrom_145 (by decide) ?_
  refine va_copyi (sp := 0) (dp := 0) (n := 6) (ty := .int) hx hb (hml.trans hl.1.symm) hown w_4 w_5 w_6 w_7 hK hP hD hS 20 9 0 0 rfl rfl rfl rfl rfl (by decide) (by decide) (by decide) (by decide) (by decide) (fun _ _ => rfl) (Nat.le_of_ble_eq_true rfl) (Nat.le_of_ble_eq_true rfl) dX0_copyFrom_147 (fun H locs hP hD hS => ?_)
  obtain ⟨q_13, eq_13⟩ : ∃ y : StV, y = su_scl q_12 (va_cpy (s_scl O) (s_scl q_12) 0 0 6) := ⟨_, rfl⟩
  have hP : va_P D vwCl (stW k a q_13 ++ stW k b O) H := by rw [eq_13, ← st_set_scl k a q_12 _, ← set_appL1 (Nat.le_of_ble_eq_true rfl)]; exact hP
  have hD : va_D A (stW k a q_13 ++ stW k b O) := by rw [eq_13, ← st_set_scl k a q_12 _, ← set_appL1 (Nat.le_of_ble_eq_true rfl)]; exact hD
  have h := nm_l h eq_13
  refine lv_aload_n hx hb dX0_copyFrom_150 rfl (lv_at hl 1 rfl) ?_
  refine va_get (D := D) (ci := 0) (v := .ref (b 10)) (C := RX0) (T := TX0) (N := 12) hx hb hts w_1 hown hK hP 11 rfl rfl 11 (by decide) w_16 (fun _ h9 => h9) rfl dX0_copyFrom_151 ?_
  refine lv_iconst (v := 0) hx hb dX0_copyFrom_154 (by decide) ?_
  refine lv_aload_n hx hb dX0_copyFrom_155 rfl (lv_at hl 0 rfl) ?_
  refine va_get (D := D) (ci := 0) (v := .ref (a 10)) (C := RX0) (T := TX0) (N := 12) hx hb hts w_1 hown hK hP 0 rfl rfl 11 (by decide) w_16 (fun _ h9 => h9) rfl dX0_copyFrom_156 ?_
  refine lv_iconst (v := 0) hx hb dX0_copyFrom_159 (by decide) ?_
  refine lv_bipush (v := 6) hx hb dX0_copyFrom_160 (by decide) ?_
  refine va_copyi (sp := 0) (dp := 0) (n := 6) (ty := .int) hx hb (hml.trans hl.1.symm) hown w_4 w_5 w_6 w_7 hK hP hD hS 21 10 0 0 rfl rfl rfl rfl rfl (by decide) (by decide) (by decide) (by decide) (by decide) (fun _ _ => rfl) (Nat.le_of_ble_eq_true rfl) (Nat.le_of_ble_eq_true rfl) dX0_copyFrom_162 (fun H locs hP hD hS => ?_)
  obtain ⟨q_14, eq_14⟩ : ∃ y : StV, y = su_lef q_13 (va_cpy (s_lef O) (s_lef q_13) 0 0 6) := ⟨_, rfl⟩
  have hP : va_P D vwCl (stW k a q_14 ++ stW k b O) H := by rw [eq_14, ← st_set_lef k a q_13 _, ← set_appL1 (Nat.le_of_ble_eq_true rfl)]; exact hP
  have hD : va_D A (stW k a q_14 ++ stW k b O) := by rw [eq_14, ← st_set_lef k a q_13 _, ← set_appL1 (Nat.le_of_ble_eq_true rfl)]; exact hD
  have h := nm_l h eq_14
  cases h
  exact Ck_vret hx hb hr hP hD hS dX0_copyFrom_165 hlocks
def f_X0_takeNumbers_49 (nf : Nat → Int32) : Nat → Int32 → StV → Option (StV)
  | 0, _, _ => none
  | fu + 1, x2_49, S_49 => if (s_n S_49) ≤ x2_49 then (some (S_49)) else (if 6 ≤ x2_49 then (some (S_49)) else (nm (6 + (6 * x2_49)) fun v_3 => gb (inb v_3 42) <| gb (inb x2_49 6) <| nm (su_are S_49 (upd (s_are S_49) x2_49.toNatClampNeg (nf v_3.toNatClampNeg))) fun q_6 => gb (inb (v_3 + 1) 42) <| gb (inb x2_49 6) <| nm (su_wat q_6 (upd (s_wat q_6) x2_49.toNatClampNeg (nf (v_3 + 1).toNatClampNeg))) fun q_9 => gb (inb (v_3 + 2) 42) <| gb (inb x2_49 6) <| nm (su_sol q_9 (upd (s_sol q_9) x2_49.toNatClampNeg (nf (v_3 + 2).toNatClampNeg))) fun q_12 => gb (inb (v_3 + 3) 42) <| gb (inb x2_49 6) <| nm (su_val q_12 (upd (s_val q_12) x2_49.toNatClampNeg (nf (v_3 + 3).toNatClampNeg))) fun q_15 => gb (inb (v_3 + 4) 42) <| gb (inb x2_49 6) <| nm (su_ble q_15 (upd (s_ble q_15) x2_49.toNatClampNeg (nf (v_3 + 4).toNatClampNeg))) fun q_18 => gb (inb (v_3 + 5) 42) <| gb (inb x2_49 6) <| nm (su_sca q_18 (upd (s_sca q_18) x2_49.toNatClampNeg (nf (v_3 + 5).toNatClampNeg))) fun q_21 => (f_X0_takeNumbers_49 nf fu) (x2_49 + 1) q_21))
def f_X0_takeNumbers (S : StV) (nf : Nat → Int32) : Option (StV) := nm (nf 0) fun v_22 => nm (su_n S v_22) fun q_23 => nm (su_set q_23 (va_cpy nf (s_set q_23) 1 0 5)) fun q_24 => nm (su_clk q_24 0) fun q_25 => bd (f_J7_fill_53178 10 (s_cou q_25) 0) fun q_26 => nm (su_cou q_25 q_26) fun q_28 => bd (f_J7_fill_53178 6 (s_scl q_28) 0) fun q_29 => nm (su_scl q_28 q_29) fun q_31 => bd (f_J7_fill_53178 6 (s_lef q_31) 0) fun q_32 => nm (su_lef q_31 q_32) fun q_34 => f_X0_takeNumbers_49 nf 2000 0 q_34
set_option maxRecDepth 100000 in
set_option maxHeartbeats 4000000 in
theorem c_X0_takeNumbers (l : Launch) (D : va_G) (k : Nat → ClassId) (a : Nat → Nat) (nb : Nat) (S : StV) (nf : Nat → Int32) (o0 : StV) (h : f_X0_takeNumbers S nf = some (o0)) : Ck l D (tyK k) yX0_takeNumbers wsX0_takeNumbers ({ frames := 1, cells := 0, slots := 0, locals := 60 } : Room) [.ref (a 0), .ref nb] (stW k a S ++ [(nb, .inl (k 0, 42, .inl nf))]) none (stW k a o0 ++ [(nb, .inl (k 0, 42, .inl nf))]) := by
  refine Ck_of (cc := cX0_takeNumbers) (maxL := 4) (ret := none) (by decide) rfl (Nat.le_of_ble_eq_true rfl) ?_
  intro p e s m args below meth c A ls hx hb hr hml hts hown hlocks hK hA hP hD hS hl
  have hl : lv_has ls 4 [(0, .ref (a 0)), (1, .ref nb)] := hl
  have hP : va_P D vwCl (stW k a S ++ [(nb, .inl (k 0, 42, .inl nf))]) s.heap := hP
  have w_0 := hts (.fieldLink RX0 9 "EffectTrain$State" "n" "I") (by decide +kernel)
  have w_1 : ∀ w ∈ wsX00, w ∈ wsX0_takeNumbers := by decide +kernel
  have w_2 := hts (.fieldLink RX0 25 "EffectTrain$State" "area" "[I") (by decide +kernel)
  have w_3 := hts (.fieldLink RX0 28 "EffectTrain$State" "water" "[I") (by decide +kernel)
  have w_4 := hts (.fieldLink RX0 31 "EffectTrain$State" "solids" "[I") (by decide +kernel)
  have w_5 := hts (.fieldLink RX0 34 "EffectTrain$State" "valve" "[I") (by decide +kernel)
  have w_6 := hts (.fieldLink RX0 37 "EffectTrain$State" "bleed" "[I") (by decide +kernel)
  have w_7 := hts (.fieldLink RX0 40 "EffectTrain$State" "scale" "[I") (by decide +kernel)
  have w_8 := hts (.fieldLink RX0 15 "EffectTrain$State" "settings" "[I") (by decide +kernel)
  have w_9 := hts (.methodLink RX0 55 arraycopyName) (by decide +kernel)
  have w_10 := hts (.native arraycopyName) (by decide +kernel)
  have w_11 := hts (.static arraycopyName) (by decide +kernel)
  have w_12 := hts (.initialized "java/lang/System") (by decide +kernel)
  have w_13 := hts (.fieldLink RX0 19 "EffectTrain$State" "clock" "I") (by decide +kernel)
  have w_14 := hts (.fieldLink RX0 22 "EffectTrain$State" "counts" "[I") (by decide +kernel)
  have w_15 := hts (.fieldLink RX0 43 "EffectTrain$State" "scaling" "[I") (by decide +kernel)
  have w_16 := hts (.fieldLink RX0 46 "EffectTrain$State" "left" "[I") (by decide +kernel)
  unfold f_X0_takeNumbers at h
  have hC_49 : ∀ (fu_49 : Nat) (x2_49 : Int32) (S_49 : StV) (H : Heap) (locs : List Loc) (ls : Array Slot), va_P D vwCl (stW k a S_49 ++ [(nb, .inl (k 0, 42, .inl nf))]) H → va_D A (stW k a S_49 ++ [(nb, .inl (k 0, 42, .inl nf))]) → va_S A s.heap H locs → lv_has ls 4 [(0, .ref (a 0)), (1, .ref nb), (2, .int x2_49)] → f_X0_takeNumbers_49 nf fu_49 x2_49 S_49 = some (o0) → W p l e ({ frames := 1, cells := 0, slots := 0, locals := 60 } : Room) s m args below meth c H locs 0 0 (MQ below (Qk D A none (stW k a o0 ++ [(nb, .inl (k 0, 42, .inl nf))])) args s 0 0 A) (F0 m 49 ls []) := by
    intro fu_49
    induction fu_49 with
    | zero => intro x2_49 S_49 H locs ls _ _ _ _ h; exact (no_l h).elim
    | succ fu_49 ih_49 =>
      intro x2_49 S_49 H locs ls hP hD hS hl h
      rw [f_X0_takeNumbers_49] at h
      refine lv_iload_n hx hb dX0_takeNumbers_49 rfl (lv_at hl 2 rfl) ?_
      refine lv_aload_n hx hb dX0_takeNumbers_50 rfl (lv_at hl 0 rfl) ?_
      refine va_get (D := D) (ci := 0) (v := .int (s_n S_49)) (C := RX0) (T := TX0) (N := 12) hx hb hts w_1 hown hK hP 0 rfl rfl 0 (by decide) w_0 (fun _ h9 => h9) rfl dX0_takeNumbers_51 ?_
      refine lv_icmp_ge (tgt := 141) hx hb dX0_takeNumbers_54 (by decide) (fun c_1 => ?_) (fun c_1 => ?_)
      · have h := it_l c_1 h
        cases h
        exact Ck_vret hx hb hr hP hD hS dX0_takeNumbers_141 hlocks
      · have h := it_r c_1 h
        refine lv_iload_n hx hb dX0_takeNumbers_57 rfl (lv_at hl 2 rfl) ?_
        refine lv_bipush (v := 6) hx hb dX0_takeNumbers_58 (by decide) ?_
        refine lv_icmp_ge (tgt := 141) hx hb dX0_takeNumbers_60 (by decide) (fun c_2 => ?_) (fun c_2 => ?_)
        · have h := it_l c_2 h
          cases h
          exact Ck_vret hx hb hr hP hD hS dX0_takeNumbers_141 hlocks
        · have h := it_r c_2 h
          refine lv_bipush (v := 6) hx hb dX0_takeNumbers_63 (by decide) ?_
          refine lv_bipush (v := 6) hx hb dX0_takeNumbers_65 (by decide) ?_
          refine lv_iload_n hx hb dX0_takeNumbers_67 rfl (lv_at hl 2 rfl) ?_
          refine lv_imul hx hb dX0_takeNumbers_68 ?_
          refine lv_iadd hx hb dX0_takeNumbers_69 ?_
          refine lv_topi (fun v_3 ev_3 => ?_)
          have h := nm_l h ev_3
          refine lv_istore_n (lv' := [(3, .int v_3), (0, .ref (a 0)), (1, .ref nb), (2, .int x2_49)]) hx hb dX0_takeNumbers_70 rfl hl (by decide) rfl (fun ls hl => ?_)
          refine lv_aload_n hx hb dX0_takeNumbers_71 rfl (lv_at hl 1 rfl) ?_
          refine va_get (D := D) (ci := 0) (v := .ref (a 3)) (C := RX0) (T := TX0) (N := 12) hx hb hts w_1 hown hK hP 0 rfl rfl 4 (by decide) w_2 (fun _ h9 => h9) rfl dX0_takeNumbers_72 ?_
          refine lv_iload_n hx hb dX0_takeNumbers_75 rfl (lv_at hl 3 rfl) ?_
          refine lv_aload_n hx hb dX0_takeNumbers_76 rfl (lv_at hl 2 rfl) ?_
          refine lv_iload_n hx hb dX0_takeNumbers_77 rfl (lv_at hl 0 rfl) ?_
          have g_4 := inb_vp (gb_l h)
          have h := gb_r h
          refine va_iald hx hb hK hP 11 0 rfl rfl g_4 dX0_takeNumbers_78 ?_
          have g_5 := inb_vp (gb_l h)
          have h := gb_r h
          refine va_iast hx hb hK hP hD hS 3 0 rfl rfl g_5 dX0_takeNumbers_79 (fun H locs hP hD hS => ?_)
          obtain ⟨q_6, eq_6⟩ : ∃ y : StV, y = su_are S_49 (upd (s_are S_49) x2_49.toNatClampNeg (nf v_3.toNatClampNeg)) := ⟨_, rfl⟩
          have hP : va_P D vwCl (stW k a q_6 ++ [(nb, .inl (k 0, 42, .inl nf))]) H := by rw [eq_6, ← st_set_are k a S_49 _, ← set_appL1 (Nat.le_of_ble_eq_true rfl)]; exact hP
          have hD : va_D A (stW k a q_6 ++ [(nb, .inl (k 0, 42, .inl nf))]) := by rw [eq_6, ← st_set_are k a S_49 _, ← set_appL1 (Nat.le_of_ble_eq_true rfl)]; exact hD
          have h := nm_l h eq_6
          refine lv_aload_n hx hb dX0_takeNumbers_80 rfl (lv_at hl 1 rfl) ?_
          refine va_get (D := D) (ci := 0) (v := .ref (a 4)) (C := RX0) (T := TX0) (N := 12) hx hb hts w_1 hown hK hP 0 rfl rfl 5 (by decide) w_3 (fun _ h9 => h9) rfl dX0_takeNumbers_81 ?_
          refine lv_iload_n hx hb dX0_takeNumbers_84 rfl (lv_at hl 3 rfl) ?_
          refine lv_aload_n hx hb dX0_takeNumbers_85 rfl (lv_at hl 2 rfl) ?_
          refine lv_iload_n hx hb dX0_takeNumbers_86 rfl (lv_at hl 0 rfl) ?_
          refine lv_iconst (v := 1) hx hb dX0_takeNumbers_87 (by decide) ?_
          refine lv_iadd hx hb dX0_takeNumbers_88 ?_
          have g_7 := inb_vp (gb_l h)
          have h := gb_r h
          refine va_iald hx hb hK hP 11 0 rfl rfl g_7 dX0_takeNumbers_89 ?_
          have g_8 := inb_vp (gb_l h)
          have h := gb_r h
          refine va_iast hx hb hK hP hD hS 4 0 rfl rfl g_8 dX0_takeNumbers_90 (fun H locs hP hD hS => ?_)
          obtain ⟨q_9, eq_9⟩ : ∃ y : StV, y = su_wat q_6 (upd (s_wat q_6) x2_49.toNatClampNeg (nf (v_3 + 1).toNatClampNeg)) := ⟨_, rfl⟩
          have hP : va_P D vwCl (stW k a q_9 ++ [(nb, .inl (k 0, 42, .inl nf))]) H := by rw [eq_9, ← st_set_wat k a q_6 _, ← set_appL1 (Nat.le_of_ble_eq_true rfl)]; exact hP
          have hD : va_D A (stW k a q_9 ++ [(nb, .inl (k 0, 42, .inl nf))]) := by rw [eq_9, ← st_set_wat k a q_6 _, ← set_appL1 (Nat.le_of_ble_eq_true rfl)]; exact hD
          have h := nm_l h eq_9
          refine lv_aload_n hx hb dX0_takeNumbers_91 rfl (lv_at hl 1 rfl) ?_
          refine va_get (D := D) (ci := 0) (v := .ref (a 5)) (C := RX0) (T := TX0) (N := 12) hx hb hts w_1 hown hK hP 0 rfl rfl 6 (by decide) w_4 (fun _ h9 => h9) rfl dX0_takeNumbers_92 ?_
          refine lv_iload_n hx hb dX0_takeNumbers_95 rfl (lv_at hl 3 rfl) ?_
          refine lv_aload_n hx hb dX0_takeNumbers_96 rfl (lv_at hl 2 rfl) ?_
          refine lv_iload_n hx hb dX0_takeNumbers_97 rfl (lv_at hl 0 rfl) ?_
          refine lv_iconst (v := 2) hx hb dX0_takeNumbers_98 (by decide) ?_
          refine lv_iadd hx hb dX0_takeNumbers_99 ?_
          have g_10 := inb_vp (gb_l h)
          have h := gb_r h
          refine va_iald hx hb hK hP 11 0 rfl rfl g_10 dX0_takeNumbers_100 ?_
          have g_11 := inb_vp (gb_l h)
          have h := gb_r h
          refine va_iast hx hb hK hP hD hS 5 0 rfl rfl g_11 dX0_takeNumbers_101 (fun H locs hP hD hS => ?_)
          obtain ⟨q_12, eq_12⟩ : ∃ y : StV, y = su_sol q_9 (upd (s_sol q_9) x2_49.toNatClampNeg (nf (v_3 + 2).toNatClampNeg)) := ⟨_, rfl⟩
          have hP : va_P D vwCl (stW k a q_12 ++ [(nb, .inl (k 0, 42, .inl nf))]) H := by rw [eq_12, ← st_set_sol k a q_9 _, ← set_appL1 (Nat.le_of_ble_eq_true rfl)]; exact hP
          have hD : va_D A (stW k a q_12 ++ [(nb, .inl (k 0, 42, .inl nf))]) := by rw [eq_12, ← st_set_sol k a q_9 _, ← set_appL1 (Nat.le_of_ble_eq_true rfl)]; exact hD
          have h := nm_l h eq_12
          refine lv_aload_n hx hb dX0_takeNumbers_102 rfl (lv_at hl 1 rfl) ?_
          refine va_get (D := D) (ci := 0) (v := .ref (a 6)) (C := RX0) (T := TX0) (N := 12) hx hb hts w_1 hown hK hP 0 rfl rfl 7 (by decide) w_5 (fun _ h9 => h9) rfl dX0_takeNumbers_103 ?_
          refine lv_iload_n hx hb dX0_takeNumbers_106 rfl (lv_at hl 3 rfl) ?_
          refine lv_aload_n hx hb dX0_takeNumbers_107 rfl (lv_at hl 2 rfl) ?_
          refine lv_iload_n hx hb dX0_takeNumbers_108 rfl (lv_at hl 0 rfl) ?_
          refine lv_iconst (v := 3) hx hb dX0_takeNumbers_109 (by decide) ?_
          refine lv_iadd hx hb dX0_takeNumbers_110 ?_
          have g_13 := inb_vp (gb_l h)
          have h := gb_r h
          refine va_iald hx hb hK hP 11 0 rfl rfl g_13 dX0_takeNumbers_111 ?_
          have g_14 := inb_vp (gb_l h)
          have h := gb_r h
          refine va_iast hx hb hK hP hD hS 6 0 rfl rfl g_14 dX0_takeNumbers_112 (fun H locs hP hD hS => ?_)
          obtain ⟨q_15, eq_15⟩ : ∃ y : StV, y = su_val q_12 (upd (s_val q_12) x2_49.toNatClampNeg (nf (v_3 + 3).toNatClampNeg)) := ⟨_, rfl⟩
          have hP : va_P D vwCl (stW k a q_15 ++ [(nb, .inl (k 0, 42, .inl nf))]) H := by rw [eq_15, ← st_set_val k a q_12 _, ← set_appL1 (Nat.le_of_ble_eq_true rfl)]; exact hP
          have hD : va_D A (stW k a q_15 ++ [(nb, .inl (k 0, 42, .inl nf))]) := by rw [eq_15, ← st_set_val k a q_12 _, ← set_appL1 (Nat.le_of_ble_eq_true rfl)]; exact hD
          have h := nm_l h eq_15
          refine lv_aload_n hx hb dX0_takeNumbers_113 rfl (lv_at hl 1 rfl) ?_
          refine va_get (D := D) (ci := 0) (v := .ref (a 7)) (C := RX0) (T := TX0) (N := 12) hx hb hts w_1 hown hK hP 0 rfl rfl 8 (by decide) w_6 (fun _ h9 => h9) rfl dX0_takeNumbers_114 ?_
          refine lv_iload_n hx hb dX0_takeNumbers_117 rfl (lv_at hl 3 rfl) ?_
          refine lv_aload_n hx hb dX0_takeNumbers_118 rfl (lv_at hl 2 rfl) ?_
          refine lv_iload_n hx hb dX0_takeNumbers_119 rfl (lv_at hl 0 rfl) ?_
          refine lv_iconst (v := 4) hx hb dX0_takeNumbers_120 (by decide) ?_
          refine lv_iadd hx hb dX0_takeNumbers_121 ?_
          have g_16 := inb_vp (gb_l h)
          have h := gb_r h
          refine va_iald hx hb hK hP 11 0 rfl rfl g_16 dX0_takeNumbers_122 ?_
          have g_17 := inb_vp (gb_l h)
          have h := gb_r h
          refine va_iast hx hb hK hP hD hS 7 0 rfl rfl g_17 dX0_takeNumbers_123 (fun H locs hP hD hS => ?_)
          obtain ⟨q_18, eq_18⟩ : ∃ y : StV, y = su_ble q_15 (upd (s_ble q_15) x2_49.toNatClampNeg (nf (v_3 + 4).toNatClampNeg)) := ⟨_, rfl⟩
          have hP : va_P D vwCl (stW k a q_18 ++ [(nb, .inl (k 0, 42, .inl nf))]) H := by rw [eq_18, ← st_set_ble k a q_15 _, ← set_appL1 (Nat.le_of_ble_eq_true rfl)]; exact hP
          have hD : va_D A (stW k a q_18 ++ [(nb, .inl (k 0, 42, .inl nf))]) := by rw [eq_18, ← st_set_ble k a q_15 _, ← set_appL1 (Nat.le_of_ble_eq_true rfl)]; exact hD
          have h := nm_l h eq_18
          refine lv_aload_n hx hb dX0_takeNumbers_124 rfl (lv_at hl 1 rfl) ?_
          refine va_get (D := D) (ci := 0) (v := .ref (a 8)) (C := RX0) (T := TX0) (N := 12) hx hb hts w_1 hown hK hP 0 rfl rfl 9 (by decide) w_7 (fun _ h9 => h9) rfl dX0_takeNumbers_125 ?_
          refine lv_iload_n hx hb dX0_takeNumbers_128 rfl (lv_at hl 3 rfl) ?_
          refine lv_aload_n hx hb dX0_takeNumbers_129 rfl (lv_at hl 2 rfl) ?_
          refine lv_iload_n hx hb dX0_takeNumbers_130 rfl (lv_at hl 0 rfl) ?_
          refine lv_iconst (v := 5) hx hb dX0_takeNumbers_131 (by decide) ?_
          refine lv_iadd hx hb dX0_takeNumbers_132 ?_
          have g_19 := inb_vp (gb_l h)
          have h := gb_r h
          refine va_iald hx hb hK hP 11 0 rfl rfl g_19 dX0_takeNumbers_133 ?_
          have g_20 := inb_vp (gb_l h)
          have h := gb_r h
          refine va_iast hx hb hK hP hD hS 8 0 rfl rfl g_20 dX0_takeNumbers_134 (fun H locs hP hD hS => ?_)
          obtain ⟨q_21, eq_21⟩ : ∃ y : StV, y = su_sca q_18 (upd (s_sca q_18) x2_49.toNatClampNeg (nf (v_3 + 5).toNatClampNeg)) := ⟨_, rfl⟩
          have hP : va_P D vwCl (stW k a q_21 ++ [(nb, .inl (k 0, 42, .inl nf))]) H := by rw [eq_21, ← st_set_sca k a q_18 _, ← set_appL1 (Nat.le_of_ble_eq_true rfl)]; exact hP
          have hD : va_D A (stW k a q_21 ++ [(nb, .inl (k 0, 42, .inl nf))]) := by rw [eq_21, ← st_set_sca k a q_18 _, ← set_appL1 (Nat.le_of_ble_eq_true rfl)]; exact hD
          have h := nm_l h eq_21
          refine lv_iinc (v := (x2_49 + 1)) (lv' := [(2, .int (x2_49 + 1)), (3, .int v_3), (0, .ref (a 0)), (1, .ref nb)]) hx hb dX0_takeNumbers_135 hl (k := 3) rfl rfl (by decide) rfl (fun ls hl => ?_)
          refine lv_goto (tgt := 49) hx hb dX0_takeNumbers_138 (by decide) ?_
          exact ih_49 (x2_49 + 1) q_21 _ _ _ hP hD hS (lv_sub hl [2, 3, 0] rfl) h
  refine lv_aload_n hx hb dX0_takeNumbers_0 rfl (lv_at hl 0 rfl) ?_
  refine lv_aload_n hx hb dX0_takeNumbers_1 rfl (lv_at hl 1 rfl) ?_
  refine lv_iconst (v := 0) hx hb dX0_takeNumbers_2 (by decide) ?_
  refine va_iald hx hb hK hP 11 0 rfl rfl (inb_vp (by decide)) dX0_takeNumbers_3 ?_
  refine W.eq (g2 := F0 m 4 ls [.int (nf 0), .ref (a 0)]) rfl ?_
  refine lv_topi (fun v_22 ev_22 => ?_)
  have h := nm_l h ev_22
  refine va_put (D := D) (ci := 0) (v := .int v_22) (ty := .int) (C := RX0) (T := TX0) (N := 12) hx hb hts w_1 tyX0 tyX0_ok nmX0 hown hK hP hD hS 0 rfl rfl 0 (by decide) w_0 (fun _ h9 => h9) rfl (by decide +kernel) rfl rfl (Nat.le_of_ble_eq_true rfl) dX0_takeNumbers_4 (fun H locs hP hD hS => ?_)
  obtain ⟨q_23, eq_23⟩ : ∃ y : StV, y = su_n S v_22 := ⟨_, rfl⟩
  have hP : va_P D vwCl (stW k a q_23 ++ [(nb, .inl (k 0, 42, .inl nf))]) H := by rw [eq_23, ← st_set_n k a S _, ← set_appL1 (Nat.le_of_ble_eq_true rfl)]; exact hP
  have hD : va_D A (stW k a q_23 ++ [(nb, .inl (k 0, 42, .inl nf))]) := by rw [eq_23, ← st_set_n k a S _, ← set_appL1 (Nat.le_of_ble_eq_true rfl)]; exact hD
  have h := nm_l h eq_23
  refine lv_aload_n hx hb dX0_takeNumbers_7 rfl (lv_at hl 1 rfl) ?_
  refine lv_iconst (v := 1) hx hb dX0_takeNumbers_8 (by decide) ?_
  refine lv_aload_n hx hb dX0_takeNumbers_9 rfl (lv_at hl 0 rfl) ?_
  refine va_get (D := D) (ci := 0) (v := .ref (a 1)) (C := RX0) (T := TX0) (N := 12) hx hb hts w_1 hown hK hP 0 rfl rfl 1 (by decide) w_8 (fun _ h9 => h9) rfl dX0_takeNumbers_10 ?_
  refine lv_iconst (v := 0) hx hb dX0_takeNumbers_13 (by decide) ?_
  refine lv_iconst (v := 5) hx hb dX0_takeNumbers_14 (by decide) ?_
  refine va_copyi (sp := 1) (dp := 0) (n := 5) (ty := .int) hx hb (hml.trans hl.1.symm) hown w_9 w_10 w_11 w_12 hK hP hD hS 11 1 0 0 rfl rfl rfl rfl rfl (by decide) (by decide) (by decide) (by decide) (by decide) (fun _ _ => rfl) (Nat.le_of_ble_eq_true rfl) (Nat.le_of_ble_eq_true rfl) dX0_takeNumbers_15 (fun H locs hP hD hS => ?_)
  obtain ⟨q_24, eq_24⟩ : ∃ y : StV, y = su_set q_23 (va_cpy nf (s_set q_23) 1 0 5) := ⟨_, rfl⟩
  have hP : va_P D vwCl (stW k a q_24 ++ [(nb, .inl (k 0, 42, .inl nf))]) H := by rw [eq_24, ← st_set_set k a q_23 _, ← set_appL1 (Nat.le_of_ble_eq_true rfl)]; exact hP
  have hD : va_D A (stW k a q_24 ++ [(nb, .inl (k 0, 42, .inl nf))]) := by rw [eq_24, ← st_set_set k a q_23 _, ← set_appL1 (Nat.le_of_ble_eq_true rfl)]; exact hD
  have h := nm_l h eq_24
  refine lv_aload_n hx hb dX0_takeNumbers_18 rfl (lv_at hl 0 rfl) ?_
  refine lv_iconst (v := 0) hx hb dX0_takeNumbers_19 (by decide) ?_
  refine va_put (D := D) (ci := 0) (v := .int 0) (ty := .int) (C := RX0) (T := TX0) (N := 12) hx hb hts w_1 tyX0 tyX0_ok nmX0 hown hK hP hD hS 0 rfl rfl 2 (by decide) w_13 (fun _ h9 => h9) rfl (by decide +kernel) rfl rfl (Nat.le_of_ble_eq_true rfl) dX0_takeNumbers_20 (fun H locs hP hD hS => ?_)
  obtain ⟨q_25, eq_25⟩ : ∃ y : StV, y = su_clk q_24 0 := ⟨_, rfl⟩
  have hP : va_P D vwCl (stW k a q_25 ++ [(nb, .inl (k 0, 42, .inl nf))]) H := by rw [eq_25, ← st_set_clk k a q_24 _, ← set_appL1 (Nat.le_of_ble_eq_true rfl)]; exact hP
  have hD : va_D A (stW k a q_25 ++ [(nb, .inl (k 0, 42, .inl nf))]) := by rw [eq_25, ← st_set_clk k a q_24 _, ← set_appL1 (Nat.le_of_ble_eq_true rfl)]; exact hD
  have h := nm_l h eq_25
  refine lv_aload_n hx hb dX0_takeNumbers_23 rfl (lv_at hl 0 rfl) ?_
  refine va_get (D := D) (ci := 0) (v := .ref (a 2)) (C := RX0) (T := TX0) (N := 12) hx hb hts w_1 hown hK hP 0 rfl rfl 3 (by decide) w_14 (fun _ h9 => h9) rfl dX0_takeNumbers_24 ?_
  refine lv_iconst (v := 0) hx hb dX0_takeNumbers_27 (by decide) ?_
  obtain ⟨q_26, hv_27, h⟩ := bd_l h
  obtain ⟨q_28, eq_28⟩ : ∃ y : StV, y = su_cou q_25 q_26 := ⟨_, rfl⟩
  have h := nm_l h eq_28
  refine Ck_S (As := [.ref (a 2), .int 0]) (rest := []) (wc := [(a 2, .inl (k 0, 10, .inl (s_cou q_25)))]) (wc' := [(a 2, .inl (k 0, 10, .inl q_26))]) (w0' := stW k a q_28 ++ [(nb, .inl (k 0, 42, .inl nf))]) ⟨hx, hb, hml, hown, hts⟩ (c_J7_fill_53178 l D k (a 2) 10 (s_cou q_25) 0 q_26 hv_27) (va_cwS 2 hts gX0_takeNumbers_J7_fill_53178 rfl rfl rfl (by decide +kernel) ⟨Nat.le_of_ble_eq_true rfl, Nat.le_of_ble_eq_true rfl⟩) hK hP hD hS hA [2] rfl (by decide) rfl (by rw [eq_28]; simp only [va_sets]; rw [set_appL1 (Nat.le_of_ble_eq_true rfl), st_set_cou]) rfl hl.1 rfl (Nat.le_of_ble_eq_true rfl) dX0_takeNumbers_28 ⟨Nat.le_of_ble_eq_true rfl, Nat.le_of_ble_eq_true rfl⟩ (fun H locs hP hD hS => ?_)
  refine W.eq (g2 := F0 m 31 ls []) rfl ?_
  refine lv_aload_n hx hb dX0_takeNumbers_31 rfl (lv_at hl 0 rfl) ?_
  refine va_get (D := D) (ci := 0) (v := .ref (a 9)) (C := RX0) (T := TX0) (N := 12) hx hb hts w_1 hown hK hP 0 rfl rfl 10 (by decide) w_15 (fun _ h9 => h9) rfl dX0_takeNumbers_32 ?_
  refine lv_iconst (v := 0) hx hb dX0_takeNumbers_35 (by decide) ?_
  obtain ⟨q_29, hv_30, h⟩ := bd_l h
  obtain ⟨q_31, eq_31⟩ : ∃ y : StV, y = su_scl q_28 q_29 := ⟨_, rfl⟩
  have h := nm_l h eq_31
  refine Ck_S (As := [.ref (a 9), .int 0]) (rest := []) (wc := [(a 9, .inl (k 0, 6, .inl (s_scl q_28)))]) (wc' := [(a 9, .inl (k 0, 6, .inl q_29))]) (w0' := stW k a q_31 ++ [(nb, .inl (k 0, 42, .inl nf))]) ⟨hx, hb, hml, hown, hts⟩ (c_J7_fill_53178 l D k (a 9) 6 (s_scl q_28) 0 q_29 hv_30) (va_cwS 2 hts gX0_takeNumbers_J7_fill_53178 rfl rfl rfl (by decide +kernel) ⟨Nat.le_of_ble_eq_true rfl, Nat.le_of_ble_eq_true rfl⟩) hK hP hD hS hA [9] rfl (by decide) rfl (by rw [eq_31]; simp only [va_sets]; rw [set_appL1 (Nat.le_of_ble_eq_true rfl), st_set_scl]) rfl hl.1 rfl (Nat.le_of_ble_eq_true rfl) dX0_takeNumbers_36 ⟨Nat.le_of_ble_eq_true rfl, Nat.le_of_ble_eq_true rfl⟩ (fun H locs hP hD hS => ?_)
  refine W.eq (g2 := F0 m 39 ls []) rfl ?_
  refine lv_aload_n hx hb dX0_takeNumbers_39 rfl (lv_at hl 0 rfl) ?_
  refine va_get (D := D) (ci := 0) (v := .ref (a 10)) (C := RX0) (T := TX0) (N := 12) hx hb hts w_1 hown hK hP 0 rfl rfl 11 (by decide) w_16 (fun _ h9 => h9) rfl dX0_takeNumbers_40 ?_
  refine lv_iconst (v := 0) hx hb dX0_takeNumbers_43 (by decide) ?_
  obtain ⟨q_32, hv_33, h⟩ := bd_l h
  obtain ⟨q_34, eq_34⟩ : ∃ y : StV, y = su_lef q_31 q_32 := ⟨_, rfl⟩
  have h := nm_l h eq_34
  refine Ck_S (As := [.ref (a 10), .int 0]) (rest := []) (wc := [(a 10, .inl (k 0, 6, .inl (s_lef q_31)))]) (wc' := [(a 10, .inl (k 0, 6, .inl q_32))]) (w0' := stW k a q_34 ++ [(nb, .inl (k 0, 42, .inl nf))]) ⟨hx, hb, hml, hown, hts⟩ (c_J7_fill_53178 l D k (a 10) 6 (s_lef q_31) 0 q_32 hv_33) (va_cwS 2 hts gX0_takeNumbers_J7_fill_53178 rfl rfl rfl (by decide +kernel) ⟨Nat.le_of_ble_eq_true rfl, Nat.le_of_ble_eq_true rfl⟩) hK hP hD hS hA [10] rfl (by decide) rfl (by rw [eq_34]; simp only [va_sets]; rw [set_appL1 (Nat.le_of_ble_eq_true rfl), st_set_lef]) rfl hl.1 rfl (Nat.le_of_ble_eq_true rfl) dX0_takeNumbers_44 ⟨Nat.le_of_ble_eq_true rfl, Nat.le_of_ble_eq_true rfl⟩ (fun H locs hP hD hS => ?_)
  refine W.eq (g2 := F0 m 47 ls []) rfl ?_
  refine lv_iconst (v := 0) hx hb dX0_takeNumbers_47 (by decide) ?_
  refine lv_istore_n (lv' := [(2, .int 0), (0, .ref (a 0)), (1, .ref nb)]) hx hb dX0_takeNumbers_48 rfl hl (by decide) rfl (fun ls hl => ?_)
  exact hC_49 2000 0 q_34 _ _ _ hP hD hS (lv_sub hl [1, 2, 0] rfl) h
end
