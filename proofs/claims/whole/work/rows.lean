section
-- ===== PART A: goes FIRST, ahead of the names: the tables' words, and 'selects' of the private methods out of them =====
/-- a private method of a class that the tables say can be made, by its rows of tables_1 -/
def lw_okq (q : MethodName × Nat) : Prop := (q.1.cls ≠ "java/lang/invoke/MethodHandle" ∧ q.1.cls ≠ "java/lang/invoke/VarHandle") ∧ Cond.instantiable q.1.cls q.2 ∈ tables_1 ∧ Cond.privateMethod q.1 ∈ tables_1 ∧ Cond.instanceMethod q.1 ∈ tables_1
theorem lw_p0 : lw_okq (⟨"TurnBus$BusText", "readOneOf", "(CC)C"⟩, 4) := ⟨⟨by decide +kernel, by decide +kernel⟩, List.mem_of_getElem? (i := 26) (by decide +kernel), List.mem_of_getElem? (i := 277) (by decide +kernel), List.mem_of_getElem? (i := 278) (by decide +kernel)⟩
theorem lw_p1 : lw_okq (⟨"TurnBus$BusText", "signAt", "(I)C"⟩, 4) := ⟨⟨by decide +kernel, by decide +kernel⟩, List.mem_of_getElem? (i := 26) (by decide +kernel), List.mem_of_getElem? (i := 281) (by decide +kernel), List.mem_of_getElem? (i := 282) (by decide +kernel)⟩
theorem lw_p2 : lw_okq (⟨"TurnBus$BusText", "readDigit", "(II)I"⟩, 4) := ⟨⟨by decide +kernel, by decide +kernel⟩, List.mem_of_getElem? (i := 26) (by decide +kernel), List.mem_of_getElem? (i := 285) (by decide +kernel), List.mem_of_getElem? (i := 286) (by decide +kernel)⟩
theorem lw_p3 : lw_okq (⟨"TurnBus$BusText", "readTwoDigits", "(II)I"⟩, 4) := ⟨⟨by decide +kernel, by decide +kernel⟩, List.mem_of_getElem? (i := 26) (by decide +kernel), List.mem_of_getElem? (i := 289) (by decide +kernel), List.mem_of_getElem? (i := 290) (by decide +kernel)⟩
theorem lw_p4 : lw_okq (⟨"TurnBus$BusText", "readPart", "(LTurnBus$Bus;)V"⟩, 4) := ⟨⟨by decide +kernel, by decide +kernel⟩, List.mem_of_getElem? (i := 26) (by decide +kernel), List.mem_of_getElem? (i := 294) (by decide +kernel), List.mem_of_getElem? (i := 295) (by decide +kernel)⟩
theorem lw_p5 : lw_okq (⟨"TurnBus$BusText", "readOwner", "(LTurnBus$Bus;)V"⟩, 4) := ⟨⟨by decide +kernel, by decide +kernel⟩, List.mem_of_getElem? (i := 26) (by decide +kernel), List.mem_of_getElem? (i := 298) (by decide +kernel), List.mem_of_getElem? (i := 299) (by decide +kernel)⟩
theorem lw_p6 : lw_okq (⟨"TurnBus$BusText", "readLatency", "(LTurnBus$Bus;)V"⟩, 4) := ⟨⟨by decide +kernel, by decide +kernel⟩, List.mem_of_getElem? (i := 26) (by decide +kernel), List.mem_of_getElem? (i := 306) (by decide +kernel), List.mem_of_getElem? (i := 307) (by decide +kernel)⟩
theorem lw_p7 : lw_okq (⟨"TurnBus$BusText", "readCredit", "(LTurnBus$Bus;)V"⟩, 4) := ⟨⟨by decide +kernel, by decide +kernel⟩, List.mem_of_getElem? (i := 26) (by decide +kernel), List.mem_of_getElem? (i := 310) (by decide +kernel), List.mem_of_getElem? (i := 311) (by decide +kernel)⟩
theorem lw_p8 : lw_okq (⟨"TurnBus$BusText", "readBurst", "(LTurnBus$Bus;)V"⟩, 4) := ⟨⟨by decide +kernel, by decide +kernel⟩, List.mem_of_getElem? (i := 26) (by decide +kernel), List.mem_of_getElem? (i := 314) (by decide +kernel), List.mem_of_getElem? (i := 315) (by decide +kernel)⟩
theorem lw_p9 : lw_okq (⟨"TurnBus$BusText", "refuseLast", "()V"⟩, 4) := ⟨⟨by decide +kernel, by decide +kernel⟩, List.mem_of_getElem? (i := 26) (by decide +kernel), List.mem_of_getElem? (i := 326) (by decide +kernel), List.mem_of_getElem? (i := 327) (by decide +kernel)⟩
theorem lw_p10 : lw_okq (⟨"TurnBus$Bus", "areDone", "(II)Z"⟩, 9) := ⟨⟨by decide +kernel, by decide +kernel⟩, List.mem_of_getElem? (i := 46) (by decide +kernel), List.mem_of_getElem? (i := 358) (by decide +kernel), List.mem_of_getElem? (i := 359) (by decide +kernel)⟩
theorem lw_p11 : lw_okq (⟨"TurnBus$Bus", "ownerNow", "()I"⟩, 9) := ⟨⟨by decide +kernel, by decide +kernel⟩, List.mem_of_getElem? (i := 46) (by decide +kernel), List.mem_of_getElem? (i := 379) (by decide +kernel), List.mem_of_getElem? (i := 380) (by decide +kernel)⟩
theorem lw_p12 : lw_okq (⟨"TurnBus$Bus", "takeTurn", "(I)I"⟩, 9) := ⟨⟨by decide +kernel, by decide +kernel⟩, List.mem_of_getElem? (i := 46) (by decide +kernel), List.mem_of_getElem? (i := 386) (by decide +kernel), List.mem_of_getElem? (i := 387) (by decide +kernel)⟩
theorem lw_p13 : lw_okq (⟨"TurnBus$Bus", "creditorOf", "(LTurnBus$Master;Z)I"⟩, 9) := ⟨⟨by decide +kernel, by decide +kernel⟩, List.mem_of_getElem? (i := 46) (by decide +kernel), List.mem_of_getElem? (i := 390) (by decide +kernel), List.mem_of_getElem? (i := 391) (by decide +kernel)⟩
theorem lw_p14 : lw_okq (⟨"TurnBus$Bus", "firstBorrower", "()I"⟩, 9) := ⟨⟨by decide +kernel, by decide +kernel⟩, List.mem_of_getElem? (i := 46) (by decide +kernel), List.mem_of_getElem? (i := 394) (by decide +kernel), List.mem_of_getElem? (i := 395) (by decide +kernel)⟩
theorem lw_p15 : lw_okq (⟨"TurnBus$Bus", "work", "(LTurnBus$Master;)V"⟩, 9) := ⟨⟨by decide +kernel, by decide +kernel⟩, List.mem_of_getElem? (i := 46) (by decide +kernel), List.mem_of_getElem? (i := 402) (by decide +kernel), List.mem_of_getElem? (i := 403) (by decide +kernel)⟩
def lw_privs_1 : List (MethodName × Nat) := [(⟨"TurnBus$BusText", "readOneOf", "(CC)C"⟩, 4), (⟨"TurnBus$BusText", "signAt", "(I)C"⟩, 4), (⟨"TurnBus$BusText", "readDigit", "(II)I"⟩, 4), (⟨"TurnBus$BusText", "readTwoDigits", "(II)I"⟩, 4), (⟨"TurnBus$BusText", "readPart", "(LTurnBus$Bus;)V"⟩, 4), (⟨"TurnBus$BusText", "readOwner", "(LTurnBus$Bus;)V"⟩, 4), (⟨"TurnBus$BusText", "readLatency", "(LTurnBus$Bus;)V"⟩, 4), (⟨"TurnBus$BusText", "readCredit", "(LTurnBus$Bus;)V"⟩, 4), (⟨"TurnBus$BusText", "readBurst", "(LTurnBus$Bus;)V"⟩, 4), (⟨"TurnBus$BusText", "refuseLast", "()V"⟩, 4), (⟨"TurnBus$Bus", "areDone", "(II)Z"⟩, 9), (⟨"TurnBus$Bus", "ownerNow", "()I"⟩, 9), (⟨"TurnBus$Bus", "takeTurn", "(I)I"⟩, 9), (⟨"TurnBus$Bus", "creditorOf", "(LTurnBus$Master;Z)I"⟩, 9), (⟨"TurnBus$Bus", "firstBorrower", "()I"⟩, 9), (⟨"TurnBus$Bus", "work", "(LTurnBus$Master;)V"⟩, 9)]
theorem lw_r1 : ∀ q ∈ lw_privs_1, lw_okq q := List.forall_mem_cons.mpr ⟨lw_p0, List.forall_mem_cons.mpr ⟨lw_p1, List.forall_mem_cons.mpr ⟨lw_p2, List.forall_mem_cons.mpr ⟨lw_p3, List.forall_mem_cons.mpr ⟨lw_p4, List.forall_mem_cons.mpr ⟨lw_p5, List.forall_mem_cons.mpr ⟨lw_p6, List.forall_mem_cons.mpr ⟨lw_p7, List.forall_mem_cons.mpr ⟨lw_p8, List.forall_mem_cons.mpr ⟨lw_p9, List.forall_mem_cons.mpr ⟨lw_p10, List.forall_mem_cons.mpr ⟨lw_p11, List.forall_mem_cons.mpr ⟨lw_p12, List.forall_mem_cons.mpr ⟨lw_p13, List.forall_mem_cons.mpr ⟨lw_p14, List.forall_mem_cons.mpr ⟨lw_p15, fun _ h => absurd h List.not_mem_nil⟩⟩⟩⟩⟩⟩⟩⟩⟩⟩⟩⟩⟩⟩⟩⟩
theorem lw_p16 : lw_okq (⟨"TurnBus$Bus", "sendWord", "(LTurnBus$Master;)V"⟩, 9) := ⟨⟨by decide +kernel, by decide +kernel⟩, List.mem_of_getElem? (i := 46) (by decide +kernel), List.mem_of_getElem? (i := 411) (by decide +kernel), List.mem_of_getElem? (i := 412) (by decide +kernel)⟩
theorem lw_p17 : lw_okq (⟨"TurnBus$Bus", "latencyNow", "(I)I"⟩, 9) := ⟨⟨by decide +kernel, by decide +kernel⟩, List.mem_of_getElem? (i := 46) (by decide +kernel), List.mem_of_getElem? (i := 415) (by decide +kernel), List.mem_of_getElem? (i := 416) (by decide +kernel)⟩
theorem lw_p18 : lw_okq (⟨"TurnBus$Bus", "cannotPay", "(I)Z"⟩, 9) := ⟨⟨by decide +kernel, by decide +kernel⟩, List.mem_of_getElem? (i := 46) (by decide +kernel), List.mem_of_getElem? (i := 432) (by decide +kernel), List.mem_of_getElem? (i := 433) (by decide +kernel)⟩
theorem lw_p19 : lw_okq (⟨"TurnBus$Bus", "ruin", "(I)V"⟩, 9) := ⟨⟨by decide +kernel, by decide +kernel⟩, List.mem_of_getElem? (i := 46) (by decide +kernel), List.mem_of_getElem? (i := 440) (by decide +kernel), List.mem_of_getElem? (i := 441) (by decide +kernel)⟩
theorem lw_p20 : lw_okq (⟨"java/lang/Throwable", "fillInStackTrace", "(I)Ljava/lang/Throwable;"⟩, 6) := ⟨⟨by decide +kernel, by decide +kernel⟩, List.mem_of_getElem? (i := 495) (by decide +kernel), List.mem_of_getElem? (i := 493) (by decide +kernel), List.mem_of_getElem? (i := 494) (by decide +kernel)⟩
theorem lw_p21 : lw_okq (⟨"TurnBus", "needMaster", "(I)V"⟩, 7) := ⟨⟨by decide +kernel, by decide +kernel⟩, List.mem_of_getElem? (i := 18) (by decide +kernel), List.mem_of_getElem? (i := 593) (by decide +kernel), List.mem_of_getElem? (i := 594) (by decide +kernel)⟩
theorem lw_p22 : lw_okq (⟨"TurnBus", "needSlot", "(I)V"⟩, 7) := ⟨⟨by decide +kernel, by decide +kernel⟩, List.mem_of_getElem? (i := 18) (by decide +kernel), List.mem_of_getElem? (i := 632) (by decide +kernel), List.mem_of_getElem? (i := 633) (by decide +kernel)⟩
theorem lw_p23 : lw_okq (⟨"TurnBus", "needSlave", "(I)V"⟩, 7) := ⟨⟨by decide +kernel, by decide +kernel⟩, List.mem_of_getElem? (i := 18) (by decide +kernel), List.mem_of_getElem? (i := 698) (by decide +kernel), List.mem_of_getElem? (i := 699) (by decide +kernel)⟩
theorem lw_p24 : lw_okq (⟨"TurnBus", "succeeds", "(I)Z"⟩, 7) := ⟨⟨by decide +kernel, by decide +kernel⟩, List.mem_of_getElem? (i := 18) (by decide +kernel), List.mem_of_getElem? (i := 791) (by decide +kernel), List.mem_of_getElem? (i := 792) (by decide +kernel)⟩
theorem lw_p25 : lw_okq (⟨"TurnBus", "runsSend", "(IIIZ)Z"⟩, 7) := ⟨⟨by decide +kernel, by decide +kernel⟩, List.mem_of_getElem? (i := 18) (by decide +kernel), List.mem_of_getElem? (i := 795) (by decide +kernel), List.mem_of_getElem? (i := 796) (by decide +kernel)⟩
theorem lw_p26 : lw_okq (⟨"TurnBus", "runsGive", "(II)Z"⟩, 7) := ⟨⟨by decide +kernel, by decide +kernel⟩, List.mem_of_getElem? (i := 18) (by decide +kernel), List.mem_of_getElem? (i := 799) (by decide +kernel), List.mem_of_getElem? (i := 800) (by decide +kernel)⟩
theorem lw_p27 : lw_okq (⟨"TurnBus", "runsForgive", "(II)Z"⟩, 7) := ⟨⟨by decide +kernel, by decide +kernel⟩, List.mem_of_getElem? (i := 18) (by decide +kernel), List.mem_of_getElem? (i := 803) (by decide +kernel), List.mem_of_getElem? (i := 804) (by decide +kernel)⟩
theorem lw_p28 : lw_okq (⟨"TurnBus", "drawBurst", "(I)V"⟩, 7) := ⟨⟨by decide +kernel, by decide +kernel⟩, List.mem_of_getElem? (i := 18) (by decide +kernel), List.mem_of_getElem? (i := 816) (by decide +kernel), List.mem_of_getElem? (i := 817) (by decide +kernel)⟩
theorem lw_p29 : lw_okq (⟨"TurnBus", "needSaveSlot", "(I)V"⟩, 7) := ⟨⟨by decide +kernel, by decide +kernel⟩, List.mem_of_getElem? (i := 18) (by decide +kernel), List.mem_of_getElem? (i := 834) (by decide +kernel), List.mem_of_getElem? (i := 835) (by decide +kernel)⟩
theorem lw_p30 : lw_okq (⟨"TurnBusModel", "anew", "(II)V"⟩, 15) := ⟨⟨by decide +kernel, by decide +kernel⟩, List.mem_of_getElem? (i := 847) (by decide +kernel), List.mem_of_getElem? (i := 853) (by decide +kernel), List.mem_of_getElem? (i := 854) (by decide +kernel)⟩
theorem lw_p31 : lw_okq (⟨"TurnBusModel", "fails", "(I)I"⟩, 15) := ⟨⟨by decide +kernel, by decide +kernel⟩, List.mem_of_getElem? (i := 847) (by decide +kernel), List.mem_of_getElem? (i := 915) (by decide +kernel), List.mem_of_getElem? (i := 916) (by decide +kernel)⟩
def lw_privs_2 : List (MethodName × Nat) := [(⟨"TurnBus$Bus", "sendWord", "(LTurnBus$Master;)V"⟩, 9), (⟨"TurnBus$Bus", "latencyNow", "(I)I"⟩, 9), (⟨"TurnBus$Bus", "cannotPay", "(I)Z"⟩, 9), (⟨"TurnBus$Bus", "ruin", "(I)V"⟩, 9), (⟨"java/lang/Throwable", "fillInStackTrace", "(I)Ljava/lang/Throwable;"⟩, 6), (⟨"TurnBus", "needMaster", "(I)V"⟩, 7), (⟨"TurnBus", "needSlot", "(I)V"⟩, 7), (⟨"TurnBus", "needSlave", "(I)V"⟩, 7), (⟨"TurnBus", "succeeds", "(I)Z"⟩, 7), (⟨"TurnBus", "runsSend", "(IIIZ)Z"⟩, 7), (⟨"TurnBus", "runsGive", "(II)Z"⟩, 7), (⟨"TurnBus", "runsForgive", "(II)Z"⟩, 7), (⟨"TurnBus", "drawBurst", "(I)V"⟩, 7), (⟨"TurnBus", "needSaveSlot", "(I)V"⟩, 7), (⟨"TurnBusModel", "anew", "(II)V"⟩, 15), (⟨"TurnBusModel", "fails", "(I)I"⟩, 15)]
theorem lw_r2 : ∀ q ∈ lw_privs_2, lw_okq q := List.forall_mem_cons.mpr ⟨lw_p16, List.forall_mem_cons.mpr ⟨lw_p17, List.forall_mem_cons.mpr ⟨lw_p18, List.forall_mem_cons.mpr ⟨lw_p19, List.forall_mem_cons.mpr ⟨lw_p20, List.forall_mem_cons.mpr ⟨lw_p21, List.forall_mem_cons.mpr ⟨lw_p22, List.forall_mem_cons.mpr ⟨lw_p23, List.forall_mem_cons.mpr ⟨lw_p24, List.forall_mem_cons.mpr ⟨lw_p25, List.forall_mem_cons.mpr ⟨lw_p26, List.forall_mem_cons.mpr ⟨lw_p27, List.forall_mem_cons.mpr ⟨lw_p28, List.forall_mem_cons.mpr ⟨lw_p29, List.forall_mem_cons.mpr ⟨lw_p30, List.forall_mem_cons.mpr ⟨lw_p31, fun _ h => absurd h List.not_mem_nil⟩⟩⟩⟩⟩⟩⟩⟩⟩⟩⟩⟩⟩⟩⟩⟩
theorem lw_p32 : lw_okq (⟨"TurnBusModel", "reads", "(Z)Z"⟩, 15) := ⟨⟨by decide +kernel, by decide +kernel⟩, List.mem_of_getElem? (i := 847) (by decide +kernel), List.mem_of_getElem? (i := 927) (by decide +kernel), List.mem_of_getElem? (i := 928) (by decide +kernel)⟩
theorem lw_p33 : lw_okq (⟨"TurnBusModel", "sign", "(I)Z"⟩, 15) := ⟨⟨by decide +kernel, by decide +kernel⟩, List.mem_of_getElem? (i := 847) (by decide +kernel), List.mem_of_getElem? (i := 931) (by decide +kernel), List.mem_of_getElem? (i := 932) (by decide +kernel)⟩
theorem lw_p34 : lw_okq (⟨"TurnBusModel", "digitTo", "(II)Z"⟩, 15) := ⟨⟨by decide +kernel, by decide +kernel⟩, List.mem_of_getElem? (i := 847) (by decide +kernel), List.mem_of_getElem? (i := 935) (by decide +kernel), List.mem_of_getElem? (i := 936) (by decide +kernel)⟩
theorem lw_p35 : lw_okq (⟨"TurnBusModel", "twoTo", "(II)Z"⟩, 15) := ⟨⟨by decide +kernel, by decide +kernel⟩, List.mem_of_getElem? (i := 847) (by decide +kernel), List.mem_of_getElem? (i := 939) (by decide +kernel), List.mem_of_getElem? (i := 940) (by decide +kernel)⟩
theorem lw_p36 : lw_okq (⟨"TurnBusModel", "part", "(Z)Z"⟩, 15) := ⟨⟨by decide +kernel, by decide +kernel⟩, List.mem_of_getElem? (i := 847) (by decide +kernel), List.mem_of_getElem? (i := 943) (by decide +kernel), List.mem_of_getElem? (i := 944) (by decide +kernel)⟩
theorem lw_p37 : lw_okq (⟨"TurnBusModel", "burstPart", "(Z)Z"⟩, 15) := ⟨⟨by decide +kernel, by decide +kernel⟩, List.mem_of_getElem? (i := 847) (by decide +kernel), List.mem_of_getElem? (i := 947) (by decide +kernel), List.mem_of_getElem? (i := 948) (by decide +kernel)⟩
theorem lw_p38 : lw_okq (⟨"TurnBusModel", "sends", "(IIII)I"⟩, 15) := ⟨⟨by decide +kernel, by decide +kernel⟩, List.mem_of_getElem? (i := 847) (by decide +kernel), List.mem_of_getElem? (i := 951) (by decide +kernel), List.mem_of_getElem? (i := 952) (by decide +kernel)⟩
theorem lw_p39 : lw_okq (⟨"TurnBusModel", "of", "(II)I"⟩, 15) := ⟨⟨by decide +kernel, by decide +kernel⟩, List.mem_of_getElem? (i := 847) (by decide +kernel), List.mem_of_getElem? (i := 955) (by decide +kernel), List.mem_of_getElem? (i := 956) (by decide +kernel)⟩
theorem lw_p40 : lw_okq (⟨"TurnBusModel", "allOf", "(I)I"⟩, 15) := ⟨⟨by decide +kernel, by decide +kernel⟩, List.mem_of_getElem? (i := 847) (by decide +kernel), List.mem_of_getElem? (i := 966) (by decide +kernel), List.mem_of_getElem? (i := 967) (by decide +kernel)⟩
theorem lw_p41 : lw_okq (⟨"TurnBusModel", "debts", "(I)I"⟩, 15) := ⟨⟨by decide +kernel, by decide +kernel⟩, List.mem_of_getElem? (i := 847) (by decide +kernel), List.mem_of_getElem? (i := 974) (by decide +kernel), List.mem_of_getElem? (i := 975) (by decide +kernel)⟩
theorem lw_p42 : lw_okq (⟨"TurnBusModel", "owed", "(II)I"⟩, 15) := ⟨⟨by decide +kernel, by decide +kernel⟩, List.mem_of_getElem? (i := 847) (by decide +kernel), List.mem_of_getElem? (i := 978) (by decide +kernel), List.mem_of_getElem? (i := 979) (by decide +kernel)⟩
theorem lw_p43 : lw_okq (⟨"TurnBusModel", "isMaster", "(I)Z"⟩, 15) := ⟨⟨by decide +kernel, by decide +kernel⟩, List.mem_of_getElem? (i := 847) (by decide +kernel), List.mem_of_getElem? (i := 986) (by decide +kernel), List.mem_of_getElem? (i := 987) (by decide +kernel)⟩
theorem lw_p44 : lw_okq (⟨"TurnBusModel", "slotsOf", "(I)I"⟩, 15) := ⟨⟨by decide +kernel, by decide +kernel⟩, List.mem_of_getElem? (i := 847) (by decide +kernel), List.mem_of_getElem? (i := 990) (by decide +kernel), List.mem_of_getElem? (i := 991) (by decide +kernel)⟩
theorem lw_p45 : lw_okq (⟨"TurnBusModel", "isSlot", "(I)Z"⟩, 15) := ⟨⟨by decide +kernel, by decide +kernel⟩, List.mem_of_getElem? (i := 847) (by decide +kernel), List.mem_of_getElem? (i := 1000) (by decide +kernel), List.mem_of_getElem? (i := 1001) (by decide +kernel)⟩
theorem lw_p46 : lw_okq (⟨"TurnBusModel", "remember", "()V"⟩, 15) := ⟨⟨by decide +kernel, by decide +kernel⟩, List.mem_of_getElem? (i := 847) (by decide +kernel), List.mem_of_getElem? (i := 1021) (by decide +kernel), List.mem_of_getElem? (i := 1022) (by decide +kernel)⟩
theorem lw_p47 : lw_okq (⟨"TurnBusModel", "isBankrupt", "(I)Z"⟩, 15) := ⟨⟨by decide +kernel, by decide +kernel⟩, List.mem_of_getElem? (i := 847) (by decide +kernel), List.mem_of_getElem? (i := 1029) (by decide +kernel), List.mem_of_getElem? (i := 1030) (by decide +kernel)⟩
def lw_privs_3 : List (MethodName × Nat) := [(⟨"TurnBusModel", "reads", "(Z)Z"⟩, 15), (⟨"TurnBusModel", "sign", "(I)Z"⟩, 15), (⟨"TurnBusModel", "digitTo", "(II)Z"⟩, 15), (⟨"TurnBusModel", "twoTo", "(II)Z"⟩, 15), (⟨"TurnBusModel", "part", "(Z)Z"⟩, 15), (⟨"TurnBusModel", "burstPart", "(Z)Z"⟩, 15), (⟨"TurnBusModel", "sends", "(IIII)I"⟩, 15), (⟨"TurnBusModel", "of", "(II)I"⟩, 15), (⟨"TurnBusModel", "allOf", "(I)I"⟩, 15), (⟨"TurnBusModel", "debts", "(I)I"⟩, 15), (⟨"TurnBusModel", "owed", "(II)I"⟩, 15), (⟨"TurnBusModel", "isMaster", "(I)Z"⟩, 15), (⟨"TurnBusModel", "slotsOf", "(I)I"⟩, 15), (⟨"TurnBusModel", "isSlot", "(I)Z"⟩, 15), (⟨"TurnBusModel", "remember", "()V"⟩, 15), (⟨"TurnBusModel", "isBankrupt", "(I)Z"⟩, 15)]
theorem lw_r3 : ∀ q ∈ lw_privs_3, lw_okq q := List.forall_mem_cons.mpr ⟨lw_p32, List.forall_mem_cons.mpr ⟨lw_p33, List.forall_mem_cons.mpr ⟨lw_p34, List.forall_mem_cons.mpr ⟨lw_p35, List.forall_mem_cons.mpr ⟨lw_p36, List.forall_mem_cons.mpr ⟨lw_p37, List.forall_mem_cons.mpr ⟨lw_p38, List.forall_mem_cons.mpr ⟨lw_p39, List.forall_mem_cons.mpr ⟨lw_p40, List.forall_mem_cons.mpr ⟨lw_p41, List.forall_mem_cons.mpr ⟨lw_p42, List.forall_mem_cons.mpr ⟨lw_p43, List.forall_mem_cons.mpr ⟨lw_p44, List.forall_mem_cons.mpr ⟨lw_p45, List.forall_mem_cons.mpr ⟨lw_p46, List.forall_mem_cons.mpr ⟨lw_p47, fun _ h => absurd h List.not_mem_nil⟩⟩⟩⟩⟩⟩⟩⟩⟩⟩⟩⟩⟩⟩⟩⟩
theorem lw_p48 : lw_okq (⟨"TurnBusModel", "puts", "(II)I"⟩, 15) := ⟨⟨by decide +kernel, by decide +kernel⟩, List.mem_of_getElem? (i := 847) (by decide +kernel), List.mem_of_getElem? (i := 1033) (by decide +kernel), List.mem_of_getElem? (i := 1034) (by decide +kernel)⟩
theorem lw_p49 : lw_okq (⟨"TurnBusModel", "canSend", "(I)Z"⟩, 15) := ⟨⟨by decide +kernel, by decide +kernel⟩, List.mem_of_getElem? (i := 847) (by decide +kernel), List.mem_of_getElem? (i := 1055) (by decide +kernel), List.mem_of_getElem? (i := 1056) (by decide +kernel)⟩
theorem lw_p50 : lw_okq (⟨"TurnBusModel", "passes", "(I)I"⟩, 15) := ⟨⟨by decide +kernel, by decide +kernel⟩, List.mem_of_getElem? (i := 847) (by decide +kernel), List.mem_of_getElem? (i := 1064) (by decide +kernel), List.mem_of_getElem? (i := 1065) (by decide +kernel)⟩
theorem lw_p51 : lw_okq (⟨"TurnBusModel", "tick", "()I"⟩, 15) := ⟨⟨by decide +kernel, by decide +kernel⟩, List.mem_of_getElem? (i := 847) (by decide +kernel), List.mem_of_getElem? (i := 1068) (by decide +kernel), List.mem_of_getElem? (i := 1069) (by decide +kernel)⟩
theorem lw_p52 : lw_okq (⟨"TurnBusModel", "hasToDo", "(I)Z"⟩, 15) := ⟨⟨by decide +kernel, by decide +kernel⟩, List.mem_of_getElem? (i := 847) (by decide +kernel), List.mem_of_getElem? (i := 1072) (by decide +kernel), List.mem_of_getElem? (i := 1073) (by decide +kernel)⟩
theorem lw_p53 : lw_okq (⟨"TurnBusModel", "ready", "(I)I"⟩, 15) := ⟨⟨by decide +kernel, by decide +kernel⟩, List.mem_of_getElem? (i := 847) (by decide +kernel), List.mem_of_getElem? (i := 1076) (by decide +kernel), List.mem_of_getElem? (i := 1077) (by decide +kernel)⟩
theorem lw_p54 : lw_okq (⟨"TurnBusModel", "turn", "(I)I"⟩, 15) := ⟨⟨by decide +kernel, by decide +kernel⟩, List.mem_of_getElem? (i := 847) (by decide +kernel), List.mem_of_getElem? (i := 1080) (by decide +kernel), List.mem_of_getElem? (i := 1081) (by decide +kernel)⟩
theorem lw_p55 : lw_okq (⟨"TurnBusModel", "creditorOf", "(II)I"⟩, 15) := ⟨⟨by decide +kernel, by decide +kernel⟩, List.mem_of_getElem? (i := 847) (by decide +kernel), List.mem_of_getElem? (i := 1084) (by decide +kernel), List.mem_of_getElem? (i := 1085) (by decide +kernel)⟩
theorem lw_p56 : lw_okq (⟨"TurnBusModel", "longestWaiting", "(I)I"⟩, 15) := ⟨⟨by decide +kernel, by decide +kernel⟩, List.mem_of_getElem? (i := 847) (by decide +kernel), List.mem_of_getElem? (i := 1088) (by decide +kernel), List.mem_of_getElem? (i := 1089) (by decide +kernel)⟩
theorem lw_p57 : lw_okq (⟨"TurnBusModel", "uses", "(I)V"⟩, 15) := ⟨⟨by decide +kernel, by decide +kernel⟩, List.mem_of_getElem? (i := 847) (by decide +kernel), List.mem_of_getElem? (i := 1092) (by decide +kernel), List.mem_of_getElem? (i := 1093) (by decide +kernel)⟩
theorem lw_p58 : lw_okq (⟨"TurnBusModel", "breaks", "(I)V"⟩, 15) := ⟨⟨by decide +kernel, by decide +kernel⟩, List.mem_of_getElem? (i := 847) (by decide +kernel), List.mem_of_getElem? (i := 1096) (by decide +kernel), List.mem_of_getElem? (i := 1097) (by decide +kernel)⟩
theorem lw_p59 : lw_okq (⟨"TurnBusModel", "doneWith", "(I)I"⟩, 15) := ⟨⟨by decide +kernel, by decide +kernel⟩, List.mem_of_getElem? (i := 847) (by decide +kernel), List.mem_of_getElem? (i := 1119) (by decide +kernel), List.mem_of_getElem? (i := 1120) (by decide +kernel)⟩
theorem lw_p60 : lw_okq (⟨"TurnBusModel", "isDone", "(I)Z"⟩, 15) := ⟨⟨by decide +kernel, by decide +kernel⟩, List.mem_of_getElem? (i := 847) (by decide +kernel), List.mem_of_getElem? (i := 1123) (by decide +kernel), List.mem_of_getElem? (i := 1124) (by decide +kernel)⟩
theorem lw_p61 : lw_okq (⟨"TurnBusModel", "succeeds", "(I)Z"⟩, 15) := ⟨⟨by decide +kernel, by decide +kernel⟩, List.mem_of_getElem? (i := 847) (by decide +kernel), List.mem_of_getElem? (i := 1140) (by decide +kernel), List.mem_of_getElem? (i := 1141) (by decide +kernel)⟩
theorem lw_p62 : lw_okq (⟨"TurnBusModel", "acts", "(IIIII)Z"⟩, 15) := ⟨⟨by decide +kernel, by decide +kernel⟩, List.mem_of_getElem? (i := 847) (by decide +kernel), List.mem_of_getElem? (i := 1144) (by decide +kernel), List.mem_of_getElem? (i := 1145) (by decide +kernel)⟩
def lw_privs_4 : List (MethodName × Nat) := [(⟨"TurnBusModel", "puts", "(II)I"⟩, 15), (⟨"TurnBusModel", "canSend", "(I)Z"⟩, 15), (⟨"TurnBusModel", "passes", "(I)I"⟩, 15), (⟨"TurnBusModel", "tick", "()I"⟩, 15), (⟨"TurnBusModel", "hasToDo", "(I)Z"⟩, 15), (⟨"TurnBusModel", "ready", "(I)I"⟩, 15), (⟨"TurnBusModel", "turn", "(I)I"⟩, 15), (⟨"TurnBusModel", "creditorOf", "(II)I"⟩, 15), (⟨"TurnBusModel", "longestWaiting", "(I)I"⟩, 15), (⟨"TurnBusModel", "uses", "(I)V"⟩, 15), (⟨"TurnBusModel", "breaks", "(I)V"⟩, 15), (⟨"TurnBusModel", "doneWith", "(I)I"⟩, 15), (⟨"TurnBusModel", "isDone", "(I)Z"⟩, 15), (⟨"TurnBusModel", "succeeds", "(I)Z"⟩, 15), (⟨"TurnBusModel", "acts", "(IIIII)Z"⟩, 15)]
theorem lw_r4 : ∀ q ∈ lw_privs_4, lw_okq q := List.forall_mem_cons.mpr ⟨lw_p48, List.forall_mem_cons.mpr ⟨lw_p49, List.forall_mem_cons.mpr ⟨lw_p50, List.forall_mem_cons.mpr ⟨lw_p51, List.forall_mem_cons.mpr ⟨lw_p52, List.forall_mem_cons.mpr ⟨lw_p53, List.forall_mem_cons.mpr ⟨lw_p54, List.forall_mem_cons.mpr ⟨lw_p55, List.forall_mem_cons.mpr ⟨lw_p56, List.forall_mem_cons.mpr ⟨lw_p57, List.forall_mem_cons.mpr ⟨lw_p58, List.forall_mem_cons.mpr ⟨lw_p59, List.forall_mem_cons.mpr ⟨lw_p60, List.forall_mem_cons.mpr ⟨lw_p61, List.forall_mem_cons.mpr ⟨lw_p62, fun _ h => absurd h List.not_mem_nil⟩⟩⟩⟩⟩⟩⟩⟩⟩⟩⟩⟩⟩⟩⟩
def lw_privs : List (MethodName × Nat) := lw_privs_1 ++ (lw_privs_2 ++ (lw_privs_3 ++ (lw_privs_4)))
def lw_tbl : List Cond := k2_sels lw_privs ++ tables_1
theorem lw_privs_ok : ∀ q ∈ lw_privs, lw_okq q := by
  show ∀ q ∈ lw_privs_1 ++ (lw_privs_2 ++ (lw_privs_3 ++ (lw_privs_4))), lw_okq q
  exact List.forall_mem_append.mpr ⟨lw_r1, List.forall_mem_append.mpr ⟨lw_r2, List.forall_mem_append.mpr ⟨lw_r3, lw_r4⟩⟩⟩
end
section
/-! ===== BEGIN words of one list among another's, by their places ===== -/
theorem goodIn_r {big : List Cond} (ws : List Cond) (ps : List Nat) (hp : ws = ps.filterMap (fun i => big[i]?)) (h : ws.all goodWord = true) : GoodIn big ws := by
  intro w hw
  have h1 := List.all_eq_true.mp h w hw
  rw [hp] at hw
  obtain ⟨i, -, hi⟩ := List.mem_filterMap.mp hw
  have hm : w ∈ big := by first | exact List.mem_of_getElem? hi | exact List.getElem?_mem hi
  exact ⟨hm, good_of_word h1⟩
theorem goodIn_app {big a b : List Cond} (ha : GoodIn big a) (hb : GoodIn big b) : GoodIn big (a ++ b) := fun w h => (List.mem_append.mp h).elim (ha w) (hb w)
theorem goodIn_ca {big a b : List Cond} {c : Cond} (ha : GoodIn big (c :: a)) (hb : GoodIn big b) : GoodIn big (c :: (a ++ b)) := fun w h => (List.mem_cons.mp h).elim (fun e => ha w (List.mem_cons.mpr (Or.inl e))) (fun h => (List.mem_append.mp h).elim (fun h => ha w (List.mem_cons.mpr (Or.inr h))) (hb w))
theorem goodIn_sub {big ws : List Cond} (hm : ∀ w ∈ ws, w ∈ big) (h : ws.all goodWord = true) : GoodIn big ws := fun w hw => ⟨hm w hw, good_of_word (List.all_eq_true.mp h w hw)⟩
/-! ===== END ===== -/

/-! ===== BEGIN exceptions that leave a method, and their catching by the caller (launches without stack traces) ===== -/
section VXA
/-! The laws vx_back, vx_callV, vx_callS, vx_callSW, vx_throw0, vx_throwS follow proofs of the library, with one case more: JvmDerived/Free/Laws.lean (Back.of_free), Shelf42/LK1.lean (callV, callS), Shelf/KitTraced.lean (throwNew0V, throwNewS). -/
/-- where a method has thrown q: the class by its name, the cell, what was written, the world -/
def vx_T (XC : String → State → State → Prop) (st : State) (q : Addr) (t : State) (mc ms : Nat) (free : Addr → Prop) : Prop :=
  ∃ (E : String) (ce : Cell) (L : List Loc), XC E st t ∧ t.heap[q]? = some ce ∧ ce.vm = .none ∧ st.vm.findClass E = some ce.cls ∧ st.WarmedH t.vm ∧ st.sameButNew ({ t with vm := st.vm } : State) L mc ms ∧ ∀ z ∈ L, free z.base
def vx_Q (Qc : Array Value → State → Outcome → State → Prop) (XC : String → State → State → Prop) (mc ms : Nat) (free : Addr → Prop) : Array Value → State → Outcome → State → Prop := fun a st o t =>
  (Qc a st o t ∧ ∃ L, FrameEnd st o t L mc ms ∧ ∀ q ∈ L, free q.base) ∨ ∃ q, o = .threw q ∧ vx_T XC st q t mc ms free
/-- a callee that returns or throws -/
def vx_Met (l : Launch) (y : MethodName) (ws : List Cond) (rm : Room) (Pc : Array Value → State → Prop) (Qc : Array Value → State → Outcome → State → Prop) (XC : String → State → State → Prop) (mc ms : Nat) (free : Addr → Prop) : Prop :=
  MetFree l y (headSpec ws rm) Pc (fun _ _ _ _ _ => True) (vx_Q Qc XC mc ms free)
def vx_Post (XC : String → State → State → Prop) (mc ms : Nat) (free : Addr → Prop) : Pt → Array Value → Addr → Pt → Prop := fun A a q B =>
  ∃ (g : JFrame) (mk : MethodId) (t : State) (L : List Loc) (E : String) (ce : Cell), B.U.heap = t.heap ∧ B.U.vm = t.vm ∧ XC E (A.U.calling g mk a) t ∧ t.heap[q]? = some ce ∧ ce.vm = .none ∧ A.U.vm.findClass E = some ce.cls ∧ B.locs = A.locs ++ L ∧ (∀ z ∈ L, free z.base) ∧ B.cells = A.cells + mc ∧ B.slots = A.slots + ms
def vx_Back (l : Launch) (R : Room) (p : Program) (e : Env) (below : List Frame) (s : State) (sargs : Array Value) (y : MethodName) (len W9 : Nat)
    (Pre : Pt → Array Value → Prop) (Post : Pt → Array Value → Option Value → Pt → Prop) (PostX : Pt → Array Value → Addr → Pt → Prop) : Prop :=
  ∀ (m : MethodId) (meth : Method) (c : Code) (A : Pt) (g : JFrame) (ig : Instr) (mk : MethodId) (a : Array Value),
    Stand p l e R s m sargs below meth c A.U A.locs A.cells A.slots → g.method = m → g.locals.size = c.maxLocals → decode c.code g.pc = .ok (ig, len) →
    2 * g.monitorRoom + (g.stack.map fun v => v.category).sum ≤ W9 → A.U.methodNamed? y = some mk → Pre A a →
    (∃ (v : Option Value) (B : Pt), Stand p l e R s m sargs below meth c B.U B.locs B.cells B.slots ∧ Post A a v B ∧
      Steps p.tables e below (doInvoke e (A.U.setTop g) [] mk a).1 (B.U.setTop { g with pc := g.pc + len, stack := v.toList ++ g.stack })) ∨
    (∃ (q : Addr) (B : Pt), Stand p l e R s m sargs below meth c B.U B.locs B.cells B.slots ∧ PostX A a q B ∧
      Steps p.tables e below (doInvoke e (A.U.setTop g) [] mk a).1 ((B.U.setTop g).pushFrame (.throwing q)))
section Payer
variable {l : Launch} {R : Room} {p : Program} {e : Env} {below : List Frame} {s : State} {sargs : Array Value} {y : MethodName} {len W9 : Nat}
theorem vx_back {ws : List Cond} {rm : Room} {Pc : Array Value → State → Prop} {Qc : Array Value → State → Outcome → State → Prop} {XC : String → State → State → Prop} {mc ms : Nat} {free : Addr → Prop} {bytes : ByteArray} {maxL : Nat} {ret : Option FieldType}
    (hM : vx_Met l y ws rm Pc Qc XC mc ms free) (hblind : FrameBlind Pc) (hrc : rm.cells = mc) (hrs : rm.slots = ms)
    (hframes : rm.frames + 1 ≤ R.frames) (hlocals : W9 + (maxL + 11) + rm.locals ≤ R.locals)
    (hws : ∀ w ∈ ws, ∀ a' U, s.WarmedH U.vm → w.before a' U = true) (hcode : Cond.code y bytes maxL ret ∈ ws) (hinit : ∀ a' U, s.WarmedH U.vm → (Cond.initialized y.cls).before a' U = true) :
    vx_Back l R p e below s sargs y len W9 (PreOf R mc ms Pc) (PostOf Qc mc ms free) (vx_Post XC mc ms free) := by
  intro m meth c A g ig mk a X hg hsize hdg hW hn hp
  have h1 : (headSpec ws rm).pre.before a A.U = true := atoms_intro fun w hw => hws w hw _ _ X.warmed
  have h2 : (Cond.code y bytes maxL ret).before a A.U = true := hws _ hcode _ _ X.warmed
  have h3 : (Cond.initialized y.cls).before a A.U = true := hinit _ _ X.warmed
  have h4 : A.cells + (headSpec ws rm).room.cells ≤ R.cells := by rw [show (headSpec ws rm).room.cells = mc from hrc]; exact hp.1
  have h5 : A.slots + (headSpec ws rm).room.slots ≤ R.slots := by rw [show (headSpec ws rm).room.slots = ms from hrs]; exact hp.2.1
  have hPc : Pc a (A.U.calling g mk a) := hblind _ _ _ _ hp.2.2
  obtain ⟨U, Ls, c0, s0⟩ := A
  dsimp only [Pt.U, Pt.locs, Pt.cells, Pt.slots] at h1 h2 h3 h4 h5 X hn hPc ⊢
  obtain ⟨methY, cY, hmY, hcY, -, hlY, -, -, -, -⟩ := Cond.code_spec hn h2
  obtain ⟨kY, hkY, -⟩ := className_of_methodNamed hn
  have hinitY : kY.init = .initialized := Cond.initialized_spec (findClass_of_methodNamed hn) hkY h3
  have h : At U g.method c below := by rw [hg]; exact X.here
  have hlocals9 : W9 + (maxL + 11) + (headSpec ws rm).room.locals ≤ R.locals := hlocals
  have happ : (headSpec ws rm).appliesLoose y e.platform (U.calling g mk a) = true :=
    Spec.appliesLoose_calling (g := g) h hdg hn hkY hinitY
      (X.room_calling (g := g) (R' := (headSpec ws rm).room) hsize hmY hcY hframes (by rw [hlY]; omega) h4 h5) h1
  obtain ⟨mid, hmid⟩ := h.above
  have hfr : (U.setTop g).frames = (.java g :: mid) ++ below := by rw [State.frames_setTop' g h.top, hmid]; rfl
  obtain ⟨o, s₂, hsteps, -, hend, hq⟩ := Steps.callFree hM p X.admits X.cas X.clock (acts := []) hfr happ hPc trivial
  have hq' : vx_Q Qc XC mc ms free a (U.calling g mk a) o s₂ := hq
  rw [State.frames_setTop' g h.top] at hend
  obtain ⟨g₀, hg0⟩ := Option.isSome_iff_exists.mp h.top
  obtain ⟨r, hr⟩ := State.topJava?_eq_some.mp hg0
  have hr' : (({ U with heap := s₂.heap, slotsUsed := s₂.slotsUsed } : State).setVm s₂.vm).frames = .java g₀ :: r := hr
  rcases hq' with ⟨hqc, L, hfe, hL⟩ | ⟨q, rfl, E, ce, L, hx, hce, hcv, hcl, hW₂, hsm, hL⟩
  · obtain ⟨⟨v, rfl⟩, hW₂, e2, q2, q3, q4, q5, q6⟩ := id hfe
    have e3 : s₂ = ({ (U.calling g mk a).setFrames s₂.frames with heap := s₂.heap, slotsUsed := s₂.slotsUsed } : State).setVm s₂.vm := by
      have : s₂ = ({ s₂ with vm := (U.calling g mk a).vm } : State).setVm s₂.vm := rfl
      rw [e2] at this
      exact this
    obtain ⟨c₂, i₂, len₂, hc₂, hd₂, hf₂⟩ := hend
    have hW' : U.WarmedH s₂.vm := hW₂
    have hcc : c₂ = c := by
      have h1 : s₂.code? g.method = U.code? g.method := by
        rw [State.code?_eq, State.code?_eq, hW'.alike.method?]
      exact Option.some.inj (hc₂.symm.trans (h1.trans h.code))
    subst hcc
    have hlen : len₂ = len := by rw [hdg] at hd₂; cases hd₂; rfl
    subst hlen
    have hs₂ : s₂ = (({ U with heap := s₂.heap, slotsUsed := s₂.slotsUsed } : State).setVm s₂.vm).setTop { g with pc := g.pc + len₂, stack := v.toList ++ g.stack } := by
      refine e3.trans ?_
      rw [hf₂, State.calling_eq h.top, State.setFrames_setFrames, State.setTop_of_frames _ hr', hr]
      rfl
    have hsame : U.sameButNew ({ U with heap := s₂.heap, slotsUsed := s₂.slotsUsed } : State) L mc ms := by
      refine ⟨?_, q2, q3, q4, q5, q6⟩
      obtain ⟨t, ht, -⟩ := State.frames_cons hr
      show ({ U with heap := s₂.heap, slotsUsed := s₂.slotsUsed } : State) = { U.setFrames U.frames with heap := s₂.heap, slotsUsed := s₂.slotsUsed }
      rw [State.setFrames_self ht]
    subst hg
    refine Or.inl ⟨v, ⟨(({ U with heap := s₂.heap, slotsUsed := s₂.slotsUsed } : State).setVm s₂.vm), Ls ++ L, c0 + mc, s0 + ms⟩,
      ⟨X.admits, X.cas, X.clock, X.frames, X.room, X.hears, X.method, X.code, (X.here.setHeapUsed s₂.heap s₂.slotsUsed).setVm hW'.alike, X.tail, State.WarmedH.trans X.warmed hW', X.limits, X.bytes, X.same.trans (hsame.setVm s.vm)⟩,
      ⟨g, mk, s₂, L, rfl, rfl, hqc, rfl, hL, rfl, rfl⟩, ?_⟩
    show Steps p.tables e below _ ((({ U with heap := s₂.heap, slotsUsed := s₂.slotsUsed } : State).setVm s₂.vm).setTop { g with pc := g.pc + len₂, stack := v.toList ++ g.stack })
    rw [← hs₂]
    exact hsteps
  · obtain ⟨e2, q2, q3, q4, q5, q6⟩ := id hsm
    have e3 : s₂ = ({ (U.calling g mk a).setFrames s₂.frames with heap := s₂.heap, slotsUsed := s₂.slotsUsed } : State).setVm s₂.vm := by
      have : s₂ = ({ s₂ with vm := (U.calling g mk a).vm } : State).setVm s₂.vm := rfl
      rw [e2] at this
      exact this
    have hf₂ : s₂.frames = .throwing q :: .java g :: U.frames.tail := hend
    have hW' : U.WarmedH s₂.vm := hW₂
    have hs₂ : s₂ = ((({ U with heap := s₂.heap, slotsUsed := s₂.slotsUsed } : State).setVm s₂.vm).setTop g).pushFrame (.throwing q) := by
      refine e3.trans ?_
      rw [hf₂, State.calling_eq h.top, State.setFrames_setFrames, State.pushFrame, State.frames_setTop _ hr', State.setTop_of_frames _ hr', State.setFrames_setFrames, hr]
      rfl
    have hsame : U.sameButNew ({ U with heap := s₂.heap, slotsUsed := s₂.slotsUsed } : State) L mc ms := by
      refine ⟨?_, q2, q3, q4, q5, q6⟩
      obtain ⟨t, ht, -⟩ := State.frames_cons hr
      show ({ U with heap := s₂.heap, slotsUsed := s₂.slotsUsed } : State) = { U.setFrames U.frames with heap := s₂.heap, slotsUsed := s₂.slotsUsed }
      rw [State.setFrames_self ht]
    subst hg
    refine Or.inr ⟨q, ⟨(({ U with heap := s₂.heap, slotsUsed := s₂.slotsUsed } : State).setVm s₂.vm), Ls ++ L, c0 + mc, s0 + ms⟩,
      ⟨X.admits, X.cas, X.clock, X.frames, X.room, X.hears, X.method, X.code, (X.here.setHeapUsed s₂.heap s₂.slotsUsed).setVm hW'.alike, X.tail, State.WarmedH.trans X.warmed hW', X.limits, X.bytes, X.same.trans (hsame.setVm s.vm)⟩,
      ⟨g, mk, s₂, L, E, ce, rfl, rfl, hx, hce, hcv, hcl, rfl, hL, rfl, rfl⟩, ?_⟩
    show Steps p.tables e below _ (((({ U with heap := s₂.heap, slotsUsed := s₂.slotsUsed } : State).setVm s₂.vm).setTop g).pushFrame (.throwing q))
    rw [← hs₂]
    exact hsteps
end Payer
section Calls
variable {p : Program} {l : Launch} {e : Env} {R : Room} {s : State} {m : MethodId} {args : Array Value} {below : List Frame} {meth : Method} {c : Code} {T : State} {locs : List Loc} {cells slots : Nat}
theorem vx_callV (X : Stand p l e R s m args below meth c T locs cells slots) (hexec : p.tables.exec = Jvm.exec) {own C : String} {index : Nat} {y : MethodName} {bytes : ByteArray} {maxL : Nat} {ret : Option FieldType}
    (hown : s.vm.findClass own = some m.cls) (hlink : (Cond.methodLink own index y).before args s = true) (hinst : (Cond.instanceMethod y).before args s = true) (hsel : (Cond.selects C y y).before args s = true)
    (hcode : (Cond.code y bytes maxL ret).before args s = true) (hy : y.cls ≠ "java/lang/invoke/MethodHandle" ∧ y.cls ≠ "java/lang/invoke/VarHandle")
    {W9 : Nat} {Pre : Pt → Array Value → Prop} {Post : Pt → Array Value → Option Value → Pt → Prop} {PostX : Pt → Array Value → Addr → Pt → Prop} (hK : vx_Back l R p e below s args y 3 W9 Pre Post PostX)
    {b : Addr} {cellB : Cell} (hcell : T.heap[b]? = some cellB) (hobj : cellB.vm.isStatics = false) (hcls : s.vm.findClass C = some cellB.cls)
    {g : JFrame} (hg : g.method = m) (hsize : g.locals.size = c.maxLocals) {argsL rest : List Value} (hlen : ∀ sig, parseMethodDescriptor y.desc = some sig → argsL.length = sig.parameters.length)
    (hstack : g.stack = argsL.reverse ++ .ref b :: rest) (hW : 2 * g.monitorRoom + (rest.map fun v => v.category).sum ≤ W9) (hdg : decode c.code g.pc = .ok (.invokevirtual index, 3))
    (hpre : ∀ vm₁, s.WarmedH vm₁ → Pre ⟨T.setVm vm₁, locs, cells, slots⟩ (Value.ref b :: argsL).toArray) :
    (∃ (v : Option Value) (vm₁ : Vm) (B : Pt), s.WarmedH vm₁ ∧ Stand p l e R s m args below meth c B.U B.locs B.cells B.slots ∧ Post ⟨T.setVm vm₁, locs, cells, slots⟩ (Value.ref b :: argsL).toArray v B ∧
      ∀ target, Steps p.tables e below (B.U.setTop { g with pc := g.pc + 3, stack := v.toList ++ rest }) target → Steps p.tables e below (T.setTop g) target) ∨
    (∃ (q : Addr) (vm₁ : Vm) (B : Pt), s.WarmedH vm₁ ∧ Stand p l e R s m args below meth c B.U B.locs B.cells B.slots ∧ PostX ⟨T.setVm vm₁, locs, cells, slots⟩ (Value.ref b :: argsL).toArray q B ∧
      Steps p.tables e below (T.setTop g) ((B.U.setTop { g with stack := rest }).pushFrame (.throwing q))) := by
  obtain ⟨mk, methM, hnamed, hmethM, hstM, habM⟩ := Cond.instanceMethod_spec hinst
  obtain ⟨methM', cM, hmethM', -, -, -, -, -, -, hsigM⟩ := Cond.code_spec hnamed hcode
  cases hmethM.symm.trans hmethM'
  obtain ⟨c2, r2, m2, q1, q2, q3, q4, kP, hkP, hkPi⟩ := Cond.selects_spec hsel
  cases hcls.symm.trans q1
  cases (State.methodFound?_of_named hnamed hy).symm.trans q2
  cases hnamed.symm.trans q3
  have hselP : selectMethod e.platform s.vm cellB.cls mk = .method mk := by rw [Launch.admits_selectMethod X.admits]; exact q4
  obtain ⟨vm₁, X₁, hstep₁⟩ := X.invokevirtual hexec hown hlink hnamed hmethM hstM hkP hkPi hy (a := b) (cell := cellB) hcell
    (fun z h => by rw [h] at hobj; cases hobj) hselP hmethM habM hkP hkPi (g := g) hg (argsL := argsL) (rest := rest) (hlen _ hsigM) hstack hdg
  rcases hK m meth c ⟨T.setVm vm₁, locs, cells, slots⟩ { g with stack := rest } (.invokevirtual index) mk (Value.ref b :: argsL).toArray X₁ hg hsize hdg hW (X₁.named hnamed) (hpre vm₁ X₁.warmed) with ⟨v, B, X', hpost, hsteps⟩ | ⟨q, B, X', hpost, hsteps⟩
  · exact Or.inl ⟨v, vm₁, B, X₁.warmed, X', hpost, fun target h => hstep₁ _ fun acts => by rw [doInvoke_state]; exact hsteps.trans h⟩
  · exact Or.inr ⟨q, vm₁, B, X₁.warmed, X', hpost, hstep₁ _ fun acts => by rw [doInvoke_state]; exact hsteps⟩
theorem vx_callS (X : Stand p l e R s m args below meth c T locs cells slots) (hexec : p.tables.exec = Jvm.exec) {own : String} {index : Nat} {y : MethodName} {bytes : ByteArray} {maxL : Nat} {ret : Option FieldType}
    (hown : s.vm.findClass own = some m.cls) (hlink : (Cond.methodLink own index y).before args s = true) (hstat : (Cond.static y).before args s = true) (hinit : (Cond.initialized y.cls).before args s = true)
    (hcode : (Cond.code y bytes maxL ret).before args s = true) (hy : y.cls ≠ "java/lang/invoke/MethodHandle" ∧ y.cls ≠ "java/lang/invoke/VarHandle")
    {W9 : Nat} {Pre : Pt → Array Value → Prop} {Post : Pt → Array Value → Option Value → Pt → Prop} {PostX : Pt → Array Value → Addr → Pt → Prop} (hK : vx_Back l R p e below s args y 3 W9 Pre Post PostX)
    {g : JFrame} (hg : g.method = m) (hsize : g.locals.size = c.maxLocals) {argsL rest : List Value} (hlen : ∀ sig, parseMethodDescriptor y.desc = some sig → argsL.length = sig.parameters.length)
    (hstack : g.stack = argsL.reverse ++ rest) (hW : 2 * g.monitorRoom + (rest.map fun v => v.category).sum ≤ W9) (hdg : decode c.code g.pc = .ok (.invokestatic index, 3))
    (hpre : ∀ vm₁, s.WarmedH vm₁ → Pre ⟨T.setVm vm₁, locs, cells, slots⟩ argsL.toArray) :
    (∃ (v : Option Value) (vm₁ : Vm) (B : Pt), s.WarmedH vm₁ ∧ Stand p l e R s m args below meth c B.U B.locs B.cells B.slots ∧ Post ⟨T.setVm vm₁, locs, cells, slots⟩ argsL.toArray v B ∧
      ∀ target, Steps p.tables e below (B.U.setTop { g with pc := g.pc + 3, stack := v.toList ++ rest }) target → Steps p.tables e below (T.setTop g) target) ∨
    (∃ (q : Addr) (vm₁ : Vm) (B : Pt), s.WarmedH vm₁ ∧ Stand p l e R s m args below meth c B.U B.locs B.cells B.slots ∧ PostX ⟨T.setVm vm₁, locs, cells, slots⟩ argsL.toArray q B ∧
      Steps p.tables e below (T.setTop g) ((B.U.setTop { g with stack := rest }).pushFrame (.throwing q))) := by
  obtain ⟨mk, hnamed⟩ := Cond.code_named hcode
  obtain ⟨methM, cM, hmethM, -, -, -, -, -, -, hsigM⟩ := Cond.code_spec hnamed hcode
  have hstatic : methM.isStatic = true := Cond.static_spec hnamed hmethM hstat
  obtain ⟨kP, hkP, -⟩ := className_of_methodNamed hnamed
  have hinitP : kP.init = .initialized := Cond.initialized_spec (findClass_of_methodNamed hnamed) hkP hinit
  obtain ⟨vm₁, X₁, hstep₁⟩ := X.invokestatic hexec hown hlink hnamed hmethM hstatic hkP hinitP hy (g := g) hg (argsL := argsL) (rest := rest) (hlen _ hsigM) hstack hdg
  rcases hK m meth c ⟨T.setVm vm₁, locs, cells, slots⟩ { g with stack := rest } (.invokestatic index) mk argsL.toArray X₁ hg hsize hdg hW (X₁.named hnamed) (hpre vm₁ X₁.warmed) with ⟨v, B, X', hpost, hsteps⟩ | ⟨q, B, X', hpost, hsteps⟩
  · exact Or.inl ⟨v, vm₁, B, X₁.warmed, X', hpost, fun target h => hstep₁ _ fun acts => by rw [doInvoke_state]; exact hsteps.trans h⟩
  · exact Or.inr ⟨q, vm₁, B, X₁.warmed, X', hpost, hstep₁ _ fun acts => by rw [doInvoke_state]; exact hsteps⟩
end Calls
theorem vx_cls {s : State} {T : State} {vm₁ : Vm} {E : String} {k : ClassId} (hW : s.WarmedH vm₁) (h : (T.setVm vm₁).vm.findClass E = some k) : s.vm.findClass E = some k := by
  have h1 : vm₁.findClass E = some k := h
  rw [hW.alike.findClass] at h1
  exact h1
/-- the method's frame g, with q thrown over it -/
def vx_W (p : Program) (l : Launch) (e : Env) (R : Room) (s : State) (m : MethodId) (args : Array Value) (below : List Frame) (meth : Method) (c : Code) (H : Heap) (locs : List Loc) (cells slots : Nat) (Q : State → Prop) (g : JFrame) (q : Addr) : Prop :=
  ∀ T : State, T.heap = H → Stand p l e R s m args below meth c T locs cells slots → ∃ t, Steps p.tables e below ((T.setTop g).pushFrame (.throwing q)) t ∧ Q t
def vx_Run (p : Program) (l : Launch) (e : Env) (R : Room) (s : State) (m : MethodId) (args : Array Value) (below : List Frame) (meth : Method) (c : Code) (H : Heap) (locs : List Loc) (cells slots mc ms : Nat) (g : JFrame) (rest : List Value) (Qa : State → Outcome → State → Prop) (XC : String → State → State → Prop) (free : Addr → Prop) : Prop :=
  ∀ T : State, T.heap = H → Stand p l e R s m args below meth c T locs cells slots →
    (∃ (v : Option Value) (st₀ t T' : State) (L : List Loc), st₀.heap = H ∧ Stand p l e R s m args below meth c T' (locs ++ L) (cells + mc) (slots + ms) ∧ (∀ q ∈ L, free q.base) ∧ T'.heap = t.heap ∧ T'.vm = t.vm ∧ Qa st₀ (.returned v) t ∧
      Goes p e below T g T' { g with pc := g.pc + 3, stack := v.toList ++ rest }) ∨
    (∃ (q : Addr) (st₀ t T' : State) (L : List Loc) (E : String) (ce : Cell), st₀.heap = H ∧ Stand p l e R s m args below meth c T' (locs ++ L) (cells + mc) (slots + ms) ∧ (∀ z ∈ L, free z.base) ∧ T'.heap = t.heap ∧ T'.vm = t.vm ∧ XC E st₀ t ∧ t.heap[q]? = some ce ∧ ce.vm = .none ∧ s.vm.findClass E = some ce.cls ∧
      Steps p.tables e below (T.setTop g) ((T'.setTop { g with stack := rest }).pushFrame (.throwing q)))
def vx_X {S : Type} (px : S → Prop) (B : String → S → State → Prop) (A : Nat → Prop) : String → State → State → Prop := fun E st t => ∃ u : S, px u ∧ B E u t ∧ va_F A st t
section Runs
variable {p : Program} {l : Launch} {e : Env} {R : Room} {s : State} {m : MethodId} {args : Array Value} {below : List Frame} {meth : Method} {c : Code} {H : Heap} {locs : List Loc} {cells slots : Nat}
variable {y : MethodName} {bytes cc : ByteArray} {maxL nL mc ms n index : Nat} {ret : Option FieldType} {ws : List Cond} {rm : Room} {Pc : Array Value → State → Prop} {Qc : Array Value → State → Outcome → State → Prop} {XC : String → State → State → Prop} {free : Addr → Prop} {Ts : List Cond} {own C : String} {b : Addr} {As rest : List Value} {g : JFrame}
theorem vx_callBack (cb : CallB R s args own index y bytes maxL ret ws rm mc ms n) (hM : vx_Met l y ws rm Pc Qc XC mc ms free) (hbl : FrameBlind Pc) : vx_Back l R p e below s args y 3 8 (PreOf R mc ms Pc) (PostOf Qc mc ms free) (vx_Post XC mc ms free) := by
  obtain ⟨hrc, hrs, hfr, hlo, hws, hcw, -, hini, -⟩ := cb
  exact vx_back (bytes := bytes) (maxL := maxL) (ret := ret) hM hbl hrc hrs hfr hlo hws hcw (fun a' U hW => word_at hW (Or.inl (by first | rfl | simp [Cond.onTables, Cond.keeps, Cond.steady])) hini)
theorem vx_runV (S : CallFix p m c cc nL s args Ts own) (hM : vx_Met l y ws rm Pc Qc XC mc ms free) (cw : CallW R s args own C index y bytes maxL ret ws rm mc ms n) (hp : PreV s H C b Pc As)
    (hg : g.method = m) (hn : As.length = n) (hsize : g.locals.size = nL) (hstack : g.stack = As.reverse ++ .ref b :: rest) (hW : 2 * g.monitorRoom + (rest.map fun v => v.category).sum ≤ 8) (hdg : decode cc g.pc = .ok (.invokevirtual index, 3)) (hf : cells + mc ≤ R.cells ∧ slots + ms ≤ R.slots) :
    vx_Run p l e R s m args below meth c H locs cells slots mc ms g rest (Qc (Value.ref b :: As).toArray) XC free := by
  have hK : vx_Back l R p e below s args y 3 8 (PreOf R mc ms Pc) (PostOf Qc mc ms free) (vx_Post XC mc ms free) := vx_callBack cw.1 hM hp.1
  obtain ⟨⟨-, -, -, -, -, -, hcode, -, hy, hlen, hl⟩, hin, hse⟩ := cw
  obtain ⟨hx, hb, hml, ho, -⟩ := S
  obtain ⟨-, ⟨cellB, hcB, hoB, hclB⟩, hPc⟩ := hp
  intro T hT X
  rcases vx_callV X hx (C := C) (bytes := bytes) (maxL := maxL) (ret := ret) ho hl hin hse hcode hy hK (by rw [hT]; exact hcB) hoB hclB hg (hsize.trans hml.symm) (argsL := As) (rest := rest) (fun sig h => hn.trans (hlen sig h)) hstack hW (by rw [hb]; exact hdg)
    (fun vm₁ hW₁ => ⟨hf.1, hf.2, hPc (T.setVm vm₁) hT hW₁⟩) with ⟨v, vm₁, ⟨U', l2, c2, s2⟩, hW₁, X', ⟨g', mk, t, L, e1, e2, hq, h1, hL, h2, h3⟩, st⟩ | ⟨q, vm₁, ⟨U', l2, c2, s2⟩, hW₁, X', ⟨g', mk, t, L, E, ce, e1, e2, hq, hce, hcv, hcl, h1, hL, h2, h3⟩, st⟩
  · dsimp only [Pt.U, Pt.locs, Pt.cells, Pt.slots] at X' e1 e2 h1 h2 h3 st
    subst h1; subst h2; subst h3
    exact Or.inl ⟨v, (T.setVm vm₁).calling g' mk (Value.ref b :: As).toArray, t, U', L, hT, X', hL, e1, e2, hq, st⟩
  · dsimp only [Pt.U, Pt.locs, Pt.cells, Pt.slots] at X' e1 e2 h1 h2 h3 st hcl
    subst h1; subst h2; subst h3
    exact Or.inr ⟨q, (T.setVm vm₁).calling g' mk (Value.ref b :: As).toArray, t, U', L, E, ce, hT, X', hL, e1, e2, hq, hce, hcv, vx_cls hW₁ hcl, st⟩
theorem vx_runS (S : CallFix p m c cc nL s args Ts own) (hM : vx_Met l y ws rm Pc Qc XC mc ms free) (cw : CallB R s args own index y bytes maxL ret ws rm mc ms n ∧ (Cond.static y).before args s = true) (hp : PreS s H Pc As)
    (hg : g.method = m) (hn : As.length = n) (hsize : g.locals.size = nL) (hstack : g.stack = As.reverse ++ rest) (hW : 2 * g.monitorRoom + (rest.map fun v => v.category).sum ≤ 8) (hdg : decode cc g.pc = .ok (.invokestatic index, 3)) (hf : cells + mc ≤ R.cells ∧ slots + ms ≤ R.slots) :
    vx_Run p l e R s m args below meth c H locs cells slots mc ms g rest (Qc As.toArray) XC free := by
  have hK : vx_Back l R p e below s args y 3 8 (PreOf R mc ms Pc) (PostOf Qc mc ms free) (vx_Post XC mc ms free) := vx_callBack cw.1 hM hp.1
  obtain ⟨⟨-, -, -, -, -, -, hcode, hini, hy, hlen, hl⟩, hstt⟩ := cw
  obtain ⟨hx, hb, hml, ho, -⟩ := S
  intro T hT X
  rcases vx_callS X hx (bytes := bytes) (maxL := maxL) (ret := ret) ho hl hstt hini hcode hy hK hg (hsize.trans hml.symm) (argsL := As) (rest := rest) (fun sig h => hn.trans (hlen sig h)) hstack hW (by rw [hb]; exact hdg)
    (fun vm₁ hW₁ => ⟨hf.1, hf.2, hp.2 (T.setVm vm₁) hT hW₁⟩) with ⟨v, vm₁, ⟨U', l2, c2, s2⟩, hW₁, X', ⟨g', mk, t, L, e1, e2, hq, h1, hL, h2, h3⟩, st⟩ | ⟨q, vm₁, ⟨U', l2, c2, s2⟩, hW₁, X', ⟨g', mk, t, L, E, ce, e1, e2, hq, hce, hcv, hcl, h1, hL, h2, h3⟩, st⟩
  · dsimp only [Pt.U, Pt.locs, Pt.cells, Pt.slots] at X' e1 e2 h1 h2 h3 st
    subst h1; subst h2; subst h3
    exact Or.inl ⟨v, (T.setVm vm₁).calling g' mk As.toArray, t, U', L, hT, X', hL, e1, e2, hq, st⟩
  · dsimp only [Pt.U, Pt.locs, Pt.cells, Pt.slots] at X' e1 e2 h1 h2 h3 st hcl
    subst h1; subst h2; subst h3
    exact Or.inr ⟨q, (T.setVm vm₁).calling g' mk As.toArray, t, U', L, E, ce, hT, X', hL, e1, e2, hq, hce, hcv, vx_cls hW₁ hcl, st⟩
end Runs
section Rows
variable {p : Program} {l : Launch} {e : Env} {R : Room} {s : State} {m : MethodId} {args : Array Value} {below : List Frame} {meth : Method} {c : Code} {H : Heap} {locs : List Loc} {cells slots : Nat} {Q : State → Prop}
variable {mc ms : Nat} {free : Addr → Prop} {A0 A1 : Nat → Prop} {H0 : Heap} {a : Array Value} {pc : Nat} {ls : Array Slot} {st0 rest : List Value}
theorem vx_keep {st₀ t T' : State} {L : List Loc} (h0 : st₀.heap = H) (e1 : T'.heap = t.heap) (hS : va_S A0 H0 H locs) (hA : ∀ q, q < H.size → A1 q → A0 q) (hf : ∀ q, free q → A0 q) (hL : ∀ q ∈ L, free q.base) (hF : va_F A1 st₀ t) :
    H.size ≤ T'.heap.size ∧ (∀ q : Nat, q < H.size → ¬ A1 q → T'.heap[q]? = H[q]?) ∧ va_S A0 H0 T'.heap (locs ++ L) := by
  obtain ⟨hz, hk⟩ := hF
  rw [h0] at hz hk
  exact ⟨by rw [e1]; exact hz, fun q h1 h2 => by rw [e1]; exact hk q h1 h2,
    ⟨Nat.le_trans hS.1 (by rw [e1]; exact hz), fun q h1 h2 => by rw [e1, hk q (Nat.lt_of_lt_of_le h1 hS.1) (fun z => h2 (hA q (Nat.lt_of_lt_of_le h1 hS.1) z))]; exact hS.2.1 q h1 h2, fun q hq => by
      rcases List.mem_append.mp hq with h | h
      · exact hS.2.2 q h
      · exact hf _ (hL q h)⟩⟩
theorem vx_calli {S SX : Type} {post : Int32 → S → Prop} {px : SX → Prop} {B : S → State → Prop} {BX : String → SX → State → Prop} {AX : Nat → Prop} (hr : vx_Run p l e R s m args below meth c H locs cells slots mc ms (F0 m pc ls st0) rest (va_Qi post B A1 a) (vx_X px BX AX) free) (hS : va_S A0 H0 H locs) (hA : ∀ q, q < H.size → A1 q → A0 q) (hf : ∀ q, free q → A0 q) (hAX : ∀ q, q < H.size → AX q → A0 q)
    (kx : ∀ (E : String) (ce : Cell) (q9 : Addr) (u : SX) (t : State) (H1 : Heap) (locs1 : List Loc), t.heap = H1 → s.vm.Alike t.vm → px u → BX E u t → H.size ≤ H1.size → (∀ q : Nat, q < H.size → ¬ AX q → H1[q]? = H[q]?) → va_S A0 H0 H1 locs1 → H1[q9]? = some ce → ce.vm = .none → s.vm.findClass E = some ce.cls → vx_W p l e R s m args below meth c H1 locs1 (cells + mc) (slots + ms) Q (F0 m pc ls rest) q9)
    (kk : ∀ (r : Int32) (u : S) (t : State) (H1 : Heap) (locs1 : List Loc), t.heap = H1 → s.vm.Alike t.vm → post r u → B u t → H.size ≤ H1.size → (∀ q : Nat, q < H.size → ¬ A1 q → H1[q]? = H[q]?) → va_S A0 H0 H1 locs1 → W p l e R s m args below meth c H1 locs1 (cells + mc) (slots + ms) Q (F0 m (pc + 3) ls (.int r :: rest))) : W p l e R s m args below meth c H locs cells slots Q (F0 m pc ls st0) := by
  intro T hT X
  rcases hr T hT X with ⟨v, st₀, t, T', L, h0, X', hL, e1, e2, ⟨⟨r, u, hv, hp, hb⟩, hF⟩, st⟩ | ⟨q, st₀, t, T', L, E, ce, h0, X', hL, e1, e2, ⟨u, hp, hb, hF⟩, hce, hcv, hcl, st⟩
  · cases hv
    obtain ⟨k1, k2, k3⟩ := vx_keep h0 e1 hS hA hf hL hF
    obtain ⟨t2, a1, b1⟩ := kk r u t T'.heap (locs ++ L) e1.symm (by rw [← e2]; exact X'.warmed.alike) hp hb k1 k2 k3 T' rfl X'
    exact ⟨t2, st t2 a1, b1⟩
  · obtain ⟨k1, k2, k3⟩ := vx_keep h0 e1 hS hAX hf hL hF
    obtain ⟨t2, a1, b1⟩ := kx E ce q u t T'.heap (locs ++ L) e1.symm (by rw [← e2]; exact X'.warmed.alike) hp hb k1 k2 k3 (by rw [e1]; exact hce) hcv hcl T' rfl X'
    exact ⟨t2, st.trans a1, b1⟩
theorem vx_calll {S SX : Type} {post : Int64 → S → Prop} {px : SX → Prop} {B : S → State → Prop} {BX : String → SX → State → Prop} {AX : Nat → Prop} (hr : vx_Run p l e R s m args below meth c H locs cells slots mc ms (F0 m pc ls st0) rest (va_Ql post B A1 a) (vx_X px BX AX) free) (hS : va_S A0 H0 H locs) (hA : ∀ q, q < H.size → A1 q → A0 q) (hf : ∀ q, free q → A0 q) (hAX : ∀ q, q < H.size → AX q → A0 q)
    (kx : ∀ (E : String) (ce : Cell) (q9 : Addr) (u : SX) (t : State) (H1 : Heap) (locs1 : List Loc), t.heap = H1 → s.vm.Alike t.vm → px u → BX E u t → H.size ≤ H1.size → (∀ q : Nat, q < H.size → ¬ AX q → H1[q]? = H[q]?) → va_S A0 H0 H1 locs1 → H1[q9]? = some ce → ce.vm = .none → s.vm.findClass E = some ce.cls → vx_W p l e R s m args below meth c H1 locs1 (cells + mc) (slots + ms) Q (F0 m pc ls rest) q9)
    (kk : ∀ (r : Int64) (u : S) (t : State) (H1 : Heap) (locs1 : List Loc), t.heap = H1 → s.vm.Alike t.vm → post r u → B u t → H.size ≤ H1.size → (∀ q : Nat, q < H.size → ¬ A1 q → H1[q]? = H[q]?) → va_S A0 H0 H1 locs1 → W p l e R s m args below meth c H1 locs1 (cells + mc) (slots + ms) Q (F0 m (pc + 3) ls (.long r :: rest))) : W p l e R s m args below meth c H locs cells slots Q (F0 m pc ls st0) := by
  intro T hT X
  rcases hr T hT X with ⟨v, st₀, t, T', L, h0, X', hL, e1, e2, ⟨⟨r, u, hv, hp, hb⟩, hF⟩, st⟩ | ⟨q, st₀, t, T', L, E, ce, h0, X', hL, e1, e2, ⟨u, hp, hb, hF⟩, hce, hcv, hcl, st⟩
  · cases hv
    obtain ⟨k1, k2, k3⟩ := vx_keep h0 e1 hS hA hf hL hF
    obtain ⟨t2, a1, b1⟩ := kk r u t T'.heap (locs ++ L) e1.symm (by rw [← e2]; exact X'.warmed.alike) hp hb k1 k2 k3 T' rfl X'
    exact ⟨t2, st t2 a1, b1⟩
  · obtain ⟨k1, k2, k3⟩ := vx_keep h0 e1 hS hAX hf hL hF
    obtain ⟨t2, a1, b1⟩ := kx E ce q u t T'.heap (locs ++ L) e1.symm (by rw [← e2]; exact X'.warmed.alike) hp hb k1 k2 k3 (by rw [e1]; exact hce) hcv hcl T' rfl X'
    exact ⟨t2, st.trans a1, b1⟩
theorem vx_callf {S SX : Type} {post : UInt32 → S → Prop} {px : SX → Prop} {B : S → State → Prop} {BX : String → SX → State → Prop} {AX : Nat → Prop} (hr : vx_Run p l e R s m args below meth c H locs cells slots mc ms (F0 m pc ls st0) rest (va_Qf post B A1 a) (vx_X px BX AX) free) (hS : va_S A0 H0 H locs) (hA : ∀ q, q < H.size → A1 q → A0 q) (hf : ∀ q, free q → A0 q) (hAX : ∀ q, q < H.size → AX q → A0 q)
    (kx : ∀ (E : String) (ce : Cell) (q9 : Addr) (u : SX) (t : State) (H1 : Heap) (locs1 : List Loc), t.heap = H1 → s.vm.Alike t.vm → px u → BX E u t → H.size ≤ H1.size → (∀ q : Nat, q < H.size → ¬ AX q → H1[q]? = H[q]?) → va_S A0 H0 H1 locs1 → H1[q9]? = some ce → ce.vm = .none → s.vm.findClass E = some ce.cls → vx_W p l e R s m args below meth c H1 locs1 (cells + mc) (slots + ms) Q (F0 m pc ls rest) q9)
    (kk : ∀ (r : UInt32) (u : S) (t : State) (H1 : Heap) (locs1 : List Loc), t.heap = H1 → s.vm.Alike t.vm → post r u → B u t → H.size ≤ H1.size → (∀ q : Nat, q < H.size → ¬ A1 q → H1[q]? = H[q]?) → va_S A0 H0 H1 locs1 → W p l e R s m args below meth c H1 locs1 (cells + mc) (slots + ms) Q (F0 m (pc + 3) ls (.float r :: rest))) : W p l e R s m args below meth c H locs cells slots Q (F0 m pc ls st0) := by
  intro T hT X
  rcases hr T hT X with ⟨v, st₀, t, T', L, h0, X', hL, e1, e2, ⟨⟨r, u, hv, hp, hb⟩, hF⟩, st⟩ | ⟨q, st₀, t, T', L, E, ce, h0, X', hL, e1, e2, ⟨u, hp, hb, hF⟩, hce, hcv, hcl, st⟩
  · cases hv
    obtain ⟨k1, k2, k3⟩ := vx_keep h0 e1 hS hA hf hL hF
    obtain ⟨t2, a1, b1⟩ := kk r u t T'.heap (locs ++ L) e1.symm (by rw [← e2]; exact X'.warmed.alike) hp hb k1 k2 k3 T' rfl X'
    exact ⟨t2, st t2 a1, b1⟩
  · obtain ⟨k1, k2, k3⟩ := vx_keep h0 e1 hS hAX hf hL hF
    obtain ⟨t2, a1, b1⟩ := kx E ce q u t T'.heap (locs ++ L) e1.symm (by rw [← e2]; exact X'.warmed.alike) hp hb k1 k2 k3 (by rw [e1]; exact hce) hcv hcl T' rfl X'
    exact ⟨t2, st.trans a1, b1⟩
theorem vx_calld {S SX : Type} {post : UInt64 → S → Prop} {px : SX → Prop} {B : S → State → Prop} {BX : String → SX → State → Prop} {AX : Nat → Prop} (hr : vx_Run p l e R s m args below meth c H locs cells slots mc ms (F0 m pc ls st0) rest (va_Qd post B A1 a) (vx_X px BX AX) free) (hS : va_S A0 H0 H locs) (hA : ∀ q, q < H.size → A1 q → A0 q) (hf : ∀ q, free q → A0 q) (hAX : ∀ q, q < H.size → AX q → A0 q)
    (kx : ∀ (E : String) (ce : Cell) (q9 : Addr) (u : SX) (t : State) (H1 : Heap) (locs1 : List Loc), t.heap = H1 → s.vm.Alike t.vm → px u → BX E u t → H.size ≤ H1.size → (∀ q : Nat, q < H.size → ¬ AX q → H1[q]? = H[q]?) → va_S A0 H0 H1 locs1 → H1[q9]? = some ce → ce.vm = .none → s.vm.findClass E = some ce.cls → vx_W p l e R s m args below meth c H1 locs1 (cells + mc) (slots + ms) Q (F0 m pc ls rest) q9)
    (kk : ∀ (r : UInt64) (u : S) (t : State) (H1 : Heap) (locs1 : List Loc), t.heap = H1 → s.vm.Alike t.vm → post r u → B u t → H.size ≤ H1.size → (∀ q : Nat, q < H.size → ¬ A1 q → H1[q]? = H[q]?) → va_S A0 H0 H1 locs1 → W p l e R s m args below meth c H1 locs1 (cells + mc) (slots + ms) Q (F0 m (pc + 3) ls (.double r :: rest))) : W p l e R s m args below meth c H locs cells slots Q (F0 m pc ls st0) := by
  intro T hT X
  rcases hr T hT X with ⟨v, st₀, t, T', L, h0, X', hL, e1, e2, ⟨⟨r, u, hv, hp, hb⟩, hF⟩, st⟩ | ⟨q, st₀, t, T', L, E, ce, h0, X', hL, e1, e2, ⟨u, hp, hb, hF⟩, hce, hcv, hcl, st⟩
  · cases hv
    obtain ⟨k1, k2, k3⟩ := vx_keep h0 e1 hS hA hf hL hF
    obtain ⟨t2, a1, b1⟩ := kk r u t T'.heap (locs ++ L) e1.symm (by rw [← e2]; exact X'.warmed.alike) hp hb k1 k2 k3 T' rfl X'
    exact ⟨t2, st t2 a1, b1⟩
  · obtain ⟨k1, k2, k3⟩ := vx_keep h0 e1 hS hAX hf hL hF
    obtain ⟨t2, a1, b1⟩ := kx E ce q u t T'.heap (locs ++ L) e1.symm (by rw [← e2]; exact X'.warmed.alike) hp hb k1 k2 k3 (by rw [e1]; exact hce) hcv hcl T' rfl X'
    exact ⟨t2, st.trans a1, b1⟩
theorem vx_callv {S SX : Type} {post : S → Prop} {px : SX → Prop} {B : S → State → Prop} {BX : String → SX → State → Prop} {AX : Nat → Prop} (hr : vx_Run p l e R s m args below meth c H locs cells slots mc ms (F0 m pc ls st0) rest (va_Qv post B A1 a) (vx_X px BX AX) free) (hS : va_S A0 H0 H locs) (hA : ∀ q, q < H.size → A1 q → A0 q) (hf : ∀ q, free q → A0 q) (hAX : ∀ q, q < H.size → AX q → A0 q)
    (kx : ∀ (E : String) (ce : Cell) (q9 : Addr) (u : SX) (t : State) (H1 : Heap) (locs1 : List Loc), t.heap = H1 → s.vm.Alike t.vm → px u → BX E u t → H.size ≤ H1.size → (∀ q : Nat, q < H.size → ¬ AX q → H1[q]? = H[q]?) → va_S A0 H0 H1 locs1 → H1[q9]? = some ce → ce.vm = .none → s.vm.findClass E = some ce.cls → vx_W p l e R s m args below meth c H1 locs1 (cells + mc) (slots + ms) Q (F0 m pc ls rest) q9)
    (kk : ∀ (u : S) (t : State) (H1 : Heap) (locs1 : List Loc), t.heap = H1 → s.vm.Alike t.vm → post u → B u t → H.size ≤ H1.size → (∀ q : Nat, q < H.size → ¬ A1 q → H1[q]? = H[q]?) → va_S A0 H0 H1 locs1 → W p l e R s m args below meth c H1 locs1 (cells + mc) (slots + ms) Q (F0 m (pc + 3) ls (rest))) : W p l e R s m args below meth c H locs cells slots Q (F0 m pc ls st0) := by
  intro T hT X
  rcases hr T hT X with ⟨v, st₀, t, T', L, h0, X', hL, e1, e2, ⟨⟨u, hv, hp, hb⟩, hF⟩, st⟩ | ⟨q, st₀, t, T', L, E, ce, h0, X', hL, e1, e2, ⟨u, hp, hb, hF⟩, hce, hcv, hcl, st⟩
  · cases hv
    obtain ⟨k1, k2, k3⟩ := vx_keep h0 e1 hS hA hf hL hF
    obtain ⟨t2, a1, b1⟩ := kk u t T'.heap (locs ++ L) e1.symm (by rw [← e2]; exact X'.warmed.alike) hp hb k1 k2 k3 T' rfl X'
    exact ⟨t2, st t2 a1, b1⟩
  · obtain ⟨k1, k2, k3⟩ := vx_keep h0 e1 hS hAX hf hL hF
    obtain ⟨t2, a1, b1⟩ := kx E ce q u t T'.heap (locs ++ L) e1.symm (by rw [← e2]; exact X'.warmed.alike) hp hb k1 k2 k3 (by rw [e1]; exact hce) hcv hcl T' rfl X'
    exact ⟨t2, st.trans a1, b1⟩
/-- caught by the row x of this method's table; the rows ahead don't take it -/
theorem vx_catch {own name : String} {E : String} {ce : Cell} {q : Addr} (hown : s.vm.findClass own = some m.cls) (pre : List ExceptionTableEntry) (x : ExceptionTableEntry) (suf : List ExceptionTableEntry) (hsplit : c.exceptionTable.toList = pre ++ x :: suf)
    (hpass : ∀ z ∈ pre, covers z pc = false ∨ (z.catchType ≠ 0 ∧ ∃ nm : String, (Cond.classLink own z.catchType nm).before args s = true ∧ va_Nc E nm s)) (hx : covers x pc = true) (h0 : x.catchType ≠ 0)
    (hlink : (Cond.classLink own x.catchType name).before args s = true) (hcast : (Cond.castable E name).before args s = true) (hcell : H[q]? = some ce) (hv : ce.vm = .none) (hcl : s.vm.findClass E = some ce.cls)
    (kk : W p l e R s m args below meth c H locs cells slots Q (F0 m x.handlerPc ls [.ref q])) : vx_W p l e R s m args below meth c H locs cells slots Q (F0 m pc ls rest) q := by
  intro T hT X
  have hpl : e.platform.magicAccessors = ({} : Platform).magicAccessors := by rw [X.admits.platform]
  obtain ⟨c3, c4, hc3, hc4, hasg⟩ := Cond.castable_spec hcast
  cases Option.some.inj (hc3.symm.trans hcl)
  obtain ⟨c5, hc5, hcl5⟩ := Cond.classLink_spec hown hlink e.platform hpl
  cases Option.some.inj (hc4.symm.trans hc5)
  obtain ⟨vm', X', st⟩ := X.thenCaughtThrough q (g := F0 m pc ls rest) rfl (Steps.refl _) (by rw [hT]; exact hcell) (by rw [hv]; rfl) (by obtain ⟨k9, h9, -⟩ := Vm.findClass_spec hcl; exact ⟨k9, h9⟩) pre x suf hsplit
    (fun z hz => by
      rcases hpass z hz with h | ⟨hz0, nm, hl1, hn1⟩
      · exact Or.inl h
      · obtain ⟨c6, hc6, hcl6⟩ := Cond.classLink_spec hown hl1 e.platform hpl
        obtain ⟨a8, b8, h1, h2, h3⟩ := hn1
        cases Option.some.inj (h1.symm.trans hcl)
        cases Option.some.inj (h2.symm.trans hc6)
        exact Or.inr ⟨hz0, _, hcl6, h3⟩) hx (Or.inr ⟨h0, c4, hcl5, hasg⟩)
  obtain ⟨t, a1, b1⟩ := kk (T.setVm vm') hT X'
  exact ⟨t, st.trans a1, b1⟩
end Rows
section Ends
variable {p : Program} {l : Launch} {e : Env} {R : Room} {s : State} {m : MethodId} {args : Array Value} {below : List Frame} {meth : Method} {c : Code} {H : Heap} {locs : List Loc} {cells slots : Nat} {Q : State → Prop}
variable {mc ms : Nat} {free : Addr → Prop} {A0 A1 : Nat → Prop} {H0 : Heap} {a : Array Value} {ls : Array Slot} {st0 rest : List Value}
variable {Qc : Array Value → State → Outcome → State → Prop} {XC : String → State → State → Prop}
/-- what a body that may throw owes at its end -/
def vx_MQ (below : List Frame) (Qc : Array Value → State → Outcome → State → Prop) (XC : String → State → State → Prop) (a : Array Value) (s : State) (mc ms : Nat) (free : Addr → Prop) : State → Prop := fun t =>
  ∃ o, t.status = .running ∧ Ended t below o ∧ vx_Q Qc XC mc ms free a s o t
theorem vx_ret {g : JFrame} {mc ms : Nat} (k : W p l e R s m args below meth c H locs cells slots (MQ below Qc args s mc ms free) g) : W p l e R s m args below meth c H locs cells slots (vx_MQ below Qc XC args s mc ms free) g := by
  intro T hT X
  obtain ⟨t, a1, o, b1, b2, b3, b4⟩ := k T hT X
  exact ⟨t, a1, o, b1, b2, Or.inl ⟨b3, b4⟩⟩
/-- not caught here: it goes on to the caller -/
theorem vx_widen {g : JFrame} {q : Addr} {k n : Nat} (h1 : cells ≤ k) (h2 : slots ≤ n) (kk : vx_W p l e R s m args below meth c H locs k n Q g q) : vx_W p l e R s m args below meth c H locs cells slots Q g q := fun T hT X => kk T hT (stand_widen X h1 h2)
theorem vx_out {pc : Nat} {E : String} {ce : Cell} {q : Addr} {mc ms : Nat} (hout : ∀ x ∈ c.exceptionTable.toList, covers x pc = false) (hlocks : meth.locks = false) (hcell : H[q]? = some ce) (hv : ce.vm = .none) (hcl : s.vm.findClass E = some ce.cls)
    (hx : ∀ t : State, t.heap = H → s.vm.Alike t.vm → XC E s t) (hf : ∀ z ∈ locs, free z.base) (hc : cells ≤ mc) (hs : slots ≤ ms) :
    vx_W p l e R s m args below meth c H locs cells slots (vx_MQ below Qc XC args s mc ms free) (F0 m pc ls rest) q := by
  intro T hT X
  obtain ⟨st1, hrun, hend, hW, hsm⟩ := X.leaveThrown q (g := F0 m pc ls rest) rfl rfl rfl hout hlocks
  have hcell9 : (T.setFrames (.throwing q :: below)).heap[q]? = some ce := by
    show T.heap[q]? = some ce
    rw [hT]; exact hcell
  exact ⟨_, st1, .threw q, hrun, hend, Or.inr ⟨q, rfl, E, ce, locs, hx _ hT hW.alike, hcell9, hv, hcl, hW, hsm.mono hc hs, hf⟩⟩
theorem vx_frame {U : State} {k n : Nat} (h : s.sameButNew ({ U with vm := s.vm } : State) locs k n) : s.heap.size ≤ U.heap.size ∧ ∀ q : Nat, q < s.heap.size → (∀ z ∈ locs, z.base ≠ q) → U.heap[q]? = s.heap[q]? := by
  obtain ⟨-, h2, -, -, -, h6⟩ := h
  refine ⟨h2, fun q hq hz => ?_⟩
  obtain ⟨c9, e1, e2, e3, e4⟩ := h6 q _ (Array.getElem?_eq_getElem hq)
  have hs : c9.slots = (s.heap[q]).slots := Array.ext_getElem? fun i => e4 i fun hm => hz _ hm rfl
  have h9 : c9 = s.heap[q] := by
    rw [hs] at e2
    exact e2
  have e5 : U.heap[q]? = some c9 := e1
  rw [e5, h9, Array.getElem?_eq_getElem hq]
/-- the words of a throw but the four that speak of the heap -/
def vx_no (w : Cond) : Bool := decide (w ≠ .isRef (.static Bundle.tN "UNASSIGNED_STACK" Bundle.steD)) && decide (w ≠ .isRef (.static Bundle.tN "SUPPRESSED_SENTINEL" Bundle.listD)) && decide (w ≠ .laysStatic Bundle.tN "UNASSIGNED_STACK" Bundle.steD) && decide (w ≠ .laysStatic Bundle.tN "SUPPRESSED_SENTINEL" Bundle.listD)
def vx_at0 (own : String) (ic : Nat) (X : String) (names : List String) : List Cond := (Bundle.ownAtoms0 own ic X names).filter vx_no
def vx_atS (own : String) (ic : Nat) (X : String) (names : List String) : List Cond := (Bundle.ownAtoms own ic X names).filter vx_no
/-- a word that the tables alone decide, or a good one -/
def vx_ot (w : Cond) : Bool := w.onTables || goodWord w
theorem vx_ot_at {args a' : Array Value} {s U : State} {w : Cond} (hW : s.WarmedH U.vm) (hvm : s.vm = U.vm) (hg : vx_ot w = true) (h : w.before args s = true) : w.before a' U = true := by
  simp only [vx_ot, Bool.or_eq_true] at hg
  rcases hg with hg | hg
  · exact va_tabs hg hvm h
  · exact word_at hW (good_of_word hg) h
/-- a list's words: the good ones out of the method's own list, the others by premises of their own -/
theorem vx_hat {args : Array Value} {s : State} {L B : List Cond} (h1 : ∀ w ∈ L.filter goodWord, w.before args s = true) (h2 : ∀ w ∈ L.filter (fun w => !goodWord w), w ∈ B) (h3 : ∀ w ∈ B, w.before args s = true) : ∀ w ∈ L, w.before args s = true := by
  intro w hw
  by_cases g : goodWord w = true
  · exact h1 w (List.mem_filter.mpr ⟨hw, g⟩)
  · refine h3 w (h2 w (List.mem_filter.mpr ⟨hw, ?_⟩))
    show (!goodWord w) = true
    cases hgw : goodWord w
    · rfl
    · exact absurd hgw g
theorem vx_c {args : Array Value} {s : State} {w : Cond} {B : List Cond} (h : w.before args s = true) (t : ∀ w ∈ B, w.before args s = true) : ∀ w' ∈ w :: B, w'.before args s = true := fun w' h' => (List.mem_cons.mp h').elim (fun e => by rw [e]; exact h) (t w')
theorem vx_n {args : Array Value} {s : State} : ∀ w ∈ ([] : List Cond), w.before args s = true := fun _ h => nomatch h
theorem vx_own {args : Array Value} {s : State} {L : List Cond} (h1 : ∀ w ∈ L.filter vx_no, w.before args s = true)
    (hU : (Cond.isRef (.static Bundle.tN "UNASSIGNED_STACK" Bundle.steD)).before args s = true) (hN : (Cond.isRef (.static Bundle.tN "SUPPRESSED_SENTINEL" Bundle.listD)).before args s = true)
    (lU : (Cond.laysStatic Bundle.tN "UNASSIGNED_STACK" Bundle.steD).before args s = true) (lN : (Cond.laysStatic Bundle.tN "SUPPRESSED_SENTINEL" Bundle.listD).before args s = true) : ∀ w ∈ L, w.before args s = true := by
  intro w hw
  by_cases e1 : w = .isRef (.static Bundle.tN "UNASSIGNED_STACK" Bundle.steD)
  · rw [e1]; exact hU
  · by_cases e2 : w = .isRef (.static Bundle.tN "SUPPRESSED_SENTINEL" Bundle.listD)
    · rw [e2]; exact hN
    · by_cases e3 : w = .laysStatic Bundle.tN "UNASSIGNED_STACK" Bundle.steD
      · rw [e3]; exact lU
      · by_cases e4 : w = .laysStatic Bundle.tN "SUPPRESSED_SENTINEL" Bundle.listD
        · rw [e4]; exact lN
        · exact h1 w (List.mem_filter.mpr ⟨hw, by unfold vx_no; rw [decide_eq_true e1, decide_eq_true e2, decide_eq_true e3, decide_eq_true e4]; rfl⟩)
/-- where a static field lies, its class's statics cell in H -/
def vx_L (C n d : String) (A : Nat → Prop) (U : State) (H : Heap) : Prop := ∃ (c : ClassId) (k : Class) (i : Nat) (f : Field) (a : Nat) (cell : Cell), U.vm.findClass C = some c ∧ U.fieldFound? C n d = some (c, k, i, f) ∧ f.isStatic = true ∧ k.statics = some a ∧ H[a]? = some cell ∧ cell.vm.isStatics = true ∧ cell.cls = c ∧ f.slot < cell.slots.size ∧ k.staticTypes[f.slot]? = some f.type ∧ ¬ A a
theorem vx_L.moved {C n d : String} {A : Nat → Prop} {u U : State} {H : Heap} (hvm : u.vm.Alike U.vm) (h : vx_L C n d A u H) : vx_L C n d A U H := by
  obtain ⟨c, k, i, f, a, cell, h1, h2, h3, h4, h5, h6, h7, h8, h9, h10⟩ := h
  obtain ⟨k', hi', he⟩ := State.fieldFound?_setVm hvm h2
  exact ⟨c, k', i, f, a, cell, by rw [hvm.findClass]; exact h1, hi', h3, by rw [he]; exact h4, h5, h6, h7, h8, by rw [he]; exact h9, h10⟩
theorem vx_L.kept {C n d : String} {A : Nat → Prop} {U : State} {H H1 : Heap} (h : vx_L C n d A U H) (hq : ∀ a : Nat, a < H.size → ¬ A a → H1[a]? = H[a]?) : vx_L C n d A U H1 := by
  obtain ⟨c, k, i, f, a, cell, h1, h2, h3, h4, h5, h6, h7, h8, h9, h10⟩ := h
  exact ⟨c, k, i, f, a, cell, h1, h2, h3, h4, by rw [hq a (Array.getElem?_eq_some_iff.mp h5).1 h10]; exact h5, h6, h7, h8, h9, h10⟩
theorem vx_L.narrow {C n d : String} {A B : Nat → Prop} {U : State} {H : Heap} (h : vx_L C n d A U H) (hAB : ∀ q, B q → A q) : vx_L C n d B U H := by
  obtain ⟨c, k, i, f, a, cell, h1, h2, h3, h4, h5, h6, h7, h8, h9, h10⟩ := h
  exact ⟨c, k, i, f, a, cell, h1, h2, h3, h4, h5, h6, h7, h8, h9, fun z => h10 (hAB _ z)⟩
theorem vx_L.word {C n d : String} {A : Nat → Prop} {s : State} {args : Array Value} (h : vx_L C n d A s s.heap) : (Cond.laysStatic C n d).before args s = true := by
  obtain ⟨c, k, i, f, a, cell, h1, h2, h3, h4, h5, h6, h7, h8, h9, -⟩ := h
  show (Cond.laysStatic C n d).holds args s none s [] = true
  exact Cond.laysStatic_of h1 h2 h3 h4 h5 h6 h7 h8 h9
/-- .. and what it holds: null or some reference -/
def vx_Zq (C n d : String) (A : Nat → Prop) (U : State) (H : Heap) : Prop := va_Zq C n d A U H ∧ vx_L C n d A U H
theorem vx_Zq.moved {C n d : String} {A : Nat → Prop} {u U : State} {H : Heap} (hvm : u.vm.Alike U.vm) (h : vx_Zq C n d A u H) : vx_Zq C n d A U H := ⟨va_Zq.moved hvm h.1, vx_L.moved hvm h.2⟩
theorem vx_Zq.kept {C n d : String} {A : Nat → Prop} {U : State} {H H1 : Heap} (h : vx_Zq C n d A U H) (hq : ∀ a : Nat, a < H.size → ¬ A a → H1[a]? = H[a]?) : vx_Zq C n d A U H1 := ⟨va_Zq.kept h.1 hq, vx_L.kept h.2 hq⟩
theorem vx_Zq.narrow {C n d : String} {A B : Nat → Prop} {U : State} {H : Heap} (h : vx_Zq C n d A U H) (hAB : ∀ q, B q → A q) : vx_Zq C n d B U H := ⟨va_Zq.narrow h.1 hAB, vx_L.narrow h.2 hAB⟩
theorem vx_Zqof {args : Array Value} {s : State} {C n d : String} {A : Nat → Prop} (hl : (Cond.laysStatic C n d).before args s = true) (hini : (Cond.initialized C).before args s = true) (h : (Cond.isRef (.static C n d)).before args s = true) (hA : ∀ a : Nat, a < s.heap.size → ¬ A a) : vx_Zq C n d A s s.heap := by
  refine ⟨va_Zqof hl hini h hA, ?_⟩
  obtain ⟨c, k, i, f, a, cell, h1, h2, h3, h4, h5, h6, h7, h8, h9⟩ := Cond.laysStatic_spec hl
  exact ⟨c, k, i, f, a, cell, h1, h2, h3, h4, h5, h6, h7, h8, h9, hA a (Array.getElem?_eq_some_iff.mp h5).1⟩
theorem vx_isRef {C n d : String} {v : Value} {A : Nat → Prop} {s : State} {args : Array Value} (h : va_Z C n d v A s s.heap) (hv : v.isRef = true) : (Cond.isRef (.static C n d)).before args s = true := by
  obtain ⟨cf, kf, fi, f, a, cell, h1, h2, h3, h4, h5, h6, h7, -⟩ := h
  have he : (Term.static C n d).eval args s none [] s = some v := by
    simp [Term.eval, State.fieldNamed?, h1, h2, h4, h5, h6, h7]
  simp only [Cond.before, Cond.holds, Cond.value, he]
  cases v <;> simp_all [Value.isRef]
theorem vx_isRefq {C n d : String} {A : Nat → Prop} {s : State} {args : Array Value} (h : va_Zq C n d A s s.heap) : (Cond.isRef (.static C n d)).before args s = true := by
  rcases h with h | ⟨t, h⟩
  · exact vx_isRef h rfl
  · exact vx_isRef h rfl
/-- the same frame, seen from here: as if the method were called anew in this heap -/
theorem vx_rebase {T : State} (X : Stand p l e R s m args below meth c T locs cells slots) {R' : Room} (hf : R'.frames ≤ R.frames) (hl : R'.locals ≤ R.locals) (hc : cells + R'.cells ≤ R.cells) (hs : slots + R'.slots ≤ R.slots) :
    Stand p l e R' ((T.setVm s.vm).setFrames (.invoking m args :: below)) m args below meth c T [] 0 0 := by
  have htop : (T.setVm s.vm).topJava?.isSome := X.here.top
  have hF : ((T.setVm s.vm).setFrames (.invoking m args :: below)).frames = .invoking m args :: below := State.frames_setFrames _ (State.cur_lt_of_top htop)
  obtain ⟨g₀, hg0⟩ := Option.isSome_iff_exists.mp htop
  obtain ⟨r, hr⟩ := State.topJava?_eq_some.mp hg0
  have hl9 : e.platform.stackLimits (T.setVm s.vm).me = e.platform.stackLimits s.me := X.limits
  have hb9 : (T.setVm s.vm).me.stackBytes = s.me.stackBytes := X.bytes
  refine ⟨X.admits, X.cas, X.clock, hF, ?_, X.hears, X.method, X.code, X.here, X.tail, X.warmed, ?_, ?_, ?_⟩
  · have h := X.room
    have hU : ((T.setVm s.vm).setFrames (.invoking m args :: below)).localsInUse = s.localsInUse := by
      rw [State.localsInUse_invoking hF (meth := meth) (c := c) X.method X.code, State.localsInUse_invoking X.frames X.method X.code]
    simp only [State.hasRoom, Bool.and_eq_true, decide_eq_true_eq] at h ⊢
    obtain ⟨⟨⟨⟨h1, h2, h3, h4, h5, h6⟩, h7⟩, h8⟩, h9⟩ := h
    rw [X.frames, List.length_cons] at h2 h3
    have q1 := X.heapSize
    have q2 := X.used
    simp only [hF, hU, List.length_cons, State.stackLimits_setFrames, State.stackBytes_setFrames, hl9, hb9]
    refine ⟨⟨⟨⟨by omega, by omega, by omega, by omega, by omega, h6⟩, ?_⟩, ?_⟩, X.book⟩
    · show T.heap.size + R'.cells ≤ e.platform.maxCells
      omega
    · show T.slotsUsed + R'.slots ≤ e.platform.maxSlots
      omega
  · rw [State.stackLimits_setFrames]; rfl
  · rw [State.stackBytes_setFrames]; rfl
  · refine ⟨?_, Nat.le_refl _, Nat.le_refl _, ?_, ?_, fun a c9 h9 => ⟨c9, h9, rfl, rfl, fun _ _ => rfl⟩⟩
    · obtain ⟨t, ht, -⟩ := State.frames_cons hr
      show T.setVm s.vm = { ((T.setVm s.vm).setFrames (.invoking m args :: below)).setFrames (T.setVm s.vm).frames with heap := T.heap, slotsUsed := T.slotsUsed }
      rw [State.setFrames_setFrames, State.setFrames_self ht]
      rfl
    · show T.slotsUsed = T.slotsUsed + ((T.heap.toList.drop T.heap.size).map (·.slots.size)).sum
      rw [List.drop_eq_nil_of_le (Nat.le_of_eq Array.length_toList)]
      rfl
    · show ((T.heap.toList.drop T.heap.size).map (·.slots.size)).sum ≤ 0
      rw [List.drop_eq_nil_of_le (Nat.le_of_eq Array.length_toList)]
      exact Nat.le_refl _
/-- 'throw new E()': new; dup; invokespecial; athrow -/
theorem vx_throw0 {cc : ByteArray} {pc : Nat} (hexec : p.tables.exec = Jvm.exec) (hb : c.code = cc) (hl : l.stackTraces = false) {own cls : String} {names : List String} {ik ic mc ms : Nat} {A : Nat → Prop}
    (hown : s.vm.findClass own = some m.cls) (hcls : Bundle.fit cls = true) (hnames : ∀ n ∈ names, Bundle.fit n = true)
    (hk : (Cond.classLink own ik cls).before args s = true) (hini : (Cond.initialized cls).before args s = true) (hat : ∀ w ∈ vx_at0 own ic cls names, w.before args s = true)
    (hgood : ∀ w ∈ Cond.classLink own ik cls :: Cond.initialized cls :: vx_at0 own ic cls names, vx_ot w = true)
    (hU : vx_Zq Bundle.tN "UNASSIGNED_STACK" Bundle.steD A s s.heap) (hN : vx_Zq Bundle.tN "SUPPRESSED_SENTINEL" Bundle.listD A s s.heap) (hS : va_S A s.heap H locs) (hsize : ls.size = c.maxLocals)
    (d0 : decode cc pc = .ok (.new ik, 3)) (d3 : decode cc (pc + 3) = .ok (.dup, 1)) (d4 : decode cc (pc + 4) = .ok (.invokespecial ic, 3)) (d7 : decode cc (pc + 7) = .ok (.athrow, 1))
    (hout : ∀ x ∈ c.exceptionTable.toList, covers x (pc + 7) = false)
    (hRframes : names.length + 3 < R.frames) (hRlocals : (rest.map fun v => v.category).sum + (13 * (names.length + 1) + 42) ≤ R.locals) (hRcells : cells + 1 ≤ R.cells) (hRslots : slots + 6 ≤ R.slots) (hlocks : meth.locks = false)
    (hx : ∀ t : State, s.vm.Alike t.vm → H.size ≤ t.heap.size → (∀ q : Nat, q < H.size → t.heap[q]? = H[q]?) → XC cls s t)
    (hf : ∀ z ∈ locs, free z.base) (hc : cells + 1 ≤ mc) (hs : slots + 6 ≤ ms) :
    W p l e R s m args below meth c H locs cells slots (vx_MQ below Qc XC args s mc ms free) (F0 m pc ls rest) := by
  intro T hT X
  have htr : e.platform.stackTraces = false := (show e.platform.stackTraces = l.stackTraces by rw [X.admits.platform]).trans hl
  have Y := vx_rebase X (R' := { frames := R.frames, locals := R.locals, cells := 1, slots := 6 }) (Nat.le_refl _) (Nat.le_refl _) hRcells hRslots
  obtain ⟨s', hA⟩ : ∃ z, z = (T.setVm s.vm).setFrames (.invoking m args :: below) := ⟨_, rfl⟩
  rw [← hA] at Y
  have hvm : s'.vm = s.vm := by rw [hA]; rfl
  have hhp : s'.heap = H := by rw [hA]; exact hT
  have hW0 : s.WarmedH s'.vm := by rw [hvm]; exact State.WarmedH.refl s
  have hat' : ∀ w ∈ vx_at0 own ic cls names, w.before args s' = true := fun w hw => vx_ot_at hW0 hvm.symm (hgood w (List.mem_cons_of_mem _ (List.mem_cons_of_mem _ hw))) (hat w hw)
  have hk' : (Cond.classLink own ik cls).before args s' = true := vx_ot_at hW0 hvm.symm (hgood _ List.mem_cons_self) hk
  have hini' : (Cond.initialized cls).before args s' = true := vx_ot_at hW0 hvm.symm (hgood _ (List.mem_cons_of_mem _ List.mem_cons_self)) hini
  have hU' : vx_Zq Bundle.tN "UNASSIGNED_STACK" Bundle.steD A s' s'.heap := by rw [hhp]; exact vx_Zq.moved hW0.alike (hU.kept hS.2.1)
  have hN' : vx_Zq Bundle.tN "SUPPRESSED_SENTINEL" Bundle.listD A s' s'.heap := by rw [hhp]; exact vx_Zq.moved hW0.alike (hN.kept hS.2.1)
  have h : ∀ w ∈ Bundle.ownAtoms0 own ic cls names, w.before args s' = true := vx_own hat' (vx_isRefq hU'.1) (vx_isRefq hN'.1) hU'.2.word hN'.2.word
  have hown' : s'.vm.findClass own = some m.cls := by rw [hvm]; exact hown
  have hins : (Cond.instantiable cls 6).before args s' = true := h _ (by simp [Bundle.ownAtoms0])
  obtain ⟨vm₁, cX, kX, hfX, hkX, -, -, X₁, st1⟩ := Y.newCold hexec (own := own) (C := cls) (index := ik) (n := 6) hown' hk' hins hini'
    (g := F0 m pc ls rest) rfl (by rw [hb]; exact d0) (Nat.le_refl _) (Nat.le_refl _)
  generalize hT1 : (T.setVm vm₁).pushCell { cls := cX, slots := kX.instanceTypes.map defaultValue, vm := .none } = T1 at X₁ st1
  have hcat : (Value.ref T.heap.size).category = 1 := rfl
  have hcellA : T1.heap[T.heap.size]? = some (freshCell cX kX) := by rw [← hT1]; exact State.heap_pushCell_size _ _
  have d3' : decode c.code (pc + 3) = .ok (.dup, 1) := by rw [hb]; exact d3
  obtain ⟨U, hsteps, hrun, hend, hW, hsame, ce, hce, hO⟩ := X₁.ctorThrow0 hexec htr (own := own) (cls := cls) (names := names) (ic := ic) hown' hcls hnames h (fun x hx => nomatch hx) hfX hkX hcellA (by rw [hhp, hT]; exact Nat.le_refl _)
    (g := { method := m, pc := pc + 4, locals := ls, stack := .ref T.heap.size :: .ref T.heap.size :: rest, locked := none }) rfl hsize rfl rfl (rest := rest) rfl
    (by rw [hb]; exact d4) (by rw [hb]; exact d7) hout hRframes (by simp only [List.map_cons, List.sum_cons, hcat]; omega) hlocks
  obtain ⟨f1, f2⟩ := vx_frame hsame
  rw [hhp] at f1 f2
  have hWs : s.WarmedH U.vm := State.WarmedH.trans hW0 hW
  have hcl : s.vm.findClass cls = some ce.cls := by
    have h9 := hO.cls
    rw [hvm] at h9
    exact h9
  have hall : s.sameButNew ({ U with vm := s.vm } : State) locs mc ms := by
    subst hA
    obtain ⟨e1, e2⟩ := hsame
    rw [State.setFrames_setFrames] at e1
    have h2 : (T.setVm s.vm).sameButNew ({ U with vm := s.vm } : State) [] (0 + 1) (0 + 6) := ⟨e1, e2⟩
    have h3 := X.same.trans h2
    rw [List.append_nil] at h3
    exact h3.mono hc hs
  refine ⟨U, ?_, .threw T.heap.size, hrun, hend, Or.inr ⟨T.heap.size, rfl, cls, ce, locs, hx U hWs.alike f1 (fun q hq => f2 q hq (fun z hz => nomatch hz)), hce, hO.vm, hcl, hWs, hall, hf⟩⟩
  refine st1 _ ?_
  show Steps p.tables e below (T1.setTop { method := m, pc := pc + 3, locals := ls, stack := .ref T.heap.size :: rest, locked := none }) _
  jvm_step X₁.here [X₁.here.top, hexec, d3', Value.category]
  exact hsteps
/-- 'throw new E("text")': new; dup; ldc; invokespecial; athrow -/
theorem vx_throwS {cc : ByteArray} {pc : Nat} (hexec : p.tables.exec = Jvm.exec) (hb : c.code = cc) (hl : l.stackTraces = false) {own cls text : String} {names : List String} {ik is ic mc ms sa : Nat} {A : Nat → Prop}
    (hown : s.vm.findClass own = some m.cls) (hcls : Bundle.fit cls = true) (hnames : ∀ n ∈ names, Bundle.fit n = true)
    (hk : (Cond.classLink own ik cls).before args s = true) (hini : (Cond.initialized cls).before args s = true) (hstr : vk_R own is text sa s) (hat : ∀ w ∈ vx_atS own ic cls names, w.before args s = true)
    (hgood : ∀ w ∈ Cond.classLink own ik cls :: Cond.initialized cls :: vx_atS own ic cls names, vx_ot w = true)
    (hU : vx_Zq Bundle.tN "UNASSIGNED_STACK" Bundle.steD A s s.heap) (hN : vx_Zq Bundle.tN "SUPPRESSED_SENTINEL" Bundle.listD A s s.heap) (hS : va_S A s.heap H locs) (hsize : ls.size = c.maxLocals)
    (d0 : decode cc pc = .ok (.new ik, 3)) (d3 : decode cc (pc + 3) = .ok (.dup, 1)) (d4 : decode cc (pc + 4) = .ok (.ldc is, 2)) (d6 : decode cc (pc + 6) = .ok (.invokespecial ic, 3)) (d9 : decode cc (pc + 9) = .ok (.athrow, 1))
    (hout : ∀ x ∈ c.exceptionTable.toList, covers x (pc + 9) = false)
    (hRframes : names.length + 3 < R.frames) (hRlocals : (rest.map fun v => v.category).sum + (13 * (names.length + 1) + 43) ≤ R.locals) (hRcells : cells + 1 ≤ R.cells) (hRslots : slots + 6 ≤ R.slots) (hlocks : meth.locks = false)
    (hx : ∀ t : State, s.vm.Alike t.vm → H.size ≤ t.heap.size → (∀ q : Nat, q < H.size → t.heap[q]? = H[q]?) → XC cls s t)
    (hf : ∀ z ∈ locs, free z.base) (hc : cells + 1 ≤ mc) (hs : slots + 6 ≤ ms) :
    W p l e R s m args below meth c H locs cells slots (vx_MQ below Qc XC args s mc ms free) (F0 m pc ls rest) := by
  intro T hT X
  have htr : e.platform.stackTraces = false := (show e.platform.stackTraces = l.stackTraces by rw [X.admits.platform]).trans hl
  have Y := vx_rebase X (R' := { frames := R.frames, locals := R.locals, cells := 1, slots := 6 }) (Nat.le_refl _) (Nat.le_refl _) hRcells hRslots
  obtain ⟨s', hA⟩ : ∃ z, z = (T.setVm s.vm).setFrames (.invoking m args :: below) := ⟨_, rfl⟩
  rw [← hA] at Y
  have hvm : s'.vm = s.vm := by rw [hA]; rfl
  have hhp : s'.heap = H := by rw [hA]; exact hT
  have hW0 : s.WarmedH s'.vm := by rw [hvm]; exact State.WarmedH.refl s
  have hat' : ∀ w ∈ vx_atS own ic cls names, w.before args s' = true := fun w hw => vx_ot_at hW0 hvm.symm (hgood w (List.mem_cons_of_mem _ (List.mem_cons_of_mem _ hw))) (hat w hw)
  have hk' : (Cond.classLink own ik cls).before args s' = true := vx_ot_at hW0 hvm.symm (hgood _ List.mem_cons_self) hk
  have hini' : (Cond.initialized cls).before args s' = true := vx_ot_at hW0 hvm.symm (hgood _ (List.mem_cons_of_mem _ List.mem_cons_self)) hini
  have hU' : vx_Zq Bundle.tN "UNASSIGNED_STACK" Bundle.steD A s' s'.heap := by rw [hhp]; exact vx_Zq.moved hW0.alike (hU.kept hS.2.1)
  have hN' : vx_Zq Bundle.tN "SUPPRESSED_SENTINEL" Bundle.listD A s' s'.heap := by rw [hhp]; exact vx_Zq.moved hW0.alike (hN.kept hS.2.1)
  have h : ∀ w ∈ Bundle.ownAtoms own ic cls names, w.before args s' = true := vx_own hat' (vx_isRefq hU'.1) (vx_isRefq hN'.1) hU'.2.word hN'.2.word
  have hown' : s'.vm.findClass own = some m.cls := by rw [hvm]; exact hown
  have hins : (Cond.instantiable cls 6).before args s' = true := h _ (by simp [Bundle.ownAtoms])
  obtain ⟨vm₁, cX, kX, hfX, hkX, -, -, X₁, st1⟩ := Y.newCold hexec (own := own) (C := cls) (index := ik) (n := 6) hown' hk' hins hini'
    (g := F0 m pc ls rest) rfl (by rw [hb]; exact d0) (Nat.le_refl _) (Nat.le_refl _)
  generalize hT1 : (T.setVm vm₁).pushCell { cls := cX, slots := kX.instanceTypes.map defaultValue, vm := .none } = T1 at X₁ st1
  have hcat : (Value.ref T.heap.size).category = 1 := rfl
  have hcellA : T1.heap[T.heap.size]? = some (freshCell cX kX) := by rw [← hT1]; exact State.heap_pushCell_size _ _
  have d3' : decode c.code (pc + 3) = .ok (.dup, 1) := by rw [hb]; exact d3
  have d4' : decode c.code (pc + 4) = .ok (.ldc is, 2) := by rw [hb]; exact d4
  have hstr' : vk_R own is text sa s' := vk_R.warm hW0 hstr
  obtain ⟨U, hsteps, hrun, hend, hW, hsame, ce, hce, hO⟩ := X₁.ctorThrowS hexec htr (own := own) (cls := cls) (names := names) (ic := ic) hown' hcls hnames h (fun x hx => nomatch hx) hfX hkX hcellA (by rw [hhp, hT]; exact Nat.le_refl _) (msg := .ref sa) rfl
    (g := { method := m, pc := pc + 6, locals := ls, stack := .ref sa :: .ref T.heap.size :: .ref T.heap.size :: rest, locked := none }) rfl hsize rfl rfl (rest := rest) rfl
    (by rw [hb]; exact d6) (by rw [hb]; exact d9) hout hRframes (by simp only [List.map_cons, List.sum_cons, hcat]; omega) hlocks
  obtain ⟨f1, f2⟩ := vx_frame hsame
  rw [hhp] at f1 f2
  have hWs : s.WarmedH U.vm := State.WarmedH.trans hW0 hW
  have hcl : s.vm.findClass cls = some ce.cls := by
    have h9 := hO.cls
    rw [hvm] at h9
    exact h9
  have hall : s.sameButNew ({ U with vm := s.vm } : State) locs mc ms := by
    subst hA
    obtain ⟨e1, e2⟩ := hsame
    rw [State.setFrames_setFrames] at e1
    have h2 : (T.setVm s.vm).sameButNew ({ U with vm := s.vm } : State) [] (0 + 1) (0 + 6) := ⟨e1, e2⟩
    have h3 := X.same.trans h2
    rw [List.append_nil] at h3
    exact h3.mono hc hs
  refine ⟨U, ?_, .threw T.heap.size, hrun, hend, Or.inr ⟨T.heap.size, rfl, cls, ce, locs, hx U hWs.alike f1 (fun q hq => f2 q hq (fun z hz => nomatch hz)), hce, hO.vm, hcl, hWs, hall, hf⟩⟩
  refine st1 _ ?_
  show Steps p.tables e below (T1.setTop { method := m, pc := pc + 3, locals := ls, stack := .ref T.heap.size :: rest, locked := none }) _
  jvm_step X₁.here [X₁.here.top, hexec, d3', Value.category]
  exact X₁.ldcString hexec (own := own) (text := text) (index := is) (a := sa) hown' hstr'.1 hstr'.2
    (g := { method := m, pc := pc + 4, locals := ls, stack := .ref T.heap.size :: .ref T.heap.size :: rest, locked := none }) rfl d4' _ hsteps
/-- 'throw new E("text")', the text by a wide index -/
theorem vx_throwSW {cc : ByteArray} {pc : Nat} (hexec : p.tables.exec = Jvm.exec) (hb : c.code = cc) (hl : l.stackTraces = false) {own cls text : String} {names : List String} {ik is ic mc ms sa : Nat} {A : Nat → Prop}
    (hown : s.vm.findClass own = some m.cls) (hcls : Bundle.fit cls = true) (hnames : ∀ n ∈ names, Bundle.fit n = true)
    (hk : (Cond.classLink own ik cls).before args s = true) (hini : (Cond.initialized cls).before args s = true) (hstr : vk_R own is text sa s) (hat : ∀ w ∈ vx_atS own ic cls names, w.before args s = true)
    (hgood : ∀ w ∈ Cond.classLink own ik cls :: Cond.initialized cls :: vx_atS own ic cls names, vx_ot w = true)
    (hU : vx_Zq Bundle.tN "UNASSIGNED_STACK" Bundle.steD A s s.heap) (hN : vx_Zq Bundle.tN "SUPPRESSED_SENTINEL" Bundle.listD A s s.heap) (hS : va_S A s.heap H locs) (hsize : ls.size = c.maxLocals)
    (d0 : decode cc pc = .ok (.new ik, 3)) (d3 : decode cc (pc + 3) = .ok (.dup, 1)) (d4 : decode cc (pc + 4) = .ok (.ldc_w is, 3)) (d7 : decode cc (pc + 7) = .ok (.invokespecial ic, 3)) (d10 : decode cc (pc + 10) = .ok (.athrow, 1))
    (hout : ∀ x ∈ c.exceptionTable.toList, covers x (pc + 10) = false)
    (hRframes : names.length + 3 < R.frames) (hRlocals : (rest.map fun v => v.category).sum + (13 * (names.length + 1) + 43) ≤ R.locals) (hRcells : cells + 1 ≤ R.cells) (hRslots : slots + 6 ≤ R.slots) (hlocks : meth.locks = false)
    (hx : ∀ t : State, s.vm.Alike t.vm → H.size ≤ t.heap.size → (∀ q : Nat, q < H.size → t.heap[q]? = H[q]?) → XC cls s t)
    (hf : ∀ z ∈ locs, free z.base) (hc : cells + 1 ≤ mc) (hs : slots + 6 ≤ ms) :
    W p l e R s m args below meth c H locs cells slots (vx_MQ below Qc XC args s mc ms free) (F0 m pc ls rest) := by
  intro T hT X
  have htr : e.platform.stackTraces = false := (show e.platform.stackTraces = l.stackTraces by rw [X.admits.platform]).trans hl
  have Y := vx_rebase X (R' := { frames := R.frames, locals := R.locals, cells := 1, slots := 6 }) (Nat.le_refl _) (Nat.le_refl _) hRcells hRslots
  obtain ⟨s', hA⟩ : ∃ z, z = (T.setVm s.vm).setFrames (.invoking m args :: below) := ⟨_, rfl⟩
  rw [← hA] at Y
  have hvm : s'.vm = s.vm := by rw [hA]; rfl
  have hhp : s'.heap = H := by rw [hA]; exact hT
  have hW0 : s.WarmedH s'.vm := by rw [hvm]; exact State.WarmedH.refl s
  have hat' : ∀ w ∈ vx_atS own ic cls names, w.before args s' = true := fun w hw => vx_ot_at hW0 hvm.symm (hgood w (List.mem_cons_of_mem _ (List.mem_cons_of_mem _ hw))) (hat w hw)
  have hk' : (Cond.classLink own ik cls).before args s' = true := vx_ot_at hW0 hvm.symm (hgood _ List.mem_cons_self) hk
  have hini' : (Cond.initialized cls).before args s' = true := vx_ot_at hW0 hvm.symm (hgood _ (List.mem_cons_of_mem _ List.mem_cons_self)) hini
  have hU' : vx_Zq Bundle.tN "UNASSIGNED_STACK" Bundle.steD A s' s'.heap := by rw [hhp]; exact vx_Zq.moved hW0.alike (hU.kept hS.2.1)
  have hN' : vx_Zq Bundle.tN "SUPPRESSED_SENTINEL" Bundle.listD A s' s'.heap := by rw [hhp]; exact vx_Zq.moved hW0.alike (hN.kept hS.2.1)
  have h : ∀ w ∈ Bundle.ownAtoms own ic cls names, w.before args s' = true := vx_own hat' (vx_isRefq hU'.1) (vx_isRefq hN'.1) hU'.2.word hN'.2.word
  have hown' : s'.vm.findClass own = some m.cls := by rw [hvm]; exact hown
  have hins : (Cond.instantiable cls 6).before args s' = true := h _ (by simp [Bundle.ownAtoms])
  obtain ⟨vm₁, cX, kX, hfX, hkX, -, -, X₁, st1⟩ := Y.newCold hexec (own := own) (C := cls) (index := ik) (n := 6) hown' hk' hins hini'
    (g := F0 m pc ls rest) rfl (by rw [hb]; exact d0) (Nat.le_refl _) (Nat.le_refl _)
  generalize hT1 : (T.setVm vm₁).pushCell { cls := cX, slots := kX.instanceTypes.map defaultValue, vm := .none } = T1 at X₁ st1
  have hcat : (Value.ref T.heap.size).category = 1 := rfl
  have hcellA : T1.heap[T.heap.size]? = some (freshCell cX kX) := by rw [← hT1]; exact State.heap_pushCell_size _ _
  have d3' : decode c.code (pc + 3) = .ok (.dup, 1) := by rw [hb]; exact d3
  have d4' : decode c.code (pc + 4) = .ok (.ldc_w is, 3) := by rw [hb]; exact d4
  have hstr' : vk_R own is text sa s' := vk_R.warm hW0 hstr
  obtain ⟨U, hsteps, hrun, hend, hW, hsame, ce, hce, hO⟩ := X₁.ctorThrowS hexec htr (own := own) (cls := cls) (names := names) (ic := ic) hown' hcls hnames h (fun x hx => nomatch hx) hfX hkX hcellA (by rw [hhp, hT]; exact Nat.le_refl _) (msg := .ref sa) rfl
    (g := { method := m, pc := pc + 7, locals := ls, stack := .ref sa :: .ref T.heap.size :: .ref T.heap.size :: rest, locked := none }) rfl hsize rfl rfl (rest := rest) rfl
    (by rw [hb]; exact d7) (by rw [hb]; exact d10) hout hRframes (by simp only [List.map_cons, List.sum_cons, hcat]; omega) hlocks
  obtain ⟨f1, f2⟩ := vx_frame hsame
  rw [hhp] at f1 f2
  have hWs : s.WarmedH U.vm := State.WarmedH.trans hW0 hW
  have hcl : s.vm.findClass cls = some ce.cls := by
    have h9 := hO.cls
    rw [hvm] at h9
    exact h9
  have hall : s.sameButNew ({ U with vm := s.vm } : State) locs mc ms := by
    subst hA
    obtain ⟨e1, e2⟩ := hsame
    rw [State.setFrames_setFrames] at e1
    have h2 : (T.setVm s.vm).sameButNew ({ U with vm := s.vm } : State) [] (0 + 1) (0 + 6) := ⟨e1, e2⟩
    have h3 := X.same.trans h2
    rw [List.append_nil] at h3
    exact h3.mono hc hs
  refine ⟨U, ?_, .threw T.heap.size, hrun, hend, Or.inr ⟨T.heap.size, rfl, cls, ce, locs, hx U hWs.alike f1 (fun q hq => f2 q hq (fun z hz => nomatch hz)), hce, hO.vm, hcl, hWs, hall, hf⟩⟩
  refine st1 _ ?_
  show Steps p.tables e below (T1.setTop { method := m, pc := pc + 3, locals := ls, stack := .ref T.heap.size :: rest, locked := none }) _
  jvm_step X₁.here [X₁.here.top, hexec, d3', Value.category]
  exact X₁.ldcStringW hexec (own := own) (text := text) (index := is) (a := sa) hown' hstr'.1 hstr'.2
    (g := { method := m, pc := pc + 4, locals := ls, stack := .ref T.heap.size :: .ref T.heap.size :: rest, locked := none }) rfl d4' _ hsteps
end Ends
section Bodies
variable {l : Launch}
theorem vx_ofW {y : MethodName} {ws ws' : List Cond} {rm : Room} {Pc : Array Value → State → Prop} {Qc : Array Value → State → Outcome → State → Prop} {XC : String → State → State → Prop} {mc ms : Nat} {free : Addr → Prop} {cc : ByteArray} {maxL : Nat} {ret : Option FieldType}
    (hy : plainName y.cls = true) (hw : ws = Cond.code y cc maxL ret :: ws')
    (body : ∀ p e s m args below meth c s₁, BodyLoose p l y (headSpec ws rm) cc maxL ret e s m args below meth c s₁ → c.maxLocals = maxL → (∀ x ∈ c.exceptionTable.toList, False) → Pc args s →
      W p l e (headSpec ws rm).room s m args below meth c s.heap [] 0 0 (vx_MQ below Qc XC args s mc ms free) (entryFrame m args maxL)) : vx_Met l y ws rm Pc Qc XC mc ms free := by
  refine MetFree.of_bodyS (code := cc) (maxLocals := maxL) (ret := ret) hy ?_ ?_
  · intro args s m h hn
    obtain ⟨meth, c, h1, h2, h3, h4, h5, h6, -, -⟩ := Cond.code_spec hn (atoms_spec (ws := ws) h _ (by rw [hw]; exact List.mem_cons_self))
    exact ⟨meth, c, h1, h2, h3, h4, h5, h6⟩
  · intro p e s m args below meth c s₁ B hml hP _
    have hh0 : s₁.heap = s.heap := by rw [B.state]; rfl
    have ht : ∀ x ∈ c.exceptionTable.toList, False := by
      obtain ⟨meth9, c9, h1, h2, -, -, -, -, h7, -⟩ := Cond.code_spec B.named (atoms_spec (ws := ws) B.pre _ (by rw [hw]; exact List.mem_cons_self))
      cases Option.some.inj (h1.symm.trans B.method)
      cases Option.some.inj (h2.symm.trans (Stand.of_body B).code)
      intro x hx
      rw [Array.isEmpty_iff.mp h7] at hx
      cases hx
    obtain ⟨t, a1, o, b1, b2, b3⟩ := body p e s m args below meth c s₁ B hml ht hP s₁ hh0 (Stand.of_body B)
    exact ⟨t, o, a1, b1, b2, b3⟩
/-- the table of a body with handlers -/
theorem vx_table {p : Program} {x y : MethodName} {S : Spec} {cc bytes : ByteArray} {maxL maxL' : Nat} {ret ret' : Option FieldType} {e : Env} {s s₁ : State} {m : MethodId} {args : Array Value} {below : List Frame} {meth : Method} {c : Code} {hh : List (Nat × Nat × Nat × Nat)}
    (B : BodyLoose p l y S cc maxL ret e s m args below meth c s₁) (h : (Cond.codeWith y bytes maxL' ret' hh).before args s = true) : c.exceptionTable.toList = tableOf hh := by
  obtain ⟨m9, meth9, c9, hn9, h1, h2, -, -, h6, -⟩ := Cond.codeWith_spec h
  cases Option.some.inj (hn9.symm.trans B.named)
  cases Option.some.inj (h1.symm.trans B.method)
  cases Option.some.inj (h2.symm.trans (Stand.of_body B).code)
  rw [← h6, table_eq]
end Bodies
end VXA
/-! ===== END ===== -/
/-! ===== BEGIN a static call of a method with an exception table ===== -/
section VXS
variable {p : Program} {l : Launch} {e : Env} {R : Room} {s : State} {m : MethodId} {args : Array Value} {below : List Frame} {meth : Method} {c : Code} {T : State} {H : Heap} {locs : List Loc} {cells slots : Nat}
abbrev vx_CSW (R : Room) (s : State) (args : Array Value) (own : String) (index : Nat) (y : MethodName) (bytes : ByteArray) (maxL : Nat) (ret : Option FieldType) (hh : List (Nat × Nat × Nat × Nat)) (ws : List Cond) (rm : Room) (mc ms n : Nat) : Prop :=
  (rm.cells = mc ∧ rm.slots = ms ∧ rm.frames + 1 ≤ R.frames ∧ 8 + (maxL + 11) + rm.locals ≤ R.locals ∧ (∀ w ∈ ws, ∀ (a' : Array Value) (U : State), s.WarmedH U.vm → w.before a' U = true) ∧ Cond.codeWith y bytes maxL ret hh ∈ ws) ∧
  (Cond.codeWith y bytes maxL ret hh).before args s = true ∧ (Cond.initialized y.cls).before args s = true ∧ (y.cls ≠ "java/lang/invoke/MethodHandle" ∧ y.cls ≠ "java/lang/invoke/VarHandle") ∧
  (∀ sig, parseMethodDescriptor y.desc = some sig → n = sig.parameters.length) ∧ (Cond.methodLink own index y).before args s = true ∧ (Cond.static y).before args s = true
theorem vx_cwSW {own : String} {index maxL mc ms : Nat} {y : MethodName} {bytes : ByteArray} {ret : Option FieldType} {hh : List (Nat × Nat × Nat × Nat)} {Ts ws ws' : List Cond} {rm : Room} (n : Nat) (ht : ∀ w ∈ Ts, w.before args s = true) (hT : GoodIn Ts (va_wsS own index y ws)) (hw : ws = Cond.codeWith y bytes maxL ret hh :: ws') (hrc : rm.cells = mc) (hrs : rm.slots = ms)
    (hd : y.cls ≠ "java/lang/invoke/MethodHandle" ∧ y.cls ≠ "java/lang/invoke/VarHandle" ∧ (parseMethodDescriptor y.desc).map (fun d => d.parameters.length) = some n) (hR : rm.frames + 1 ≤ R.frames ∧ 8 + (maxL + 11) + rm.locals ≤ R.locals) :
    vx_CSW R s args own index y bytes maxL ret hh ws rm mc ms n := by
  have ok : ∀ w ∈ va_wsS own index y ws, w.before args s = true := fun w h => ht w (hT w h).1
  have hG : GoodIn Ts ws := fun w h => hT w (by unfold va_wsS; exact List.mem_append_right _ h)
  have hc : Cond.codeWith y bytes maxL ret hh ∈ ws := by rw [hw]; exact List.mem_cons_self
  refine ⟨⟨hrc, hrs, hR.1, hR.2, pay_in ht hG, hc⟩, ht _ (hG _ hc).1, ok _ (by simp [va_wsS]), ⟨hd.1, hd.2.1⟩, fun sig h => ?_, ok _ (by simp [va_wsS]), ok _ (by simp [va_wsS])⟩
  have h2 := hd.2.2
  rw [h] at h2
  exact (Option.some.inj h2).symm
theorem vx_callSW (X : Stand p l e R s m args below meth c T locs cells slots) (hexec : p.tables.exec = Jvm.exec) {own : String} {index : Nat} {y : MethodName} {bytes : ByteArray} {maxL : Nat} {ret : Option FieldType} {hh : List (Nat × Nat × Nat × Nat)}
    (hown : s.vm.findClass own = some m.cls) (hlink : (Cond.methodLink own index y).before args s = true) (hstat : (Cond.static y).before args s = true) (hinit : (Cond.initialized y.cls).before args s = true)
    (hcode : (Cond.codeWith y bytes maxL ret hh).before args s = true) (hy : y.cls ≠ "java/lang/invoke/MethodHandle" ∧ y.cls ≠ "java/lang/invoke/VarHandle")
    {W9 : Nat} {Pre : Pt → Array Value → Prop} {Post : Pt → Array Value → Option Value → Pt → Prop} (hK : Back l R p e below s args y 3 W9 Pre Post)
    {g : JFrame} (hg : g.method = m) (hsize : g.locals.size = c.maxLocals) {argsL rest : List Value} (hlen : ∀ sig, parseMethodDescriptor y.desc = some sig → argsL.length = sig.parameters.length)
    (hstack : g.stack = argsL.reverse ++ rest) (hW : 2 * g.monitorRoom + (rest.map fun v => v.category).sum ≤ W9) (hdg : decode c.code g.pc = .ok (.invokestatic index, 3))
    (hpre : ∀ vm₁, s.WarmedH vm₁ → Pre ⟨T.setVm vm₁, locs, cells, slots⟩ argsL.toArray) :
    ∃ (v : Option Value) (vm₁ : Vm) (B : Pt), s.WarmedH vm₁ ∧ Stand p l e R s m args below meth c B.U B.locs B.cells B.slots ∧ Post ⟨T.setVm vm₁, locs, cells, slots⟩ argsL.toArray v B ∧
      ∀ target, Steps p.tables e below (B.U.setTop { g with pc := g.pc + 3, stack := v.toList ++ rest }) target → Steps p.tables e below (T.setTop g) target := by
  obtain ⟨mk, methM, cM, hnamed, hmethM, -, -, -, -, -, -, hsigM⟩ := Cond.codeWith_spec hcode
  have hstatic : methM.isStatic = true := Cond.static_spec hnamed hmethM hstat
  obtain ⟨kP, hkP, -⟩ := className_of_methodNamed hnamed
  have hinitP : kP.init = .initialized := Cond.initialized_spec (findClass_of_methodNamed hnamed) hkP hinit
  obtain ⟨vm₁, X₁, hstep₁⟩ := X.invokestatic hexec hown hlink hnamed hmethM hstatic hkP hinitP hy (g := g) hg (argsL := argsL) (rest := rest) (hlen _ hsigM) hstack hdg
  obtain ⟨v, B, X', hpost, hsteps⟩ := hK m meth c ⟨T.setVm vm₁, locs, cells, slots⟩ { g with stack := rest } (.invokestatic index) mk argsL.toArray X₁ hg hsize hdg hW (X₁.named hnamed) (hpre vm₁ X₁.warmed)
  exact ⟨v, vm₁, B, X₁.warmed, X', hpost, fun target h => hstep₁ _ fun acts => by rw [doInvoke_state]; exact hsteps.trans h⟩
theorem vx_runSW {y : MethodName} {bytes cc : ByteArray} {maxL nL mc ms n index : Nat} {ret : Option FieldType} {hh : List (Nat × Nat × Nat × Nat)} {ws : List Cond} {rm : Room} {Pc : Array Value → State → Prop} {Qc : Array Value → State → Outcome → State → Prop} {free : Addr → Prop} {Ts : List Cond} {own : String} {As rest : List Value} {g : JFrame}
    (S : CallFix p m c cc nL s args Ts own) (hM : Met l y ws rm Pc Qc mc ms free) (cw : vx_CSW R s args own index y bytes maxL ret hh ws rm mc ms n) (hp : PreS s H Pc As)
    (hg : g.method = m) (hn : As.length = n) (hsize : g.locals.size = nL) (hstack : g.stack = As.reverse ++ rest) (hW : 2 * g.monitorRoom + (rest.map fun v => v.category).sum ≤ 8) (hdg : decode cc g.pc = .ok (.invokestatic index, 3)) (hf : cells + mc ≤ R.cells ∧ slots + ms ≤ R.slots) :
    va_Run p l e R s m args below meth c H locs cells slots mc ms g rest (Qc As.toArray) (free) := by
  obtain ⟨⟨hrc, hrs, hfr, hlo, hws, hcw⟩, hcode, hini, hy, hlen, hl, hstt⟩ := cw
  have hK : Back l R p e below s args y 3 8 (PreOf R mc ms Pc) (PostOf Qc mc ms free) := va_backW (hh := hh) (bytes := bytes) (maxL := maxL) (ret := ret) hM hp.1 hrc hrs hfr hlo hws hcw (fun a' U hW => word_at hW (Or.inl (by first | rfl | simp [Cond.onTables, Cond.keeps, Cond.steady])) hini)
  obtain ⟨hx, hb, hml, ho, -⟩ := S
  intro T hT X
  obtain ⟨v, vm₁, ⟨U', l2, c2, s2⟩, hW₁, X', ⟨g', mk, t, L, e1, e2, hq, h1, hL, h2, h3⟩, st⟩ := vx_callSW X hx (hh := hh) (bytes := bytes) (maxL := maxL) (ret := ret) ho hl hstt hini hcode hy hK hg (hsize.trans hml.symm) (argsL := As) (rest := rest) (fun sig h => hn.trans (hlen sig h)) hstack hW (by rw [hb]; exact hdg)
    (fun vm₁ hW₁ => ⟨hf.1, hf.2, hp.2 (T.setVm vm₁) hT hW₁⟩)
  dsimp only [Pt.U, Pt.locs, Pt.cells, Pt.slots] at X' e1 e2 h1 h2 h3 st
  subst h1; subst h2; subst h3
  exact ⟨v, (T.setVm vm₁).calling g' mk As.toArray, t, U', L, hT, X', hL, e1, e2, hq, st⟩
/-- not caught here, past rows that name other classes: it goes on to the caller -/
theorem vx_outP {p : Program} {l : Launch} {e : Env} {R : Room} {s : State} {m : MethodId} {args : Array Value} {below : List Frame} {meth : Method} {c : Code} {H : Heap} {locs : List Loc} {cells slots : Nat} {free : Addr → Prop} {ls : Array Slot} {rest : List Value} {Qc : Array Value → State → Outcome → State → Prop} {XC : String → State → State → Prop}
    {pc : Nat} {own E : String} {ce : Cell} {q : Addr} {mc ms : Nat} (hown : s.vm.findClass own = some m.cls) (hlocks : meth.locks = false)
    (hpass : ∀ z ∈ c.exceptionTable.toList, covers z pc = false ∨ (z.catchType ≠ 0 ∧ ∃ nm : String, (Cond.classLink own z.catchType nm).before args s = true ∧ va_Nc E nm s)) (hcell : H[q]? = some ce) (hv : ce.vm = .none) (hcl : s.vm.findClass E = some ce.cls)
    (hx : ∀ t : State, t.heap = H → s.vm.Alike t.vm → XC E s t) (hf : ∀ z ∈ locs, free z.base) (hc : cells ≤ mc) (hs : slots ≤ ms) :
    vx_W p l e R s m args below meth c H locs cells slots (vx_MQ below Qc XC args s mc ms free) (F0 m pc ls rest) q := by
  intro T hT X
  have hpl : e.platform.magicAccessors = ({} : Platform).magicAccessors := by rw [X.admits.platform]
  obtain ⟨vm', hW', X', st⟩ := X.outThrough hlocks q (g := F0 m pc ls rest) rfl rfl rfl (cell := ce) (by rw [hT]; exact hcell) (by rw [hv]; rfl)
    (by obtain ⟨k9, h9, -⟩ := Vm.findClass_spec hcl; exact ⟨k9, h9⟩) (fun z hz => by
      rcases hpass z hz with h | ⟨hz0, nm, hl1, hn1⟩
      · exact Or.inl h
      · obtain ⟨c6, hc6, hcl6⟩ := Cond.classLink_spec hown hl1 e.platform hpl
        obtain ⟨a8, b8, h1, h2, h3⟩ := hn1
        cases Option.some.inj (h1.symm.trans hcl)
        cases Option.some.inj (h2.symm.trans hc6)
        exact Or.inr ⟨hz0, _, hcl6, h3⟩)
  obtain ⟨g₀, hfr⟩ := X'.frames_eq
  have hcell9 : ((T.setVm vm').setFrames (.throwing q :: below)).heap[q]? = some ce := by
    show T.heap[q]? = some ce
    rw [hT]; exact hcell
  have hend : Ended ((T.setVm vm').setFrames (.throwing q :: below)) below (.threw q) := State.frames_setFrames _ (State.cur_lt_of_frames hfr)
  refine ⟨(T.setVm vm').setFrames (.throwing q :: below), ?_, .threw q, X'.here.running, hend, Or.inr ⟨q, rfl, E, ce, locs, hx _ hT (X'.ends _).1.alike, hcell9, hv, hcl, (X'.ends _).1, (X'.ends _).2.mono hc hs, hf⟩⟩
  rw [X.pushThrowing_eq]
  exact st
/-- a thing of a world lies in the heap -/
theorem vx_lt {D : va_G} {cl : List vw_C} {ws : va_W} {H1 : Heap} (h : va_P D cl ws H1) {k : Nat} {q : Nat × va_E} (hk : ws[k]? = some q) : q.1 < H1.size := (h k q hk).lt
end VXS
/-! ===== END ===== -/
/-! ===== BEGIN methods with a table of their own: called by a name, returning or throwing ===== -/
section VXH
/-! vx_backW, vx_callVX, vx_callSX, vx_callVW, vx_runVW, vx_runVX, vx_runSX, vx_ofWH follow the same proofs as their sisters above (Free/Laws.lean, Shelf42/LK1.lean); vx_outP calls Shelf42/NT130.lean (outThrough). -/
section
variable {l : Launch} {R : Room} {p : Program} {e : Env} {below : List Frame} {s : State} {sargs : Array Value} {y : MethodName} {len W9 : Nat}
theorem vx_backW {ws : List Cond} {rm : Room} {Pc : Array Value → State → Prop} {Qc : Array Value → State → Outcome → State → Prop} {XC : String → State → State → Prop} {mc ms : Nat} {free : Addr → Prop} {bytes : ByteArray} {maxL : Nat} {ret : Option FieldType} {hh : List (Nat × Nat × Nat × Nat)}
    (hM : vx_Met l y ws rm Pc Qc XC mc ms free) (hblind : FrameBlind Pc) (hrc : rm.cells = mc) (hrs : rm.slots = ms)
    (hframes : rm.frames + 1 ≤ R.frames) (hlocals : W9 + (maxL + 11) + rm.locals ≤ R.locals)
    (hws : ∀ w ∈ ws, ∀ a' U, s.WarmedH U.vm → w.before a' U = true) (hcode : Cond.codeWith y bytes maxL ret hh ∈ ws) (hinit : ∀ a' U, s.WarmedH U.vm → (Cond.initialized y.cls).before a' U = true) :
    vx_Back l R p e below s sargs y len W9 (PreOf R mc ms Pc) (PostOf Qc mc ms free) (vx_Post XC mc ms free) := by
  intro m meth c A g ig mk a X hg hsize hdg hW hn hp
  have h1 : (headSpec ws rm).pre.before a A.U = true := atoms_intro fun w hw => hws w hw _ _ X.warmed
  have h2 : (Cond.codeWith y bytes maxL ret hh).before a A.U = true := hws _ hcode _ _ X.warmed
  have h3 : (Cond.initialized y.cls).before a A.U = true := hinit _ _ X.warmed
  have h4 : A.cells + (headSpec ws rm).room.cells ≤ R.cells := by rw [show (headSpec ws rm).room.cells = mc from hrc]; exact hp.1
  have h5 : A.slots + (headSpec ws rm).room.slots ≤ R.slots := by rw [show (headSpec ws rm).room.slots = ms from hrs]; exact hp.2.1
  have hPc : Pc a (A.U.calling g mk a) := hblind _ _ _ _ hp.2.2
  obtain ⟨U, Ls, c0, s0⟩ := A
  dsimp only [Pt.U, Pt.locs, Pt.cells, Pt.slots] at h1 h2 h3 h4 h5 X hn hPc ⊢
  obtain ⟨m9, methY, cY, hn9, hmY, hcY, -, hlY, -⟩ := Cond.codeWith_spec h2
  cases Option.some.inj (hn9.symm.trans hn)
  obtain ⟨kY, hkY, -⟩ := className_of_methodNamed hn
  have hinitY : kY.init = .initialized := Cond.initialized_spec (findClass_of_methodNamed hn) hkY h3
  have h : At U g.method c below := by rw [hg]; exact X.here
  have hlocals9 : W9 + (maxL + 11) + (headSpec ws rm).room.locals ≤ R.locals := hlocals
  have happ : (headSpec ws rm).appliesLoose y e.platform (U.calling g mk a) = true :=
    Spec.appliesLoose_calling (g := g) h hdg hn hkY hinitY
      (X.room_calling (g := g) (R' := (headSpec ws rm).room) hsize hmY hcY hframes (by rw [hlY]; omega) h4 h5) h1
  obtain ⟨mid, hmid⟩ := h.above
  have hfr : (U.setTop g).frames = (.java g :: mid) ++ below := by rw [State.frames_setTop' g h.top, hmid]; rfl
  obtain ⟨o, s₂, hsteps, -, hend, hq⟩ := Steps.callFree hM p X.admits X.cas X.clock (acts := []) hfr happ hPc trivial
  have hq' : vx_Q Qc XC mc ms free a (U.calling g mk a) o s₂ := hq
  rw [State.frames_setTop' g h.top] at hend
  obtain ⟨g₀, hg0⟩ := Option.isSome_iff_exists.mp h.top
  obtain ⟨r, hr⟩ := State.topJava?_eq_some.mp hg0
  have hr' : (({ U with heap := s₂.heap, slotsUsed := s₂.slotsUsed } : State).setVm s₂.vm).frames = .java g₀ :: r := hr
  rcases hq' with ⟨hqc, L, hfe, hL⟩ | ⟨q, rfl, E, ce, L, hx, hce, hcv, hcl, hW₂, hsm, hL⟩
  · obtain ⟨⟨v, rfl⟩, hW₂, e2, q2, q3, q4, q5, q6⟩ := id hfe
    have e3 : s₂ = ({ (U.calling g mk a).setFrames s₂.frames with heap := s₂.heap, slotsUsed := s₂.slotsUsed } : State).setVm s₂.vm := by
      have : s₂ = ({ s₂ with vm := (U.calling g mk a).vm } : State).setVm s₂.vm := rfl
      rw [e2] at this
      exact this
    obtain ⟨c₂, i₂, len₂, hc₂, hd₂, hf₂⟩ := hend
    have hW' : U.WarmedH s₂.vm := hW₂
    have hcc : c₂ = c := by
      have h1 : s₂.code? g.method = U.code? g.method := by
        rw [State.code?_eq, State.code?_eq, hW'.alike.method?]
      exact Option.some.inj (hc₂.symm.trans (h1.trans h.code))
    subst hcc
    have hlen : len₂ = len := by rw [hdg] at hd₂; cases hd₂; rfl
    subst hlen
    have hs₂ : s₂ = (({ U with heap := s₂.heap, slotsUsed := s₂.slotsUsed } : State).setVm s₂.vm).setTop { g with pc := g.pc + len₂, stack := v.toList ++ g.stack } := by
      refine e3.trans ?_
      rw [hf₂, State.calling_eq h.top, State.setFrames_setFrames, State.setTop_of_frames _ hr', hr]
      rfl
    have hsame : U.sameButNew ({ U with heap := s₂.heap, slotsUsed := s₂.slotsUsed } : State) L mc ms := by
      refine ⟨?_, q2, q3, q4, q5, q6⟩
      obtain ⟨t, ht, -⟩ := State.frames_cons hr
      show ({ U with heap := s₂.heap, slotsUsed := s₂.slotsUsed } : State) = { U.setFrames U.frames with heap := s₂.heap, slotsUsed := s₂.slotsUsed }
      rw [State.setFrames_self ht]
    subst hg
    refine Or.inl ⟨v, ⟨(({ U with heap := s₂.heap, slotsUsed := s₂.slotsUsed } : State).setVm s₂.vm), Ls ++ L, c0 + mc, s0 + ms⟩,
      ⟨X.admits, X.cas, X.clock, X.frames, X.room, X.hears, X.method, X.code, (X.here.setHeapUsed s₂.heap s₂.slotsUsed).setVm hW'.alike, X.tail, State.WarmedH.trans X.warmed hW', X.limits, X.bytes, X.same.trans (hsame.setVm s.vm)⟩,
      ⟨g, mk, s₂, L, rfl, rfl, hqc, rfl, hL, rfl, rfl⟩, ?_⟩
    show Steps p.tables e below _ ((({ U with heap := s₂.heap, slotsUsed := s₂.slotsUsed } : State).setVm s₂.vm).setTop { g with pc := g.pc + len₂, stack := v.toList ++ g.stack })
    rw [← hs₂]
    exact hsteps
  · obtain ⟨e2, q2, q3, q4, q5, q6⟩ := id hsm
    have e3 : s₂ = ({ (U.calling g mk a).setFrames s₂.frames with heap := s₂.heap, slotsUsed := s₂.slotsUsed } : State).setVm s₂.vm := by
      have : s₂ = ({ s₂ with vm := (U.calling g mk a).vm } : State).setVm s₂.vm := rfl
      rw [e2] at this
      exact this
    have hf₂ : s₂.frames = .throwing q :: .java g :: U.frames.tail := hend
    have hW' : U.WarmedH s₂.vm := hW₂
    have hs₂ : s₂ = ((({ U with heap := s₂.heap, slotsUsed := s₂.slotsUsed } : State).setVm s₂.vm).setTop g).pushFrame (.throwing q) := by
      refine e3.trans ?_
      rw [hf₂, State.calling_eq h.top, State.setFrames_setFrames, State.pushFrame, State.frames_setTop _ hr', State.setTop_of_frames _ hr', State.setFrames_setFrames, hr]
      rfl
    have hsame : U.sameButNew ({ U with heap := s₂.heap, slotsUsed := s₂.slotsUsed } : State) L mc ms := by
      refine ⟨?_, q2, q3, q4, q5, q6⟩
      obtain ⟨t, ht, -⟩ := State.frames_cons hr
      show ({ U with heap := s₂.heap, slotsUsed := s₂.slotsUsed } : State) = { U.setFrames U.frames with heap := s₂.heap, slotsUsed := s₂.slotsUsed }
      rw [State.setFrames_self ht]
    subst hg
    refine Or.inr ⟨q, ⟨(({ U with heap := s₂.heap, slotsUsed := s₂.slotsUsed } : State).setVm s₂.vm), Ls ++ L, c0 + mc, s0 + ms⟩,
      ⟨X.admits, X.cas, X.clock, X.frames, X.room, X.hears, X.method, X.code, (X.here.setHeapUsed s₂.heap s₂.slotsUsed).setVm hW'.alike, X.tail, State.WarmedH.trans X.warmed hW', X.limits, X.bytes, X.same.trans (hsame.setVm s.vm)⟩,
      ⟨g, mk, s₂, L, E, ce, rfl, rfl, hx, hce, hcv, hcl, rfl, hL, rfl, rfl⟩, ?_⟩
    show Steps p.tables e below _ (((({ U with heap := s₂.heap, slotsUsed := s₂.slotsUsed } : State).setVm s₂.vm).setTop g).pushFrame (.throwing q))
    rw [← hs₂]
    exact hsteps
end
variable {p : Program} {l : Launch} {e : Env} {R : Room} {s : State} {m : MethodId} {args : Array Value} {below : List Frame} {meth : Method} {c : Code} {T : State} {H : Heap} {locs : List Loc} {cells slots : Nat}
theorem vx_callVX (X : Stand p l e R s m args below meth c T locs cells slots) (hexec : p.tables.exec = Jvm.exec) {own C : String} {index : Nat} {y : MethodName} {bytes : ByteArray} {maxL : Nat} {ret : Option FieldType} {hh : List (Nat × Nat × Nat × Nat)}
    (hown : s.vm.findClass own = some m.cls) (hlink : (Cond.methodLink own index y).before args s = true) (hinst : (Cond.instanceMethod y).before args s = true) (hsel : (Cond.selects C y y).before args s = true)
    (hcode : (Cond.codeWith y bytes maxL ret hh).before args s = true) (hy : y.cls ≠ "java/lang/invoke/MethodHandle" ∧ y.cls ≠ "java/lang/invoke/VarHandle")
    {W9 : Nat} {Pre : Pt → Array Value → Prop} {Post : Pt → Array Value → Option Value → Pt → Prop} {PostX : Pt → Array Value → Addr → Pt → Prop} (hK : vx_Back l R p e below s args y 3 W9 Pre Post PostX)
    {b : Addr} {cellB : Cell} (hcell : T.heap[b]? = some cellB) (hobj : cellB.vm.isStatics = false) (hcls : s.vm.findClass C = some cellB.cls)
    {g : JFrame} (hg : g.method = m) (hsize : g.locals.size = c.maxLocals) {argsL rest : List Value} (hlen : ∀ sig, parseMethodDescriptor y.desc = some sig → argsL.length = sig.parameters.length)
    (hstack : g.stack = argsL.reverse ++ .ref b :: rest) (hW : 2 * g.monitorRoom + (rest.map fun v => v.category).sum ≤ W9) (hdg : decode c.code g.pc = .ok (.invokevirtual index, 3))
    (hpre : ∀ vm₁, s.WarmedH vm₁ → Pre ⟨T.setVm vm₁, locs, cells, slots⟩ (Value.ref b :: argsL).toArray) :
    (∃ (v : Option Value) (vm₁ : Vm) (B : Pt), s.WarmedH vm₁ ∧ Stand p l e R s m args below meth c B.U B.locs B.cells B.slots ∧ Post ⟨T.setVm vm₁, locs, cells, slots⟩ (Value.ref b :: argsL).toArray v B ∧
      ∀ target, Steps p.tables e below (B.U.setTop { g with pc := g.pc + 3, stack := v.toList ++ rest }) target → Steps p.tables e below (T.setTop g) target) ∨
    (∃ (q : Addr) (vm₁ : Vm) (B : Pt), s.WarmedH vm₁ ∧ Stand p l e R s m args below meth c B.U B.locs B.cells B.slots ∧ PostX ⟨T.setVm vm₁, locs, cells, slots⟩ (Value.ref b :: argsL).toArray q B ∧
      Steps p.tables e below (T.setTop g) ((B.U.setTop { g with stack := rest }).pushFrame (.throwing q))) := by
  obtain ⟨mk, methM, hnamed, hmethM, hstM, habM⟩ := Cond.instanceMethod_spec hinst
  obtain ⟨m8, methM', cM, hn8, hmethM', -, -, -, -, -, -, hsigM⟩ := Cond.codeWith_spec hcode
  cases Option.some.inj (hn8.symm.trans hnamed)
  cases hmethM.symm.trans hmethM'
  obtain ⟨c2, r2, m2, q1, q2, q3, q4, kP, hkP, hkPi⟩ := Cond.selects_spec hsel
  cases hcls.symm.trans q1
  cases (State.methodFound?_of_named hnamed hy).symm.trans q2
  cases hnamed.symm.trans q3
  have hselP : selectMethod e.platform s.vm cellB.cls mk = .method mk := by rw [Launch.admits_selectMethod X.admits]; exact q4
  obtain ⟨vm₁, X₁, hstep₁⟩ := X.invokevirtual hexec hown hlink hnamed hmethM hstM hkP hkPi hy (a := b) (cell := cellB) hcell
    (fun z h => by rw [h] at hobj; cases hobj) hselP hmethM habM hkP hkPi (g := g) hg (argsL := argsL) (rest := rest) (hlen _ hsigM) hstack hdg
  rcases hK m meth c ⟨T.setVm vm₁, locs, cells, slots⟩ { g with stack := rest } (.invokevirtual index) mk (Value.ref b :: argsL).toArray X₁ hg hsize hdg hW (X₁.named hnamed) (hpre vm₁ X₁.warmed) with ⟨v, B, X', hpost, hsteps⟩ | ⟨q, B, X', hpost, hsteps⟩
  · exact Or.inl ⟨v, vm₁, B, X₁.warmed, X', hpost, fun target h => hstep₁ _ fun acts => by rw [doInvoke_state]; exact hsteps.trans h⟩
  · exact Or.inr ⟨q, vm₁, B, X₁.warmed, X', hpost, hstep₁ _ fun acts => by rw [doInvoke_state]; exact hsteps⟩
theorem vx_callSX (X : Stand p l e R s m args below meth c T locs cells slots) (hexec : p.tables.exec = Jvm.exec) {own : String} {index : Nat} {y : MethodName} {bytes : ByteArray} {maxL : Nat} {ret : Option FieldType} {hh : List (Nat × Nat × Nat × Nat)}
    (hown : s.vm.findClass own = some m.cls) (hlink : (Cond.methodLink own index y).before args s = true) (hstat : (Cond.static y).before args s = true) (hinit : (Cond.initialized y.cls).before args s = true)
    (hcode : (Cond.codeWith y bytes maxL ret hh).before args s = true) (hy : y.cls ≠ "java/lang/invoke/MethodHandle" ∧ y.cls ≠ "java/lang/invoke/VarHandle")
    {W9 : Nat} {Pre : Pt → Array Value → Prop} {Post : Pt → Array Value → Option Value → Pt → Prop} {PostX : Pt → Array Value → Addr → Pt → Prop} (hK : vx_Back l R p e below s args y 3 W9 Pre Post PostX)
    {g : JFrame} (hg : g.method = m) (hsize : g.locals.size = c.maxLocals) {argsL rest : List Value} (hlen : ∀ sig, parseMethodDescriptor y.desc = some sig → argsL.length = sig.parameters.length)
    (hstack : g.stack = argsL.reverse ++ rest) (hW : 2 * g.monitorRoom + (rest.map fun v => v.category).sum ≤ W9) (hdg : decode c.code g.pc = .ok (.invokestatic index, 3))
    (hpre : ∀ vm₁, s.WarmedH vm₁ → Pre ⟨T.setVm vm₁, locs, cells, slots⟩ argsL.toArray) :
    (∃ (v : Option Value) (vm₁ : Vm) (B : Pt), s.WarmedH vm₁ ∧ Stand p l e R s m args below meth c B.U B.locs B.cells B.slots ∧ Post ⟨T.setVm vm₁, locs, cells, slots⟩ argsL.toArray v B ∧
      ∀ target, Steps p.tables e below (B.U.setTop { g with pc := g.pc + 3, stack := v.toList ++ rest }) target → Steps p.tables e below (T.setTop g) target) ∨
    (∃ (q : Addr) (vm₁ : Vm) (B : Pt), s.WarmedH vm₁ ∧ Stand p l e R s m args below meth c B.U B.locs B.cells B.slots ∧ PostX ⟨T.setVm vm₁, locs, cells, slots⟩ argsL.toArray q B ∧
      Steps p.tables e below (T.setTop g) ((B.U.setTop { g with stack := rest }).pushFrame (.throwing q))) := by
  obtain ⟨mk, methM, cM, hnamed, hmethM, -, -, -, -, -, -, hsigM⟩ := Cond.codeWith_spec hcode
  have hstatic : methM.isStatic = true := Cond.static_spec hnamed hmethM hstat
  obtain ⟨kP, hkP, -⟩ := className_of_methodNamed hnamed
  have hinitP : kP.init = .initialized := Cond.initialized_spec (findClass_of_methodNamed hnamed) hkP hinit
  obtain ⟨vm₁, X₁, hstep₁⟩ := X.invokestatic hexec hown hlink hnamed hmethM hstatic hkP hinitP hy (g := g) hg (argsL := argsL) (rest := rest) (hlen _ hsigM) hstack hdg
  rcases hK m meth c ⟨T.setVm vm₁, locs, cells, slots⟩ { g with stack := rest } (.invokestatic index) mk argsL.toArray X₁ hg hsize hdg hW (X₁.named hnamed) (hpre vm₁ X₁.warmed) with ⟨v, B, X', hpost, hsteps⟩ | ⟨q, B, X', hpost, hsteps⟩
  · exact Or.inl ⟨v, vm₁, B, X₁.warmed, X', hpost, fun target h => hstep₁ _ fun acts => by rw [doInvoke_state]; exact hsteps.trans h⟩
  · exact Or.inr ⟨q, vm₁, B, X₁.warmed, X', hpost, hstep₁ _ fun acts => by rw [doInvoke_state]; exact hsteps⟩
theorem vx_callVW (X : Stand p l e R s m args below meth c T locs cells slots) (hexec : p.tables.exec = Jvm.exec) {own C : String} {index : Nat} {y : MethodName} {bytes : ByteArray} {maxL : Nat} {ret : Option FieldType} {hh : List (Nat × Nat × Nat × Nat)}
    (hown : s.vm.findClass own = some m.cls) (hlink : (Cond.methodLink own index y).before args s = true) (hinst : (Cond.instanceMethod y).before args s = true) (hsel : (Cond.selects C y y).before args s = true)
    (hcode : (Cond.codeWith y bytes maxL ret hh).before args s = true) (hy : y.cls ≠ "java/lang/invoke/MethodHandle" ∧ y.cls ≠ "java/lang/invoke/VarHandle")
    {W9 : Nat} {Pre : Pt → Array Value → Prop} {Post : Pt → Array Value → Option Value → Pt → Prop} (hK : Back l R p e below s args y 3 W9 Pre Post)
    {b : Addr} {cellB : Cell} (hcell : T.heap[b]? = some cellB) (hobj : cellB.vm.isStatics = false) (hcls : s.vm.findClass C = some cellB.cls)
    {g : JFrame} (hg : g.method = m) (hsize : g.locals.size = c.maxLocals) {argsL rest : List Value} (hlen : ∀ sig, parseMethodDescriptor y.desc = some sig → argsL.length = sig.parameters.length)
    (hstack : g.stack = argsL.reverse ++ .ref b :: rest) (hW : 2 * g.monitorRoom + (rest.map fun v => v.category).sum ≤ W9) (hdg : decode c.code g.pc = .ok (.invokevirtual index, 3))
    (hpre : ∀ vm₁, s.WarmedH vm₁ → Pre ⟨T.setVm vm₁, locs, cells, slots⟩ (Value.ref b :: argsL).toArray) :
    ∃ (v : Option Value) (vm₁ : Vm) (B : Pt), s.WarmedH vm₁ ∧ Stand p l e R s m args below meth c B.U B.locs B.cells B.slots ∧ Post ⟨T.setVm vm₁, locs, cells, slots⟩ (Value.ref b :: argsL).toArray v B ∧
      ∀ target, Steps p.tables e below (B.U.setTop { g with pc := g.pc + 3, stack := v.toList ++ rest }) target → Steps p.tables e below (T.setTop g) target := by
  obtain ⟨mk, methM, hnamed, hmethM, hstM, habM⟩ := Cond.instanceMethod_spec hinst
  obtain ⟨m8, methM', cM, hn8, hmethM', -, -, -, -, -, -, hsigM⟩ := Cond.codeWith_spec hcode
  cases Option.some.inj (hn8.symm.trans hnamed)
  cases hmethM.symm.trans hmethM'
  obtain ⟨c2, r2, m2, q1, q2, q3, q4, kP, hkP, hkPi⟩ := Cond.selects_spec hsel
  cases hcls.symm.trans q1
  cases (State.methodFound?_of_named hnamed hy).symm.trans q2
  cases hnamed.symm.trans q3
  have hselP : selectMethod e.platform s.vm cellB.cls mk = .method mk := by rw [Launch.admits_selectMethod X.admits]; exact q4
  obtain ⟨vm₁, X₁, hstep₁⟩ := X.invokevirtual hexec hown hlink hnamed hmethM hstM hkP hkPi hy (a := b) (cell := cellB) hcell
    (fun z h => by rw [h] at hobj; cases hobj) hselP hmethM habM hkP hkPi (g := g) hg (argsL := argsL) (rest := rest) (hlen _ hsigM) hstack hdg
  obtain ⟨v, B, X', hpost, hsteps⟩ := hK m meth c ⟨T.setVm vm₁, locs, cells, slots⟩ { g with stack := rest } (.invokevirtual index) mk (Value.ref b :: argsL).toArray X₁ hg hsize hdg hW (X₁.named hnamed) (hpre vm₁ X₁.warmed)
  exact ⟨v, vm₁, B, X₁.warmed, X', hpost, fun target h => hstep₁ _ fun acts => by rw [doInvoke_state]; exact hsteps.trans h⟩
abbrev vx_CVW (R : Room) (s : State) (args : Array Value) (own C : String) (index : Nat) (y : MethodName) (bytes : ByteArray) (maxL : Nat) (ret : Option FieldType) (hh : List (Nat × Nat × Nat × Nat)) (ws : List Cond) (rm : Room) (mc ms n : Nat) : Prop :=
  (rm.cells = mc ∧ rm.slots = ms ∧ rm.frames + 1 ≤ R.frames ∧ 8 + (maxL + 11) + rm.locals ≤ R.locals ∧ (∀ w ∈ ws, ∀ (a' : Array Value) (U : State), s.WarmedH U.vm → w.before a' U = true) ∧ Cond.codeWith y bytes maxL ret hh ∈ ws) ∧
  (Cond.codeWith y bytes maxL ret hh).before args s = true ∧ (Cond.initialized y.cls).before args s = true ∧ (y.cls ≠ "java/lang/invoke/MethodHandle" ∧ y.cls ≠ "java/lang/invoke/VarHandle") ∧
  (∀ sig, parseMethodDescriptor y.desc = some sig → n = sig.parameters.length) ∧ (Cond.methodLink own index y).before args s = true ∧ (Cond.instanceMethod y).before args s = true ∧ (Cond.selects C y y).before args s = true
theorem vx_cwVW {own C : String} {index maxL mc ms : Nat} {y : MethodName} {bytes : ByteArray} {ret : Option FieldType} {hh : List (Nat × Nat × Nat × Nat)} {Ts ws ws' : List Cond} {rm : Room} (n : Nat) (ht : ∀ w ∈ Ts, w.before args s = true) (hT : GoodIn Ts (wsV own index C y ws)) (hw : ws = Cond.codeWith y bytes maxL ret hh :: ws') (hrc : rm.cells = mc) (hrs : rm.slots = ms)
    (hd : y.cls = C ∧ y.cls ≠ "java/lang/invoke/MethodHandle" ∧ y.cls ≠ "java/lang/invoke/VarHandle" ∧ (parseMethodDescriptor y.desc).map (fun d => d.parameters.length) = some n) (hR : rm.frames + 1 ≤ R.frames ∧ 8 + (maxL + 11) + rm.locals ≤ R.locals) :
    vx_CVW R s args own C index y bytes maxL ret hh ws rm mc ms n := by
  obtain ⟨hC, hd⟩ := hd
  subst hC
  have ok : ∀ w ∈ wsV own index y.cls y ws, w.before args s = true := fun w h => ht w (hT w h).1
  have hG : GoodIn Ts ws := fun w h => hT w (by unfold wsV; exact List.mem_append_right _ h)
  have hc : Cond.codeWith y bytes maxL ret hh ∈ ws := by rw [hw]; exact List.mem_cons_self
  refine ⟨⟨hrc, hrs, hR.1, hR.2, pay_in ht hG, hc⟩, ht _ (hG _ hc).1, ok _ (by simp [wsV]), ⟨hd.1, hd.2.1⟩, fun sig h => ?_, ok _ (by simp [wsV]), ok _ (by simp [wsV]), ok _ (by simp [wsV])⟩
  have h2 := hd.2.2
  rw [h] at h2
  exact (Option.some.inj h2).symm
theorem vx_runVW {y : MethodName} {bytes cc : ByteArray} {maxL nL mc ms n index : Nat} {ret : Option FieldType} {hh : List (Nat × Nat × Nat × Nat)} {ws : List Cond} {rm : Room} {Pc : Array Value → State → Prop} {Qc : Array Value → State → Outcome → State → Prop} {free : Addr → Prop} {Ts : List Cond} {own C : String} {b : Addr} {As rest : List Value} {g : JFrame}
    (S : CallFix p m c cc nL s args Ts own) (hM : Met l y ws rm Pc Qc mc ms free) (cw : vx_CVW R s args own C index y bytes maxL ret hh ws rm mc ms n) (hp : PreV s H C b Pc As)
    (hg : g.method = m) (hn : As.length = n) (hsize : g.locals.size = nL) (hstack : g.stack = As.reverse ++ .ref b :: rest) (hW : 2 * g.monitorRoom + (rest.map fun v => v.category).sum ≤ 8) (hdg : decode cc g.pc = .ok (.invokevirtual index, 3)) (hf : cells + mc ≤ R.cells ∧ slots + ms ≤ R.slots) :
    va_Run p l e R s m args below meth c H locs cells slots mc ms g rest (Qc (Value.ref b :: As).toArray) free := by
  obtain ⟨⟨hrc, hrs, hfr, hlo, hws, hcw⟩, hcode, hini, hy, hlen, hl, hin, hse⟩ := cw
  have hK : Back l R p e below s args y 3 8 (PreOf R mc ms Pc) (PostOf Qc mc ms free) := va_backW (hh := hh) (bytes := bytes) (maxL := maxL) (ret := ret) hM hp.1 hrc hrs hfr hlo hws hcw (fun a' U hW => word_at hW (Or.inl (by first | rfl | simp [Cond.onTables, Cond.keeps, Cond.steady])) hini)
  obtain ⟨hx, hb, hml, ho, -⟩ := S
  obtain ⟨-, ⟨cellB, hcB, hoB, hclB⟩, hPc⟩ := hp
  intro T hT X
  obtain ⟨v, vm₁, ⟨U', l2, c2, s2⟩, hW₁, X', ⟨g', mk, t, L, e1, e2, hq, h1, hL, h2, h3⟩, st⟩ := vx_callVW X hx (C := C) (hh := hh) (bytes := bytes) (maxL := maxL) (ret := ret) ho hl hin hse hcode hy hK (by rw [hT]; exact hcB) hoB hclB hg (hsize.trans hml.symm) (argsL := As) (rest := rest) (fun sig h => hn.trans (hlen sig h)) hstack hW (by rw [hb]; exact hdg)
    (fun vm₁ hW₁ => ⟨hf.1, hf.2, hPc (T.setVm vm₁) hT hW₁⟩)
  dsimp only [Pt.U, Pt.locs, Pt.cells, Pt.slots] at X' e1 e2 h1 h2 h3 st
  subst h1; subst h2; subst h3
  exact ⟨v, (T.setVm vm₁).calling g' mk (Value.ref b :: As).toArray, t, U', L, hT, X', hL, e1, e2, hq, st⟩
section
variable {y : MethodName} {bytes cc : ByteArray} {maxL nL mc ms n index : Nat} {ret : Option FieldType} {ws : List Cond} {rm : Room} {Pc : Array Value → State → Prop} {Qc : Array Value → State → Outcome → State → Prop} {XC : String → State → State → Prop} {free : Addr → Prop} {Ts : List Cond} {own C : String} {b : Addr} {As rest : List Value} {g : JFrame}
theorem vx_runVX {hh : List (Nat × Nat × Nat × Nat)} (S : CallFix p m c cc nL s args Ts own) (hM : vx_Met l y ws rm Pc Qc XC mc ms free) (cw : vx_CVW R s args own C index y bytes maxL ret hh ws rm mc ms n) (hp : PreV s H C b Pc As)
    (hg : g.method = m) (hn : As.length = n) (hsize : g.locals.size = nL) (hstack : g.stack = As.reverse ++ .ref b :: rest) (hW : 2 * g.monitorRoom + (rest.map fun v => v.category).sum ≤ 8) (hdg : decode cc g.pc = .ok (.invokevirtual index, 3)) (hf : cells + mc ≤ R.cells ∧ slots + ms ≤ R.slots) :
    vx_Run p l e R s m args below meth c H locs cells slots mc ms g rest (Qc (Value.ref b :: As).toArray) XC free := by
  obtain ⟨⟨hrc, hrs, hfr, hlo, hws, hcw⟩, hcode, hini, hy, hlen, hl, hin, hse⟩ := cw
  have hK : vx_Back l R p e below s args y 3 8 (PreOf R mc ms Pc) (PostOf Qc mc ms free) (vx_Post XC mc ms free) := vx_backW (hh := hh) (bytes := bytes) (maxL := maxL) (ret := ret) hM hp.1 hrc hrs hfr hlo hws hcw (fun a' U hW => word_at hW (Or.inl (by first | rfl | simp [Cond.onTables, Cond.keeps, Cond.steady])) hini)
  obtain ⟨hx, hb, hml, ho, -⟩ := S
  obtain ⟨-, ⟨cellB, hcB, hoB, hclB⟩, hPc⟩ := hp
  intro T hT X
  rcases vx_callVX X hx (C := C) (hh := hh) (bytes := bytes) (maxL := maxL) (ret := ret) ho hl hin hse hcode hy hK (by rw [hT]; exact hcB) hoB hclB hg (hsize.trans hml.symm) (argsL := As) (rest := rest) (fun sig h => hn.trans (hlen sig h)) hstack hW (by rw [hb]; exact hdg)
    (fun vm₁ hW₁ => ⟨hf.1, hf.2, hPc (T.setVm vm₁) hT hW₁⟩) with ⟨v, vm₁, ⟨U', l2, c2, s2⟩, hW₁, X', ⟨g', mk, t, L, e1, e2, hq, h1, hL, h2, h3⟩, st⟩ | ⟨q, vm₁, ⟨U', l2, c2, s2⟩, hW₁, X', ⟨g', mk, t, L, E, ce, e1, e2, hq, hce, hcv, hcl, h1, hL, h2, h3⟩, st⟩
  · dsimp only [Pt.U, Pt.locs, Pt.cells, Pt.slots] at X' e1 e2 h1 h2 h3 st
    subst h1; subst h2; subst h3
    exact Or.inl ⟨v, (T.setVm vm₁).calling g' mk (Value.ref b :: As).toArray, t, U', L, hT, X', hL, e1, e2, hq, st⟩
  · dsimp only [Pt.U, Pt.locs, Pt.cells, Pt.slots] at X' e1 e2 h1 h2 h3 st hcl
    subst h1; subst h2; subst h3
    exact Or.inr ⟨q, (T.setVm vm₁).calling g' mk (Value.ref b :: As).toArray, t, U', L, E, ce, hT, X', hL, e1, e2, hq, hce, hcv, vx_cls hW₁ hcl, st⟩
theorem vx_runSX {hh : List (Nat × Nat × Nat × Nat)} (S : CallFix p m c cc nL s args Ts own) (hM : vx_Met l y ws rm Pc Qc XC mc ms free) (cw : vx_CSW R s args own index y bytes maxL ret hh ws rm mc ms n) (hp : PreS s H Pc As)
    (hg : g.method = m) (hn : As.length = n) (hsize : g.locals.size = nL) (hstack : g.stack = As.reverse ++ rest) (hW : 2 * g.monitorRoom + (rest.map fun v => v.category).sum ≤ 8) (hdg : decode cc g.pc = .ok (.invokestatic index, 3)) (hf : cells + mc ≤ R.cells ∧ slots + ms ≤ R.slots) :
    vx_Run p l e R s m args below meth c H locs cells slots mc ms g rest (Qc As.toArray) XC free := by
  obtain ⟨⟨hrc, hrs, hfr, hlo, hws, hcw⟩, hcode, hini, hy, hlen, hl, hstt⟩ := cw
  have hK : vx_Back l R p e below s args y 3 8 (PreOf R mc ms Pc) (PostOf Qc mc ms free) (vx_Post XC mc ms free) := vx_backW (hh := hh) (bytes := bytes) (maxL := maxL) (ret := ret) hM hp.1 hrc hrs hfr hlo hws hcw (fun a' U hW => word_at hW (Or.inl (by first | rfl | simp [Cond.onTables, Cond.keeps, Cond.steady])) hini)
  obtain ⟨hx, hb, hml, ho, -⟩ := S
  intro T hT X
  rcases vx_callSX X hx (hh := hh) (bytes := bytes) (maxL := maxL) (ret := ret) ho hl hstt hini hcode hy hK hg (hsize.trans hml.symm) (argsL := As) (rest := rest) (fun sig h => hn.trans (hlen sig h)) hstack hW (by rw [hb]; exact hdg)
    (fun vm₁ hW₁ => ⟨hf.1, hf.2, hp.2 (T.setVm vm₁) hT hW₁⟩) with ⟨v, vm₁, ⟨U', l2, c2, s2⟩, hW₁, X', ⟨g', mk, t, L, e1, e2, hq, h1, hL, h2, h3⟩, st⟩ | ⟨q, vm₁, ⟨U', l2, c2, s2⟩, hW₁, X', ⟨g', mk, t, L, E, ce, e1, e2, hq, hce, hcv, hcl, h1, hL, h2, h3⟩, st⟩
  · dsimp only [Pt.U, Pt.locs, Pt.cells, Pt.slots] at X' e1 e2 h1 h2 h3 st
    subst h1; subst h2; subst h3
    exact Or.inl ⟨v, (T.setVm vm₁).calling g' mk As.toArray, t, U', L, hT, X', hL, e1, e2, hq, st⟩
  · dsimp only [Pt.U, Pt.locs, Pt.cells, Pt.slots] at X' e1 e2 h1 h2 h3 st hcl
    subst h1; subst h2; subst h3
    exact Or.inr ⟨q, (T.setVm vm₁).calling g' mk As.toArray, t, U', L, E, ce, hT, X', hL, e1, e2, hq, hce, hcv, vx_cls hW₁ hcl, st⟩
end
end VXH
theorem vx_ofWH {l : Launch} {y : MethodName} {ws ws' : List Cond} {rm : Room} {Pc : Array Value → State → Prop} {Qc : Array Value → State → Outcome → State → Prop} {XC : String → State → State → Prop} {mc ms : Nat} {free : Addr → Prop} {cc : ByteArray} {maxL : Nat} {ret : Option FieldType} {hh : List (Nat × Nat × Nat × Nat)}
    (hy : plainName y.cls = true) (hw : ws = Cond.codeWith y cc maxL ret hh :: ws')
    (body : ∀ p e s m args below meth c s₁, BodyLoose p l y (headSpec ws rm) cc maxL ret e s m args below meth c s₁ → c.maxLocals = maxL → Pc args s →
      W p l e (headSpec ws rm).room s m args below meth c s.heap [] 0 0 (vx_MQ below Qc XC args s mc ms free) (entryFrame m args maxL)) : vx_Met l y ws rm Pc Qc XC mc ms free := by
  refine MetFree.of_bodyS (code := cc) (maxLocals := maxL) (ret := ret) hy ?_ ?_
  · intro args s m h hn
    obtain ⟨m9, meth, c, hn9, h1, h2, h3, h4, -, h5, h6, -⟩ := Cond.codeWith_spec (atoms_spec (ws := ws) h _ (by rw [hw]; exact List.mem_cons_self))
    cases hn.symm.trans hn9
    exact ⟨meth, c, h1, h2, h3, h4, h5, h6⟩
  · intro p e s m args below meth c s₁ B hml hP _
    have hh0 : s₁.heap = s.heap := by rw [B.state]; rfl
    obtain ⟨t, a1, o, b1, b2, b3⟩ := body p e s m args below meth c s₁ B hml hP s₁ hh0 (Stand.of_body B)
    exact ⟨t, o, a1, b1, b2, b3⟩
/-! ===== END ===== -/
end
section
def RX0 : String := "TurnBus$Answers"
def TX0 : u_T := fun k => match k with
  | 0 => ("TurnBus$Answers", "count", "I", false)
  | _ => ("TurnBus$Answers", "readyFrom", "[I", true)
def tyX0 : Nat → FieldType := fun k => match k with
  | 0 => .int
  | _ => .array .int
abbrev wsX00 : List Cond := u_ws RX0 TX0 2
theorem nmX0 : ∀ a, a < 2 → ∀ b, b < 2 → a ≠ b → (TX0 a).2.1 ≠ (TX0 b).2.1 := by decide +kernel
theorem tyX0_ok : ∀ k, k < 2 → parseFieldDescriptor (TX0 k).2.2.1 = some (tyX0 k) := by decide +kernel
abbrev cX0_init : ByteArray := prog_2_method_1_code
def yX0_init : MethodName := ⟨RX0, "<init>", "()V"⟩
abbrev cX0_copyFrom : ByteArray := prog_2_method_2_code
def yX0_copyFrom : MethodName := ⟨RX0, "copyFrom", "(LTurnBus$Answers;)V"⟩
abbrev cX0_add : ByteArray := prog_2_method_3_code
def yX0_add : MethodName := ⟨RX0, "add", "(I)V"⟩
abbrev cX0_firstReady : ByteArray := prog_2_method_4_code
def yX0_firstReady : MethodName := ⟨RX0, "firstReady", "(I)I"⟩
abbrev cX0_remove : ByteArray := prog_2_method_5_code
def yX0_remove : MethodName := ⟨RX0, "remove", "(I)V"⟩
def RX1 : String := "TurnBus$Bursts"
def TX1 : u_T := fun k => match k with
  | 0 => ("TurnBus$Bursts", "count", "I", false)
  | 1 => ("TurnBus$Bursts", "slave", "[I", true)
  | 2 => ("TurnBus$Bursts", "words", "[I", true)
  | _ => ("TurnBus$Bursts", "asks", "[Z", true)
def tyX1 : Nat → FieldType := fun k => match k with
  | 0 => .int
  | 1 => .array .int
  | 2 => .array .int
  | _ => .array .boolean
abbrev wsX10 : List Cond := u_ws RX1 TX1 4
theorem nmX1 : ∀ a, a < 4 → ∀ b, b < 4 → a ≠ b → (TX1 a).2.1 ≠ (TX1 b).2.1 := by decide +kernel
theorem tyX1_ok : ∀ k, k < 4 → parseFieldDescriptor (TX1 k).2.2.1 = some (tyX1 k) := by decide +kernel
abbrev cX1_init : ByteArray := prog_3_method_1_code
def yX1_init : MethodName := ⟨RX1, "<init>", "()V"⟩
abbrev cX1_copyFrom : ByteArray := prog_3_method_2_code
def yX1_copyFrom : MethodName := ⟨RX1, "copyFrom", "(LTurnBus$Bursts;)V"⟩
abbrev cX1_isFull : ByteArray := prog_3_method_3_code
def yX1_isFull : MethodName := ⟨RX1, "isFull", "()Z"⟩
abbrev cX1_add : ByteArray := prog_3_method_4_code
def yX1_add : MethodName := ⟨RX1, "add", "(IIZ)V"⟩
abbrev cX1_allWords : ByteArray := prog_3_method_5_code
def yX1_allWords : MethodName := ⟨RX1, "allWords", "()I"⟩
abbrev cX1_removeFirst : ByteArray := prog_3_method_6_code
def yX1_removeFirst : MethodName := ⟨RX1, "removeFirst", "()V"⟩
def RX2 : String := "TurnBus$Bus"
def TX2 : u_T := fun k => match k with
  | 0 => ("TurnBus$Bus", "masters", "I", false)
  | 1 => ("TurnBus$Bus", "slots", "I", false)
  | 2 => ("TurnBus$Bus", "ticks", "I", false)
  | 3 => ("TurnBus$Bus", "idle", "I", false)
  | 4 => ("TurnBus$Bus", "credit", "I", false)
  | 5 => ("TurnBus$Bus", "lastTurn", "I", false)
  | 6 => ("TurnBus$Bus", "ownerOf", "[I", true)
  | 7 => ("TurnBus$Bus", "latencyOf", "[I", true)
  | _ => ("TurnBus$Bus", "rows", "[LTurnBus$Master;", true)
def tyX2 : Nat → FieldType := fun k => match k with
  | 0 => .int
  | 1 => .int
  | 2 => .int
  | 3 => .int
  | 4 => .int
  | 5 => .int
  | 6 => .array .int
  | 7 => .array .int
  | _ => .array (.object "TurnBus$Master")
abbrev wsX20 : List Cond := u_ws RX2 TX2 9
theorem nmX2 : ∀ a, a < 9 → ∀ b, b < 9 → a ≠ b → (TX2 a).2.1 ≠ (TX2 b).2.1 := by decide +kernel
theorem tyX2_ok : ∀ k, k < 9 → parseFieldDescriptor (TX2 k).2.2.1 = some (tyX2 k) := by decide +kernel
abbrev cX2_init : ByteArray := prog_4_method_1_code
def yX2_init : MethodName := ⟨RX2, "<init>", "()V"⟩
abbrev cX2_makeNew : ByteArray := prog_4_method_2_code
def yX2_makeNew : MethodName := ⟨RX2, "makeNew", "(II)V"⟩
abbrev cX2_copyFrom : ByteArray := prog_4_method_3_code
def yX2_copyFrom : MethodName := ⟨RX2, "copyFrom", "(LTurnBus$Bus;)V"⟩
abbrev cX2_hasMaster : ByteArray := prog_4_method_4_code
def yX2_hasMaster : MethodName := ⟨RX2, "hasMaster", "(I)Z"⟩
abbrev cX2_hasSlot : ByteArray := prog_4_method_5_code
def yX2_hasSlot : MethodName := ⟨RX2, "hasSlot", "(I)Z"⟩
abbrev cX2_join : ByteArray := prog_4_method_6_code
def yX2_join : MethodName := ⟨RX2, "join", "()I"⟩
abbrev cX2_slotsOf : ByteArray := prog_4_method_7_code
def yX2_slotsOf : MethodName := ⟨RX2, "slotsOf", "(I)I"⟩
abbrev cX2_owedTo : ByteArray := prog_4_method_8_code
def yX2_owedTo : MethodName := ⟨RX2, "owedTo", "(I)I"⟩
abbrev cX2_allDebts : ByteArray := prog_4_method_9_code
def yX2_allDebts : MethodName := ⟨RX2, "allDebts", "()I"⟩
abbrev cX2_waitingBursts : ByteArray := prog_4_method_10_code
def yX2_waitingBursts : MethodName := ⟨RX2, "waitingBursts", "()I"⟩
abbrev cX2_openAnswers : ByteArray := prog_4_method_11_code
def yX2_openAnswers : MethodName := ⟨RX2, "openAnswers", "()I"⟩
abbrev cX2_bankruptBits : ByteArray := prog_4_method_12_code
def yX2_bankruptBits : MethodName := ⟨RX2, "bankruptBits", "()I"⟩
abbrev cX2_mastersAhead : ByteArray := prog_4_method_13_code
def yX2_mastersAhead : MethodName := ⟨RX2, "mastersAhead", "(I)I"⟩
abbrev cX2_step : ByteArray := prog_4_method_14_code
def yX2_step : MethodName := ⟨RX2, "step", "()V"⟩
abbrev cX2_stepTimes : ByteArray := prog_4_method_15_code
def yX2_stepTimes : MethodName := ⟨RX2, "stepTimes", "(I)V"⟩
abbrev cX2_stepsTillDone : ByteArray := prog_4_method_16_code
def yX2_stepsTillDone : MethodName := ⟨RX2, "stepsTillDone", "(III)I"⟩
abbrev cX2_areDone : ByteArray := prog_4_method_17_code
def yX2_areDone : MethodName := ⟨RX2, "areDone", "(II)Z"⟩
abbrev cX2_ownerNow : ByteArray := prog_4_method_18_code
def yX2_ownerNow : MethodName := ⟨RX2, "ownerNow", "()I"⟩
abbrev cX2_takeTurn : ByteArray := prog_4_method_19_code
def yX2_takeTurn : MethodName := ⟨RX2, "takeTurn", "(I)I"⟩
abbrev cX2_creditorOf : ByteArray := prog_4_method_20_code
def yX2_creditorOf : MethodName := ⟨RX2, "creditorOf", "(LTurnBus$Master;Z)I"⟩
abbrev cX2_firstBorrower : ByteArray := prog_4_method_21_code
def yX2_firstBorrower : MethodName := ⟨RX2, "firstBorrower", "()I"⟩
abbrev cX2_work : ByteArray := prog_4_method_22_code
def yX2_work : MethodName := ⟨RX2, "work", "(LTurnBus$Master;)V"⟩
abbrev cX2_sendWord : ByteArray := prog_4_method_23_code
def yX2_sendWord : MethodName := ⟨RX2, "sendWord", "(LTurnBus$Master;)V"⟩
abbrev cX2_latencyNow : ByteArray := prog_4_method_24_code
def yX2_latencyNow : MethodName := ⟨RX2, "latencyNow", "(I)I"⟩
abbrev cX2_cannotPay : ByteArray := prog_4_method_25_code
def yX2_cannotPay : MethodName := ⟨RX2, "cannotPay", "(I)Z"⟩
abbrev cX2_ruin : ByteArray := prog_4_method_26_code
def yX2_ruin : MethodName := ⟨RX2, "ruin", "(I)V"⟩
def RX3 : String := "TurnBus$BusText"
def TX3 : u_T := fun k => match k with
  | 0 => ("TurnBus$BusText", "length", "I", false)
  | 1 => ("TurnBus$BusText", "signs", "[C", true)
  | 2 => ("TurnBus$BusText", "place", "I", false)
  | _ => ("TurnBus$BusText", "broken", "Z", false)
def tyX3 : Nat → FieldType := fun k => match k with
  | 0 => .int
  | 1 => .array .char
  | 2 => .int
  | _ => .boolean
abbrev wsX30 : List Cond := u_ws RX3 TX3 4
theorem nmX3 : ∀ a, a < 4 → ∀ b, b < 4 → a ≠ b → (TX3 a).2.1 ≠ (TX3 b).2.1 := by decide +kernel
theorem tyX3_ok : ∀ k, k < 4 → parseFieldDescriptor (TX3 k).2.2.1 = some (tyX3 k) := by decide +kernel
abbrev cX3_init : ByteArray := prog_5_method_1_code
def yX3_init : MethodName := ⟨RX3, "<init>", "()V"⟩
abbrev cX3_isFull : ByteArray := prog_5_method_2_code
def yX3_isFull : MethodName := ⟨RX3, "isFull", "()Z"⟩
abbrev cX3_add : ByteArray := prog_5_method_3_code
def yX3_add : MethodName := ⟨RX3, "add", "(C)I"⟩
abbrev cX3_empty : ByteArray := prog_5_method_4_code
def yX3_empty : MethodName := ⟨RX3, "empty", "()I"⟩
abbrev cX3_readInto : ByteArray := prog_5_method_5_code
def yX3_readInto : MethodName := ⟨RX3, "readInto", "(LTurnBus$Bus;)I"⟩
abbrev cX3_readPart : ByteArray := prog_5_method_6_code
def yX3_readPart : MethodName := ⟨RX3, "readPart", "(LTurnBus$Bus;)V"⟩
abbrev cX3_readOwner : ByteArray := prog_5_method_7_code
def yX3_readOwner : MethodName := ⟨RX3, "readOwner", "(LTurnBus$Bus;)V"⟩
abbrev cX3_readLatency : ByteArray := prog_5_method_8_code
def yX3_readLatency : MethodName := ⟨RX3, "readLatency", "(LTurnBus$Bus;)V"⟩
abbrev cX3_readCredit : ByteArray := prog_5_method_9_code
def yX3_readCredit : MethodName := ⟨RX3, "readCredit", "(LTurnBus$Bus;)V"⟩
abbrev cX3_readBurst : ByteArray := prog_5_method_10_code
def yX3_readBurst : MethodName := ⟨RX3, "readBurst", "(LTurnBus$Bus;)V"⟩
abbrev cX3_signAt : ByteArray := prog_5_method_11_code
def yX3_signAt : MethodName := ⟨RX3, "signAt", "(I)C"⟩
abbrev cX3_refuseLast : ByteArray := prog_5_method_12_code
def yX3_refuseLast : MethodName := ⟨RX3, "refuseLast", "()V"⟩
abbrev cX3_readOneOf : ByteArray := prog_5_method_13_code
def yX3_readOneOf : MethodName := ⟨RX3, "readOneOf", "(CC)C"⟩
abbrev cX3_readDigit : ByteArray := prog_5_method_14_code
def yX3_readDigit : MethodName := ⟨RX3, "readDigit", "(II)I"⟩
abbrev cX3_readTwoDigits : ByteArray := prog_5_method_15_code
def yX3_readTwoDigits : MethodName := ⟨RX3, "readTwoDigits", "(II)I"⟩
def RX4 : String := "TurnBus$History"
def TX4 : u_T := fun k => match k with
  | 0 => ("TurnBus$History", "count", "I", false)
  | 1 => ("TurnBus$History", "next", "I", false)
  | _ => ("TurnBus$History", "ring", "[LTurnBus$Bus;", true)
def tyX4 : Nat → FieldType := fun k => match k with
  | 0 => .int
  | 1 => .int
  | _ => .array (.object "TurnBus$Bus")
abbrev wsX40 : List Cond := u_ws RX4 TX4 3
theorem nmX4 : ∀ a, a < 3 → ∀ b, b < 3 → a ≠ b → (TX4 a).2.1 ≠ (TX4 b).2.1 := by decide +kernel
theorem tyX4_ok : ∀ k, k < 3 → parseFieldDescriptor (TX4 k).2.2.1 = some (tyX4 k) := by decide +kernel
abbrev cX4_init : ByteArray := prog_6_method_1_code
def yX4_init : MethodName := ⟨RX4, "<init>", "()V"⟩
abbrev cX4_empty : ByteArray := prog_6_method_2_code
def yX4_empty : MethodName := ⟨RX4, "empty", "()V"⟩
abbrev cX4_remember : ByteArray := prog_6_method_3_code
def yX4_remember : MethodName := ⟨RX4, "remember", "(LTurnBus$Bus;)V"⟩
abbrev cX4_takeBack : ByteArray := prog_6_method_4_code
def yX4_takeBack : MethodName := ⟨RX4, "takeBack", "(LTurnBus$Bus;)V"⟩
def RX5 : String := "TurnBus$Master"
def TX5 : u_T := fun k => match k with
  | 0 => ("TurnBus$Master", "debtTo", "[I", true)
  | 1 => ("TurnBus$Master", "bursts", "LTurnBus$Bursts;", true)
  | 2 => ("TurnBus$Master", "answers", "LTurnBus$Answers;", true)
  | 3 => ("TurnBus$Master", "bankrupt", "Z", false)
  | 4 => ("TurnBus$Master", "busy", "Z", false)
  | 5 => ("TurnBus$Master", "waited", "I", false)
  | 6 => ("TurnBus$Master", "longest", "I", false)
  | 7 => ("TurnBus$Master", "ownTurns", "I", false)
  | 8 => ("TurnBus$Master", "paidTurns", "I", false)
  | 9 => ("TurnBus$Master", "creditTurns", "I", false)
  | _ => ("TurnBus$Master", "answersTaken", "I", false)
def tyX5 : Nat → FieldType := fun k => match k with
  | 0 => .array .int
  | 1 => .object "TurnBus$Bursts"
  | 2 => .object "TurnBus$Answers"
  | 3 => .boolean
  | 4 => .boolean
  | 5 => .int
  | 6 => .int
  | 7 => .int
  | 8 => .int
  | 9 => .int
  | _ => .int
abbrev wsX50 : List Cond := u_ws RX5 TX5 11
theorem nmX5 : ∀ a, a < 11 → ∀ b, b < 11 → a ≠ b → (TX5 a).2.1 ≠ (TX5 b).2.1 := by decide +kernel
theorem tyX5_ok : ∀ k, k < 11 → parseFieldDescriptor (TX5 k).2.2.1 = some (tyX5 k) := by decide +kernel
abbrev cX5_init : ByteArray := prog_7_method_1_code
def yX5_init : MethodName := ⟨RX5, "<init>", "()V"⟩
abbrev cX5_makeNew : ByteArray := prog_7_method_2_code
def yX5_makeNew : MethodName := ⟨RX5, "makeNew", "()V"⟩
abbrev cX5_copyFrom : ByteArray := prog_7_method_3_code
def yX5_copyFrom : MethodName := ⟨RX5, "copyFrom", "(LTurnBus$Master;)V"⟩
abbrev cX5_debts : ByteArray := prog_7_method_4_code
def yX5_debts : MethodName := ⟨RX5, "debts", "()I"⟩
abbrev cX5_forgetDebts : ByteArray := prog_7_method_5_code
def yX5_forgetDebts : MethodName := ⟨RX5, "forgetDebts", "()V"⟩
abbrev cX5_takesBursts : ByteArray := prog_7_method_6_code
def yX5_takesBursts : MethodName := ⟨RX5, "takesBursts", "()Z"⟩
abbrev cX5_isDone : ByteArray := prog_7_method_7_code
def yX5_isDone : MethodName := ⟨RX5, "isDone", "()Z"⟩
abbrev cX5_lookForWork : ByteArray := prog_7_method_8_code
def yX5_lookForWork : MethodName := ⟨RX5, "lookForWork", "(I)V"⟩
abbrev cX5_countWait : ByteArray := prog_7_method_9_code
def yX5_countWait : MethodName := ⟨RX5, "countWait", "(Z)V"⟩
abbrev cX5_goBankrupt : ByteArray := prog_7_method_10_code
def yX5_goBankrupt : MethodName := ⟨RX5, "goBankrupt", "()V"⟩
def RX6 : String := "TurnBus"
def TX6 : u_T := fun k => match k with
  | 0 => ("TurnBus", "text", "LTurnBus$BusText;", true)
  | 1 => ("TurnBus", "present", "LTurnBus$Bus;", true)
  | 2 => ("TurnBus", "history", "LTurnBus$History;", true)
  | 3 => ("TurnBus", "saved", "[LTurnBus$Bus;", true)
  | 4 => ("TurnBus", "isSaved", "[Z", true)
  | 5 => ("TurnBus", "trial", "LTurnBus$Bus;", true)
  | _ => ("TurnBus", "probe", "LTurnBus$Bus;", true)
def tyX6 : Nat → FieldType := fun k => match k with
  | 0 => .object "TurnBus$BusText"
  | 1 => .object "TurnBus$Bus"
  | 2 => .object "TurnBus$History"
  | 3 => .array (.object "TurnBus$Bus")
  | 4 => .array .boolean
  | 5 => .object "TurnBus$Bus"
  | _ => .object "TurnBus$Bus"
abbrev wsX60 : List Cond := u_ws RX6 TX6 7
theorem nmX6 : ∀ a, a < 7 → ∀ b, b < 7 → a ≠ b → (TX6 a).2.1 ≠ (TX6 b).2.1 := by decide +kernel
theorem tyX6_ok : ∀ k, k < 7 → parseFieldDescriptor (TX6 k).2.2.1 = some (tyX6 k) := by decide +kernel
abbrev cX6_init : ByteArray := prog_1_method_1_code
def yX6_init : MethodName := ⟨RX6, "<init>", "()V"⟩
abbrev cX6_append : ByteArray := prog_1_method_2_code
def yX6_append : MethodName := ⟨RX6, "append", "(I)I"⟩
abbrev cX6_clearText : ByteArray := prog_1_method_3_code
def yX6_clearText : MethodName := ⟨RX6, "clearText", "()I"⟩
abbrev cX6_errorPosition : ByteArray := prog_1_method_4_code
def yX6_errorPosition : MethodName := ⟨RX6, "errorPosition", "()I"⟩
abbrev cX6_load : ByteArray := prog_1_method_5_code
def yX6_load : MethodName := ⟨RX6, "load", "()I"⟩
abbrev cX6_about : ByteArray := prog_1_method_6_code
def yX6_about : MethodName := ⟨RX6, "about", "(I)I"⟩
abbrev cX6_master : ByteArray := prog_1_method_7_code
def yX6_master : MethodName := ⟨RX6, "master", "(II)I"⟩
abbrev cX6_owner : ByteArray := prog_1_method_8_code
def yX6_owner : MethodName := ⟨RX6, "owner", "(I)I"⟩
abbrev cX6_owes : ByteArray := prog_1_method_9_code
def yX6_owes : MethodName := ⟨RX6, "owes", "(II)I"⟩
abbrev cX6_burst : ByteArray := prog_1_method_10_code
def yX6_burst : MethodName := ⟨RX6, "burst", "(III)I"⟩
abbrev cX6_order : ByteArray := prog_1_method_11_code
def yX6_order : MethodName := ⟨RX6, "order", "(I)I"⟩
abbrev cX6_addMaster : ByteArray := prog_1_method_12_code
def yX6_addMaster : MethodName := ⟨RX6, "addMaster", "()I"⟩
abbrev cX6_give : ByteArray := prog_1_method_13_code
def yX6_give : MethodName := ⟨RX6, "give", "(II)I"⟩
abbrev cX6_setLatency : ByteArray := prog_1_method_14_code
def yX6_setLatency : MethodName := ⟨RX6, "setLatency", "(II)I"⟩
abbrev cX6_setCredit : ByteArray := prog_1_method_15_code
def yX6_setCredit : MethodName := ⟨RX6, "setCredit", "(I)I"⟩
abbrev cX6_send : ByteArray := prog_1_method_16_code
def yX6_send : MethodName := ⟨RX6, "send", "(IIIZ)I"⟩
abbrev cX6_pass : ByteArray := prog_1_method_17_code
def yX6_pass : MethodName := ⟨RX6, "pass", "(I)I"⟩
abbrev cX6_forgive : ByteArray := prog_1_method_18_code
def yX6_forgive : MethodName := ⟨RX6, "forgive", "(II)I"⟩
abbrev cX6_undo : ByteArray := prog_1_method_19_code
def yX6_undo : MethodName := ⟨RX6, "undo", "()I"⟩
abbrev cX6_turnIn : ByteArray := prog_1_method_20_code
def yX6_turnIn : MethodName := ⟨RX6, "turnIn", "(I)I"⟩
abbrev cX6_doneIn : ByteArray := prog_1_method_21_code
def yX6_doneIn : MethodName := ⟨RX6, "doneIn", "(I)I"⟩
abbrev cX6_bestCredit : ByteArray := prog_1_method_22_code
def yX6_bestCredit : MethodName := ⟨RX6, "bestCredit", "()I"⟩
abbrev cX6_bestSlot : ByteArray := prog_1_method_23_code
def yX6_bestSlot : MethodName := ⟨RX6, "bestSlot", "(I)I"⟩
abbrev cX6_runScript : ByteArray := prog_1_method_24_code
def yX6_runScript : MethodName := ⟨RX6, "runScript", "(IJ)I"⟩
abbrev cX6_simulate : ByteArray := prog_1_method_25_code
def yX6_simulate : MethodName := ⟨RX6, "simulate", "(JI)I"⟩
abbrev cX6_save : ByteArray := prog_1_method_26_code
def yX6_save : MethodName := ⟨RX6, "save", "(I)I"⟩
abbrev cX6_restore : ByteArray := prog_1_method_27_code
def yX6_restore : MethodName := ⟨RX6, "restore", "(I)I"⟩
abbrev cX6_needMaster : ByteArray := prog_1_method_28_code
def yX6_needMaster : MethodName := ⟨RX6, "needMaster", "(I)V"⟩
abbrev cX6_needSlot : ByteArray := prog_1_method_29_code
def yX6_needSlot : MethodName := ⟨RX6, "needSlot", "(I)V"⟩
abbrev cX6_needSlave : ByteArray := prog_1_method_30_code
def yX6_needSlave : MethodName := ⟨RX6, "needSlave", "(I)V"⟩
abbrev cX6_needSaveSlot : ByteArray := prog_1_method_31_code
def yX6_needSaveSlot : MethodName := ⟨RX6, "needSaveSlot", "(I)V"⟩
abbrev cX6_withoutGroups : ByteArray := prog_1_method_32_code
def yX6_withoutGroups : MethodName := ⟨RX6, "withoutGroups", "(JI)J"⟩
abbrev cX6_succeeds : ByteArray := prog_1_method_33_code
def yX6_succeeds : MethodName := ⟨RX6, "succeeds", "(I)Z"⟩
abbrev cX6_runsSend : ByteArray := prog_1_method_34_code
def yX6_runsSend : MethodName := ⟨RX6, "runsSend", "(IIIZ)Z"⟩
abbrev cX6_runsGive : ByteArray := prog_1_method_35_code
def yX6_runsGive : MethodName := ⟨RX6, "runsGive", "(II)Z"⟩
abbrev cX6_runsForgive : ByteArray := prog_1_method_36_code
def yX6_runsForgive : MethodName := ⟨RX6, "runsForgive", "(II)Z"⟩
abbrev cX6_drawBurst : ByteArray := prog_1_method_37_code
def yX6_drawBurst : MethodName := ⟨RX6, "drawBurst", "(I)V"⟩
def RX7 : String := "TurnBusModel"
def TX7 : u_T := fun k => match k with
  | 0 => ("TurnBusModel", "q", "[I", true)
  | 1 => ("TurnBusModel", "spare", "[I", true)
  | 2 => ("TurnBusModel", "tried", "[I", true)
  | 3 => ("TurnBusModel", "remembered", "[I", true)
  | 4 => ("TurnBusModel", "states", "I", false)
  | 5 => ("TurnBusModel", "slots", "[I", true)
  | 6 => ("TurnBusModel", "isSaved", "[Z", true)
  | 7 => ("TurnBusModel", "text", "[I", true)
  | 8 => ("TurnBusModel", "length", "I", false)
  | 9 => ("TurnBusModel", "thrown", "I", false)
  | 10 => ("TurnBusModel", "place", "I", false)
  | 11 => ("TurnBusModel", "digit", "I", false)
  | 12 => ("TurnBusModel", "masters", "I", false)
  | 13 => ("TurnBusModel", "many", "I", false)
  | _ => ("TurnBusModel", "bursts", "[I", true)
def tyX7 : Nat → FieldType := fun k => match k with
  | 0 => .array .int
  | 1 => .array .int
  | 2 => .array .int
  | 3 => .array .int
  | 4 => .int
  | 5 => .array .int
  | 6 => .array .boolean
  | 7 => .array .int
  | 8 => .int
  | 9 => .int
  | 10 => .int
  | 11 => .int
  | 12 => .int
  | 13 => .int
  | _ => .array .int
abbrev wsX70 : List Cond := u_ws RX7 TX7 15
theorem nmX7 : ∀ a, a < 15 → ∀ b, b < 15 → a ≠ b → (TX7 a).2.1 ≠ (TX7 b).2.1 := by decide +kernel
theorem tyX7_ok : ∀ k, k < 15 → parseFieldDescriptor (TX7 k).2.2.1 = some (tyX7 k) := by decide +kernel
abbrev cX7_init : ByteArray := prog_9_method_1_code
def yX7_init : MethodName := ⟨RX7, "<init>", "()V"⟩
abbrev cX7_thrown : ByteArray := prog_9_method_2_code
def yX7_thrown : MethodName := ⟨RX7, "thrown", "()I"⟩
abbrev cX7_in : ByteArray := prog_9_method_3_code
def yX7_in : MethodName := ⟨RX7, "in", "(JJJ)Z"⟩
abbrev cX7_fails : ByteArray := prog_9_method_4_code
def yX7_fails : MethodName := ⟨RX7, "fails", "(I)I"⟩
abbrev cX7_anew : ByteArray := prog_9_method_5_code
def yX7_anew : MethodName := ⟨RX7, "anew", "(II)V"⟩
abbrev cX7_copy : ByteArray := prog_9_method_6_code
def yX7_copy : MethodName := ⟨RX7, "copy", "([I[I)V"⟩
abbrev cX7_remember : ByteArray := prog_9_method_7_code
def yX7_remember : MethodName := ⟨RX7, "remember", "()V"⟩
abbrev cX7_isMaster : ByteArray := prog_9_method_8_code
def yX7_isMaster : MethodName := ⟨RX7, "isMaster", "(I)Z"⟩
abbrev cX7_isSlot : ByteArray := prog_9_method_9_code
def yX7_isSlot : MethodName := ⟨RX7, "isSlot", "(I)Z"⟩
abbrev cX7_isSlave : ByteArray := prog_9_method_10_code
def yX7_isSlave : MethodName := ⟨RX7, "isSlave", "(I)Z"⟩
abbrev cX7_isBankrupt : ByteArray := prog_9_method_11_code
def yX7_isBankrupt : MethodName := ⟨RX7, "isBankrupt", "(I)Z"⟩
abbrev cX7_at : ByteArray := prog_9_method_12_code
def yX7_at : MethodName := ⟨RX7, "at", "(II)I"⟩
abbrev cX7_of : ByteArray := prog_9_method_13_code
def yX7_of : MethodName := ⟨RX7, "of", "(II)I"⟩
abbrev cX7_owed : ByteArray := prog_9_method_14_code
def yX7_owed : MethodName := ⟨RX7, "owed", "(II)I"⟩
abbrev cX7_debts : ByteArray := prog_9_method_15_code
def yX7_debts : MethodName := ⟨RX7, "debts", "(I)I"⟩
abbrev cX7_slotsOf : ByteArray := prog_9_method_16_code
def yX7_slotsOf : MethodName := ⟨RX7, "slotsOf", "(I)I"⟩
abbrev cX7_ready : ByteArray := prog_9_method_17_code
def yX7_ready : MethodName := ⟨RX7, "ready", "(I)I"⟩
abbrev cX7_hasToDo : ByteArray := prog_9_method_18_code
def yX7_hasToDo : MethodName := ⟨RX7, "hasToDo", "(I)Z"⟩
abbrev cX7_creditorOf : ByteArray := prog_9_method_19_code
def yX7_creditorOf : MethodName := ⟨RX7, "creditorOf", "(II)I"⟩
abbrev cX7_longestWaiting : ByteArray := prog_9_method_20_code
def yX7_longestWaiting : MethodName := ⟨RX7, "longestWaiting", "(I)I"⟩
abbrev cX7_turn : ByteArray := prog_9_method_21_code
def yX7_turn : MethodName := ⟨RX7, "turn", "(I)I"⟩
abbrev cX7_uses : ByteArray := prog_9_method_22_code
def yX7_uses : MethodName := ⟨RX7, "uses", "(I)V"⟩
abbrev cX7_breaks : ByteArray := prog_9_method_23_code
def yX7_breaks : MethodName := ⟨RX7, "breaks", "(I)V"⟩
abbrev cX7_tick : ByteArray := prog_9_method_24_code
def yX7_tick : MethodName := ⟨RX7, "tick", "()I"⟩
abbrev cX7_passes : ByteArray := prog_9_method_25_code
def yX7_passes : MethodName := ⟨RX7, "passes", "(I)I"⟩
abbrev cX7_canSend : ByteArray := prog_9_method_26_code
def yX7_canSend : MethodName := ⟨RX7, "canSend", "(I)Z"⟩
abbrev cX7_sends : ByteArray := prog_9_method_27_code
def yX7_sends : MethodName := ⟨RX7, "sends", "(IIII)I"⟩
abbrev cX7_append : ByteArray := prog_9_method_28_code
def yX7_append : MethodName := ⟨RX7, "append", "(I)I"⟩
abbrev cX7_clearText : ByteArray := prog_9_method_29_code
def yX7_clearText : MethodName := ⟨RX7, "clearText", "()I"⟩
abbrev cX7_sign : ByteArray := prog_9_method_30_code
def yX7_sign : MethodName := ⟨RX7, "sign", "(I)Z"⟩
abbrev cX7_digitTo : ByteArray := prog_9_method_31_code
def yX7_digitTo : MethodName := ⟨RX7, "digitTo", "(II)Z"⟩
abbrev cX7_twoTo : ByteArray := prog_9_method_32_code
def yX7_twoTo : MethodName := ⟨RX7, "twoTo", "(II)Z"⟩
abbrev cX7_burstPart : ByteArray := prog_9_method_33_code
def yX7_burstPart : MethodName := ⟨RX7, "burstPart", "(Z)Z"⟩
abbrev cX7_part : ByteArray := prog_9_method_34_code
def yX7_part : MethodName := ⟨RX7, "part", "(Z)Z"⟩
abbrev cX7_reads : ByteArray := prog_9_method_35_code
def yX7_reads : MethodName := ⟨RX7, "reads", "(Z)Z"⟩
abbrev cX7_errorPosition : ByteArray := prog_9_method_36_code
def yX7_errorPosition : MethodName := ⟨RX7, "errorPosition", "()I"⟩
abbrev cX7_allOf : ByteArray := prog_9_method_37_code
def yX7_allOf : MethodName := ⟨RX7, "allOf", "(I)I"⟩
abbrev cX7_load : ByteArray := prog_9_method_38_code
def yX7_load : MethodName := ⟨RX7, "load", "()I"⟩
abbrev cX7_about : ByteArray := prog_9_method_39_code
def yX7_about : MethodName := ⟨RX7, "about", "(I)I"⟩
abbrev cX7_master : ByteArray := prog_9_method_40_code
def yX7_master : MethodName := ⟨RX7, "master", "(II)I"⟩
abbrev cX7_owner : ByteArray := prog_9_method_41_code
def yX7_owner : MethodName := ⟨RX7, "owner", "(I)I"⟩
abbrev cX7_owes : ByteArray := prog_9_method_42_code
def yX7_owes : MethodName := ⟨RX7, "owes", "(II)I"⟩
abbrev cX7_burst : ByteArray := prog_9_method_43_code
def yX7_burst : MethodName := ⟨RX7, "burst", "(III)I"⟩
abbrev cX7_order : ByteArray := prog_9_method_44_code
def yX7_order : MethodName := ⟨RX7, "order", "(I)I"⟩
abbrev cX7_addMaster : ByteArray := prog_9_method_45_code
def yX7_addMaster : MethodName := ⟨RX7, "addMaster", "()I"⟩
abbrev cX7_puts : ByteArray := prog_9_method_46_code
def yX7_puts : MethodName := ⟨RX7, "puts", "(II)I"⟩
abbrev cX7_give : ByteArray := prog_9_method_47_code
def yX7_give : MethodName := ⟨RX7, "give", "(II)I"⟩
abbrev cX7_setLatency : ByteArray := prog_9_method_48_code
def yX7_setLatency : MethodName := ⟨RX7, "setLatency", "(II)I"⟩
abbrev cX7_setCredit : ByteArray := prog_9_method_49_code
def yX7_setCredit : MethodName := ⟨RX7, "setCredit", "(I)I"⟩
abbrev cX7_send : ByteArray := prog_9_method_50_code
def yX7_send : MethodName := ⟨RX7, "send", "(IIIZ)I"⟩
abbrev cX7_pass : ByteArray := prog_9_method_51_code
def yX7_pass : MethodName := ⟨RX7, "pass", "(I)I"⟩
abbrev cX7_forgive : ByteArray := prog_9_method_52_code
def yX7_forgive : MethodName := ⟨RX7, "forgive", "(II)I"⟩
abbrev cX7_undo : ByteArray := prog_9_method_53_code
def yX7_undo : MethodName := ⟨RX7, "undo", "()I"⟩
abbrev cX7_turnIn : ByteArray := prog_9_method_54_code
def yX7_turnIn : MethodName := ⟨RX7, "turnIn", "(I)I"⟩
abbrev cX7_isDone : ByteArray := prog_9_method_55_code
def yX7_isDone : MethodName := ⟨RX7, "isDone", "(I)Z"⟩
abbrev cX7_doneWith : ByteArray := prog_9_method_56_code
def yX7_doneWith : MethodName := ⟨RX7, "doneWith", "(I)I"⟩
abbrev cX7_doneIn : ByteArray := prog_9_method_57_code
def yX7_doneIn : MethodName := ⟨RX7, "doneIn", "(I)I"⟩
abbrev cX7_bestCredit : ByteArray := prog_9_method_58_code
def yX7_bestCredit : MethodName := ⟨RX7, "bestCredit", "()I"⟩
abbrev cX7_bestSlot : ByteArray := prog_9_method_59_code
def yX7_bestSlot : MethodName := ⟨RX7, "bestSlot", "(I)I"⟩
abbrev cX7_acts : ByteArray := prog_9_method_60_code
def yX7_acts : MethodName := ⟨RX7, "acts", "(IIIII)Z"⟩
abbrev cX7_succeeds : ByteArray := prog_9_method_61_code
def yX7_succeeds : MethodName := ⟨RX7, "succeeds", "(I)Z"⟩
abbrev cX7_runScript : ByteArray := prog_9_method_62_code
def yX7_runScript : MethodName := ⟨RX7, "runScript", "(IJ)I"⟩
abbrev cX7_simulate : ByteArray := prog_9_method_63_code
def yX7_simulate : MethodName := ⟨RX7, "simulate", "(JI)I"⟩
abbrev cX7_save : ByteArray := prog_9_method_64_code
def yX7_save : MethodName := ⟨RX7, "save", "(I)I"⟩
abbrev cX7_restore : ByteArray := prog_9_method_65_code
def yX7_restore : MethodName := ⟨RX7, "restore", "(I)I"⟩
def RJ6 : String := "java/lang/Integer"
def TJ6 : u_T := fun k => match k with
  | _ => ("", "", "", false)
def tyJ6 : Nat → FieldType := fun k => match k with
  | _ => .int
abbrev wsJ60 : List Cond := u_ws RJ6 TJ6 0
theorem nmJ6 : ∀ a, a < 0 → ∀ b, b < 0 → a ≠ b → (TJ6 a).2.1 ≠ (TJ6 b).2.1 := by decide +kernel
theorem tyJ6_ok : ∀ k, k < 0 → parseFieldDescriptor (TJ6 k).2.2.1 = some (tyJ6 k) := by decide +kernel
abbrev cJ6_bitCount_0f7a4 : ByteArray := prog_14_method_49_code
def yJ6_bitCount_0f7a4 : MethodName := ⟨RJ6, "bitCount", "(I)I"⟩
def RJ9 : String := "java/lang/Math"
def TJ9 : u_T := fun k => match k with
  | _ => ("", "", "", false)
def tyJ9 : Nat → FieldType := fun k => match k with
  | _ => .int
abbrev wsJ90 : List Cond := u_ws RJ9 TJ9 0
theorem nmJ9 : ∀ a, a < 0 → ∀ b, b < 0 → a ≠ b → (TJ9 a).2.1 ≠ (TJ9 b).2.1 := by decide +kernel
theorem tyJ9_ok : ∀ k, k < 0 → parseFieldDescriptor (TJ9 k).2.2.1 = some (tyJ9 k) := by decide +kernel
abbrev cJ9_floorMod_7cf53 : ByteArray := prog_15_method_50_code
def yJ9_floorMod_7cf53 : MethodName := ⟨RJ9, "floorMod", "(II)I"⟩
abbrev cJ9_max_7cf53 : ByteArray := prog_15_method_65_code
def yJ9_max_7cf53 : MethodName := ⟨RJ9, "max", "(II)I"⟩
abbrev cJ9_min_7cf53 : ByteArray := prog_15_method_69_code
def yJ9_min_7cf53 : MethodName := ⟨RJ9, "min", "(II)I"⟩
def RJ0 : String := "java/lang/String"
def TJ0 : u_T := fun k => match k with
  | _ => ("", "", "", false)
def tyJ0 : Nat → FieldType := fun k => match k with
  | _ => .int
abbrev wsJ00 : List Cond := u_ws RJ0 TJ0 0
theorem nmJ0 : ∀ a, a < 0 → ∀ b, b < 0 → a ≠ b → (TJ0 a).2.1 ≠ (TJ0 b).2.1 := by decide +kernel
theorem tyJ0_ok : ∀ k, k < 0 → parseFieldDescriptor (TJ0 k).2.2.1 = some (tyJ0 k) := by decide +kernel
def RL : String := "TurnBusLaw"
abbrev cL_append : ByteArray := method_3_code
def yL_append : MethodName := ⟨RL, "append", "(LTurnBus;I[J)I"⟩
abbrev cL_load : ByteArray := method_4_code
def yL_load : MethodName := ⟨RL, "load", "(LTurnBus;[J)I"⟩
abbrev cL_about : ByteArray := method_5_code
def yL_about : MethodName := ⟨RL, "about", "(LTurnBus;I[J)I"⟩
abbrev cL_master : ByteArray := method_6_code
def yL_master : MethodName := ⟨RL, "master", "(LTurnBus;II[J)I"⟩
abbrev cL_owner : ByteArray := method_7_code
def yL_owner : MethodName := ⟨RL, "owner", "(LTurnBus;I[J)I"⟩
abbrev cL_owes : ByteArray := method_8_code
def yL_owes : MethodName := ⟨RL, "owes", "(LTurnBus;II[J)I"⟩
abbrev cL_burst : ByteArray := method_9_code
def yL_burst : MethodName := ⟨RL, "burst", "(LTurnBus;III[J)I"⟩
abbrev cL_order : ByteArray := method_10_code
def yL_order : MethodName := ⟨RL, "order", "(LTurnBus;I[J)I"⟩
abbrev cL_addMaster : ByteArray := method_11_code
def yL_addMaster : MethodName := ⟨RL, "addMaster", "(LTurnBus;[J)I"⟩
abbrev cL_give : ByteArray := method_12_code
def yL_give : MethodName := ⟨RL, "give", "(LTurnBus;II[J)I"⟩
abbrev cL_setLatency : ByteArray := method_13_code
def yL_setLatency : MethodName := ⟨RL, "setLatency", "(LTurnBus;II[J)I"⟩
abbrev cL_setCredit : ByteArray := method_14_code
def yL_setCredit : MethodName := ⟨RL, "setCredit", "(LTurnBus;I[J)I"⟩
abbrev cL_send : ByteArray := method_15_code
def yL_send : MethodName := ⟨RL, "send", "(LTurnBus;IIIZ[J)I"⟩
abbrev cL_pass : ByteArray := method_16_code
def yL_pass : MethodName := ⟨RL, "pass", "(LTurnBus;I[J)I"⟩
abbrev cL_forgive : ByteArray := method_17_code
def yL_forgive : MethodName := ⟨RL, "forgive", "(LTurnBus;II[J)I"⟩
abbrev cL_undo : ByteArray := method_18_code
def yL_undo : MethodName := ⟨RL, "undo", "(LTurnBus;[J)I"⟩
abbrev cL_turnIn : ByteArray := method_19_code
def yL_turnIn : MethodName := ⟨RL, "turnIn", "(LTurnBus;I[J)I"⟩
abbrev cL_doneIn : ByteArray := method_20_code
def yL_doneIn : MethodName := ⟨RL, "doneIn", "(LTurnBus;I[J)I"⟩
abbrev cL_bestSlot : ByteArray := method_21_code
def yL_bestSlot : MethodName := ⟨RL, "bestSlot", "(LTurnBus;I[J)I"⟩
abbrev cL_runScript : ByteArray := method_22_code
def yL_runScript : MethodName := ⟨RL, "runScript", "(LTurnBus;IJ[J)I"⟩
abbrev cL_simulate : ByteArray := method_23_code
def yL_simulate : MethodName := ⟨RL, "simulate", "(LTurnBus;JI[J)I"⟩
abbrev cL_save : ByteArray := method_24_code
def yL_save : MethodName := ⟨RL, "save", "(LTurnBus;I[J)I"⟩
abbrev cL_restore : ByteArray := method_25_code
def yL_restore : MethodName := ⟨RL, "restore", "(LTurnBus;I[J)I"⟩
abbrev cL_law : ByteArray := code
def yL_law : MethodName := ⟨RL, "law", "([I)Z"⟩
abbrev vwCl : List vw_C := [(RX0, TX0, 2), (RX1, TX1, 4), (RX2, TX2, 9), (RX3, TX3, 4), (RX4, TX4, 3), (RX5, TX5, 11), (RX6, TX6, 7), (RX7, TX7, 15)]
def GW : List Cond := lw_tbl.filter goodWord
theorem gwm {w : Cond} (i : Nat) (h : lw_tbl[i]? = some w) (g : goodWord w = true) : w ∈ GW := List.mem_filter.mpr ⟨List.mem_of_getElem? h, g⟩
theorem gws {ws : List Cond} (ps : List Nat) (hp : ws = ps.filterMap (fun i => lw_tbl[i]?)) (h : ws.all goodWord = true) : ∀ w ∈ ws, w ∈ GW := by
  intro w hw
  have h1 := List.all_eq_true.mp h w hw
  rw [hp] at hw
  obtain ⟨i, -, hi⟩ := List.mem_filterMap.mp hw
  exact gwm i hi h1
end
section
theorem dJ6_bitCount_0f7a4_0 : decode cJ6_bitCount_0f7a4 0 = .ok (.iload_n 0, 1) := by decide +kernel
theorem dJ6_bitCount_0f7a4_1 : decode cJ6_bitCount_0f7a4 1 = .ok (.iload_n 0, 1) := by decide +kernel
theorem dJ6_bitCount_0f7a4_2 : decode cJ6_bitCount_0f7a4 2 = .ok (.iconst 1, 1) := by decide +kernel
theorem dJ6_bitCount_0f7a4_3 : decode cJ6_bitCount_0f7a4 3 = .ok (.iushr, 1) := by decide +kernel
theorem dJ6_bitCount_0f7a4_4 : decode cJ6_bitCount_0f7a4 4 = .ok (.ldc_w 265, 3) := by decide +kernel
theorem dJ6_bitCount_0f7a4_7 : decode cJ6_bitCount_0f7a4 7 = .ok (.iand, 1) := by decide +kernel
theorem dJ6_bitCount_0f7a4_8 : decode cJ6_bitCount_0f7a4 8 = .ok (.isub, 1) := by decide +kernel
theorem dJ6_bitCount_0f7a4_9 : decode cJ6_bitCount_0f7a4 9 = .ok (.istore_n 0, 1) := by decide +kernel
theorem dJ6_bitCount_0f7a4_10 : decode cJ6_bitCount_0f7a4 10 = .ok (.iload_n 0, 1) := by decide +kernel
theorem dJ6_bitCount_0f7a4_11 : decode cJ6_bitCount_0f7a4 11 = .ok (.ldc_w 266, 3) := by decide +kernel
theorem dJ6_bitCount_0f7a4_14 : decode cJ6_bitCount_0f7a4 14 = .ok (.iand, 1) := by decide +kernel
theorem dJ6_bitCount_0f7a4_15 : decode cJ6_bitCount_0f7a4 15 = .ok (.iload_n 0, 1) := by decide +kernel
theorem dJ6_bitCount_0f7a4_16 : decode cJ6_bitCount_0f7a4 16 = .ok (.iconst 2, 1) := by decide +kernel
theorem dJ6_bitCount_0f7a4_17 : decode cJ6_bitCount_0f7a4 17 = .ok (.iushr, 1) := by decide +kernel
theorem dJ6_bitCount_0f7a4_18 : decode cJ6_bitCount_0f7a4 18 = .ok (.ldc_w 266, 3) := by decide +kernel
theorem dJ6_bitCount_0f7a4_21 : decode cJ6_bitCount_0f7a4 21 = .ok (.iand, 1) := by decide +kernel
theorem dJ6_bitCount_0f7a4_22 : decode cJ6_bitCount_0f7a4 22 = .ok (.iadd, 1) := by decide +kernel
theorem dJ6_bitCount_0f7a4_23 : decode cJ6_bitCount_0f7a4 23 = .ok (.istore_n 0, 1) := by decide +kernel
theorem dJ6_bitCount_0f7a4_24 : decode cJ6_bitCount_0f7a4 24 = .ok (.iload_n 0, 1) := by decide +kernel
theorem dJ6_bitCount_0f7a4_25 : decode cJ6_bitCount_0f7a4 25 = .ok (.iload_n 0, 1) := by decide +kernel
theorem dJ6_bitCount_0f7a4_26 : decode cJ6_bitCount_0f7a4 26 = .ok (.iconst 4, 1) := by decide +kernel
theorem dJ6_bitCount_0f7a4_27 : decode cJ6_bitCount_0f7a4 27 = .ok (.iushr, 1) := by decide +kernel
theorem dJ6_bitCount_0f7a4_28 : decode cJ6_bitCount_0f7a4 28 = .ok (.iadd, 1) := by decide +kernel
theorem dJ6_bitCount_0f7a4_29 : decode cJ6_bitCount_0f7a4 29 = .ok (.ldc_w 267, 3) := by decide +kernel
theorem dJ6_bitCount_0f7a4_32 : decode cJ6_bitCount_0f7a4 32 = .ok (.iand, 1) := by decide +kernel
theorem dJ6_bitCount_0f7a4_33 : decode cJ6_bitCount_0f7a4 33 = .ok (.istore_n 0, 1) := by decide +kernel
theorem dJ6_bitCount_0f7a4_34 : decode cJ6_bitCount_0f7a4 34 = .ok (.iload_n 0, 1) := by decide +kernel
theorem dJ6_bitCount_0f7a4_35 : decode cJ6_bitCount_0f7a4 35 = .ok (.iload_n 0, 1) := by decide +kernel
theorem dJ6_bitCount_0f7a4_36 : decode cJ6_bitCount_0f7a4 36 = .ok (.bipush 8, 2) := by decide +kernel
theorem dJ6_bitCount_0f7a4_38 : decode cJ6_bitCount_0f7a4 38 = .ok (.iushr, 1) := by decide +kernel
theorem dJ6_bitCount_0f7a4_39 : decode cJ6_bitCount_0f7a4 39 = .ok (.iadd, 1) := by decide +kernel
theorem dJ6_bitCount_0f7a4_40 : decode cJ6_bitCount_0f7a4 40 = .ok (.istore_n 0, 1) := by decide +kernel
theorem dJ6_bitCount_0f7a4_41 : decode cJ6_bitCount_0f7a4 41 = .ok (.iload_n 0, 1) := by decide +kernel
theorem dJ6_bitCount_0f7a4_42 : decode cJ6_bitCount_0f7a4 42 = .ok (.iload_n 0, 1) := by decide +kernel
theorem dJ6_bitCount_0f7a4_43 : decode cJ6_bitCount_0f7a4 43 = .ok (.bipush 16, 2) := by decide +kernel
theorem dJ6_bitCount_0f7a4_45 : decode cJ6_bitCount_0f7a4 45 = .ok (.iushr, 1) := by decide +kernel
theorem dJ6_bitCount_0f7a4_46 : decode cJ6_bitCount_0f7a4 46 = .ok (.iadd, 1) := by decide +kernel
theorem dJ6_bitCount_0f7a4_47 : decode cJ6_bitCount_0f7a4 47 = .ok (.istore_n 0, 1) := by decide +kernel
theorem dJ6_bitCount_0f7a4_48 : decode cJ6_bitCount_0f7a4 48 = .ok (.iload_n 0, 1) := by decide +kernel
theorem dJ6_bitCount_0f7a4_49 : decode cJ6_bitCount_0f7a4 49 = .ok (.bipush 63, 2) := by decide +kernel
theorem dJ6_bitCount_0f7a4_51 : decode cJ6_bitCount_0f7a4 51 = .ok (.iand, 1) := by decide +kernel
theorem dJ6_bitCount_0f7a4_52 : decode cJ6_bitCount_0f7a4 52 = .ok (.ireturn, 1) := by decide +kernel
theorem dJ9_floorMod_7cf53_0 : decode cJ9_floorMod_7cf53 0 = .ok (.iload_n 0, 1) := by decide +kernel
theorem dJ9_floorMod_7cf53_1 : decode cJ9_floorMod_7cf53 1 = .ok (.iload_n 1, 1) := by decide +kernel
theorem dJ9_floorMod_7cf53_2 : decode cJ9_floorMod_7cf53 2 = .ok (.irem, 1) := by decide +kernel
theorem dJ9_floorMod_7cf53_3 : decode cJ9_floorMod_7cf53 3 = .ok (.istore_n 2, 1) := by decide +kernel
theorem dJ9_floorMod_7cf53_4 : decode cJ9_floorMod_7cf53 4 = .ok (.iload_n 0, 1) := by decide +kernel
theorem dJ9_floorMod_7cf53_5 : decode cJ9_floorMod_7cf53 5 = .ok (.iload_n 1, 1) := by decide +kernel
theorem dJ9_floorMod_7cf53_6 : decode cJ9_floorMod_7cf53 6 = .ok (.ixor, 1) := by decide +kernel
theorem dJ9_floorMod_7cf53_7 : decode cJ9_floorMod_7cf53 7 = .ok (.ifCond .ge 11, 3) := by decide +kernel
theorem dJ9_floorMod_7cf53_10 : decode cJ9_floorMod_7cf53 10 = .ok (.iload_n 2, 1) := by decide +kernel
theorem dJ9_floorMod_7cf53_11 : decode cJ9_floorMod_7cf53 11 = .ok (.ifCond .eq 7, 3) := by decide +kernel
theorem dJ9_floorMod_7cf53_14 : decode cJ9_floorMod_7cf53 14 = .ok (.iload_n 2, 1) := by decide +kernel
theorem dJ9_floorMod_7cf53_15 : decode cJ9_floorMod_7cf53 15 = .ok (.iload_n 1, 1) := by decide +kernel
theorem dJ9_floorMod_7cf53_16 : decode cJ9_floorMod_7cf53 16 = .ok (.iadd, 1) := by decide +kernel
theorem dJ9_floorMod_7cf53_17 : decode cJ9_floorMod_7cf53 17 = .ok (.ireturn, 1) := by decide +kernel
theorem dJ9_floorMod_7cf53_18 : decode cJ9_floorMod_7cf53 18 = .ok (.iload_n 2, 1) := by decide +kernel
theorem dJ9_floorMod_7cf53_19 : decode cJ9_floorMod_7cf53 19 = .ok (.ireturn, 1) := by decide +kernel
theorem dJ9_max_7cf53_0 : decode cJ9_max_7cf53 0 = .ok (.iload_n 0, 1) := by decide +kernel
theorem dJ9_max_7cf53_1 : decode cJ9_max_7cf53 1 = .ok (.iload_n 1, 1) := by decide +kernel
theorem dJ9_max_7cf53_2 : decode cJ9_max_7cf53 2 = .ok (.if_icmp .lt 7, 3) := by decide +kernel
theorem dJ9_max_7cf53_5 : decode cJ9_max_7cf53 5 = .ok (.iload_n 0, 1) := by decide +kernel
theorem dJ9_max_7cf53_6 : decode cJ9_max_7cf53 6 = .ok (.goto 4, 3) := by decide +kernel
theorem dJ9_max_7cf53_9 : decode cJ9_max_7cf53 9 = .ok (.iload_n 1, 1) := by decide +kernel
theorem dJ9_max_7cf53_10 : decode cJ9_max_7cf53 10 = .ok (.ireturn, 1) := by decide +kernel
theorem dJ9_min_7cf53_0 : decode cJ9_min_7cf53 0 = .ok (.iload_n 0, 1) := by decide +kernel
theorem dJ9_min_7cf53_1 : decode cJ9_min_7cf53 1 = .ok (.iload_n 1, 1) := by decide +kernel
theorem dJ9_min_7cf53_2 : decode cJ9_min_7cf53 2 = .ok (.if_icmp .gt 7, 3) := by decide +kernel
theorem dJ9_min_7cf53_5 : decode cJ9_min_7cf53 5 = .ok (.iload_n 0, 1) := by decide +kernel
theorem dJ9_min_7cf53_6 : decode cJ9_min_7cf53 6 = .ok (.goto 4, 3) := by decide +kernel
theorem dJ9_min_7cf53_9 : decode cJ9_min_7cf53 9 = .ok (.iload_n 1, 1) := by decide +kernel
theorem dJ9_min_7cf53_10 : decode cJ9_min_7cf53 10 = .ok (.ireturn, 1) := by decide +kernel
theorem dX0_init_0 : decode cX0_init 0 = .ok (.aload_n 0, 1) := by decide +kernel
theorem dX0_init_1 : decode cX0_init 1 = .ok (.invokespecial 3, 3) := by decide +kernel
theorem dX0_init_4 : decode cX0_init 4 = .ok (.aload_n 0, 1) := by decide +kernel
theorem dX0_init_5 : decode cX0_init 5 = .ok (.bipush 10, 2) := by decide +kernel
theorem dX0_init_7 : decode cX0_init 7 = .ok (.newarray .int, 2) := by decide +kernel
theorem dX0_init_9 : decode cX0_init 9 = .ok (.putfield 9, 3) := by decide +kernel
theorem dX0_init_12 : decode cX0_init 12 = .ok (.return_, 1) := by decide +kernel
theorem dX0_copyFrom_0 : decode cX0_copyFrom 0 = .ok (.aload_n 0, 1) := by decide +kernel
theorem dX0_copyFrom_1 : decode cX0_copyFrom 1 = .ok (.aload_n 1, 1) := by decide +kernel
theorem dX0_copyFrom_2 : decode cX0_copyFrom 2 = .ok (.getfield 15, 3) := by decide +kernel
theorem dX0_copyFrom_5 : decode cX0_copyFrom 5 = .ok (.putfield 15, 3) := by decide +kernel
theorem dX0_copyFrom_8 : decode cX0_copyFrom 8 = .ok (.iconst 0, 1) := by decide +kernel
theorem dX0_copyFrom_9 : decode cX0_copyFrom 9 = .ok (.istore_n 2, 1) := by decide +kernel
theorem dX0_copyFrom_10 : decode cX0_copyFrom 10 = .ok (.iload_n 2, 1) := by decide +kernel
theorem dX0_copyFrom_11 : decode cX0_copyFrom 11 = .ok (.aload_n 0, 1) := by decide +kernel
theorem dX0_copyFrom_12 : decode cX0_copyFrom 12 = .ok (.getfield 15, 3) := by decide +kernel
theorem dX0_copyFrom_15 : decode cX0_copyFrom 15 = .ok (.if_icmp .ge 27, 3) := by decide +kernel
theorem dX0_copyFrom_18 : decode cX0_copyFrom 18 = .ok (.iload_n 2, 1) := by decide +kernel
theorem dX0_copyFrom_19 : decode cX0_copyFrom 19 = .ok (.bipush 10, 2) := by decide +kernel
theorem dX0_copyFrom_21 : decode cX0_copyFrom 21 = .ok (.if_icmp .ge 21, 3) := by decide +kernel
theorem dX0_copyFrom_24 : decode cX0_copyFrom 24 = .ok (.aload_n 0, 1) := by decide +kernel
theorem dX0_copyFrom_25 : decode cX0_copyFrom 25 = .ok (.getfield 9, 3) := by decide +kernel
theorem dX0_copyFrom_28 : decode cX0_copyFrom 28 = .ok (.iload_n 2, 1) := by decide +kernel
theorem dX0_copyFrom_29 : decode cX0_copyFrom 29 = .ok (.aload_n 1, 1) := by decide +kernel
theorem dX0_copyFrom_30 : decode cX0_copyFrom 30 = .ok (.getfield 9, 3) := by decide +kernel
theorem dX0_copyFrom_33 : decode cX0_copyFrom 33 = .ok (.iload_n 2, 1) := by decide +kernel
theorem dX0_copyFrom_34 : decode cX0_copyFrom 34 = .ok (.iaload, 1) := by decide +kernel
theorem dX0_copyFrom_35 : decode cX0_copyFrom 35 = .ok (.iastore, 1) := by decide +kernel
theorem dX0_copyFrom_36 : decode cX0_copyFrom 36 = .ok (.iinc 2 1, 3) := by decide +kernel
theorem dX0_copyFrom_39 : decode cX0_copyFrom 39 = .ok (.goto (-29), 3) := by decide +kernel
theorem dX0_copyFrom_42 : decode cX0_copyFrom 42 = .ok (.return_, 1) := by decide +kernel
theorem dX0_add_0 : decode cX0_add 0 = .ok (.aload_n 0, 1) := by decide +kernel
theorem dX0_add_1 : decode cX0_add 1 = .ok (.getfield 15, 3) := by decide +kernel
theorem dX0_add_4 : decode cX0_add 4 = .ok (.ifCond .lt 12, 3) := by decide +kernel
theorem dX0_add_7 : decode cX0_add 7 = .ok (.aload_n 0, 1) := by decide +kernel
theorem dX0_add_8 : decode cX0_add 8 = .ok (.getfield 15, 3) := by decide +kernel
theorem dX0_add_11 : decode cX0_add 11 = .ok (.bipush 10, 2) := by decide +kernel
theorem dX0_add_13 : decode cX0_add 13 = .ok (.if_icmp .lt 4, 3) := by decide +kernel
theorem dX0_add_16 : decode cX0_add 16 = .ok (.return_, 1) := by decide +kernel
theorem dX0_add_17 : decode cX0_add 17 = .ok (.aload_n 0, 1) := by decide +kernel
theorem dX0_add_18 : decode cX0_add 18 = .ok (.getfield 9, 3) := by decide +kernel
theorem dX0_add_21 : decode cX0_add 21 = .ok (.aload_n 0, 1) := by decide +kernel
theorem dX0_add_22 : decode cX0_add 22 = .ok (.getfield 15, 3) := by decide +kernel
theorem dX0_add_25 : decode cX0_add 25 = .ok (.iload_n 1, 1) := by decide +kernel
theorem dX0_add_26 : decode cX0_add 26 = .ok (.iastore, 1) := by decide +kernel
theorem dX0_add_27 : decode cX0_add 27 = .ok (.aload_n 0, 1) := by decide +kernel
theorem dX0_add_28 : decode cX0_add 28 = .ok (.dup, 1) := by decide +kernel
theorem dX0_add_29 : decode cX0_add 29 = .ok (.getfield 15, 3) := by decide +kernel
theorem dX0_add_32 : decode cX0_add 32 = .ok (.iconst 1, 1) := by decide +kernel
theorem dX0_add_33 : decode cX0_add 33 = .ok (.iadd, 1) := by decide +kernel
theorem dX0_add_34 : decode cX0_add 34 = .ok (.putfield 15, 3) := by decide +kernel
theorem dX0_add_37 : decode cX0_add 37 = .ok (.return_, 1) := by decide +kernel
theorem dX0_firstReady_0 : decode cX0_firstReady 0 = .ok (.iconst 0, 1) := by decide +kernel
theorem dX0_firstReady_1 : decode cX0_firstReady 1 = .ok (.istore_n 2, 1) := by decide +kernel
theorem dX0_firstReady_2 : decode cX0_firstReady 2 = .ok (.iload_n 2, 1) := by decide +kernel
theorem dX0_firstReady_3 : decode cX0_firstReady 3 = .ok (.aload_n 0, 1) := by decide +kernel
theorem dX0_firstReady_4 : decode cX0_firstReady 4 = .ok (.getfield 15, 3) := by decide +kernel
theorem dX0_firstReady_7 : decode cX0_firstReady 7 = .ok (.if_icmp .ge 27, 3) := by decide +kernel
theorem dX0_firstReady_10 : decode cX0_firstReady 10 = .ok (.iload_n 2, 1) := by decide +kernel
theorem dX0_firstReady_11 : decode cX0_firstReady 11 = .ok (.bipush 10, 2) := by decide +kernel
theorem dX0_firstReady_13 : decode cX0_firstReady 13 = .ok (.if_icmp .ge 21, 3) := by decide +kernel
theorem dX0_firstReady_16 : decode cX0_firstReady 16 = .ok (.aload_n 0, 1) := by decide +kernel
theorem dX0_firstReady_17 : decode cX0_firstReady 17 = .ok (.getfield 9, 3) := by decide +kernel
theorem dX0_firstReady_20 : decode cX0_firstReady 20 = .ok (.iload_n 2, 1) := by decide +kernel
theorem dX0_firstReady_21 : decode cX0_firstReady 21 = .ok (.iaload, 1) := by decide +kernel
theorem dX0_firstReady_22 : decode cX0_firstReady 22 = .ok (.iload_n 1, 1) := by decide +kernel
theorem dX0_firstReady_23 : decode cX0_firstReady 23 = .ok (.if_icmp .gt 5, 3) := by decide +kernel
theorem dX0_firstReady_26 : decode cX0_firstReady 26 = .ok (.iload_n 2, 1) := by decide +kernel
theorem dX0_firstReady_27 : decode cX0_firstReady 27 = .ok (.ireturn, 1) := by decide +kernel
theorem dX0_firstReady_28 : decode cX0_firstReady 28 = .ok (.iinc 2 1, 3) := by decide +kernel
theorem dX0_firstReady_31 : decode cX0_firstReady 31 = .ok (.goto (-29), 3) := by decide +kernel
theorem dX0_firstReady_34 : decode cX0_firstReady 34 = .ok (.bipush (-9), 2) := by decide +kernel
theorem dX0_firstReady_36 : decode cX0_firstReady 36 = .ok (.ireturn, 1) := by decide +kernel
theorem dX0_remove_0 : decode cX0_remove 0 = .ok (.iload_n 1, 1) := by decide +kernel
theorem dX0_remove_1 : decode cX0_remove 1 = .ok (.ifCond .lt 11, 3) := by decide +kernel
theorem dX0_remove_4 : decode cX0_remove 4 = .ok (.iload_n 1, 1) := by decide +kernel
theorem dX0_remove_5 : decode cX0_remove 5 = .ok (.aload_n 0, 1) := by decide +kernel
theorem dX0_remove_6 : decode cX0_remove 6 = .ok (.getfield 15, 3) := by decide +kernel
theorem dX0_remove_9 : decode cX0_remove 9 = .ok (.if_icmp .lt 4, 3) := by decide +kernel
theorem dX0_remove_12 : decode cX0_remove 12 = .ok (.return_, 1) := by decide +kernel
theorem dX0_remove_13 : decode cX0_remove 13 = .ok (.iload_n 1, 1) := by decide +kernel
theorem dX0_remove_14 : decode cX0_remove 14 = .ok (.iconst 1, 1) := by decide +kernel
theorem dX0_remove_15 : decode cX0_remove 15 = .ok (.iadd, 1) := by decide +kernel
theorem dX0_remove_16 : decode cX0_remove 16 = .ok (.istore_n 2, 1) := by decide +kernel
theorem dX0_remove_17 : decode cX0_remove 17 = .ok (.iload_n 2, 1) := by decide +kernel
theorem dX0_remove_18 : decode cX0_remove 18 = .ok (.aload_n 0, 1) := by decide +kernel
theorem dX0_remove_19 : decode cX0_remove 19 = .ok (.getfield 15, 3) := by decide +kernel
theorem dX0_remove_22 : decode cX0_remove 22 = .ok (.if_icmp .ge 29, 3) := by decide +kernel
theorem dX0_remove_25 : decode cX0_remove 25 = .ok (.iload_n 2, 1) := by decide +kernel
theorem dX0_remove_26 : decode cX0_remove 26 = .ok (.bipush 10, 2) := by decide +kernel
theorem dX0_remove_28 : decode cX0_remove 28 = .ok (.if_icmp .ge 23, 3) := by decide +kernel
theorem dX0_remove_31 : decode cX0_remove 31 = .ok (.aload_n 0, 1) := by decide +kernel
theorem dX0_remove_32 : decode cX0_remove 32 = .ok (.getfield 9, 3) := by decide +kernel
theorem dX0_remove_35 : decode cX0_remove 35 = .ok (.iload_n 2, 1) := by decide +kernel
theorem dX0_remove_36 : decode cX0_remove 36 = .ok (.iconst 1, 1) := by decide +kernel
theorem dX0_remove_37 : decode cX0_remove 37 = .ok (.isub, 1) := by decide +kernel
theorem dX0_remove_38 : decode cX0_remove 38 = .ok (.aload_n 0, 1) := by decide +kernel
theorem dX0_remove_39 : decode cX0_remove 39 = .ok (.getfield 9, 3) := by decide +kernel
theorem dX0_remove_42 : decode cX0_remove 42 = .ok (.iload_n 2, 1) := by decide +kernel
theorem dX0_remove_43 : decode cX0_remove 43 = .ok (.iaload, 1) := by decide +kernel
theorem dX0_remove_44 : decode cX0_remove 44 = .ok (.iastore, 1) := by decide +kernel
theorem dX0_remove_45 : decode cX0_remove 45 = .ok (.iinc 2 1, 3) := by decide +kernel
theorem dX0_remove_48 : decode cX0_remove 48 = .ok (.goto (-31), 3) := by decide +kernel
theorem dX0_remove_51 : decode cX0_remove 51 = .ok (.aload_n 0, 1) := by decide +kernel
theorem dX0_remove_52 : decode cX0_remove 52 = .ok (.dup, 1) := by decide +kernel
theorem dX0_remove_53 : decode cX0_remove 53 = .ok (.getfield 15, 3) := by decide +kernel
theorem dX0_remove_56 : decode cX0_remove 56 = .ok (.iconst 1, 1) := by decide +kernel
theorem dX0_remove_57 : decode cX0_remove 57 = .ok (.isub, 1) := by decide +kernel
theorem dX0_remove_58 : decode cX0_remove 58 = .ok (.putfield 15, 3) := by decide +kernel
theorem dX0_remove_61 : decode cX0_remove 61 = .ok (.return_, 1) := by decide +kernel
theorem dX1_init_0 : decode cX1_init 0 = .ok (.aload_n 0, 1) := by decide +kernel
theorem dX1_init_1 : decode cX1_init 1 = .ok (.invokespecial 3, 3) := by decide +kernel
theorem dX1_init_4 : decode cX1_init 4 = .ok (.aload_n 0, 1) := by decide +kernel
theorem dX1_init_5 : decode cX1_init 5 = .ok (.bipush 6, 2) := by decide +kernel
theorem dX1_init_7 : decode cX1_init 7 = .ok (.newarray .int, 2) := by decide +kernel
theorem dX1_init_9 : decode cX1_init 9 = .ok (.putfield 9, 3) := by decide +kernel
theorem dX1_init_12 : decode cX1_init 12 = .ok (.aload_n 0, 1) := by decide +kernel
theorem dX1_init_13 : decode cX1_init 13 = .ok (.bipush 6, 2) := by decide +kernel
theorem dX1_init_15 : decode cX1_init 15 = .ok (.newarray .int, 2) := by decide +kernel
theorem dX1_init_17 : decode cX1_init 17 = .ok (.putfield 15, 3) := by decide +kernel
theorem dX1_init_20 : decode cX1_init 20 = .ok (.aload_n 0, 1) := by decide +kernel
theorem dX1_init_21 : decode cX1_init 21 = .ok (.bipush 6, 2) := by decide +kernel
theorem dX1_init_23 : decode cX1_init 23 = .ok (.newarray .boolean, 2) := by decide +kernel
theorem dX1_init_25 : decode cX1_init 25 = .ok (.putfield 18, 3) := by decide +kernel
theorem dX1_init_28 : decode cX1_init 28 = .ok (.return_, 1) := by decide +kernel
theorem dX1_copyFrom_0 : decode cX1_copyFrom 0 = .ok (.aload_n 0, 1) := by decide +kernel
theorem dX1_copyFrom_1 : decode cX1_copyFrom 1 = .ok (.aload_n 1, 1) := by decide +kernel
theorem dX1_copyFrom_2 : decode cX1_copyFrom 2 = .ok (.getfield 22, 3) := by decide +kernel
theorem dX1_copyFrom_5 : decode cX1_copyFrom 5 = .ok (.putfield 22, 3) := by decide +kernel
theorem dX1_copyFrom_8 : decode cX1_copyFrom 8 = .ok (.iconst 0, 1) := by decide +kernel
theorem dX1_copyFrom_9 : decode cX1_copyFrom 9 = .ok (.istore_n 2, 1) := by decide +kernel
theorem dX1_copyFrom_10 : decode cX1_copyFrom 10 = .ok (.iload_n 2, 1) := by decide +kernel
theorem dX1_copyFrom_11 : decode cX1_copyFrom 11 = .ok (.aload_n 0, 1) := by decide +kernel
theorem dX1_copyFrom_12 : decode cX1_copyFrom 12 = .ok (.getfield 22, 3) := by decide +kernel
theorem dX1_copyFrom_15 : decode cX1_copyFrom 15 = .ok (.if_icmp .ge 51, 3) := by decide +kernel
theorem dX1_copyFrom_18 : decode cX1_copyFrom 18 = .ok (.iload_n 2, 1) := by decide +kernel
theorem dX1_copyFrom_19 : decode cX1_copyFrom 19 = .ok (.bipush 6, 2) := by decide +kernel
theorem dX1_copyFrom_21 : decode cX1_copyFrom 21 = .ok (.if_icmp .ge 45, 3) := by decide +kernel
theorem dX1_copyFrom_24 : decode cX1_copyFrom 24 = .ok (.aload_n 0, 1) := by decide +kernel
theorem dX1_copyFrom_25 : decode cX1_copyFrom 25 = .ok (.getfield 9, 3) := by decide +kernel
theorem dX1_copyFrom_28 : decode cX1_copyFrom 28 = .ok (.iload_n 2, 1) := by decide +kernel
theorem dX1_copyFrom_29 : decode cX1_copyFrom 29 = .ok (.aload_n 1, 1) := by decide +kernel
theorem dX1_copyFrom_30 : decode cX1_copyFrom 30 = .ok (.getfield 9, 3) := by decide +kernel
theorem dX1_copyFrom_33 : decode cX1_copyFrom 33 = .ok (.iload_n 2, 1) := by decide +kernel
theorem dX1_copyFrom_34 : decode cX1_copyFrom 34 = .ok (.iaload, 1) := by decide +kernel
theorem dX1_copyFrom_35 : decode cX1_copyFrom 35 = .ok (.iastore, 1) := by decide +kernel
theorem dX1_copyFrom_36 : decode cX1_copyFrom 36 = .ok (.aload_n 0, 1) := by decide +kernel
theorem dX1_copyFrom_37 : decode cX1_copyFrom 37 = .ok (.getfield 15, 3) := by decide +kernel
theorem dX1_copyFrom_40 : decode cX1_copyFrom 40 = .ok (.iload_n 2, 1) := by decide +kernel
theorem dX1_copyFrom_41 : decode cX1_copyFrom 41 = .ok (.aload_n 1, 1) := by decide +kernel
theorem dX1_copyFrom_42 : decode cX1_copyFrom 42 = .ok (.getfield 15, 3) := by decide +kernel
theorem dX1_copyFrom_45 : decode cX1_copyFrom 45 = .ok (.iload_n 2, 1) := by decide +kernel
theorem dX1_copyFrom_46 : decode cX1_copyFrom 46 = .ok (.iaload, 1) := by decide +kernel
theorem dX1_copyFrom_47 : decode cX1_copyFrom 47 = .ok (.iastore, 1) := by decide +kernel
theorem dX1_copyFrom_48 : decode cX1_copyFrom 48 = .ok (.aload_n 0, 1) := by decide +kernel
theorem dX1_copyFrom_49 : decode cX1_copyFrom 49 = .ok (.getfield 18, 3) := by decide +kernel
theorem dX1_copyFrom_52 : decode cX1_copyFrom 52 = .ok (.iload_n 2, 1) := by decide +kernel
theorem dX1_copyFrom_53 : decode cX1_copyFrom 53 = .ok (.aload_n 1, 1) := by decide +kernel
theorem dX1_copyFrom_54 : decode cX1_copyFrom 54 = .ok (.getfield 18, 3) := by decide +kernel
theorem dX1_copyFrom_57 : decode cX1_copyFrom 57 = .ok (.iload_n 2, 1) := by decide +kernel
theorem dX1_copyFrom_58 : decode cX1_copyFrom 58 = .ok (.baload, 1) := by decide +kernel
theorem dX1_copyFrom_59 : decode cX1_copyFrom 59 = .ok (.bastore, 1) := by decide +kernel
theorem dX1_copyFrom_60 : decode cX1_copyFrom 60 = .ok (.iinc 2 1, 3) := by decide +kernel
theorem dX1_copyFrom_63 : decode cX1_copyFrom 63 = .ok (.goto (-53), 3) := by decide +kernel
theorem dX1_copyFrom_66 : decode cX1_copyFrom 66 = .ok (.return_, 1) := by decide +kernel
theorem dX1_isFull_0 : decode cX1_isFull 0 = .ok (.aload_n 0, 1) := by decide +kernel
theorem dX1_isFull_1 : decode cX1_isFull 1 = .ok (.getfield 22, 3) := by decide +kernel
theorem dX1_isFull_4 : decode cX1_isFull 4 = .ok (.bipush 6, 2) := by decide +kernel
theorem dX1_isFull_6 : decode cX1_isFull 6 = .ok (.if_icmp .lt 7, 3) := by decide +kernel
theorem dX1_isFull_9 : decode cX1_isFull 9 = .ok (.iconst 1, 1) := by decide +kernel
theorem dX1_isFull_10 : decode cX1_isFull 10 = .ok (.goto 4, 3) := by decide +kernel
theorem dX1_isFull_13 : decode cX1_isFull 13 = .ok (.iconst 0, 1) := by decide +kernel
theorem dX1_isFull_14 : decode cX1_isFull 14 = .ok (.ireturn, 1) := by decide +kernel
theorem dX1_add_0 : decode cX1_add 0 = .ok (.aload_n 0, 1) := by decide +kernel
theorem dX1_add_1 : decode cX1_add 1 = .ok (.getfield 22, 3) := by decide +kernel
theorem dX1_add_4 : decode cX1_add 4 = .ok (.ifCond .lt 12, 3) := by decide +kernel
theorem dX1_add_7 : decode cX1_add 7 = .ok (.aload_n 0, 1) := by decide +kernel
theorem dX1_add_8 : decode cX1_add 8 = .ok (.getfield 22, 3) := by decide +kernel
theorem dX1_add_11 : decode cX1_add 11 = .ok (.bipush 6, 2) := by decide +kernel
theorem dX1_add_13 : decode cX1_add 13 = .ok (.if_icmp .lt 4, 3) := by decide +kernel
theorem dX1_add_16 : decode cX1_add 16 = .ok (.return_, 1) := by decide +kernel
theorem dX1_add_17 : decode cX1_add 17 = .ok (.aload_n 0, 1) := by decide +kernel
theorem dX1_add_18 : decode cX1_add 18 = .ok (.getfield 9, 3) := by decide +kernel
theorem dX1_add_21 : decode cX1_add 21 = .ok (.aload_n 0, 1) := by decide +kernel
theorem dX1_add_22 : decode cX1_add 22 = .ok (.getfield 22, 3) := by decide +kernel
theorem dX1_add_25 : decode cX1_add 25 = .ok (.iload_n 1, 1) := by decide +kernel
theorem dX1_add_26 : decode cX1_add 26 = .ok (.iastore, 1) := by decide +kernel
theorem dX1_add_27 : decode cX1_add 27 = .ok (.aload_n 0, 1) := by decide +kernel
theorem dX1_add_28 : decode cX1_add 28 = .ok (.getfield 15, 3) := by decide +kernel
theorem dX1_add_31 : decode cX1_add 31 = .ok (.aload_n 0, 1) := by decide +kernel
theorem dX1_add_32 : decode cX1_add 32 = .ok (.getfield 22, 3) := by decide +kernel
theorem dX1_add_35 : decode cX1_add 35 = .ok (.iload_n 2, 1) := by decide +kernel
theorem dX1_add_36 : decode cX1_add 36 = .ok (.iastore, 1) := by decide +kernel
theorem dX1_add_37 : decode cX1_add 37 = .ok (.aload_n 0, 1) := by decide +kernel
theorem dX1_add_38 : decode cX1_add 38 = .ok (.getfield 18, 3) := by decide +kernel
theorem dX1_add_41 : decode cX1_add 41 = .ok (.aload_n 0, 1) := by decide +kernel
theorem dX1_add_42 : decode cX1_add 42 = .ok (.getfield 22, 3) := by decide +kernel
theorem dX1_add_45 : decode cX1_add 45 = .ok (.iload_n 3, 1) := by decide +kernel
theorem dX1_add_46 : decode cX1_add 46 = .ok (.bastore, 1) := by decide +kernel
theorem dX1_add_47 : decode cX1_add 47 = .ok (.aload_n 0, 1) := by decide +kernel
theorem dX1_add_48 : decode cX1_add 48 = .ok (.dup, 1) := by decide +kernel
theorem dX1_add_49 : decode cX1_add 49 = .ok (.getfield 22, 3) := by decide +kernel
theorem dX1_add_52 : decode cX1_add 52 = .ok (.iconst 1, 1) := by decide +kernel
theorem dX1_add_53 : decode cX1_add 53 = .ok (.iadd, 1) := by decide +kernel
theorem dX1_add_54 : decode cX1_add 54 = .ok (.putfield 22, 3) := by decide +kernel
theorem dX1_add_57 : decode cX1_add 57 = .ok (.return_, 1) := by decide +kernel
theorem dX1_allWords_0 : decode cX1_allWords 0 = .ok (.iconst 0, 1) := by decide +kernel
theorem dX1_allWords_1 : decode cX1_allWords 1 = .ok (.istore_n 1, 1) := by decide +kernel
theorem dX1_allWords_2 : decode cX1_allWords 2 = .ok (.iconst 0, 1) := by decide +kernel
theorem dX1_allWords_3 : decode cX1_allWords 3 = .ok (.istore_n 2, 1) := by decide +kernel
theorem dX1_allWords_4 : decode cX1_allWords 4 = .ok (.iload_n 2, 1) := by decide +kernel
theorem dX1_allWords_5 : decode cX1_allWords 5 = .ok (.aload_n 0, 1) := by decide +kernel
theorem dX1_allWords_6 : decode cX1_allWords 6 = .ok (.getfield 22, 3) := by decide +kernel
theorem dX1_allWords_9 : decode cX1_allWords 9 = .ok (.if_icmp .ge 24, 3) := by decide +kernel
theorem dX1_allWords_12 : decode cX1_allWords 12 = .ok (.iload_n 2, 1) := by decide +kernel
theorem dX1_allWords_13 : decode cX1_allWords 13 = .ok (.bipush 6, 2) := by decide +kernel
theorem dX1_allWords_15 : decode cX1_allWords 15 = .ok (.if_icmp .ge 18, 3) := by decide +kernel
theorem dX1_allWords_18 : decode cX1_allWords 18 = .ok (.iload_n 1, 1) := by decide +kernel
theorem dX1_allWords_19 : decode cX1_allWords 19 = .ok (.aload_n 0, 1) := by decide +kernel
theorem dX1_allWords_20 : decode cX1_allWords 20 = .ok (.getfield 15, 3) := by decide +kernel
theorem dX1_allWords_23 : decode cX1_allWords 23 = .ok (.iload_n 2, 1) := by decide +kernel
theorem dX1_allWords_24 : decode cX1_allWords 24 = .ok (.iaload, 1) := by decide +kernel
theorem dX1_allWords_25 : decode cX1_allWords 25 = .ok (.iadd, 1) := by decide +kernel
theorem dX1_allWords_26 : decode cX1_allWords 26 = .ok (.istore_n 1, 1) := by decide +kernel
theorem dX1_allWords_27 : decode cX1_allWords 27 = .ok (.iinc 2 1, 3) := by decide +kernel
theorem dX1_allWords_30 : decode cX1_allWords 30 = .ok (.goto (-26), 3) := by decide +kernel
theorem dX1_allWords_33 : decode cX1_allWords 33 = .ok (.iload_n 1, 1) := by decide +kernel
theorem dX1_allWords_34 : decode cX1_allWords 34 = .ok (.ireturn, 1) := by decide +kernel
theorem dX1_removeFirst_0 : decode cX1_removeFirst 0 = .ok (.iconst 1, 1) := by decide +kernel
theorem dX1_removeFirst_1 : decode cX1_removeFirst 1 = .ok (.istore_n 1, 1) := by decide +kernel
theorem dX1_removeFirst_2 : decode cX1_removeFirst 2 = .ok (.iload_n 1, 1) := by decide +kernel
theorem dX1_removeFirst_3 : decode cX1_removeFirst 3 = .ok (.aload_n 0, 1) := by decide +kernel
theorem dX1_removeFirst_4 : decode cX1_removeFirst 4 = .ok (.getfield 22, 3) := by decide +kernel
theorem dX1_removeFirst_7 : decode cX1_removeFirst 7 = .ok (.if_icmp .ge 57, 3) := by decide +kernel
theorem dX1_removeFirst_10 : decode cX1_removeFirst 10 = .ok (.iload_n 1, 1) := by decide +kernel
theorem dX1_removeFirst_11 : decode cX1_removeFirst 11 = .ok (.bipush 6, 2) := by decide +kernel
theorem dX1_removeFirst_13 : decode cX1_removeFirst 13 = .ok (.if_icmp .ge 51, 3) := by decide +kernel
theorem dX1_removeFirst_16 : decode cX1_removeFirst 16 = .ok (.aload_n 0, 1) := by decide +kernel
theorem dX1_removeFirst_17 : decode cX1_removeFirst 17 = .ok (.getfield 9, 3) := by decide +kernel
theorem dX1_removeFirst_20 : decode cX1_removeFirst 20 = .ok (.iload_n 1, 1) := by decide +kernel
theorem dX1_removeFirst_21 : decode cX1_removeFirst 21 = .ok (.iconst 1, 1) := by decide +kernel
theorem dX1_removeFirst_22 : decode cX1_removeFirst 22 = .ok (.isub, 1) := by decide +kernel
theorem dX1_removeFirst_23 : decode cX1_removeFirst 23 = .ok (.aload_n 0, 1) := by decide +kernel
theorem dX1_removeFirst_24 : decode cX1_removeFirst 24 = .ok (.getfield 9, 3) := by decide +kernel
theorem dX1_removeFirst_27 : decode cX1_removeFirst 27 = .ok (.iload_n 1, 1) := by decide +kernel
theorem dX1_removeFirst_28 : decode cX1_removeFirst 28 = .ok (.iaload, 1) := by decide +kernel
theorem dX1_removeFirst_29 : decode cX1_removeFirst 29 = .ok (.iastore, 1) := by decide +kernel
theorem dX1_removeFirst_30 : decode cX1_removeFirst 30 = .ok (.aload_n 0, 1) := by decide +kernel
theorem dX1_removeFirst_31 : decode cX1_removeFirst 31 = .ok (.getfield 15, 3) := by decide +kernel
theorem dX1_removeFirst_34 : decode cX1_removeFirst 34 = .ok (.iload_n 1, 1) := by decide +kernel
theorem dX1_removeFirst_35 : decode cX1_removeFirst 35 = .ok (.iconst 1, 1) := by decide +kernel
theorem dX1_removeFirst_36 : decode cX1_removeFirst 36 = .ok (.isub, 1) := by decide +kernel
theorem dX1_removeFirst_37 : decode cX1_removeFirst 37 = .ok (.aload_n 0, 1) := by decide +kernel
theorem dX1_removeFirst_38 : decode cX1_removeFirst 38 = .ok (.getfield 15, 3) := by decide +kernel
theorem dX1_removeFirst_41 : decode cX1_removeFirst 41 = .ok (.iload_n 1, 1) := by decide +kernel
theorem dX1_removeFirst_42 : decode cX1_removeFirst 42 = .ok (.iaload, 1) := by decide +kernel
theorem dX1_removeFirst_43 : decode cX1_removeFirst 43 = .ok (.iastore, 1) := by decide +kernel
theorem dX1_removeFirst_44 : decode cX1_removeFirst 44 = .ok (.aload_n 0, 1) := by decide +kernel
theorem dX1_removeFirst_45 : decode cX1_removeFirst 45 = .ok (.getfield 18, 3) := by decide +kernel
theorem dX1_removeFirst_48 : decode cX1_removeFirst 48 = .ok (.iload_n 1, 1) := by decide +kernel
theorem dX1_removeFirst_49 : decode cX1_removeFirst 49 = .ok (.iconst 1, 1) := by decide +kernel
theorem dX1_removeFirst_50 : decode cX1_removeFirst 50 = .ok (.isub, 1) := by decide +kernel
theorem dX1_removeFirst_51 : decode cX1_removeFirst 51 = .ok (.aload_n 0, 1) := by decide +kernel
theorem dX1_removeFirst_52 : decode cX1_removeFirst 52 = .ok (.getfield 18, 3) := by decide +kernel
theorem dX1_removeFirst_55 : decode cX1_removeFirst 55 = .ok (.iload_n 1, 1) := by decide +kernel
theorem dX1_removeFirst_56 : decode cX1_removeFirst 56 = .ok (.baload, 1) := by decide +kernel
theorem dX1_removeFirst_57 : decode cX1_removeFirst 57 = .ok (.bastore, 1) := by decide +kernel
theorem dX1_removeFirst_58 : decode cX1_removeFirst 58 = .ok (.iinc 1 1, 3) := by decide +kernel
theorem dX1_removeFirst_61 : decode cX1_removeFirst 61 = .ok (.goto (-59), 3) := by decide +kernel
theorem dX1_removeFirst_64 : decode cX1_removeFirst 64 = .ok (.aload_n 0, 1) := by decide +kernel
theorem dX1_removeFirst_65 : decode cX1_removeFirst 65 = .ok (.dup, 1) := by decide +kernel
theorem dX1_removeFirst_66 : decode cX1_removeFirst 66 = .ok (.getfield 22, 3) := by decide +kernel
theorem dX1_removeFirst_69 : decode cX1_removeFirst 69 = .ok (.iconst 1, 1) := by decide +kernel
theorem dX1_removeFirst_70 : decode cX1_removeFirst 70 = .ok (.isub, 1) := by decide +kernel
theorem dX1_removeFirst_71 : decode cX1_removeFirst 71 = .ok (.putfield 22, 3) := by decide +kernel
theorem dX1_removeFirst_74 : decode cX1_removeFirst 74 = .ok (.return_, 1) := by decide +kernel
theorem dX3_init_0 : decode cX3_init 0 = .ok (.aload_n 0, 1) := by decide +kernel
theorem dX3_init_1 : decode cX3_init 1 = .ok (.invokespecial 3, 3) := by decide +kernel
theorem dX3_init_4 : decode cX3_init 4 = .ok (.aload_n 0, 1) := by decide +kernel
theorem dX3_init_5 : decode cX3_init 5 = .ok (.bipush 120, 2) := by decide +kernel
theorem dX3_init_7 : decode cX3_init 7 = .ok (.newarray .char, 2) := by decide +kernel
theorem dX3_init_9 : decode cX3_init 9 = .ok (.putfield 9, 3) := by decide +kernel
theorem dX3_init_12 : decode cX3_init 12 = .ok (.return_, 1) := by decide +kernel
theorem dX3_isFull_0 : decode cX3_isFull 0 = .ok (.aload_n 0, 1) := by decide +kernel
theorem dX3_isFull_1 : decode cX3_isFull 1 = .ok (.getfield 15, 3) := by decide +kernel
theorem dX3_isFull_4 : decode cX3_isFull 4 = .ok (.bipush 120, 2) := by decide +kernel
theorem dX3_isFull_6 : decode cX3_isFull 6 = .ok (.if_icmp .lt 7, 3) := by decide +kernel
theorem dX3_isFull_9 : decode cX3_isFull 9 = .ok (.iconst 1, 1) := by decide +kernel
theorem dX3_isFull_10 : decode cX3_isFull 10 = .ok (.goto 4, 3) := by decide +kernel
theorem dX3_isFull_13 : decode cX3_isFull 13 = .ok (.iconst 0, 1) := by decide +kernel
theorem dX3_isFull_14 : decode cX3_isFull 14 = .ok (.ireturn, 1) := by decide +kernel
theorem dX3_add_0 : decode cX3_add 0 = .ok (.aload_n 0, 1) := by decide +kernel
theorem dX3_add_1 : decode cX3_add 1 = .ok (.getfield 15, 3) := by decide +kernel
theorem dX3_add_4 : decode cX3_add 4 = .ok (.ifCond .lt 32, 3) := by decide +kernel
theorem dX3_add_7 : decode cX3_add 7 = .ok (.aload_n 0, 1) := by decide +kernel
theorem dX3_add_8 : decode cX3_add 8 = .ok (.getfield 15, 3) := by decide +kernel
theorem dX3_add_11 : decode cX3_add 11 = .ok (.bipush 120, 2) := by decide +kernel
theorem dX3_add_13 : decode cX3_add 13 = .ok (.if_icmp .ge 23, 3) := by decide +kernel
theorem dX3_add_16 : decode cX3_add 16 = .ok (.aload_n 0, 1) := by decide +kernel
theorem dX3_add_17 : decode cX3_add 17 = .ok (.getfield 9, 3) := by decide +kernel
theorem dX3_add_20 : decode cX3_add 20 = .ok (.aload_n 0, 1) := by decide +kernel
theorem dX3_add_21 : decode cX3_add 21 = .ok (.getfield 15, 3) := by decide +kernel
theorem dX3_add_24 : decode cX3_add 24 = .ok (.iload_n 1, 1) := by decide +kernel
theorem dX3_add_25 : decode cX3_add 25 = .ok (.castore, 1) := by decide +kernel
theorem dX3_add_26 : decode cX3_add 26 = .ok (.aload_n 0, 1) := by decide +kernel
theorem dX3_add_27 : decode cX3_add 27 = .ok (.dup, 1) := by decide +kernel
theorem dX3_add_28 : decode cX3_add 28 = .ok (.getfield 15, 3) := by decide +kernel
theorem dX3_add_31 : decode cX3_add 31 = .ok (.iconst 1, 1) := by decide +kernel
theorem dX3_add_32 : decode cX3_add 32 = .ok (.iadd, 1) := by decide +kernel
theorem dX3_add_33 : decode cX3_add 33 = .ok (.putfield 15, 3) := by decide +kernel
theorem dX3_add_36 : decode cX3_add 36 = .ok (.aload_n 0, 1) := by decide +kernel
theorem dX3_add_37 : decode cX3_add 37 = .ok (.getfield 15, 3) := by decide +kernel
theorem dX3_add_40 : decode cX3_add 40 = .ok (.ireturn, 1) := by decide +kernel
theorem dX3_empty_0 : decode cX3_empty 0 = .ok (.aload_n 0, 1) := by decide +kernel
theorem dX3_empty_1 : decode cX3_empty 1 = .ok (.getfield 15, 3) := by decide +kernel
theorem dX3_empty_4 : decode cX3_empty 4 = .ok (.istore_n 1, 1) := by decide +kernel
theorem dX3_empty_5 : decode cX3_empty 5 = .ok (.aload_n 0, 1) := by decide +kernel
theorem dX3_empty_6 : decode cX3_empty 6 = .ok (.iconst 0, 1) := by decide +kernel
theorem dX3_empty_7 : decode cX3_empty 7 = .ok (.putfield 15, 3) := by decide +kernel
theorem dX3_empty_10 : decode cX3_empty 10 = .ok (.iload_n 1, 1) := by decide +kernel
theorem dX3_empty_11 : decode cX3_empty 11 = .ok (.ireturn, 1) := by decide +kernel
theorem dX3_readInto_0 : decode cX3_readInto 0 = .ok (.aload_n 0, 1) := by decide +kernel
theorem dX3_readInto_1 : decode cX3_readInto 1 = .ok (.iconst 0, 1) := by decide +kernel
theorem dX3_readInto_2 : decode cX3_readInto 2 = .ok (.putfield 19, 3) := by decide +kernel
theorem dX3_readInto_5 : decode cX3_readInto 5 = .ok (.aload_n 0, 1) := by decide +kernel
theorem dX3_readInto_6 : decode cX3_readInto 6 = .ok (.iconst 0, 1) := by decide +kernel
theorem dX3_readInto_7 : decode cX3_readInto 7 = .ok (.putfield 22, 3) := by decide +kernel
theorem dX3_readInto_10 : decode cX3_readInto 10 = .ok (.aload_n 0, 1) := by decide +kernel
theorem dX3_readInto_11 : decode cX3_readInto 11 = .ok (.bipush 85, 2) := by decide +kernel
theorem dX3_readInto_13 : decode cX3_readInto 13 = .ok (.bipush 85, 2) := by decide +kernel
theorem dX3_readInto_15 : decode cX3_readInto 15 = .ok (.invokevirtual 26, 3) := by decide +kernel
theorem dX3_readInto_18 : decode cX3_readInto 18 = .ok (.pop, 1) := by decide +kernel
theorem dX3_readInto_19 : decode cX3_readInto 19 = .ok (.aload_n 0, 1) := by decide +kernel
theorem dX3_readInto_20 : decode cX3_readInto 20 = .ok (.iconst 2, 1) := by decide +kernel
theorem dX3_readInto_21 : decode cX3_readInto 21 = .ok (.bipush 6, 2) := by decide +kernel
theorem dX3_readInto_23 : decode cX3_readInto 23 = .ok (.invokevirtual 30, 3) := by decide +kernel
theorem dX3_readInto_26 : decode cX3_readInto 26 = .ok (.istore_n 2, 1) := by decide +kernel
theorem dX3_readInto_27 : decode cX3_readInto 27 = .ok (.aload_n 0, 1) := by decide +kernel
theorem dX3_readInto_28 : decode cX3_readInto 28 = .ok (.iconst 2, 1) := by decide +kernel
theorem dX3_readInto_29 : decode cX3_readInto 29 = .ok (.bipush 16, 2) := by decide +kernel
theorem dX3_readInto_31 : decode cX3_readInto 31 = .ok (.invokevirtual 34, 3) := by decide +kernel
theorem dX3_readInto_34 : decode cX3_readInto 34 = .ok (.istore_n 3, 1) := by decide +kernel
theorem dX3_readInto_35 : decode cX3_readInto 35 = .ok (.aload_n 0, 1) := by decide +kernel
theorem dX3_readInto_36 : decode cX3_readInto 36 = .ok (.getfield 22, 3) := by decide +kernel
theorem dX3_readInto_39 : decode cX3_readInto 39 = .ok (.ifCond .ne 9, 3) := by decide +kernel
theorem dX3_readInto_42 : decode cX3_readInto 42 = .ok (.aload_n 1, 1) := by decide +kernel
theorem dX3_readInto_43 : decode cX3_readInto 43 = .ok (.iload_n 2, 1) := by decide +kernel
theorem dX3_readInto_44 : decode cX3_readInto 44 = .ok (.iload_n 3, 1) := by decide +kernel
theorem dX3_readInto_45 : decode cX3_readInto 45 = .ok (.invokevirtual 37, 3) := by decide +kernel
theorem dX3_readInto_48 : decode cX3_readInto 48 = .ok (.iconst 0, 1) := by decide +kernel
theorem dX3_readInto_49 : decode cX3_readInto 49 = .ok (.istore 4, 2) := by decide +kernel
theorem dX3_readInto_51 : decode cX3_readInto 51 = .ok (.iload 4, 2) := by decide +kernel
theorem dX3_readInto_53 : decode cX3_readInto 53 = .ok (.bipush 120, 2) := by decide +kernel
theorem dX3_readInto_55 : decode cX3_readInto 55 = .ok (.if_icmp .ge 32, 3) := by decide +kernel
theorem dX3_readInto_58 : decode cX3_readInto 58 = .ok (.aload_n 0, 1) := by decide +kernel
theorem dX3_readInto_59 : decode cX3_readInto 59 = .ok (.getfield 22, 3) := by decide +kernel
theorem dX3_readInto_62 : decode cX3_readInto 62 = .ok (.ifCond .ne 25, 3) := by decide +kernel
theorem dX3_readInto_65 : decode cX3_readInto 65 = .ok (.aload_n 0, 1) := by decide +kernel
theorem dX3_readInto_66 : decode cX3_readInto 66 = .ok (.getfield 19, 3) := by decide +kernel
theorem dX3_readInto_69 : decode cX3_readInto 69 = .ok (.aload_n 0, 1) := by decide +kernel
theorem dX3_readInto_70 : decode cX3_readInto 70 = .ok (.getfield 15, 3) := by decide +kernel
theorem dX3_readInto_73 : decode cX3_readInto 73 = .ok (.if_icmp .ge 14, 3) := by decide +kernel
theorem dX3_readInto_76 : decode cX3_readInto 76 = .ok (.aload_n 0, 1) := by decide +kernel
theorem dX3_readInto_77 : decode cX3_readInto 77 = .ok (.aload_n 1, 1) := by decide +kernel
theorem dX3_readInto_78 : decode cX3_readInto 78 = .ok (.invokevirtual 43, 3) := by decide +kernel
theorem dX3_readInto_81 : decode cX3_readInto 81 = .ok (.iinc 4 1, 3) := by decide +kernel
theorem dX3_readInto_84 : decode cX3_readInto 84 = .ok (.goto (-33), 3) := by decide +kernel
theorem dX3_readInto_87 : decode cX3_readInto 87 = .ok (.aload_n 0, 1) := by decide +kernel
theorem dX3_readInto_88 : decode cX3_readInto 88 = .ok (.getfield 22, 3) := by decide +kernel
theorem dX3_readInto_91 : decode cX3_readInto 91 = .ok (.ifCond .eq 10, 3) := by decide +kernel
theorem dX3_readInto_94 : decode cX3_readInto 94 = .ok (.aload_n 0, 1) := by decide +kernel
theorem dX3_readInto_95 : decode cX3_readInto 95 = .ok (.getfield 19, 3) := by decide +kernel
theorem dX3_readInto_98 : decode cX3_readInto 98 = .ok (.goto 5, 3) := by decide +kernel
theorem dX3_readInto_101 : decode cX3_readInto 101 = .ok (.bipush (-9), 2) := by decide +kernel
theorem dX3_readInto_103 : decode cX3_readInto 103 = .ok (.ireturn, 1) := by decide +kernel
theorem dX3_readPart_0 : decode cX3_readPart 0 = .ok (.aload_n 0, 1) := by decide +kernel
theorem dX3_readPart_1 : decode cX3_readPart 1 = .ok (.aload_n 0, 1) := by decide +kernel
theorem dX3_readPart_2 : decode cX3_readPart 2 = .ok (.getfield 19, 3) := by decide +kernel
theorem dX3_readPart_5 : decode cX3_readPart 5 = .ok (.invokevirtual 47, 3) := by decide +kernel
theorem dX3_readPart_8 : decode cX3_readPart 8 = .ok (.istore_n 2, 1) := by decide +kernel
theorem dX3_readPart_9 : decode cX3_readPart 9 = .ok (.aload_n 0, 1) := by decide +kernel
theorem dX3_readPart_10 : decode cX3_readPart 10 = .ok (.dup, 1) := by decide +kernel
theorem dX3_readPart_11 : decode cX3_readPart 11 = .ok (.getfield 19, 3) := by decide +kernel
theorem dX3_readPart_14 : decode cX3_readPart 14 = .ok (.iconst 1, 1) := by decide +kernel
theorem dX3_readPart_15 : decode cX3_readPart 15 = .ok (.iadd, 1) := by decide +kernel
theorem dX3_readPart_16 : decode cX3_readPart 16 = .ok (.putfield 19, 3) := by decide +kernel
theorem dX3_readPart_19 : decode cX3_readPart 19 = .ok (.iload_n 2, 1) := by decide +kernel
theorem dX3_readPart_20 : decode cX3_readPart 20 = .ok (.bipush 111, 2) := by decide +kernel
theorem dX3_readPart_22 : decode cX3_readPart 22 = .ok (.if_icmp .ne 11, 3) := by decide +kernel
theorem dX3_readPart_25 : decode cX3_readPart 25 = .ok (.aload_n 0, 1) := by decide +kernel
theorem dX3_readPart_26 : decode cX3_readPart 26 = .ok (.aload_n 1, 1) := by decide +kernel
theorem dX3_readPart_27 : decode cX3_readPart 27 = .ok (.invokevirtual 51, 3) := by decide +kernel
theorem dX3_readPart_30 : decode cX3_readPart 30 = .ok (.goto 49, 3) := by decide +kernel
theorem dX3_readPart_33 : decode cX3_readPart 33 = .ok (.iload_n 2, 1) := by decide +kernel
theorem dX3_readPart_34 : decode cX3_readPart 34 = .ok (.bipush 108, 2) := by decide +kernel
theorem dX3_readPart_36 : decode cX3_readPart 36 = .ok (.if_icmp .ne 11, 3) := by decide +kernel
theorem dX3_readPart_39 : decode cX3_readPart 39 = .ok (.aload_n 0, 1) := by decide +kernel
theorem dX3_readPart_40 : decode cX3_readPart 40 = .ok (.aload_n 1, 1) := by decide +kernel
theorem dX3_readPart_41 : decode cX3_readPart 41 = .ok (.invokevirtual 54, 3) := by decide +kernel
theorem dX3_readPart_44 : decode cX3_readPart 44 = .ok (.goto 35, 3) := by decide +kernel
theorem dX3_readPart_47 : decode cX3_readPart 47 = .ok (.iload_n 2, 1) := by decide +kernel
theorem dX3_readPart_48 : decode cX3_readPart 48 = .ok (.bipush 99, 2) := by decide +kernel
theorem dX3_readPart_50 : decode cX3_readPart 50 = .ok (.if_icmp .ne 11, 3) := by decide +kernel
theorem dX3_readPart_53 : decode cX3_readPart 53 = .ok (.aload_n 0, 1) := by decide +kernel
theorem dX3_readPart_54 : decode cX3_readPart 54 = .ok (.aload_n 1, 1) := by decide +kernel
theorem dX3_readPart_55 : decode cX3_readPart 55 = .ok (.invokevirtual 57, 3) := by decide +kernel
theorem dX3_readPart_58 : decode cX3_readPart 58 = .ok (.goto 21, 3) := by decide +kernel
theorem dX3_readPart_61 : decode cX3_readPart 61 = .ok (.iload_n 2, 1) := by decide +kernel
theorem dX3_readPart_62 : decode cX3_readPart 62 = .ok (.bipush 98, 2) := by decide +kernel
theorem dX3_readPart_64 : decode cX3_readPart 64 = .ok (.if_icmp .ne 11, 3) := by decide +kernel
theorem dX3_readPart_67 : decode cX3_readPart 67 = .ok (.aload_n 0, 1) := by decide +kernel
theorem dX3_readPart_68 : decode cX3_readPart 68 = .ok (.aload_n 1, 1) := by decide +kernel
theorem dX3_readPart_69 : decode cX3_readPart 69 = .ok (.invokevirtual 60, 3) := by decide +kernel
theorem dX3_readPart_72 : decode cX3_readPart 72 = .ok (.goto 7, 3) := by decide +kernel
theorem dX3_readPart_75 : decode cX3_readPart 75 = .ok (.aload_n 0, 1) := by decide +kernel
theorem dX3_readPart_76 : decode cX3_readPart 76 = .ok (.invokevirtual 63, 3) := by decide +kernel
theorem dX3_readPart_79 : decode cX3_readPart 79 = .ok (.return_, 1) := by decide +kernel
theorem dX3_readOwner_0 : decode cX3_readOwner 0 = .ok (.aload_n 0, 1) := by decide +kernel
theorem dX3_readOwner_1 : decode cX3_readOwner 1 = .ok (.iconst 0, 1) := by decide +kernel
theorem dX3_readOwner_2 : decode cX3_readOwner 2 = .ok (.aload_n 1, 1) := by decide +kernel
theorem dX3_readOwner_3 : decode cX3_readOwner 3 = .ok (.getfield 66, 3) := by decide +kernel
theorem dX3_readOwner_6 : decode cX3_readOwner 6 = .ok (.iconst 1, 1) := by decide +kernel
theorem dX3_readOwner_7 : decode cX3_readOwner 7 = .ok (.isub, 1) := by decide +kernel
theorem dX3_readOwner_8 : decode cX3_readOwner 8 = .ok (.invokevirtual 34, 3) := by decide +kernel
theorem dX3_readOwner_11 : decode cX3_readOwner 11 = .ok (.istore_n 2, 1) := by decide +kernel
theorem dX3_readOwner_12 : decode cX3_readOwner 12 = .ok (.aload_n 0, 1) := by decide +kernel
theorem dX3_readOwner_13 : decode cX3_readOwner 13 = .ok (.iconst 0, 1) := by decide +kernel
theorem dX3_readOwner_14 : decode cX3_readOwner 14 = .ok (.aload_n 1, 1) := by decide +kernel
theorem dX3_readOwner_15 : decode cX3_readOwner 15 = .ok (.getfield 69, 3) := by decide +kernel
theorem dX3_readOwner_18 : decode cX3_readOwner 18 = .ok (.iconst 1, 1) := by decide +kernel
theorem dX3_readOwner_19 : decode cX3_readOwner 19 = .ok (.isub, 1) := by decide +kernel
theorem dX3_readOwner_20 : decode cX3_readOwner 20 = .ok (.invokevirtual 30, 3) := by decide +kernel
theorem dX3_readOwner_23 : decode cX3_readOwner 23 = .ok (.istore_n 3, 1) := by decide +kernel
theorem dX3_readOwner_24 : decode cX3_readOwner 24 = .ok (.aload_n 0, 1) := by decide +kernel
theorem dX3_readOwner_25 : decode cX3_readOwner 25 = .ok (.getfield 22, 3) := by decide +kernel
theorem dX3_readOwner_28 : decode cX3_readOwner 28 = .ok (.ifCond .ne 18, 3) := by decide +kernel
theorem dX3_readOwner_31 : decode cX3_readOwner 31 = .ok (.aload_n 1, 1) := by decide +kernel
theorem dX3_readOwner_32 : decode cX3_readOwner 32 = .ok (.iload_n 2, 1) := by decide +kernel
theorem dX3_readOwner_33 : decode cX3_readOwner 33 = .ok (.invokevirtual 72, 3) := by decide +kernel
theorem dX3_readOwner_36 : decode cX3_readOwner 36 = .ok (.ifCond .eq 10, 3) := by decide +kernel
theorem dX3_readOwner_39 : decode cX3_readOwner 39 = .ok (.aload_n 1, 1) := by decide +kernel
theorem dX3_readOwner_40 : decode cX3_readOwner 40 = .ok (.getfield 76, 3) := by decide +kernel
theorem dX3_readOwner_43 : decode cX3_readOwner 43 = .ok (.iload_n 2, 1) := by decide +kernel
theorem dX3_readOwner_44 : decode cX3_readOwner 44 = .ok (.iload_n 3, 1) := by decide +kernel
theorem dX3_readOwner_45 : decode cX3_readOwner 45 = .ok (.iastore, 1) := by decide +kernel
theorem dX3_readOwner_46 : decode cX3_readOwner 46 = .ok (.return_, 1) := by decide +kernel
theorem dX3_readLatency_0 : decode cX3_readLatency 0 = .ok (.aload_n 0, 1) := by decide +kernel
theorem dX3_readLatency_1 : decode cX3_readLatency 1 = .ok (.iconst 0, 1) := by decide +kernel
theorem dX3_readLatency_2 : decode cX3_readLatency 2 = .ok (.iconst 3, 1) := by decide +kernel
theorem dX3_readLatency_3 : decode cX3_readLatency 3 = .ok (.invokevirtual 30, 3) := by decide +kernel
theorem dX3_readLatency_6 : decode cX3_readLatency 6 = .ok (.istore_n 2, 1) := by decide +kernel
theorem dX3_readLatency_7 : decode cX3_readLatency 7 = .ok (.aload_n 0, 1) := by decide +kernel
theorem dX3_readLatency_8 : decode cX3_readLatency 8 = .ok (.iconst 0, 1) := by decide +kernel
theorem dX3_readLatency_9 : decode cX3_readLatency 9 = .ok (.bipush 9, 2) := by decide +kernel
theorem dX3_readLatency_11 : decode cX3_readLatency 11 = .ok (.invokevirtual 30, 3) := by decide +kernel
theorem dX3_readLatency_14 : decode cX3_readLatency 14 = .ok (.istore_n 3, 1) := by decide +kernel
theorem dX3_readLatency_15 : decode cX3_readLatency 15 = .ok (.aload_n 0, 1) := by decide +kernel
theorem dX3_readLatency_16 : decode cX3_readLatency 16 = .ok (.getfield 22, 3) := by decide +kernel
theorem dX3_readLatency_19 : decode cX3_readLatency 19 = .ok (.ifCond .ne 19, 3) := by decide +kernel
theorem dX3_readLatency_22 : decode cX3_readLatency 22 = .ok (.iload_n 2, 1) := by decide +kernel
theorem dX3_readLatency_23 : decode cX3_readLatency 23 = .ok (.ifCond .lt 15, 3) := by decide +kernel
theorem dX3_readLatency_26 : decode cX3_readLatency 26 = .ok (.iload_n 2, 1) := by decide +kernel
theorem dX3_readLatency_27 : decode cX3_readLatency 27 = .ok (.iconst 4, 1) := by decide +kernel
theorem dX3_readLatency_28 : decode cX3_readLatency 28 = .ok (.if_icmp .ge 10, 3) := by decide +kernel
theorem dX3_readLatency_31 : decode cX3_readLatency 31 = .ok (.aload_n 1, 1) := by decide +kernel
theorem dX3_readLatency_32 : decode cX3_readLatency 32 = .ok (.getfield 80, 3) := by decide +kernel
theorem dX3_readLatency_35 : decode cX3_readLatency 35 = .ok (.iload_n 2, 1) := by decide +kernel
theorem dX3_readLatency_36 : decode cX3_readLatency 36 = .ok (.iload_n 3, 1) := by decide +kernel
theorem dX3_readLatency_37 : decode cX3_readLatency 37 = .ok (.iastore, 1) := by decide +kernel
theorem dX3_readLatency_38 : decode cX3_readLatency 38 = .ok (.return_, 1) := by decide +kernel
theorem dX3_readCredit_0 : decode cX3_readCredit 0 = .ok (.aload_n 0, 1) := by decide +kernel
theorem dX3_readCredit_1 : decode cX3_readCredit 1 = .ok (.iconst 0, 1) := by decide +kernel
theorem dX3_readCredit_2 : decode cX3_readCredit 2 = .ok (.bipush 9, 2) := by decide +kernel
theorem dX3_readCredit_4 : decode cX3_readCredit 4 = .ok (.invokevirtual 30, 3) := by decide +kernel
theorem dX3_readCredit_7 : decode cX3_readCredit 7 = .ok (.istore_n 2, 1) := by decide +kernel
theorem dX3_readCredit_8 : decode cX3_readCredit 8 = .ok (.aload_n 0, 1) := by decide +kernel
theorem dX3_readCredit_9 : decode cX3_readCredit 9 = .ok (.getfield 22, 3) := by decide +kernel
theorem dX3_readCredit_12 : decode cX3_readCredit 12 = .ok (.ifCond .ne 8, 3) := by decide +kernel
theorem dX3_readCredit_15 : decode cX3_readCredit 15 = .ok (.aload_n 1, 1) := by decide +kernel
theorem dX3_readCredit_16 : decode cX3_readCredit 16 = .ok (.iload_n 2, 1) := by decide +kernel
theorem dX3_readCredit_17 : decode cX3_readCredit 17 = .ok (.putfield 83, 3) := by decide +kernel
theorem dX3_readCredit_20 : decode cX3_readCredit 20 = .ok (.return_, 1) := by decide +kernel
theorem dX3_readBurst_0 : decode cX3_readBurst 0 = .ok (.aload_n 0, 1) := by decide +kernel
theorem dX3_readBurst_1 : decode cX3_readBurst 1 = .ok (.iconst 0, 1) := by decide +kernel
theorem dX3_readBurst_2 : decode cX3_readBurst 2 = .ok (.aload_n 1, 1) := by decide +kernel
theorem dX3_readBurst_3 : decode cX3_readBurst 3 = .ok (.getfield 69, 3) := by decide +kernel
theorem dX3_readBurst_6 : decode cX3_readBurst 6 = .ok (.iconst 1, 1) := by decide +kernel
theorem dX3_readBurst_7 : decode cX3_readBurst 7 = .ok (.isub, 1) := by decide +kernel
theorem dX3_readBurst_8 : decode cX3_readBurst 8 = .ok (.invokevirtual 30, 3) := by decide +kernel
theorem dX3_readBurst_11 : decode cX3_readBurst 11 = .ok (.istore_n 2, 1) := by decide +kernel
theorem dX3_readBurst_12 : decode cX3_readBurst 12 = .ok (.aload_n 0, 1) := by decide +kernel
theorem dX3_readBurst_13 : decode cX3_readBurst 13 = .ok (.getfield 22, 3) := by decide +kernel
theorem dX3_readBurst_16 : decode cX3_readBurst 16 = .ok (.ifCond .ne 11, 3) := by decide +kernel
theorem dX3_readBurst_19 : decode cX3_readBurst 19 = .ok (.aload_n 1, 1) := by decide +kernel
theorem dX3_readBurst_20 : decode cX3_readBurst 20 = .ok (.iload_n 2, 1) := by decide +kernel
theorem dX3_readBurst_21 : decode cX3_readBurst 21 = .ok (.invokevirtual 86, 3) := by decide +kernel
theorem dX3_readBurst_24 : decode cX3_readBurst 24 = .ok (.ifCond .ne 4, 3) := by decide +kernel
theorem dX3_readBurst_27 : decode cX3_readBurst 27 = .ok (.return_, 1) := by decide +kernel
theorem dX3_readBurst_28 : decode cX3_readBurst 28 = .ok (.aload_n 1, 1) := by decide +kernel
theorem dX3_readBurst_29 : decode cX3_readBurst 29 = .ok (.getfield 89, 3) := by decide +kernel
theorem dX3_readBurst_32 : decode cX3_readBurst 32 = .ok (.iload_n 2, 1) := by decide +kernel
theorem dX3_readBurst_33 : decode cX3_readBurst 33 = .ok (.aaload, 1) := by decide +kernel
theorem dX3_readBurst_34 : decode cX3_readBurst 34 = .ok (.getfield 93, 3) := by decide +kernel
theorem dX3_readBurst_37 : decode cX3_readBurst 37 = .ok (.astore_n 3, 1) := by decide +kernel
theorem dX3_readBurst_38 : decode cX3_readBurst 38 = .ok (.aload_n 3, 1) := by decide +kernel
theorem dX3_readBurst_39 : decode cX3_readBurst 39 = .ok (.invokevirtual 99, 3) := by decide +kernel
theorem dX3_readBurst_42 : decode cX3_readBurst 42 = .ok (.ifCond .eq 7, 3) := by decide +kernel
theorem dX3_readBurst_45 : decode cX3_readBurst 45 = .ok (.aload_n 0, 1) := by decide +kernel
theorem dX3_readBurst_46 : decode cX3_readBurst 46 = .ok (.invokevirtual 63, 3) := by decide +kernel
theorem dX3_readBurst_49 : decode cX3_readBurst 49 = .ok (.aload_n 0, 1) := by decide +kernel
theorem dX3_readBurst_50 : decode cX3_readBurst 50 = .ok (.iconst 0, 1) := by decide +kernel
theorem dX3_readBurst_51 : decode cX3_readBurst 51 = .ok (.iconst 3, 1) := by decide +kernel
theorem dX3_readBurst_52 : decode cX3_readBurst 52 = .ok (.invokevirtual 30, 3) := by decide +kernel
theorem dX3_readBurst_55 : decode cX3_readBurst 55 = .ok (.istore 4, 2) := by decide +kernel
theorem dX3_readBurst_57 : decode cX3_readBurst 57 = .ok (.aload_n 0, 1) := by decide +kernel
theorem dX3_readBurst_58 : decode cX3_readBurst 58 = .ok (.iconst 1, 1) := by decide +kernel
theorem dX3_readBurst_59 : decode cX3_readBurst 59 = .ok (.bipush 8, 2) := by decide +kernel
theorem dX3_readBurst_61 : decode cX3_readBurst 61 = .ok (.invokevirtual 30, 3) := by decide +kernel
theorem dX3_readBurst_64 : decode cX3_readBurst 64 = .ok (.istore 5, 2) := by decide +kernel
theorem dX3_readBurst_66 : decode cX3_readBurst 66 = .ok (.aload_n 0, 1) := by decide +kernel
theorem dX3_readBurst_67 : decode cX3_readBurst 67 = .ok (.bipush 43, 2) := by decide +kernel
theorem dX3_readBurst_69 : decode cX3_readBurst 69 = .ok (.bipush 45, 2) := by decide +kernel
theorem dX3_readBurst_71 : decode cX3_readBurst 71 = .ok (.invokevirtual 26, 3) := by decide +kernel
theorem dX3_readBurst_74 : decode cX3_readBurst 74 = .ok (.istore 6, 2) := by decide +kernel
theorem dX3_readBurst_76 : decode cX3_readBurst 76 = .ok (.aload_n 0, 1) := by decide +kernel
theorem dX3_readBurst_77 : decode cX3_readBurst 77 = .ok (.getfield 22, 3) := by decide +kernel
theorem dX3_readBurst_80 : decode cX3_readBurst 80 = .ok (.ifCond .ne 23, 3) := by decide +kernel
theorem dX3_readBurst_83 : decode cX3_readBurst 83 = .ok (.aload_n 3, 1) := by decide +kernel
theorem dX3_readBurst_84 : decode cX3_readBurst 84 = .ok (.iload 4, 2) := by decide +kernel
theorem dX3_readBurst_86 : decode cX3_readBurst 86 = .ok (.iload 5, 2) := by decide +kernel
theorem dX3_readBurst_88 : decode cX3_readBurst 88 = .ok (.iload 6, 2) := by decide +kernel
theorem dX3_readBurst_90 : decode cX3_readBurst 90 = .ok (.bipush 43, 2) := by decide +kernel
theorem dX3_readBurst_92 : decode cX3_readBurst 92 = .ok (.if_icmp .ne 7, 3) := by decide +kernel
theorem dX3_readBurst_95 : decode cX3_readBurst 95 = .ok (.iconst 1, 1) := by decide +kernel
theorem dX3_readBurst_96 : decode cX3_readBurst 96 = .ok (.goto 4, 3) := by decide +kernel
theorem dX3_readBurst_99 : decode cX3_readBurst 99 = .ok (.iconst 0, 1) := by decide +kernel
theorem dX3_readBurst_100 : decode cX3_readBurst 100 = .ok (.invokevirtual 105, 3) := by decide +kernel
theorem dX3_readBurst_103 : decode cX3_readBurst 103 = .ok (.return_, 1) := by decide +kernel
theorem dX3_signAt_0 : decode cX3_signAt 0 = .ok (.iload_n 1, 1) := by decide +kernel
theorem dX3_signAt_1 : decode cX3_signAt 1 = .ok (.ifCond .lt 26, 3) := by decide +kernel
theorem dX3_signAt_4 : decode cX3_signAt 4 = .ok (.iload_n 1, 1) := by decide +kernel
theorem dX3_signAt_5 : decode cX3_signAt 5 = .ok (.aload_n 0, 1) := by decide +kernel
theorem dX3_signAt_6 : decode cX3_signAt 6 = .ok (.getfield 15, 3) := by decide +kernel
theorem dX3_signAt_9 : decode cX3_signAt 9 = .ok (.if_icmp .ge 18, 3) := by decide +kernel
theorem dX3_signAt_12 : decode cX3_signAt 12 = .ok (.iload_n 1, 1) := by decide +kernel
theorem dX3_signAt_13 : decode cX3_signAt 13 = .ok (.bipush 120, 2) := by decide +kernel
theorem dX3_signAt_15 : decode cX3_signAt 15 = .ok (.if_icmp .ge 12, 3) := by decide +kernel
theorem dX3_signAt_18 : decode cX3_signAt 18 = .ok (.aload_n 0, 1) := by decide +kernel
theorem dX3_signAt_19 : decode cX3_signAt 19 = .ok (.getfield 9, 3) := by decide +kernel
theorem dX3_signAt_22 : decode cX3_signAt 22 = .ok (.iload_n 1, 1) := by decide +kernel
theorem dX3_signAt_23 : decode cX3_signAt 23 = .ok (.caload, 1) := by decide +kernel
theorem dX3_signAt_24 : decode cX3_signAt 24 = .ok (.goto 4, 3) := by decide +kernel
theorem dX3_signAt_27 : decode cX3_signAt 27 = .ok (.iconst 0, 1) := by decide +kernel
theorem dX3_signAt_28 : decode cX3_signAt 28 = .ok (.ireturn, 1) := by decide +kernel
theorem dX3_refuseLast_0 : decode cX3_refuseLast 0 = .ok (.aload_n 0, 1) := by decide +kernel
theorem dX3_refuseLast_1 : decode cX3_refuseLast 1 = .ok (.dup, 1) := by decide +kernel
theorem dX3_refuseLast_2 : decode cX3_refuseLast 2 = .ok (.getfield 19, 3) := by decide +kernel
theorem dX3_refuseLast_5 : decode cX3_refuseLast 5 = .ok (.iconst 1, 1) := by decide +kernel
theorem dX3_refuseLast_6 : decode cX3_refuseLast 6 = .ok (.isub, 1) := by decide +kernel
theorem dX3_refuseLast_7 : decode cX3_refuseLast 7 = .ok (.putfield 19, 3) := by decide +kernel
theorem dX3_refuseLast_10 : decode cX3_refuseLast 10 = .ok (.aload_n 0, 1) := by decide +kernel
theorem dX3_refuseLast_11 : decode cX3_refuseLast 11 = .ok (.iconst 1, 1) := by decide +kernel
theorem dX3_refuseLast_12 : decode cX3_refuseLast 12 = .ok (.putfield 22, 3) := by decide +kernel
theorem dX3_refuseLast_15 : decode cX3_refuseLast 15 = .ok (.return_, 1) := by decide +kernel
theorem dX3_readOneOf_0 : decode cX3_readOneOf 0 = .ok (.aload_n 0, 1) := by decide +kernel
theorem dX3_readOneOf_1 : decode cX3_readOneOf 1 = .ok (.aload_n 0, 1) := by decide +kernel
theorem dX3_readOneOf_2 : decode cX3_readOneOf 2 = .ok (.getfield 19, 3) := by decide +kernel
theorem dX3_readOneOf_5 : decode cX3_readOneOf 5 = .ok (.invokevirtual 47, 3) := by decide +kernel
theorem dX3_readOneOf_8 : decode cX3_readOneOf 8 = .ok (.istore_n 3, 1) := by decide +kernel
theorem dX3_readOneOf_9 : decode cX3_readOneOf 9 = .ok (.aload_n 0, 1) := by decide +kernel
theorem dX3_readOneOf_10 : decode cX3_readOneOf 10 = .ok (.getfield 22, 3) := by decide +kernel
theorem dX3_readOneOf_13 : decode cX3_readOneOf 13 = .ok (.ifCond .ne 37, 3) := by decide +kernel
theorem dX3_readOneOf_16 : decode cX3_readOneOf 16 = .ok (.aload_n 0, 1) := by decide +kernel
theorem dX3_readOneOf_17 : decode cX3_readOneOf 17 = .ok (.getfield 19, 3) := by decide +kernel
theorem dX3_readOneOf_20 : decode cX3_readOneOf 20 = .ok (.aload_n 0, 1) := by decide +kernel
theorem dX3_readOneOf_21 : decode cX3_readOneOf 21 = .ok (.getfield 15, 3) := by decide +kernel
theorem dX3_readOneOf_24 : decode cX3_readOneOf 24 = .ok (.if_icmp .ge 26, 3) := by decide +kernel
theorem dX3_readOneOf_27 : decode cX3_readOneOf 27 = .ok (.iload_n 3, 1) := by decide +kernel
theorem dX3_readOneOf_28 : decode cX3_readOneOf 28 = .ok (.iload_n 1, 1) := by decide +kernel
theorem dX3_readOneOf_29 : decode cX3_readOneOf 29 = .ok (.if_icmp .eq 8, 3) := by decide +kernel
theorem dX3_readOneOf_32 : decode cX3_readOneOf 32 = .ok (.iload_n 3, 1) := by decide +kernel
theorem dX3_readOneOf_33 : decode cX3_readOneOf 33 = .ok (.iload_n 2, 1) := by decide +kernel
theorem dX3_readOneOf_34 : decode cX3_readOneOf 34 = .ok (.if_icmp .ne 16, 3) := by decide +kernel
theorem dX3_readOneOf_37 : decode cX3_readOneOf 37 = .ok (.aload_n 0, 1) := by decide +kernel
theorem dX3_readOneOf_38 : decode cX3_readOneOf 38 = .ok (.dup, 1) := by decide +kernel
theorem dX3_readOneOf_39 : decode cX3_readOneOf 39 = .ok (.getfield 19, 3) := by decide +kernel
theorem dX3_readOneOf_42 : decode cX3_readOneOf 42 = .ok (.iconst 1, 1) := by decide +kernel
theorem dX3_readOneOf_43 : decode cX3_readOneOf 43 = .ok (.iadd, 1) := by decide +kernel
theorem dX3_readOneOf_44 : decode cX3_readOneOf 44 = .ok (.putfield 19, 3) := by decide +kernel
theorem dX3_readOneOf_47 : decode cX3_readOneOf 47 = .ok (.goto 8, 3) := by decide +kernel
theorem dX3_readOneOf_50 : decode cX3_readOneOf 50 = .ok (.aload_n 0, 1) := by decide +kernel
theorem dX3_readOneOf_51 : decode cX3_readOneOf 51 = .ok (.iconst 1, 1) := by decide +kernel
theorem dX3_readOneOf_52 : decode cX3_readOneOf 52 = .ok (.putfield 22, 3) := by decide +kernel
theorem dX3_readOneOf_55 : decode cX3_readOneOf 55 = .ok (.iload_n 3, 1) := by decide +kernel
theorem dX3_readOneOf_56 : decode cX3_readOneOf 56 = .ok (.ireturn, 1) := by decide +kernel
theorem dX3_readDigit_0 : decode cX3_readDigit 0 = .ok (.aload_n 0, 1) := by decide +kernel
theorem dX3_readDigit_1 : decode cX3_readDigit 1 = .ok (.aload_n 0, 1) := by decide +kernel
theorem dX3_readDigit_2 : decode cX3_readDigit 2 = .ok (.getfield 19, 3) := by decide +kernel
theorem dX3_readDigit_5 : decode cX3_readDigit 5 = .ok (.invokevirtual 47, 3) := by decide +kernel
theorem dX3_readDigit_8 : decode cX3_readDigit 8 = .ok (.bipush 48, 2) := by decide +kernel
theorem dX3_readDigit_10 : decode cX3_readDigit 10 = .ok (.isub, 1) := by decide +kernel
theorem dX3_readDigit_11 : decode cX3_readDigit 11 = .ok (.istore_n 3, 1) := by decide +kernel
theorem dX3_readDigit_12 : decode cX3_readDigit 12 = .ok (.aload_n 0, 1) := by decide +kernel
theorem dX3_readDigit_13 : decode cX3_readDigit 13 = .ok (.getfield 22, 3) := by decide +kernel
theorem dX3_readDigit_16 : decode cX3_readDigit 16 = .ok (.ifCond .ne 36, 3) := by decide +kernel
theorem dX3_readDigit_19 : decode cX3_readDigit 19 = .ok (.aload_n 0, 1) := by decide +kernel
theorem dX3_readDigit_20 : decode cX3_readDigit 20 = .ok (.getfield 19, 3) := by decide +kernel
theorem dX3_readDigit_23 : decode cX3_readDigit 23 = .ok (.aload_n 0, 1) := by decide +kernel
theorem dX3_readDigit_24 : decode cX3_readDigit 24 = .ok (.getfield 15, 3) := by decide +kernel
theorem dX3_readDigit_27 : decode cX3_readDigit 27 = .ok (.if_icmp .ge 25, 3) := by decide +kernel
theorem dX3_readDigit_30 : decode cX3_readDigit 30 = .ok (.iload_n 3, 1) := by decide +kernel
theorem dX3_readDigit_31 : decode cX3_readDigit 31 = .ok (.iload_n 1, 1) := by decide +kernel
theorem dX3_readDigit_32 : decode cX3_readDigit 32 = .ok (.if_icmp .lt 20, 3) := by decide +kernel
theorem dX3_readDigit_35 : decode cX3_readDigit 35 = .ok (.iload_n 3, 1) := by decide +kernel
theorem dX3_readDigit_36 : decode cX3_readDigit 36 = .ok (.iload_n 2, 1) := by decide +kernel
theorem dX3_readDigit_37 : decode cX3_readDigit 37 = .ok (.if_icmp .gt 15, 3) := by decide +kernel
theorem dX3_readDigit_40 : decode cX3_readDigit 40 = .ok (.aload_n 0, 1) := by decide +kernel
theorem dX3_readDigit_41 : decode cX3_readDigit 41 = .ok (.dup, 1) := by decide +kernel
theorem dX3_readDigit_42 : decode cX3_readDigit 42 = .ok (.getfield 19, 3) := by decide +kernel
theorem dX3_readDigit_45 : decode cX3_readDigit 45 = .ok (.iconst 1, 1) := by decide +kernel
theorem dX3_readDigit_46 : decode cX3_readDigit 46 = .ok (.iadd, 1) := by decide +kernel
theorem dX3_readDigit_47 : decode cX3_readDigit 47 = .ok (.putfield 19, 3) := by decide +kernel
theorem dX3_readDigit_50 : decode cX3_readDigit 50 = .ok (.iload_n 3, 1) := by decide +kernel
theorem dX3_readDigit_51 : decode cX3_readDigit 51 = .ok (.ireturn, 1) := by decide +kernel
theorem dX3_readDigit_52 : decode cX3_readDigit 52 = .ok (.aload_n 0, 1) := by decide +kernel
theorem dX3_readDigit_53 : decode cX3_readDigit 53 = .ok (.iconst 1, 1) := by decide +kernel
theorem dX3_readDigit_54 : decode cX3_readDigit 54 = .ok (.putfield 22, 3) := by decide +kernel
theorem dX3_readDigit_57 : decode cX3_readDigit 57 = .ok (.iload_n 1, 1) := by decide +kernel
theorem dX3_readDigit_58 : decode cX3_readDigit 58 = .ok (.ireturn, 1) := by decide +kernel
theorem dX3_readTwoDigits_0 : decode cX3_readTwoDigits 0 = .ok (.aload_n 0, 1) := by decide +kernel
theorem dX3_readTwoDigits_1 : decode cX3_readTwoDigits 1 = .ok (.iload_n 1, 1) := by decide +kernel
theorem dX3_readTwoDigits_2 : decode cX3_readTwoDigits 2 = .ok (.bipush 10, 2) := by decide +kernel
theorem dX3_readTwoDigits_4 : decode cX3_readTwoDigits 4 = .ok (.idiv, 1) := by decide +kernel
theorem dX3_readTwoDigits_5 : decode cX3_readTwoDigits 5 = .ok (.iload_n 2, 1) := by decide +kernel
theorem dX3_readTwoDigits_6 : decode cX3_readTwoDigits 6 = .ok (.bipush 10, 2) := by decide +kernel
theorem dX3_readTwoDigits_8 : decode cX3_readTwoDigits 8 = .ok (.idiv, 1) := by decide +kernel
theorem dX3_readTwoDigits_9 : decode cX3_readTwoDigits 9 = .ok (.invokevirtual 30, 3) := by decide +kernel
theorem dX3_readTwoDigits_12 : decode cX3_readTwoDigits 12 = .ok (.istore_n 3, 1) := by decide +kernel
theorem dX3_readTwoDigits_13 : decode cX3_readTwoDigits 13 = .ok (.iload_n 3, 1) := by decide +kernel
theorem dX3_readTwoDigits_14 : decode cX3_readTwoDigits 14 = .ok (.iload_n 1, 1) := by decide +kernel
theorem dX3_readTwoDigits_15 : decode cX3_readTwoDigits 15 = .ok (.bipush 10, 2) := by decide +kernel
theorem dX3_readTwoDigits_17 : decode cX3_readTwoDigits 17 = .ok (.idiv, 1) := by decide +kernel
theorem dX3_readTwoDigits_18 : decode cX3_readTwoDigits 18 = .ok (.if_icmp .ne 10, 3) := by decide +kernel
theorem dX3_readTwoDigits_21 : decode cX3_readTwoDigits 21 = .ok (.iload_n 1, 1) := by decide +kernel
theorem dX3_readTwoDigits_22 : decode cX3_readTwoDigits 22 = .ok (.bipush 10, 2) := by decide +kernel
theorem dX3_readTwoDigits_24 : decode cX3_readTwoDigits 24 = .ok (.irem, 1) := by decide +kernel
theorem dX3_readTwoDigits_25 : decode cX3_readTwoDigits 25 = .ok (.goto 4, 3) := by decide +kernel
theorem dX3_readTwoDigits_28 : decode cX3_readTwoDigits 28 = .ok (.iconst 0, 1) := by decide +kernel
theorem dX3_readTwoDigits_29 : decode cX3_readTwoDigits 29 = .ok (.istore 4, 2) := by decide +kernel
theorem dX3_readTwoDigits_31 : decode cX3_readTwoDigits 31 = .ok (.iload_n 3, 1) := by decide +kernel
theorem dX3_readTwoDigits_32 : decode cX3_readTwoDigits 32 = .ok (.iload_n 2, 1) := by decide +kernel
theorem dX3_readTwoDigits_33 : decode cX3_readTwoDigits 33 = .ok (.bipush 10, 2) := by decide +kernel
theorem dX3_readTwoDigits_35 : decode cX3_readTwoDigits 35 = .ok (.idiv, 1) := by decide +kernel
theorem dX3_readTwoDigits_36 : decode cX3_readTwoDigits 36 = .ok (.if_icmp .ne 10, 3) := by decide +kernel
theorem dX3_readTwoDigits_39 : decode cX3_readTwoDigits 39 = .ok (.iload_n 2, 1) := by decide +kernel
theorem dX3_readTwoDigits_40 : decode cX3_readTwoDigits 40 = .ok (.bipush 10, 2) := by decide +kernel
theorem dX3_readTwoDigits_42 : decode cX3_readTwoDigits 42 = .ok (.irem, 1) := by decide +kernel
theorem dX3_readTwoDigits_43 : decode cX3_readTwoDigits 43 = .ok (.goto 5, 3) := by decide +kernel
theorem dX3_readTwoDigits_46 : decode cX3_readTwoDigits 46 = .ok (.bipush 9, 2) := by decide +kernel
theorem dX3_readTwoDigits_48 : decode cX3_readTwoDigits 48 = .ok (.istore 5, 2) := by decide +kernel
theorem dX3_readTwoDigits_50 : decode cX3_readTwoDigits 50 = .ok (.bipush 10, 2) := by decide +kernel
theorem dX3_readTwoDigits_52 : decode cX3_readTwoDigits 52 = .ok (.iload_n 3, 1) := by decide +kernel
theorem dX3_readTwoDigits_53 : decode cX3_readTwoDigits 53 = .ok (.imul, 1) := by decide +kernel
theorem dX3_readTwoDigits_54 : decode cX3_readTwoDigits 54 = .ok (.aload_n 0, 1) := by decide +kernel
theorem dX3_readTwoDigits_55 : decode cX3_readTwoDigits 55 = .ok (.iload 4, 2) := by decide +kernel
theorem dX3_readTwoDigits_57 : decode cX3_readTwoDigits 57 = .ok (.iload 5, 2) := by decide +kernel
theorem dX3_readTwoDigits_59 : decode cX3_readTwoDigits 59 = .ok (.invokevirtual 30, 3) := by decide +kernel
theorem dX3_readTwoDigits_62 : decode cX3_readTwoDigits 62 = .ok (.iadd, 1) := by decide +kernel
theorem dX3_readTwoDigits_63 : decode cX3_readTwoDigits 63 = .ok (.ireturn, 1) := by decide +kernel
theorem dX4_init_0 : decode cX4_init 0 = .ok (.aload_n 0, 1) := by decide +kernel
theorem dX4_init_1 : decode cX4_init 1 = .ok (.invokespecial 3, 3) := by decide +kernel
theorem dX4_init_4 : decode cX4_init 4 = .ok (.aload_n 0, 1) := by decide +kernel
theorem dX4_init_5 : decode cX4_init 5 = .ok (.bipush 14, 2) := by decide +kernel
theorem dX4_init_7 : decode cX4_init 7 = .ok (.anewarray 9, 3) := by decide +kernel
theorem dX4_init_10 : decode cX4_init 10 = .ok (.putfield 11, 3) := by decide +kernel
theorem dX4_init_13 : decode cX4_init 13 = .ok (.iconst 0, 1) := by decide +kernel
theorem dX4_init_14 : decode cX4_init 14 = .ok (.istore_n 1, 1) := by decide +kernel
theorem dX4_init_15 : decode cX4_init 15 = .ok (.iload_n 1, 1) := by decide +kernel
theorem dX4_init_16 : decode cX4_init 16 = .ok (.bipush 14, 2) := by decide +kernel
theorem dX4_init_18 : decode cX4_init 18 = .ok (.if_icmp .ge 22, 3) := by decide +kernel
theorem dX4_init_21 : decode cX4_init 21 = .ok (.aload_n 0, 1) := by decide +kernel
theorem dX4_init_22 : decode cX4_init 22 = .ok (.getfield 11, 3) := by decide +kernel
theorem dX4_init_25 : decode cX4_init 25 = .ok (.iload_n 1, 1) := by decide +kernel
theorem dX4_init_26 : decode cX4_init 26 = .ok (.new 9, 3) := by decide +kernel
theorem dX4_init_29 : decode cX4_init 29 = .ok (.dup, 1) := by decide +kernel
theorem dX4_init_30 : decode cX4_init 30 = .ok (.invokespecial 17, 3) := by decide +kernel
theorem dX4_init_33 : decode cX4_init 33 = .ok (.aastore, 1) := by decide +kernel
theorem dX4_init_34 : decode cX4_init 34 = .ok (.iinc 1 1, 3) := by decide +kernel
theorem dX4_init_37 : decode cX4_init 37 = .ok (.goto (-22), 3) := by decide +kernel
theorem dX4_init_40 : decode cX4_init 40 = .ok (.return_, 1) := by decide +kernel
theorem dX4_empty_0 : decode cX4_empty 0 = .ok (.aload_n 0, 1) := by decide +kernel
theorem dX4_empty_1 : decode cX4_empty 1 = .ok (.iconst 0, 1) := by decide +kernel
theorem dX4_empty_2 : decode cX4_empty 2 = .ok (.putfield 18, 3) := by decide +kernel
theorem dX4_empty_5 : decode cX4_empty 5 = .ok (.return_, 1) := by decide +kernel
theorem dX4_remember_0 : decode cX4_remember 0 = .ok (.aload_n 0, 1) := by decide +kernel
theorem dX4_remember_1 : decode cX4_remember 1 = .ok (.getfield 22, 3) := by decide +kernel
theorem dX4_remember_4 : decode cX4_remember 4 = .ok (.ifCond .lt 12, 3) := by decide +kernel
theorem dX4_remember_7 : decode cX4_remember 7 = .ok (.aload_n 0, 1) := by decide +kernel
theorem dX4_remember_8 : decode cX4_remember 8 = .ok (.getfield 22, 3) := by decide +kernel
theorem dX4_remember_11 : decode cX4_remember 11 = .ok (.bipush 14, 2) := by decide +kernel
theorem dX4_remember_13 : decode cX4_remember 13 = .ok (.if_icmp .lt 4, 3) := by decide +kernel
theorem dX4_remember_16 : decode cX4_remember 16 = .ok (.return_, 1) := by decide +kernel
theorem dX4_remember_17 : decode cX4_remember 17 = .ok (.aload_n 0, 1) := by decide +kernel
theorem dX4_remember_18 : decode cX4_remember 18 = .ok (.getfield 11, 3) := by decide +kernel
theorem dX4_remember_21 : decode cX4_remember 21 = .ok (.aload_n 0, 1) := by decide +kernel
theorem dX4_remember_22 : decode cX4_remember 22 = .ok (.getfield 22, 3) := by decide +kernel
theorem dX4_remember_25 : decode cX4_remember 25 = .ok (.aaload, 1) := by decide +kernel
theorem dX4_remember_26 : decode cX4_remember 26 = .ok (.aload_n 1, 1) := by decide +kernel
theorem dX4_remember_27 : decode cX4_remember 27 = .ok (.invokevirtual 25, 3) := by decide +kernel
theorem dX4_remember_30 : decode cX4_remember 30 = .ok (.aload_n 0, 1) := by decide +kernel
theorem dX4_remember_31 : decode cX4_remember 31 = .ok (.aload_n 0, 1) := by decide +kernel
theorem dX4_remember_32 : decode cX4_remember 32 = .ok (.getfield 22, 3) := by decide +kernel
theorem dX4_remember_35 : decode cX4_remember 35 = .ok (.iconst 1, 1) := by decide +kernel
theorem dX4_remember_36 : decode cX4_remember 36 = .ok (.iadd, 1) := by decide +kernel
theorem dX4_remember_37 : decode cX4_remember 37 = .ok (.bipush 14, 2) := by decide +kernel
theorem dX4_remember_39 : decode cX4_remember 39 = .ok (.if_icmp .ge 12, 3) := by decide +kernel
theorem dX4_remember_42 : decode cX4_remember 42 = .ok (.aload_n 0, 1) := by decide +kernel
theorem dX4_remember_43 : decode cX4_remember 43 = .ok (.getfield 22, 3) := by decide +kernel
theorem dX4_remember_46 : decode cX4_remember 46 = .ok (.iconst 1, 1) := by decide +kernel
theorem dX4_remember_47 : decode cX4_remember 47 = .ok (.iadd, 1) := by decide +kernel
theorem dX4_remember_48 : decode cX4_remember 48 = .ok (.goto 4, 3) := by decide +kernel
theorem dX4_remember_51 : decode cX4_remember 51 = .ok (.iconst 0, 1) := by decide +kernel
theorem dX4_remember_52 : decode cX4_remember 52 = .ok (.putfield 22, 3) := by decide +kernel
theorem dX4_remember_55 : decode cX4_remember 55 = .ok (.aload_n 0, 1) := by decide +kernel
theorem dX4_remember_56 : decode cX4_remember 56 = .ok (.aload_n 0, 1) := by decide +kernel
theorem dX4_remember_57 : decode cX4_remember 57 = .ok (.getfield 18, 3) := by decide +kernel
theorem dX4_remember_60 : decode cX4_remember 60 = .ok (.iconst 1, 1) := by decide +kernel
theorem dX4_remember_61 : decode cX4_remember 61 = .ok (.iadd, 1) := by decide +kernel
theorem dX4_remember_62 : decode cX4_remember 62 = .ok (.bipush 14, 2) := by decide +kernel
theorem dX4_remember_64 : decode cX4_remember 64 = .ok (.invokestatic 29, 3) := by decide +kernel
theorem dX4_remember_67 : decode cX4_remember 67 = .ok (.putfield 18, 3) := by decide +kernel
theorem dX4_remember_70 : decode cX4_remember 70 = .ok (.return_, 1) := by decide +kernel
theorem dX4_takeBack_0 : decode cX4_takeBack 0 = .ok (.aload_n 0, 1) := by decide +kernel
theorem dX4_takeBack_1 : decode cX4_takeBack 1 = .ok (.getfield 22, 3) := by decide +kernel
theorem dX4_takeBack_4 : decode cX4_takeBack 4 = .ok (.ifCond .le 12, 3) := by decide +kernel
theorem dX4_takeBack_7 : decode cX4_takeBack 7 = .ok (.aload_n 0, 1) := by decide +kernel
theorem dX4_takeBack_8 : decode cX4_takeBack 8 = .ok (.getfield 22, 3) := by decide +kernel
theorem dX4_takeBack_11 : decode cX4_takeBack 11 = .ok (.iconst 1, 1) := by decide +kernel
theorem dX4_takeBack_12 : decode cX4_takeBack 12 = .ok (.isub, 1) := by decide +kernel
theorem dX4_takeBack_13 : decode cX4_takeBack 13 = .ok (.goto 5, 3) := by decide +kernel
theorem dX4_takeBack_16 : decode cX4_takeBack 16 = .ok (.bipush 13, 2) := by decide +kernel
theorem dX4_takeBack_18 : decode cX4_takeBack 18 = .ok (.istore_n 2, 1) := by decide +kernel
theorem dX4_takeBack_19 : decode cX4_takeBack 19 = .ok (.aload_n 0, 1) := by decide +kernel
theorem dX4_takeBack_20 : decode cX4_takeBack 20 = .ok (.getfield 18, 3) := by decide +kernel
theorem dX4_takeBack_23 : decode cX4_takeBack 23 = .ok (.iconst 1, 1) := by decide +kernel
theorem dX4_takeBack_24 : decode cX4_takeBack 24 = .ok (.if_icmp .lt 9, 3) := by decide +kernel
theorem dX4_takeBack_27 : decode cX4_takeBack 27 = .ok (.iload_n 2, 1) := by decide +kernel
theorem dX4_takeBack_28 : decode cX4_takeBack 28 = .ok (.bipush 14, 2) := by decide +kernel
theorem dX4_takeBack_30 : decode cX4_takeBack 30 = .ok (.if_icmp .lt 4, 3) := by decide +kernel
theorem dX4_takeBack_33 : decode cX4_takeBack 33 = .ok (.return_, 1) := by decide +kernel
theorem dX4_takeBack_34 : decode cX4_takeBack 34 = .ok (.aload_n 1, 1) := by decide +kernel
theorem dX4_takeBack_35 : decode cX4_takeBack 35 = .ok (.aload_n 0, 1) := by decide +kernel
theorem dX4_takeBack_36 : decode cX4_takeBack 36 = .ok (.getfield 11, 3) := by decide +kernel
theorem dX4_takeBack_39 : decode cX4_takeBack 39 = .ok (.iload_n 2, 1) := by decide +kernel
theorem dX4_takeBack_40 : decode cX4_takeBack 40 = .ok (.aaload, 1) := by decide +kernel
theorem dX4_takeBack_41 : decode cX4_takeBack 41 = .ok (.invokevirtual 25, 3) := by decide +kernel
theorem dX4_takeBack_44 : decode cX4_takeBack 44 = .ok (.aload_n 0, 1) := by decide +kernel
theorem dX4_takeBack_45 : decode cX4_takeBack 45 = .ok (.iload_n 2, 1) := by decide +kernel
theorem dX4_takeBack_46 : decode cX4_takeBack 46 = .ok (.putfield 22, 3) := by decide +kernel
theorem dX4_takeBack_49 : decode cX4_takeBack 49 = .ok (.aload_n 0, 1) := by decide +kernel
theorem dX4_takeBack_50 : decode cX4_takeBack 50 = .ok (.dup, 1) := by decide +kernel
theorem dX4_takeBack_51 : decode cX4_takeBack 51 = .ok (.getfield 18, 3) := by decide +kernel
theorem dX4_takeBack_54 : decode cX4_takeBack 54 = .ok (.iconst 1, 1) := by decide +kernel
theorem dX4_takeBack_55 : decode cX4_takeBack 55 = .ok (.isub, 1) := by decide +kernel
theorem dX4_takeBack_56 : decode cX4_takeBack 56 = .ok (.putfield 18, 3) := by decide +kernel
theorem dX4_takeBack_59 : decode cX4_takeBack 59 = .ok (.return_, 1) := by decide +kernel
theorem dX5_init_0 : decode cX5_init 0 = .ok (.aload_n 0, 1) := by decide +kernel
theorem dX5_init_1 : decode cX5_init 1 = .ok (.invokespecial 3, 3) := by decide +kernel
theorem dX5_init_4 : decode cX5_init 4 = .ok (.aload_n 0, 1) := by decide +kernel
theorem dX5_init_5 : decode cX5_init 5 = .ok (.bipush 6, 2) := by decide +kernel
theorem dX5_init_7 : decode cX5_init 7 = .ok (.newarray .int, 2) := by decide +kernel
theorem dX5_init_9 : decode cX5_init 9 = .ok (.putfield 9, 3) := by decide +kernel
theorem dX5_init_12 : decode cX5_init 12 = .ok (.aload_n 0, 1) := by decide +kernel
theorem dX5_init_13 : decode cX5_init 13 = .ok (.new 15, 3) := by decide +kernel
theorem dX5_init_16 : decode cX5_init 16 = .ok (.dup, 1) := by decide +kernel
theorem dX5_init_17 : decode cX5_init 17 = .ok (.invokespecial 17, 3) := by decide +kernel
theorem dX5_init_20 : decode cX5_init 20 = .ok (.putfield 18, 3) := by decide +kernel
theorem dX5_init_23 : decode cX5_init 23 = .ok (.aload_n 0, 1) := by decide +kernel
theorem dX5_init_24 : decode cX5_init 24 = .ok (.new 22, 3) := by decide +kernel
theorem dX5_init_27 : decode cX5_init 27 = .ok (.dup, 1) := by decide +kernel
theorem dX5_init_28 : decode cX5_init 28 = .ok (.invokespecial 24, 3) := by decide +kernel
theorem dX5_init_31 : decode cX5_init 31 = .ok (.putfield 25, 3) := by decide +kernel
theorem dX5_init_34 : decode cX5_init 34 = .ok (.return_, 1) := by decide +kernel
theorem dX5_makeNew_0 : decode cX5_makeNew 0 = .ok (.aload_n 0, 1) := by decide +kernel
theorem dX5_makeNew_1 : decode cX5_makeNew 1 = .ok (.invokevirtual 29, 3) := by decide +kernel
theorem dX5_makeNew_4 : decode cX5_makeNew 4 = .ok (.aload_n 0, 1) := by decide +kernel
theorem dX5_makeNew_5 : decode cX5_makeNew 5 = .ok (.getfield 18, 3) := by decide +kernel
theorem dX5_makeNew_8 : decode cX5_makeNew 8 = .ok (.iconst 0, 1) := by decide +kernel
theorem dX5_makeNew_9 : decode cX5_makeNew 9 = .ok (.putfield 32, 3) := by decide +kernel
theorem dX5_makeNew_12 : decode cX5_makeNew 12 = .ok (.aload_n 0, 1) := by decide +kernel
theorem dX5_makeNew_13 : decode cX5_makeNew 13 = .ok (.getfield 25, 3) := by decide +kernel
theorem dX5_makeNew_16 : decode cX5_makeNew 16 = .ok (.iconst 0, 1) := by decide +kernel
theorem dX5_makeNew_17 : decode cX5_makeNew 17 = .ok (.putfield 36, 3) := by decide +kernel
theorem dX5_makeNew_20 : decode cX5_makeNew 20 = .ok (.aload_n 0, 1) := by decide +kernel
theorem dX5_makeNew_21 : decode cX5_makeNew 21 = .ok (.iconst 0, 1) := by decide +kernel
theorem dX5_makeNew_22 : decode cX5_makeNew 22 = .ok (.putfield 37, 3) := by decide +kernel
theorem dX5_makeNew_25 : decode cX5_makeNew 25 = .ok (.aload_n 0, 1) := by decide +kernel
theorem dX5_makeNew_26 : decode cX5_makeNew 26 = .ok (.iconst 0, 1) := by decide +kernel
theorem dX5_makeNew_27 : decode cX5_makeNew 27 = .ok (.putfield 41, 3) := by decide +kernel
theorem dX5_makeNew_30 : decode cX5_makeNew 30 = .ok (.aload_n 0, 1) := by decide +kernel
theorem dX5_makeNew_31 : decode cX5_makeNew 31 = .ok (.iconst 0, 1) := by decide +kernel
theorem dX5_makeNew_32 : decode cX5_makeNew 32 = .ok (.putfield 44, 3) := by decide +kernel
theorem dX5_makeNew_35 : decode cX5_makeNew 35 = .ok (.aload_n 0, 1) := by decide +kernel
theorem dX5_makeNew_36 : decode cX5_makeNew 36 = .ok (.iconst 0, 1) := by decide +kernel
theorem dX5_makeNew_37 : decode cX5_makeNew 37 = .ok (.putfield 47, 3) := by decide +kernel
theorem dX5_makeNew_40 : decode cX5_makeNew 40 = .ok (.aload_n 0, 1) := by decide +kernel
theorem dX5_makeNew_41 : decode cX5_makeNew 41 = .ok (.iconst 0, 1) := by decide +kernel
theorem dX5_makeNew_42 : decode cX5_makeNew 42 = .ok (.putfield 50, 3) := by decide +kernel
theorem dX5_makeNew_45 : decode cX5_makeNew 45 = .ok (.aload_n 0, 1) := by decide +kernel
theorem dX5_makeNew_46 : decode cX5_makeNew 46 = .ok (.iconst 0, 1) := by decide +kernel
theorem dX5_makeNew_47 : decode cX5_makeNew 47 = .ok (.putfield 53, 3) := by decide +kernel
theorem dX5_makeNew_50 : decode cX5_makeNew 50 = .ok (.aload_n 0, 1) := by decide +kernel
theorem dX5_makeNew_51 : decode cX5_makeNew 51 = .ok (.iconst 0, 1) := by decide +kernel
theorem dX5_makeNew_52 : decode cX5_makeNew 52 = .ok (.putfield 56, 3) := by decide +kernel
theorem dX5_makeNew_55 : decode cX5_makeNew 55 = .ok (.return_, 1) := by decide +kernel
theorem dX5_copyFrom_0 : decode cX5_copyFrom 0 = .ok (.iconst 0, 1) := by decide +kernel
theorem dX5_copyFrom_1 : decode cX5_copyFrom 1 = .ok (.istore_n 2, 1) := by decide +kernel
theorem dX5_copyFrom_2 : decode cX5_copyFrom 2 = .ok (.iload_n 2, 1) := by decide +kernel
theorem dX5_copyFrom_3 : decode cX5_copyFrom 3 = .ok (.bipush 6, 2) := by decide +kernel
theorem dX5_copyFrom_5 : decode cX5_copyFrom 5 = .ok (.if_icmp .ge 21, 3) := by decide +kernel
theorem dX5_copyFrom_8 : decode cX5_copyFrom 8 = .ok (.aload_n 0, 1) := by decide +kernel
theorem dX5_copyFrom_9 : decode cX5_copyFrom 9 = .ok (.getfield 9, 3) := by decide +kernel
theorem dX5_copyFrom_12 : decode cX5_copyFrom 12 = .ok (.iload_n 2, 1) := by decide +kernel
theorem dX5_copyFrom_13 : decode cX5_copyFrom 13 = .ok (.aload_n 1, 1) := by decide +kernel
theorem dX5_copyFrom_14 : decode cX5_copyFrom 14 = .ok (.getfield 9, 3) := by decide +kernel
theorem dX5_copyFrom_17 : decode cX5_copyFrom 17 = .ok (.iload_n 2, 1) := by decide +kernel
theorem dX5_copyFrom_18 : decode cX5_copyFrom 18 = .ok (.iaload, 1) := by decide +kernel
theorem dX5_copyFrom_19 : decode cX5_copyFrom 19 = .ok (.iastore, 1) := by decide +kernel
theorem dX5_copyFrom_20 : decode cX5_copyFrom 20 = .ok (.iinc 2 1, 3) := by decide +kernel
theorem dX5_copyFrom_23 : decode cX5_copyFrom 23 = .ok (.goto (-21), 3) := by decide +kernel
theorem dX5_copyFrom_26 : decode cX5_copyFrom 26 = .ok (.aload_n 0, 1) := by decide +kernel
theorem dX5_copyFrom_27 : decode cX5_copyFrom 27 = .ok (.getfield 18, 3) := by decide +kernel
theorem dX5_copyFrom_30 : decode cX5_copyFrom 30 = .ok (.aload_n 1, 1) := by decide +kernel
theorem dX5_copyFrom_31 : decode cX5_copyFrom 31 = .ok (.getfield 18, 3) := by decide +kernel
theorem dX5_copyFrom_34 : decode cX5_copyFrom 34 = .ok (.invokevirtual 59, 3) := by decide +kernel
theorem dX5_copyFrom_37 : decode cX5_copyFrom 37 = .ok (.aload_n 0, 1) := by decide +kernel
theorem dX5_copyFrom_38 : decode cX5_copyFrom 38 = .ok (.getfield 25, 3) := by decide +kernel
theorem dX5_copyFrom_41 : decode cX5_copyFrom 41 = .ok (.aload_n 1, 1) := by decide +kernel
theorem dX5_copyFrom_42 : decode cX5_copyFrom 42 = .ok (.getfield 25, 3) := by decide +kernel
theorem dX5_copyFrom_45 : decode cX5_copyFrom 45 = .ok (.invokevirtual 63, 3) := by decide +kernel
theorem dX5_copyFrom_48 : decode cX5_copyFrom 48 = .ok (.aload_n 0, 1) := by decide +kernel
theorem dX5_copyFrom_49 : decode cX5_copyFrom 49 = .ok (.aload_n 1, 1) := by decide +kernel
theorem dX5_copyFrom_50 : decode cX5_copyFrom 50 = .ok (.getfield 37, 3) := by decide +kernel
theorem dX5_copyFrom_53 : decode cX5_copyFrom 53 = .ok (.putfield 37, 3) := by decide +kernel
theorem dX5_copyFrom_56 : decode cX5_copyFrom 56 = .ok (.aload_n 0, 1) := by decide +kernel
theorem dX5_copyFrom_57 : decode cX5_copyFrom 57 = .ok (.aload_n 1, 1) := by decide +kernel
theorem dX5_copyFrom_58 : decode cX5_copyFrom 58 = .ok (.getfield 41, 3) := by decide +kernel
theorem dX5_copyFrom_61 : decode cX5_copyFrom 61 = .ok (.putfield 41, 3) := by decide +kernel
theorem dX5_copyFrom_64 : decode cX5_copyFrom 64 = .ok (.aload_n 0, 1) := by decide +kernel
theorem dX5_copyFrom_65 : decode cX5_copyFrom 65 = .ok (.aload_n 1, 1) := by decide +kernel
theorem dX5_copyFrom_66 : decode cX5_copyFrom 66 = .ok (.getfield 44, 3) := by decide +kernel
theorem dX5_copyFrom_69 : decode cX5_copyFrom 69 = .ok (.putfield 44, 3) := by decide +kernel
theorem dX5_copyFrom_72 : decode cX5_copyFrom 72 = .ok (.aload_n 0, 1) := by decide +kernel
theorem dX5_copyFrom_73 : decode cX5_copyFrom 73 = .ok (.aload_n 1, 1) := by decide +kernel
theorem dX5_copyFrom_74 : decode cX5_copyFrom 74 = .ok (.getfield 47, 3) := by decide +kernel
theorem dX5_copyFrom_77 : decode cX5_copyFrom 77 = .ok (.putfield 47, 3) := by decide +kernel
theorem dX5_copyFrom_80 : decode cX5_copyFrom 80 = .ok (.aload_n 0, 1) := by decide +kernel
theorem dX5_copyFrom_81 : decode cX5_copyFrom 81 = .ok (.aload_n 1, 1) := by decide +kernel
theorem dX5_copyFrom_82 : decode cX5_copyFrom 82 = .ok (.getfield 50, 3) := by decide +kernel
theorem dX5_copyFrom_85 : decode cX5_copyFrom 85 = .ok (.putfield 50, 3) := by decide +kernel
theorem dX5_copyFrom_88 : decode cX5_copyFrom 88 = .ok (.aload_n 0, 1) := by decide +kernel
theorem dX5_copyFrom_89 : decode cX5_copyFrom 89 = .ok (.aload_n 1, 1) := by decide +kernel
theorem dX5_copyFrom_90 : decode cX5_copyFrom 90 = .ok (.getfield 53, 3) := by decide +kernel
theorem dX5_copyFrom_93 : decode cX5_copyFrom 93 = .ok (.putfield 53, 3) := by decide +kernel
theorem dX5_copyFrom_96 : decode cX5_copyFrom 96 = .ok (.aload_n 0, 1) := by decide +kernel
theorem dX5_copyFrom_97 : decode cX5_copyFrom 97 = .ok (.aload_n 1, 1) := by decide +kernel
theorem dX5_copyFrom_98 : decode cX5_copyFrom 98 = .ok (.getfield 56, 3) := by decide +kernel
theorem dX5_copyFrom_101 : decode cX5_copyFrom 101 = .ok (.putfield 56, 3) := by decide +kernel
theorem dX5_copyFrom_104 : decode cX5_copyFrom 104 = .ok (.return_, 1) := by decide +kernel
theorem dX5_debts_0 : decode cX5_debts 0 = .ok (.iconst 0, 1) := by decide +kernel
theorem dX5_debts_1 : decode cX5_debts 1 = .ok (.istore_n 1, 1) := by decide +kernel
theorem dX5_debts_2 : decode cX5_debts 2 = .ok (.iconst 0, 1) := by decide +kernel
theorem dX5_debts_3 : decode cX5_debts 3 = .ok (.istore_n 2, 1) := by decide +kernel
theorem dX5_debts_4 : decode cX5_debts 4 = .ok (.iload_n 2, 1) := by decide +kernel
theorem dX5_debts_5 : decode cX5_debts 5 = .ok (.bipush 6, 2) := by decide +kernel
theorem dX5_debts_7 : decode cX5_debts 7 = .ok (.if_icmp .ge 18, 3) := by decide +kernel
theorem dX5_debts_10 : decode cX5_debts 10 = .ok (.iload_n 1, 1) := by decide +kernel
theorem dX5_debts_11 : decode cX5_debts 11 = .ok (.aload_n 0, 1) := by decide +kernel
theorem dX5_debts_12 : decode cX5_debts 12 = .ok (.getfield 9, 3) := by decide +kernel
theorem dX5_debts_15 : decode cX5_debts 15 = .ok (.iload_n 2, 1) := by decide +kernel
theorem dX5_debts_16 : decode cX5_debts 16 = .ok (.iaload, 1) := by decide +kernel
theorem dX5_debts_17 : decode cX5_debts 17 = .ok (.iadd, 1) := by decide +kernel
theorem dX5_debts_18 : decode cX5_debts 18 = .ok (.istore_n 1, 1) := by decide +kernel
theorem dX5_debts_19 : decode cX5_debts 19 = .ok (.iinc 2 1, 3) := by decide +kernel
theorem dX5_debts_22 : decode cX5_debts 22 = .ok (.goto (-18), 3) := by decide +kernel
theorem dX5_debts_25 : decode cX5_debts 25 = .ok (.iload_n 1, 1) := by decide +kernel
theorem dX5_debts_26 : decode cX5_debts 26 = .ok (.ireturn, 1) := by decide +kernel
theorem dX5_forgetDebts_0 : decode cX5_forgetDebts 0 = .ok (.iconst 0, 1) := by decide +kernel
theorem dX5_forgetDebts_1 : decode cX5_forgetDebts 1 = .ok (.istore_n 1, 1) := by decide +kernel
theorem dX5_forgetDebts_2 : decode cX5_forgetDebts 2 = .ok (.iload_n 1, 1) := by decide +kernel
theorem dX5_forgetDebts_3 : decode cX5_forgetDebts 3 = .ok (.bipush 6, 2) := by decide +kernel
theorem dX5_forgetDebts_5 : decode cX5_forgetDebts 5 = .ok (.if_icmp .ge 16, 3) := by decide +kernel
theorem dX5_forgetDebts_8 : decode cX5_forgetDebts 8 = .ok (.aload_n 0, 1) := by decide +kernel
theorem dX5_forgetDebts_9 : decode cX5_forgetDebts 9 = .ok (.getfield 9, 3) := by decide +kernel
theorem dX5_forgetDebts_12 : decode cX5_forgetDebts 12 = .ok (.iload_n 1, 1) := by decide +kernel
theorem dX5_forgetDebts_13 : decode cX5_forgetDebts 13 = .ok (.iconst 0, 1) := by decide +kernel
theorem dX5_forgetDebts_14 : decode cX5_forgetDebts 14 = .ok (.iastore, 1) := by decide +kernel
theorem dX5_forgetDebts_15 : decode cX5_forgetDebts 15 = .ok (.iinc 1 1, 3) := by decide +kernel
theorem dX5_forgetDebts_18 : decode cX5_forgetDebts 18 = .ok (.goto (-16), 3) := by decide +kernel
theorem dX5_forgetDebts_21 : decode cX5_forgetDebts 21 = .ok (.return_, 1) := by decide +kernel
theorem dX5_takesBursts_0 : decode cX5_takesBursts 0 = .ok (.aload_n 0, 1) := by decide +kernel
theorem dX5_takesBursts_1 : decode cX5_takesBursts 1 = .ok (.getfield 37, 3) := by decide +kernel
theorem dX5_takesBursts_4 : decode cX5_takesBursts 4 = .ok (.ifCond .ne 17, 3) := by decide +kernel
theorem dX5_takesBursts_7 : decode cX5_takesBursts 7 = .ok (.aload_n 0, 1) := by decide +kernel
theorem dX5_takesBursts_8 : decode cX5_takesBursts 8 = .ok (.getfield 18, 3) := by decide +kernel
theorem dX5_takesBursts_11 : decode cX5_takesBursts 11 = .ok (.invokevirtual 66, 3) := by decide +kernel
theorem dX5_takesBursts_14 : decode cX5_takesBursts 14 = .ok (.ifCond .ne 7, 3) := by decide +kernel
theorem dX5_takesBursts_17 : decode cX5_takesBursts 17 = .ok (.iconst 1, 1) := by decide +kernel
theorem dX5_takesBursts_18 : decode cX5_takesBursts 18 = .ok (.goto 4, 3) := by decide +kernel
theorem dX5_takesBursts_21 : decode cX5_takesBursts 21 = .ok (.iconst 0, 1) := by decide +kernel
theorem dX5_takesBursts_22 : decode cX5_takesBursts 22 = .ok (.ireturn, 1) := by decide +kernel
theorem dX5_isDone_0 : decode cX5_isDone 0 = .ok (.aload_n 0, 1) := by decide +kernel
theorem dX5_isDone_1 : decode cX5_isDone 1 = .ok (.getfield 18, 3) := by decide +kernel
theorem dX5_isDone_4 : decode cX5_isDone 4 = .ok (.getfield 32, 3) := by decide +kernel
theorem dX5_isDone_7 : decode cX5_isDone 7 = .ok (.ifCond .ne 17, 3) := by decide +kernel
theorem dX5_isDone_10 : decode cX5_isDone 10 = .ok (.aload_n 0, 1) := by decide +kernel
theorem dX5_isDone_11 : decode cX5_isDone 11 = .ok (.getfield 25, 3) := by decide +kernel
theorem dX5_isDone_14 : decode cX5_isDone 14 = .ok (.getfield 36, 3) := by decide +kernel
theorem dX5_isDone_17 : decode cX5_isDone 17 = .ok (.ifCond .ne 7, 3) := by decide +kernel
theorem dX5_isDone_20 : decode cX5_isDone 20 = .ok (.iconst 1, 1) := by decide +kernel
theorem dX5_isDone_21 : decode cX5_isDone 21 = .ok (.goto 4, 3) := by decide +kernel
theorem dX5_isDone_24 : decode cX5_isDone 24 = .ok (.iconst 0, 1) := by decide +kernel
theorem dX5_isDone_25 : decode cX5_isDone 25 = .ok (.ireturn, 1) := by decide +kernel
theorem dX5_lookForWork_0 : decode cX5_lookForWork 0 = .ok (.aload_n 0, 1) := by decide +kernel
theorem dX5_lookForWork_1 : decode cX5_lookForWork 1 = .ok (.aload_n 0, 1) := by decide +kernel
theorem dX5_lookForWork_2 : decode cX5_lookForWork 2 = .ok (.getfield 18, 3) := by decide +kernel
theorem dX5_lookForWork_5 : decode cX5_lookForWork 5 = .ok (.getfield 32, 3) := by decide +kernel
theorem dX5_lookForWork_8 : decode cX5_lookForWork 8 = .ok (.ifCond .gt 16, 3) := by decide +kernel
theorem dX5_lookForWork_11 : decode cX5_lookForWork 11 = .ok (.aload_n 0, 1) := by decide +kernel
theorem dX5_lookForWork_12 : decode cX5_lookForWork 12 = .ok (.getfield 25, 3) := by decide +kernel
theorem dX5_lookForWork_15 : decode cX5_lookForWork 15 = .ok (.iload_n 1, 1) := by decide +kernel
theorem dX5_lookForWork_16 : decode cX5_lookForWork 16 = .ok (.invokevirtual 70, 3) := by decide +kernel
theorem dX5_lookForWork_19 : decode cX5_lookForWork 19 = .ok (.bipush (-9), 2) := by decide +kernel
theorem dX5_lookForWork_21 : decode cX5_lookForWork 21 = .ok (.if_icmp .eq 7, 3) := by decide +kernel
theorem dX5_lookForWork_24 : decode cX5_lookForWork 24 = .ok (.iconst 1, 1) := by decide +kernel
theorem dX5_lookForWork_25 : decode cX5_lookForWork 25 = .ok (.goto 4, 3) := by decide +kernel
theorem dX5_lookForWork_28 : decode cX5_lookForWork 28 = .ok (.iconst 0, 1) := by decide +kernel
theorem dX5_lookForWork_29 : decode cX5_lookForWork 29 = .ok (.putfield 74, 3) := by decide +kernel
theorem dX5_lookForWork_32 : decode cX5_lookForWork 32 = .ok (.return_, 1) := by decide +kernel
theorem dX5_countWait_0 : decode cX5_countWait 0 = .ok (.aload_n 0, 1) := by decide +kernel
theorem dX5_countWait_1 : decode cX5_countWait 1 = .ok (.aload_n 0, 1) := by decide +kernel
theorem dX5_countWait_2 : decode cX5_countWait 2 = .ok (.getfield 74, 3) := by decide +kernel
theorem dX5_countWait_5 : decode cX5_countWait 5 = .ok (.ifCond .eq 16, 3) := by decide +kernel
theorem dX5_countWait_8 : decode cX5_countWait 8 = .ok (.iload_n 1, 1) := by decide +kernel
theorem dX5_countWait_9 : decode cX5_countWait 9 = .ok (.ifCond .ne 12, 3) := by decide +kernel
theorem dX5_countWait_12 : decode cX5_countWait 12 = .ok (.aload_n 0, 1) := by decide +kernel
theorem dX5_countWait_13 : decode cX5_countWait 13 = .ok (.getfield 41, 3) := by decide +kernel
theorem dX5_countWait_16 : decode cX5_countWait 16 = .ok (.iconst 1, 1) := by decide +kernel
theorem dX5_countWait_17 : decode cX5_countWait 17 = .ok (.iadd, 1) := by decide +kernel
theorem dX5_countWait_18 : decode cX5_countWait 18 = .ok (.goto 4, 3) := by decide +kernel
theorem dX5_countWait_21 : decode cX5_countWait 21 = .ok (.iconst 0, 1) := by decide +kernel
theorem dX5_countWait_22 : decode cX5_countWait 22 = .ok (.putfield 41, 3) := by decide +kernel
theorem dX5_countWait_25 : decode cX5_countWait 25 = .ok (.aload_n 0, 1) := by decide +kernel
theorem dX5_countWait_26 : decode cX5_countWait 26 = .ok (.aload_n 0, 1) := by decide +kernel
theorem dX5_countWait_27 : decode cX5_countWait 27 = .ok (.getfield 44, 3) := by decide +kernel
theorem dX5_countWait_30 : decode cX5_countWait 30 = .ok (.aload_n 0, 1) := by decide +kernel
theorem dX5_countWait_31 : decode cX5_countWait 31 = .ok (.getfield 41, 3) := by decide +kernel
theorem dX5_countWait_34 : decode cX5_countWait 34 = .ok (.invokestatic 77, 3) := by decide +kernel
theorem dX5_countWait_37 : decode cX5_countWait 37 = .ok (.putfield 44, 3) := by decide +kernel
theorem dX5_countWait_40 : decode cX5_countWait 40 = .ok (.return_, 1) := by decide +kernel
theorem dX5_goBankrupt_0 : decode cX5_goBankrupt 0 = .ok (.aload_n 0, 1) := by decide +kernel
theorem dX5_goBankrupt_1 : decode cX5_goBankrupt 1 = .ok (.iconst 1, 1) := by decide +kernel
theorem dX5_goBankrupt_2 : decode cX5_goBankrupt 2 = .ok (.putfield 37, 3) := by decide +kernel
theorem dX5_goBankrupt_5 : decode cX5_goBankrupt 5 = .ok (.aload_n 0, 1) := by decide +kernel
theorem dX5_goBankrupt_6 : decode cX5_goBankrupt 6 = .ok (.invokevirtual 29, 3) := by decide +kernel
theorem dX5_goBankrupt_9 : decode cX5_goBankrupt 9 = .ok (.aload_n 0, 1) := by decide +kernel
theorem dX5_goBankrupt_10 : decode cX5_goBankrupt 10 = .ok (.getfield 18, 3) := by decide +kernel
theorem dX5_goBankrupt_13 : decode cX5_goBankrupt 13 = .ok (.iconst 0, 1) := by decide +kernel
theorem dX5_goBankrupt_14 : decode cX5_goBankrupt 14 = .ok (.putfield 32, 3) := by decide +kernel
theorem dX5_goBankrupt_17 : decode cX5_goBankrupt 17 = .ok (.aload_n 0, 1) := by decide +kernel
theorem dX5_goBankrupt_18 : decode cX5_goBankrupt 18 = .ok (.getfield 25, 3) := by decide +kernel
theorem dX5_goBankrupt_21 : decode cX5_goBankrupt 21 = .ok (.iconst 0, 1) := by decide +kernel
theorem dX5_goBankrupt_22 : decode cX5_goBankrupt 22 = .ok (.putfield 36, 3) := by decide +kernel
theorem dX5_goBankrupt_25 : decode cX5_goBankrupt 25 = .ok (.return_, 1) := by decide +kernel
theorem dX2_init_0 : decode cX2_init 0 = .ok (.aload_n 0, 1) := by decide +kernel
theorem dX2_init_1 : decode cX2_init 1 = .ok (.invokespecial 3, 3) := by decide +kernel
theorem dX2_init_4 : decode cX2_init 4 = .ok (.aload_n 0, 1) := by decide +kernel
theorem dX2_init_5 : decode cX2_init 5 = .ok (.bipush 16, 2) := by decide +kernel
theorem dX2_init_7 : decode cX2_init 7 = .ok (.newarray .int, 2) := by decide +kernel
theorem dX2_init_9 : decode cX2_init 9 = .ok (.putfield 9, 3) := by decide +kernel
theorem dX2_init_12 : decode cX2_init 12 = .ok (.aload_n 0, 1) := by decide +kernel
theorem dX2_init_13 : decode cX2_init 13 = .ok (.iconst 4, 1) := by decide +kernel
theorem dX2_init_14 : decode cX2_init 14 = .ok (.newarray .int, 2) := by decide +kernel
theorem dX2_init_16 : decode cX2_init 16 = .ok (.putfield 15, 3) := by decide +kernel
theorem dX2_init_19 : decode cX2_init 19 = .ok (.aload_n 0, 1) := by decide +kernel
theorem dX2_init_20 : decode cX2_init 20 = .ok (.bipush 6, 2) := by decide +kernel
theorem dX2_init_22 : decode cX2_init 22 = .ok (.anewarray 18, 3) := by decide +kernel
theorem dX2_init_25 : decode cX2_init 25 = .ok (.putfield 20, 3) := by decide +kernel
theorem dX2_init_28 : decode cX2_init 28 = .ok (.iconst 0, 1) := by decide +kernel
theorem dX2_init_29 : decode cX2_init 29 = .ok (.istore_n 1, 1) := by decide +kernel
theorem dX2_init_30 : decode cX2_init 30 = .ok (.iload_n 1, 1) := by decide +kernel
theorem dX2_init_31 : decode cX2_init 31 = .ok (.bipush 6, 2) := by decide +kernel
theorem dX2_init_33 : decode cX2_init 33 = .ok (.if_icmp .ge 22, 3) := by decide +kernel
theorem dX2_init_36 : decode cX2_init 36 = .ok (.aload_n 0, 1) := by decide +kernel
theorem dX2_init_37 : decode cX2_init 37 = .ok (.getfield 20, 3) := by decide +kernel
theorem dX2_init_40 : decode cX2_init 40 = .ok (.iload_n 1, 1) := by decide +kernel
theorem dX2_init_41 : decode cX2_init 41 = .ok (.new 18, 3) := by decide +kernel
theorem dX2_init_44 : decode cX2_init 44 = .ok (.dup, 1) := by decide +kernel
theorem dX2_init_45 : decode cX2_init 45 = .ok (.invokespecial 24, 3) := by decide +kernel
theorem dX2_init_48 : decode cX2_init 48 = .ok (.aastore, 1) := by decide +kernel
theorem dX2_init_49 : decode cX2_init 49 = .ok (.iinc 1 1, 3) := by decide +kernel
theorem dX2_init_52 : decode cX2_init 52 = .ok (.goto (-22), 3) := by decide +kernel
theorem dX2_init_55 : decode cX2_init 55 = .ok (.aload_n 0, 1) := by decide +kernel
theorem dX2_init_56 : decode cX2_init 56 = .ok (.iconst 2, 1) := by decide +kernel
theorem dX2_init_57 : decode cX2_init 57 = .ok (.iconst 4, 1) := by decide +kernel
theorem dX2_init_58 : decode cX2_init 58 = .ok (.invokevirtual 25, 3) := by decide +kernel
theorem dX2_init_61 : decode cX2_init 61 = .ok (.return_, 1) := by decide +kernel
theorem dX2_makeNew_0 : decode cX2_makeNew 0 = .ok (.aload_n 0, 1) := by decide +kernel
theorem dX2_makeNew_1 : decode cX2_makeNew 1 = .ok (.iload_n 1, 1) := by decide +kernel
theorem dX2_makeNew_2 : decode cX2_makeNew 2 = .ok (.iconst 2, 1) := by decide +kernel
theorem dX2_makeNew_3 : decode cX2_makeNew 3 = .ok (.invokestatic 29, 3) := by decide +kernel
theorem dX2_makeNew_6 : decode cX2_makeNew 6 = .ok (.bipush 6, 2) := by decide +kernel
theorem dX2_makeNew_8 : decode cX2_makeNew 8 = .ok (.invokestatic 35, 3) := by decide +kernel
theorem dX2_makeNew_11 : decode cX2_makeNew 11 = .ok (.putfield 38, 3) := by decide +kernel
theorem dX2_makeNew_14 : decode cX2_makeNew 14 = .ok (.aload_n 0, 1) := by decide +kernel
theorem dX2_makeNew_15 : decode cX2_makeNew 15 = .ok (.iload_n 2, 1) := by decide +kernel
theorem dX2_makeNew_16 : decode cX2_makeNew 16 = .ok (.iconst 2, 1) := by decide +kernel
theorem dX2_makeNew_17 : decode cX2_makeNew 17 = .ok (.invokestatic 29, 3) := by decide +kernel
theorem dX2_makeNew_20 : decode cX2_makeNew 20 = .ok (.bipush 16, 2) := by decide +kernel
theorem dX2_makeNew_22 : decode cX2_makeNew 22 = .ok (.invokestatic 35, 3) := by decide +kernel
theorem dX2_makeNew_25 : decode cX2_makeNew 25 = .ok (.putfield 42, 3) := by decide +kernel
theorem dX2_makeNew_28 : decode cX2_makeNew 28 = .ok (.aload_n 0, 1) := by decide +kernel
theorem dX2_makeNew_29 : decode cX2_makeNew 29 = .ok (.iconst 0, 1) := by decide +kernel
theorem dX2_makeNew_30 : decode cX2_makeNew 30 = .ok (.putfield 45, 3) := by decide +kernel
theorem dX2_makeNew_33 : decode cX2_makeNew 33 = .ok (.aload_n 0, 1) := by decide +kernel
theorem dX2_makeNew_34 : decode cX2_makeNew 34 = .ok (.iconst 0, 1) := by decide +kernel
theorem dX2_makeNew_35 : decode cX2_makeNew 35 = .ok (.putfield 48, 3) := by decide +kernel
theorem dX2_makeNew_38 : decode cX2_makeNew 38 = .ok (.aload_n 0, 1) := by decide +kernel
theorem dX2_makeNew_39 : decode cX2_makeNew 39 = .ok (.iconst 4, 1) := by decide +kernel
theorem dX2_makeNew_40 : decode cX2_makeNew 40 = .ok (.putfield 51, 3) := by decide +kernel
theorem dX2_makeNew_43 : decode cX2_makeNew 43 = .ok (.aload_n 0, 1) := by decide +kernel
theorem dX2_makeNew_44 : decode cX2_makeNew 44 = .ok (.bipush (-9), 2) := by decide +kernel
theorem dX2_makeNew_46 : decode cX2_makeNew 46 = .ok (.putfield 54, 3) := by decide +kernel
theorem dX2_makeNew_49 : decode cX2_makeNew 49 = .ok (.iconst 0, 1) := by decide +kernel
theorem dX2_makeNew_50 : decode cX2_makeNew 50 = .ok (.istore_n 3, 1) := by decide +kernel
theorem dX2_makeNew_51 : decode cX2_makeNew 51 = .ok (.iload_n 3, 1) := by decide +kernel
theorem dX2_makeNew_52 : decode cX2_makeNew 52 = .ok (.aload_n 0, 1) := by decide +kernel
theorem dX2_makeNew_53 : decode cX2_makeNew 53 = .ok (.getfield 42, 3) := by decide +kernel
theorem dX2_makeNew_56 : decode cX2_makeNew 56 = .ok (.if_icmp .ge 21, 3) := by decide +kernel
theorem dX2_makeNew_59 : decode cX2_makeNew 59 = .ok (.aload_n 0, 1) := by decide +kernel
theorem dX2_makeNew_60 : decode cX2_makeNew 60 = .ok (.getfield 9, 3) := by decide +kernel
theorem dX2_makeNew_63 : decode cX2_makeNew 63 = .ok (.iload_n 3, 1) := by decide +kernel
theorem dX2_makeNew_64 : decode cX2_makeNew 64 = .ok (.iload_n 3, 1) := by decide +kernel
theorem dX2_makeNew_65 : decode cX2_makeNew 65 = .ok (.aload_n 0, 1) := by decide +kernel
theorem dX2_makeNew_66 : decode cX2_makeNew 66 = .ok (.getfield 38, 3) := by decide +kernel
theorem dX2_makeNew_69 : decode cX2_makeNew 69 = .ok (.irem, 1) := by decide +kernel
theorem dX2_makeNew_70 : decode cX2_makeNew 70 = .ok (.iastore, 1) := by decide +kernel
theorem dX2_makeNew_71 : decode cX2_makeNew 71 = .ok (.iinc 3 1, 3) := by decide +kernel
theorem dX2_makeNew_74 : decode cX2_makeNew 74 = .ok (.goto (-23), 3) := by decide +kernel
theorem dX2_makeNew_77 : decode cX2_makeNew 77 = .ok (.iconst 0, 1) := by decide +kernel
theorem dX2_makeNew_78 : decode cX2_makeNew 78 = .ok (.istore_n 3, 1) := by decide +kernel
theorem dX2_makeNew_79 : decode cX2_makeNew 79 = .ok (.iload_n 3, 1) := by decide +kernel
theorem dX2_makeNew_80 : decode cX2_makeNew 80 = .ok (.iconst 4, 1) := by decide +kernel
theorem dX2_makeNew_81 : decode cX2_makeNew 81 = .ok (.if_icmp .ge 16, 3) := by decide +kernel
theorem dX2_makeNew_84 : decode cX2_makeNew 84 = .ok (.aload_n 0, 1) := by decide +kernel
theorem dX2_makeNew_85 : decode cX2_makeNew 85 = .ok (.getfield 15, 3) := by decide +kernel
theorem dX2_makeNew_88 : decode cX2_makeNew 88 = .ok (.iload_n 3, 1) := by decide +kernel
theorem dX2_makeNew_89 : decode cX2_makeNew 89 = .ok (.iconst 2, 1) := by decide +kernel
theorem dX2_makeNew_90 : decode cX2_makeNew 90 = .ok (.iastore, 1) := by decide +kernel
theorem dX2_makeNew_91 : decode cX2_makeNew 91 = .ok (.iinc 3 1, 3) := by decide +kernel
theorem dX2_makeNew_94 : decode cX2_makeNew 94 = .ok (.goto (-15), 3) := by decide +kernel
theorem dX2_makeNew_97 : decode cX2_makeNew 97 = .ok (.iconst 0, 1) := by decide +kernel
theorem dX2_makeNew_98 : decode cX2_makeNew 98 = .ok (.istore_n 3, 1) := by decide +kernel
theorem dX2_makeNew_99 : decode cX2_makeNew 99 = .ok (.iload_n 3, 1) := by decide +kernel
theorem dX2_makeNew_100 : decode cX2_makeNew 100 = .ok (.bipush 6, 2) := by decide +kernel
theorem dX2_makeNew_102 : decode cX2_makeNew 102 = .ok (.if_icmp .ge 18, 3) := by decide +kernel
theorem dX2_makeNew_105 : decode cX2_makeNew 105 = .ok (.aload_n 0, 1) := by decide +kernel
theorem dX2_makeNew_106 : decode cX2_makeNew 106 = .ok (.getfield 20, 3) := by decide +kernel
theorem dX2_makeNew_109 : decode cX2_makeNew 109 = .ok (.iload_n 3, 1) := by decide +kernel
theorem dX2_makeNew_110 : decode cX2_makeNew 110 = .ok (.aaload, 1) := by decide +kernel
theorem dX2_makeNew_111 : decode cX2_makeNew 111 = .ok (.invokevirtual 57, 3) := by decide +kernel
theorem dX2_makeNew_114 : decode cX2_makeNew 114 = .ok (.iinc 3 1, 3) := by decide +kernel
theorem dX2_makeNew_117 : decode cX2_makeNew 117 = .ok (.goto (-18), 3) := by decide +kernel
theorem dX2_makeNew_120 : decode cX2_makeNew 120 = .ok (.return_, 1) := by decide +kernel
theorem dX2_copyFrom_0 : decode cX2_copyFrom 0 = .ok (.aload_n 0, 1) := by decide +kernel
theorem dX2_copyFrom_1 : decode cX2_copyFrom 1 = .ok (.aload_n 1, 1) := by decide +kernel
theorem dX2_copyFrom_2 : decode cX2_copyFrom 2 = .ok (.getfield 38, 3) := by decide +kernel
theorem dX2_copyFrom_5 : decode cX2_copyFrom 5 = .ok (.putfield 38, 3) := by decide +kernel
theorem dX2_copyFrom_8 : decode cX2_copyFrom 8 = .ok (.aload_n 0, 1) := by decide +kernel
theorem dX2_copyFrom_9 : decode cX2_copyFrom 9 = .ok (.aload_n 1, 1) := by decide +kernel
theorem dX2_copyFrom_10 : decode cX2_copyFrom 10 = .ok (.getfield 42, 3) := by decide +kernel
theorem dX2_copyFrom_13 : decode cX2_copyFrom 13 = .ok (.putfield 42, 3) := by decide +kernel
theorem dX2_copyFrom_16 : decode cX2_copyFrom 16 = .ok (.aload_n 0, 1) := by decide +kernel
theorem dX2_copyFrom_17 : decode cX2_copyFrom 17 = .ok (.aload_n 1, 1) := by decide +kernel
theorem dX2_copyFrom_18 : decode cX2_copyFrom 18 = .ok (.getfield 45, 3) := by decide +kernel
theorem dX2_copyFrom_21 : decode cX2_copyFrom 21 = .ok (.putfield 45, 3) := by decide +kernel
theorem dX2_copyFrom_24 : decode cX2_copyFrom 24 = .ok (.aload_n 0, 1) := by decide +kernel
theorem dX2_copyFrom_25 : decode cX2_copyFrom 25 = .ok (.aload_n 1, 1) := by decide +kernel
theorem dX2_copyFrom_26 : decode cX2_copyFrom 26 = .ok (.getfield 48, 3) := by decide +kernel
theorem dX2_copyFrom_29 : decode cX2_copyFrom 29 = .ok (.putfield 48, 3) := by decide +kernel
theorem dX2_copyFrom_32 : decode cX2_copyFrom 32 = .ok (.aload_n 0, 1) := by decide +kernel
theorem dX2_copyFrom_33 : decode cX2_copyFrom 33 = .ok (.aload_n 1, 1) := by decide +kernel
theorem dX2_copyFrom_34 : decode cX2_copyFrom 34 = .ok (.getfield 51, 3) := by decide +kernel
theorem dX2_copyFrom_37 : decode cX2_copyFrom 37 = .ok (.putfield 51, 3) := by decide +kernel
theorem dX2_copyFrom_40 : decode cX2_copyFrom 40 = .ok (.aload_n 0, 1) := by decide +kernel
theorem dX2_copyFrom_41 : decode cX2_copyFrom 41 = .ok (.aload_n 1, 1) := by decide +kernel
theorem dX2_copyFrom_42 : decode cX2_copyFrom 42 = .ok (.getfield 54, 3) := by decide +kernel
theorem dX2_copyFrom_45 : decode cX2_copyFrom 45 = .ok (.putfield 54, 3) := by decide +kernel
theorem dX2_copyFrom_48 : decode cX2_copyFrom 48 = .ok (.iconst 0, 1) := by decide +kernel
theorem dX2_copyFrom_49 : decode cX2_copyFrom 49 = .ok (.istore_n 2, 1) := by decide +kernel
theorem dX2_copyFrom_50 : decode cX2_copyFrom 50 = .ok (.iload_n 2, 1) := by decide +kernel
theorem dX2_copyFrom_51 : decode cX2_copyFrom 51 = .ok (.bipush 16, 2) := by decide +kernel
theorem dX2_copyFrom_53 : decode cX2_copyFrom 53 = .ok (.if_icmp .ge 21, 3) := by decide +kernel
theorem dX2_copyFrom_56 : decode cX2_copyFrom 56 = .ok (.aload_n 0, 1) := by decide +kernel
theorem dX2_copyFrom_57 : decode cX2_copyFrom 57 = .ok (.getfield 9, 3) := by decide +kernel
theorem dX2_copyFrom_60 : decode cX2_copyFrom 60 = .ok (.iload_n 2, 1) := by decide +kernel
theorem dX2_copyFrom_61 : decode cX2_copyFrom 61 = .ok (.aload_n 1, 1) := by decide +kernel
theorem dX2_copyFrom_62 : decode cX2_copyFrom 62 = .ok (.getfield 9, 3) := by decide +kernel
theorem dX2_copyFrom_65 : decode cX2_copyFrom 65 = .ok (.iload_n 2, 1) := by decide +kernel
theorem dX2_copyFrom_66 : decode cX2_copyFrom 66 = .ok (.iaload, 1) := by decide +kernel
theorem dX2_copyFrom_67 : decode cX2_copyFrom 67 = .ok (.iastore, 1) := by decide +kernel
theorem dX2_copyFrom_68 : decode cX2_copyFrom 68 = .ok (.iinc 2 1, 3) := by decide +kernel
theorem dX2_copyFrom_71 : decode cX2_copyFrom 71 = .ok (.goto (-21), 3) := by decide +kernel
theorem dX2_copyFrom_74 : decode cX2_copyFrom 74 = .ok (.iconst 0, 1) := by decide +kernel
theorem dX2_copyFrom_75 : decode cX2_copyFrom 75 = .ok (.istore_n 2, 1) := by decide +kernel
theorem dX2_copyFrom_76 : decode cX2_copyFrom 76 = .ok (.iload_n 2, 1) := by decide +kernel
theorem dX2_copyFrom_77 : decode cX2_copyFrom 77 = .ok (.iconst 4, 1) := by decide +kernel
theorem dX2_copyFrom_78 : decode cX2_copyFrom 78 = .ok (.if_icmp .ge 21, 3) := by decide +kernel
theorem dX2_copyFrom_81 : decode cX2_copyFrom 81 = .ok (.aload_n 0, 1) := by decide +kernel
theorem dX2_copyFrom_82 : decode cX2_copyFrom 82 = .ok (.getfield 15, 3) := by decide +kernel
theorem dX2_copyFrom_85 : decode cX2_copyFrom 85 = .ok (.iload_n 2, 1) := by decide +kernel
theorem dX2_copyFrom_86 : decode cX2_copyFrom 86 = .ok (.aload_n 1, 1) := by decide +kernel
theorem dX2_copyFrom_87 : decode cX2_copyFrom 87 = .ok (.getfield 15, 3) := by decide +kernel
theorem dX2_copyFrom_90 : decode cX2_copyFrom 90 = .ok (.iload_n 2, 1) := by decide +kernel
theorem dX2_copyFrom_91 : decode cX2_copyFrom 91 = .ok (.iaload, 1) := by decide +kernel
theorem dX2_copyFrom_92 : decode cX2_copyFrom 92 = .ok (.iastore, 1) := by decide +kernel
theorem dX2_copyFrom_93 : decode cX2_copyFrom 93 = .ok (.iinc 2 1, 3) := by decide +kernel
theorem dX2_copyFrom_96 : decode cX2_copyFrom 96 = .ok (.goto (-20), 3) := by decide +kernel
theorem dX2_copyFrom_99 : decode cX2_copyFrom 99 = .ok (.iconst 0, 1) := by decide +kernel
theorem dX2_copyFrom_100 : decode cX2_copyFrom 100 = .ok (.istore_n 2, 1) := by decide +kernel
theorem dX2_copyFrom_101 : decode cX2_copyFrom 101 = .ok (.iload_n 2, 1) := by decide +kernel
theorem dX2_copyFrom_102 : decode cX2_copyFrom 102 = .ok (.bipush 6, 2) := by decide +kernel
theorem dX2_copyFrom_104 : decode cX2_copyFrom 104 = .ok (.if_icmp .ge 24, 3) := by decide +kernel
theorem dX2_copyFrom_107 : decode cX2_copyFrom 107 = .ok (.aload_n 0, 1) := by decide +kernel
theorem dX2_copyFrom_108 : decode cX2_copyFrom 108 = .ok (.getfield 20, 3) := by decide +kernel
theorem dX2_copyFrom_111 : decode cX2_copyFrom 111 = .ok (.iload_n 2, 1) := by decide +kernel
theorem dX2_copyFrom_112 : decode cX2_copyFrom 112 = .ok (.aaload, 1) := by decide +kernel
theorem dX2_copyFrom_113 : decode cX2_copyFrom 113 = .ok (.aload_n 1, 1) := by decide +kernel
theorem dX2_copyFrom_114 : decode cX2_copyFrom 114 = .ok (.getfield 20, 3) := by decide +kernel
theorem dX2_copyFrom_117 : decode cX2_copyFrom 117 = .ok (.iload_n 2, 1) := by decide +kernel
theorem dX2_copyFrom_118 : decode cX2_copyFrom 118 = .ok (.aaload, 1) := by decide +kernel
theorem dX2_copyFrom_119 : decode cX2_copyFrom 119 = .ok (.invokevirtual 59, 3) := by decide +kernel
theorem dX2_copyFrom_122 : decode cX2_copyFrom 122 = .ok (.iinc 2 1, 3) := by decide +kernel
theorem dX2_copyFrom_125 : decode cX2_copyFrom 125 = .ok (.goto (-24), 3) := by decide +kernel
theorem dX2_copyFrom_128 : decode cX2_copyFrom 128 = .ok (.return_, 1) := by decide +kernel
theorem dX2_hasMaster_0 : decode cX2_hasMaster 0 = .ok (.iload_n 1, 1) := by decide +kernel
theorem dX2_hasMaster_1 : decode cX2_hasMaster 1 = .ok (.ifCond .lt 21, 3) := by decide +kernel
theorem dX2_hasMaster_4 : decode cX2_hasMaster 4 = .ok (.iload_n 1, 1) := by decide +kernel
theorem dX2_hasMaster_5 : decode cX2_hasMaster 5 = .ok (.aload_n 0, 1) := by decide +kernel
theorem dX2_hasMaster_6 : decode cX2_hasMaster 6 = .ok (.getfield 38, 3) := by decide +kernel
theorem dX2_hasMaster_9 : decode cX2_hasMaster 9 = .ok (.if_icmp .ge 13, 3) := by decide +kernel
theorem dX2_hasMaster_12 : decode cX2_hasMaster 12 = .ok (.iload_n 1, 1) := by decide +kernel
theorem dX2_hasMaster_13 : decode cX2_hasMaster 13 = .ok (.bipush 6, 2) := by decide +kernel
theorem dX2_hasMaster_15 : decode cX2_hasMaster 15 = .ok (.if_icmp .ge 7, 3) := by decide +kernel
theorem dX2_hasMaster_18 : decode cX2_hasMaster 18 = .ok (.iconst 1, 1) := by decide +kernel
theorem dX2_hasMaster_19 : decode cX2_hasMaster 19 = .ok (.goto 4, 3) := by decide +kernel
theorem dX2_hasMaster_22 : decode cX2_hasMaster 22 = .ok (.iconst 0, 1) := by decide +kernel
theorem dX2_hasMaster_23 : decode cX2_hasMaster 23 = .ok (.ireturn, 1) := by decide +kernel
theorem dX2_hasSlot_0 : decode cX2_hasSlot 0 = .ok (.iload_n 1, 1) := by decide +kernel
theorem dX2_hasSlot_1 : decode cX2_hasSlot 1 = .ok (.ifCond .lt 21, 3) := by decide +kernel
theorem dX2_hasSlot_4 : decode cX2_hasSlot 4 = .ok (.iload_n 1, 1) := by decide +kernel
theorem dX2_hasSlot_5 : decode cX2_hasSlot 5 = .ok (.aload_n 0, 1) := by decide +kernel
theorem dX2_hasSlot_6 : decode cX2_hasSlot 6 = .ok (.getfield 42, 3) := by decide +kernel
theorem dX2_hasSlot_9 : decode cX2_hasSlot 9 = .ok (.if_icmp .ge 13, 3) := by decide +kernel
theorem dX2_hasSlot_12 : decode cX2_hasSlot 12 = .ok (.iload_n 1, 1) := by decide +kernel
theorem dX2_hasSlot_13 : decode cX2_hasSlot 13 = .ok (.bipush 16, 2) := by decide +kernel
theorem dX2_hasSlot_15 : decode cX2_hasSlot 15 = .ok (.if_icmp .ge 7, 3) := by decide +kernel
theorem dX2_hasSlot_18 : decode cX2_hasSlot 18 = .ok (.iconst 1, 1) := by decide +kernel
theorem dX2_hasSlot_19 : decode cX2_hasSlot 19 = .ok (.goto 4, 3) := by decide +kernel
theorem dX2_hasSlot_22 : decode cX2_hasSlot 22 = .ok (.iconst 0, 1) := by decide +kernel
theorem dX2_hasSlot_23 : decode cX2_hasSlot 23 = .ok (.ireturn, 1) := by decide +kernel
theorem dX2_join_0 : decode cX2_join 0 = .ok (.aload_n 0, 1) := by decide +kernel
theorem dX2_join_1 : decode cX2_join 1 = .ok (.getfield 38, 3) := by decide +kernel
theorem dX2_join_4 : decode cX2_join 4 = .ok (.bipush 6, 2) := by decide +kernel
theorem dX2_join_6 : decode cX2_join 6 = .ok (.if_icmp .lt 6, 3) := by decide +kernel
theorem dX2_join_9 : decode cX2_join 9 = .ok (.bipush (-9), 2) := by decide +kernel
theorem dX2_join_11 : decode cX2_join 11 = .ok (.ireturn, 1) := by decide +kernel
theorem dX2_join_12 : decode cX2_join 12 = .ok (.aload_n 0, 1) := by decide +kernel
theorem dX2_join_13 : decode cX2_join 13 = .ok (.getfield 20, 3) := by decide +kernel
theorem dX2_join_16 : decode cX2_join 16 = .ok (.aload_n 0, 1) := by decide +kernel
theorem dX2_join_17 : decode cX2_join 17 = .ok (.getfield 38, 3) := by decide +kernel
theorem dX2_join_20 : decode cX2_join 20 = .ok (.aaload, 1) := by decide +kernel
theorem dX2_join_21 : decode cX2_join 21 = .ok (.invokevirtual 57, 3) := by decide +kernel
theorem dX2_join_24 : decode cX2_join 24 = .ok (.aload_n 0, 1) := by decide +kernel
theorem dX2_join_25 : decode cX2_join 25 = .ok (.dup, 1) := by decide +kernel
theorem dX2_join_26 : decode cX2_join 26 = .ok (.getfield 38, 3) := by decide +kernel
theorem dX2_join_29 : decode cX2_join 29 = .ok (.iconst 1, 1) := by decide +kernel
theorem dX2_join_30 : decode cX2_join 30 = .ok (.iadd, 1) := by decide +kernel
theorem dX2_join_31 : decode cX2_join 31 = .ok (.putfield 38, 3) := by decide +kernel
theorem dX2_join_34 : decode cX2_join 34 = .ok (.aload_n 0, 1) := by decide +kernel
theorem dX2_join_35 : decode cX2_join 35 = .ok (.getfield 38, 3) := by decide +kernel
theorem dX2_join_38 : decode cX2_join 38 = .ok (.iconst 1, 1) := by decide +kernel
theorem dX2_join_39 : decode cX2_join 39 = .ok (.isub, 1) := by decide +kernel
theorem dX2_join_40 : decode cX2_join 40 = .ok (.ireturn, 1) := by decide +kernel
theorem dX2_slotsOf_0 : decode cX2_slotsOf 0 = .ok (.iconst 0, 1) := by decide +kernel
theorem dX2_slotsOf_1 : decode cX2_slotsOf 1 = .ok (.istore_n 2, 1) := by decide +kernel
theorem dX2_slotsOf_2 : decode cX2_slotsOf 2 = .ok (.iconst 0, 1) := by decide +kernel
theorem dX2_slotsOf_3 : decode cX2_slotsOf 3 = .ok (.istore_n 3, 1) := by decide +kernel
theorem dX2_slotsOf_4 : decode cX2_slotsOf 4 = .ok (.iload_n 3, 1) := by decide +kernel
theorem dX2_slotsOf_5 : decode cX2_slotsOf 5 = .ok (.aload_n 0, 1) := by decide +kernel
theorem dX2_slotsOf_6 : decode cX2_slotsOf 6 = .ok (.getfield 42, 3) := by decide +kernel
theorem dX2_slotsOf_9 : decode cX2_slotsOf 9 = .ok (.if_icmp .ge 22, 3) := by decide +kernel
theorem dX2_slotsOf_12 : decode cX2_slotsOf 12 = .ok (.aload_n 0, 1) := by decide +kernel
theorem dX2_slotsOf_13 : decode cX2_slotsOf 13 = .ok (.getfield 9, 3) := by decide +kernel
theorem dX2_slotsOf_16 : decode cX2_slotsOf 16 = .ok (.iload_n 3, 1) := by decide +kernel
theorem dX2_slotsOf_17 : decode cX2_slotsOf 17 = .ok (.iaload, 1) := by decide +kernel
theorem dX2_slotsOf_18 : decode cX2_slotsOf 18 = .ok (.iload_n 1, 1) := by decide +kernel
theorem dX2_slotsOf_19 : decode cX2_slotsOf 19 = .ok (.if_icmp .ne 6, 3) := by decide +kernel
theorem dX2_slotsOf_22 : decode cX2_slotsOf 22 = .ok (.iinc 2 1, 3) := by decide +kernel
theorem dX2_slotsOf_25 : decode cX2_slotsOf 25 = .ok (.iinc 3 1, 3) := by decide +kernel
theorem dX2_slotsOf_28 : decode cX2_slotsOf 28 = .ok (.goto (-24), 3) := by decide +kernel
theorem dX2_slotsOf_31 : decode cX2_slotsOf 31 = .ok (.iload_n 2, 1) := by decide +kernel
theorem dX2_slotsOf_32 : decode cX2_slotsOf 32 = .ok (.ireturn, 1) := by decide +kernel
theorem dX2_owedTo_0 : decode cX2_owedTo 0 = .ok (.iconst 0, 1) := by decide +kernel
theorem dX2_owedTo_1 : decode cX2_owedTo 1 = .ok (.istore_n 2, 1) := by decide +kernel
theorem dX2_owedTo_2 : decode cX2_owedTo 2 = .ok (.aload_n 0, 1) := by decide +kernel
theorem dX2_owedTo_3 : decode cX2_owedTo 3 = .ok (.iload_n 1, 1) := by decide +kernel
theorem dX2_owedTo_4 : decode cX2_owedTo 4 = .ok (.invokevirtual 63, 3) := by decide +kernel
theorem dX2_owedTo_7 : decode cX2_owedTo 7 = .ok (.ifCond .eq 33, 3) := by decide +kernel
theorem dX2_owedTo_10 : decode cX2_owedTo 10 = .ok (.iconst 0, 1) := by decide +kernel
theorem dX2_owedTo_11 : decode cX2_owedTo 11 = .ok (.istore_n 3, 1) := by decide +kernel
theorem dX2_owedTo_12 : decode cX2_owedTo 12 = .ok (.iload_n 3, 1) := by decide +kernel
theorem dX2_owedTo_13 : decode cX2_owedTo 13 = .ok (.aload_n 0, 1) := by decide +kernel
theorem dX2_owedTo_14 : decode cX2_owedTo 14 = .ok (.getfield 38, 3) := by decide +kernel
theorem dX2_owedTo_17 : decode cX2_owedTo 17 = .ok (.if_icmp .ge 23, 3) := by decide +kernel
theorem dX2_owedTo_20 : decode cX2_owedTo 20 = .ok (.iload_n 2, 1) := by decide +kernel
theorem dX2_owedTo_21 : decode cX2_owedTo 21 = .ok (.aload_n 0, 1) := by decide +kernel
theorem dX2_owedTo_22 : decode cX2_owedTo 22 = .ok (.getfield 20, 3) := by decide +kernel
theorem dX2_owedTo_25 : decode cX2_owedTo 25 = .ok (.iload_n 3, 1) := by decide +kernel
theorem dX2_owedTo_26 : decode cX2_owedTo 26 = .ok (.aaload, 1) := by decide +kernel
theorem dX2_owedTo_27 : decode cX2_owedTo 27 = .ok (.getfield 67, 3) := by decide +kernel
theorem dX2_owedTo_30 : decode cX2_owedTo 30 = .ok (.iload_n 1, 1) := by decide +kernel
theorem dX2_owedTo_31 : decode cX2_owedTo 31 = .ok (.iaload, 1) := by decide +kernel
theorem dX2_owedTo_32 : decode cX2_owedTo 32 = .ok (.iadd, 1) := by decide +kernel
theorem dX2_owedTo_33 : decode cX2_owedTo 33 = .ok (.istore_n 2, 1) := by decide +kernel
theorem dX2_owedTo_34 : decode cX2_owedTo 34 = .ok (.iinc 3 1, 3) := by decide +kernel
theorem dX2_owedTo_37 : decode cX2_owedTo 37 = .ok (.goto (-25), 3) := by decide +kernel
theorem dX2_owedTo_40 : decode cX2_owedTo 40 = .ok (.iload_n 2, 1) := by decide +kernel
theorem dX2_owedTo_41 : decode cX2_owedTo 41 = .ok (.ireturn, 1) := by decide +kernel
theorem dX2_allDebts_0 : decode cX2_allDebts 0 = .ok (.iconst 0, 1) := by decide +kernel
theorem dX2_allDebts_1 : decode cX2_allDebts 1 = .ok (.istore_n 1, 1) := by decide +kernel
theorem dX2_allDebts_2 : decode cX2_allDebts 2 = .ok (.iconst 0, 1) := by decide +kernel
theorem dX2_allDebts_3 : decode cX2_allDebts 3 = .ok (.istore_n 2, 1) := by decide +kernel
theorem dX2_allDebts_4 : decode cX2_allDebts 4 = .ok (.iload_n 2, 1) := by decide +kernel
theorem dX2_allDebts_5 : decode cX2_allDebts 5 = .ok (.aload_n 0, 1) := by decide +kernel
theorem dX2_allDebts_6 : decode cX2_allDebts 6 = .ok (.getfield 38, 3) := by decide +kernel
theorem dX2_allDebts_9 : decode cX2_allDebts 9 = .ok (.if_icmp .ge 21, 3) := by decide +kernel
theorem dX2_allDebts_12 : decode cX2_allDebts 12 = .ok (.iload_n 1, 1) := by decide +kernel
theorem dX2_allDebts_13 : decode cX2_allDebts 13 = .ok (.aload_n 0, 1) := by decide +kernel
theorem dX2_allDebts_14 : decode cX2_allDebts 14 = .ok (.getfield 20, 3) := by decide +kernel
theorem dX2_allDebts_17 : decode cX2_allDebts 17 = .ok (.iload_n 2, 1) := by decide +kernel
theorem dX2_allDebts_18 : decode cX2_allDebts 18 = .ok (.aaload, 1) := by decide +kernel
theorem dX2_allDebts_19 : decode cX2_allDebts 19 = .ok (.invokevirtual 70, 3) := by decide +kernel
theorem dX2_allDebts_22 : decode cX2_allDebts 22 = .ok (.iadd, 1) := by decide +kernel
theorem dX2_allDebts_23 : decode cX2_allDebts 23 = .ok (.istore_n 1, 1) := by decide +kernel
theorem dX2_allDebts_24 : decode cX2_allDebts 24 = .ok (.iinc 2 1, 3) := by decide +kernel
theorem dX2_allDebts_27 : decode cX2_allDebts 27 = .ok (.goto (-23), 3) := by decide +kernel
theorem dX2_allDebts_30 : decode cX2_allDebts 30 = .ok (.iload_n 1, 1) := by decide +kernel
theorem dX2_allDebts_31 : decode cX2_allDebts 31 = .ok (.ireturn, 1) := by decide +kernel
theorem dX2_waitingBursts_0 : decode cX2_waitingBursts 0 = .ok (.iconst 0, 1) := by decide +kernel
theorem dX2_waitingBursts_1 : decode cX2_waitingBursts 1 = .ok (.istore_n 1, 1) := by decide +kernel
theorem dX2_waitingBursts_2 : decode cX2_waitingBursts 2 = .ok (.iconst 0, 1) := by decide +kernel
theorem dX2_waitingBursts_3 : decode cX2_waitingBursts 3 = .ok (.istore_n 2, 1) := by decide +kernel
theorem dX2_waitingBursts_4 : decode cX2_waitingBursts 4 = .ok (.iload_n 2, 1) := by decide +kernel
theorem dX2_waitingBursts_5 : decode cX2_waitingBursts 5 = .ok (.aload_n 0, 1) := by decide +kernel
theorem dX2_waitingBursts_6 : decode cX2_waitingBursts 6 = .ok (.getfield 38, 3) := by decide +kernel
theorem dX2_waitingBursts_9 : decode cX2_waitingBursts 9 = .ok (.if_icmp .ge 24, 3) := by decide +kernel
theorem dX2_waitingBursts_12 : decode cX2_waitingBursts 12 = .ok (.iload_n 1, 1) := by decide +kernel
theorem dX2_waitingBursts_13 : decode cX2_waitingBursts 13 = .ok (.aload_n 0, 1) := by decide +kernel
theorem dX2_waitingBursts_14 : decode cX2_waitingBursts 14 = .ok (.getfield 20, 3) := by decide +kernel
theorem dX2_waitingBursts_17 : decode cX2_waitingBursts 17 = .ok (.iload_n 2, 1) := by decide +kernel
theorem dX2_waitingBursts_18 : decode cX2_waitingBursts 18 = .ok (.aaload, 1) := by decide +kernel
theorem dX2_waitingBursts_19 : decode cX2_waitingBursts 19 = .ok (.getfield 74, 3) := by decide +kernel
theorem dX2_waitingBursts_22 : decode cX2_waitingBursts 22 = .ok (.getfield 78, 3) := by decide +kernel
theorem dX2_waitingBursts_25 : decode cX2_waitingBursts 25 = .ok (.iadd, 1) := by decide +kernel
theorem dX2_waitingBursts_26 : decode cX2_waitingBursts 26 = .ok (.istore_n 1, 1) := by decide +kernel
theorem dX2_waitingBursts_27 : decode cX2_waitingBursts 27 = .ok (.iinc 2 1, 3) := by decide +kernel
theorem dX2_waitingBursts_30 : decode cX2_waitingBursts 30 = .ok (.goto (-26), 3) := by decide +kernel
theorem dX2_waitingBursts_33 : decode cX2_waitingBursts 33 = .ok (.iload_n 1, 1) := by decide +kernel
theorem dX2_waitingBursts_34 : decode cX2_waitingBursts 34 = .ok (.ireturn, 1) := by decide +kernel
theorem dX2_openAnswers_0 : decode cX2_openAnswers 0 = .ok (.iconst 0, 1) := by decide +kernel
theorem dX2_openAnswers_1 : decode cX2_openAnswers 1 = .ok (.istore_n 1, 1) := by decide +kernel
theorem dX2_openAnswers_2 : decode cX2_openAnswers 2 = .ok (.iconst 0, 1) := by decide +kernel
theorem dX2_openAnswers_3 : decode cX2_openAnswers 3 = .ok (.istore_n 2, 1) := by decide +kernel
theorem dX2_openAnswers_4 : decode cX2_openAnswers 4 = .ok (.iload_n 2, 1) := by decide +kernel
theorem dX2_openAnswers_5 : decode cX2_openAnswers 5 = .ok (.aload_n 0, 1) := by decide +kernel
theorem dX2_openAnswers_6 : decode cX2_openAnswers 6 = .ok (.getfield 38, 3) := by decide +kernel
theorem dX2_openAnswers_9 : decode cX2_openAnswers 9 = .ok (.if_icmp .ge 24, 3) := by decide +kernel
theorem dX2_openAnswers_12 : decode cX2_openAnswers 12 = .ok (.iload_n 1, 1) := by decide +kernel
theorem dX2_openAnswers_13 : decode cX2_openAnswers 13 = .ok (.aload_n 0, 1) := by decide +kernel
theorem dX2_openAnswers_14 : decode cX2_openAnswers 14 = .ok (.getfield 20, 3) := by decide +kernel
theorem dX2_openAnswers_17 : decode cX2_openAnswers 17 = .ok (.iload_n 2, 1) := by decide +kernel
theorem dX2_openAnswers_18 : decode cX2_openAnswers 18 = .ok (.aaload, 1) := by decide +kernel
theorem dX2_openAnswers_19 : decode cX2_openAnswers 19 = .ok (.getfield 83, 3) := by decide +kernel
theorem dX2_openAnswers_22 : decode cX2_openAnswers 22 = .ok (.getfield 87, 3) := by decide +kernel
theorem dX2_openAnswers_25 : decode cX2_openAnswers 25 = .ok (.iadd, 1) := by decide +kernel
theorem dX2_openAnswers_26 : decode cX2_openAnswers 26 = .ok (.istore_n 1, 1) := by decide +kernel
theorem dX2_openAnswers_27 : decode cX2_openAnswers 27 = .ok (.iinc 2 1, 3) := by decide +kernel
theorem dX2_openAnswers_30 : decode cX2_openAnswers 30 = .ok (.goto (-26), 3) := by decide +kernel
theorem dX2_openAnswers_33 : decode cX2_openAnswers 33 = .ok (.iload_n 1, 1) := by decide +kernel
theorem dX2_openAnswers_34 : decode cX2_openAnswers 34 = .ok (.ireturn, 1) := by decide +kernel
theorem dX2_bankruptBits_0 : decode cX2_bankruptBits 0 = .ok (.iconst 0, 1) := by decide +kernel
theorem dX2_bankruptBits_1 : decode cX2_bankruptBits 1 = .ok (.istore_n 1, 1) := by decide +kernel
theorem dX2_bankruptBits_2 : decode cX2_bankruptBits 2 = .ok (.iconst 0, 1) := by decide +kernel
theorem dX2_bankruptBits_3 : decode cX2_bankruptBits 3 = .ok (.istore_n 2, 1) := by decide +kernel
theorem dX2_bankruptBits_4 : decode cX2_bankruptBits 4 = .ok (.iload_n 2, 1) := by decide +kernel
theorem dX2_bankruptBits_5 : decode cX2_bankruptBits 5 = .ok (.aload_n 0, 1) := by decide +kernel
theorem dX2_bankruptBits_6 : decode cX2_bankruptBits 6 = .ok (.getfield 38, 3) := by decide +kernel
theorem dX2_bankruptBits_9 : decode cX2_bankruptBits 9 = .ok (.if_icmp .ge 27, 3) := by decide +kernel
theorem dX2_bankruptBits_12 : decode cX2_bankruptBits 12 = .ok (.aload_n 0, 1) := by decide +kernel
theorem dX2_bankruptBits_13 : decode cX2_bankruptBits 13 = .ok (.getfield 20, 3) := by decide +kernel
theorem dX2_bankruptBits_16 : decode cX2_bankruptBits 16 = .ok (.iload_n 2, 1) := by decide +kernel
theorem dX2_bankruptBits_17 : decode cX2_bankruptBits 17 = .ok (.aaload, 1) := by decide +kernel
theorem dX2_bankruptBits_18 : decode cX2_bankruptBits 18 = .ok (.getfield 90, 3) := by decide +kernel
theorem dX2_bankruptBits_21 : decode cX2_bankruptBits 21 = .ok (.ifCond .eq 9, 3) := by decide +kernel
theorem dX2_bankruptBits_24 : decode cX2_bankruptBits 24 = .ok (.iload_n 1, 1) := by decide +kernel
theorem dX2_bankruptBits_25 : decode cX2_bankruptBits 25 = .ok (.iconst 1, 1) := by decide +kernel
theorem dX2_bankruptBits_26 : decode cX2_bankruptBits 26 = .ok (.iload_n 2, 1) := by decide +kernel
theorem dX2_bankruptBits_27 : decode cX2_bankruptBits 27 = .ok (.ishl, 1) := by decide +kernel
theorem dX2_bankruptBits_28 : decode cX2_bankruptBits 28 = .ok (.ior, 1) := by decide +kernel
theorem dX2_bankruptBits_29 : decode cX2_bankruptBits 29 = .ok (.istore_n 1, 1) := by decide +kernel
theorem dX2_bankruptBits_30 : decode cX2_bankruptBits 30 = .ok (.iinc 2 1, 3) := by decide +kernel
theorem dX2_bankruptBits_33 : decode cX2_bankruptBits 33 = .ok (.goto (-29), 3) := by decide +kernel
theorem dX2_bankruptBits_36 : decode cX2_bankruptBits 36 = .ok (.iload_n 1, 1) := by decide +kernel
theorem dX2_bankruptBits_37 : decode cX2_bankruptBits 37 = .ok (.ireturn, 1) := by decide +kernel
theorem dX2_mastersAhead_0 : decode cX2_mastersAhead 0 = .ok (.aload_n 0, 1) := by decide +kernel
theorem dX2_mastersAhead_1 : decode cX2_mastersAhead 1 = .ok (.iload_n 1, 1) := by decide +kernel
theorem dX2_mastersAhead_2 : decode cX2_mastersAhead 2 = .ok (.invokevirtual 63, 3) := by decide +kernel
theorem dX2_mastersAhead_5 : decode cX2_mastersAhead 5 = .ok (.ifCond .ne 6, 3) := by decide +kernel
theorem dX2_mastersAhead_8 : decode cX2_mastersAhead 8 = .ok (.bipush (-9), 2) := by decide +kernel
theorem dX2_mastersAhead_10 : decode cX2_mastersAhead 10 = .ok (.ireturn, 1) := by decide +kernel
theorem dX2_mastersAhead_11 : decode cX2_mastersAhead 11 = .ok (.aload_n 0, 1) := by decide +kernel
theorem dX2_mastersAhead_12 : decode cX2_mastersAhead 12 = .ok (.getfield 20, 3) := by decide +kernel
theorem dX2_mastersAhead_15 : decode cX2_mastersAhead 15 = .ok (.iload_n 1, 1) := by decide +kernel
theorem dX2_mastersAhead_16 : decode cX2_mastersAhead 16 = .ok (.aaload, 1) := by decide +kernel
theorem dX2_mastersAhead_17 : decode cX2_mastersAhead 17 = .ok (.invokevirtual 70, 3) := by decide +kernel
theorem dX2_mastersAhead_20 : decode cX2_mastersAhead 20 = .ok (.istore_n 2, 1) := by decide +kernel
theorem dX2_mastersAhead_21 : decode cX2_mastersAhead 21 = .ok (.iconst 0, 1) := by decide +kernel
theorem dX2_mastersAhead_22 : decode cX2_mastersAhead 22 = .ok (.istore_n 3, 1) := by decide +kernel
theorem dX2_mastersAhead_23 : decode cX2_mastersAhead 23 = .ok (.iconst 0, 1) := by decide +kernel
theorem dX2_mastersAhead_24 : decode cX2_mastersAhead 24 = .ok (.istore 4, 2) := by decide +kernel
theorem dX2_mastersAhead_26 : decode cX2_mastersAhead 26 = .ok (.iload 4, 2) := by decide +kernel
theorem dX2_mastersAhead_28 : decode cX2_mastersAhead 28 = .ok (.aload_n 0, 1) := by decide +kernel
theorem dX2_mastersAhead_29 : decode cX2_mastersAhead 29 = .ok (.getfield 38, 3) := by decide +kernel
theorem dX2_mastersAhead_32 : decode cX2_mastersAhead 32 = .ok (.if_icmp .ge 42, 3) := by decide +kernel
theorem dX2_mastersAhead_35 : decode cX2_mastersAhead 35 = .ok (.aload_n 0, 1) := by decide +kernel
theorem dX2_mastersAhead_36 : decode cX2_mastersAhead 36 = .ok (.getfield 20, 3) := by decide +kernel
theorem dX2_mastersAhead_39 : decode cX2_mastersAhead 39 = .ok (.iload 4, 2) := by decide +kernel
theorem dX2_mastersAhead_41 : decode cX2_mastersAhead 41 = .ok (.aaload, 1) := by decide +kernel
theorem dX2_mastersAhead_42 : decode cX2_mastersAhead 42 = .ok (.invokevirtual 70, 3) := by decide +kernel
theorem dX2_mastersAhead_45 : decode cX2_mastersAhead 45 = .ok (.istore 5, 2) := by decide +kernel
theorem dX2_mastersAhead_47 : decode cX2_mastersAhead 47 = .ok (.iload 5, 2) := by decide +kernel
theorem dX2_mastersAhead_49 : decode cX2_mastersAhead 49 = .ok (.iload_n 2, 1) := by decide +kernel
theorem dX2_mastersAhead_50 : decode cX2_mastersAhead 50 = .ok (.if_icmp .gt 15, 3) := by decide +kernel
theorem dX2_mastersAhead_53 : decode cX2_mastersAhead 53 = .ok (.iload 5, 2) := by decide +kernel
theorem dX2_mastersAhead_55 : decode cX2_mastersAhead 55 = .ok (.iload_n 2, 1) := by decide +kernel
theorem dX2_mastersAhead_56 : decode cX2_mastersAhead 56 = .ok (.if_icmp .ne 12, 3) := by decide +kernel
theorem dX2_mastersAhead_59 : decode cX2_mastersAhead 59 = .ok (.iload 4, 2) := by decide +kernel
theorem dX2_mastersAhead_61 : decode cX2_mastersAhead 61 = .ok (.iload_n 1, 1) := by decide +kernel
theorem dX2_mastersAhead_62 : decode cX2_mastersAhead 62 = .ok (.if_icmp .ge 6, 3) := by decide +kernel
theorem dX2_mastersAhead_65 : decode cX2_mastersAhead 65 = .ok (.iinc 3 1, 3) := by decide +kernel
theorem dX2_mastersAhead_68 : decode cX2_mastersAhead 68 = .ok (.iinc 4 1, 3) := by decide +kernel
theorem dX2_mastersAhead_71 : decode cX2_mastersAhead 71 = .ok (.goto (-45), 3) := by decide +kernel
theorem dX2_mastersAhead_74 : decode cX2_mastersAhead 74 = .ok (.iload_n 3, 1) := by decide +kernel
theorem dX2_mastersAhead_75 : decode cX2_mastersAhead 75 = .ok (.ireturn, 1) := by decide +kernel
theorem dX2_step_0 : decode cX2_step 0 = .ok (.iconst 0, 1) := by decide +kernel
theorem dX2_step_1 : decode cX2_step 1 = .ok (.istore_n 1, 1) := by decide +kernel
theorem dX2_step_2 : decode cX2_step 2 = .ok (.iload_n 1, 1) := by decide +kernel
theorem dX2_step_3 : decode cX2_step 3 = .ok (.aload_n 0, 1) := by decide +kernel
theorem dX2_step_4 : decode cX2_step 4 = .ok (.getfield 38, 3) := by decide +kernel
theorem dX2_step_7 : decode cX2_step 7 = .ok (.if_icmp .ge 22, 3) := by decide +kernel
theorem dX2_step_10 : decode cX2_step 10 = .ok (.aload_n 0, 1) := by decide +kernel
theorem dX2_step_11 : decode cX2_step 11 = .ok (.getfield 20, 3) := by decide +kernel
theorem dX2_step_14 : decode cX2_step 14 = .ok (.iload_n 1, 1) := by decide +kernel
theorem dX2_step_15 : decode cX2_step 15 = .ok (.aaload, 1) := by decide +kernel
theorem dX2_step_16 : decode cX2_step 16 = .ok (.aload_n 0, 1) := by decide +kernel
theorem dX2_step_17 : decode cX2_step 17 = .ok (.getfield 45, 3) := by decide +kernel
theorem dX2_step_20 : decode cX2_step 20 = .ok (.invokevirtual 94, 3) := by decide +kernel
theorem dX2_step_23 : decode cX2_step 23 = .ok (.iinc 1 1, 3) := by decide +kernel
theorem dX2_step_26 : decode cX2_step 26 = .ok (.goto (-24), 3) := by decide +kernel
theorem dX2_step_29 : decode cX2_step 29 = .ok (.aload_n 0, 1) := by decide +kernel
theorem dX2_step_30 : decode cX2_step 30 = .ok (.aload_n 0, 1) := by decide +kernel
theorem dX2_step_31 : decode cX2_step 31 = .ok (.aload_n 0, 1) := by decide +kernel
theorem dX2_step_32 : decode cX2_step 32 = .ok (.invokevirtual 98, 3) := by decide +kernel
theorem dX2_step_35 : decode cX2_step 35 = .ok (.invokevirtual 101, 3) := by decide +kernel
theorem dX2_step_38 : decode cX2_step 38 = .ok (.putfield 54, 3) := by decide +kernel
theorem dX2_step_41 : decode cX2_step 41 = .ok (.aload_n 0, 1) := by decide +kernel
theorem dX2_step_42 : decode cX2_step 42 = .ok (.aload_n 0, 1) := by decide +kernel
theorem dX2_step_43 : decode cX2_step 43 = .ok (.getfield 54, 3) := by decide +kernel
theorem dX2_step_46 : decode cX2_step 46 = .ok (.invokevirtual 63, 3) := by decide +kernel
theorem dX2_step_49 : decode cX2_step 49 = .ok (.ifCond .eq 19, 3) := by decide +kernel
theorem dX2_step_52 : decode cX2_step 52 = .ok (.aload_n 0, 1) := by decide +kernel
theorem dX2_step_53 : decode cX2_step 53 = .ok (.aload_n 0, 1) := by decide +kernel
theorem dX2_step_54 : decode cX2_step 54 = .ok (.getfield 20, 3) := by decide +kernel
theorem dX2_step_57 : decode cX2_step 57 = .ok (.aload_n 0, 1) := by decide +kernel
theorem dX2_step_58 : decode cX2_step 58 = .ok (.getfield 54, 3) := by decide +kernel
theorem dX2_step_61 : decode cX2_step 61 = .ok (.aaload, 1) := by decide +kernel
theorem dX2_step_62 : decode cX2_step 62 = .ok (.invokevirtual 105, 3) := by decide +kernel
theorem dX2_step_65 : decode cX2_step 65 = .ok (.goto 13, 3) := by decide +kernel
theorem dX2_step_68 : decode cX2_step 68 = .ok (.aload_n 0, 1) := by decide +kernel
theorem dX2_step_69 : decode cX2_step 69 = .ok (.dup, 1) := by decide +kernel
theorem dX2_step_70 : decode cX2_step 70 = .ok (.getfield 48, 3) := by decide +kernel
theorem dX2_step_73 : decode cX2_step 73 = .ok (.iconst 1, 1) := by decide +kernel
theorem dX2_step_74 : decode cX2_step 74 = .ok (.iadd, 1) := by decide +kernel
theorem dX2_step_75 : decode cX2_step 75 = .ok (.putfield 48, 3) := by decide +kernel
theorem dX2_step_78 : decode cX2_step 78 = .ok (.iconst 0, 1) := by decide +kernel
theorem dX2_step_79 : decode cX2_step 79 = .ok (.istore_n 1, 1) := by decide +kernel
theorem dX2_step_80 : decode cX2_step 80 = .ok (.iload_n 1, 1) := by decide +kernel
theorem dX2_step_81 : decode cX2_step 81 = .ok (.aload_n 0, 1) := by decide +kernel
theorem dX2_step_82 : decode cX2_step 82 = .ok (.getfield 38, 3) := by decide +kernel
theorem dX2_step_85 : decode cX2_step 85 = .ok (.if_icmp .ge 31, 3) := by decide +kernel
theorem dX2_step_88 : decode cX2_step 88 = .ok (.aload_n 0, 1) := by decide +kernel
theorem dX2_step_89 : decode cX2_step 89 = .ok (.getfield 20, 3) := by decide +kernel
theorem dX2_step_92 : decode cX2_step 92 = .ok (.iload_n 1, 1) := by decide +kernel
theorem dX2_step_93 : decode cX2_step 93 = .ok (.aaload, 1) := by decide +kernel
theorem dX2_step_94 : decode cX2_step 94 = .ok (.iload_n 1, 1) := by decide +kernel
theorem dX2_step_95 : decode cX2_step 95 = .ok (.aload_n 0, 1) := by decide +kernel
theorem dX2_step_96 : decode cX2_step 96 = .ok (.getfield 54, 3) := by decide +kernel
theorem dX2_step_99 : decode cX2_step 99 = .ok (.if_icmp .ne 7, 3) := by decide +kernel
theorem dX2_step_102 : decode cX2_step 102 = .ok (.iconst 1, 1) := by decide +kernel
theorem dX2_step_103 : decode cX2_step 103 = .ok (.goto 4, 3) := by decide +kernel
theorem dX2_step_106 : decode cX2_step 106 = .ok (.iconst 0, 1) := by decide +kernel
theorem dX2_step_107 : decode cX2_step 107 = .ok (.invokevirtual 108, 3) := by decide +kernel
theorem dX2_step_110 : decode cX2_step 110 = .ok (.iinc 1 1, 3) := by decide +kernel
theorem dX2_step_113 : decode cX2_step 113 = .ok (.goto (-33), 3) := by decide +kernel
theorem dX2_step_116 : decode cX2_step 116 = .ok (.iconst 0, 1) := by decide +kernel
theorem dX2_step_117 : decode cX2_step 117 = .ok (.istore_n 1, 1) := by decide +kernel
theorem dX2_step_118 : decode cX2_step 118 = .ok (.iload_n 1, 1) := by decide +kernel
theorem dX2_step_119 : decode cX2_step 119 = .ok (.aload_n 0, 1) := by decide +kernel
theorem dX2_step_120 : decode cX2_step 120 = .ok (.getfield 38, 3) := by decide +kernel
theorem dX2_step_123 : decode cX2_step 123 = .ok (.if_icmp .ge 22, 3) := by decide +kernel
theorem dX2_step_126 : decode cX2_step 126 = .ok (.aload_n 0, 1) := by decide +kernel
theorem dX2_step_127 : decode cX2_step 127 = .ok (.iload_n 1, 1) := by decide +kernel
theorem dX2_step_128 : decode cX2_step 128 = .ok (.invokevirtual 112, 3) := by decide +kernel
theorem dX2_step_131 : decode cX2_step 131 = .ok (.ifCond .eq 8, 3) := by decide +kernel
theorem dX2_step_134 : decode cX2_step 134 = .ok (.aload_n 0, 1) := by decide +kernel
theorem dX2_step_135 : decode cX2_step 135 = .ok (.iload_n 1, 1) := by decide +kernel
theorem dX2_step_136 : decode cX2_step 136 = .ok (.invokevirtual 115, 3) := by decide +kernel
theorem dX2_step_139 : decode cX2_step 139 = .ok (.iinc 1 1, 3) := by decide +kernel
theorem dX2_step_142 : decode cX2_step 142 = .ok (.goto (-24), 3) := by decide +kernel
theorem dX2_step_145 : decode cX2_step 145 = .ok (.aload_n 0, 1) := by decide +kernel
theorem dX2_step_146 : decode cX2_step 146 = .ok (.dup, 1) := by decide +kernel
theorem dX2_step_147 : decode cX2_step 147 = .ok (.getfield 45, 3) := by decide +kernel
theorem dX2_step_150 : decode cX2_step 150 = .ok (.iconst 1, 1) := by decide +kernel
theorem dX2_step_151 : decode cX2_step 151 = .ok (.iadd, 1) := by decide +kernel
theorem dX2_step_152 : decode cX2_step 152 = .ok (.putfield 45, 3) := by decide +kernel
theorem dX2_step_155 : decode cX2_step 155 = .ok (.return_, 1) := by decide +kernel
theorem dX2_stepTimes_0 : decode cX2_stepTimes 0 = .ok (.iconst 0, 1) := by decide +kernel
theorem dX2_stepTimes_1 : decode cX2_stepTimes 1 = .ok (.istore_n 2, 1) := by decide +kernel
theorem dX2_stepTimes_2 : decode cX2_stepTimes 2 = .ok (.iload_n 2, 1) := by decide +kernel
theorem dX2_stepTimes_3 : decode cX2_stepTimes 3 = .ok (.iload_n 1, 1) := by decide +kernel
theorem dX2_stepTimes_4 : decode cX2_stepTimes 4 = .ok (.if_icmp .ge 13, 3) := by decide +kernel
theorem dX2_stepTimes_7 : decode cX2_stepTimes 7 = .ok (.aload_n 0, 1) := by decide +kernel
theorem dX2_stepTimes_8 : decode cX2_stepTimes 8 = .ok (.invokevirtual 118, 3) := by decide +kernel
theorem dX2_stepTimes_11 : decode cX2_stepTimes 11 = .ok (.iinc 2 1, 3) := by decide +kernel
theorem dX2_stepTimes_14 : decode cX2_stepTimes 14 = .ok (.goto (-12), 3) := by decide +kernel
theorem dX2_stepTimes_17 : decode cX2_stepTimes 17 = .ok (.return_, 1) := by decide +kernel
theorem dX2_stepsTillDone_0 : decode cX2_stepsTillDone 0 = .ok (.aload_n 0, 1) := by decide +kernel
theorem dX2_stepsTillDone_1 : decode cX2_stepsTillDone 1 = .ok (.getfield 42, 3) := by decide +kernel
theorem dX2_stepsTillDone_4 : decode cX2_stepsTillDone 4 = .ok (.bipush 9, 2) := by decide +kernel
theorem dX2_stepsTillDone_6 : decode cX2_stepsTillDone 6 = .ok (.iadd, 1) := by decide +kernel
theorem dX2_stepsTillDone_7 : decode cX2_stepsTillDone 7 = .ok (.iconst 2, 1) := by decide +kernel
theorem dX2_stepsTillDone_8 : decode cX2_stepsTillDone 8 = .ok (.iadd, 1) := by decide +kernel
theorem dX2_stepsTillDone_9 : decode cX2_stepsTillDone 9 = .ok (.istore 4, 2) := by decide +kernel
theorem dX2_stepsTillDone_11 : decode cX2_stepsTillDone 11 = .ok (.iconst 0, 1) := by decide +kernel
theorem dX2_stepsTillDone_12 : decode cX2_stepsTillDone 12 = .ok (.istore 5, 2) := by decide +kernel
theorem dX2_stepsTillDone_14 : decode cX2_stepsTillDone 14 = .ok (.iconst 0, 1) := by decide +kernel
theorem dX2_stepsTillDone_15 : decode cX2_stepsTillDone 15 = .ok (.istore 6, 2) := by decide +kernel
theorem dX2_stepsTillDone_17 : decode cX2_stepsTillDone 17 = .ok (.iload 6, 2) := by decide +kernel
theorem dX2_stepsTillDone_19 : decode cX2_stepsTillDone 19 = .ok (.iload_n 3, 1) := by decide +kernel
theorem dX2_stepsTillDone_20 : decode cX2_stepsTillDone 20 = .ok (.if_icmp .gt 51, 3) := by decide +kernel
theorem dX2_stepsTillDone_23 : decode cX2_stepsTillDone 23 = .ok (.iload 5, 2) := by decide +kernel
theorem dX2_stepsTillDone_25 : decode cX2_stepsTillDone 25 = .ok (.iload 4, 2) := by decide +kernel
theorem dX2_stepsTillDone_27 : decode cX2_stepsTillDone 27 = .ok (.if_icmp .ge 44, 3) := by decide +kernel
theorem dX2_stepsTillDone_30 : decode cX2_stepsTillDone 30 = .ok (.aload_n 0, 1) := by decide +kernel
theorem dX2_stepsTillDone_31 : decode cX2_stepsTillDone 31 = .ok (.iload_n 1, 1) := by decide +kernel
theorem dX2_stepsTillDone_32 : decode cX2_stepsTillDone 32 = .ok (.iload_n 2, 1) := by decide +kernel
theorem dX2_stepsTillDone_33 : decode cX2_stepsTillDone 33 = .ok (.invokevirtual 121, 3) := by decide +kernel
theorem dX2_stepsTillDone_36 : decode cX2_stepsTillDone 36 = .ok (.ifCond .eq 6, 3) := by decide +kernel
theorem dX2_stepsTillDone_39 : decode cX2_stepsTillDone 39 = .ok (.iload 6, 2) := by decide +kernel
theorem dX2_stepsTillDone_41 : decode cX2_stepsTillDone 41 = .ok (.ireturn, 1) := by decide +kernel
theorem dX2_stepsTillDone_42 : decode cX2_stepsTillDone 42 = .ok (.aload_n 0, 1) := by decide +kernel
theorem dX2_stepsTillDone_43 : decode cX2_stepsTillDone 43 = .ok (.invokevirtual 118, 3) := by decide +kernel
theorem dX2_stepsTillDone_46 : decode cX2_stepsTillDone 46 = .ok (.aload_n 0, 1) := by decide +kernel
theorem dX2_stepsTillDone_47 : decode cX2_stepsTillDone 47 = .ok (.getfield 54, 3) := by decide +kernel
theorem dX2_stepsTillDone_50 : decode cX2_stepsTillDone 50 = .ok (.bipush (-9), 2) := by decide +kernel
theorem dX2_stepsTillDone_52 : decode cX2_stepsTillDone 52 = .ok (.if_icmp .ne 10, 3) := by decide +kernel
theorem dX2_stepsTillDone_55 : decode cX2_stepsTillDone 55 = .ok (.iload 5, 2) := by decide +kernel
theorem dX2_stepsTillDone_57 : decode cX2_stepsTillDone 57 = .ok (.iconst 1, 1) := by decide +kernel
theorem dX2_stepsTillDone_58 : decode cX2_stepsTillDone 58 = .ok (.iadd, 1) := by decide +kernel
theorem dX2_stepsTillDone_59 : decode cX2_stepsTillDone 59 = .ok (.goto 4, 3) := by decide +kernel
theorem dX2_stepsTillDone_62 : decode cX2_stepsTillDone 62 = .ok (.iconst 0, 1) := by decide +kernel
theorem dX2_stepsTillDone_63 : decode cX2_stepsTillDone 63 = .ok (.istore 5, 2) := by decide +kernel
theorem dX2_stepsTillDone_65 : decode cX2_stepsTillDone 65 = .ok (.iinc 6 1, 3) := by decide +kernel
theorem dX2_stepsTillDone_68 : decode cX2_stepsTillDone 68 = .ok (.goto (-51), 3) := by decide +kernel
theorem dX2_stepsTillDone_71 : decode cX2_stepsTillDone 71 = .ok (.iload_n 3, 1) := by decide +kernel
theorem dX2_stepsTillDone_72 : decode cX2_stepsTillDone 72 = .ok (.iconst 1, 1) := by decide +kernel
theorem dX2_stepsTillDone_73 : decode cX2_stepsTillDone 73 = .ok (.iadd, 1) := by decide +kernel
theorem dX2_stepsTillDone_74 : decode cX2_stepsTillDone 74 = .ok (.ireturn, 1) := by decide +kernel
theorem dX2_areDone_0 : decode cX2_areDone 0 = .ok (.iload_n 1, 1) := by decide +kernel
theorem dX2_areDone_1 : decode cX2_areDone 1 = .ok (.istore_n 3, 1) := by decide +kernel
theorem dX2_areDone_2 : decode cX2_areDone 2 = .ok (.iload_n 3, 1) := by decide +kernel
theorem dX2_areDone_3 : decode cX2_areDone 3 = .ok (.iload_n 2, 1) := by decide +kernel
theorem dX2_areDone_4 : decode cX2_areDone 4 = .ok (.if_icmp .gt 31, 3) := by decide +kernel
theorem dX2_areDone_7 : decode cX2_areDone 7 = .ok (.aload_n 0, 1) := by decide +kernel
theorem dX2_areDone_8 : decode cX2_areDone 8 = .ok (.iload_n 3, 1) := by decide +kernel
theorem dX2_areDone_9 : decode cX2_areDone 9 = .ok (.invokevirtual 63, 3) := by decide +kernel
theorem dX2_areDone_12 : decode cX2_areDone 12 = .ok (.ifCond .eq 17, 3) := by decide +kernel
theorem dX2_areDone_15 : decode cX2_areDone 15 = .ok (.aload_n 0, 1) := by decide +kernel
theorem dX2_areDone_16 : decode cX2_areDone 16 = .ok (.getfield 20, 3) := by decide +kernel
theorem dX2_areDone_19 : decode cX2_areDone 19 = .ok (.iload_n 3, 1) := by decide +kernel
theorem dX2_areDone_20 : decode cX2_areDone 20 = .ok (.aaload, 1) := by decide +kernel
theorem dX2_areDone_21 : decode cX2_areDone 21 = .ok (.invokevirtual 125, 3) := by decide +kernel
theorem dX2_areDone_24 : decode cX2_areDone 24 = .ok (.ifCond .ne 5, 3) := by decide +kernel
theorem dX2_areDone_27 : decode cX2_areDone 27 = .ok (.iconst 0, 1) := by decide +kernel
theorem dX2_areDone_28 : decode cX2_areDone 28 = .ok (.ireturn, 1) := by decide +kernel
theorem dX2_areDone_29 : decode cX2_areDone 29 = .ok (.iinc 3 1, 3) := by decide +kernel
theorem dX2_areDone_32 : decode cX2_areDone 32 = .ok (.goto (-30), 3) := by decide +kernel
theorem dX2_areDone_35 : decode cX2_areDone 35 = .ok (.iconst 1, 1) := by decide +kernel
theorem dX2_areDone_36 : decode cX2_areDone 36 = .ok (.ireturn, 1) := by decide +kernel
theorem dX2_ownerNow_0 : decode cX2_ownerNow 0 = .ok (.aload_n 0, 1) := by decide +kernel
theorem dX2_ownerNow_1 : decode cX2_ownerNow 1 = .ok (.getfield 42, 3) := by decide +kernel
theorem dX2_ownerNow_4 : decode cX2_ownerNow 4 = .ok (.ifCond .le 17, 3) := by decide +kernel
theorem dX2_ownerNow_7 : decode cX2_ownerNow 7 = .ok (.aload_n 0, 1) := by decide +kernel
theorem dX2_ownerNow_8 : decode cX2_ownerNow 8 = .ok (.getfield 45, 3) := by decide +kernel
theorem dX2_ownerNow_11 : decode cX2_ownerNow 11 = .ok (.aload_n 0, 1) := by decide +kernel
theorem dX2_ownerNow_12 : decode cX2_ownerNow 12 = .ok (.getfield 42, 3) := by decide +kernel
theorem dX2_ownerNow_15 : decode cX2_ownerNow 15 = .ok (.invokestatic 129, 3) := by decide +kernel
theorem dX2_ownerNow_18 : decode cX2_ownerNow 18 = .ok (.goto 4, 3) := by decide +kernel
theorem dX2_ownerNow_21 : decode cX2_ownerNow 21 = .ok (.iconst 0, 1) := by decide +kernel
theorem dX2_ownerNow_22 : decode cX2_ownerNow 22 = .ok (.istore_n 1, 1) := by decide +kernel
theorem dX2_ownerNow_23 : decode cX2_ownerNow 23 = .ok (.iload_n 1, 1) := by decide +kernel
theorem dX2_ownerNow_24 : decode cX2_ownerNow 24 = .ok (.bipush 16, 2) := by decide +kernel
theorem dX2_ownerNow_26 : decode cX2_ownerNow 26 = .ok (.if_icmp .ge 12, 3) := by decide +kernel
theorem dX2_ownerNow_29 : decode cX2_ownerNow 29 = .ok (.aload_n 0, 1) := by decide +kernel
theorem dX2_ownerNow_30 : decode cX2_ownerNow 30 = .ok (.getfield 9, 3) := by decide +kernel
theorem dX2_ownerNow_33 : decode cX2_ownerNow 33 = .ok (.iload_n 1, 1) := by decide +kernel
theorem dX2_ownerNow_34 : decode cX2_ownerNow 34 = .ok (.iaload, 1) := by decide +kernel
theorem dX2_ownerNow_35 : decode cX2_ownerNow 35 = .ok (.goto 5, 3) := by decide +kernel
theorem dX2_ownerNow_38 : decode cX2_ownerNow 38 = .ok (.bipush (-9), 2) := by decide +kernel
theorem dX2_ownerNow_40 : decode cX2_ownerNow 40 = .ok (.ireturn, 1) := by decide +kernel
theorem dX2_takeTurn_0 : decode cX2_takeTurn 0 = .ok (.aload_n 0, 1) := by decide +kernel
theorem dX2_takeTurn_1 : decode cX2_takeTurn 1 = .ok (.iload_n 1, 1) := by decide +kernel
theorem dX2_takeTurn_2 : decode cX2_takeTurn 2 = .ok (.invokevirtual 63, 3) := by decide +kernel
theorem dX2_takeTurn_5 : decode cX2_takeTurn 5 = .ok (.ifCond .ne 6, 3) := by decide +kernel
theorem dX2_takeTurn_8 : decode cX2_takeTurn 8 = .ok (.bipush (-9), 2) := by decide +kernel
theorem dX2_takeTurn_10 : decode cX2_takeTurn 10 = .ok (.ireturn, 1) := by decide +kernel
theorem dX2_takeTurn_11 : decode cX2_takeTurn 11 = .ok (.aload_n 0, 1) := by decide +kernel
theorem dX2_takeTurn_12 : decode cX2_takeTurn 12 = .ok (.getfield 20, 3) := by decide +kernel
theorem dX2_takeTurn_15 : decode cX2_takeTurn 15 = .ok (.iload_n 1, 1) := by decide +kernel
theorem dX2_takeTurn_16 : decode cX2_takeTurn 16 = .ok (.aaload, 1) := by decide +kernel
theorem dX2_takeTurn_17 : decode cX2_takeTurn 17 = .ok (.astore_n 2, 1) := by decide +kernel
theorem dX2_takeTurn_18 : decode cX2_takeTurn 18 = .ok (.aload_n 0, 1) := by decide +kernel
theorem dX2_takeTurn_19 : decode cX2_takeTurn 19 = .ok (.aload_n 2, 1) := by decide +kernel
theorem dX2_takeTurn_20 : decode cX2_takeTurn 20 = .ok (.iconst 1, 1) := by decide +kernel
theorem dX2_takeTurn_21 : decode cX2_takeTurn 21 = .ok (.invokevirtual 132, 3) := by decide +kernel
theorem dX2_takeTurn_24 : decode cX2_takeTurn 24 = .ok (.istore_n 3, 1) := by decide +kernel
theorem dX2_takeTurn_25 : decode cX2_takeTurn 25 = .ok (.aload_n 0, 1) := by decide +kernel
theorem dX2_takeTurn_26 : decode cX2_takeTurn 26 = .ok (.iload_n 3, 1) := by decide +kernel
theorem dX2_takeTurn_27 : decode cX2_takeTurn 27 = .ok (.invokevirtual 63, 3) := by decide +kernel
theorem dX2_takeTurn_30 : decode cX2_takeTurn 30 = .ok (.ifCond .eq 30, 3) := by decide +kernel
theorem dX2_takeTurn_33 : decode cX2_takeTurn 33 = .ok (.aload_n 2, 1) := by decide +kernel
theorem dX2_takeTurn_34 : decode cX2_takeTurn 34 = .ok (.getfield 67, 3) := by decide +kernel
theorem dX2_takeTurn_37 : decode cX2_takeTurn 37 = .ok (.iload_n 3, 1) := by decide +kernel
theorem dX2_takeTurn_38 : decode cX2_takeTurn 38 = .ok (.dup2, 1) := by decide +kernel
theorem dX2_takeTurn_39 : decode cX2_takeTurn 39 = .ok (.iaload, 1) := by decide +kernel
theorem dX2_takeTurn_40 : decode cX2_takeTurn 40 = .ok (.iconst 1, 1) := by decide +kernel
theorem dX2_takeTurn_41 : decode cX2_takeTurn 41 = .ok (.isub, 1) := by decide +kernel
theorem dX2_takeTurn_42 : decode cX2_takeTurn 42 = .ok (.iastore, 1) := by decide +kernel
theorem dX2_takeTurn_43 : decode cX2_takeTurn 43 = .ok (.aload_n 0, 1) := by decide +kernel
theorem dX2_takeTurn_44 : decode cX2_takeTurn 44 = .ok (.getfield 20, 3) := by decide +kernel
theorem dX2_takeTurn_47 : decode cX2_takeTurn 47 = .ok (.iload_n 3, 1) := by decide +kernel
theorem dX2_takeTurn_48 : decode cX2_takeTurn 48 = .ok (.aaload, 1) := by decide +kernel
theorem dX2_takeTurn_49 : decode cX2_takeTurn 49 = .ok (.dup, 1) := by decide +kernel
theorem dX2_takeTurn_50 : decode cX2_takeTurn 50 = .ok (.getfield 136, 3) := by decide +kernel
theorem dX2_takeTurn_53 : decode cX2_takeTurn 53 = .ok (.iconst 1, 1) := by decide +kernel
theorem dX2_takeTurn_54 : decode cX2_takeTurn 54 = .ok (.iadd, 1) := by decide +kernel
theorem dX2_takeTurn_55 : decode cX2_takeTurn 55 = .ok (.putfield 136, 3) := by decide +kernel
theorem dX2_takeTurn_58 : decode cX2_takeTurn 58 = .ok (.iload_n 3, 1) := by decide +kernel
theorem dX2_takeTurn_59 : decode cX2_takeTurn 59 = .ok (.ireturn, 1) := by decide +kernel
theorem dX2_takeTurn_60 : decode cX2_takeTurn 60 = .ok (.aload_n 2, 1) := by decide +kernel
theorem dX2_takeTurn_61 : decode cX2_takeTurn 61 = .ok (.getfield 139, 3) := by decide +kernel
theorem dX2_takeTurn_64 : decode cX2_takeTurn 64 = .ok (.ifCond .eq 15, 3) := by decide +kernel
theorem dX2_takeTurn_67 : decode cX2_takeTurn 67 = .ok (.aload_n 2, 1) := by decide +kernel
theorem dX2_takeTurn_68 : decode cX2_takeTurn 68 = .ok (.dup, 1) := by decide +kernel
theorem dX2_takeTurn_69 : decode cX2_takeTurn 69 = .ok (.getfield 142, 3) := by decide +kernel
theorem dX2_takeTurn_72 : decode cX2_takeTurn 72 = .ok (.iconst 1, 1) := by decide +kernel
theorem dX2_takeTurn_73 : decode cX2_takeTurn 73 = .ok (.iadd, 1) := by decide +kernel
theorem dX2_takeTurn_74 : decode cX2_takeTurn 74 = .ok (.putfield 142, 3) := by decide +kernel
theorem dX2_takeTurn_77 : decode cX2_takeTurn 77 = .ok (.iload_n 1, 1) := by decide +kernel
theorem dX2_takeTurn_78 : decode cX2_takeTurn 78 = .ok (.ireturn, 1) := by decide +kernel
theorem dX2_takeTurn_79 : decode cX2_takeTurn 79 = .ok (.aload_n 0, 1) := by decide +kernel
theorem dX2_takeTurn_80 : decode cX2_takeTurn 80 = .ok (.invokevirtual 145, 3) := by decide +kernel
theorem dX2_takeTurn_83 : decode cX2_takeTurn 83 = .ok (.istore 4, 2) := by decide +kernel
theorem dX2_takeTurn_85 : decode cX2_takeTurn 85 = .ok (.aload_n 0, 1) := by decide +kernel
theorem dX2_takeTurn_86 : decode cX2_takeTurn 86 = .ok (.iload 4, 2) := by decide +kernel
theorem dX2_takeTurn_88 : decode cX2_takeTurn 88 = .ok (.invokevirtual 63, 3) := by decide +kernel
theorem dX2_takeTurn_91 : decode cX2_takeTurn 91 = .ok (.ifCond .eq 35, 3) := by decide +kernel
theorem dX2_takeTurn_94 : decode cX2_takeTurn 94 = .ok (.aload_n 0, 1) := by decide +kernel
theorem dX2_takeTurn_95 : decode cX2_takeTurn 95 = .ok (.getfield 20, 3) := by decide +kernel
theorem dX2_takeTurn_98 : decode cX2_takeTurn 98 = .ok (.iload 4, 2) := by decide +kernel
theorem dX2_takeTurn_100 : decode cX2_takeTurn 100 = .ok (.aaload, 1) := by decide +kernel
theorem dX2_takeTurn_101 : decode cX2_takeTurn 101 = .ok (.getfield 67, 3) := by decide +kernel
theorem dX2_takeTurn_104 : decode cX2_takeTurn 104 = .ok (.iload_n 1, 1) := by decide +kernel
theorem dX2_takeTurn_105 : decode cX2_takeTurn 105 = .ok (.dup2, 1) := by decide +kernel
theorem dX2_takeTurn_106 : decode cX2_takeTurn 106 = .ok (.iaload, 1) := by decide +kernel
theorem dX2_takeTurn_107 : decode cX2_takeTurn 107 = .ok (.iconst 1, 1) := by decide +kernel
theorem dX2_takeTurn_108 : decode cX2_takeTurn 108 = .ok (.iadd, 1) := by decide +kernel
theorem dX2_takeTurn_109 : decode cX2_takeTurn 109 = .ok (.iastore, 1) := by decide +kernel
theorem dX2_takeTurn_110 : decode cX2_takeTurn 110 = .ok (.aload_n 0, 1) := by decide +kernel
theorem dX2_takeTurn_111 : decode cX2_takeTurn 111 = .ok (.getfield 20, 3) := by decide +kernel
theorem dX2_takeTurn_114 : decode cX2_takeTurn 114 = .ok (.iload 4, 2) := by decide +kernel
theorem dX2_takeTurn_116 : decode cX2_takeTurn 116 = .ok (.aaload, 1) := by decide +kernel
theorem dX2_takeTurn_117 : decode cX2_takeTurn 117 = .ok (.dup, 1) := by decide +kernel
theorem dX2_takeTurn_118 : decode cX2_takeTurn 118 = .ok (.getfield 148, 3) := by decide +kernel
theorem dX2_takeTurn_121 : decode cX2_takeTurn 121 = .ok (.iconst 1, 1) := by decide +kernel
theorem dX2_takeTurn_122 : decode cX2_takeTurn 122 = .ok (.iadd, 1) := by decide +kernel
theorem dX2_takeTurn_123 : decode cX2_takeTurn 123 = .ok (.putfield 148, 3) := by decide +kernel
theorem dX2_takeTurn_126 : decode cX2_takeTurn 126 = .ok (.iload 4, 2) := by decide +kernel
theorem dX2_takeTurn_128 : decode cX2_takeTurn 128 = .ok (.ireturn, 1) := by decide +kernel
theorem dX2_creditorOf_0 : decode cX2_creditorOf 0 = .ok (.bipush (-9), 2) := by decide +kernel
theorem dX2_creditorOf_2 : decode cX2_creditorOf 2 = .ok (.istore_n 3, 1) := by decide +kernel
theorem dX2_creditorOf_3 : decode cX2_creditorOf 3 = .ok (.iconst 0, 1) := by decide +kernel
theorem dX2_creditorOf_4 : decode cX2_creditorOf 4 = .ok (.istore 4, 2) := by decide +kernel
theorem dX2_creditorOf_6 : decode cX2_creditorOf 6 = .ok (.iconst 0, 1) := by decide +kernel
theorem dX2_creditorOf_7 : decode cX2_creditorOf 7 = .ok (.istore 5, 2) := by decide +kernel
theorem dX2_creditorOf_9 : decode cX2_creditorOf 9 = .ok (.iload 5, 2) := by decide +kernel
theorem dX2_creditorOf_11 : decode cX2_creditorOf 11 = .ok (.aload_n 0, 1) := by decide +kernel
theorem dX2_creditorOf_12 : decode cX2_creditorOf 12 = .ok (.getfield 38, 3) := by decide +kernel
theorem dX2_creditorOf_15 : decode cX2_creditorOf 15 = .ok (.if_icmp .ge 50, 3) := by decide +kernel
theorem dX2_creditorOf_18 : decode cX2_creditorOf 18 = .ok (.aload_n 1, 1) := by decide +kernel
theorem dX2_creditorOf_19 : decode cX2_creditorOf 19 = .ok (.getfield 67, 3) := by decide +kernel
theorem dX2_creditorOf_22 : decode cX2_creditorOf 22 = .ok (.iload 5, 2) := by decide +kernel
theorem dX2_creditorOf_24 : decode cX2_creditorOf 24 = .ok (.iaload, 1) := by decide +kernel
theorem dX2_creditorOf_25 : decode cX2_creditorOf 25 = .ok (.iload 4, 2) := by decide +kernel
theorem dX2_creditorOf_27 : decode cX2_creditorOf 27 = .ok (.if_icmp .le 32, 3) := by decide +kernel
theorem dX2_creditorOf_30 : decode cX2_creditorOf 30 = .ok (.iload_n 2, 1) := by decide +kernel
theorem dX2_creditorOf_31 : decode cX2_creditorOf 31 = .ok (.ifCond .eq 16, 3) := by decide +kernel
theorem dX2_creditorOf_34 : decode cX2_creditorOf 34 = .ok (.aload_n 0, 1) := by decide +kernel
theorem dX2_creditorOf_35 : decode cX2_creditorOf 35 = .ok (.getfield 20, 3) := by decide +kernel
theorem dX2_creditorOf_38 : decode cX2_creditorOf 38 = .ok (.iload 5, 2) := by decide +kernel
theorem dX2_creditorOf_40 : decode cX2_creditorOf 40 = .ok (.aaload, 1) := by decide +kernel
theorem dX2_creditorOf_41 : decode cX2_creditorOf 41 = .ok (.getfield 139, 3) := by decide +kernel
theorem dX2_creditorOf_44 : decode cX2_creditorOf 44 = .ok (.ifCond .eq 15, 3) := by decide +kernel
theorem dX2_creditorOf_47 : decode cX2_creditorOf 47 = .ok (.aload_n 1, 1) := by decide +kernel
theorem dX2_creditorOf_48 : decode cX2_creditorOf 48 = .ok (.getfield 67, 3) := by decide +kernel
theorem dX2_creditorOf_51 : decode cX2_creditorOf 51 = .ok (.iload 5, 2) := by decide +kernel
theorem dX2_creditorOf_53 : decode cX2_creditorOf 53 = .ok (.iaload, 1) := by decide +kernel
theorem dX2_creditorOf_54 : decode cX2_creditorOf 54 = .ok (.istore 4, 2) := by decide +kernel
theorem dX2_creditorOf_56 : decode cX2_creditorOf 56 = .ok (.iload 5, 2) := by decide +kernel
theorem dX2_creditorOf_58 : decode cX2_creditorOf 58 = .ok (.istore_n 3, 1) := by decide +kernel
theorem dX2_creditorOf_59 : decode cX2_creditorOf 59 = .ok (.iinc 5 1, 3) := by decide +kernel
theorem dX2_creditorOf_62 : decode cX2_creditorOf 62 = .ok (.goto (-53), 3) := by decide +kernel
theorem dX2_creditorOf_65 : decode cX2_creditorOf 65 = .ok (.iload_n 3, 1) := by decide +kernel
theorem dX2_creditorOf_66 : decode cX2_creditorOf 66 = .ok (.ireturn, 1) := by decide +kernel
theorem dX2_firstBorrower_0 : decode cX2_firstBorrower 0 = .ok (.bipush (-9), 2) := by decide +kernel
theorem dX2_firstBorrower_2 : decode cX2_firstBorrower 2 = .ok (.istore_n 1, 1) := by decide +kernel
theorem dX2_firstBorrower_3 : decode cX2_firstBorrower 3 = .ok (.iconst (-1), 1) := by decide +kernel
theorem dX2_firstBorrower_4 : decode cX2_firstBorrower 4 = .ok (.istore_n 2, 1) := by decide +kernel
theorem dX2_firstBorrower_5 : decode cX2_firstBorrower 5 = .ok (.iconst 0, 1) := by decide +kernel
theorem dX2_firstBorrower_6 : decode cX2_firstBorrower 6 = .ok (.istore_n 3, 1) := by decide +kernel
theorem dX2_firstBorrower_7 : decode cX2_firstBorrower 7 = .ok (.iload_n 3, 1) := by decide +kernel
theorem dX2_firstBorrower_8 : decode cX2_firstBorrower 8 = .ok (.aload_n 0, 1) := by decide +kernel
theorem dX2_firstBorrower_9 : decode cX2_firstBorrower 9 = .ok (.getfield 38, 3) := by decide +kernel
theorem dX2_firstBorrower_12 : decode cX2_firstBorrower 12 = .ok (.if_icmp .ge 62, 3) := by decide +kernel
theorem dX2_firstBorrower_15 : decode cX2_firstBorrower 15 = .ok (.aload_n 0, 1) := by decide +kernel
theorem dX2_firstBorrower_16 : decode cX2_firstBorrower 16 = .ok (.getfield 20, 3) := by decide +kernel
theorem dX2_firstBorrower_19 : decode cX2_firstBorrower 19 = .ok (.iload_n 3, 1) := by decide +kernel
theorem dX2_firstBorrower_20 : decode cX2_firstBorrower 20 = .ok (.aaload, 1) := by decide +kernel
theorem dX2_firstBorrower_21 : decode cX2_firstBorrower 21 = .ok (.astore 4, 2) := by decide +kernel
theorem dX2_firstBorrower_23 : decode cX2_firstBorrower 23 = .ok (.aload 4, 2) := by decide +kernel
theorem dX2_firstBorrower_25 : decode cX2_firstBorrower 25 = .ok (.getfield 139, 3) := by decide +kernel
theorem dX2_firstBorrower_28 : decode cX2_firstBorrower 28 = .ok (.ifCond .eq 40, 3) := by decide +kernel
theorem dX2_firstBorrower_31 : decode cX2_firstBorrower 31 = .ok (.aload 4, 2) := by decide +kernel
theorem dX2_firstBorrower_33 : decode cX2_firstBorrower 33 = .ok (.getfield 90, 3) := by decide +kernel
theorem dX2_firstBorrower_36 : decode cX2_firstBorrower 36 = .ok (.ifCond .ne 32, 3) := by decide +kernel
theorem dX2_firstBorrower_39 : decode cX2_firstBorrower 39 = .ok (.aload 4, 2) := by decide +kernel
theorem dX2_firstBorrower_41 : decode cX2_firstBorrower 41 = .ok (.getfield 151, 3) := by decide +kernel
theorem dX2_firstBorrower_44 : decode cX2_firstBorrower 44 = .ok (.iload_n 2, 1) := by decide +kernel
theorem dX2_firstBorrower_45 : decode cX2_firstBorrower 45 = .ok (.if_icmp .le 23, 3) := by decide +kernel
theorem dX2_firstBorrower_48 : decode cX2_firstBorrower 48 = .ok (.aload 4, 2) := by decide +kernel
theorem dX2_firstBorrower_50 : decode cX2_firstBorrower 50 = .ok (.invokevirtual 70, 3) := by decide +kernel
theorem dX2_firstBorrower_53 : decode cX2_firstBorrower 53 = .ok (.aload_n 0, 1) := by decide +kernel
theorem dX2_firstBorrower_54 : decode cX2_firstBorrower 54 = .ok (.getfield 51, 3) := by decide +kernel
theorem dX2_firstBorrower_57 : decode cX2_firstBorrower 57 = .ok (.if_icmp .ge 11, 3) := by decide +kernel
theorem dX2_firstBorrower_60 : decode cX2_firstBorrower 60 = .ok (.aload 4, 2) := by decide +kernel
theorem dX2_firstBorrower_62 : decode cX2_firstBorrower 62 = .ok (.getfield 151, 3) := by decide +kernel
theorem dX2_firstBorrower_65 : decode cX2_firstBorrower 65 = .ok (.istore_n 2, 1) := by decide +kernel
theorem dX2_firstBorrower_66 : decode cX2_firstBorrower 66 = .ok (.iload_n 3, 1) := by decide +kernel
theorem dX2_firstBorrower_67 : decode cX2_firstBorrower 67 = .ok (.istore_n 1, 1) := by decide +kernel
theorem dX2_firstBorrower_68 : decode cX2_firstBorrower 68 = .ok (.iinc 3 1, 3) := by decide +kernel
theorem dX2_firstBorrower_71 : decode cX2_firstBorrower 71 = .ok (.goto (-64), 3) := by decide +kernel
theorem dX2_firstBorrower_74 : decode cX2_firstBorrower 74 = .ok (.iload_n 1, 1) := by decide +kernel
theorem dX2_firstBorrower_75 : decode cX2_firstBorrower 75 = .ok (.ireturn, 1) := by decide +kernel
theorem dX2_work_0 : decode cX2_work 0 = .ok (.aload_n 1, 1) := by decide +kernel
theorem dX2_work_1 : decode cX2_work 1 = .ok (.getfield 83, 3) := by decide +kernel
theorem dX2_work_4 : decode cX2_work 4 = .ok (.aload_n 0, 1) := by decide +kernel
theorem dX2_work_5 : decode cX2_work 5 = .ok (.getfield 45, 3) := by decide +kernel
theorem dX2_work_8 : decode cX2_work 8 = .ok (.invokevirtual 154, 3) := by decide +kernel
theorem dX2_work_11 : decode cX2_work 11 = .ok (.istore_n 2, 1) := by decide +kernel
theorem dX2_work_12 : decode cX2_work 12 = .ok (.iload_n 2, 1) := by decide +kernel
theorem dX2_work_13 : decode cX2_work 13 = .ok (.bipush (-9), 2) := by decide +kernel
theorem dX2_work_15 : decode cX2_work 15 = .ok (.if_icmp .eq 24, 3) := by decide +kernel
theorem dX2_work_18 : decode cX2_work 18 = .ok (.aload_n 1, 1) := by decide +kernel
theorem dX2_work_19 : decode cX2_work 19 = .ok (.getfield 83, 3) := by decide +kernel
theorem dX2_work_22 : decode cX2_work 22 = .ok (.iload_n 2, 1) := by decide +kernel
theorem dX2_work_23 : decode cX2_work 23 = .ok (.invokevirtual 157, 3) := by decide +kernel
theorem dX2_work_26 : decode cX2_work 26 = .ok (.aload_n 1, 1) := by decide +kernel
theorem dX2_work_27 : decode cX2_work 27 = .ok (.dup, 1) := by decide +kernel
theorem dX2_work_28 : decode cX2_work 28 = .ok (.getfield 160, 3) := by decide +kernel
theorem dX2_work_31 : decode cX2_work 31 = .ok (.iconst 1, 1) := by decide +kernel
theorem dX2_work_32 : decode cX2_work 32 = .ok (.iadd, 1) := by decide +kernel
theorem dX2_work_33 : decode cX2_work 33 = .ok (.putfield 160, 3) := by decide +kernel
theorem dX2_work_36 : decode cX2_work 36 = .ok (.goto 18, 3) := by decide +kernel
theorem dX2_work_39 : decode cX2_work 39 = .ok (.aload_n 1, 1) := by decide +kernel
theorem dX2_work_40 : decode cX2_work 40 = .ok (.getfield 74, 3) := by decide +kernel
theorem dX2_work_43 : decode cX2_work 43 = .ok (.getfield 78, 3) := by decide +kernel
theorem dX2_work_46 : decode cX2_work 46 = .ok (.ifCond .le 8, 3) := by decide +kernel
theorem dX2_work_49 : decode cX2_work 49 = .ok (.aload_n 0, 1) := by decide +kernel
theorem dX2_work_50 : decode cX2_work 50 = .ok (.aload_n 1, 1) := by decide +kernel
theorem dX2_work_51 : decode cX2_work 51 = .ok (.invokevirtual 163, 3) := by decide +kernel
theorem dX2_work_54 : decode cX2_work 54 = .ok (.return_, 1) := by decide +kernel
theorem dX2_sendWord_0 : decode cX2_sendWord 0 = .ok (.aload_n 1, 1) := by decide +kernel
theorem dX2_sendWord_1 : decode cX2_sendWord 1 = .ok (.getfield 74, 3) := by decide +kernel
theorem dX2_sendWord_4 : decode cX2_sendWord 4 = .ok (.astore_n 2, 1) := by decide +kernel
theorem dX2_sendWord_5 : decode cX2_sendWord 5 = .ok (.aload_n 2, 1) := by decide +kernel
theorem dX2_sendWord_6 : decode cX2_sendWord 6 = .ok (.getfield 166, 3) := by decide +kernel
theorem dX2_sendWord_9 : decode cX2_sendWord 9 = .ok (.iconst 0, 1) := by decide +kernel
theorem dX2_sendWord_10 : decode cX2_sendWord 10 = .ok (.dup2, 1) := by decide +kernel
theorem dX2_sendWord_11 : decode cX2_sendWord 11 = .ok (.iaload, 1) := by decide +kernel
theorem dX2_sendWord_12 : decode cX2_sendWord 12 = .ok (.iconst 1, 1) := by decide +kernel
theorem dX2_sendWord_13 : decode cX2_sendWord 13 = .ok (.isub, 1) := by decide +kernel
theorem dX2_sendWord_14 : decode cX2_sendWord 14 = .ok (.iastore, 1) := by decide +kernel
theorem dX2_sendWord_15 : decode cX2_sendWord 15 = .ok (.aload_n 2, 1) := by decide +kernel
theorem dX2_sendWord_16 : decode cX2_sendWord 16 = .ok (.getfield 166, 3) := by decide +kernel
theorem dX2_sendWord_19 : decode cX2_sendWord 19 = .ok (.iconst 0, 1) := by decide +kernel
theorem dX2_sendWord_20 : decode cX2_sendWord 20 = .ok (.iaload, 1) := by decide +kernel
theorem dX2_sendWord_21 : decode cX2_sendWord 21 = .ok (.ifCond .le 4, 3) := by decide +kernel
theorem dX2_sendWord_24 : decode cX2_sendWord 24 = .ok (.return_, 1) := by decide +kernel
theorem dX2_sendWord_25 : decode cX2_sendWord 25 = .ok (.aload_n 2, 1) := by decide +kernel
theorem dX2_sendWord_26 : decode cX2_sendWord 26 = .ok (.getfield 169, 3) := by decide +kernel
theorem dX2_sendWord_29 : decode cX2_sendWord 29 = .ok (.iconst 0, 1) := by decide +kernel
theorem dX2_sendWord_30 : decode cX2_sendWord 30 = .ok (.baload, 1) := by decide +kernel
theorem dX2_sendWord_31 : decode cX2_sendWord 31 = .ok (.ifCond .eq 27, 3) := by decide +kernel
theorem dX2_sendWord_34 : decode cX2_sendWord 34 = .ok (.aload_n 1, 1) := by decide +kernel
theorem dX2_sendWord_35 : decode cX2_sendWord 35 = .ok (.getfield 83, 3) := by decide +kernel
theorem dX2_sendWord_38 : decode cX2_sendWord 38 = .ok (.aload_n 0, 1) := by decide +kernel
theorem dX2_sendWord_39 : decode cX2_sendWord 39 = .ok (.getfield 45, 3) := by decide +kernel
theorem dX2_sendWord_42 : decode cX2_sendWord 42 = .ok (.iconst 1, 1) := by decide +kernel
theorem dX2_sendWord_43 : decode cX2_sendWord 43 = .ok (.iadd, 1) := by decide +kernel
theorem dX2_sendWord_44 : decode cX2_sendWord 44 = .ok (.aload_n 0, 1) := by decide +kernel
theorem dX2_sendWord_45 : decode cX2_sendWord 45 = .ok (.aload_n 2, 1) := by decide +kernel
theorem dX2_sendWord_46 : decode cX2_sendWord 46 = .ok (.getfield 173, 3) := by decide +kernel
theorem dX2_sendWord_49 : decode cX2_sendWord 49 = .ok (.iconst 0, 1) := by decide +kernel
theorem dX2_sendWord_50 : decode cX2_sendWord 50 = .ok (.iaload, 1) := by decide +kernel
theorem dX2_sendWord_51 : decode cX2_sendWord 51 = .ok (.invokevirtual 176, 3) := by decide +kernel
theorem dX2_sendWord_54 : decode cX2_sendWord 54 = .ok (.iadd, 1) := by decide +kernel
theorem dX2_sendWord_55 : decode cX2_sendWord 55 = .ok (.invokevirtual 179, 3) := by decide +kernel
theorem dX2_sendWord_58 : decode cX2_sendWord 58 = .ok (.aload_n 2, 1) := by decide +kernel
theorem dX2_sendWord_59 : decode cX2_sendWord 59 = .ok (.invokevirtual 182, 3) := by decide +kernel
theorem dX2_sendWord_62 : decode cX2_sendWord 62 = .ok (.return_, 1) := by decide +kernel
theorem dX2_latencyNow_0 : decode cX2_latencyNow 0 = .ok (.iload_n 1, 1) := by decide +kernel
theorem dX2_latencyNow_1 : decode cX2_latencyNow 1 = .ok (.ifCond .lt 17, 3) := by decide +kernel
theorem dX2_latencyNow_4 : decode cX2_latencyNow 4 = .ok (.iload_n 1, 1) := by decide +kernel
theorem dX2_latencyNow_5 : decode cX2_latencyNow 5 = .ok (.iconst 4, 1) := by decide +kernel
theorem dX2_latencyNow_6 : decode cX2_latencyNow 6 = .ok (.if_icmp .ge 12, 3) := by decide +kernel
theorem dX2_latencyNow_9 : decode cX2_latencyNow 9 = .ok (.aload_n 0, 1) := by decide +kernel
theorem dX2_latencyNow_10 : decode cX2_latencyNow 10 = .ok (.getfield 15, 3) := by decide +kernel
theorem dX2_latencyNow_13 : decode cX2_latencyNow 13 = .ok (.iload_n 1, 1) := by decide +kernel
theorem dX2_latencyNow_14 : decode cX2_latencyNow 14 = .ok (.iaload, 1) := by decide +kernel
theorem dX2_latencyNow_15 : decode cX2_latencyNow 15 = .ok (.goto 4, 3) := by decide +kernel
theorem dX2_latencyNow_18 : decode cX2_latencyNow 18 = .ok (.iconst 0, 1) := by decide +kernel
theorem dX2_latencyNow_19 : decode cX2_latencyNow 19 = .ok (.ireturn, 1) := by decide +kernel
theorem dX2_cannotPay_0 : decode cX2_cannotPay 0 = .ok (.aload_n 0, 1) := by decide +kernel
theorem dX2_cannotPay_1 : decode cX2_cannotPay 1 = .ok (.iload_n 1, 1) := by decide +kernel
theorem dX2_cannotPay_2 : decode cX2_cannotPay 2 = .ok (.invokevirtual 63, 3) := by decide +kernel
theorem dX2_cannotPay_5 : decode cX2_cannotPay 5 = .ok (.ifCond .eq 15, 3) := by decide +kernel
theorem dX2_cannotPay_8 : decode cX2_cannotPay 8 = .ok (.aload_n 0, 1) := by decide +kernel
theorem dX2_cannotPay_9 : decode cX2_cannotPay 9 = .ok (.getfield 20, 3) := by decide +kernel
theorem dX2_cannotPay_12 : decode cX2_cannotPay 12 = .ok (.iload_n 1, 1) := by decide +kernel
theorem dX2_cannotPay_13 : decode cX2_cannotPay 13 = .ok (.aaload, 1) := by decide +kernel
theorem dX2_cannotPay_14 : decode cX2_cannotPay 14 = .ok (.getfield 90, 3) := by decide +kernel
theorem dX2_cannotPay_17 : decode cX2_cannotPay 17 = .ok (.ifCond .eq 5, 3) := by decide +kernel
theorem dX2_cannotPay_20 : decode cX2_cannotPay 20 = .ok (.iconst 0, 1) := by decide +kernel
theorem dX2_cannotPay_21 : decode cX2_cannotPay 21 = .ok (.ireturn, 1) := by decide +kernel
theorem dX2_cannotPay_22 : decode cX2_cannotPay 22 = .ok (.aload_n 0, 1) := by decide +kernel
theorem dX2_cannotPay_23 : decode cX2_cannotPay 23 = .ok (.getfield 20, 3) := by decide +kernel
theorem dX2_cannotPay_26 : decode cX2_cannotPay 26 = .ok (.iload_n 1, 1) := by decide +kernel
theorem dX2_cannotPay_27 : decode cX2_cannotPay 27 = .ok (.aaload, 1) := by decide +kernel
theorem dX2_cannotPay_28 : decode cX2_cannotPay 28 = .ok (.invokevirtual 70, 3) := by decide +kernel
theorem dX2_cannotPay_31 : decode cX2_cannotPay 31 = .ok (.istore_n 2, 1) := by decide +kernel
theorem dX2_cannotPay_32 : decode cX2_cannotPay 32 = .ok (.iload_n 2, 1) := by decide +kernel
theorem dX2_cannotPay_33 : decode cX2_cannotPay 33 = .ok (.ifCond .le 18, 3) := by decide +kernel
theorem dX2_cannotPay_36 : decode cX2_cannotPay 36 = .ok (.iload_n 2, 1) := by decide +kernel
theorem dX2_cannotPay_37 : decode cX2_cannotPay 37 = .ok (.iconst 4, 1) := by decide +kernel
theorem dX2_cannotPay_38 : decode cX2_cannotPay 38 = .ok (.aload_n 0, 1) := by decide +kernel
theorem dX2_cannotPay_39 : decode cX2_cannotPay 39 = .ok (.iload_n 1, 1) := by decide +kernel
theorem dX2_cannotPay_40 : decode cX2_cannotPay 40 = .ok (.invokevirtual 185, 3) := by decide +kernel
theorem dX2_cannotPay_43 : decode cX2_cannotPay 43 = .ok (.imul, 1) := by decide +kernel
theorem dX2_cannotPay_44 : decode cX2_cannotPay 44 = .ok (.if_icmp .le 7, 3) := by decide +kernel
theorem dX2_cannotPay_47 : decode cX2_cannotPay 47 = .ok (.iconst 1, 1) := by decide +kernel
theorem dX2_cannotPay_48 : decode cX2_cannotPay 48 = .ok (.goto 4, 3) := by decide +kernel
theorem dX2_cannotPay_51 : decode cX2_cannotPay 51 = .ok (.iconst 0, 1) := by decide +kernel
theorem dX2_cannotPay_52 : decode cX2_cannotPay 52 = .ok (.ireturn, 1) := by decide +kernel
theorem dX2_ruin_0 : decode cX2_ruin 0 = .ok (.aload_n 0, 1) := by decide +kernel
theorem dX2_ruin_1 : decode cX2_ruin 1 = .ok (.iload_n 1, 1) := by decide +kernel
theorem dX2_ruin_2 : decode cX2_ruin 2 = .ok (.invokevirtual 63, 3) := by decide +kernel
theorem dX2_ruin_5 : decode cX2_ruin 5 = .ok (.ifCond .ne 4, 3) := by decide +kernel
theorem dX2_ruin_8 : decode cX2_ruin 8 = .ok (.return_, 1) := by decide +kernel
theorem dX2_ruin_9 : decode cX2_ruin 9 = .ok (.aload_n 0, 1) := by decide +kernel
theorem dX2_ruin_10 : decode cX2_ruin 10 = .ok (.aload_n 0, 1) := by decide +kernel
theorem dX2_ruin_11 : decode cX2_ruin 11 = .ok (.getfield 20, 3) := by decide +kernel
theorem dX2_ruin_14 : decode cX2_ruin 14 = .ok (.iload_n 1, 1) := by decide +kernel
theorem dX2_ruin_15 : decode cX2_ruin 15 = .ok (.aaload, 1) := by decide +kernel
theorem dX2_ruin_16 : decode cX2_ruin 16 = .ok (.iconst 0, 1) := by decide +kernel
theorem dX2_ruin_17 : decode cX2_ruin 17 = .ok (.invokevirtual 132, 3) := by decide +kernel
theorem dX2_ruin_20 : decode cX2_ruin 20 = .ok (.istore_n 2, 1) := by decide +kernel
theorem dX2_ruin_21 : decode cX2_ruin 21 = .ok (.iconst 0, 1) := by decide +kernel
theorem dX2_ruin_22 : decode cX2_ruin 22 = .ok (.istore_n 3, 1) := by decide +kernel
theorem dX2_ruin_23 : decode cX2_ruin 23 = .ok (.iload_n 3, 1) := by decide +kernel
theorem dX2_ruin_24 : decode cX2_ruin 24 = .ok (.aload_n 0, 1) := by decide +kernel
theorem dX2_ruin_25 : decode cX2_ruin 25 = .ok (.getfield 42, 3) := by decide +kernel
theorem dX2_ruin_28 : decode cX2_ruin 28 = .ok (.if_icmp .ge 34, 3) := by decide +kernel
theorem dX2_ruin_31 : decode cX2_ruin 31 = .ok (.aload_n 0, 1) := by decide +kernel
theorem dX2_ruin_32 : decode cX2_ruin 32 = .ok (.iload_n 2, 1) := by decide +kernel
theorem dX2_ruin_33 : decode cX2_ruin 33 = .ok (.invokevirtual 63, 3) := by decide +kernel
theorem dX2_ruin_36 : decode cX2_ruin 36 = .ok (.ifCond .eq 26, 3) := by decide +kernel
theorem dX2_ruin_39 : decode cX2_ruin 39 = .ok (.aload_n 0, 1) := by decide +kernel
theorem dX2_ruin_40 : decode cX2_ruin 40 = .ok (.getfield 9, 3) := by decide +kernel
theorem dX2_ruin_43 : decode cX2_ruin 43 = .ok (.iload_n 3, 1) := by decide +kernel
theorem dX2_ruin_44 : decode cX2_ruin 44 = .ok (.iaload, 1) := by decide +kernel
theorem dX2_ruin_45 : decode cX2_ruin 45 = .ok (.iload_n 1, 1) := by decide +kernel
theorem dX2_ruin_46 : decode cX2_ruin 46 = .ok (.if_icmp .ne 10, 3) := by decide +kernel
theorem dX2_ruin_49 : decode cX2_ruin 49 = .ok (.aload_n 0, 1) := by decide +kernel
theorem dX2_ruin_50 : decode cX2_ruin 50 = .ok (.getfield 9, 3) := by decide +kernel
theorem dX2_ruin_53 : decode cX2_ruin 53 = .ok (.iload_n 3, 1) := by decide +kernel
theorem dX2_ruin_54 : decode cX2_ruin 54 = .ok (.iload_n 2, 1) := by decide +kernel
theorem dX2_ruin_55 : decode cX2_ruin 55 = .ok (.iastore, 1) := by decide +kernel
theorem dX2_ruin_56 : decode cX2_ruin 56 = .ok (.iinc 3 1, 3) := by decide +kernel
theorem dX2_ruin_59 : decode cX2_ruin 59 = .ok (.goto (-36), 3) := by decide +kernel
theorem dX2_ruin_62 : decode cX2_ruin 62 = .ok (.iconst 0, 1) := by decide +kernel
theorem dX2_ruin_63 : decode cX2_ruin 63 = .ok (.istore_n 3, 1) := by decide +kernel
theorem dX2_ruin_64 : decode cX2_ruin 64 = .ok (.iload_n 3, 1) := by decide +kernel
theorem dX2_ruin_65 : decode cX2_ruin 65 = .ok (.aload_n 0, 1) := by decide +kernel
theorem dX2_ruin_66 : decode cX2_ruin 66 = .ok (.getfield 38, 3) := by decide +kernel
theorem dX2_ruin_69 : decode cX2_ruin 69 = .ok (.if_icmp .ge 21, 3) := by decide +kernel
theorem dX2_ruin_72 : decode cX2_ruin 72 = .ok (.aload_n 0, 1) := by decide +kernel
theorem dX2_ruin_73 : decode cX2_ruin 73 = .ok (.getfield 20, 3) := by decide +kernel
theorem dX2_ruin_76 : decode cX2_ruin 76 = .ok (.iload_n 3, 1) := by decide +kernel
theorem dX2_ruin_77 : decode cX2_ruin 77 = .ok (.aaload, 1) := by decide +kernel
theorem dX2_ruin_78 : decode cX2_ruin 78 = .ok (.getfield 67, 3) := by decide +kernel
theorem dX2_ruin_81 : decode cX2_ruin 81 = .ok (.iload_n 1, 1) := by decide +kernel
theorem dX2_ruin_82 : decode cX2_ruin 82 = .ok (.iconst 0, 1) := by decide +kernel
theorem dX2_ruin_83 : decode cX2_ruin 83 = .ok (.iastore, 1) := by decide +kernel
theorem dX2_ruin_84 : decode cX2_ruin 84 = .ok (.iinc 3 1, 3) := by decide +kernel
theorem dX2_ruin_87 : decode cX2_ruin 87 = .ok (.goto (-23), 3) := by decide +kernel
theorem dX2_ruin_90 : decode cX2_ruin 90 = .ok (.aload_n 0, 1) := by decide +kernel
theorem dX2_ruin_91 : decode cX2_ruin 91 = .ok (.getfield 20, 3) := by decide +kernel
theorem dX2_ruin_94 : decode cX2_ruin 94 = .ok (.iload_n 1, 1) := by decide +kernel
theorem dX2_ruin_95 : decode cX2_ruin 95 = .ok (.aaload, 1) := by decide +kernel
theorem dX2_ruin_96 : decode cX2_ruin 96 = .ok (.invokevirtual 188, 3) := by decide +kernel
theorem dX2_ruin_99 : decode cX2_ruin 99 = .ok (.return_, 1) := by decide +kernel
theorem dX6_init_0 : decode cX6_init 0 = .ok (.aload_n 0, 1) := by decide +kernel
theorem dX6_init_1 : decode cX6_init 1 = .ok (.invokespecial 3, 3) := by decide +kernel
theorem dX6_init_4 : decode cX6_init 4 = .ok (.aload_n 0, 1) := by decide +kernel
theorem dX6_init_5 : decode cX6_init 5 = .ok (.new 9, 3) := by decide +kernel
theorem dX6_init_8 : decode cX6_init 8 = .ok (.dup, 1) := by decide +kernel
theorem dX6_init_9 : decode cX6_init 9 = .ok (.invokespecial 11, 3) := by decide +kernel
theorem dX6_init_12 : decode cX6_init 12 = .ok (.putfield 12, 3) := by decide +kernel
theorem dX6_init_15 : decode cX6_init 15 = .ok (.aload_n 0, 1) := by decide +kernel
theorem dX6_init_16 : decode cX6_init 16 = .ok (.new 16, 3) := by decide +kernel
theorem dX6_init_19 : decode cX6_init 19 = .ok (.dup, 1) := by decide +kernel
theorem dX6_init_20 : decode cX6_init 20 = .ok (.invokespecial 18, 3) := by decide +kernel
theorem dX6_init_23 : decode cX6_init 23 = .ok (.putfield 19, 3) := by decide +kernel
theorem dX6_init_26 : decode cX6_init 26 = .ok (.aload_n 0, 1) := by decide +kernel
theorem dX6_init_27 : decode cX6_init 27 = .ok (.new 23, 3) := by decide +kernel
theorem dX6_init_30 : decode cX6_init 30 = .ok (.dup, 1) := by decide +kernel
theorem dX6_init_31 : decode cX6_init 31 = .ok (.invokespecial 25, 3) := by decide +kernel
theorem dX6_init_34 : decode cX6_init 34 = .ok (.putfield 26, 3) := by decide +kernel
theorem dX6_init_37 : decode cX6_init 37 = .ok (.aload_n 0, 1) := by decide +kernel
theorem dX6_init_38 : decode cX6_init 38 = .ok (.iconst 2, 1) := by decide +kernel
theorem dX6_init_39 : decode cX6_init 39 = .ok (.anewarray 16, 3) := by decide +kernel
theorem dX6_init_42 : decode cX6_init 42 = .ok (.putfield 30, 3) := by decide +kernel
theorem dX6_init_45 : decode cX6_init 45 = .ok (.aload_n 0, 1) := by decide +kernel
theorem dX6_init_46 : decode cX6_init 46 = .ok (.iconst 2, 1) := by decide +kernel
theorem dX6_init_47 : decode cX6_init 47 = .ok (.newarray .boolean, 2) := by decide +kernel
theorem dX6_init_49 : decode cX6_init 49 = .ok (.putfield 34, 3) := by decide +kernel
theorem dX6_init_52 : decode cX6_init 52 = .ok (.aload_n 0, 1) := by decide +kernel
theorem dX6_init_53 : decode cX6_init 53 = .ok (.new 16, 3) := by decide +kernel
theorem dX6_init_56 : decode cX6_init 56 = .ok (.dup, 1) := by decide +kernel
theorem dX6_init_57 : decode cX6_init 57 = .ok (.invokespecial 18, 3) := by decide +kernel
theorem dX6_init_60 : decode cX6_init 60 = .ok (.putfield 38, 3) := by decide +kernel
theorem dX6_init_63 : decode cX6_init 63 = .ok (.aload_n 0, 1) := by decide +kernel
theorem dX6_init_64 : decode cX6_init 64 = .ok (.new 16, 3) := by decide +kernel
theorem dX6_init_67 : decode cX6_init 67 = .ok (.dup, 1) := by decide +kernel
theorem dX6_init_68 : decode cX6_init 68 = .ok (.invokespecial 18, 3) := by decide +kernel
theorem dX6_init_71 : decode cX6_init 71 = .ok (.putfield 41, 3) := by decide +kernel
theorem dX6_init_74 : decode cX6_init 74 = .ok (.iconst 0, 1) := by decide +kernel
theorem dX6_init_75 : decode cX6_init 75 = .ok (.istore_n 1, 1) := by decide +kernel
theorem dX6_init_76 : decode cX6_init 76 = .ok (.iload_n 1, 1) := by decide +kernel
theorem dX6_init_77 : decode cX6_init 77 = .ok (.iconst 2, 1) := by decide +kernel
theorem dX6_init_78 : decode cX6_init 78 = .ok (.if_icmp .ge 22, 3) := by decide +kernel
theorem dX6_init_81 : decode cX6_init 81 = .ok (.aload_n 0, 1) := by decide +kernel
theorem dX6_init_82 : decode cX6_init 82 = .ok (.getfield 30, 3) := by decide +kernel
theorem dX6_init_85 : decode cX6_init 85 = .ok (.iload_n 1, 1) := by decide +kernel
theorem dX6_init_86 : decode cX6_init 86 = .ok (.new 16, 3) := by decide +kernel
theorem dX6_init_89 : decode cX6_init 89 = .ok (.dup, 1) := by decide +kernel
theorem dX6_init_90 : decode cX6_init 90 = .ok (.invokespecial 18, 3) := by decide +kernel
theorem dX6_init_93 : decode cX6_init 93 = .ok (.aastore, 1) := by decide +kernel
theorem dX6_init_94 : decode cX6_init 94 = .ok (.iinc 1 1, 3) := by decide +kernel
theorem dX6_init_97 : decode cX6_init 97 = .ok (.goto (-21), 3) := by decide +kernel
theorem dX6_init_100 : decode cX6_init 100 = .ok (.return_, 1) := by decide +kernel
theorem dX6_append_0 : decode cX6_append 0 = .ok (.iload_n 1, 1) := by decide +kernel
theorem dX6_append_1 : decode cX6_append 1 = .ok (.ifCond .lt 10, 3) := by decide +kernel
theorem dX6_append_4 : decode cX6_append 4 = .ok (.iload_n 1, 1) := by decide +kernel
theorem dX6_append_5 : decode cX6_append 5 = .ok (.sipush 255, 3) := by decide +kernel
theorem dX6_append_8 : decode cX6_append 8 = .ok (.if_icmp .le 13, 3) := by decide +kernel
theorem dX6_append_11 : decode cX6_append 11 = .ok (.new 44, 3) := by decide +kernel
theorem dX6_append_14 : decode cX6_append 14 = .ok (.dup, 1) := by decide +kernel
theorem dX6_append_15 : decode cX6_append 15 = .ok (.ldc 46, 2) := by decide +kernel
theorem dX6_append_17 : decode cX6_append 17 = .ok (.invokespecial 48, 3) := by decide +kernel
theorem dX6_append_20 : decode cX6_append 20 = .ok (.athrow, 1) := by decide +kernel
theorem dX6_append_21 : decode cX6_append 21 = .ok (.aload_n 0, 1) := by decide +kernel
theorem dX6_append_22 : decode cX6_append 22 = .ok (.getfield 12, 3) := by decide +kernel
theorem dX6_append_25 : decode cX6_append 25 = .ok (.invokevirtual 51, 3) := by decide +kernel
theorem dX6_append_28 : decode cX6_append 28 = .ok (.ifCond .eq 13, 3) := by decide +kernel
theorem dX6_append_31 : decode cX6_append 31 = .ok (.new 55, 3) := by decide +kernel
theorem dX6_append_34 : decode cX6_append 34 = .ok (.dup, 1) := by decide +kernel
end
section
/-! THE MEMORY OF THE SYSTEM as numbers: every int, boolean and char that the class and the reference hold stands at (key, object, index); references are a fixed graph. -/
section MEM
abbrev Mem : Type := Nat → Nat → Nat → Int32
def ms (σ : Mem) (k o i : Nat) (v : Int32) : Mem := fun k1 o1 i1 => if k1 = k ∧ o1 = o ∧ i1 = i then v else σ k1 o1 i1
abbrev Gr : Type := Nat → Nat → Nat → Option Nat
def gs (g : Gr) (k o i : Nat) (v : Option Nat) : Gr := fun k1 o1 i1 => if k1 = k ∧ o1 = o ∧ i1 = i then v else g k1 o1 i1
/-- context: the first address, the classes' numbers, the array classes' numbers -/
abbrev Kx : Type := Nat × va_G × (Nat → ClassId)
/-- which cells there are, the references, the longs of the law's row, how many cells there are by now (in the law's first calls) -/
abbrev Wv : Type := (Nat → Nat → Prop) × Gr × (Nat → Int64) × Option Nat
/-- what a kind is: 6 an object; else an array: 0 int, 1 boolean, 2 char, 3 long, 4 of Master, 5 of Bus -/
def kT : Nat → Nat
  | 2 => 2 | 4 => 0 | 5 => 0 | 6 => 4 | 8 => 0 | 10 => 0 | 11 => 0 | 12 => 1 | 14 => 0 | 16 => 5 | 17 => 5 | 18 => 1
  | 20 => 0 | 21 => 0 | 22 => 0 | 23 => 1 | 24 => 0 | 25 => 0 | 26 => 3 | _ => 6
def kL : Nat → Nat
  | 2 => 120 | 4 => 16 | 5 => 4 | 6 => 6 | 8 => 6 | 10 => 6 | 11 => 6 | 12 => 6 | 14 => 10 | 16 => 14 | 17 => 2 | 18 => 2
  | 20 => 291 | 21 => 4074 | 22 => 582 | 23 => 2 | 24 => 120 | 25 => 6 | 26 => 1 | _ => 0
def kCi : Nat → Nat
  | 0 => 6 | 1 => 3 | 3 => 2 | 7 => 5 | 9 => 1 | 13 => 0 | 15 => 4 | 19 => 7 | _ => 99
def kF : Nat → List (Bool × Nat)
  | 0 => [(true, 70), (true, 71), (true, 72), (true, 73), (true, 74), (true, 75), (true, 76)]
  | 1 => [(false, 54), (true, 77), (false, 55), (false, 56)]
  | 3 => [(false, 30), (false, 31), (false, 32), (false, 33), (false, 34), (false, 35), (true, 78), (true, 79), (true, 80)]
  | 7 => [(true, 81), (true, 82), (true, 83), (false, 40), (false, 41), (false, 42), (false, 43), (false, 44), (false, 45), (false, 46), (false, 47)]
  | 9 => [(false, 50), (true, 84), (true, 85), (true, 86)]
  | 13 => [(false, 51), (true, 87)]
  | 15 => [(false, 52), (false, 53), (true, 88)]
  | 19 => [(true, 89), (true, 90), (true, 91), (true, 92), (false, 60), (true, 93), (true, 94), (true, 95), (false, 61), (false, 62), (false, 63), (false, 64), (false, 65), (false, 66), (true, 96)]
  | _ => []
def kCnt : Nat → Nat
  | 3 => 19 | 4 => 19 | 5 => 19 | 6 => 19
  | 7 => 114 | 8 => 114 | 9 => 114 | 10 => 114 | 11 => 114 | 12 => 114 | 13 => 114 | 14 => 114 | 20 => 3
  | n => if n < 27 then 1 else 0
/-- whose a key is -/
def kOwn (k : Nat) : Nat := if k < 30 then k else if k < 40 then 3 else if k < 50 then 7 else if k = 50 then 9 else if k = 51 then 13 else if k < 54 then 15 else if k < 60 then 1 else if k < 70 then 19 else
  if k < 77 then 0 else if k = 77 then 1 else if k < 81 then 3 else if k < 84 then 7 else if k < 87 then 9 else if k = 87 then 13 else if k = 88 then 15 else 19
def bb (b : Nat) : Nat := if b = 0 then 3 else if b ≤ 14 then 5 + 52 * b else 7 + 52 * b
def off (K o : Nat) : Nat :=
  if K < 3 then K else if K < 7 then bb o + (K - 3) else if K < 15 then bb (o / 6) + 4 + 8 * (o % 6) + (K - 7) else if K < 17 then 40 + K else if K < 19 then 768 + K else if K = 19 then 995 else if K = 20 then 996 + o else 978 + K
def ad (n0 K o : Nat) : Nat := n0 + off K o
/-- the kind and number at a place of the room -/
def inv (n : Nat) : Nat × Nat :=
  if n < 3 then (n, 0) else
  if n = 55 then (15, 0) else if n = 56 then (16, 0) else if n = 785 then (17, 0) else if n = 786 then (18, 0) else if n = 995 then (19, 0) else
  if 999 ≤ n then (n - 978, 0) else if 996 ≤ n then (20, n - 996) else
  let b := if n < 55 then 0 else if n < 785 then (n - 5) / 52 else (n - 7) / 52
  let r := n - bb b
  if r < 4 then (3 + r, b) else (7 + (r - 4) % 8, 6 * b + (r - 4) / 8)
theorem inv_off : ((List.range 27).all fun K => (List.range (kCnt K)).all fun o => inv (off K o) == (K, o)) = true := by decide +kernel
theorem kCnt_lt {K o : Nat} (h : o < kCnt K) : K < 27 := by
  rcases Nat.lt_or_ge K 27 with q | q
  · exact q
  · have e : kCnt K = 0 := by
      unfold kCnt
      split <;> first | omega | (rw [if_neg (by omega)])
    omega
theorem inv_of {K o : Nat} (h : o < kCnt K) : inv (off K o) = (K, o) := by
  have h1 := List.all_eq_true.mp inv_off K (List.mem_range.mpr (kCnt_lt h))
  have h2 := List.all_eq_true.mp h1 o (List.mem_range.mpr h)
  exact eq_of_beq h2
theorem ad_inj {n0 K o K1 o1 : Nat} (h : o < kCnt K) (h1 : o1 < kCnt K1) (e : ad n0 K o = ad n0 K1 o1) : K = K1 ∧ o = o1 := by
  have e1 : off K o = off K1 o1 := Nat.add_left_cancel e
  have e2 := inv_of h
  rw [e1, inv_of h1] at e2
  cases e2
  exact ⟨rfl, rfl⟩
/-- what a cell holds -/
def ent (dA : Nat → ClassId) (g : Gr) (σ : Mem) (τ : Nat → Int64) (K o : Nat) : va_E :=
  if kT K = 6 then .inr (kCi K, (kF K).map fun f => if f.1 then va_rf (g f.2 o 0) else .int (σ f.2 o 0))
  else if kT K = 3 then .inl (dA 3, kL K, .inr (.inl τ))
  else if 4 ≤ kT K then .inl (dA (kT K), kL K, .inr (.inr (.inr (.inr (g K o)))))
  else .inl (dA (kT K), kL K, .inl (σ K o))
theorem ent_obj {dA : Nat → ClassId} {g : Gr} {σ : Mem} {τ : Nat → Int64} {K o : Nat} (h : kT K = 6) : ent dA g σ τ K o = .inr (kCi K, (kF K).map fun f => if f.1 then va_rf (g f.2 o 0) else .int (σ f.2 o 0)) := if_pos h
theorem ent_int {dA : Nat → ClassId} {g : Gr} {σ : Mem} {τ : Nat → Int64} {K o : Nat} (h : kT K < 3) : ent dA g σ τ K o = .inl (dA (kT K), kL K, .inl (σ K o)) := by
  unfold ent
  rw [if_neg (by omega), if_neg (by omega), if_neg (by omega)]
theorem ent_long {dA : Nat → ClassId} {g : Gr} {σ : Mem} {τ : Nat → Int64} {K o : Nat} (h : kT K = 3) : ent dA g σ τ K o = .inl (dA 3, kL K, .inr (.inl τ)) := by
  unfold ent
  rw [if_neg (by omega), if_pos h]
theorem ent_ref {dA : Nat → ClassId} {g : Gr} {σ : Mem} {τ : Nat → Int64} {K o : Nat} (h : 4 ≤ kT K) (h6 : kT K < 6) : ent dA g σ τ K o = .inl (dA (kT K), kL K, .inr (.inr (.inr (.inr (g K o))))) := by
  unfold ent
  rw [if_neg (by omega), if_neg (by omega), if_pos h]
theorem kF_own : ((List.range 27).all fun K => (kF K).all fun f => kOwn f.2 == K) = true := by decide +kernel
theorem kF_nil {K : Nat} (h : 27 ≤ K) : kF K = [] := by
  unfold kF
  split <;> first | omega | rfl
theorem kF_of {K : Nat} {f : Bool × Nat} (h : f ∈ kF K) : kOwn f.2 = K := by
  rcases Nat.lt_or_ge K 27 with q | q
  · exact eq_of_beq (List.all_eq_true.mp (List.all_eq_true.mp kF_own K (List.mem_range.mpr q)) f h)
  · rw [kF_nil q] at h; cases h
theorem kT_lt {K : Nat} (h : ¬ kT K = 6) : K < 27 := by
  rcases Nat.lt_or_ge K 27 with q | q
  · exact q
  · refine absurd ?_ h
    unfold kT
    split <;> first | omega | rfl
theorem kOwn_arr {K : Nat} (h : ¬ kT K = 6) : kOwn K = K := by
  have := kT_lt h
  unfold kOwn
  rw [if_pos (by omega)]
/-- a store is seen in one cell alone -/
theorem ent_other {dA : Nat → ClassId} {g : Gr} {σ : Mem} {τ : Nat → Int64} {K o key i : Nat} {v : Int32} (hk : kOwn key = K) {K1 o1 : Nat} (h : ¬ (K1 = K ∧ o1 = o)) : ent dA g (ms σ key o i v) τ K1 o1 = ent dA g σ τ K1 o1 := by
  by_cases h6 : kT K1 = 6
  · rw [ent_obj h6, ent_obj h6]
    congr 2
    refine List.map_congr_left fun f hf => ?_
    have e : ms σ key o i v f.2 o1 0 = σ f.2 o1 0 := if_neg fun q => h ⟨by rw [← kF_of hf, q.1, hk], q.2.1⟩
    rw [e]
  · have e : ms σ key o i v K1 o1 = σ K1 o1 := by
      funext j
      exact if_neg fun q => h ⟨by rw [← kOwn_arr h6, q.1, hk], q.2.1⟩
    unfold ent
    rw [if_neg h6, if_neg h6, e]
theorem ent_gother {dA : Nat → ClassId} {g : Gr} {σ : Mem} {τ : Nat → Int64} {K o key i : Nat} {v : Option Nat} (hk : kOwn key = K) {K1 o1 : Nat} (h : ¬ (K1 = K ∧ o1 = o)) : ent dA (gs g key o i v) σ τ K1 o1 = ent dA g σ τ K1 o1 := by
  by_cases h6 : kT K1 = 6
  · rw [ent_obj h6, ent_obj h6]
    congr 2
    refine List.map_congr_left fun f hf => ?_
    have e : gs g key o i v f.2 o1 0 = g f.2 o1 0 := if_neg fun q => h ⟨by rw [← kF_of hf, q.1, hk], q.2.1⟩
    rw [e]
  · have e : gs g key o i v K1 o1 = g K1 o1 := by
      funext j
      exact if_neg fun q => h ⟨by rw [← kOwn_arr h6, q.1, hk], q.2.1⟩
    unfold ent
    rw [if_neg h6, if_neg h6, e]
def Ak (κ : Kx) : Nat → Prop := fun q => κ.1 ≤ q
theorem Ak_ad (κ : Kx) (K o : Nat) : Ak κ (ad κ.1 K o) := Nat.le_add_right _ _
/-- the heap holds the memory -/
def RelH (κ : Kx) (V : Wv) (σ : Mem) (H : Heap) : Prop :=
  (∀ K o : Nat, V.1 K o → va_at κ.2.1 vwCl (ad κ.1 K o, ent κ.2.2 V.2.1 σ V.2.2.1 K o) H) ∧ (∀ K o : Nat, V.1 K o → o < kCnt K) ∧ ∀ k : Nat, V.2.2.2 = some k → H.size = κ.1 + k
theorem RelH.put {κ : Kx} {V : Wv} {σ : Mem} {H H1 : Heap} (h : RelH κ V σ H) {K o key i : Nat} {v : Int32} (ho : V.1 K o) (hk : kOwn key = K)
    (he : va_at κ.2.1 vwCl (ad κ.1 K o, ent κ.2.2 V.2.1 (ms σ key o i v) V.2.2.1 K o) H1) (hz : H1.size = H.size) (oq : ∀ q : Nat, q ≠ ad κ.1 K o → H1[q]? = H[q]?) : RelH κ V (ms σ key o i v) H1 := by
  refine ⟨fun K1 o1 h1 => ?_, h.2.1, fun k hk => by rw [hz]; exact h.2.2 k hk⟩
  by_cases e : K1 = K ∧ o1 = o
  · obtain ⟨rfl, rfl⟩ := e
    exact he
  · rw [ent_other hk e]
    exact (h.1 K1 o1 h1).kept (oq _ fun q => e (ad_inj (h.2.1 _ _ h1) (h.2.1 _ _ ho) q))
theorem RelH.gput {κ : Kx} {U : Nat → Nat → Prop} {g : Gr} {τ : Nat → Int64} {c : Option Nat} {σ : Mem} {H H1 : Heap} (h : RelH κ (U, g, τ, c) σ H) {K o key i : Nat} {v : Option Nat} (ho : U K o) (hk : kOwn key = K)
    (he : va_at κ.2.1 vwCl (ad κ.1 K o, ent κ.2.2 (gs g key o i v) σ τ K o) H1) (hz : H1.size = H.size) (oq : ∀ q : Nat, q ≠ ad κ.1 K o → H1[q]? = H[q]?) : RelH κ (U, gs g key o i v, τ, c) σ H1 := by
  refine ⟨fun K1 o1 h1 => ?_, h.2.1, fun k hk => by rw [hz]; exact h.2.2 k hk⟩
  by_cases e : K1 = K ∧ o1 = o
  · obtain ⟨rfl, rfl⟩ := e
    exact he
  · show va_at κ.2.1 vwCl (ad κ.1 K1 o1, ent κ.2.2 (gs g key o i v) σ τ K1 o1) H1
    rw [ent_gother hk e]
    exact (h.1 K1 o1 h1).kept (oq _ fun q => e (ad_inj (h.2.1 _ _ h1) (h.2.1 _ _ ho) q))
/-- the heap has grown, nothing of the system's has changed -/
theorem RelH.grown {κ : Kx} {U : Nat → Nat → Prop} {g : Gr} {τ : Nat → Int64} {c : Option Nat} {σ : Mem} {H H1 : Heap} (h : RelH κ (U, g, τ, c) σ H) (oq : ∀ q : Nat, q < H.size → H1[q]? = H[q]?) : RelH κ (U, g, τ, none) σ H1 :=
  ⟨fun K o h1 => (h.1 K o h1).kept (oq _ (h.1 K o h1).lt), h.2.1, fun k q => by cases q⟩
theorem RelH.uncount {κ : Kx} {U : Nat → Nat → Prop} {g : Gr} {τ : Nat → Int64} {c : Option Nat} {σ : Mem} {H : Heap} (h : RelH κ (U, g, τ, c) σ H) : RelH κ (U, g, τ, none) σ H := ⟨h.1, h.2.1, fun k q => by cases q⟩
/-- a new cell -/
theorem RelH.made {κ : Kx} {U : Nat → Nat → Prop} {g : Gr} {τ : Nat → Int64} {c : Nat} {σ : Mem} {H H1 : Heap} (h : RelH κ (U, g, τ, some c) σ H) {K o : Nat} (ho : o < kCnt K) (hc : off K o = c)
    (he : va_at κ.2.1 vwCl (H.size, ent κ.2.2 g σ τ K o) H1) (hz : H1.size = H.size + 1) (oq : ∀ q : Nat, q < H.size → H1[q]? = H[q]?) : H.size = ad κ.1 K o ∧ RelH κ ((fun K1 o1 => U K1 o1 ∨ (K1 = K ∧ o1 = o)), g, τ, some (c + 1)) σ H1 := by
  have hs : H.size = κ.1 + c := h.2.2 c rfl
  have ha : H.size = ad κ.1 K o := by rw [hs, ad, hc]
  refine ⟨ha, fun K1 o1 h1 => ?_, fun K1 o1 h1 => ?_, fun k hk => ?_⟩
  · rcases h1 with h1 | ⟨rfl, rfl⟩
    · exact (h.1 K1 o1 h1).kept (oq _ (h.1 K1 o1 h1).lt)
    · rw [← ha]; exact he
  · rcases h1 with h1 | ⟨rfl, rfl⟩
    · exact h.2.1 K1 o1 h1
    · exact ho
  · cases hk
    rw [hz, hs]; omega
/-- array types -/
def aTy : Nat → FieldType
  | 0 => .int | 1 => .boolean | 2 => .char | 3 => .long | 4 => .object RX5 | _ => .object RX2
def tysA (κ : Kx) : List (ClassId × FieldType) := [(κ.2.2 0, aTy 0), (κ.2.2 1, aTy 1), (κ.2.2 2, aTy 2), (κ.2.2 3, aTy 3), (κ.2.2 4, aTy 4), (κ.2.2 5, aTy 5)]
theorem tysA_at (κ : Kx) {t : Nat} (h : t < 6) : (tysA κ)[t]? = some (κ.2.2 t, aTy t) := by
  match t, h with
  | 0, _ => rfl
  | 1, _ => rfl
  | 2, _ => rfl
  | 3, _ => rfl
  | 4, _ => rfl
  | 5, _ => rfl
  | n + 6, h => exact absurd h (by omega)
/-- statics of Throwable that a throw reads -/
def Zs (κ : Kx) (U : State) (H : Heap) : Prop := vx_Zq Bundle.tN "UNASSIGNED_STACK" Bundle.steD (Ak κ) U H ∧ vx_Zq Bundle.tN "SUPPRESSED_SENTINEL" Bundle.listD (Ak κ) U H
theorem Zs.moved {κ : Kx} {u U : State} {H : Heap} (hvm : u.vm.Alike U.vm) (h : Zs κ u H) : Zs κ U H := ⟨vx_Zq.moved hvm h.1, vx_Zq.moved hvm h.2⟩
theorem Zs.kept {κ : Kx} {U : State} {H H1 : Heap} (h : Zs κ U H) (hq : ∀ a : Nat, a < H.size → ¬ Ak κ a → H1[a]? = H[a]?) : Zs κ U H1 := ⟨vx_Zq.kept h.1 hq, vx_Zq.kept h.2 hq⟩
/-- the world as a method finds it -/
def Wd (κ : Kx) (V : Wv) (σ : Mem) (U : State) : Prop := RelH κ V σ U.heap ∧ va_K κ.2.1 vwCl (tysA κ) U ∧ κ.1 ≤ U.heap.size ∧ Zs κ U U.heap
end MEM
end
section
/-! THE STEPS: what is left to do from a place of a method on, over the memory as numbers. The heap itself stands behind it. -/
section STEPS
abbrev Fr : Type := Program × Launch × Env × Room × State × MethodId × Array Value × List Frame × Method × Code
def G (κ : Kx) (φ : Fr) (Q : State → Prop) (V : Wv) (k n : Nat) (σ : Mem) (L : List (Nat × Value)) (pc : Nat) (st : List Value) : Prop := match φ with
  | (p, l, e, R, s, m, args, below, meth, c) => ∀ (H : Heap) (locs : List Loc) (ls : Array Slot), RelH κ V σ H → va_S (Ak κ) s.heap H locs → lv_has ls c.maxLocals L → W p l e R s m args below meth c H locs k n Q (F0 m pc ls st)
def Cx (κ : Kx) (φ : Fr) (own : String) (cc : ByteArray) (nL : Nat) (rm : Room) : Prop := match φ with
  | (p, l, _, R, s, m, args, _, meth, c) => p.tables.exec = Jvm.exec ∧ c.code = cc ∧ c.maxLocals = nL ∧ s.vm.findClass own = some m.cls ∧ (∀ w ∈ GW, w.before args s = true) ∧ va_K κ.2.1 vwCl (tysA κ) s ∧ κ.1 ≤ s.heap.size ∧ meth.locks = false ∧ l.stackTraces = false ∧ Zs κ s s.heap ∧ R = rm
theorem g_iconst {κ : Kx} {φ : Fr} {own : String} {cc : ByteArray} {nL : Nat} {rm : Room} (hc : Cx κ φ own cc nL rm) {Q : State → Prop} {V : Wv} {k n : Nat} {σ : Mem} {L : List (Nat × Value)} {pc : Nat} {rest : List Value} {z : Int} {v : Int32} (hv : Int32.ofInt z = v) (hd : decode cc pc = .ok (.iconst z, 1)) {pc2 : Nat} (hp : pc + 1 = pc2) (kk : G κ φ Q V k n σ L pc2 (.int v :: rest)) : G κ φ Q V k n σ L (pc) rest := by
  subst hp
  obtain ⟨p, l, e, R, s, m, args, below, meth, c⟩ := φ
  intro H locs ls hR hS hl
  exact lv_iconst hc.1 hc.2.1 hd hv (kk H locs ls hR hS hl)
theorem g_bipush {κ : Kx} {φ : Fr} {own : String} {cc : ByteArray} {nL : Nat} {rm : Room} (hc : Cx κ φ own cc nL rm) {Q : State → Prop} {V : Wv} {k n : Nat} {σ : Mem} {L : List (Nat × Value)} {pc : Nat} {rest : List Value} {z : Int} {v : Int32} (hv : (Int8.ofInt z).toInt32 = v) (hd : decode cc pc = .ok (.bipush z, 2)) {pc2 : Nat} (hp : pc + 2 = pc2) (kk : G κ φ Q V k n σ L pc2 (.int v :: rest)) : G κ φ Q V k n σ L (pc) rest := by
  subst hp
  obtain ⟨p, l, e, R, s, m, args, below, meth, c⟩ := φ
  intro H locs ls hR hS hl
  exact lv_bipush hc.1 hc.2.1 hd hv (kk H locs ls hR hS hl)
theorem g_sipush {κ : Kx} {φ : Fr} {own : String} {cc : ByteArray} {nL : Nat} {rm : Room} (hc : Cx κ φ own cc nL rm) {Q : State → Prop} {V : Wv} {k n : Nat} {σ : Mem} {L : List (Nat × Value)} {pc : Nat} {rest : List Value} {z : Int} {v : Int32} (hv : (Int16.ofInt z).toInt32 = v) (hd : decode cc pc = .ok (.sipush z, 3)) {pc2 : Nat} (hp : pc + 3 = pc2) (kk : G κ φ Q V k n σ L pc2 (.int v :: rest)) : G κ φ Q V k n σ L (pc) rest := by
  subst hp
  obtain ⟨p, l, e, R, s, m, args, below, meth, c⟩ := φ
  intro H locs ls hR hS hl
  exact lv_sipush hc.1 hc.2.1 hd hv (kk H locs ls hR hS hl)
theorem g_lconst {κ : Kx} {φ : Fr} {own : String} {cc : ByteArray} {nL : Nat} {rm : Room} (hc : Cx κ φ own cc nL rm) {Q : State → Prop} {V : Wv} {k n : Nat} {σ : Mem} {L : List (Nat × Value)} {pc : Nat} {rest : List Value} {z : Fin 2} {v : Int64} (hv : Int64.ofNat (z : Nat) = v) (hd : decode cc pc = .ok (.lconst z, 1)) {pc2 : Nat} (hp : pc + 1 = pc2) (kk : G κ φ Q V k n σ L pc2 (.long v :: rest)) : G κ φ Q V k n σ L (pc) rest := by
  subst hp
  obtain ⟨p, l, e, R, s, m, args, below, meth, c⟩ := φ
  intro H locs ls hR hS hl
  exact lv_lconst hc.1 hc.2.1 hd hv (kk H locs ls hR hS hl)
theorem g_iload_n {κ : Kx} {φ : Fr} {own : String} {cc : ByteArray} {nL : Nat} {rm : Room} (hc : Cx κ φ own cc nL rm) {Q : State → Prop} {V : Wv} {k n : Nat} {σ : Mem} {L : List (Nat × Value)} {pc : Nat} {rest : List Value} {f : Fin 4} {x : Int32} (q : Nat) {i : Nat} (hi : (f : Nat) = i) (hq : L[q]? = some (i, .int x)) (hd : decode cc pc = .ok (.iload_n f, 1)) {pc2 : Nat} (hp : pc + 1 = pc2) (kk : G κ φ Q V k n σ L pc2 (.int x :: rest)) : G κ φ Q V k n σ L (pc) rest := by
  subst hp
  obtain ⟨p, l, e, R, s, m, args, below, meth, c⟩ := φ
  intro H locs ls hR hS hl
  exact lv_iload_n hc.1 hc.2.1 hd hi (lv_at hl q hq) (kk H locs ls hR hS hl)
theorem g_iload {κ : Kx} {φ : Fr} {own : String} {cc : ByteArray} {nL : Nat} {rm : Room} (hc : Cx κ φ own cc nL rm) {Q : State → Prop} {V : Wv} {k n : Nat} {σ : Mem} {L : List (Nat × Value)} {pc : Nat} {rest : List Value} {i : Nat} {x : Int32} (q : Nat) (hq : L[q]? = some (i, .int x)) (hd : decode cc pc = .ok (.iload i, 2)) {pc2 : Nat} (hp : pc + 2 = pc2) (kk : G κ φ Q V k n σ L pc2 (.int x :: rest)) : G κ φ Q V k n σ L (pc) rest := by
  subst hp
  obtain ⟨p, l, e, R, s, m, args, below, meth, c⟩ := φ
  intro H locs ls hR hS hl
  exact lv_iload hc.1 hc.2.1 hd (lv_at hl q hq) (kk H locs ls hR hS hl)
theorem g_lload_n {κ : Kx} {φ : Fr} {own : String} {cc : ByteArray} {nL : Nat} {rm : Room} (hc : Cx κ φ own cc nL rm) {Q : State → Prop} {V : Wv} {k n : Nat} {σ : Mem} {L : List (Nat × Value)} {pc : Nat} {rest : List Value} {f : Fin 4} {x : Int64} (q : Nat) {i : Nat} (hi : (f : Nat) = i) (hq : L[q]? = some (i, .long x)) (hd : decode cc pc = .ok (.lload_n f, 1)) {pc2 : Nat} (hp : pc + 1 = pc2) (kk : G κ φ Q V k n σ L pc2 (.long x :: rest)) : G κ φ Q V k n σ L (pc) rest := by
  subst hp
  obtain ⟨p, l, e, R, s, m, args, below, meth, c⟩ := φ
  intro H locs ls hR hS hl
  exact lv_lload_n hc.1 hc.2.1 hd hi (lv_at hl q hq) (kk H locs ls hR hS hl)
theorem g_lload {κ : Kx} {φ : Fr} {own : String} {cc : ByteArray} {nL : Nat} {rm : Room} (hc : Cx κ φ own cc nL rm) {Q : State → Prop} {V : Wv} {k n : Nat} {σ : Mem} {L : List (Nat × Value)} {pc : Nat} {rest : List Value} {i : Nat} {x : Int64} (q : Nat) (hq : L[q]? = some (i, .long x)) (hd : decode cc pc = .ok (.lload i, 2)) {pc2 : Nat} (hp : pc + 2 = pc2) (kk : G κ φ Q V k n σ L pc2 (.long x :: rest)) : G κ φ Q V k n σ L (pc) rest := by
  subst hp
  obtain ⟨p, l, e, R, s, m, args, below, meth, c⟩ := φ
  intro H locs ls hR hS hl
  exact lv_lload hc.1 hc.2.1 hd (lv_at hl q hq) (kk H locs ls hR hS hl)
theorem g_aload_n {κ : Kx} {φ : Fr} {own : String} {cc : ByteArray} {nL : Nat} {rm : Room} (hc : Cx κ φ own cc nL rm) {Q : State → Prop} {V : Wv} {k n : Nat} {σ : Mem} {L : List (Nat × Value)} {pc : Nat} {rest : List Value} {f : Fin 4} {x : Nat} (q : Nat) {i : Nat} (hi : (f : Nat) = i) (hq : L[q]? = some (i, .ref x)) (hd : decode cc pc = .ok (.aload_n f, 1)) {pc2 : Nat} (hp : pc + 1 = pc2) (kk : G κ φ Q V k n σ L pc2 (.ref x :: rest)) : G κ φ Q V k n σ L (pc) rest := by
  subst hp
  obtain ⟨p, l, e, R, s, m, args, below, meth, c⟩ := φ
  intro H locs ls hR hS hl
  exact lv_aload_n hc.1 hc.2.1 hd hi (lv_at hl q hq) (kk H locs ls hR hS hl)
theorem g_aload {κ : Kx} {φ : Fr} {own : String} {cc : ByteArray} {nL : Nat} {rm : Room} (hc : Cx κ φ own cc nL rm) {Q : State → Prop} {V : Wv} {k n : Nat} {σ : Mem} {L : List (Nat × Value)} {pc : Nat} {rest : List Value} {i : Nat} {x : Nat} (q : Nat) (hq : L[q]? = some (i, .ref x)) (hd : decode cc pc = .ok (.aload i, 2)) {pc2 : Nat} (hp : pc + 2 = pc2) (kk : G κ φ Q V k n σ L pc2 (.ref x :: rest)) : G κ φ Q V k n σ L (pc) rest := by
  subst hp
  obtain ⟨p, l, e, R, s, m, args, below, meth, c⟩ := φ
  intro H locs ls hR hS hl
  exact lv_aload hc.1 hc.2.1 hd (lv_at hl q hq) (kk H locs ls hR hS hl)
theorem g_istore_n {κ : Kx} {φ : Fr} {own : String} {cc : ByteArray} {nL : Nat} {rm : Room} (hc : Cx κ φ own cc nL rm) {Q : State → Prop} {V : Wv} {k n : Nat} {σ : Mem} {L : List (Nat × Value)} {pc : Nat} {rest : List Value} {f : Fin 4} {i : Nat} {x : Int32} {L1 : List (Nat × Value)} (hi : (f : Nat) = i) (hn : i < nL) (hL : (i, Value.int x) :: L.filter (fun q => !(q.1 == i) && !(q.1 + 1 == i && q.2.category == 2)) = L1) (hd : decode cc pc = .ok (.istore_n f, 1)) {pc2 : Nat} (hp : pc + 1 = pc2) (kk : G κ φ Q V k n σ L1 pc2 rest) : G κ φ Q V k n σ L (pc) (.int x :: rest) := by
  subst hp
  obtain ⟨p, l, e, R, s, m, args, below, meth, c⟩ := φ
  intro H locs ls hR hS hl
  have hm := hc.2.2.1
  subst hm
  exact lv_istore_n hc.1 hc.2.1 hd hi hl hn hL (fun ls2 hl2 => kk H locs ls2 hR hS hl2)
theorem g_istore {κ : Kx} {φ : Fr} {own : String} {cc : ByteArray} {nL : Nat} {rm : Room} (hc : Cx κ φ own cc nL rm) {Q : State → Prop} {V : Wv} {k n : Nat} {σ : Mem} {L : List (Nat × Value)} {pc : Nat} {rest : List Value} {i : Nat} {x : Int32} {L1 : List (Nat × Value)} (hn : i < nL) (hL : (i, Value.int x) :: L.filter (fun q => !(q.1 == i) && !(q.1 + 1 == i && q.2.category == 2)) = L1) (hd : decode cc pc = .ok (.istore i, 2)) {pc2 : Nat} (hp : pc + 2 = pc2) (kk : G κ φ Q V k n σ L1 pc2 rest) : G κ φ Q V k n σ L (pc) (.int x :: rest) := by
  subst hp
  obtain ⟨p, l, e, R, s, m, args, below, meth, c⟩ := φ
  intro H locs ls hR hS hl
  have hm := hc.2.2.1
  subst hm
  exact lv_istore hc.1 hc.2.1 hd hl hn hL (fun ls2 hl2 => kk H locs ls2 hR hS hl2)
theorem g_lstore_n {κ : Kx} {φ : Fr} {own : String} {cc : ByteArray} {nL : Nat} {rm : Room} (hc : Cx κ φ own cc nL rm) {Q : State → Prop} {V : Wv} {k n : Nat} {σ : Mem} {L : List (Nat × Value)} {pc : Nat} {rest : List Value} {f : Fin 4} {i : Nat} {x : Int64} {L1 : List (Nat × Value)} (hi : (f : Nat) = i) (hn : i + 1 < nL) (hL : (i, Value.long x) :: L.filter (fun q => !(q.1 == i) && (!(q.1 == i + 1) && !(q.1 + 1 == i && q.2.category == 2))) = L1) (hd : decode cc pc = .ok (.lstore_n f, 1)) {pc2 : Nat} (hp : pc + 1 = pc2) (kk : G κ φ Q V k n σ L1 pc2 rest) : G κ φ Q V k n σ L (pc) (.long x :: rest) := by
  subst hp
  obtain ⟨p, l, e, R, s, m, args, below, meth, c⟩ := φ
  intro H locs ls hR hS hl
  have hm := hc.2.2.1
  subst hm
  exact lv_lstore_n hc.1 hc.2.1 hd hi hl hn hL (fun ls2 hl2 => kk H locs ls2 hR hS hl2)
theorem g_lstore {κ : Kx} {φ : Fr} {own : String} {cc : ByteArray} {nL : Nat} {rm : Room} (hc : Cx κ φ own cc nL rm) {Q : State → Prop} {V : Wv} {k n : Nat} {σ : Mem} {L : List (Nat × Value)} {pc : Nat} {rest : List Value} {i : Nat} {x : Int64} {L1 : List (Nat × Value)} (hn : i + 1 < nL) (hL : (i, Value.long x) :: L.filter (fun q => !(q.1 == i) && (!(q.1 == i + 1) && !(q.1 + 1 == i && q.2.category == 2))) = L1) (hd : decode cc pc = .ok (.lstore i, 2)) {pc2 : Nat} (hp : pc + 2 = pc2) (kk : G κ φ Q V k n σ L1 pc2 rest) : G κ φ Q V k n σ L (pc) (.long x :: rest) := by
  subst hp
  obtain ⟨p, l, e, R, s, m, args, below, meth, c⟩ := φ
  intro H locs ls hR hS hl
  have hm := hc.2.2.1
  subst hm
  exact lv_lstore hc.1 hc.2.1 hd hl hn hL (fun ls2 hl2 => kk H locs ls2 hR hS hl2)
theorem g_astore_n {κ : Kx} {φ : Fr} {own : String} {cc : ByteArray} {nL : Nat} {rm : Room} (hc : Cx κ φ own cc nL rm) {Q : State → Prop} {V : Wv} {k n : Nat} {σ : Mem} {L : List (Nat × Value)} {pc : Nat} {rest : List Value} {f : Fin 4} {i : Nat} {x : Nat} {L1 : List (Nat × Value)} (hi : (f : Nat) = i) (hn : i < nL) (hL : (i, Value.ref x) :: L.filter (fun q => !(q.1 == i) && !(q.1 + 1 == i && q.2.category == 2)) = L1) (hd : decode cc pc = .ok (.astore_n f, 1)) {pc2 : Nat} (hp : pc + 1 = pc2) (kk : G κ φ Q V k n σ L1 pc2 rest) : G κ φ Q V k n σ L (pc) (.ref x :: rest) := by
  subst hp
  obtain ⟨p, l, e, R, s, m, args, below, meth, c⟩ := φ
  intro H locs ls hR hS hl
  have hm := hc.2.2.1
  subst hm
  exact lv_astore_n hc.1 hc.2.1 hd hi hl hn hL (fun ls2 hl2 => kk H locs ls2 hR hS hl2)
theorem g_astore {κ : Kx} {φ : Fr} {own : String} {cc : ByteArray} {nL : Nat} {rm : Room} (hc : Cx κ φ own cc nL rm) {Q : State → Prop} {V : Wv} {k n : Nat} {σ : Mem} {L : List (Nat × Value)} {pc : Nat} {rest : List Value} {i : Nat} {x : Nat} {L1 : List (Nat × Value)} (hn : i < nL) (hL : (i, Value.ref x) :: L.filter (fun q => !(q.1 == i) && !(q.1 + 1 == i && q.2.category == 2)) = L1) (hd : decode cc pc = .ok (.astore i, 2)) {pc2 : Nat} (hp : pc + 2 = pc2) (kk : G κ φ Q V k n σ L1 pc2 rest) : G κ φ Q V k n σ L (pc) (.ref x :: rest) := by
  subst hp
  obtain ⟨p, l, e, R, s, m, args, below, meth, c⟩ := φ
  intro H locs ls hR hS hl
  have hm := hc.2.2.1
  subst hm
  exact lv_astore hc.1 hc.2.1 hd hl hn hL (fun ls2 hl2 => kk H locs ls2 hR hS hl2)
theorem g_iinc {κ : Kx} {φ : Fr} {own : String} {cc : ByteArray} {nL : Nat} {rm : Room} (hc : Cx κ φ own cc nL rm) {Q : State → Prop} {V : Wv} {k n : Nat} {σ : Mem} {L : List (Nat × Value)} {pc : Nat} {rest : List Value} (q : Nat) {i : Nat} {z : Int} {x v : Int32} {L1 : List (Nat × Value)} (hq : L[q]? = some (i, .int x)) (hv : x + Int32.ofInt z = v) (hn : i < nL) (hL : (i, Value.int v) :: L.filter (fun q => !(q.1 == i) && !(q.1 + 1 == i && q.2.category == 2)) = L1) (hd : decode cc pc = .ok (.iinc i z, 3)) {pc2 : Nat} (hp : pc + 3 = pc2) (kk : G κ φ Q V k n σ L1 pc2 rest) : G κ φ Q V k n σ L (pc) rest := by
  subst hp
  obtain ⟨p, l, e, R, s, m, args, below, meth, c⟩ := φ
  intro H locs ls hR hS hl
  have hm := hc.2.2.1
  subst hm
  exact lv_iinc hc.1 hc.2.1 hd hl hq hv hn hL (fun ls2 hl2 => kk H locs ls2 hR hS hl2)
theorem g_iadd {κ : Kx} {φ : Fr} {own : String} {cc : ByteArray} {nL : Nat} {rm : Room} (hc : Cx κ φ own cc nL rm) {Q : State → Prop} {V : Wv} {k n : Nat} {σ : Mem} {L : List (Nat × Value)} {pc : Nat} {rest : List Value} {x y : Int32} (hd : decode cc pc = .ok (.iadd, 1)) {pc2 : Nat} (hp : pc + 1 = pc2) (kk : G κ φ Q V k n σ L pc2 (.int (x + y) :: rest)) : G κ φ Q V k n σ L (pc) (.int y :: .int x :: rest) := by
  subst hp
  obtain ⟨p, l, e, R, s, m, args, below, meth, c⟩ := φ
  intro H locs ls hR hS hl
  exact lv_iadd hc.1 hc.2.1 hd (kk H locs ls hR hS hl)
theorem g_isub {κ : Kx} {φ : Fr} {own : String} {cc : ByteArray} {nL : Nat} {rm : Room} (hc : Cx κ φ own cc nL rm) {Q : State → Prop} {V : Wv} {k n : Nat} {σ : Mem} {L : List (Nat × Value)} {pc : Nat} {rest : List Value} {x y : Int32} (hd : decode cc pc = .ok (.isub, 1)) {pc2 : Nat} (hp : pc + 1 = pc2) (kk : G κ φ Q V k n σ L pc2 (.int (x - y) :: rest)) : G κ φ Q V k n σ L (pc) (.int y :: .int x :: rest) := by
  subst hp
  obtain ⟨p, l, e, R, s, m, args, below, meth, c⟩ := φ
  intro H locs ls hR hS hl
  exact lv_isub hc.1 hc.2.1 hd (kk H locs ls hR hS hl)
theorem g_imul {κ : Kx} {φ : Fr} {own : String} {cc : ByteArray} {nL : Nat} {rm : Room} (hc : Cx κ φ own cc nL rm) {Q : State → Prop} {V : Wv} {k n : Nat} {σ : Mem} {L : List (Nat × Value)} {pc : Nat} {rest : List Value} {x y : Int32} (hd : decode cc pc = .ok (.imul, 1)) {pc2 : Nat} (hp : pc + 1 = pc2) (kk : G κ φ Q V k n σ L pc2 (.int (x * y) :: rest)) : G κ φ Q V k n σ L (pc) (.int y :: .int x :: rest) := by
  subst hp
  obtain ⟨p, l, e, R, s, m, args, below, meth, c⟩ := φ
  intro H locs ls hR hS hl
  exact lv_imul hc.1 hc.2.1 hd (kk H locs ls hR hS hl)
theorem g_iand {κ : Kx} {φ : Fr} {own : String} {cc : ByteArray} {nL : Nat} {rm : Room} (hc : Cx κ φ own cc nL rm) {Q : State → Prop} {V : Wv} {k n : Nat} {σ : Mem} {L : List (Nat × Value)} {pc : Nat} {rest : List Value} {x y : Int32} (hd : decode cc pc = .ok (.iand, 1)) {pc2 : Nat} (hp : pc + 1 = pc2) (kk : G κ φ Q V k n σ L pc2 (.int (x &&& y) :: rest)) : G κ φ Q V k n σ L (pc) (.int y :: .int x :: rest) := by
  subst hp
  obtain ⟨p, l, e, R, s, m, args, below, meth, c⟩ := φ
  intro H locs ls hR hS hl
  exact lv_iand hc.1 hc.2.1 hd (kk H locs ls hR hS hl)
theorem g_ior {κ : Kx} {φ : Fr} {own : String} {cc : ByteArray} {nL : Nat} {rm : Room} (hc : Cx κ φ own cc nL rm) {Q : State → Prop} {V : Wv} {k n : Nat} {σ : Mem} {L : List (Nat × Value)} {pc : Nat} {rest : List Value} {x y : Int32} (hd : decode cc pc = .ok (.ior, 1)) {pc2 : Nat} (hp : pc + 1 = pc2) (kk : G κ φ Q V k n σ L pc2 (.int (x ||| y) :: rest)) : G κ φ Q V k n σ L (pc) (.int y :: .int x :: rest) := by
  subst hp
  obtain ⟨p, l, e, R, s, m, args, below, meth, c⟩ := φ
  intro H locs ls hR hS hl
  exact lv_ior hc.1 hc.2.1 hd (kk H locs ls hR hS hl)
theorem g_ishl {κ : Kx} {φ : Fr} {own : String} {cc : ByteArray} {nL : Nat} {rm : Room} (hc : Cx κ φ own cc nL rm) {Q : State → Prop} {V : Wv} {k n : Nat} {σ : Mem} {L : List (Nat × Value)} {pc : Nat} {rest : List Value} {x y : Int32} (hd : decode cc pc = .ok (.ishl, 1)) {pc2 : Nat} (hp : pc + 1 = pc2) (kk : G κ φ Q V k n σ L pc2 (.int (x <<< (y &&& 31)) :: rest)) : G κ φ Q V k n σ L (pc) (.int y :: .int x :: rest) := by
  subst hp
  obtain ⟨p, l, e, R, s, m, args, below, meth, c⟩ := φ
  intro H locs ls hR hS hl
  exact lv_ishl hc.1 hc.2.1 hd (kk H locs ls hR hS hl)
theorem g_ishr {κ : Kx} {φ : Fr} {own : String} {cc : ByteArray} {nL : Nat} {rm : Room} (hc : Cx κ φ own cc nL rm) {Q : State → Prop} {V : Wv} {k n : Nat} {σ : Mem} {L : List (Nat × Value)} {pc : Nat} {rest : List Value} {x y : Int32} (hd : decode cc pc = .ok (.ishr, 1)) {pc2 : Nat} (hp : pc + 1 = pc2) (kk : G κ φ Q V k n σ L pc2 (.int (x >>> (y &&& 31)) :: rest)) : G κ φ Q V k n σ L (pc) (.int y :: .int x :: rest) := by
  subst hp
  obtain ⟨p, l, e, R, s, m, args, below, meth, c⟩ := φ
  intro H locs ls hR hS hl
  exact lv_ishr hc.1 hc.2.1 hd (kk H locs ls hR hS hl)
theorem g_idiv {κ : Kx} {φ : Fr} {own : String} {cc : ByteArray} {nL : Nat} {rm : Room} (hc : Cx κ φ own cc nL rm) {Q : State → Prop} {V : Wv} {k n : Nat} {σ : Mem} {L : List (Nat × Value)} {pc : Nat} {rest : List Value} {x y : Int32} (hne : ¬ y = 0) (hd : decode cc pc = .ok (.idiv, 1)) {pc2 : Nat} (hp : pc + 1 = pc2) (kk : G κ φ Q V k n σ L pc2 (.int (x / y) :: rest)) : G κ φ Q V k n σ L (pc) (.int y :: .int x :: rest) := by
  subst hp
  obtain ⟨p, l, e, R, s, m, args, below, meth, c⟩ := φ
  intro H locs ls hR hS hl
  exact lv_idiv hc.1 hc.2.1 hd hne (kk H locs ls hR hS hl)
theorem g_irem {κ : Kx} {φ : Fr} {own : String} {cc : ByteArray} {nL : Nat} {rm : Room} (hc : Cx κ φ own cc nL rm) {Q : State → Prop} {V : Wv} {k n : Nat} {σ : Mem} {L : List (Nat × Value)} {pc : Nat} {rest : List Value} {x y : Int32} (hne : ¬ y = 0) (hd : decode cc pc = .ok (.irem, 1)) {pc2 : Nat} (hp : pc + 1 = pc2) (kk : G κ φ Q V k n σ L pc2 (.int (x - x / y * y) :: rest)) : G κ φ Q V k n σ L (pc) (.int y :: .int x :: rest) := by
  subst hp
  obtain ⟨p, l, e, R, s, m, args, below, meth, c⟩ := φ
  intro H locs ls hR hS hl
  exact lv_irem hc.1 hc.2.1 hd hne (kk H locs ls hR hS hl)
theorem g_ladd {κ : Kx} {φ : Fr} {own : String} {cc : ByteArray} {nL : Nat} {rm : Room} (hc : Cx κ φ own cc nL rm) {Q : State → Prop} {V : Wv} {k n : Nat} {σ : Mem} {L : List (Nat × Value)} {pc : Nat} {rest : List Value} {x y : Int64} (hd : decode cc pc = .ok (.ladd, 1)) {pc2 : Nat} (hp : pc + 1 = pc2) (kk : G κ φ Q V k n σ L pc2 (.long (x + y) :: rest)) : G κ φ Q V k n σ L (pc) (.long y :: .long x :: rest) := by
  subst hp
  obtain ⟨p, l, e, R, s, m, args, below, meth, c⟩ := φ
  intro H locs ls hR hS hl
  exact lv_ladd hc.1 hc.2.1 hd (kk H locs ls hR hS hl)
theorem g_lmul {κ : Kx} {φ : Fr} {own : String} {cc : ByteArray} {nL : Nat} {rm : Room} (hc : Cx κ φ own cc nL rm) {Q : State → Prop} {V : Wv} {k n : Nat} {σ : Mem} {L : List (Nat × Value)} {pc : Nat} {rest : List Value} {x y : Int64} (hd : decode cc pc = .ok (.lmul, 1)) {pc2 : Nat} (hp : pc + 1 = pc2) (kk : G κ φ Q V k n σ L pc2 (.long (x * y) :: rest)) : G κ φ Q V k n σ L (pc) (.long y :: .long x :: rest) := by
  subst hp
  obtain ⟨p, l, e, R, s, m, args, below, meth, c⟩ := φ
  intro H locs ls hR hS hl
  exact lv_lmul hc.1 hc.2.1 hd (kk H locs ls hR hS hl)
theorem g_land {κ : Kx} {φ : Fr} {own : String} {cc : ByteArray} {nL : Nat} {rm : Room} (hc : Cx κ φ own cc nL rm) {Q : State → Prop} {V : Wv} {k n : Nat} {σ : Mem} {L : List (Nat × Value)} {pc : Nat} {rest : List Value} {x y : Int64} (hd : decode cc pc = .ok (.land, 1)) {pc2 : Nat} (hp : pc + 1 = pc2) (kk : G κ φ Q V k n σ L pc2 (.long (x &&& y) :: rest)) : G κ φ Q V k n σ L (pc) (.long y :: .long x :: rest) := by
  subst hp
  obtain ⟨p, l, e, R, s, m, args, below, meth, c⟩ := φ
  intro H locs ls hR hS hl
  exact lv_land hc.1 hc.2.1 hd (kk H locs ls hR hS hl)
theorem g_lor {κ : Kx} {φ : Fr} {own : String} {cc : ByteArray} {nL : Nat} {rm : Room} (hc : Cx κ φ own cc nL rm) {Q : State → Prop} {V : Wv} {k n : Nat} {σ : Mem} {L : List (Nat × Value)} {pc : Nat} {rest : List Value} {x y : Int64} (hd : decode cc pc = .ok (.lor, 1)) {pc2 : Nat} (hp : pc + 1 = pc2) (kk : G κ φ Q V k n σ L pc2 (.long (x ||| y) :: rest)) : G κ φ Q V k n σ L (pc) (.long y :: .long x :: rest) := by
  subst hp
  obtain ⟨p, l, e, R, s, m, args, below, meth, c⟩ := φ
  intro H locs ls hR hS hl
  exact lv_lor hc.1 hc.2.1 hd (kk H locs ls hR hS hl)
theorem g_ldiv {κ : Kx} {φ : Fr} {own : String} {cc : ByteArray} {nL : Nat} {rm : Room} (hc : Cx κ φ own cc nL rm) {Q : State → Prop} {V : Wv} {k n : Nat} {σ : Mem} {L : List (Nat × Value)} {pc : Nat} {rest : List Value} {x y : Int64} (hne : ¬ y = 0) (hd : decode cc pc = .ok (.ldiv, 1)) {pc2 : Nat} (hp : pc + 1 = pc2) (kk : G κ φ Q V k n σ L pc2 (.long (x / y) :: rest)) : G κ φ Q V k n σ L (pc) (.long y :: .long x :: rest) := by
  subst hp
  obtain ⟨p, l, e, R, s, m, args, below, meth, c⟩ := φ
  intro H locs ls hR hS hl
  exact lv_ldiv hc.1 hc.2.1 hd hne (kk H locs ls hR hS hl)
theorem g_lrem {κ : Kx} {φ : Fr} {own : String} {cc : ByteArray} {nL : Nat} {rm : Room} (hc : Cx κ φ own cc nL rm) {Q : State → Prop} {V : Wv} {k n : Nat} {σ : Mem} {L : List (Nat × Value)} {pc : Nat} {rest : List Value} {x y : Int64} (hne : ¬ y = 0) (hd : decode cc pc = .ok (.lrem, 1)) {pc2 : Nat} (hp : pc + 1 = pc2) (kk : G κ φ Q V k n σ L pc2 (.long (x - x / y * y) :: rest)) : G κ φ Q V k n σ L (pc) (.long y :: .long x :: rest) := by
  subst hp
  obtain ⟨p, l, e, R, s, m, args, below, meth, c⟩ := φ
  intro H locs ls hR hS hl
  exact lv_lrem hc.1 hc.2.1 hd hne (kk H locs ls hR hS hl)
theorem g_iushr {κ : Kx} {φ : Fr} {own : String} {cc : ByteArray} {nL : Nat} {rm : Room} (hc : Cx κ φ own cc nL rm) {Q : State → Prop} {V : Wv} {k n : Nat} {σ : Mem} {L : List (Nat × Value)} {pc : Nat} {rest : List Value} {x y : Int32} (hd : decode cc pc = .ok (.iushr, 1)) {pc2 : Nat} (hp : pc + 1 = pc2) (kk : G κ φ Q V k n σ L pc2 (.int ((x.toUInt32 >>> (y.toUInt32 &&& Int32.toUInt32 31)).toInt32) :: rest)) : G κ φ Q V k n σ L (pc) (.int y :: .int x :: rest) := by
  subst hp
  obtain ⟨p, l, e, R, s, m, args, below, meth, c⟩ := φ
  intro H locs ls hR hS hl
  exact lv_iushr hc.1 hc.2.1 hd rfl (kk H locs ls hR hS hl)
theorem g_lushr {κ : Kx} {φ : Fr} {own : String} {cc : ByteArray} {nL : Nat} {rm : Room} (hc : Cx κ φ own cc nL rm) {Q : State → Prop} {V : Wv} {k n : Nat} {σ : Mem} {L : List (Nat × Value)} {pc : Nat} {rest : List Value} {x : Int64} {y : Int32} (hd : decode cc pc = .ok (.lushr, 1)) {pc2 : Nat} (hp : pc + 1 = pc2) (kk : G κ φ Q V k n σ L pc2 (.long ((x.toUInt64 >>> (y.toInt64.toUInt64 &&& Int64.toUInt64 63)).toInt64) :: rest)) : G κ φ Q V k n σ L (pc) (.int y :: .long x :: rest) := by
  subst hp
  obtain ⟨p, l, e, R, s, m, args, below, meth, c⟩ := φ
  intro H locs ls hR hS hl
  exact lv_lushr hc.1 hc.2.1 hd rfl (kk H locs ls hR hS hl)
theorem g_lshl {κ : Kx} {φ : Fr} {own : String} {cc : ByteArray} {nL : Nat} {rm : Room} (hc : Cx κ φ own cc nL rm) {Q : State → Prop} {V : Wv} {k n : Nat} {σ : Mem} {L : List (Nat × Value)} {pc : Nat} {rest : List Value} {x : Int64} {y : Int32} (hd : decode cc pc = .ok (.lshl, 1)) {pc2 : Nat} (hp : pc + 1 = pc2) (kk : G κ φ Q V k n σ L pc2 (.long (x <<< (y.toInt64 &&& 63)) :: rest)) : G κ φ Q V k n σ L (pc) (.int y :: .long x :: rest) := by
  subst hp
  obtain ⟨p, l, e, R, s, m, args, below, meth, c⟩ := φ
  intro H locs ls hR hS hl
  exact lv_lshl hc.1 hc.2.1 hd rfl (kk H locs ls hR hS hl)
theorem g_i2l {κ : Kx} {φ : Fr} {own : String} {cc : ByteArray} {nL : Nat} {rm : Room} (hc : Cx κ φ own cc nL rm) {Q : State → Prop} {V : Wv} {k n : Nat} {σ : Mem} {L : List (Nat × Value)} {pc : Nat} {rest : List Value} {x : Int32} (hd : decode cc pc = .ok (.i2l, 1)) {pc2 : Nat} (hp : pc + 1 = pc2) (kk : G κ φ Q V k n σ L pc2 (.long x.toInt64 :: rest)) : G κ φ Q V k n σ L (pc) (.int x :: rest) := by
  subst hp
  obtain ⟨p, l, e, R, s, m, args, below, meth, c⟩ := φ
  intro H locs ls hR hS hl
  exact lv_i2l hc.1 hc.2.1 hd rfl (kk H locs ls hR hS hl)
theorem g_l2i {κ : Kx} {φ : Fr} {own : String} {cc : ByteArray} {nL : Nat} {rm : Room} (hc : Cx κ φ own cc nL rm) {Q : State → Prop} {V : Wv} {k n : Nat} {σ : Mem} {L : List (Nat × Value)} {pc : Nat} {rest : List Value} {x : Int64} (hd : decode cc pc = .ok (.l2i, 1)) {pc2 : Nat} (hp : pc + 1 = pc2) (kk : G κ φ Q V k n σ L pc2 (.int x.toInt32 :: rest)) : G κ φ Q V k n σ L (pc) (.long x :: rest) := by
  subst hp
  obtain ⟨p, l, e, R, s, m, args, below, meth, c⟩ := φ
  intro H locs ls hR hS hl
  exact lv_l2i hc.1 hc.2.1 hd rfl (kk H locs ls hR hS hl)
theorem g_i2c {κ : Kx} {φ : Fr} {own : String} {cc : ByteArray} {nL : Nat} {rm : Room} (hc : Cx κ φ own cc nL rm) {Q : State → Prop} {V : Wv} {k n : Nat} {σ : Mem} {L : List (Nat × Value)} {pc : Nat} {rest : List Value} {x : Int32} (hd : decode cc pc = .ok (.i2c, 1)) {pc2 : Nat} (hp : pc + 1 = pc2) (kk : G κ φ Q V k n σ L pc2 (.int ((x.toUInt32 % 65536).toInt32) :: rest)) : G κ φ Q V k n σ L (pc) (.int x :: rest) := by
  subst hp
  obtain ⟨p, l, e, R, s, m, args, below, meth, c⟩ := φ
  intro H locs ls hR hS hl
  exact lv_i2c hc.1 hc.2.1 hd rfl (kk H locs ls hR hS hl)
theorem g_dup {κ : Kx} {φ : Fr} {own : String} {cc : ByteArray} {nL : Nat} {rm : Room} (hc : Cx κ φ own cc nL rm) {Q : State → Prop} {V : Wv} {k n : Nat} {σ : Mem} {L : List (Nat × Value)} {pc : Nat} {rest : List Value} {va : Value} (hva : va.category = 1) (hd : decode cc pc = .ok (.dup, 1)) {pc2 : Nat} (hp : pc + 1 = pc2) (kk : G κ φ Q V k n σ L pc2 (va :: va :: rest)) : G κ φ Q V k n σ L (pc) (va :: rest) := by
  subst hp
  obtain ⟨p, l, e, R, s, m, args, below, meth, c⟩ := φ
  intro H locs ls hR hS hl
  exact lv_dup hc.1 hc.2.1 hd hva (kk H locs ls hR hS hl)
theorem g_pop {κ : Kx} {φ : Fr} {own : String} {cc : ByteArray} {nL : Nat} {rm : Room} (hc : Cx κ φ own cc nL rm) {Q : State → Prop} {V : Wv} {k n : Nat} {σ : Mem} {L : List (Nat × Value)} {pc : Nat} {rest : List Value} {va : Value} (hva : va.category = 1) (hd : decode cc pc = .ok (.pop, 1)) {pc2 : Nat} (hp : pc + 1 = pc2) (kk : G κ φ Q V k n σ L pc2 rest) : G κ φ Q V k n σ L (pc) (va :: rest) := by
  subst hp
  obtain ⟨p, l, e, R, s, m, args, below, meth, c⟩ := φ
  intro H locs ls hR hS hl
  exact lv_pop hc.1 hc.2.1 hd hva (kk H locs ls hR hS hl)
theorem g_dup2 {κ : Kx} {φ : Fr} {own : String} {cc : ByteArray} {nL : Nat} {rm : Room} (hc : Cx κ φ own cc nL rm) {Q : State → Prop} {V : Wv} {k n : Nat} {σ : Mem} {L : List (Nat × Value)} {pc : Nat} {rest : List Value} {va vb : Value} (hva : va.category = 1) (hvb : vb.category = 1) (hd : decode cc pc = .ok (.dup2, 1)) {pc2 : Nat} (hp : pc + 1 = pc2) (kk : G κ φ Q V k n σ L pc2 (va :: vb :: va :: vb :: rest)) : G κ φ Q V k n σ L (pc) (va :: vb :: rest) := by
  subst hp
  obtain ⟨p, l, e, R, s, m, args, below, meth, c⟩ := φ
  intro H locs ls hR hS hl
  exact lv_dup2_11 hc.1 hc.2.1 hd hva hvb (kk H locs ls hR hS hl)
theorem g_lcmp {κ : Kx} {φ : Fr} {own : String} {cc : ByteArray} {nL : Nat} {rm : Room} (hc : Cx κ φ own cc nL rm) {Q : State → Prop} {V : Wv} {k n : Nat} {σ : Mem} {L : List (Nat × Value)} {pc : Nat} {rest : List Value} {x y : Int64} (hd : decode cc pc = .ok (.lcmp, 1)) {pc2 : Nat} (hp : pc + 1 = pc2) (kk : G κ φ Q V k n σ L pc2 (.int (lg_cmp x y) :: rest)) : G κ φ Q V k n σ L (pc) (.long y :: .long x :: rest) := by
  subst hp
  obtain ⟨p, l, e, R, s, m, args, below, meth, c⟩ := φ
  intro H locs ls hR hS hl
  exact W.lcmp hc.1 hc.2.1 hd (kk H locs ls hR hS hl)
theorem g_if_eq {κ : Kx} {φ : Fr} {own : String} {cc : ByteArray} {nL : Nat} {rm : Room} (hc : Cx κ φ own cc nL rm) {Q : State → Prop} {V : Wv} {k n : Nat} {σ : Mem} {L : List (Nat × Value)} {pc : Nat} {rest : List Value} {x : Int32} {off : Int} (tgt : Nat) (ht : (pc : Int) + off = (tgt : Int)) (hd : decode cc pc = .ok (.ifCond .eq off, 3)) {pc2 : Nat} (hp : pc + 3 = pc2) (kt : x = 0 → G κ φ Q V k n σ L (tgt) rest) (kf : ¬ x = 0 → G κ φ Q V k n σ L pc2 rest) : G κ φ Q V k n σ L (pc) (.int x :: rest) := by
  subst hp
  obtain ⟨p, l, e, R, s, m, args, below, meth, c⟩ := φ
  intro H locs ls hR hS hl
  exact lv_if_eq hc.1 hc.2.1 hd ht (fun q => kt q H locs ls hR hS hl) (fun q => kf q H locs ls hR hS hl)
theorem g_icmp_eq {κ : Kx} {φ : Fr} {own : String} {cc : ByteArray} {nL : Nat} {rm : Room} (hc : Cx κ φ own cc nL rm) {Q : State → Prop} {V : Wv} {k n : Nat} {σ : Mem} {L : List (Nat × Value)} {pc : Nat} {rest : List Value} {x y : Int32} {off : Int} (tgt : Nat) (ht : (pc : Int) + off = (tgt : Int)) (hd : decode cc pc = .ok (.if_icmp .eq off, 3)) {pc2 : Nat} (hp : pc + 3 = pc2) (kt : x = y → G κ φ Q V k n σ L (tgt) rest) (kf : ¬ x = y → G κ φ Q V k n σ L pc2 rest) : G κ φ Q V k n σ L (pc) (.int y :: .int x :: rest) := by
  subst hp
  obtain ⟨p, l, e, R, s, m, args, below, meth, c⟩ := φ
  intro H locs ls hR hS hl
  exact lv_icmp_eq hc.1 hc.2.1 hd ht (fun q => kt q H locs ls hR hS hl) (fun q => kf q H locs ls hR hS hl)
theorem g_if_ne {κ : Kx} {φ : Fr} {own : String} {cc : ByteArray} {nL : Nat} {rm : Room} (hc : Cx κ φ own cc nL rm) {Q : State → Prop} {V : Wv} {k n : Nat} {σ : Mem} {L : List (Nat × Value)} {pc : Nat} {rest : List Value} {x : Int32} {off : Int} (tgt : Nat) (ht : (pc : Int) + off = (tgt : Int)) (hd : decode cc pc = .ok (.ifCond .ne off, 3)) {pc2 : Nat} (hp : pc + 3 = pc2) (kt : ¬ x = 0 → G κ φ Q V k n σ L (tgt) rest) (kf : x = 0 → G κ φ Q V k n σ L pc2 rest) : G κ φ Q V k n σ L (pc) (.int x :: rest) := by
  subst hp
  obtain ⟨p, l, e, R, s, m, args, below, meth, c⟩ := φ
  intro H locs ls hR hS hl
  exact lv_if_ne hc.1 hc.2.1 hd ht (fun q => kt q H locs ls hR hS hl) (fun q => kf q H locs ls hR hS hl)
theorem g_icmp_ne {κ : Kx} {φ : Fr} {own : String} {cc : ByteArray} {nL : Nat} {rm : Room} (hc : Cx κ φ own cc nL rm) {Q : State → Prop} {V : Wv} {k n : Nat} {σ : Mem} {L : List (Nat × Value)} {pc : Nat} {rest : List Value} {x y : Int32} {off : Int} (tgt : Nat) (ht : (pc : Int) + off = (tgt : Int)) (hd : decode cc pc = .ok (.if_icmp .ne off, 3)) {pc2 : Nat} (hp : pc + 3 = pc2) (kt : ¬ x = y → G κ φ Q V k n σ L (tgt) rest) (kf : x = y → G κ φ Q V k n σ L pc2 rest) : G κ φ Q V k n σ L (pc) (.int y :: .int x :: rest) := by
  subst hp
  obtain ⟨p, l, e, R, s, m, args, below, meth, c⟩ := φ
  intro H locs ls hR hS hl
  exact lv_icmp_ne hc.1 hc.2.1 hd ht (fun q => kt q H locs ls hR hS hl) (fun q => kf q H locs ls hR hS hl)
theorem g_if_lt {κ : Kx} {φ : Fr} {own : String} {cc : ByteArray} {nL : Nat} {rm : Room} (hc : Cx κ φ own cc nL rm) {Q : State → Prop} {V : Wv} {k n : Nat} {σ : Mem} {L : List (Nat × Value)} {pc : Nat} {rest : List Value} {x : Int32} {off : Int} (tgt : Nat) (ht : (pc : Int) + off = (tgt : Int)) (hd : decode cc pc = .ok (.ifCond .lt off, 3)) {pc2 : Nat} (hp : pc + 3 = pc2) (kt : x < 0 → G κ φ Q V k n σ L (tgt) rest) (kf : ¬ x < 0 → G κ φ Q V k n σ L pc2 rest) : G κ φ Q V k n σ L (pc) (.int x :: rest) := by
  subst hp
  obtain ⟨p, l, e, R, s, m, args, below, meth, c⟩ := φ
  intro H locs ls hR hS hl
  exact lv_if_lt hc.1 hc.2.1 hd ht (fun q => kt q H locs ls hR hS hl) (fun q => kf q H locs ls hR hS hl)
theorem g_icmp_lt {κ : Kx} {φ : Fr} {own : String} {cc : ByteArray} {nL : Nat} {rm : Room} (hc : Cx κ φ own cc nL rm) {Q : State → Prop} {V : Wv} {k n : Nat} {σ : Mem} {L : List (Nat × Value)} {pc : Nat} {rest : List Value} {x y : Int32} {off : Int} (tgt : Nat) (ht : (pc : Int) + off = (tgt : Int)) (hd : decode cc pc = .ok (.if_icmp .lt off, 3)) {pc2 : Nat} (hp : pc + 3 = pc2) (kt : x < y → G κ φ Q V k n σ L (tgt) rest) (kf : ¬ x < y → G κ φ Q V k n σ L pc2 rest) : G κ φ Q V k n σ L (pc) (.int y :: .int x :: rest) := by
  subst hp
  obtain ⟨p, l, e, R, s, m, args, below, meth, c⟩ := φ
  intro H locs ls hR hS hl
  exact lv_icmp_lt hc.1 hc.2.1 hd ht (fun q => kt q H locs ls hR hS hl) (fun q => kf q H locs ls hR hS hl)
theorem g_if_ge {κ : Kx} {φ : Fr} {own : String} {cc : ByteArray} {nL : Nat} {rm : Room} (hc : Cx κ φ own cc nL rm) {Q : State → Prop} {V : Wv} {k n : Nat} {σ : Mem} {L : List (Nat × Value)} {pc : Nat} {rest : List Value} {x : Int32} {off : Int} (tgt : Nat) (ht : (pc : Int) + off = (tgt : Int)) (hd : decode cc pc = .ok (.ifCond .ge off, 3)) {pc2 : Nat} (hp : pc + 3 = pc2) (kt : 0 ≤ x → G κ φ Q V k n σ L (tgt) rest) (kf : ¬ 0 ≤ x → G κ φ Q V k n σ L pc2 rest) : G κ φ Q V k n σ L (pc) (.int x :: rest) := by
  subst hp
  obtain ⟨p, l, e, R, s, m, args, below, meth, c⟩ := φ
  intro H locs ls hR hS hl
  exact lv_if_ge hc.1 hc.2.1 hd ht (fun q => kt q H locs ls hR hS hl) (fun q => kf q H locs ls hR hS hl)
theorem g_icmp_ge {κ : Kx} {φ : Fr} {own : String} {cc : ByteArray} {nL : Nat} {rm : Room} (hc : Cx κ φ own cc nL rm) {Q : State → Prop} {V : Wv} {k n : Nat} {σ : Mem} {L : List (Nat × Value)} {pc : Nat} {rest : List Value} {x y : Int32} {off : Int} (tgt : Nat) (ht : (pc : Int) + off = (tgt : Int)) (hd : decode cc pc = .ok (.if_icmp .ge off, 3)) {pc2 : Nat} (hp : pc + 3 = pc2) (kt : y ≤ x → G κ φ Q V k n σ L (tgt) rest) (kf : ¬ y ≤ x → G κ φ Q V k n σ L pc2 rest) : G κ φ Q V k n σ L (pc) (.int y :: .int x :: rest) := by
  subst hp
  obtain ⟨p, l, e, R, s, m, args, below, meth, c⟩ := φ
  intro H locs ls hR hS hl
  exact lv_icmp_ge hc.1 hc.2.1 hd ht (fun q => kt q H locs ls hR hS hl) (fun q => kf q H locs ls hR hS hl)
theorem g_if_gt {κ : Kx} {φ : Fr} {own : String} {cc : ByteArray} {nL : Nat} {rm : Room} (hc : Cx κ φ own cc nL rm) {Q : State → Prop} {V : Wv} {k n : Nat} {σ : Mem} {L : List (Nat × Value)} {pc : Nat} {rest : List Value} {x : Int32} {off : Int} (tgt : Nat) (ht : (pc : Int) + off = (tgt : Int)) (hd : decode cc pc = .ok (.ifCond .gt off, 3)) {pc2 : Nat} (hp : pc + 3 = pc2) (kt : 0 < x → G κ φ Q V k n σ L (tgt) rest) (kf : ¬ 0 < x → G κ φ Q V k n σ L pc2 rest) : G κ φ Q V k n σ L (pc) (.int x :: rest) := by
  subst hp
  obtain ⟨p, l, e, R, s, m, args, below, meth, c⟩ := φ
  intro H locs ls hR hS hl
  exact lv_if_gt hc.1 hc.2.1 hd ht (fun q => kt q H locs ls hR hS hl) (fun q => kf q H locs ls hR hS hl)
theorem g_icmp_gt {κ : Kx} {φ : Fr} {own : String} {cc : ByteArray} {nL : Nat} {rm : Room} (hc : Cx κ φ own cc nL rm) {Q : State → Prop} {V : Wv} {k n : Nat} {σ : Mem} {L : List (Nat × Value)} {pc : Nat} {rest : List Value} {x y : Int32} {off : Int} (tgt : Nat) (ht : (pc : Int) + off = (tgt : Int)) (hd : decode cc pc = .ok (.if_icmp .gt off, 3)) {pc2 : Nat} (hp : pc + 3 = pc2) (kt : y < x → G κ φ Q V k n σ L (tgt) rest) (kf : ¬ y < x → G κ φ Q V k n σ L pc2 rest) : G κ φ Q V k n σ L (pc) (.int y :: .int x :: rest) := by
  subst hp
  obtain ⟨p, l, e, R, s, m, args, below, meth, c⟩ := φ
  intro H locs ls hR hS hl
  exact lv_icmp_gt hc.1 hc.2.1 hd ht (fun q => kt q H locs ls hR hS hl) (fun q => kf q H locs ls hR hS hl)
theorem g_if_le {κ : Kx} {φ : Fr} {own : String} {cc : ByteArray} {nL : Nat} {rm : Room} (hc : Cx κ φ own cc nL rm) {Q : State → Prop} {V : Wv} {k n : Nat} {σ : Mem} {L : List (Nat × Value)} {pc : Nat} {rest : List Value} {x : Int32} {off : Int} (tgt : Nat) (ht : (pc : Int) + off = (tgt : Int)) (hd : decode cc pc = .ok (.ifCond .le off, 3)) {pc2 : Nat} (hp : pc + 3 = pc2) (kt : x ≤ 0 → G κ φ Q V k n σ L (tgt) rest) (kf : ¬ x ≤ 0 → G κ φ Q V k n σ L pc2 rest) : G κ φ Q V k n σ L (pc) (.int x :: rest) := by
  subst hp
  obtain ⟨p, l, e, R, s, m, args, below, meth, c⟩ := φ
  intro H locs ls hR hS hl
  exact lv_if_le hc.1 hc.2.1 hd ht (fun q => kt q H locs ls hR hS hl) (fun q => kf q H locs ls hR hS hl)
theorem g_icmp_le {κ : Kx} {φ : Fr} {own : String} {cc : ByteArray} {nL : Nat} {rm : Room} (hc : Cx κ φ own cc nL rm) {Q : State → Prop} {V : Wv} {k n : Nat} {σ : Mem} {L : List (Nat × Value)} {pc : Nat} {rest : List Value} {x y : Int32} {off : Int} (tgt : Nat) (ht : (pc : Int) + off = (tgt : Int)) (hd : decode cc pc = .ok (.if_icmp .le off, 3)) {pc2 : Nat} (hp : pc + 3 = pc2) (kt : x ≤ y → G κ φ Q V k n σ L (tgt) rest) (kf : ¬ x ≤ y → G κ φ Q V k n σ L pc2 rest) : G κ φ Q V k n σ L (pc) (.int y :: .int x :: rest) := by
  subst hp
  obtain ⟨p, l, e, R, s, m, args, below, meth, c⟩ := φ
  intro H locs ls hR hS hl
  exact lv_icmp_le hc.1 hc.2.1 hd ht (fun q => kt q H locs ls hR hS hl) (fun q => kf q H locs ls hR hS hl)
theorem g_goto {κ : Kx} {φ : Fr} {own : String} {cc : ByteArray} {nL : Nat} {rm : Room} (hc : Cx κ φ own cc nL rm) {Q : State → Prop} {V : Wv} {k n : Nat} {σ : Mem} {L : List (Nat × Value)} {pc : Nat} {rest : List Value} {off : Int} (tgt : Nat) (ht : (pc : Int) + off = (tgt : Int)) (hd : decode cc pc = .ok (.goto off, 3)) (kk : G κ φ Q V k n σ L (tgt) rest) : G κ φ Q V k n σ L (pc) rest := by
  obtain ⟨p, l, e, R, s, m, args, below, meth, c⟩ := φ
  intro H locs ls hR hS hl
  exact lv_goto hc.1 hc.2.1 hd ht (kk H locs ls hR hS hl)
theorem g_tableOut {κ : Kx} {φ : Fr} {own : String} {cc : ByteArray} {nL : Nat} {rm : Room} (hc : Cx κ φ own cc nL rm) {Q : State → Prop} {V : Wv} {k n : Nat} {σ : Mem} {L : List (Nat × Value)} {pc : Nat} {rest : List Value} {dflt lo hi : Int} {offs : Array Int} {len : Nat} {x : Int32} (tgt : Nat) (h : x.toInt < lo ∨ hi < x.toInt) (ht : (pc : Int) + dflt = (tgt : Int)) (hd : decode cc pc = .ok (.tableswitch dflt lo hi offs, len)) (kk : G κ φ Q V k n σ L (tgt) rest) : G κ φ Q V k n σ L (pc) (.int x :: rest) := by
  obtain ⟨p, l, e, R, s, m, args, below, meth, c⟩ := φ
  intro H locs ls hR hS hl
  exact lv_tableOut hc.1 hc.2.1 hd h ht (kk H locs ls hR hS hl)
theorem g_tableIn {κ : Kx} {φ : Fr} {own : String} {cc : ByteArray} {nL : Nat} {rm : Room} (hc : Cx κ φ own cc nL rm) {Q : State → Prop} {V : Wv} {k n : Nat} {σ : Mem} {L : List (Nat × Value)} {pc : Nat} {rest : List Value} {dflt lo hi : Int} {offs : Array Int} {len : Nat} {x : Int32} {off : Int} (tgt : Nat) (h1 : ¬ x.toInt < lo) (h2 : ¬ hi < x.toInt) (ho : offs[(x.toInt - lo).toNat]? = some off) (ht : (pc : Int) + off = (tgt : Int)) (hd : decode cc pc = .ok (.tableswitch dflt lo hi offs, len)) (kk : G κ φ Q V k n σ L (tgt) rest) : G κ φ Q V k n σ L (pc) (.int x :: rest) := by
  obtain ⟨p, l, e, R, s, m, args, below, meth, c⟩ := φ
  intro H locs ls hR hS hl
  exact lv_tableIn hc.1 hc.2.1 hd h1 h2 ho ht (kk H locs ls hR hS hl)
theorem g_ldc {κ : Kx} {φ : Fr} {own : String} {cc : ByteArray} {nL : Nat} {rm : Room} (hc : Cx κ φ own cc nL rm) {Q : State → Prop} {V : Wv} {k n : Nat} {σ : Mem} {L : List (Nat × Value)} {pc : Nat} {rest : List Value} {i : Nat} {v : Int32} (hw : Cond.constant own i v ∈ GW) (hd : decode cc pc = .ok (.ldc i, 2)) {pc2 : Nat} (hp : pc + 2 = pc2) (kk : G κ φ Q V k n σ L pc2 (.int v :: rest)) : G κ φ Q V k n σ L (pc) rest := by
  subst hp
  obtain ⟨p, l, e, R, s, m, args, below, meth, c⟩ := φ
  intro H locs ls hR hS hl
  exact lv_ldc hc.1 hc.2.1 hc.2.2.2.1 (hc.2.2.2.2.1 _ hw) hd (kk H locs ls hR hS hl)
theorem g_ldc2 {κ : Kx} {φ : Fr} {own : String} {cc : ByteArray} {nL : Nat} {rm : Room} (hc : Cx κ φ own cc nL rm) {Q : State → Prop} {V : Wv} {k n : Nat} {σ : Mem} {L : List (Nat × Value)} {pc : Nat} {rest : List Value} {i : Nat} {v : Int64} (hw : Cond.constantLong own i v ∈ GW) (hd : decode cc pc = .ok (.ldc2_w i, 3)) {pc2 : Nat} (hp : pc + 3 = pc2) (kk : G κ φ Q V k n σ L pc2 (.long v :: rest)) : G κ φ Q V k n σ L (pc) rest := by
  subst hp
  obtain ⟨p, l, e, R, s, m, args, below, meth, c⟩ := φ
  intro H locs ls hR hS hl
  exact lv_ldc2 hc.1 hc.2.1 hc.2.2.2.1 (hc.2.2.2.2.1 _ hw) hd (kk H locs ls hR hS hl)
end STEPS
end
section
/-! WORDS OF THE DECOMPILED FUNCTIONS -/
section HELP
/-- a name for a value -/
def nm {α β : Sort _} (a : α) (f : α → β) : β := f a
theorem nm_ex {α : Sort _} {β : Type _} {a : α} {f : α → β} {r : β} (h : nm a f = r) : ∃ x, x = a ∧ f x = r := ⟨a, rfl, h⟩
/-- a test that must hold -/
def gd {α : Type} (c : Bool) (x : Option α) : Option α := if c = true then x else none
theorem gd_some {α : Type} {c : Bool} {x : Option α} {r : α} (h : gd c x = some r) : c = true ∧ x = some r := by
  unfold gd at h
  split at h
  · exact ⟨by assumption, h⟩
  · cases h
theorem ite_t {α : Type} {c : Prop} {d : Decidable c} {a b r : α} (h : (@ite α c d a b) = r) (q : c) : a = r := by rw [if_pos q] at h; exact h
theorem ite_f {α : Type} {c : Prop} {d : Decidable c} {a b r : α} (h : (@ite α c d a b) = r) (q : ¬ c) : b = r := by rw [if_neg q] at h; exact h
/-- calls -/
def bd {α β : Type} (x : Option (α × Mem)) (f : α → Mem → Option β) : Option β := match x with
  | some p => f p.1 p.2
  | none => none
theorem bd_some {α β : Type} {x : Option (α × Mem)} {f : α → Mem → Option β} {r : β} (h : bd x f = some r) : ∃ (a : α) (s : Mem), x = some (a, s) ∧ f a s = some r := by
  match x, h with
  | some p, h => exact ⟨p.1, p.2, rfl, h⟩
  | none, h => cases h
def bv {β : Type} (x : Option Mem) (f : Mem → Option β) : Option β := match x with
  | some s => f s
  | none => none
theorem bv_some {β : Type} {x : Option Mem} {f : Mem → Option β} {r : β} (h : bv x f = some r) : ∃ s : Mem, x = some s ∧ f s = some r := by
  match x, h with
  | some p, h => exact ⟨p, rfl, h⟩
  | none, h => cases h
def bx {α β : Type} (x : Option ((Nat ⊕ α) × Mem)) (f : Nat → Mem → Option β) (g : α → Mem → Option β) : Option β := match x with
  | some (.inl e, s) => f e s
  | some (.inr a, s) => g a s
  | none => none
theorem bx_some {α β : Type} {x : Option ((Nat ⊕ α) × Mem)} {f : Nat → Mem → Option β} {g : α → Mem → Option β} {r : β} (h : bx x f g = some r) :
    ∃ (y : Nat ⊕ α) (s : Mem), x = some (y, s) ∧ (match y with | .inl e => f e s | .inr a => g a s) = some r := by
  match x, h with
  | some (.inl e, s), h => exact ⟨_, s, rfl, h⟩
  | some (.inr a, s), h => exact ⟨_, s, rfl, h⟩
  | none, h => cases h
/-- rounds of a loop -/
def FU : Nat := 6000
/-- a divisor that isn't 0; a boolean, a char that is one -/
def nz (y : Int32) : Bool := decide (¬ y = 0)
theorem nz_of {y : Int32} (h : nz y = true) : ¬ y = 0 := of_decide_eq_true h
def zok (x : Int32) : Bool := decide (narrow .boolean (.int x) = .int x) && fits .boolean (.int x)
theorem zok_n {x : Int32} (h : zok x = true) : narrow .boolean (.int x) = .int x := by
  unfold zok at h
  rw [Bool.and_eq_true] at h
  exact of_decide_eq_true h.1
theorem zok_f {x : Int32} (h : zok x = true) : fits .boolean (.int x) = true := by
  unfold zok at h
  rw [Bool.and_eq_true] at h
  exact h.2
def cok (x : Int32) : Bool := decide (narrow .char (.int x) = .int x)
theorem cok_n {x : Int32} (h : cok x = true) : narrow .char (.int x) = .int x := of_decide_eq_true h
theorem ne_i {x c : Int32} {z : Int} (h : ¬ x = c) (hz : c.toInt = z) : x.toInt ≠ z := by
  intro e
  rw [← hz] at e
  exact h (Int32.toInt_inj.mp e)
variable {κ : Kx} {φ : Fr} {own : String} {cc : ByteArray} {nL : Nat} {rm : Room} {Q : State → Prop} {V : Wv} {k n : Nat} {σ : Mem} {L : List (Nat × Value)} {pc : Nat} {rest st : List Value}
theorem g_nmi {x e : Int32} (h : x = e) (kk : G κ φ Q V k n σ L pc (.int x :: rest)) : G κ φ Q V k n σ L pc (.int e :: rest) := h ▸ kk
theorem g_nml {x e : Int64} (h : x = e) (kk : G κ φ Q V k n σ L pc (.long x :: rest)) : G κ φ Q V k n σ L pc (.long e :: rest) := h ▸ kk
theorem g_nms {σ1 : Mem} (h : σ1 = σ) (kk : G κ φ Q V k n σ1 L pc st) : G κ φ Q V k n σ L pc st := h ▸ kk
theorem g_sub {L1 : List (Nat × Value)} (ks : List Nat) (h : lv_pick L ks = L1) (kk : G κ φ Q V k n σ L1 pc st) : G κ φ Q V k n σ L pc st := by
  obtain ⟨p, l, e, R, s, m, args, below, meth, c⟩ := φ
  intro H locs ls hR hS hl
  exact kk H locs ls hR hS (lv_sub hl ks h)
theorem g_widen {k2 n2 : Nat} (h1 : k ≤ k2) (h2 : n ≤ n2) (kk : G κ φ Q V k2 n2 σ L pc st) : G κ φ Q V k n σ L pc st := by
  obtain ⟨p, l, e, R, s, m, args, below, meth, c⟩ := φ
  intro H locs ls hR hS hl
  exact W.widen h1 h2 (kk H locs ls hR hS hl)
theorem g_case (hc : Cx κ φ own cc nL rm) {dflt lo hi : Int} {offs : Array Int} {len : Nat} {x : Int32} {off : Int} (tgt : Nat) (c : Int32) (q : x = c) (h1 : ¬ c.toInt < lo) (h2 : ¬ hi < c.toInt) (ho : offs[(c.toInt - lo).toNat]? = some off) (ht : (pc : Int) + off = (tgt : Int)) (hd : decode cc pc = .ok (.tableswitch dflt lo hi offs, len))
    (kk : G κ φ Q V k n σ L tgt rest) : G κ φ Q V k n σ L pc (.int x :: rest) := by
  subst q
  exact g_tableIn hc tgt h1 h2 ho ht hd kk
theorem g_ldcw (hc : Cx κ φ own cc nL rm) {i : Nat} {v : Int32} (hw : Cond.constant own i v ∈ GW) (hd : decode cc pc = .ok (.ldc_w i, 3)) {pc2 : Nat} (hp : pc + 3 = pc2) (kk : G κ φ Q V k n σ L pc2 (.int v :: rest)) : G κ φ Q V k n σ L pc rest := by
  subst hp
  obtain ⟨p, l, e, R, s, m, args, below, meth, c⟩ := φ
  intro H locs ls hR hS hl
  exact lv_ldcw hc.1 hc.2.1 hc.2.2.2.1 (hc.2.2.2.2.1 _ hw) hd (kk H locs ls hR hS hl)
/-- the references, once all is made -/
def gF (n0 : Nat) : Gr := fun k o i => match k with
  | 70 => some (ad n0 1 0) | 71 => some (ad n0 3 0) | 72 => some (ad n0 15 0) | 73 => some (ad n0 17 0) | 74 => some (ad n0 18 0) | 75 => some (ad n0 3 15) | 76 => some (ad n0 3 16)
  | 77 => some (ad n0 2 0) | 78 => some (ad n0 4 o) | 79 => some (ad n0 5 o) | 80 => some (ad n0 6 o)
  | 81 => some (ad n0 8 o) | 82 => some (ad n0 9 o) | 83 => some (ad n0 13 o) | 84 => some (ad n0 10 o) | 85 => some (ad n0 11 o) | 86 => some (ad n0 12 o) | 87 => some (ad n0 14 o)
  | 88 => some (ad n0 16 0) | 89 => some (ad n0 20 0) | 90 => some (ad n0 20 1) | 91 => some (ad n0 20 2) | 92 => some (ad n0 21 0) | 93 => some (ad n0 22 0) | 94 => some (ad n0 23 0) | 95 => some (ad n0 24 0) | 96 => some (ad n0 25 0)
  | 6 => some (ad n0 7 (6 * o + i)) | 16 => some (ad n0 3 (i + 1)) | 17 => some (ad n0 3 (i + 17))
  | _ => none
def UF : Nat → Nat → Prop := fun K o => o < kCnt K
def NV (κ : Kx) (τ : Nat → Int64) : Wv := (UF, gF κ.1, τ, none)
variable {τ : Nat → Int64} {o : Nat}
theorem u0 (h : o < 1) : (NV κ τ).1 0 o := h
theorem u1 (h : o < 1) : (NV κ τ).1 1 o := h
theorem u2 (h : o < 1) : (NV κ τ).1 2 o := h
theorem u3 (h : o < 19) : (NV κ τ).1 3 o := h
theorem u4 (h : o < 19) : (NV κ τ).1 4 o := h
theorem u5 (h : o < 19) : (NV κ τ).1 5 o := h
theorem u6 (h : o < 19) : (NV κ τ).1 6 o := h
theorem u7 (h : o < 114) : (NV κ τ).1 7 o := h
theorem u8 (h : o < 114) : (NV κ τ).1 8 o := h
theorem u9 (h : o < 114) : (NV κ τ).1 9 o := h
theorem u10 (h : o < 114) : (NV κ τ).1 10 o := h
theorem u11 (h : o < 114) : (NV κ τ).1 11 o := h
theorem u12 (h : o < 114) : (NV κ τ).1 12 o := h
theorem u13 (h : o < 114) : (NV κ τ).1 13 o := h
theorem u14 (h : o < 114) : (NV κ τ).1 14 o := h
theorem u15 (h : o < 1) : (NV κ τ).1 15 o := h
theorem u16 (h : o < 1) : (NV κ τ).1 16 o := h
theorem u17 (h : o < 1) : (NV κ τ).1 17 o := h
theorem u18 (h : o < 1) : (NV κ τ).1 18 o := h
theorem u19 (h : o < 1) : (NV κ τ).1 19 o := h
theorem u20 (h : o < 3) : (NV κ τ).1 20 o := h
theorem u21 (h : o < 1) : (NV κ τ).1 21 o := h
theorem u22 (h : o < 1) : (NV κ τ).1 22 o := h
theorem u23 (h : o < 1) : (NV κ τ).1 23 o := h
theorem u24 (h : o < 1) : (NV κ τ).1 24 o := h
theorem u25 (h : o < 1) : (NV κ τ).1 25 o := h
theorem u26 (h : o < 1) : (NV κ τ).1 26 o := h
end HELP
end
section
/-! THE STEPS THAT READ AND WRITE CELLS -/
section HEAPS
def ib (i : Int32) (n : Nat) : Bool := decide (0 ≤ i) && decide (i.toNatClampNeg < n)
theorem ib_in {i : Int32} {n : Nat} (h : ib i n = true) : vp_in i n := by
  unfold ib at h
  rw [Bool.and_eq_true] at h
  have h1 : 0 ≤ i := of_decide_eq_true h.1
  have h2 : i.toNatClampNeg < n := of_decide_eq_true h.2
  intro q
  rcases q with q | q
  · have a1 := Int32.lt_iff_toInt_lt.mp q
    have a2 := Int32.le_iff_toInt_le.mp h1
    omega
  · omega
theorem ib_lt {i : Int32} {n : Nat} (h : ib i n = true) : i.toNatClampNeg < n := by
  unfold ib at h
  rw [Bool.and_eq_true] at h
  exact of_decide_eq_true h.2
/-- what a boolean, a char keeps of an int -/
def zb (x : Int32) : Int32 := vp_nar .boolean x
def cb (x : Int32) : Int32 := vp_nar .char x
/-- a field by its place in the constant pool: of which kind, its key -/
def FieldOk (own : String) (idx K j key : Nat) (r : Bool) : Prop :=
  ∃ (C : String) (T : u_T) (N : Nat), kT K = 6 ∧ vwCl[kCi K]? = some (C, T, N) ∧ (∀ w ∈ u_ws C T N, w ∈ GW) ∧ j < N ∧ (kF K).length = N ∧ (T j).1 = C ∧ (kF K)[j]? = some (r, key) ∧ Cond.fieldLink own idx C (T j).2.1 (T j).2.2.1 ∈ GW
/-- a class's fields are apart -/
def ClassOk (K : Nat) : Prop := ∃ (C : String) (T : u_T) (N : Nat) (ty : Nat → FieldType), vwCl[kCi K]? = some (C, T, N) ∧ (∀ w ∈ u_ws C T N, w ∈ GW) ∧ (∀ k, k < N → parseFieldDescriptor (T k).2.2.1 = some (ty k)) ∧ ∀ a, a < N → ∀ b, b < N → a ≠ b → (T a).2.1 ≠ (T b).2.1
def entO (g : Gr) (σ : Mem) (K o : Nat) : List Value := (kF K).map fun f => if f.1 then va_rf (g f.2 o 0) else .int (σ f.2 o 0)
variable {κ : Kx} {φ : Fr} {own : String} {cc : ByteArray} {nL : Nat} {rm : Room} {Q : State → Prop} {V : Wv} {k n : Nat} {σ : Mem} {L : List (Nat × Value)} {pc : Nat} {rest : List Value}
theorem va_one {D : va_G} {a : Nat} {e : va_E} {H : Heap} (h : va_at D vwCl (a, e) H) : va_P D vwCl [(a, e)] H := by
  intro j q hq
  match j, hq with
  | 0, hq => cases hq; exact h
  | j + 1, hq => simp at hq
theorem g_get0 (hc : Cx κ φ own cc nL rm) {idx K j key o : Nat} {r : Bool} (hF : FieldOk own idx K j key r) (ho : V.1 K o) {v : Value} (hv : (if r then va_rf (V.2.1 key o 0) else .int (σ key o 0)) = v) (hd : decode cc pc = .ok (.getfield idx, 3)) {pc2 : Nat} (hp : pc + 3 = pc2)
    (kk : G κ φ Q V k n σ L pc2 (v :: rest)) : G κ φ Q V k n σ L pc (.ref (ad κ.1 K o) :: rest) := by
  subst hp
  obtain ⟨p, l, e, R, s, m, args, below, meth, c⟩ := φ
  intro H locs ls hR hS hl
  obtain ⟨C, T, N, h6, hcl, hin, hj, hN, hT, hf, hw⟩ := hF
  have hat := hR.1 K o ho
  rw [ent_obj h6] at hat
  refine va_get (own := own) (ref := C) (Ts := GW) (tys := tysA κ) hc.1 hc.2.1 hc.2.2.2.2.1 hin hc.2.2.2.1 hc.2.2.2.2.2.1 (va_one hat) 0 rfl hcl j hj (hc.2.2.2.2.1 _ hw) (fun x hx => by rw [hT] at hx; exact hx) (v := v) ?_ hd (kk H locs ls hR hS hl)
  rw [List.getElem?_map, hf, ← hv]
  rfl
theorem g_geti (hc : Cx κ φ own cc nL rm) {idx K j key o : Nat} (hF : FieldOk own idx K j key false) (ho : V.1 K o) (hd : decode cc pc = .ok (.getfield idx, 3)) {pc2 : Nat} (hp : pc + 3 = pc2)
    (kk : G κ φ Q V k n σ L pc2 (.int (σ key o 0) :: rest)) : G κ φ Q V k n σ L pc (.ref (ad κ.1 K o) :: rest) := g_get0 hc hF ho (if_neg Bool.false_ne_true) hd hp kk
theorem g_getr (hc : Cx κ φ own cc nL rm) {idx K j key o q : Nat} (hF : FieldOk own idx K j key true) (ho : V.1 K o) (hg : V.2.1 key o 0 = some q) (hd : decode cc pc = .ok (.getfield idx, 3)) {pc2 : Nat} (hp : pc + 3 = pc2)
    (kk : G κ φ Q V k n σ L pc2 (.ref q :: rest)) : G κ φ Q V k n σ L pc (.ref (ad κ.1 K o) :: rest) := g_get0 hc hF ho (by rw [if_pos rfl, hg]; rfl) hd hp kk
theorem va_V_set {fs : List Value} {N j : Nat} (hj : j < fs.length) (v : Value) {V' : Nat → Value} (h : ∀ i, i < N → V' i = if i = j then v else vp_V fs i) : ∀ i, i < N → updV (vp_V fs) j v i = V' i := by
  intro i hi
  rw [h i hi]
  rfl
/-- what a store in a field leaves of the object -/
theorem entO_set {g : Gr} {σ : Mem} {K o j key N : Nat} {x : Int32} (hN : (kF K).length = N) (hf : (kF K)[j]? = some (false, key)) (hap : ∀ a b : Nat, (kF K)[a]? = (kF K)[b]? → a < N → a = b) :
    ∀ i, i < N → updV (vp_V (entO g σ K o)) j (.int x) i = vp_V (entO g (ms σ key o 0 x) K o) i := by
  intro i hi
  have hi2 : i < (kF K).length := by rw [hN]; exact hi
  unfold updV vp_V entO
  rw [List.getD_eq_getElem?_getD, List.getD_eq_getElem?_getD, List.getElem?_map, List.getElem?_map]
  by_cases e : i = j
  · subst e
    rw [if_pos rfl, hf]
    show Value.int x = Value.int (ms σ key o 0 x key o 0)
    rw [ms, if_pos ⟨rfl, rfl, rfl⟩]
  · rw [if_neg e]
    obtain ⟨f, hf2⟩ : ∃ f, (kF K)[i]? = some f := ⟨_, List.getElem?_eq_getElem hi2⟩
    rw [hf2]
    obtain ⟨b, k2⟩ := f
    cases b with
    | true => rfl
    | false =>
      have hne : k2 ≠ key := fun q => e (hap i j (by rw [hf2, hf, q]) hi)
      show Value.int (σ k2 o 0) = Value.int (ms σ key o 0 x k2 o 0)
      rw [ms, if_neg fun q => hne q.1]
theorem entO_gset {g : Gr} {σ : Mem} {K o j key N : Nat} {x : Option Nat} (hN : (kF K).length = N) (hf : (kF K)[j]? = some (true, key)) (hap : ∀ a b : Nat, (kF K)[a]? = (kF K)[b]? → a < N → a = b) :
    ∀ i, i < N → updV (vp_V (entO g σ K o)) j (va_rf x) i = vp_V (entO (gs g key o 0 x) σ K o) i := by
  intro i hi
  have hi2 : i < (kF K).length := by rw [hN]; exact hi
  unfold updV vp_V entO
  rw [List.getD_eq_getElem?_getD, List.getD_eq_getElem?_getD, List.getElem?_map, List.getElem?_map]
  by_cases e : i = j
  · subst e
    rw [if_pos rfl, hf]
    show va_rf x = va_rf (gs g key o 0 x key o 0)
    rw [gs, if_pos ⟨rfl, rfl, rfl⟩]
  · rw [if_neg e]
    obtain ⟨f, hf2⟩ : ∃ f, (kF K)[i]? = some f := ⟨_, List.getElem?_eq_getElem hi2⟩
    rw [hf2]
    obtain ⟨b, k2⟩ := f
    cases b with
    | false => rfl
    | true =>
      have hne : k2 ≠ key := fun q => e (hap i j (by rw [hf2, hf, q]) hi)
      show va_rf (g k2 o 0) = va_rf (gs g key o 0 x k2 o 0)
      rw [gs, if_neg fun q => hne q.1]
theorem kF_nd : ((List.range 27).all fun K => (List.range (kF K).length).all fun a => (List.range (kF K).length).all fun b => a == b || (kF K)[a]? != (kF K)[b]?) = true := by decide +kernel
theorem kF_apart {K N : Nat} (hK : K < 27) (hN : (kF K).length = N) : ∀ a b : Nat, (kF K)[a]? = (kF K)[b]? → a < N → a = b := by
  intro a b e ha
  have hb : b < (kF K).length := by
    rcases Nat.lt_or_ge b (kF K).length with q | q
    · exact q
    · rw [List.getElem?_eq_none q] at e
      have := List.getElem?_eq_none_iff.mp e
      omega
  have h1 := List.all_eq_true.mp (List.all_eq_true.mp (List.all_eq_true.mp kF_nd K (List.mem_range.mpr hK)) a (List.mem_range.mpr (by omega))) b (List.mem_range.mpr hb)
  rw [e] at h1
  rcases Bool.or_eq_true _ _ ▸ h1 with q | q
  · exact eq_of_beq q
  · simp at q
/-- a store in a field -/
theorem g_put0 (hc : Cx κ φ own cc nL rm) {idx K j key o : Nat} {r : Bool} (hK : K < 27) (hF : FieldOk own idx K j key r) (hO : ClassOk K) (ho : V.1 K o) {v : Value} {V2 : Wv} {σ2 : Mem}
    (hfin : ∀ C T N, vwCl[kCi K]? = some (C, T, N) → (T j).2.2.2 = false ∧ ∃ ty, parseFieldDescriptor (T j).2.2.1 = some ty ∧ narrow ty v = v ∧ fits ty v = true)
    (hset : ∀ i, i < (kF K).length → updV (vp_V (entO V.2.1 σ K o)) j v i = vp_V (entO V2.2.1 σ2 K o) i)
    (hrel : ∀ H H1 : Heap, RelH κ V σ H → va_at κ.2.1 vwCl (ad κ.1 K o, ent κ.2.2 V2.2.1 σ2 V2.2.2.1 K o) H1 → H1.size = H.size → (∀ q : Nat, q ≠ ad κ.1 K o → H1[q]? = H[q]?) → RelH κ V2 σ2 H1)
    (hd : decode cc pc = .ok (.putfield idx, 3)) {pc2 : Nat} (hp : pc + 3 = pc2) (kk : G κ φ Q V2 k n σ2 L pc2 rest) : G κ φ Q V k n σ L pc (v :: .ref (ad κ.1 K o) :: rest) := by
  subst hp
  obtain ⟨p, l, e, R, s, m, args, below, meth, c⟩ := φ
  intro H locs ls hR hS hl
  obtain ⟨C, T, N, h6, hcl, hin, hj, hN, hT, hf, hw⟩ := hF
  obtain ⟨C2, T2, N2, ty0, hcl2, -, hty, hnm⟩ := hO
  cases hcl.symm.trans hcl2
  obtain ⟨hfi, ty, hpd, hnr, hft⟩ := hfin C T N hcl
  have hts := hc.2.2.2.2.1
  have hKK := hc.2.2.2.2.2.1
  have hap := va_apart (own := own) hts hin ty0 hty hnm hKK hcl
  have hat := hR.1 K o ho
  rw [ent_obj h6] at hat
  obtain ⟨r', h1, cell, q1, q2, q3, q4⟩ := hat
  have hr : r' = (C, T, N) := Option.some.inj (h1.symm.trans hcl)
  subst hr
  obtain ⟨hSl, hfc, kC, hkC, hkind⟩ := hKK.1 _ _ hcl
  obtain ⟨cf, kf, fi, f, hi, hsl⟩ := hSl j hj
  have hlay := hts _ (hin _ (u_in_lay hj))
  unfold u_lay at hlay
  rw [if_neg (by rw [hfi]; decide)] at hlay
  have hst := (u_facts hfc hkC (u_lays hts hin hj) hi).1
  have h7 := u_store hfc hkC hkind hlay hi hpd hnr hft
  have hi2 : s.fieldFound? C (T j).2.1 (T j).2.2.1 = some (cf, kf, fi, f) := by rw [hT] at hi; exact hi
  refine W.putK hc.1 hc.2.1 (f := f) ⟨hc.2.2.2.1, hts _ hw, ⟨_, _, _, hi2⟩, hst⟩ (by rw [q2]; exact h7) q1 q3 (by rw [hsl]; exact k2_hasslot (q4 j hj)) rfl rfl hd fun H' e1 e2 e3 => ?_
  rw [hsl] at e1 ⊢
  refine kk H' _ ls (hrel H H' hR ?_ e2 e3) (hS.put e2 e3 (Ak_ad κ K o)) hl
  rw [ent_obj h6]
  exact ⟨_, hcl, t_OB.to (V := updV (vp_V (entO V.2.1 σ K o)) j v) ⟨_, e1, q2, q3, t_set q4 hap hj v⟩ (fun i hi3 => hset i (by rw [hN]; exact hi3))⟩
/-- the types of a store of a number: as the table says -/
def PutOk (K j : Nat) (ty : FieldType) : Prop := ∀ C T N, vwCl[kCi K]? = some (C, T, N) → (T j).2.2.2 = false ∧ parseFieldDescriptor (T j).2.2.1 = some ty
theorem g_puti (hc : Cx κ φ own cc nL rm) {idx K j key o : Nat} {ty : FieldType} (hK : K < 27) (hF : FieldOk own idx K j key false) (hO : ClassOk K) (hpu : PutOk K j ty) (hw : kOwn key = K) (ho : V.1 K o) {x : Int32} (hn : narrow ty (.int x) = .int x) (hfit : fits ty (.int x) = true)
    (hd : decode cc pc = .ok (.putfield idx, 3)) {pc2 : Nat} (hp : pc + 3 = pc2) (kk : G κ φ Q V k n (ms σ key o 0 x) L pc2 rest) : G κ φ Q V k n σ L pc (.int x :: .ref (ad κ.1 K o) :: rest) := by
  obtain ⟨C, T, N, h6, hcl, hin, hj, hN, hT, hf, hl⟩ := id hF
  refine g_put0 hc hK hF hO ho (V2 := V) (σ2 := ms σ key o 0 x) (fun C T N h => ⟨(hpu C T N h).1, ty, (hpu C T N h).2, hn, hfit⟩) ?_ (fun H H1 hR he hz oq => hR.put ho hw he hz oq) hd hp kk
  exact entO_set rfl hf (kF_apart hK rfl)
/-- reads of arrays -/
theorem g_aldi (hc : Cx κ φ own cc nL rm) (K o : Nat) {i : Int32} (hk : kT K = 0) (ho : V.1 K o) (hi : ib i (kL K) = true) (hd : decode cc pc = .ok (.iaload, 1)) {pc2 : Nat} (hp : pc + 1 = pc2)
    (kk : G κ φ Q V k n σ L pc2 (.int (σ K o i.toNatClampNeg) :: rest)) : G κ φ Q V k n σ L pc (.int i :: .ref (ad κ.1 K o) :: rest) := by
  subst hp
  obtain ⟨p, l, e, R, s, m, args, below, meth, c⟩ := φ
  intro H locs ls hR hS hl
  have hat := hR.1 K o ho
  rw [ent_int (by rw [hk]; decide), hk] at hat
  exact va_iald (tys := tysA κ) hc.1 hc.2.1 hc.2.2.2.2.2.1 (va_one hat) 0 0 rfl rfl (ib_in hi) hd (kk H locs ls hR hS hl)
theorem g_aldz (hc : Cx κ φ own cc nL rm) (K o : Nat) {i : Int32} (hk : kT K = 1) (ho : V.1 K o) (hi : ib i (kL K) = true) (hd : decode cc pc = .ok (.baload, 1)) {pc2 : Nat} (hp : pc + 1 = pc2)
    (kk : G κ φ Q V k n σ L pc2 (.int (σ K o i.toNatClampNeg) :: rest)) : G κ φ Q V k n σ L pc (.int i :: .ref (ad κ.1 K o) :: rest) := by
  subst hp
  obtain ⟨p, l, e, R, s, m, args, below, meth, c⟩ := φ
  intro H locs ls hR hS hl
  have hat := hR.1 K o ho
  rw [ent_int (by rw [hk]; decide), hk] at hat
  exact va_zald (tys := tysA κ) hc.1 hc.2.1 hc.2.2.2.2.2.1 (va_one hat) 0 1 rfl rfl (ib_in hi) hd (kk H locs ls hR hS hl)
theorem g_aldc (hc : Cx κ φ own cc nL rm) (K o : Nat) {i : Int32} (hk : kT K = 2) (ho : V.1 K o) (hi : ib i (kL K) = true) (hd : decode cc pc = .ok (.caload, 1)) {pc2 : Nat} (hp : pc + 1 = pc2)
    (kk : G κ φ Q V k n σ L pc2 (.int (σ K o i.toNatClampNeg) :: rest)) : G κ φ Q V k n σ L pc (.int i :: .ref (ad κ.1 K o) :: rest) := by
  subst hp
  obtain ⟨p, l, e, R, s, m, args, below, meth, c⟩ := φ
  intro H locs ls hR hS hl
  have hat := hR.1 K o ho
  rw [ent_int (by rw [hk]; decide), hk] at hat
  exact va_cald (tys := tysA κ) hc.1 hc.2.1 hc.2.2.2.2.2.1 (va_one hat) 0 2 rfl rfl (ib_in hi) hd (kk H locs ls hR hS hl)
/-- reads of an array of references -/
theorem g_aldr (hc : Cx κ φ own cc nL rm) (K o : Nat) {i : Int32} {q : Nat} (hk : 4 ≤ kT K) (hk6 : kT K < 6) (ho : V.1 K o) (hi : ib i (kL K) = true) (hg : V.2.1 K o i.toNatClampNeg = some q) (hd : decode cc pc = .ok (.aaload, 1)) {pc2 : Nat} (hp : pc + 1 = pc2)
    (kk : G κ φ Q V k n σ L pc2 (.ref q :: rest)) : G κ φ Q V k n σ L pc (.int i :: .ref (ad κ.1 K o) :: rest) := by
  subst hp
  obtain ⟨p, l, e, R, s, m, args, below, meth, c⟩ := φ
  intro H locs ls hR hS hl
  have hat := hR.1 K o ho
  rw [ent_ref hk hk6] at hat
  have hkk := kk H locs ls hR hS hl
  rcases (show kT K = 4 ∨ kT K = 5 by omega) with h | h
  · rw [h] at hat
    refine va_aldq (tys := tysA κ) hc.1 hc.2.1 hc.2.2.2.2.2.1 (va_one hat) 0 4 rfl (C := RX5) rfl (ib_in hi) hd ?_
    rw [hg]
    exact hkk
  · rw [h] at hat
    refine va_aldq (tys := tysA κ) hc.1 hc.2.1 hc.2.2.2.2.2.1 (va_one hat) 0 5 rfl (C := RX2) rfl (ib_in hi) hd ?_
    rw [hg]
    exact hkk
/-- stores in arrays of numbers -/
theorem ms_arr (σ : Mem) (K o i : Nat) (x : Int32) : ms σ K o i x K o = upd (σ K o) i x := by
  funext j
  by_cases e : j = i
  · subst e
    rw [ms, if_pos ⟨rfl, rfl, rfl⟩]
    simp [upd]
  · rw [ms, if_neg fun q => e q.2.2]
    simp [upd, e]
theorem g_asti (hc : Cx κ φ own cc nL rm) (K o : Nat) {i x : Int32} (hk : kT K = 0) (ho : V.1 K o) (hi : ib i (kL K) = true) (hd : decode cc pc = .ok (.iastore, 1)) {pc2 : Nat} (hp : pc + 1 = pc2)
    (kk : G κ φ Q V k n (ms σ K o i.toNatClampNeg x) L pc2 rest) : G κ φ Q V k n σ L pc (.int x :: .int i :: .ref (ad κ.1 K o) :: rest) := by
  subst hp
  obtain ⟨p, l, e, R, s, m, args, below, meth, c⟩ := φ
  intro H locs ls hR hS hl
  have hat := hR.1 K o ho
  have hlt : kT K < 3 := by rw [hk]; decide
  rw [ent_int hlt] at hat
  have hty := ((hc.2.2.2.2.2.1).2 0 (κ.2.2 0, .int) rfl).1
  refine W.iast hc.1 hc.2.1 hat (by show s.isArrayOf (arrV _ _ _) .int; rw [hk]; exact hty (kL K) (fun j => .int (σ K o j))) (fun q => by cases q) (by show ¬ (i < 0 ∨ (arrV _ _ _).slots.size ≤ _); rw [arrV_size]; exact ib_in hi) rfl rfl hd fun H1 e z oq => ?_
  refine kk H1 _ ls (hR.put ho (kOwn_arr (by rw [hk]; decide)) ?_ z oq) (hS.put z oq (Ak_ad κ K o)) hl
  rw [ent_int hlt, ms_arr]
  show H1[_]? = some (vp_cell _ _)
  rw [e]
  rw [vp_cell_i, vp_cell_i, arrV_store]
  congr 2
  funext q
  by_cases hq : q = i.toNatClampNeg
  · subst hq
    simp [updV, upd]
  · simp [updV, upd, hq]
theorem g_astz (hc : Cx κ φ own cc nL rm) (K o : Nat) {i x : Int32} (hk : kT K = 1) (ho : V.1 K o) (hi : ib i (kL K) = true) (hd : decode cc pc = .ok (.bastore, 1)) {pc2 : Nat} (hp : pc + 1 = pc2)
    (kk : G κ φ Q V k n (ms σ K o i.toNatClampNeg (zb x)) L pc2 rest) : G κ φ Q V k n σ L pc (.int x :: .int i :: .ref (ad κ.1 K o) :: rest) := by
  subst hp
  obtain ⟨p, l, e, R, s, m, args, below, meth, c⟩ := φ
  intro H locs ls hR hS hl
  have hat := hR.1 K o ho
  have hlt : kT K < 3 := by rw [hk]; decide
  rw [ent_int hlt] at hat
  have hty := ((hc.2.2.2.2.2.1).2 1 (κ.2.2 1, .boolean) rfl).1
  refine W.zast hc.1 hc.2.1 hat (by show s.isArrayOf (arrV _ _ _) .boolean; rw [hk]; exact hty (kL K) (fun j => .int (σ K o j))) (fun q => by cases q) (by show ¬ (i < 0 ∨ (arrV _ _ _).slots.size ≤ _); rw [arrV_size]; exact ib_in hi) rfl rfl hd fun H1 e z oq => ?_
  refine kk H1 _ ls (hR.put ho (kOwn_arr (by rw [hk]; decide)) ?_ z oq) (hS.put z oq (Ak_ad κ K o)) hl
  rw [ent_int hlt, ms_arr]
  show H1[_]? = some (vp_cell _ _)
  rw [e]
  rw [vp_cell_i, vp_cell_i, arrV_store]
  congr 2
  funext q
  by_cases hq : q = i.toNatClampNeg
  · subst hq
    simp [updV, upd, zb, vp_nar]
    try rfl
  · simp [updV, upd, hq]
theorem g_astc (hc : Cx κ φ own cc nL rm) (K o : Nat) {i x : Int32} (hk : kT K = 2) (ho : V.1 K o) (hi : ib i (kL K) = true) (hd : decode cc pc = .ok (.castore, 1)) {pc2 : Nat} (hp : pc + 1 = pc2)
    (kk : G κ φ Q V k n (ms σ K o i.toNatClampNeg (cb x)) L pc2 rest) : G κ φ Q V k n σ L pc (.int x :: .int i :: .ref (ad κ.1 K o) :: rest) := by
  subst hp
  obtain ⟨p, l, e, R, s, m, args, below, meth, c⟩ := φ
  intro H locs ls hR hS hl
  have hat := hR.1 K o ho
  have hlt : kT K < 3 := by rw [hk]; decide
  rw [ent_int hlt] at hat
  have hty := ((hc.2.2.2.2.2.1).2 2 (κ.2.2 2, .char) rfl).1
  refine W.cast hc.1 hc.2.1 hat (by show s.isArrayOf (arrV _ _ _) .char; rw [hk]; exact hty (kL K) (fun j => .int (σ K o j))) (fun q => by cases q) (by show ¬ (i < 0 ∨ (arrV _ _ _).slots.size ≤ _); rw [arrV_size]; exact ib_in hi) rfl rfl hd fun H1 e z oq => ?_
  refine kk H1 _ ls (hR.put ho (kOwn_arr (by rw [hk]; decide)) ?_ z oq) (hS.put z oq (Ak_ad κ K o)) hl
  rw [ent_int hlt, ms_arr]
  show H1[_]? = some (vp_cell _ _)
  rw [e]
  rw [vp_cell_i, vp_cell_i, arrV_store]
  congr 2
  funext q
  by_cases hq : q = i.toNatClampNeg
  · subst hq
    simp [updV, upd, cb, vp_nar]
    try rfl
  · simp [updV, upd, hq]
end HEAPS
end
section
/-! CONTRACTS, CALLS, ENDS -/
section CALLS
theorem wsG_good : ∀ w ∈ GW, (w.onTables && w.keeps) = true ∨ ∃ ty, w = .arrayClass ty := fun w h => good_of_word (List.mem_filter.mp h).2
/-- the words of a method: its code, and all that the law's words hold -/
def wG (y : MethodName) (cy : ByteArray) (nLy : Nat) (ry : Option FieldType) : List Cond := .code y cy nLy ry :: GW
theorem wG_in {y : MethodName} {cy : ByteArray} {nLy : Nat} {ry : Option FieldType} (h : Cond.code y cy nLy ry ∈ GW) : GoodIn GW (wG y cy nLy ry) := by
  intro w hw
  rcases List.mem_cons.mp hw with e | e
  · rw [e]; exact ⟨h, wsG_good _ h⟩
  · exact ⟨e, wsG_good _ e⟩
theorem Wd.blind {κ : Kx} {V : Wv} {σ : Mem} {As : List Value} : FrameBlind (va_Pc As (Wd κ V σ)) := by
  intro a U g mk q
  obtain ⟨qa, q1, q2, q3, q4⟩ := q
  exact ⟨qa, q1, va_K.moved (u := U) (U := U.calling g mk a) (Vm.Alike.refl U.vm) q2, q3, Zs.moved (u := U) (U := U.calling g mk a) (Vm.Alike.refl U.vm) q4⟩
/-- contracts: an int, a long, nothing comes back; or an int or nothing, or it throws -/
def CtI (κ : Kx) (y : MethodName) (cy : ByteArray) (nLy : Nat) (ry : Option FieldType) (rm : Room) (V V2 : Wv) (As : List Value) (σ σ2 : Mem) (r : Int32) : Prop :=
  ∀ l : Launch, l.stackTraces = false → Met l y (wG y cy nLy ry) rm (va_Pc As (Wd κ V σ)) (va_Qi (fun (r1 : Int32) (_ : Unit) => r1 = r) (fun _ t => RelH κ V2 σ2 t.heap) (Ak κ)) rm.cells rm.slots (Ak κ)
def CtL (κ : Kx) (y : MethodName) (cy : ByteArray) (nLy : Nat) (ry : Option FieldType) (rm : Room) (V V2 : Wv) (As : List Value) (σ σ2 : Mem) (r : Int64) : Prop :=
  ∀ l : Launch, l.stackTraces = false → Met l y (wG y cy nLy ry) rm (va_Pc As (Wd κ V σ)) (va_Ql (fun (r1 : Int64) (_ : Unit) => r1 = r) (fun _ t => RelH κ V2 σ2 t.heap) (Ak κ)) rm.cells rm.slots (Ak κ)
def CtV (κ : Kx) (y : MethodName) (cy : ByteArray) (nLy : Nat) (ry : Option FieldType) (rm : Room) (V V2 : Wv) (As : List Value) (σ σ2 : Mem) : Prop :=
  ∀ l : Launch, l.stackTraces = false → Met l y (wG y cy nLy ry) rm (va_Pc As (Wd κ V σ)) (va_Qv (fun (_ : Unit) => True) (fun _ t => RelH κ V2 σ2 t.heap) (Ak κ)) rm.cells rm.slots (Ak κ)
def exN : Nat → String
  | 0 => "java/lang/IllegalArgumentException" | 1 => "java/lang/IllegalStateException" | _ => "java/lang/IndexOutOfBoundsException"
def CxI (κ : Kx) (y : MethodName) (cy : ByteArray) (nLy : Nat) (ry : Option FieldType) (rm : Room) (V V2 : Wv) (As : List Value) (σ σ2 : Mem) (r : Nat ⊕ Int32) : Prop :=
  ∀ l : Launch, l.stackTraces = false → vx_Met l y (wG y cy nLy ry) rm (va_Pc As (Wd κ V σ)) (va_Qi (fun (r1 : Int32) (_ : Unit) => r = .inr r1) (fun _ t => RelH κ V2 σ2 t.heap) (Ak κ))
    (vx_X (fun _ : Unit => True) (fun E _ t => (∃ x, r = .inl x ∧ E = exN x) ∧ RelH κ V2 σ2 t.heap) (Ak κ)) rm.cells rm.slots (Ak κ)
def CxV (κ : Kx) (y : MethodName) (cy : ByteArray) (nLy : Nat) (ry : Option FieldType) (rm : Room) (V V2 : Wv) (As : List Value) (σ σ2 : Mem) (r : Nat ⊕ Unit) : Prop :=
  ∀ l : Launch, l.stackTraces = false → vx_Met l y (wG y cy nLy ry) rm (va_Pc As (Wd κ V σ)) (va_Qv (fun (_ : Unit) => r = .inr ()) (fun _ t => RelH κ V2 σ2 t.heap) (Ak κ))
    (vx_X (fun _ : Unit => True) (fun E _ t => (∃ x, r = .inl x ∧ E = exN x) ∧ RelH κ V2 σ2 t.heap) (Ak κ)) rm.cells rm.slots (Ak κ)
/-- the words of a call -/
def CallOk (own : String) (idx : Nat) (y : MethodName) (cy : ByteArray) (nLy : Nat) (ry : Option FieldType) (n : Nat) : Prop :=
  Cond.code y cy nLy ry ∈ GW ∧ Cond.methodLink own idx y ∈ GW ∧ Cond.initialized y.cls ∈ GW ∧ (y.cls ≠ "java/lang/invoke/MethodHandle" ∧ y.cls ≠ "java/lang/invoke/VarHandle" ∧ (parseMethodDescriptor y.desc).map (fun d => d.parameters.length) = some n)
def CallOkV (own : String) (idx : Nat) (y : MethodName) (cy : ByteArray) (nLy : Nat) (ry : Option FieldType) (n K : Nat) : Prop :=
  CallOk own idx y cy nLy ry n ∧ Cond.instanceMethod y ∈ GW ∧ Cond.selects y.cls y y ∈ GW ∧ kT K = 6 ∧ ∃ (T : u_T) (N : Nat), vwCl[kCi K]? = some (y.cls, T, N)
def CallOkS (own : String) (idx : Nat) (y : MethodName) (cy : ByteArray) (nLy : Nat) (ry : Option FieldType) (n : Nat) : Prop :=
  CallOk own idx y cy nLy ry n ∧ Cond.static y ∈ GW
variable {κ : Kx} {φ : Fr} {own : String} {cc : ByteArray} {nL : Nat} {rm : Room} {Q : State → Prop} {V V2 : Wv} {k n : Nat} {σ σ2 : Mem} {L : List (Nat × Value)} {pc : Nat} {rest st : List Value}
theorem callB_in {p : Program} {l : Launch} {e : Env} {s : State} {m : MethodId} {args : Array Value} {below : List Frame} {meth : Method} {c : Code} (hc : Cx κ (p, l, e, rm, s, m, args, below, meth, c) own cc nL rm)
    {idx nLy j : Nat} {y : MethodName} {cy : ByteArray} {ry : Option FieldType} {rmy : Room} (hk : CallOk own idx y cy nLy ry j) (hR : rmy.frames + 1 ≤ rm.frames ∧ 8 + (nLy + 11) + rmy.locals ≤ rm.locals) :
    CallB rm s args own idx y cy nLy ry (wG y cy nLy ry) rmy rmy.cells rmy.slots j :=
  callB_of j hc.2.2.2.2.1 (wG_in hk.1) rfl rfl rfl (hc.2.2.2.2.1 _ hk.2.2.1) (hc.2.2.2.2.1 _ hk.2.1) hk.2.2.2 hR
theorem pre_in {p : Program} {l : Launch} {e : Env} {s : State} {m : MethodId} {args : Array Value} {below : List Frame} {meth : Method} {c : Code} {H : Heap} {locs : List Loc} (hc : Cx κ (p, l, e, rm, s, m, args, below, meth, c) own cc nL rm)
    (hR : RelH κ V σ H) (hS : va_S (Ak κ) s.heap H locs) (As : List Value) : ∀ U : State, U.heap = H → s.WarmedH U.vm → va_Pc As (Wd κ V σ) As.toArray U := by
  intro U hU hW
  subst hU
  have hz := (hc.2.2.2.2.2.2.2.2.2.1).kept (H1 := U.heap) (fun a h1 h2 => hS.2.1 a h1 h2)
  exact ⟨rfl, hR, va_K.moved hW.alike hc.2.2.2.2.2.1, Nat.le_trans hc.2.2.2.2.2.2.1 hS.1, hz.moved hW.alike⟩
theorem recv_in {p : Program} {l : Launch} {e : Env} {s : State} {m : MethodId} {args : Array Value} {below : List Frame} {meth : Method} {c : Code} {H : Heap} (hc : Cx κ (p, l, e, rm, s, m, args, below, meth, c) own cc nL rm)
    (hR : RelH κ V σ H) {K o : Nat} {C : String} {T : u_T} {N : Nat} (h6 : kT K = 6) (hcl : vwCl[kCi K]? = some (C, T, N)) (ho : V.1 K o) : ∃ cell : Cell, H[ad κ.1 K o]? = some cell ∧ cell.vm.isStatics = false ∧ s.vm.findClass C = some cell.cls := by
  have hat := hR.1 K o ho
  rw [ent_obj h6] at hat
  exact va_recv (q := (C, T, N)) hc.2.2.2.2.2.1 (va_one hat) hcl (q0 := 0) rfl
theorem hA_in : ∀ q : Nat, q < 0 → True := fun _ _ => trivial
theorem g_vI (hc : Cx κ φ own cc nL rm) {idx nLy j K o : Nat} {y : MethodName} {cy : ByteArray} {ry : Option FieldType} {rmy : Room} {As : List Value} {r : Int32} (hM : CtI κ y cy nLy ry rmy V V2 (.ref (ad κ.1 K o) :: As) σ σ2 r) (hk : CallOkV own idx y cy nLy ry j K) (ho : V.1 K o)
    (hst : st = As.reverse ++ .ref (ad κ.1 K o) :: rest) (hn : As.length = j) (hr : rmy.frames + 1 ≤ rm.frames ∧ 8 + (nLy + 11) + rmy.locals ≤ rm.locals) (hf : k + rmy.cells ≤ rm.cells ∧ n + rmy.slots ≤ rm.slots) (hcat : (rest.map fun v => v.category).sum ≤ 8)
    (hd : decode cc pc = .ok (.invokevirtual idx, 3)) {pc2 : Nat} (hp : pc + 3 = pc2) (kk : G κ φ Q V2 (k + rmy.cells) (n + rmy.slots) σ2 L pc2 (.int r :: rest)) : G κ φ Q V k n σ L pc st := by
  subst hp
  subst hst
  obtain ⟨p, l, e, R, s, m, args, below, meth, c⟩ := φ
  obtain rfl : R = rm := hc.2.2.2.2.2.2.2.2.2.2
  intro H locs ls hR hS hl
  obtain ⟨hk1, hk2, hk3, h6, T, N, hcl⟩ := hk
  have hts := hc.2.2.2.2.1
  refine va_calli (va_runV (As := As) (rest := rest) ⟨hc.1, hc.2.1, hc.2.2.1, hc.2.2.2.1, hts⟩ (hM l hc.2.2.2.2.2.2.2.2.1) ⟨callB_in hc hk1 hr, hts _ hk2, hts _ hk3⟩ ⟨Wd.blind, recv_in hc hR h6 hcl ho, pre_in hc hR hS _⟩ rfl hn (hl.1.trans hc.2.2.1) rfl (lv_room hcat) hd hf) hS (fun q _ h => h) (fun q h => h) (fun r1 u t H1 locs1 ht hvm hw hB hz1 hk9 hS1 => ?_)
  cases hw
  rw [ht] at hB
  exact kk H1 locs1 ls hB hS1 hl
theorem g_vV (hc : Cx κ φ own cc nL rm) {idx nLy j K o : Nat} {y : MethodName} {cy : ByteArray} {ry : Option FieldType} {rmy : Room} {As : List Value} (hM : CtV κ y cy nLy ry rmy V V2 (.ref (ad κ.1 K o) :: As) σ σ2) (hk : CallOkV own idx y cy nLy ry j K) (ho : V.1 K o)
    (hst : st = As.reverse ++ .ref (ad κ.1 K o) :: rest) (hn : As.length = j) (hr : rmy.frames + 1 ≤ rm.frames ∧ 8 + (nLy + 11) + rmy.locals ≤ rm.locals) (hf : k + rmy.cells ≤ rm.cells ∧ n + rmy.slots ≤ rm.slots) (hcat : (rest.map fun v => v.category).sum ≤ 8)
    (hd : decode cc pc = .ok (.invokevirtual idx, 3)) {pc2 : Nat} (hp : pc + 3 = pc2) (kk : G κ φ Q V2 (k + rmy.cells) (n + rmy.slots) σ2 L pc2 rest) : G κ φ Q V k n σ L pc st := by
  subst hp
  subst hst
  obtain ⟨p, l, e, R, s, m, args, below, meth, c⟩ := φ
  obtain rfl : R = rm := hc.2.2.2.2.2.2.2.2.2.2
  intro H locs ls hR hS hl
  obtain ⟨hk1, hk2, hk3, h6, T, N, hcl⟩ := hk
  have hts := hc.2.2.2.2.1
  refine va_callv (va_runV (As := As) (rest := rest) ⟨hc.1, hc.2.1, hc.2.2.1, hc.2.2.2.1, hts⟩ (hM l hc.2.2.2.2.2.2.2.2.1) ⟨callB_in hc hk1 hr, hts _ hk2, hts _ hk3⟩ ⟨Wd.blind, recv_in hc hR h6 hcl ho, pre_in hc hR hS _⟩ rfl hn (hl.1.trans hc.2.2.1) rfl (lv_room hcat) hd hf) hS (fun q _ h => h) (fun q h => h) (fun u t H1 locs1 ht hvm hw hB hz1 hk9 hS1 => ?_)
  rw [ht] at hB
  exact kk H1 locs1 ls hB hS1 hl
theorem g_sI (hc : Cx κ φ own cc nL rm) {idx nLy j : Nat} {y : MethodName} {cy : ByteArray} {ry : Option FieldType} {rmy : Room} {As : List Value} {r : Int32} (hM : CtI κ y cy nLy ry rmy V V2 As σ σ2 r) (hk : CallOkS own idx y cy nLy ry j)
    (hst : st = As.reverse ++ rest) (hn : As.length = j) (hr : rmy.frames + 1 ≤ rm.frames ∧ 8 + (nLy + 11) + rmy.locals ≤ rm.locals) (hf : k + rmy.cells ≤ rm.cells ∧ n + rmy.slots ≤ rm.slots) (hcat : (rest.map fun v => v.category).sum ≤ 8)
    (hd : decode cc pc = .ok (.invokestatic idx, 3)) {pc2 : Nat} (hp : pc + 3 = pc2) (kk : G κ φ Q V2 (k + rmy.cells) (n + rmy.slots) σ2 L pc2 (.int r :: rest)) : G κ φ Q V k n σ L pc st := by
  subst hp
  subst hst
  obtain ⟨p, l, e, R, s, m, args, below, meth, c⟩ := φ
  obtain rfl : R = rm := hc.2.2.2.2.2.2.2.2.2.2
  intro H locs ls hR hS hl
  have hts := hc.2.2.2.2.1
  refine va_calli (va_runS (As := As) (rest := rest) ⟨hc.1, hc.2.1, hc.2.2.1, hc.2.2.2.1, hts⟩ (hM l hc.2.2.2.2.2.2.2.2.1) ⟨callB_in hc hk.1 hr, hts _ hk.2⟩ ⟨Wd.blind, pre_in hc hR hS _⟩ rfl hn (hl.1.trans hc.2.2.1) rfl (lv_room hcat) hd hf) hS (fun q _ h => h) (fun q h => h) (fun r1 u t H1 locs1 ht hvm hw hB hz1 hk9 hS1 => ?_)
  cases hw
  rw [ht] at hB
  exact kk H1 locs1 ls hB hS1 hl
theorem g_sL (hc : Cx κ φ own cc nL rm) {idx nLy j : Nat} {y : MethodName} {cy : ByteArray} {ry : Option FieldType} {rmy : Room} {As : List Value} {r : Int64} (hM : CtL κ y cy nLy ry rmy V V2 As σ σ2 r) (hk : CallOkS own idx y cy nLy ry j)
    (hst : st = As.reverse ++ rest) (hn : As.length = j) (hr : rmy.frames + 1 ≤ rm.frames ∧ 8 + (nLy + 11) + rmy.locals ≤ rm.locals) (hf : k + rmy.cells ≤ rm.cells ∧ n + rmy.slots ≤ rm.slots) (hcat : (rest.map fun v => v.category).sum ≤ 8)
    (hd : decode cc pc = .ok (.invokestatic idx, 3)) {pc2 : Nat} (hp : pc + 3 = pc2) (kk : G κ φ Q V2 (k + rmy.cells) (n + rmy.slots) σ2 L pc2 (.long r :: rest)) : G κ φ Q V k n σ L pc st := by
  subst hp
  subst hst
  obtain ⟨p, l, e, R, s, m, args, below, meth, c⟩ := φ
  obtain rfl : R = rm := hc.2.2.2.2.2.2.2.2.2.2
  intro H locs ls hR hS hl
  have hts := hc.2.2.2.2.1
  refine va_calll (va_runS (As := As) (rest := rest) ⟨hc.1, hc.2.1, hc.2.2.1, hc.2.2.2.1, hts⟩ (hM l hc.2.2.2.2.2.2.2.2.1) ⟨callB_in hc hk.1 hr, hts _ hk.2⟩ ⟨Wd.blind, pre_in hc hR hS _⟩ rfl hn (hl.1.trans hc.2.2.1) rfl (lv_room hcat) hd hf) hS (fun q _ h => h) (fun q h => h) (fun r1 u t H1 locs1 ht hvm hw hB hz1 hk9 hS1 => ?_)
  cases hw
  rw [ht] at hB
  exact kk H1 locs1 ls hB hS1 hl
theorem g_sV (hc : Cx κ φ own cc nL rm) {idx nLy j : Nat} {y : MethodName} {cy : ByteArray} {ry : Option FieldType} {rmy : Room} {As : List Value} (hM : CtV κ y cy nLy ry rmy V V2 As σ σ2) (hk : CallOkS own idx y cy nLy ry j)
    (hst : st = As.reverse ++ rest) (hn : As.length = j) (hr : rmy.frames + 1 ≤ rm.frames ∧ 8 + (nLy + 11) + rmy.locals ≤ rm.locals) (hf : k + rmy.cells ≤ rm.cells ∧ n + rmy.slots ≤ rm.slots) (hcat : (rest.map fun v => v.category).sum ≤ 8)
    (hd : decode cc pc = .ok (.invokestatic idx, 3)) {pc2 : Nat} (hp : pc + 3 = pc2) (kk : G κ φ Q V2 (k + rmy.cells) (n + rmy.slots) σ2 L pc2 rest) : G κ φ Q V k n σ L pc st := by
  subst hp
  subst hst
  obtain ⟨p, l, e, R, s, m, args, below, meth, c⟩ := φ
  obtain rfl : R = rm := hc.2.2.2.2.2.2.2.2.2.2
  intro H locs ls hR hS hl
  have hts := hc.2.2.2.2.1
  refine va_callv (va_runS (As := As) (rest := rest) ⟨hc.1, hc.2.1, hc.2.2.1, hc.2.2.2.1, hts⟩ (hM l hc.2.2.2.2.2.2.2.2.1) ⟨callB_in hc hk.1 hr, hts _ hk.2⟩ ⟨Wd.blind, pre_in hc hR hS _⟩ rfl hn (hl.1.trans hc.2.2.1) rfl (lv_room hcat) hd hf) hS (fun q _ h => h) (fun q h => h) (fun u t H1 locs1 ht hvm hw hB hz1 hk9 hS1 => ?_)
  rw [ht] at hB
  exact kk H1 locs1 ls hB hS1 hl
/-- where a method has thrown: over its frame, with this memory -/
def GX (κ : Kx) (φ : Fr) (Q : State → Prop) (V : Wv) (k n : Nat) (σ : Mem) (L : List (Nat × Value)) (pc : Nat) (rest : List Value) (E : String) : Prop := match φ with
  | (p, l, e, R, s, m, args, below, meth, c) => ∀ (H : Heap) (locs : List Loc) (ls : Array Slot) (q : Addr) (ce : Cell), RelH κ V σ H → va_S (Ak κ) s.heap H locs → lv_has ls c.maxLocals L → H[q]? = some ce → ce.vm = .none → s.vm.findClass E = some ce.cls → vx_W p l e R s m args below meth c H locs k n Q (F0 m pc ls rest) q
theorem g_vxI (hc : Cx κ φ own cc nL rm) {idx nLy j K o : Nat} {y : MethodName} {cy : ByteArray} {ry : Option FieldType} {rmy : Room} {As : List Value} {r : Nat ⊕ Int32} (hM : CxI κ y cy nLy ry rmy V V2 (.ref (ad κ.1 K o) :: As) σ σ2 r) (hk : CallOkV own idx y cy nLy ry j K) (ho : V.1 K o)
    (hst : st = As.reverse ++ .ref (ad κ.1 K o) :: rest) (hn : As.length = j) (hr : rmy.frames + 1 ≤ rm.frames ∧ 8 + (nLy + 11) + rmy.locals ≤ rm.locals) (hf : k + rmy.cells ≤ rm.cells ∧ n + rmy.slots ≤ rm.slots) (hcat : (rest.map fun v => v.category).sum ≤ 8)
    (hd : decode cc pc = .ok (.invokevirtual idx, 3)) {pc2 : Nat} (hp : pc + 3 = pc2) (kx : ∀ x, r = .inl x → GX κ φ Q V2 (k + rmy.cells) (n + rmy.slots) σ2 L pc rest (exN x)) (kk : ∀ x, r = .inr x → G κ φ Q V2 (k + rmy.cells) (n + rmy.slots) σ2 L pc2 (.int x :: rest)) : G κ φ Q V k n σ L pc st := by
  subst hp
  subst hst
  obtain ⟨p, l, e, R, s, m, args, below, meth, c⟩ := φ
  obtain rfl : R = rm := hc.2.2.2.2.2.2.2.2.2.2
  intro H locs ls hR hS hl
  obtain ⟨hk1, hk2, hk3, h6, T, N, hcl⟩ := hk
  have hts := hc.2.2.2.2.1
  refine vx_calli (vx_runV (As := As) (rest := rest) ⟨hc.1, hc.2.1, hc.2.2.1, hc.2.2.2.1, hts⟩ (hM l hc.2.2.2.2.2.2.2.2.1) ⟨callB_in hc hk1 hr, hts _ hk2, hts _ hk3⟩ ⟨Wd.blind, recv_in hc hR h6 hcl ho, pre_in hc hR hS _⟩ rfl hn (hl.1.trans hc.2.2.1) rfl (lv_room hcat) hd hf) hS (fun q _ h => h) (fun q h => h) (fun q _ h => h) (fun E ce q9 u t H1 locs1 ht hvm hp hB hz1 hk9 hS1 e1 e2 e3 => ?_) (fun r1 u t H1 locs1 ht hvm hw hB hz1 hk9 hS1 => ?_)
  · obtain ⟨⟨x, hx, rfl⟩, hB⟩ := hB
    rw [ht] at hB
    exact kx x hx H1 locs1 ls q9 ce hB hS1 hl e1 e2 e3
  · rw [ht] at hB
    exact kk r1 hw H1 locs1 ls hB hS1 hl
theorem g_vxV (hc : Cx κ φ own cc nL rm) {idx nLy j K o : Nat} {y : MethodName} {cy : ByteArray} {ry : Option FieldType} {rmy : Room} {As : List Value} {r : Nat ⊕ Unit} (hM : CxV κ y cy nLy ry rmy V V2 (.ref (ad κ.1 K o) :: As) σ σ2 r) (hk : CallOkV own idx y cy nLy ry j K) (ho : V.1 K o)
    (hst : st = As.reverse ++ .ref (ad κ.1 K o) :: rest) (hn : As.length = j) (hr : rmy.frames + 1 ≤ rm.frames ∧ 8 + (nLy + 11) + rmy.locals ≤ rm.locals) (hf : k + rmy.cells ≤ rm.cells ∧ n + rmy.slots ≤ rm.slots) (hcat : (rest.map fun v => v.category).sum ≤ 8)
    (hd : decode cc pc = .ok (.invokevirtual idx, 3)) {pc2 : Nat} (hp : pc + 3 = pc2) (kx : ∀ x, r = .inl x → GX κ φ Q V2 (k + rmy.cells) (n + rmy.slots) σ2 L pc rest (exN x)) (kk : r = .inr () → G κ φ Q V2 (k + rmy.cells) (n + rmy.slots) σ2 L pc2 rest) : G κ φ Q V k n σ L pc st := by
  subst hp
  subst hst
  obtain ⟨p, l, e, R, s, m, args, below, meth, c⟩ := φ
  obtain rfl : R = rm := hc.2.2.2.2.2.2.2.2.2.2
  intro H locs ls hR hS hl
  obtain ⟨hk1, hk2, hk3, h6, T, N, hcl⟩ := hk
  have hts := hc.2.2.2.2.1
  refine vx_callv (vx_runV (As := As) (rest := rest) ⟨hc.1, hc.2.1, hc.2.2.1, hc.2.2.2.1, hts⟩ (hM l hc.2.2.2.2.2.2.2.2.1) ⟨callB_in hc hk1 hr, hts _ hk2, hts _ hk3⟩ ⟨Wd.blind, recv_in hc hR h6 hcl ho, pre_in hc hR hS _⟩ rfl hn (hl.1.trans hc.2.2.1) rfl (lv_room hcat) hd hf) hS (fun q _ h => h) (fun q h => h) (fun q _ h => h) (fun E ce q9 u t H1 locs1 ht hvm hp hB hz1 hk9 hS1 e1 e2 e3 => ?_) (fun u t H1 locs1 ht hvm hw hB hz1 hk9 hS1 => ?_)
  · obtain ⟨⟨x, hx, rfl⟩, hB⟩ := hB
    rw [ht] at hB
    exact kx x hx H1 locs1 ls q9 ce hB hS1 hl e1 e2 e3
  · rw [ht] at hB
    exact kk hw H1 locs1 ls hB hS1 hl
/-- ends -/
def QI (κ : Kx) (φ : Fr) (V2 : Wv) (σ2 : Mem) (r : Int32) (mc msl : Nat) : State → Prop := match φ with
  | (_, _, _, _, s, _, args, below, _, _) => MQ below (va_Qi (fun (r1 : Int32) (_ : Unit) => r1 = r) (fun _ t => RelH κ V2 σ2 t.heap) (Ak κ)) args s mc msl (Ak κ)
def QL (κ : Kx) (φ : Fr) (V2 : Wv) (σ2 : Mem) (r : Int64) (mc msl : Nat) : State → Prop := match φ with
  | (_, _, _, _, s, _, args, below, _, _) => MQ below (va_Ql (fun (r1 : Int64) (_ : Unit) => r1 = r) (fun _ t => RelH κ V2 σ2 t.heap) (Ak κ)) args s mc msl (Ak κ)
def QV (κ : Kx) (φ : Fr) (V2 : Wv) (σ2 : Mem) (mc msl : Nat) : State → Prop := match φ with
  | (_, _, _, _, s, _, args, below, _, _) => MQ below (va_Qv (fun (_ : Unit) => True) (fun _ t => RelH κ V2 σ2 t.heap) (Ak κ)) args s mc msl (Ak κ)
def QxI (κ : Kx) (φ : Fr) (V2 : Wv) (σ2 : Mem) (r : Nat ⊕ Int32) (mc msl : Nat) : State → Prop := match φ with
  | (_, _, _, _, s, _, args, below, _, _) => vx_MQ below (va_Qi (fun (r1 : Int32) (_ : Unit) => r = .inr r1) (fun _ t => RelH κ V2 σ2 t.heap) (Ak κ)) (vx_X (fun _ : Unit => True) (fun E _ t => (∃ x, r = .inl x ∧ E = exN x) ∧ RelH κ V2 σ2 t.heap) (Ak κ)) args s mc msl (Ak κ)
def QxV (κ : Kx) (φ : Fr) (V2 : Wv) (σ2 : Mem) (r : Nat ⊕ Unit) (mc msl : Nat) : State → Prop := match φ with
  | (_, _, _, _, s, _, args, below, _, _) => vx_MQ below (va_Qv (fun (_ : Unit) => r = .inr ()) (fun _ t => RelH κ V2 σ2 t.heap) (Ak κ)) (vx_X (fun _ : Unit => True) (fun E _ t => (∃ x, r = .inl x ∧ E = exN x) ∧ RelH κ V2 σ2 t.heap) (Ak κ)) args s mc msl (Ak κ)
/-- what a method's answer is, by its head -/
def Rt (φ : Fr) (ry : Option FieldType) : Prop := match φ with
  | (_, _, _, _, _, _, _, _, meth, _) => meth.sig.returnType = ry
theorem g_iret (hc : Cx κ φ own cc nL rm) {r x : Int32} {ty : FieldType} {mc msl : Nat} (hf : some (x, σ) = some (r, σ2)) (hr : Rt φ (some ty)) (hn : narrow ty (.int x) = .int x) (h1 : k ≤ mc) (h2 : n ≤ msl) (hd : decode cc pc = .ok (.ireturn, 1)) : G κ φ (QI κ φ V σ2 r mc msl) V k n σ L pc [.int x] := by
  cases hf
  obtain ⟨p, l, e, R, s, m, args, below, meth, c⟩ := φ
  intro H locs ls hR hS hl
  refine W.widen h1 h2 ?_
  exact W.zret hc.1 hc.2.1 hr hn (fun t ht hw => ⟨⟨_, (), rfl, rfl, by show RelH _ _ _ t.heap; rw [ht]; exact hR⟩, hS.F ht⟩) (fun q hq => hS.2.2 q hq) hd hc.2.2.2.2.2.2.2.1
theorem g_lret (hc : Cx κ φ own cc nL rm) {r x : Int64} {mc msl : Nat} (hf : some (x, σ) = some (r, σ2)) (hr : Rt φ (some .long)) (h1 : k ≤ mc) (h2 : n ≤ msl) (hd : decode cc pc = .ok (.lreturn, 1)) : G κ φ (QL κ φ V σ2 r mc msl) V k n σ L pc [.long x] := by
  cases hf
  obtain ⟨p, l, e, R, s, m, args, below, meth, c⟩ := φ
  intro H locs ls hR hS hl
  refine W.widen h1 h2 ?_
  exact W.lret hc.1 hc.2.1 hr (fun t ht hw => ⟨⟨_, (), rfl, rfl, by show RelH _ _ _ t.heap; rw [ht]; exact hR⟩, hS.F ht⟩) (fun q hq => hS.2.2 q hq) hd hc.2.2.2.2.2.2.2.1
theorem g_vret (hc : Cx κ φ own cc nL rm) {mc msl : Nat} (hf : some σ = some σ2) (hr : Rt φ none) (h1 : k ≤ mc) (h2 : n ≤ msl) (hd : decode cc pc = .ok (.return_, 1)) : G κ φ (QV κ φ V σ2 mc msl) V k n σ L pc [] := by
  cases hf
  obtain ⟨p, l, e, R, s, m, args, below, meth, c⟩ := φ
  intro H locs ls hR hS hl
  refine W.widen h1 h2 ?_
  exact W.vret hc.1 hc.2.1 hr (fun t ht hw => ⟨⟨(), rfl, trivial, by show RelH _ _ _ t.heap; rw [ht]; exact hR⟩, hS.F ht⟩) (fun q hq => hS.2.2 q hq) hd hc.2.2.2.2.2.2.2.1
theorem g_xiret (hc : Cx κ φ own cc nL rm) {x : Int32} {r : Nat ⊕ Int32} {ty : FieldType} {mc msl : Nat} (hf : some (Sum.inr x, σ) = some (r, σ2)) (hr : Rt φ (some ty)) (hn : narrow ty (.int x) = .int x) (h1 : k ≤ mc) (h2 : n ≤ msl) (hd : decode cc pc = .ok (.ireturn, 1)) : G κ φ (QxI κ φ V σ2 r mc msl) V k n σ L pc [.int x] := by
  cases hf
  obtain ⟨p, l, e, R, s, m, args, below, meth, c⟩ := φ
  intro H locs ls hR hS hl
  refine W.widen h1 h2 ?_
  exact vx_ret (W.zret hc.1 hc.2.1 hr hn (fun t ht hw => ⟨⟨_, (), rfl, rfl, by show RelH _ _ _ t.heap; rw [ht]; exact hR⟩, hS.F ht⟩) (fun q hq => hS.2.2 q hq) hd hc.2.2.2.2.2.2.2.1)
theorem g_xvret (hc : Cx κ φ own cc nL rm) {r : Nat ⊕ Unit} {mc msl : Nat} (hf : some (Sum.inr (), σ) = some (r, σ2)) (hr : Rt φ none) (h1 : k ≤ mc) (h2 : n ≤ msl) (hd : decode cc pc = .ok (.return_, 1)) : G κ φ (QxV κ φ V σ2 r mc msl) V k n σ L pc [] := by
  cases hf
  obtain ⟨p, l, e, R, s, m, args, below, meth, c⟩ := φ
  intro H locs ls hR hS hl
  refine W.widen h1 h2 ?_
  exact vx_ret (W.vret hc.1 hc.2.1 hr (fun t ht hw => ⟨⟨(), rfl, rfl, by show RelH _ _ _ t.heap; rw [ht]; exact hR⟩, hS.F ht⟩) (fun q hq => hS.2.2 q hq) hd hc.2.2.2.2.2.2.2.1)
/-- entries -/
theorem ct_of {p : Program} {l : Launch} {e : Env} {s : State} {m : MethodId} {args : Array Value} {below : List Frame} {meth : Method} {c : Code} {s₁ : State} {y : MethodName} {cy : ByteArray} {nLy : Nat} {ry : Option FieldType} {As : List Value} (hl9 : l.stackTraces = false)
    (B : BodyLoose p l y (headSpec (wG y cy nLy ry) rm) cy nLy ry e s m args below meth c s₁) (hml : c.maxLocals = nLy) (hP : va_Pc As (Wd κ V σ) args s) : Cx κ (p, l, e, rm, s, m, args, below, meth, c) y.cls cy nLy rm ∧ Rt (p, l, e, rm, s, m, args, below, meth, c) ry := by
  obtain ⟨-, h1, h2, h3, h4⟩ := hP
  have hts := atoms_spec (ws := wG y cy nLy ry) B.pre
  exact ⟨⟨B.exec, B.bytes, hml, findClass_of_methodNamed B.named, fun w hw => hts w (List.mem_cons_of_mem _ hw), h2, h3, B.notSynchronized, hl9, h4, rfl⟩, B.returns⟩
theorem ct_go {p : Program} {l : Launch} {e : Env} {R : Room} {s : State} {m : MethodId} {args : Array Value} {below : List Frame} {meth : Method} {c : Code} {nLy : Nat} {As : List Value} {Q : State → Prop} (hml : c.maxLocals = nLy) (hlen : (lg_sl As).length ≤ nLy) (hP : va_Pc As (Wd κ V σ) args s)
    (h : G κ (p, l, e, R, s, m, args, below, meth, c) Q V 0 0 σ (lv_args 0 As) 0 []) : W p l e R s m args below meth c s.heap [] 0 0 Q (entryFrame m args nLy) := by
  obtain ⟨rfl, h1, h2, h3, h4⟩ := hP
  have hl := lv_entry As (n := nLy) hlen
  rw [lg_entry_eq]
  exact h s.heap [] _ h1 va_S.rf (by rw [hml]; exact hl)
theorem ct_I {y : MethodName} {cy : ByteArray} {nLy : Nat} {ry : Option FieldType} {As : List Value} {r : Int32} (hy : plainName y.cls = true) (hlen : (lg_sl As).length ≤ nLy)
    (h : ∀ φ : Fr, Cx κ φ y.cls cy nLy rm → Rt φ ry → G κ φ (QI κ φ V2 σ2 r rm.cells rm.slots) V 0 0 σ (lv_args 0 As) 0 []) : CtI κ y cy nLy ry rm V V2 As σ σ2 r := by
  intro l hl9
  refine Met.ofW (cc := cy) (maxL := nLy) (ret := ry) hy rfl ?_
  intro p e s m args below meth c s₁ B hml hP
  have hC := ct_of hl9 B hml hP
  exact ct_go hml hlen hP (h _ hC.1 hC.2)
theorem ct_L {y : MethodName} {cy : ByteArray} {nLy : Nat} {ry : Option FieldType} {As : List Value} {r : Int64} (hy : plainName y.cls = true) (hlen : (lg_sl As).length ≤ nLy)
    (h : ∀ φ : Fr, Cx κ φ y.cls cy nLy rm → Rt φ ry → G κ φ (QL κ φ V2 σ2 r rm.cells rm.slots) V 0 0 σ (lv_args 0 As) 0 []) : CtL κ y cy nLy ry rm V V2 As σ σ2 r := by
  intro l hl9
  refine Met.ofW (cc := cy) (maxL := nLy) (ret := ry) hy rfl ?_
  intro p e s m args below meth c s₁ B hml hP
  have hC := ct_of hl9 B hml hP
  exact ct_go hml hlen hP (h _ hC.1 hC.2)
theorem ct_V {y : MethodName} {cy : ByteArray} {nLy : Nat} {ry : Option FieldType} {As : List Value} (hy : plainName y.cls = true) (hlen : (lg_sl As).length ≤ nLy)
    (h : ∀ φ : Fr, Cx κ φ y.cls cy nLy rm → Rt φ ry → G κ φ (QV κ φ V2 σ2 rm.cells rm.slots) V 0 0 σ (lv_args 0 As) 0 []) : CtV κ y cy nLy ry rm V V2 As σ σ2 := by
  intro l hl9
  refine Met.ofW (cc := cy) (maxL := nLy) (ret := ry) hy rfl ?_
  intro p e s m args below meth c s₁ B hml hP
  have hC := ct_of hl9 B hml hP
  exact ct_go hml hlen hP (h _ hC.1 hC.2)
/-- the method's table of handlers is empty -/
def Tb0 (φ : Fr) : Prop := match φ with
  | (_, _, _, _, _, _, _, _, _, c) => ∀ x ∈ c.exceptionTable.toList, False
theorem cx_I {y : MethodName} {cy : ByteArray} {nLy : Nat} {ry : Option FieldType} {As : List Value} {r : Nat ⊕ Int32} (hy : plainName y.cls = true) (hlen : (lg_sl As).length ≤ nLy)
    (h : ∀ φ : Fr, Cx κ φ y.cls cy nLy rm → Rt φ ry → Tb0 φ → G κ φ (QxI κ φ V2 σ2 r rm.cells rm.slots) V 0 0 σ (lv_args 0 As) 0 []) : CxI κ y cy nLy ry rm V V2 As σ σ2 r := by
  intro l hl9
  refine vx_ofW (cc := cy) (maxL := nLy) (ret := ry) hy rfl ?_
  intro p e s m args below meth c s₁ B hml htab hP
  have hC := ct_of hl9 B hml hP
  exact ct_go hml hlen hP (h _ hC.1 hC.2 htab)
theorem cx_V {y : MethodName} {cy : ByteArray} {nLy : Nat} {ry : Option FieldType} {As : List Value} {r : Nat ⊕ Unit} (hy : plainName y.cls = true) (hlen : (lg_sl As).length ≤ nLy)
    (h : ∀ φ : Fr, Cx κ φ y.cls cy nLy rm → Rt φ ry → Tb0 φ → G κ φ (QxV κ φ V2 σ2 r rm.cells rm.slots) V 0 0 σ (lv_args 0 As) 0 []) : CxV κ y cy nLy ry rm V V2 As σ σ2 r := by
  intro l hl9
  refine vx_ofW (cc := cy) (maxL := nLy) (ret := ry) hy rfl ?_
  intro p e s m args below meth c s₁ B hml htab hP
  have hC := ct_of hl9 B hml hP
  exact ct_go hml hlen hP (h _ hC.1 hC.2 htab)
/-- a throw that isn't caught here goes on -/
theorem gx_outI (hc : Cx κ φ own cc nL rm) {x : Nat} {r : Nat ⊕ Int32} {mc msl : Nat} (hf : some (Sum.inl x, σ) = some (r, σ2)) (ht : Tb0 φ) (h1 : k ≤ mc) (h2 : n ≤ msl) : GX κ φ (QxI κ φ V σ2 r mc msl) V k n σ L pc rest (exN x) := by
  cases hf
  obtain ⟨p, l, e, R, s, m, args, below, meth, c⟩ := φ
  intro H locs ls q ce hR hS hl e1 e2 e3
  exact vx_out (fun x hx => (ht x hx).elim) hc.2.2.2.2.2.2.2.1 e1 e2 e3 (fun t ht hvm => ⟨(), trivial, ⟨⟨x, rfl, rfl⟩, by rw [ht]; exact hR⟩, hS.F ht⟩) (fun z hz => hS.2.2 z hz) h1 h2
theorem gx_outV (hc : Cx κ φ own cc nL rm) {x : Nat} {r : Nat ⊕ Unit} {mc msl : Nat} (hf : some (Sum.inl x, σ) = some (r, σ2)) (ht : Tb0 φ) (h1 : k ≤ mc) (h2 : n ≤ msl) : GX κ φ (QxV κ φ V σ2 r mc msl) V k n σ L pc rest (exN x) := by
  cases hf
  obtain ⟨p, l, e, R, s, m, args, below, meth, c⟩ := φ
  intro H locs ls q ce hR hS hl e1 e2 e3
  exact vx_out (fun x hx => (ht x hx).elim) hc.2.2.2.2.2.2.2.1 e1 e2 e3 (fun t ht hvm => ⟨(), trivial, ⟨⟨x, rfl, rfl⟩, by rw [ht]; exact hR⟩, hS.F ht⟩) (fun z hz => hS.2.2 z hz) h1 h2
end CALLS
end
section
theorem zz_look : True := trivial
end
