def RX0 : String := "TurnBus$Answers"
def TX0 : u_T := fun k => match k with
  | 0 => ("TurnBus$Answers", "count", "I", false)
  | _ => ("TurnBus$Answers", "readyFrom", "[I", true)
def tyX0 : Nat → FieldType := fun k => match k with
  | 0 => .int
  | _ => .array .int
abbrev wsX00 : List Cond := u_ws RX0 TX0 2
theorem nmX0 : ∀ a, a < 2 → ∀ b, b < 2 → a ≠ b → (TX0 a).2.1 ≠ (TX0 b).2.1 := by decide +kernel
theorem tyX0_ok : ∀ k, k < 2 → parseFieldDescriptor (TX0 k).2.2.1 = some (tyX0 k) := by decide +kernel
abbrev cX0_init : ByteArray := prog_2_method_1_code
def yX0_init : MethodName := ⟨RX0, "<init>", "()V"⟩
abbrev cX0_copyFrom : ByteArray := prog_2_method_2_code
def yX0_copyFrom : MethodName := ⟨RX0, "copyFrom", "(LTurnBus$Answers;)V"⟩
abbrev cX0_add : ByteArray := prog_2_method_3_code
def yX0_add : MethodName := ⟨RX0, "add", "(I)V"⟩
abbrev cX0_firstReady : ByteArray := prog_2_method_4_code
def yX0_firstReady : MethodName := ⟨RX0, "firstReady", "(I)I"⟩
abbrev cX0_remove : ByteArray := prog_2_method_5_code
def yX0_remove : MethodName := ⟨RX0, "remove", "(I)V"⟩
def RX1 : String := "TurnBus$Bursts"
def TX1 : u_T := fun k => match k with
  | 0 => ("TurnBus$Bursts", "count", "I", false)
  | 1 => ("TurnBus$Bursts", "slave", "[I", true)
  | 2 => ("TurnBus$Bursts", "words", "[I", true)
  | _ => ("TurnBus$Bursts", "asks", "[Z", true)
def tyX1 : Nat → FieldType := fun k => match k with
  | 0 => .int
  | 1 => .array .int
  | 2 => .array .int
  | _ => .array .boolean
abbrev wsX10 : List Cond := u_ws RX1 TX1 4
theorem nmX1 : ∀ a, a < 4 → ∀ b, b < 4 → a ≠ b → (TX1 a).2.1 ≠ (TX1 b).2.1 := by decide +kernel
theorem tyX1_ok : ∀ k, k < 4 → parseFieldDescriptor (TX1 k).2.2.1 = some (tyX1 k) := by decide +kernel
abbrev cX1_init : ByteArray := prog_3_method_1_code
def yX1_init : MethodName := ⟨RX1, "<init>", "()V"⟩
abbrev cX1_copyFrom : ByteArray := prog_3_method_2_code
def yX1_copyFrom : MethodName := ⟨RX1, "copyFrom", "(LTurnBus$Bursts;)V"⟩
abbrev cX1_isFull : ByteArray := prog_3_method_3_code
def yX1_isFull : MethodName := ⟨RX1, "isFull", "()Z"⟩
abbrev cX1_add : ByteArray := prog_3_method_4_code
def yX1_add : MethodName := ⟨RX1, "add", "(IIZ)V"⟩
abbrev cX1_allWords : ByteArray := prog_3_method_5_code
def yX1_allWords : MethodName := ⟨RX1, "allWords", "()I"⟩
abbrev cX1_removeFirst : ByteArray := prog_3_method_6_code
def yX1_removeFirst : MethodName := ⟨RX1, "removeFirst", "()V"⟩
def RX2 : String := "TurnBus$Bus"
def TX2 : u_T := fun k => match k with
  | 0 => ("TurnBus$Bus", "masters", "I", false)
  | 1 => ("TurnBus$Bus", "slots", "I", false)
  | 2 => ("TurnBus$Bus", "ticks", "I", false)
  | 3 => ("TurnBus$Bus", "idle", "I", false)
  | 4 => ("TurnBus$Bus", "credit", "I", false)
  | 5 => ("TurnBus$Bus", "lastTurn", "I", false)
  | 6 => ("TurnBus$Bus", "ownerOf", "[I", true)
  | 7 => ("TurnBus$Bus", "latencyOf", "[I", true)
  | _ => ("TurnBus$Bus", "rows", "[LTurnBus$Master;", true)
def tyX2 : Nat → FieldType := fun k => match k with
  | 0 => .int
  | 1 => .int
  | 2 => .int
  | 3 => .int
  | 4 => .int
  | 5 => .int
  | 6 => .array .int
  | 7 => .array .int
  | _ => .array (.object "TurnBus$Master")
abbrev wsX20 : List Cond := u_ws RX2 TX2 9
theorem nmX2 : ∀ a, a < 9 → ∀ b, b < 9 → a ≠ b → (TX2 a).2.1 ≠ (TX2 b).2.1 := by decide +kernel
theorem tyX2_ok : ∀ k, k < 9 → parseFieldDescriptor (TX2 k).2.2.1 = some (tyX2 k) := by decide +kernel
abbrev cX2_init : ByteArray := prog_4_method_1_code
def yX2_init : MethodName := ⟨RX2, "<init>", "()V"⟩
abbrev cX2_makeNew : ByteArray := prog_4_method_2_code
def yX2_makeNew : MethodName := ⟨RX2, "makeNew", "(II)V"⟩
abbrev cX2_copyFrom : ByteArray := prog_4_method_3_code
def yX2_copyFrom : MethodName := ⟨RX2, "copyFrom", "(LTurnBus$Bus;)V"⟩
abbrev cX2_hasMaster : ByteArray := prog_4_method_4_code
def yX2_hasMaster : MethodName := ⟨RX2, "hasMaster", "(I)Z"⟩
abbrev cX2_hasSlot : ByteArray := prog_4_method_5_code
def yX2_hasSlot : MethodName := ⟨RX2, "hasSlot", "(I)Z"⟩
abbrev cX2_join : ByteArray := prog_4_method_6_code
def yX2_join : MethodName := ⟨RX2, "join", "()I"⟩
abbrev cX2_slotsOf : ByteArray := prog_4_method_7_code
def yX2_slotsOf : MethodName := ⟨RX2, "slotsOf", "(I)I"⟩
abbrev cX2_owedTo : ByteArray := prog_4_method_8_code
def yX2_owedTo : MethodName := ⟨RX2, "owedTo", "(I)I"⟩
abbrev cX2_allDebts : ByteArray := prog_4_method_9_code
def yX2_allDebts : MethodName := ⟨RX2, "allDebts", "()I"⟩
abbrev cX2_waitingBursts : ByteArray := prog_4_method_10_code
def yX2_waitingBursts : MethodName := ⟨RX2, "waitingBursts", "()I"⟩
abbrev cX2_openAnswers : ByteArray := prog_4_method_11_code
def yX2_openAnswers : MethodName := ⟨RX2, "openAnswers", "()I"⟩
abbrev cX2_bankruptBits : ByteArray := prog_4_method_12_code
def yX2_bankruptBits : MethodName := ⟨RX2, "bankruptBits", "()I"⟩
abbrev cX2_mastersAhead : ByteArray := prog_4_method_13_code
def yX2_mastersAhead : MethodName := ⟨RX2, "mastersAhead", "(I)I"⟩
abbrev cX2_step : ByteArray := prog_4_method_14_code
def yX2_step : MethodName := ⟨RX2, "step", "()V"⟩
abbrev cX2_stepTimes : ByteArray := prog_4_method_15_code
def yX2_stepTimes : MethodName := ⟨RX2, "stepTimes", "(I)V"⟩
abbrev cX2_stepsTillDone : ByteArray := prog_4_method_16_code
def yX2_stepsTillDone : MethodName := ⟨RX2, "stepsTillDone", "(III)I"⟩
abbrev cX2_areDone : ByteArray := prog_4_method_17_code
def yX2_areDone : MethodName := ⟨RX2, "areDone", "(II)Z"⟩
abbrev cX2_ownerNow : ByteArray := prog_4_method_18_code
def yX2_ownerNow : MethodName := ⟨RX2, "ownerNow", "()I"⟩
abbrev cX2_takeTurn : ByteArray := prog_4_method_19_code
def yX2_takeTurn : MethodName := ⟨RX2, "takeTurn", "(I)I"⟩
abbrev cX2_creditorOf : ByteArray := prog_4_method_20_code
def yX2_creditorOf : MethodName := ⟨RX2, "creditorOf", "(LTurnBus$Master;Z)I"⟩
abbrev cX2_firstBorrower : ByteArray := prog_4_method_21_code
def yX2_firstBorrower : MethodName := ⟨RX2, "firstBorrower", "()I"⟩
abbrev cX2_work : ByteArray := prog_4_method_22_code
def yX2_work : MethodName := ⟨RX2, "work", "(LTurnBus$Master;)V"⟩
abbrev cX2_sendWord : ByteArray := prog_4_method_23_code
def yX2_sendWord : MethodName := ⟨RX2, "sendWord", "(LTurnBus$Master;)V"⟩
abbrev cX2_latencyNow : ByteArray := prog_4_method_24_code
def yX2_latencyNow : MethodName := ⟨RX2, "latencyNow", "(I)I"⟩
abbrev cX2_cannotPay : ByteArray := prog_4_method_25_code
def yX2_cannotPay : MethodName := ⟨RX2, "cannotPay", "(I)Z"⟩
abbrev cX2_ruin : ByteArray := prog_4_method_26_code
def yX2_ruin : MethodName := ⟨RX2, "ruin", "(I)V"⟩
def RX3 : String := "TurnBus$BusText"
def TX3 : u_T := fun k => match k with
  | 0 => ("TurnBus$BusText", "length", "I", false)
  | 1 => ("TurnBus$BusText", "signs", "[C", true)
  | 2 => ("TurnBus$BusText", "place", "I", false)
  | _ => ("TurnBus$BusText", "broken", "Z", false)
def tyX3 : Nat → FieldType := fun k => match k with
  | 0 => .int
  | 1 => .array .char
  | 2 => .int
  | _ => .boolean
abbrev wsX30 : List Cond := u_ws RX3 TX3 4
theorem nmX3 : ∀ a, a < 4 → ∀ b, b < 4 → a ≠ b → (TX3 a).2.1 ≠ (TX3 b).2.1 := by decide +kernel
theorem tyX3_ok : ∀ k, k < 4 → parseFieldDescriptor (TX3 k).2.2.1 = some (tyX3 k) := by decide +kernel
abbrev cX3_init : ByteArray := prog_5_method_1_code
def yX3_init : MethodName := ⟨RX3, "<init>", "()V"⟩
abbrev cX3_readInto : ByteArray := prog_5_method_5_code
def yX3_readInto : MethodName := ⟨RX3, "readInto", "(LTurnBus$Bus;)I"⟩
abbrev cX3_readPart : ByteArray := prog_5_method_6_code
def yX3_readPart : MethodName := ⟨RX3, "readPart", "(LTurnBus$Bus;)V"⟩
abbrev cX3_readOwner : ByteArray := prog_5_method_7_code
def yX3_readOwner : MethodName := ⟨RX3, "readOwner", "(LTurnBus$Bus;)V"⟩
abbrev cX3_readLatency : ByteArray := prog_5_method_8_code
def yX3_readLatency : MethodName := ⟨RX3, "readLatency", "(LTurnBus$Bus;)V"⟩
abbrev cX3_readCredit : ByteArray := prog_5_method_9_code
def yX3_readCredit : MethodName := ⟨RX3, "readCredit", "(LTurnBus$Bus;)V"⟩
abbrev cX3_readBurst : ByteArray := prog_5_method_10_code
def yX3_readBurst : MethodName := ⟨RX3, "readBurst", "(LTurnBus$Bus;)V"⟩
abbrev cX3_signAt : ByteArray := prog_5_method_11_code
def yX3_signAt : MethodName := ⟨RX3, "signAt", "(I)C"⟩
abbrev cX3_refuseLast : ByteArray := prog_5_method_12_code
def yX3_refuseLast : MethodName := ⟨RX3, "refuseLast", "()V"⟩
abbrev cX3_readOneOf : ByteArray := prog_5_method_13_code
def yX3_readOneOf : MethodName := ⟨RX3, "readOneOf", "(CC)C"⟩
abbrev cX3_readDigit : ByteArray := prog_5_method_14_code
def yX3_readDigit : MethodName := ⟨RX3, "readDigit", "(II)I"⟩
abbrev cX3_readTwoDigits : ByteArray := prog_5_method_15_code
def yX3_readTwoDigits : MethodName := ⟨RX3, "readTwoDigits", "(II)I"⟩
def RX4 : String := "TurnBus$History"
def TX4 : u_T := fun k => match k with
  | 0 => ("TurnBus$History", "count", "I", false)
  | 1 => ("TurnBus$History", "next", "I", false)
  | _ => ("TurnBus$History", "ring", "[LTurnBus$Bus;", true)
def tyX4 : Nat → FieldType := fun k => match k with
  | 0 => .int
  | 1 => .int
  | _ => .array (.object "TurnBus$Bus")
abbrev wsX40 : List Cond := u_ws RX4 TX4 3
theorem nmX4 : ∀ a, a < 3 → ∀ b, b < 3 → a ≠ b → (TX4 a).2.1 ≠ (TX4 b).2.1 := by decide +kernel
theorem tyX4_ok : ∀ k, k < 3 → parseFieldDescriptor (TX4 k).2.2.1 = some (tyX4 k) := by decide +kernel
abbrev cX4_init : ByteArray := prog_6_method_1_code
def yX4_init : MethodName := ⟨RX4, "<init>", "()V"⟩
abbrev cX4_empty : ByteArray := prog_6_method_2_code
def yX4_empty : MethodName := ⟨RX4, "empty", "()V"⟩
abbrev cX4_remember : ByteArray := prog_6_method_3_code
def yX4_remember : MethodName := ⟨RX4, "remember", "(LTurnBus$Bus;)V"⟩
abbrev cX4_takeBack : ByteArray := prog_6_method_4_code
def yX4_takeBack : MethodName := ⟨RX4, "takeBack", "(LTurnBus$Bus;)V"⟩
def RX5 : String := "TurnBus$Master"
def TX5 : u_T := fun k => match k with
  | 0 => ("TurnBus$Master", "debtTo", "[I", true)
  | 1 => ("TurnBus$Master", "bursts", "LTurnBus$Bursts;", true)
  | 2 => ("TurnBus$Master", "answers", "LTurnBus$Answers;", true)
  | 3 => ("TurnBus$Master", "bankrupt", "Z", false)
  | 4 => ("TurnBus$Master", "busy", "Z", false)
  | 5 => ("TurnBus$Master", "waited", "I", false)
  | 6 => ("TurnBus$Master", "longest", "I", false)
  | 7 => ("TurnBus$Master", "ownTurns", "I", false)
  | 8 => ("TurnBus$Master", "paidTurns", "I", false)
  | 9 => ("TurnBus$Master", "creditTurns", "I", false)
  | _ => ("TurnBus$Master", "answersTaken", "I", false)
def tyX5 : Nat → FieldType := fun k => match k with
  | 0 => .array .int
  | 1 => .object "TurnBus$Bursts"
  | 2 => .object "TurnBus$Answers"
  | 3 => .boolean
  | 4 => .boolean
  | 5 => .int
  | 6 => .int
  | 7 => .int
  | 8 => .int
  | 9 => .int
  | _ => .int
abbrev wsX50 : List Cond := u_ws RX5 TX5 11
theorem nmX5 : ∀ a, a < 11 → ∀ b, b < 11 → a ≠ b → (TX5 a).2.1 ≠ (TX5 b).2.1 := by decide +kernel
theorem tyX5_ok : ∀ k, k < 11 → parseFieldDescriptor (TX5 k).2.2.1 = some (tyX5 k) := by decide +kernel
abbrev cX5_init : ByteArray := prog_7_method_1_code
def yX5_init : MethodName := ⟨RX5, "<init>", "()V"⟩
abbrev cX5_makeNew : ByteArray := prog_7_method_2_code
def yX5_makeNew : MethodName := ⟨RX5, "makeNew", "()V"⟩
abbrev cX5_copyFrom : ByteArray := prog_7_method_3_code
def yX5_copyFrom : MethodName := ⟨RX5, "copyFrom", "(LTurnBus$Master;)V"⟩
abbrev cX5_debts : ByteArray := prog_7_method_4_code
def yX5_debts : MethodName := ⟨RX5, "debts", "()I"⟩
abbrev cX5_forgetDebts : ByteArray := prog_7_method_5_code
def yX5_forgetDebts : MethodName := ⟨RX5, "forgetDebts", "()V"⟩
abbrev cX5_takesBursts : ByteArray := prog_7_method_6_code
def yX5_takesBursts : MethodName := ⟨RX5, "takesBursts", "()Z"⟩
abbrev cX5_isDone : ByteArray := prog_7_method_7_code
def yX5_isDone : MethodName := ⟨RX5, "isDone", "()Z"⟩
abbrev cX5_lookForWork : ByteArray := prog_7_method_8_code
def yX5_lookForWork : MethodName := ⟨RX5, "lookForWork", "(I)V"⟩
abbrev cX5_countWait : ByteArray := prog_7_method_9_code
def yX5_countWait : MethodName := ⟨RX5, "countWait", "(Z)V"⟩
abbrev cX5_goBankrupt : ByteArray := prog_7_method_10_code
def yX5_goBankrupt : MethodName := ⟨RX5, "goBankrupt", "()V"⟩
def RX6 : String := "TurnBus"
def TX6 : u_T := fun k => match k with
  | 0 => ("TurnBus", "text", "LTurnBus$BusText;", true)
  | 1 => ("TurnBus", "present", "LTurnBus$Bus;", true)
  | 2 => ("TurnBus", "history", "LTurnBus$History;", true)
  | 3 => ("TurnBus", "saved", "[LTurnBus$Bus;", true)
  | 4 => ("TurnBus", "isSaved", "[Z", true)
  | 5 => ("TurnBus", "trial", "LTurnBus$Bus;", true)
  | _ => ("TurnBus", "probe", "LTurnBus$Bus;", true)
def tyX6 : Nat → FieldType := fun k => match k with
  | 0 => .object "TurnBus$BusText"
  | 1 => .object "TurnBus$Bus"
  | 2 => .object "TurnBus$History"
  | 3 => .array (.object "TurnBus$Bus")
  | 4 => .array .boolean
  | 5 => .object "TurnBus$Bus"
  | _ => .object "TurnBus$Bus"
abbrev wsX60 : List Cond := u_ws RX6 TX6 7
theorem nmX6 : ∀ a, a < 7 → ∀ b, b < 7 → a ≠ b → (TX6 a).2.1 ≠ (TX6 b).2.1 := by decide +kernel
theorem tyX6_ok : ∀ k, k < 7 → parseFieldDescriptor (TX6 k).2.2.1 = some (tyX6 k) := by decide +kernel
abbrev cX6_init : ByteArray := prog_1_method_1_code
def yX6_init : MethodName := ⟨RX6, "<init>", "()V"⟩
abbrev cX6_errorPosition : ByteArray := prog_1_method_4_code
def yX6_errorPosition : MethodName := ⟨RX6, "errorPosition", "()I"⟩
abbrev cX6_about : ByteArray := prog_1_method_6_code
def yX6_about : MethodName := ⟨RX6, "about", "(I)I"⟩
abbrev cX6_master : ByteArray := prog_1_method_7_code
def yX6_master : MethodName := ⟨RX6, "master", "(II)I"⟩
abbrev cX6_owner : ByteArray := prog_1_method_8_code
def yX6_owner : MethodName := ⟨RX6, "owner", "(I)I"⟩
abbrev cX6_owes : ByteArray := prog_1_method_9_code
def yX6_owes : MethodName := ⟨RX6, "owes", "(II)I"⟩
abbrev cX6_burst : ByteArray := prog_1_method_10_code
def yX6_burst : MethodName := ⟨RX6, "burst", "(III)I"⟩
abbrev cX6_order : ByteArray := prog_1_method_11_code
def yX6_order : MethodName := ⟨RX6, "order", "(I)I"⟩
abbrev cX6_addMaster : ByteArray := prog_1_method_12_code
def yX6_addMaster : MethodName := ⟨RX6, "addMaster", "()I"⟩
abbrev cX6_give : ByteArray := prog_1_method_13_code
def yX6_give : MethodName := ⟨RX6, "give", "(II)I"⟩
abbrev cX6_setLatency : ByteArray := prog_1_method_14_code
def yX6_setLatency : MethodName := ⟨RX6, "setLatency", "(II)I"⟩
abbrev cX6_setCredit : ByteArray := prog_1_method_15_code
def yX6_setCredit : MethodName := ⟨RX6, "setCredit", "(I)I"⟩
abbrev cX6_send : ByteArray := prog_1_method_16_code
def yX6_send : MethodName := ⟨RX6, "send", "(IIIZ)I"⟩
abbrev cX6_pass : ByteArray := prog_1_method_17_code
def yX6_pass : MethodName := ⟨RX6, "pass", "(I)I"⟩
abbrev cX6_forgive : ByteArray := prog_1_method_18_code
def yX6_forgive : MethodName := ⟨RX6, "forgive", "(II)I"⟩
abbrev cX6_undo : ByteArray := prog_1_method_19_code
def yX6_undo : MethodName := ⟨RX6, "undo", "()I"⟩
abbrev cX6_turnIn : ByteArray := prog_1_method_20_code
def yX6_turnIn : MethodName := ⟨RX6, "turnIn", "(I)I"⟩
abbrev cX6_doneIn : ByteArray := prog_1_method_21_code
def yX6_doneIn : MethodName := ⟨RX6, "doneIn", "(I)I"⟩
abbrev cX6_bestSlot : ByteArray := prog_1_method_23_code
def yX6_bestSlot : MethodName := ⟨RX6, "bestSlot", "(I)I"⟩
abbrev cX6_save : ByteArray := prog_1_method_26_code
def yX6_save : MethodName := ⟨RX6, "save", "(I)I"⟩
abbrev cX6_restore : ByteArray := prog_1_method_27_code
def yX6_restore : MethodName := ⟨RX6, "restore", "(I)I"⟩
abbrev cX6_needMaster : ByteArray := prog_1_method_28_code
def yX6_needMaster : MethodName := ⟨RX6, "needMaster", "(I)V"⟩
abbrev cX6_needSlot : ByteArray := prog_1_method_29_code
def yX6_needSlot : MethodName := ⟨RX6, "needSlot", "(I)V"⟩
abbrev cX6_needSlave : ByteArray := prog_1_method_30_code
def yX6_needSlave : MethodName := ⟨RX6, "needSlave", "(I)V"⟩
abbrev cX6_needSaveSlot : ByteArray := prog_1_method_31_code
def yX6_needSaveSlot : MethodName := ⟨RX6, "needSaveSlot", "(I)V"⟩
def RX7 : String := "TurnBusModel"
def TX7 : u_T := fun k => match k with
  | _ => ("", "", "", false)
def tyX7 : Nat → FieldType := fun k => match k with
  | _ => .int
abbrev wsX70 : List Cond := u_ws RX7 TX7 0
theorem nmX7 : ∀ a, a < 0 → ∀ b, b < 0 → a ≠ b → (TX7 a).2.1 ≠ (TX7 b).2.1 := by decide +kernel
theorem tyX7_ok : ∀ k, k < 0 → parseFieldDescriptor (TX7 k).2.2.1 = some (tyX7 k) := by decide +kernel
def RJ9 : String := "java/lang/Math"
def TJ9 : u_T := fun k => match k with
  | _ => ("", "", "", false)
def tyJ9 : Nat → FieldType := fun k => match k with
  | _ => .int
abbrev wsJ90 : List Cond := u_ws RJ9 TJ9 0
theorem nmJ9 : ∀ a, a < 0 → ∀ b, b < 0 → a ≠ b → (TJ9 a).2.1 ≠ (TJ9 b).2.1 := by decide +kernel
theorem tyJ9_ok : ∀ k, k < 0 → parseFieldDescriptor (TJ9 k).2.2.1 = some (tyJ9 k) := by decide +kernel
abbrev cJ9_floorMod_7cf53 : ByteArray := prog_14_method_50_code
def yJ9_floorMod_7cf53 : MethodName := ⟨RJ9, "floorMod", "(II)I"⟩
abbrev cJ9_max_7cf53 : ByteArray := prog_14_method_65_code
def yJ9_max_7cf53 : MethodName := ⟨RJ9, "max", "(II)I"⟩
abbrev cJ9_min_7cf53 : ByteArray := prog_14_method_69_code
def yJ9_min_7cf53 : MethodName := ⟨RJ9, "min", "(II)I"⟩
def RJ0 : String := "java/lang/String"
def TJ0 : u_T := fun k => match k with
  | _ => ("", "", "", false)
def tyJ0 : Nat → FieldType := fun k => match k with
  | _ => .int
abbrev wsJ00 : List Cond := u_ws RJ0 TJ0 0
theorem nmJ0 : ∀ a, a < 0 → ∀ b, b < 0 → a ≠ b → (TJ0 a).2.1 ≠ (TJ0 b).2.1 := by decide +kernel
theorem tyJ0_ok : ∀ k, k < 0 → parseFieldDescriptor (TJ0 k).2.2.1 = some (tyJ0 k) := by decide +kernel
def RL : String := "TurnBusLaw"
abbrev cL_cell : ByteArray := method_2_code
def yL_cell : MethodName := ⟨RL, "cell", "([II)I"⟩
abbrev cL_sound : ByteArray := method_3_code
def yL_sound : MethodName := ⟨RL, "sound", "(LTurnBus;)Z"⟩
abbrev cL_tick : ByteArray := method_4_code
def yL_tick : MethodName := ⟨RL, "tick", "(LTurnBus;I)Z"⟩
abbrev cL_acts : ByteArray := method_5_code
def yL_acts : MethodName := ⟨RL, "acts", "(LTurnBus;I)Z"⟩
abbrev cL_law : ByteArray := code
def yL_law : MethodName := ⟨RL, "law", "([I)Z"⟩
abbrev vwCl : List vw_C := [(RX0, TX0, 2), (RX1, TX1, 4), (RX2, TX2, 9), (RX3, TX3, 4), (RX4, TX4, 3), (RX5, TX5, 11), (RX6, TX6, 7)]
def GW : List Cond := lw_tbl.filter goodWord
theorem gwm {w : Cond} (i : Nat) (h : lw_tbl[i]? = some w) (g : goodWord w = true) : w ∈ GW := List.mem_filter.mpr ⟨List.mem_of_getElem? h, g⟩
theorem gws {ws : List Cond} (ps : List Nat) (hp : ws = ps.filterMap (fun i => lw_tbl[i]?)) (h : ws.all goodWord = true) : ∀ w ∈ ws, w ∈ GW := by
  intro w hw
  have h1 := List.all_eq_true.mp h w hw
  rw [hp] at hw
  obtain ⟨i, -, hi⟩ := List.mem_filterMap.mp hw
  exact gwm i hi h1
