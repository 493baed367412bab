section
-- ===== PART A: goes FIRST, ahead of the names: the tables' words, and 'selects' of the private methods out of them =====
/-- a private method of a class that the tables say can be made, by its rows of tables_1 -/
def lw_okq (q : MethodName × Nat) : Prop := (q.1.cls ≠ "java/lang/invoke/MethodHandle" ∧ q.1.cls ≠ "java/lang/invoke/VarHandle") ∧ Cond.instantiable q.1.cls q.2 ∈ tables_1 ∧ Cond.privateMethod q.1 ∈ tables_1 ∧ Cond.instanceMethod q.1 ∈ tables_1
theorem lw_p0 : lw_okq (⟨"DepotCharge$Tape", "isDigit", "(I)Z"⟩, 6) := ⟨⟨by decide +kernel, by decide +kernel⟩, List.mem_of_getElem? (i := 98) (by decide +kernel), List.mem_of_getElem? (i := 319) (by decide +kernel), List.mem_of_getElem? (i := 320) (by decide +kernel)⟩
theorem lw_p1 : lw_okq (⟨"DepotCharge$Tape", "readNumber", "()V"⟩, 6) := ⟨⟨by decide +kernel, by decide +kernel⟩, List.mem_of_getElem? (i := 98) (by decide +kernel), List.mem_of_getElem? (i := 323) (by decide +kernel), List.mem_of_getElem? (i := 324) (by decide +kernel)⟩
theorem lw_p2 : lw_okq (⟨"DepotCharge$Tape", "isLetter", "(I)Z"⟩, 6) := ⟨⟨by decide +kernel, by decide +kernel⟩, List.mem_of_getElem? (i := 98) (by decide +kernel), List.mem_of_getElem? (i := 327) (by decide +kernel), List.mem_of_getElem? (i := 328) (by decide +kernel)⟩
theorem lw_p3 : lw_okq (⟨"DepotCharge$Tape", "readWord", "()V"⟩, 6) := ⟨⟨by decide +kernel, by decide +kernel⟩, List.mem_of_getElem? (i := 98) (by decide +kernel), List.mem_of_getElem? (i := 331) (by decide +kernel), List.mem_of_getElem? (i := 332) (by decide +kernel)⟩
theorem lw_p4 : lw_okq (⟨"DepotCharge$Reader", "readStatement", "(LDepotCharge$Depot;)V"⟩, 2) := ⟨⟨by decide +kernel, by decide +kernel⟩, List.mem_of_getElem? (i := 128) (by decide +kernel), List.mem_of_getElem? (i := 335) (by decide +kernel), List.mem_of_getElem? (i := 336) (by decide +kernel)⟩
theorem lw_p5 : lw_okq (⟨"DepotCharge$Reader", "readSlots", "(LDepotCharge$Depot;)V"⟩, 2) := ⟨⟨by decide +kernel, by decide +kernel⟩, List.mem_of_getElem? (i := 128) (by decide +kernel), List.mem_of_getElem? (i := 392) (by decide +kernel), List.mem_of_getElem? (i := 393) (by decide +kernel)⟩
theorem lw_p6 : lw_okq (⟨"DepotCharge$Reader", "readNumber", "(II)I"⟩, 2) := ⟨⟨by decide +kernel, by decide +kernel⟩, List.mem_of_getElem? (i := 128) (by decide +kernel), List.mem_of_getElem? (i := 397) (by decide +kernel), List.mem_of_getElem? (i := 398) (by decide +kernel)⟩
theorem lw_p7 : lw_okq (⟨"DepotCharge$Reader", "numberIsWithin", "(II)Z"⟩, 2) := ⟨⟨by decide +kernel, by decide +kernel⟩, List.mem_of_getElem? (i := 128) (by decide +kernel), List.mem_of_getElem? (i := 401) (by decide +kernel), List.mem_of_getElem? (i := 402) (by decide +kernel)⟩
theorem lw_p8 : lw_okq (⟨"DepotCharge$Reader", "blame", "(I)V"⟩, 2) := ⟨⟨by decide +kernel, by decide +kernel⟩, List.mem_of_getElem? (i := 128) (by decide +kernel), List.mem_of_getElem? (i := 405) (by decide +kernel), List.mem_of_getElem? (i := 406) (by decide +kernel)⟩
theorem lw_p9 : lw_okq (⟨"DepotCharge$Reader", "readPrice", "(LDepotCharge$Depot;)V"⟩, 2) := ⟨⟨by decide +kernel, by decide +kernel⟩, List.mem_of_getElem? (i := 128) (by decide +kernel), List.mem_of_getElem? (i := 414) (by decide +kernel), List.mem_of_getElem? (i := 415) (by decide +kernel)⟩
theorem lw_p10 : lw_okq (⟨"DepotCharge$Reader", "readSetting", "(LDepotCharge$Depot;I)V"⟩, 2) := ⟨⟨by decide +kernel, by decide +kernel⟩, List.mem_of_getElem? (i := 128) (by decide +kernel), List.mem_of_getElem? (i := 427) (by decide +kernel), List.mem_of_getElem? (i := 428) (by decide +kernel)⟩
theorem lw_p11 : lw_okq (⟨"DepotCharge$Reader", "readCurve", "(LDepotCharge$Depot;)V"⟩, 2) := ⟨⟨by decide +kernel, by decide +kernel⟩, List.mem_of_getElem? (i := 128) (by decide +kernel), List.mem_of_getElem? (i := 444) (by decide +kernel), List.mem_of_getElem? (i := 445) (by decide +kernel)⟩
theorem lw_p12 : lw_okq (⟨"DepotCharge$Reader", "readBus", "(LDepotCharge$Depot;)V"⟩, 2) := ⟨⟨by decide +kernel, by decide +kernel⟩, List.mem_of_getElem? (i := 128) (by decide +kernel), List.mem_of_getElem? (i := 453) (by decide +kernel), List.mem_of_getElem? (i := 454) (by decide +kernel)⟩
theorem lw_p13 : lw_okq (⟨"DepotCharge$Reader", "readCharge", "(LDepotCharge$Depot;)V"⟩, 2) := ⟨⟨by decide +kernel, by decide +kernel⟩, List.mem_of_getElem? (i := 128) (by decide +kernel), List.mem_of_getElem? (i := 476) (by decide +kernel), List.mem_of_getElem? (i := 477) (by decide +kernel)⟩
theorem lw_p14 : lw_okq (⟨"DepotCharge$Reader", "readSemicolon", "()V"⟩, 2) := ⟨⟨by decide +kernel, by decide +kernel⟩, List.mem_of_getElem? (i := 128) (by decide +kernel), List.mem_of_getElem? (i := 480) (by decide +kernel), List.mem_of_getElem? (i := 481) (by decide +kernel)⟩
theorem lw_p15 : lw_okq (⟨"DepotCharge$Ledger", "chargeSlot", "(LDepotCharge$Depot;II)I"⟩, 6) := ⟨⟨by decide +kernel, by decide +kernel⟩, List.mem_of_getElem? (i := 142) (by decide +kernel), List.mem_of_getElem? (i := 533) (by decide +kernel), List.mem_of_getElem? (i := 534) (by decide +kernel)⟩
def lw_privs_1 : List (MethodName × Nat) := [(⟨"DepotCharge$Tape", "isDigit", "(I)Z"⟩, 6), (⟨"DepotCharge$Tape", "readNumber", "()V"⟩, 6), (⟨"DepotCharge$Tape", "isLetter", "(I)Z"⟩, 6), (⟨"DepotCharge$Tape", "readWord", "()V"⟩, 6), (⟨"DepotCharge$Reader", "readStatement", "(LDepotCharge$Depot;)V"⟩, 2), (⟨"DepotCharge$Reader", "readSlots", "(LDepotCharge$Depot;)V"⟩, 2), (⟨"DepotCharge$Reader", "readNumber", "(II)I"⟩, 2), (⟨"DepotCharge$Reader", "numberIsWithin", "(II)Z"⟩, 2), (⟨"DepotCharge$Reader", "blame", "(I)V"⟩, 2), (⟨"DepotCharge$Reader", "readPrice", "(LDepotCharge$Depot;)V"⟩, 2), (⟨"DepotCharge$Reader", "readSetting", "(LDepotCharge$Depot;I)V"⟩, 2), (⟨"DepotCharge$Reader", "readCurve", "(LDepotCharge$Depot;)V"⟩, 2), (⟨"DepotCharge$Reader", "readBus", "(LDepotCharge$Depot;)V"⟩, 2), (⟨"DepotCharge$Reader", "readCharge", "(LDepotCharge$Depot;)V"⟩, 2), (⟨"DepotCharge$Reader", "readSemicolon", "()V"⟩, 2), (⟨"DepotCharge$Ledger", "chargeSlot", "(LDepotCharge$Depot;II)I"⟩, 6)]
theorem lw_r1 : ∀ q ∈ lw_privs_1, lw_okq q := List.forall_mem_cons.mpr ⟨lw_p0, List.forall_mem_cons.mpr ⟨lw_p1, List.forall_mem_cons.mpr ⟨lw_p2, List.forall_mem_cons.mpr ⟨lw_p3, List.forall_mem_cons.mpr ⟨lw_p4, List.forall_mem_cons.mpr ⟨lw_p5, List.forall_mem_cons.mpr ⟨lw_p6, List.forall_mem_cons.mpr ⟨lw_p7, List.forall_mem_cons.mpr ⟨lw_p8, List.forall_mem_cons.mpr ⟨lw_p9, List.forall_mem_cons.mpr ⟨lw_p10, List.forall_mem_cons.mpr ⟨lw_p11, List.forall_mem_cons.mpr ⟨lw_p12, List.forall_mem_cons.mpr ⟨lw_p13, List.forall_mem_cons.mpr ⟨lw_p14, List.forall_mem_cons.mpr ⟨lw_p15, fun _ h => absurd h List.not_mem_nil⟩⟩⟩⟩⟩⟩⟩⟩⟩⟩⟩⟩⟩⟩⟩⟩
theorem lw_p16 : lw_okq (⟨"DepotCharge$Ledger", "slotIsWrong", "(LDepotCharge$Depot;III)Z"⟩, 6) := ⟨⟨by decide +kernel, by decide +kernel⟩, List.mem_of_getElem? (i := 142) (by decide +kernel), List.mem_of_getElem? (i := 617) (by decide +kernel), List.mem_of_getElem? (i := 618) (by decide +kernel)⟩
theorem lw_p17 : lw_okq (⟨"DepotCharge", "findBest", "()V"⟩, 9) := ⟨⟨by decide +kernel, by decide +kernel⟩, List.mem_of_getElem? (i := 21) (by decide +kernel), List.mem_of_getElem? (i := 637) (by decide +kernel), List.mem_of_getElem? (i := 638) (by decide +kernel)⟩
theorem lw_p18 : lw_okq (⟨"DepotCharge$Planner", "traceAll", "()V"⟩, 19) := ⟨⟨by decide +kernel, by decide +kernel⟩, List.mem_of_getElem? (i := 171) (by decide +kernel), List.mem_of_getElem? (i := 651) (by decide +kernel), List.mem_of_getElem? (i := 652) (by decide +kernel)⟩
theorem lw_p19 : lw_okq (⟨"DepotCharge$Planner", "trace", "(I)V"⟩, 19) := ⟨⟨by decide +kernel, by decide +kernel⟩, List.mem_of_getElem? (i := 171) (by decide +kernel), List.mem_of_getElem? (i := 655) (by decide +kernel), List.mem_of_getElem? (i := 656) (by decide +kernel)⟩
theorem lw_p20 : lw_okq (⟨"DepotCharge$Planner", "mayBeReady", "()Z"⟩, 19) := ⟨⟨by decide +kernel, by decide +kernel⟩, List.mem_of_getElem? (i := 171) (by decide +kernel), List.mem_of_getElem? (i := 661) (by decide +kernel), List.mem_of_getElem? (i := 662) (by decide +kernel)⟩
theorem lw_p21 : lw_okq (⟨"DepotCharge$Planner", "weighStates", "(Z)Z"⟩, 19) := ⟨⟨by decide +kernel, by decide +kernel⟩, List.mem_of_getElem? (i := 171) (by decide +kernel), List.mem_of_getElem? (i := 665) (by decide +kernel), List.mem_of_getElem? (i := 666) (by decide +kernel)⟩
theorem lw_p22 : lw_okq (⟨"DepotCharge$Planner", "spread", "(IZ)I"⟩, 19) := ⟨⟨by decide +kernel, by decide +kernel⟩, List.mem_of_getElem? (i := 171) (by decide +kernel), List.mem_of_getElem? (i := 669) (by decide +kernel), List.mem_of_getElem? (i := 670) (by decide +kernel)⟩
theorem lw_p23 : lw_okq (⟨"DepotCharge$Planner", "lackHere", "()I"⟩, 19) := ⟨⟨by decide +kernel, by decide +kernel⟩, List.mem_of_getElem? (i := 171) (by decide +kernel), List.mem_of_getElem? (i := 674) (by decide +kernel), List.mem_of_getElem? (i := 675) (by decide +kernel)⟩
theorem lw_p24 : lw_okq (⟨"DepotCharge$Planner", "nextState", "()V"⟩, 19) := ⟨⟨by decide +kernel, by decide +kernel⟩, List.mem_of_getElem? (i := 171) (by decide +kernel), List.mem_of_getElem? (i := 680) (by decide +kernel), List.mem_of_getElem? (i := 681) (by decide +kernel)⟩
theorem lw_p25 : lw_okq (⟨"DepotCharge$Planner", "settle", "(I)V"⟩, 19) := ⟨⟨by decide +kernel, by decide +kernel⟩, List.mem_of_getElem? (i := 171) (by decide +kernel), List.mem_of_getElem? (i := 684) (by decide +kernel), List.mem_of_getElem? (i := 685) (by decide +kernel)⟩
theorem lw_p26 : lw_okq (⟨"DepotCharge", "adopt", "([I)I"⟩, 9) := ⟨⟨by decide +kernel, by decide +kernel⟩, List.mem_of_getElem? (i := 21) (by decide +kernel), List.mem_of_getElem? (i := 696) (by decide +kernel), List.mem_of_getElem? (i := 697) (by decide +kernel)⟩
theorem lw_p27 : lw_okq (⟨"DepotCharge", "costIfLate", "(II)I"⟩, 9) := ⟨⟨by decide +kernel, by decide +kernel⟩, List.mem_of_getElem? (i := 21) (by decide +kernel), List.mem_of_getElem? (i := 704) (by decide +kernel), List.mem_of_getElem? (i := 705) (by decide +kernel)⟩
theorem lw_p28 : lw_okq (⟨"DepotCharge", "costIfSet", "(II)I"⟩, 9) := ⟨⟨by decide +kernel, by decide +kernel⟩, List.mem_of_getElem? (i := 21) (by decide +kernel), List.mem_of_getElem? (i := 721) (by decide +kernel), List.mem_of_getElem? (i := 722) (by decide +kernel)⟩
theorem lw_p29 : lw_okq (⟨"DepotCharge", "firstReady", "(II)I"⟩, 9) := ⟨⟨by decide +kernel, by decide +kernel⟩, List.mem_of_getElem? (i := 21) (by decide +kernel), List.mem_of_getElem? (i := 730) (by decide +kernel), List.mem_of_getElem? (i := 731) (by decide +kernel)⟩
theorem lw_p30 : lw_okq (⟨"DepotCharge", "leastLimit", "()I"⟩, 9) := ⟨⟨by decide +kernel, by decide +kernel⟩, List.mem_of_getElem? (i := 21) (by decide +kernel), List.mem_of_getElem? (i := 738) (by decide +kernel), List.mem_of_getElem? (i := 739) (by decide +kernel)⟩
theorem lw_p31 : lw_okq (⟨"DepotCharge$Ruler", "chargeSlot", "(LDepotCharge$Depot;II)I"⟩, 3) := ⟨⟨by decide +kernel, by decide +kernel⟩, List.mem_of_getElem? (i := 239) (by decide +kernel), List.mem_of_getElem? (i := 758) (by decide +kernel), List.mem_of_getElem? (i := 759) (by decide +kernel)⟩
def lw_privs_2 : List (MethodName × Nat) := [(⟨"DepotCharge$Ledger", "slotIsWrong", "(LDepotCharge$Depot;III)Z"⟩, 6), (⟨"DepotCharge", "findBest", "()V"⟩, 9), (⟨"DepotCharge$Planner", "traceAll", "()V"⟩, 19), (⟨"DepotCharge$Planner", "trace", "(I)V"⟩, 19), (⟨"DepotCharge$Planner", "mayBeReady", "()Z"⟩, 19), (⟨"DepotCharge$Planner", "weighStates", "(Z)Z"⟩, 19), (⟨"DepotCharge$Planner", "spread", "(IZ)I"⟩, 19), (⟨"DepotCharge$Planner", "lackHere", "()I"⟩, 19), (⟨"DepotCharge$Planner", "nextState", "()V"⟩, 19), (⟨"DepotCharge$Planner", "settle", "(I)V"⟩, 19), (⟨"DepotCharge", "adopt", "([I)I"⟩, 9), (⟨"DepotCharge", "costIfLate", "(II)I"⟩, 9), (⟨"DepotCharge", "costIfSet", "(II)I"⟩, 9), (⟨"DepotCharge", "firstReady", "(II)I"⟩, 9), (⟨"DepotCharge", "leastLimit", "()I"⟩, 9), (⟨"DepotCharge$Ruler", "chargeSlot", "(LDepotCharge$Depot;II)I"⟩, 3)]
theorem lw_r2 : ∀ q ∈ lw_privs_2, lw_okq q := List.forall_mem_cons.mpr ⟨lw_p16, List.forall_mem_cons.mpr ⟨lw_p17, List.forall_mem_cons.mpr ⟨lw_p18, List.forall_mem_cons.mpr ⟨lw_p19, List.forall_mem_cons.mpr ⟨lw_p20, List.forall_mem_cons.mpr ⟨lw_p21, List.forall_mem_cons.mpr ⟨lw_p22, List.forall_mem_cons.mpr ⟨lw_p23, List.forall_mem_cons.mpr ⟨lw_p24, List.forall_mem_cons.mpr ⟨lw_p25, List.forall_mem_cons.mpr ⟨lw_p26, List.forall_mem_cons.mpr ⟨lw_p27, List.forall_mem_cons.mpr ⟨lw_p28, List.forall_mem_cons.mpr ⟨lw_p29, List.forall_mem_cons.mpr ⟨lw_p30, List.forall_mem_cons.mpr ⟨lw_p31, fun _ h => absurd h List.not_mem_nil⟩⟩⟩⟩⟩⟩⟩⟩⟩⟩⟩⟩⟩⟩⟩⟩
theorem lw_p32 : lw_okq (⟨"DepotCharge$Ruler", "rankOf", "(LDepotCharge$Depot;III)I"⟩, 3) := ⟨⟨by decide +kernel, by decide +kernel⟩, List.mem_of_getElem? (i := 239) (by decide +kernel), List.mem_of_getElem? (i := 763) (by decide +kernel), List.mem_of_getElem? (i := 764) (by decide +kernel)⟩
theorem lw_p33 : lw_okq (⟨"DepotCharge$Ruler", "firstOf", "(I)I"⟩, 3) := ⟨⟨by decide +kernel, by decide +kernel⟩, List.mem_of_getElem? (i := 239) (by decide +kernel), List.mem_of_getElem? (i := 769) (by decide +kernel), List.mem_of_getElem? (i := 770) (by decide +kernel)⟩
theorem lw_p34 : lw_okq (⟨"java/lang/Throwable", "fillInStackTrace", "(I)Ljava/lang/Throwable;"⟩, 6) := ⟨⟨by decide +kernel, by decide +kernel⟩, List.mem_of_getElem? (i := 827) (by decide +kernel), List.mem_of_getElem? (i := 825) (by decide +kernel), List.mem_of_getElem? (i := 826) (by decide +kernel)⟩
theorem lw_p35 : lw_okq (⟨"DepotChargeModel", "four", "(I)V"⟩, 27) := ⟨⟨by decide +kernel, by decide +kernel⟩, List.mem_of_getElem? (i := 856) (by decide +kernel), List.mem_of_getElem? (i := 953) (by decide +kernel), List.mem_of_getElem? (i := 954) (by decide +kernel)⟩
theorem lw_p36 : lw_okq (⟨"DepotChargeModel", "copies", "(Z)V"⟩, 27) := ⟨⟨by decide +kernel, by decide +kernel⟩, List.mem_of_getElem? (i := 856) (by decide +kernel), List.mem_of_getElem? (i := 968) (by decide +kernel), List.mem_of_getElem? (i := 969) (by decide +kernel)⟩
theorem lw_p37 : lw_okq (⟨"DepotChargeModel", "readText", "()Z"⟩, 27) := ⟨⟨by decide +kernel, by decide +kernel⟩, List.mem_of_getElem? (i := 856) (by decide +kernel), List.mem_of_getElem? (i := 972) (by decide +kernel), List.mem_of_getElem? (i := 973) (by decide +kernel)⟩
theorem lw_p38 : lw_okq (⟨"DepotChargeModel", "here", "()I"⟩, 27) := ⟨⟨by decide +kernel, by decide +kernel⟩, List.mem_of_getElem? (i := 856) (by decide +kernel), List.mem_of_getElem? (i := 976) (by decide +kernel), List.mem_of_getElem? (i := 977) (by decide +kernel)⟩
theorem lw_p39 : lw_okq (⟨"DepotChargeModel", "readStatement", "()Z"⟩, 27) := ⟨⟨by decide +kernel, by decide +kernel⟩, List.mem_of_getElem? (i := 856) (by decide +kernel), List.mem_of_getElem? (i := 980) (by decide +kernel), List.mem_of_getElem? (i := 981) (by decide +kernel)⟩
theorem lw_p40 : lw_okq (⟨"DepotChargeModel", "fails", "(II)Z"⟩, 27) := ⟨⟨by decide +kernel, by decide +kernel⟩, List.mem_of_getElem? (i := 856) (by decide +kernel), List.mem_of_getElem? (i := 984) (by decide +kernel), List.mem_of_getElem? (i := 985) (by decide +kernel)⟩
theorem lw_p41 : lw_okq (⟨"DepotChargeModel", "readWord", "()J"⟩, 27) := ⟨⟨by decide +kernel, by decide +kernel⟩, List.mem_of_getElem? (i := 856) (by decide +kernel), List.mem_of_getElem? (i := 988) (by decide +kernel), List.mem_of_getElem? (i := 989) (by decide +kernel)⟩
theorem lw_p42 : lw_okq (⟨"DepotChargeModel", "readSlots", "()Z"⟩, 27) := ⟨⟨by decide +kernel, by decide +kernel⟩, List.mem_of_getElem? (i := 856) (by decide +kernel), List.mem_of_getElem? (i := 996) (by decide +kernel), List.mem_of_getElem? (i := 997) (by decide +kernel)⟩
theorem lw_p43 : lw_okq (⟨"DepotChargeModel", "readNumber", "(II)Z"⟩, 27) := ⟨⟨by decide +kernel, by decide +kernel⟩, List.mem_of_getElem? (i := 856) (by decide +kernel), List.mem_of_getElem? (i := 1000) (by decide +kernel), List.mem_of_getElem? (i := 1001) (by decide +kernel)⟩
theorem lw_p44 : lw_okq (⟨"DepotChargeModel", "readPlain", "()Z"⟩, 27) := ⟨⟨by decide +kernel, by decide +kernel⟩, List.mem_of_getElem? (i := 856) (by decide +kernel), List.mem_of_getElem? (i := 1004) (by decide +kernel), List.mem_of_getElem? (i := 1005) (by decide +kernel)⟩
theorem lw_p45 : lw_okq (⟨"DepotChargeModel", "isNumber", "()Z"⟩, 27) := ⟨⟨by decide +kernel, by decide +kernel⟩, List.mem_of_getElem? (i := 856) (by decide +kernel), List.mem_of_getElem? (i := 1008) (by decide +kernel), List.mem_of_getElem? (i := 1009) (by decide +kernel)⟩
theorem lw_p46 : lw_okq (⟨"DepotChargeModel", "readPrice", "()Z"⟩, 27) := ⟨⟨by decide +kernel, by decide +kernel⟩, List.mem_of_getElem? (i := 856) (by decide +kernel), List.mem_of_getElem? (i := 1013) (by decide +kernel), List.mem_of_getElem? (i := 1014) (by decide +kernel)⟩
theorem lw_p47 : lw_okq (⟨"DepotChargeModel", "reads", "(III)Z"⟩, 27) := ⟨⟨by decide +kernel, by decide +kernel⟩, List.mem_of_getElem? (i := 856) (by decide +kernel), List.mem_of_getElem? (i := 1017) (by decide +kernel), List.mem_of_getElem? (i := 1018) (by decide +kernel)⟩
def lw_privs_3 : List (MethodName × Nat) := [(⟨"DepotCharge$Ruler", "rankOf", "(LDepotCharge$Depot;III)I"⟩, 3), (⟨"DepotCharge$Ruler", "firstOf", "(I)I"⟩, 3), (⟨"java/lang/Throwable", "fillInStackTrace", "(I)Ljava/lang/Throwable;"⟩, 6), (⟨"DepotChargeModel", "four", "(I)V"⟩, 27), (⟨"DepotChargeModel", "copies", "(Z)V"⟩, 27), (⟨"DepotChargeModel", "readText", "()Z"⟩, 27), (⟨"DepotChargeModel", "here", "()I"⟩, 27), (⟨"DepotChargeModel", "readStatement", "()Z"⟩, 27), (⟨"DepotChargeModel", "fails", "(II)Z"⟩, 27), (⟨"DepotChargeModel", "readWord", "()J"⟩, 27), (⟨"DepotChargeModel", "readSlots", "()Z"⟩, 27), (⟨"DepotChargeModel", "readNumber", "(II)Z"⟩, 27), (⟨"DepotChargeModel", "readPlain", "()Z"⟩, 27), (⟨"DepotChargeModel", "isNumber", "()Z"⟩, 27), (⟨"DepotChargeModel", "readPrice", "()Z"⟩, 27), (⟨"DepotChargeModel", "reads", "(III)Z"⟩, 27)]
theorem lw_r3 : ∀ q ∈ lw_privs_3, lw_okq q := List.forall_mem_cons.mpr ⟨lw_p32, List.forall_mem_cons.mpr ⟨lw_p33, List.forall_mem_cons.mpr ⟨lw_p34, List.forall_mem_cons.mpr ⟨lw_p35, List.forall_mem_cons.mpr ⟨lw_p36, List.forall_mem_cons.mpr ⟨lw_p37, List.forall_mem_cons.mpr ⟨lw_p38, List.forall_mem_cons.mpr ⟨lw_p39, List.forall_mem_cons.mpr ⟨lw_p40, List.forall_mem_cons.mpr ⟨lw_p41, List.forall_mem_cons.mpr ⟨lw_p42, List.forall_mem_cons.mpr ⟨lw_p43, List.forall_mem_cons.mpr ⟨lw_p44, List.forall_mem_cons.mpr ⟨lw_p45, List.forall_mem_cons.mpr ⟨lw_p46, List.forall_mem_cons.mpr ⟨lw_p47, fun _ h => absurd h List.not_mem_nil⟩⟩⟩⟩⟩⟩⟩⟩⟩⟩⟩⟩⟩⟩⟩⟩
theorem lw_p48 : lw_okq (⟨"DepotChargeModel", "readCurve", "(I)Z"⟩, 27) := ⟨⟨by decide +kernel, by decide +kernel⟩, List.mem_of_getElem? (i := 856) (by decide +kernel), List.mem_of_getElem? (i := 1025) (by decide +kernel), List.mem_of_getElem? (i := 1026) (by decide +kernel)⟩
theorem lw_p49 : lw_okq (⟨"DepotChargeModel", "readBus", "(I)Z"⟩, 27) := ⟨⟨by decide +kernel, by decide +kernel⟩, List.mem_of_getElem? (i := 856) (by decide +kernel), List.mem_of_getElem? (i := 1030) (by decide +kernel), List.mem_of_getElem? (i := 1031) (by decide +kernel)⟩
theorem lw_p50 : lw_okq (⟨"DepotChargeModel", "readCharge", "()Z"⟩, 27) := ⟨⟨by decide +kernel, by decide +kernel⟩, List.mem_of_getElem? (i := 856) (by decide +kernel), List.mem_of_getElem? (i := 1035) (by decide +kernel), List.mem_of_getElem? (i := 1036) (by decide +kernel)⟩
theorem lw_p51 : lw_okq (⟨"DepotChargeModel", "isSlot", "(I)Z"⟩, 27) := ⟨⟨by decide +kernel, by decide +kernel⟩, List.mem_of_getElem? (i := 856) (by decide +kernel), List.mem_of_getElem? (i := 1065) (by decide +kernel), List.mem_of_getElem? (i := 1066) (by decide +kernel)⟩
theorem lw_p52 : lw_okq (⟨"DepotChargeModel", "isBus", "(I)Z"⟩, 27) := ⟨⟨by decide +kernel, by decide +kernel⟩, List.mem_of_getElem? (i := 856) (by decide +kernel), List.mem_of_getElem? (i := 1069) (by decide +kernel), List.mem_of_getElem? (i := 1070) (by decide +kernel)⟩
theorem lw_p53 : lw_okq (⟨"DepotChargeModel", "chargesOf", "()I"⟩, 27) := ⟨⟨by decide +kernel, by decide +kernel⟩, List.mem_of_getElem? (i := 856) (by decide +kernel), List.mem_of_getElem? (i := 1077) (by decide +kernel), List.mem_of_getElem? (i := 1078) (by decide +kernel)⟩
theorem lw_p54 : lw_okq (⟨"DepotChargeModel", "of", "(II)I"⟩, 27) := ⟨⟨by decide +kernel, by decide +kernel⟩, List.mem_of_getElem? (i := 856) (by decide +kernel), List.mem_of_getElem? (i := 1092) (by decide +kernel), List.mem_of_getElem? (i := 1093) (by decide +kernel)⟩
theorem lw_p55 : lw_okq (⟨"DepotChargeModel", "asTold", "()V"⟩, 27) := ⟨⟨by decide +kernel, by decide +kernel⟩, List.mem_of_getElem? (i := 856) (by decide +kernel), List.mem_of_getElem? (i := 1104) (by decide +kernel), List.mem_of_getElem? (i := 1105) (by decide +kernel)⟩
theorem lw_p56 : lw_okq (⟨"DepotChargeModel", "takesOf", "(II)I"⟩, 27) := ⟨⟨by decide +kernel, by decide +kernel⟩, List.mem_of_getElem? (i := 856) (by decide +kernel), List.mem_of_getElem? (i := 1108) (by decide +kernel), List.mem_of_getElem? (i := 1109) (by decide +kernel)⟩
theorem lw_p57 : lw_okq (⟨"DepotChargeModel", "slotsOf", "(III)I"⟩, 27) := ⟨⟨by decide +kernel, by decide +kernel⟩, List.mem_of_getElem? (i := 856) (by decide +kernel), List.mem_of_getElem? (i := 1119) (by decide +kernel), List.mem_of_getElem? (i := 1120) (by decide +kernel)⟩
theorem lw_p58 : lw_okq (⟨"DepotChargeModel", "goesByTold", "()V"⟩, 27) := ⟨⟨by decide +kernel, by decide +kernel⟩, List.mem_of_getElem? (i := 856) (by decide +kernel), List.mem_of_getElem? (i := 1131) (by decide +kernel), List.mem_of_getElem? (i := 1132) (by decide +kernel)⟩
theorem lw_p59 : lw_okq (⟨"DepotChargeModel", "goes", "()V"⟩, 27) := ⟨⟨by decide +kernel, by decide +kernel⟩, List.mem_of_getElem? (i := 856) (by decide +kernel), List.mem_of_getElem? (i := 1135) (by decide +kernel), List.mem_of_getElem? (i := 1136) (by decide +kernel)⟩
theorem lw_p60 : lw_okq (⟨"DepotChargeModel", "isThere", "(II)Z"⟩, 27) := ⟨⟨by decide +kernel, by decide +kernel⟩, List.mem_of_getElem? (i := 856) (by decide +kernel), List.mem_of_getElem? (i := 1139) (by decide +kernel), List.mem_of_getElem? (i := 1140) (by decide +kernel)⟩
theorem lw_p61 : lw_okq (⟨"DepotChargeModel", "wrongOf", "()I"⟩, 27) := ⟨⟨by decide +kernel, by decide +kernel⟩, List.mem_of_getElem? (i := 856) (by decide +kernel), List.mem_of_getElem? (i := 1151) (by decide +kernel), List.mem_of_getElem? (i := 1152) (by decide +kernel)⟩
theorem lw_p62 : lw_okq (⟨"DepotChargeModel", "isAllThere", "(I)Z"⟩, 27) := ⟨⟨by decide +kernel, by decide +kernel⟩, List.mem_of_getElem? (i := 856) (by decide +kernel), List.mem_of_getElem? (i := 1155) (by decide +kernel), List.mem_of_getElem? (i := 1156) (by decide +kernel)⟩
theorem lw_p63 : lw_okq (⟨"DepotChargeModel", "lackOf", "(I)I"⟩, 27) := ⟨⟨by decide +kernel, by decide +kernel⟩, List.mem_of_getElem? (i := 856) (by decide +kernel), List.mem_of_getElem? (i := 1159) (by decide +kernel), List.mem_of_getElem? (i := 1160) (by decide +kernel)⟩
def lw_privs_4 : List (MethodName × Nat) := [(⟨"DepotChargeModel", "readCurve", "(I)Z"⟩, 27), (⟨"DepotChargeModel", "readBus", "(I)Z"⟩, 27), (⟨"DepotChargeModel", "readCharge", "()Z"⟩, 27), (⟨"DepotChargeModel", "isSlot", "(I)Z"⟩, 27), (⟨"DepotChargeModel", "isBus", "(I)Z"⟩, 27), (⟨"DepotChargeModel", "chargesOf", "()I"⟩, 27), (⟨"DepotChargeModel", "of", "(II)I"⟩, 27), (⟨"DepotChargeModel", "asTold", "()V"⟩, 27), (⟨"DepotChargeModel", "takesOf", "(II)I"⟩, 27), (⟨"DepotChargeModel", "slotsOf", "(III)I"⟩, 27), (⟨"DepotChargeModel", "goesByTold", "()V"⟩, 27), (⟨"DepotChargeModel", "goes", "()V"⟩, 27), (⟨"DepotChargeModel", "isThere", "(II)Z"⟩, 27), (⟨"DepotChargeModel", "wrongOf", "()I"⟩, 27), (⟨"DepotChargeModel", "isAllThere", "(I)Z"⟩, 27), (⟨"DepotChargeModel", "lackOf", "(I)I"⟩, 27)]
theorem lw_r4 : ∀ q ∈ lw_privs_4, lw_okq q := List.forall_mem_cons.mpr ⟨lw_p48, List.forall_mem_cons.mpr ⟨lw_p49, List.forall_mem_cons.mpr ⟨lw_p50, List.forall_mem_cons.mpr ⟨lw_p51, List.forall_mem_cons.mpr ⟨lw_p52, List.forall_mem_cons.mpr ⟨lw_p53, List.forall_mem_cons.mpr ⟨lw_p54, List.forall_mem_cons.mpr ⟨lw_p55, List.forall_mem_cons.mpr ⟨lw_p56, List.forall_mem_cons.mpr ⟨lw_p57, List.forall_mem_cons.mpr ⟨lw_p58, List.forall_mem_cons.mpr ⟨lw_p59, List.forall_mem_cons.mpr ⟨lw_p60, List.forall_mem_cons.mpr ⟨lw_p61, List.forall_mem_cons.mpr ⟨lw_p62, List.forall_mem_cons.mpr ⟨lw_p63, fun _ h => absurd h List.not_mem_nil⟩⟩⟩⟩⟩⟩⟩⟩⟩⟩⟩⟩⟩⟩⟩⟩
theorem lw_p64 : lw_okq (⟨"DepotChargeModel", "sumOf", "(I)I"⟩, 27) := ⟨⟨by decide +kernel, by decide +kernel⟩, List.mem_of_getElem? (i := 856) (by decide +kernel), List.mem_of_getElem? (i := 1163) (by decide +kernel), List.mem_of_getElem? (i := 1164) (by decide +kernel)⟩
theorem lw_p65 : lw_okq (⟨"DepotChargeModel", "finds", "()V"⟩, 27) := ⟨⟨by decide +kernel, by decide +kernel⟩, List.mem_of_getElem? (i := 856) (by decide +kernel), List.mem_of_getElem? (i := 1175) (by decide +kernel), List.mem_of_getElem? (i := 1176) (by decide +kernel)⟩
theorem lw_p66 : lw_okq (⟨"DepotChargeModel", "laysFull", "()V"⟩, 27) := ⟨⟨by decide +kernel, by decide +kernel⟩, List.mem_of_getElem? (i := 856) (by decide +kernel), List.mem_of_getElem? (i := 1179) (by decide +kernel), List.mem_of_getElem? (i := 1180) (by decide +kernel)⟩
theorem lw_p67 : lw_okq (⟨"DepotChargeModel", "mayBe", "(II)Z"⟩, 27) := ⟨⟨by decide +kernel, by decide +kernel⟩, List.mem_of_getElem? (i := 856) (by decide +kernel), List.mem_of_getElem? (i := 1183) (by decide +kernel), List.mem_of_getElem? (i := 1184) (by decide +kernel)⟩
theorem lw_p68 : lw_okq (⟨"DepotChargeModel", "laysEnd", "(I)V"⟩, 27) := ⟨⟨by decide +kernel, by decide +kernel⟩, List.mem_of_getElem? (i := 856) (by decide +kernel), List.mem_of_getElem? (i := 1190) (by decide +kernel), List.mem_of_getElem? (i := 1191) (by decide +kernel)⟩
theorem lw_p69 : lw_okq (⟨"DepotChargeModel", "laysSlot", "(II)V"⟩, 27) := ⟨⟨by decide +kernel, by decide +kernel⟩, List.mem_of_getElem? (i := 856) (by decide +kernel), List.mem_of_getElem? (i := 1194) (by decide +kernel), List.mem_of_getElem? (i := 1195) (by decide +kernel)⟩
theorem lw_p70 : lw_okq (⟨"DepotChargeModel", "taken", "(III)I"⟩, 27) := ⟨⟨by decide +kernel, by decide +kernel⟩, List.mem_of_getElem? (i := 856) (by decide +kernel), List.mem_of_getElem? (i := 1198) (by decide +kernel), List.mem_of_getElem? (i := 1199) (by decide +kernel)⟩
theorem lw_p71 : lw_okq (⟨"DepotChargeModel", "behind", "(II)I"⟩, 27) := ⟨⟨by decide +kernel, by decide +kernel⟩, List.mem_of_getElem? (i := 856) (by decide +kernel), List.mem_of_getElem? (i := 1202) (by decide +kernel), List.mem_of_getElem? (i := 1203) (by decide +kernel)⟩
theorem lw_p72 : lw_okq (⟨"DepotChargeModel", "laysBest", "()V"⟩, 27) := ⟨⟨by decide +kernel, by decide +kernel⟩, List.mem_of_getElem? (i := 856) (by decide +kernel), List.mem_of_getElem? (i := 1206) (by decide +kernel), List.mem_of_getElem? (i := 1207) (by decide +kernel)⟩
theorem lw_p73 : lw_okq (⟨"DepotChargeModel", "stands", "()I"⟩, 27) := ⟨⟨by decide +kernel, by decide +kernel⟩, List.mem_of_getElem? (i := 856) (by decide +kernel), List.mem_of_getElem? (i := 1214) (by decide +kernel), List.mem_of_getElem? (i := 1215) (by decide +kernel)⟩
theorem lw_p74 : lw_okq (⟨"DepotChargeModel", "costNow", "()I"⟩, 27) := ⟨⟨by decide +kernel, by decide +kernel⟩, List.mem_of_getElem? (i := 856) (by decide +kernel), List.mem_of_getElem? (i := 1222) (by decide +kernel), List.mem_of_getElem? (i := 1223) (by decide +kernel)⟩
theorem lw_p75 : lw_okq (⟨"DepotChargeModel", "lays", "(II)V"⟩, 27) := ⟨⟨by decide +kernel, by decide +kernel⟩, List.mem_of_getElem? (i := 856) (by decide +kernel), List.mem_of_getElem? (i := 1234) (by decide +kernel), List.mem_of_getElem? (i := 1235) (by decide +kernel)⟩
theorem lw_p76 : lw_okq (⟨"DepotChargeModel", "rules", "(I)V"⟩, 27) := ⟨⟨by decide +kernel, by decide +kernel⟩, List.mem_of_getElem? (i := 856) (by decide +kernel), List.mem_of_getElem? (i := 1250) (by decide +kernel), List.mem_of_getElem? (i := 1251) (by decide +kernel)⟩
theorem lw_p77 : lw_okq (⟨"DepotChargeModel", "setBy", "(II)I"⟩, 27) := ⟨⟨by decide +kernel, by decide +kernel⟩, List.mem_of_getElem? (i := 856) (by decide +kernel), List.mem_of_getElem? (i := 1254) (by decide +kernel), List.mem_of_getElem? (i := 1255) (by decide +kernel)⟩
theorem lw_p78 : lw_okq (⟨"DepotChargeModel", "rankOf", "(III)I"⟩, 27) := ⟨⟨by decide +kernel, by decide +kernel⟩, List.mem_of_getElem? (i := 856) (by decide +kernel), List.mem_of_getElem? (i := 1258) (by decide +kernel), List.mem_of_getElem? (i := 1259) (by decide +kernel)⟩
def lw_privs_5 : List (MethodName × Nat) := [(⟨"DepotChargeModel", "sumOf", "(I)I"⟩, 27), (⟨"DepotChargeModel", "finds", "()V"⟩, 27), (⟨"DepotChargeModel", "laysFull", "()V"⟩, 27), (⟨"DepotChargeModel", "mayBe", "(II)Z"⟩, 27), (⟨"DepotChargeModel", "laysEnd", "(I)V"⟩, 27), (⟨"DepotChargeModel", "laysSlot", "(II)V"⟩, 27), (⟨"DepotChargeModel", "taken", "(III)I"⟩, 27), (⟨"DepotChargeModel", "behind", "(II)I"⟩, 27), (⟨"DepotChargeModel", "laysBest", "()V"⟩, 27), (⟨"DepotChargeModel", "stands", "()I"⟩, 27), (⟨"DepotChargeModel", "costNow", "()I"⟩, 27), (⟨"DepotChargeModel", "lays", "(II)V"⟩, 27), (⟨"DepotChargeModel", "rules", "(I)V"⟩, 27), (⟨"DepotChargeModel", "setBy", "(II)I"⟩, 27), (⟨"DepotChargeModel", "rankOf", "(III)I"⟩, 27)]
theorem lw_r5 : ∀ q ∈ lw_privs_5, lw_okq q := List.forall_mem_cons.mpr ⟨lw_p64, List.forall_mem_cons.mpr ⟨lw_p65, List.forall_mem_cons.mpr ⟨lw_p66, List.forall_mem_cons.mpr ⟨lw_p67, List.forall_mem_cons.mpr ⟨lw_p68, List.forall_mem_cons.mpr ⟨lw_p69, List.forall_mem_cons.mpr ⟨lw_p70, List.forall_mem_cons.mpr ⟨lw_p71, List.forall_mem_cons.mpr ⟨lw_p72, List.forall_mem_cons.mpr ⟨lw_p73, List.forall_mem_cons.mpr ⟨lw_p74, List.forall_mem_cons.mpr ⟨lw_p75, List.forall_mem_cons.mpr ⟨lw_p76, List.forall_mem_cons.mpr ⟨lw_p77, List.forall_mem_cons.mpr ⟨lw_p78, fun _ h => absurd h List.not_mem_nil⟩⟩⟩⟩⟩⟩⟩⟩⟩⟩⟩⟩⟩⟩⟩
def lw_privs : List (MethodName × Nat) := lw_privs_1 ++ (lw_privs_2 ++ (lw_privs_3 ++ (lw_privs_4 ++ (lw_privs_5))))
def lw_tbl : List Cond := k2_sels lw_privs ++ tables_1
theorem lw_privs_ok : ∀ q ∈ lw_privs, lw_okq q := by
  show ∀ q ∈ lw_privs_1 ++ (lw_privs_2 ++ (lw_privs_3 ++ (lw_privs_4 ++ (lw_privs_5)))), lw_okq q
  exact List.forall_mem_append.mpr ⟨lw_r1, List.forall_mem_append.mpr ⟨lw_r2, List.forall_mem_append.mpr ⟨lw_r3, List.forall_mem_append.mpr ⟨lw_r4, lw_r5⟩⟩⟩⟩
end
section
def RX0 : String := "DepotCharge$Depot"
def TX0 : u_T := fun k => match k with
  | 0 => ("DepotCharge$Depot", "slotCount", "I", false)
  | 1 => ("DepotCharge$Depot", "curveCount", "I", false)
  | 2 => ("DepotCharge$Depot", "busCount", "I", false)
  | 3 => ("DepotCharge$Depot", "settings", "[I", true)
  | 4 => ("DepotCharge$Depot", "prices", "[I", true)
  | 5 => ("DepotCharge$Depot", "sets", "[I", true)
  | 6 => ("DepotCharge$Depot", "pieceCounts", "[I", true)
  | 7 => ("DepotCharge$Depot", "froms", "[I", true)
  | 8 => ("DepotCharge$Depot", "rates", "[I", true)
  | 9 => ("DepotCharge$Depot", "facts", "[I", true)
  | _ => ("DepotCharge$Depot", "offered", "[I", true)
def tyX0 : Nat → FieldType := fun k => match k with
  | 0 => .int
  | 1 => .int
  | 2 => .int
  | 3 => .array .int
  | 4 => .array .int
  | 5 => .array .int
  | 6 => .array .int
  | 7 => .array .int
  | 8 => .array .int
  | 9 => .array .int
  | _ => .array .int
abbrev wsX00 : List Cond := u_ws RX0 TX0 11
theorem nmX0 : ∀ a, a < 11 → ∀ b, b < 11 → a ≠ b → (TX0 a).2.1 ≠ (TX0 b).2.1 := by decide +kernel
theorem tyX0_ok : ∀ k, k < 11 → parseFieldDescriptor (TX0 k).2.2.1 = some (tyX0 k) := by decide +kernel
abbrev cX0_init : ByteArray := prog_2_method_1_code
def yX0_init : MethodName := ⟨RX0, "<init>", "()V"⟩
abbrev cX0_copyFrom : ByteArray := prog_2_method_2_code
def yX0_copyFrom : MethodName := ⟨RX0, "copyFrom", "(LDepotCharge$Depot;)V"⟩
abbrev cX0_beginAnew : ByteArray := prog_2_method_3_code
def yX0_beginAnew : MethodName := ⟨RX0, "beginAnew", "(I)V"⟩
abbrev cX0_hasSlot : ByteArray := prog_2_method_4_code
def yX0_hasSlot : MethodName := ⟨RX0, "hasSlot", "(I)Z"⟩
abbrev cX0_hasBus : ByteArray := prog_2_method_5_code
def yX0_hasBus : MethodName := ⟨RX0, "hasBus", "(I)Z"⟩
abbrev cX0_hasCurve : ByteArray := prog_2_method_6_code
def yX0_hasCurve : MethodName := ⟨RX0, "hasCurve", "(I)Z"⟩
abbrev cX0_hasLevel : ByteArray := prog_2_method_7_code
def yX0_hasLevel : MethodName := ⟨RX0, "hasLevel", "(II)Z"⟩
abbrev cX0_fact : ByteArray := prog_2_method_8_code
def yX0_fact : MethodName := ⟨RX0, "fact", "(II)I"⟩
abbrev cX0_isThere : ByteArray := prog_2_method_9_code
def yX0_isThere : MethodName := ⟨RX0, "isThere", "(II)Z"⟩
abbrev cX0_settingCanBe : ByteArray := prog_2_method_10_code
def yX0_settingCanBe : MethodName := ⟨RX0, "settingCanBe", "(II)Z"⟩
abbrev cX0_changeSetting : ByteArray := prog_2_method_11_code
def yX0_changeSetting : MethodName := ⟨RX0, "changeSetting", "(II)Z"⟩
abbrev cX0_changePrice : ByteArray := prog_2_method_12_code
def yX0_changePrice : MethodName := ⟨RX0, "changePrice", "(II)Z"⟩
abbrev cX0_offer : ByteArray := prog_2_method_13_code
def yX0_offer : MethodName := ⟨RX0, "offer", "(II)Z"⟩
abbrev cX0_leastOffer : ByteArray := prog_2_method_14_code
def yX0_leastOffer : MethodName := ⟨RX0, "leastOffer", "(I)I"⟩
abbrev cX0_mostOffer : ByteArray := prog_2_method_15_code
def yX0_mostOffer : MethodName := ⟨RX0, "mostOffer", "(I)I"⟩
abbrev cX0_addOffered : ByteArray := prog_2_method_16_code
def yX0_addOffered : MethodName := ⟨RX0, "addOffered", "()V"⟩
abbrev cX0_removeLast : ByteArray := prog_2_method_17_code
def yX0_removeLast : MethodName := ⟨RX0, "removeLast", "()V"⟩
abbrev cX0_addPiece : ByteArray := prog_2_method_18_code
def yX0_addPiece : MethodName := ⟨RX0, "addPiece", "(III)V"⟩
abbrev cX0_gain : ByteArray := prog_2_method_19_code
def yX0_gain : MethodName := ⟨RX0, "gain", "(III)I"⟩
abbrev cX0_fewestCharges : ByteArray := prog_2_method_20_code
def yX0_fewestCharges : MethodName := ⟨RX0, "fewestCharges", "(III)I"⟩
abbrev cX0_topRate : ByteArray := prog_2_method_21_code
def yX0_topRate : MethodName := ⟨RX0, "topRate", "()I"⟩
def RX1 : String := "DepotCharge$Ledger"
def TX1 : u_T := fun k => match k with
  | 0 => ("DepotCharge$Ledger", "levels", "[I", true)
  | 1 => ("DepotCharge$Ledger", "usedBySlot", "[I", true)
  | 2 => ("DepotCharge$Ledger", "cost", "I", false)
  | 3 => ("DepotCharge$Ledger", "charges", "I", false)
  | 4 => ("DepotCharge$Ledger", "allLack", "I", false)
  | _ => ("DepotCharge$Ledger", "peak", "I", false)
def tyX1 : Nat → FieldType := fun k => match k with
  | 0 => .array .int
  | 1 => .array .int
  | 2 => .int
  | 3 => .int
  | 4 => .int
  | _ => .int
abbrev wsX10 : List Cond := u_ws RX1 TX1 6
theorem nmX1 : ∀ a, a < 6 → ∀ b, b < 6 → a ≠ b → (TX1 a).2.1 ≠ (TX1 b).2.1 := by decide +kernel
theorem tyX1_ok : ∀ k, k < 6 → parseFieldDescriptor (TX1 k).2.2.1 = some (tyX1 k) := by decide +kernel
abbrev cX1_init : ByteArray := prog_3_method_1_code
def yX1_init : MethodName := ⟨RX1, "<init>", "()V"⟩
abbrev cX1_weigh : ByteArray := prog_3_method_2_code
def yX1_weigh : MethodName := ⟨RX1, "weigh", "(LDepotCharge$Depot;[I)V"⟩
abbrev cX1_chargeSlot : ByteArray := prog_3_method_3_code
def yX1_chargeSlot : MethodName := ⟨RX1, "chargeSlot", "(LDepotCharge$Depot;II)I"⟩
abbrev cX1_levelAt : ByteArray := prog_3_method_4_code
def yX1_levelAt : MethodName := ⟨RX1, "levelAt", "(II)I"⟩
abbrev cX1_lackOf : ByteArray := prog_3_method_5_code
def yX1_lackOf : MethodName := ⟨RX1, "lackOf", "(LDepotCharge$Depot;I)I"⟩
abbrev cX1_figure : ByteArray := prog_3_method_6_code
def yX1_figure : MethodName := ⟨RX1, "figure", "(I)I"⟩
abbrev cX1_wrongness : ByteArray := prog_3_method_7_code
def yX1_wrongness : MethodName := ⟨RX1, "wrongness", "(LDepotCharge$Depot;[I)I"⟩
abbrev cX1_slotIsWrong : ByteArray := prog_3_method_8_code
def yX1_slotIsWrong : MethodName := ⟨RX1, "slotIsWrong", "(LDepotCharge$Depot;III)Z"⟩
abbrev cX1_holdsAbsent : ByteArray := prog_3_method_9_code
def yX1_holdsAbsent : MethodName := ⟨RX1, "holdsAbsent", "(LDepotCharge$Depot;II)Z"⟩
def RX2 : String := "DepotCharge$Planner"
def TX2 : u_T := fun k => match k with
  | 0 => ("DepotCharge$Planner", "settings", "[I", true)
  | 1 => ("DepotCharge$Planner", "comes", "[I", true)
  | 2 => ("DepotCharge$Planner", "wanted", "I", false)
  | 3 => ("DepotCharge$Planner", "depot", "LDepotCharge$Depot;", false)
  | 4 => ("DepotCharge$Planner", "stay", "[I", true)
  | 5 => ("DepotCharge$Planner", "most", "[I", true)
  | 6 => ("DepotCharge$Planner", "gains", "[I", true)
  | 7 => ("DepotCharge$Planner", "lacks", "[I", true)
  | 8 => ("DepotCharge$Planner", "shift", "[I", true)
  | 9 => ("DepotCharge$Planner", "worth", "[J", true)
  | 10 => ("DepotCharge$Planner", "choices", "[I", true)
  | 11 => ("DepotCharge$Planner", "at", "[I", true)
  | 12 => ("DepotCharge$Planner", "low", "[I", true)
  | 13 => ("DepotCharge$Planner", "high", "[I", true)
  | 14 => ("DepotCharge$Planner", "due", "[I", true)
  | 15 => ("DepotCharge$Planner", "state", "I", false)
  | 16 => ("DepotCharge$Planner", "charged", "I", false)
  | 17 => ("DepotCharge$Planner", "there", "I", false)
  | _ => ("DepotCharge$Planner", "usedBySet", "[I", true)
def tyX2 : Nat → FieldType := fun k => match k with
  | 0 => .array .int
  | 1 => .array .int
  | 2 => .int
  | 3 => .object "DepotCharge$Depot"
  | 4 => .array .int
  | 5 => .array .int
  | 6 => .array .int
  | 7 => .array .int
  | 8 => .array .int
  | 9 => .array .long
  | 10 => .array .int
  | 11 => .array .int
  | 12 => .array .int
  | 13 => .array .int
  | 14 => .array .int
  | 15 => .int
  | 16 => .int
  | 17 => .int
  | _ => .array .int
abbrev wsX20 : List Cond := u_ws RX2 TX2 19
theorem nmX2 : ∀ a, a < 19 → ∀ b, b < 19 → a ≠ b → (TX2 a).2.1 ≠ (TX2 b).2.1 := by decide +kernel
theorem tyX2_ok : ∀ k, k < 19 → parseFieldDescriptor (TX2 k).2.2.1 = some (tyX2 k) := by decide +kernel
abbrev cX2_init : ByteArray := prog_4_method_1_code
def yX2_init : MethodName := ⟨RX2, "<init>", "(LDepotCharge$Depot;)V"⟩
abbrev cX2_lookAt : ByteArray := prog_4_method_2_code
def yX2_lookAt : MethodName := ⟨RX2, "lookAt", "(LDepotCharge$Depot;)V"⟩
abbrev cX2_costIfReady : ByteArray := prog_4_method_3_code
def yX2_costIfReady : MethodName := ⟨RX2, "costIfReady", "()I"⟩
abbrev cX2_findPlan : ByteArray := prog_4_method_4_code
def yX2_findPlan : MethodName := ⟨RX2, "findPlan", "([I)V"⟩
abbrev cX2_traceAll : ByteArray := prog_4_method_5_code
def yX2_traceAll : MethodName := ⟨RX2, "traceAll", "()V"⟩
abbrev cX2_trace : ByteArray := prog_4_method_6_code
def yX2_trace : MethodName := ⟨RX2, "trace", "(I)V"⟩
abbrev cX2_mayBeReady : ByteArray := prog_4_method_7_code
def yX2_mayBeReady : MethodName := ⟨RX2, "mayBeReady", "()Z"⟩
abbrev cX2_weighStates : ByteArray := prog_4_method_8_code
def yX2_weighStates : MethodName := ⟨RX2, "weighStates", "(Z)Z"⟩
abbrev cX2_spread : ByteArray := prog_4_method_9_code
def yX2_spread : MethodName := ⟨RX2, "spread", "(IZ)I"⟩
abbrev cX2_nextState : ByteArray := prog_4_method_10_code
def yX2_nextState : MethodName := ⟨RX2, "nextState", "()V"⟩
abbrev cX2_lackHere : ByteArray := prog_4_method_11_code
def yX2_lackHere : MethodName := ⟨RX2, "lackHere", "()I"⟩
abbrev cX2_settle : ByteArray := prog_4_method_12_code
def yX2_settle : MethodName := ⟨RX2, "settle", "(I)V"⟩
def RX3 : String := "DepotCharge$Reader"
def TX3 : u_T := fun k => match k with
  | 0 => ("DepotCharge$Reader", "tape", "LDepotCharge$Tape;", true)
  | _ => ("DepotCharge$Reader", "fault", "I", false)
def tyX3 : Nat → FieldType := fun k => match k with
  | 0 => .object "DepotCharge$Tape"
  | _ => .int
abbrev wsX30 : List Cond := u_ws RX3 TX3 2
theorem nmX3 : ∀ a, a < 2 → ∀ b, b < 2 → a ≠ b → (TX3 a).2.1 ≠ (TX3 b).2.1 := by decide +kernel
theorem tyX3_ok : ∀ k, k < 2 → parseFieldDescriptor (TX3 k).2.2.1 = some (tyX3 k) := by decide +kernel
abbrev cX3_init : ByteArray := prog_5_method_1_code
def yX3_init : MethodName := ⟨RX3, "<init>", "(LDepotCharge$Tape;)V"⟩
abbrev cX3_readInto : ByteArray := prog_5_method_2_code
def yX3_readInto : MethodName := ⟨RX3, "readInto", "(LDepotCharge$Depot;)I"⟩
abbrev cX3_blame : ByteArray := prog_5_method_3_code
def yX3_blame : MethodName := ⟨RX3, "blame", "(I)V"⟩
abbrev cX3_readStatement : ByteArray := prog_5_method_4_code
def yX3_readStatement : MethodName := ⟨RX3, "readStatement", "(LDepotCharge$Depot;)V"⟩
abbrev cX3_readSemicolon : ByteArray := prog_5_method_5_code
def yX3_readSemicolon : MethodName := ⟨RX3, "readSemicolon", "()V"⟩
abbrev cX3_numberIsWithin : ByteArray := prog_5_method_6_code
def yX3_numberIsWithin : MethodName := ⟨RX3, "numberIsWithin", "(II)Z"⟩
abbrev cX3_readNumber : ByteArray := prog_5_method_7_code
def yX3_readNumber : MethodName := ⟨RX3, "readNumber", "(II)I"⟩
abbrev cX3_readSlots : ByteArray := prog_5_method_8_code
def yX3_readSlots : MethodName := ⟨RX3, "readSlots", "(LDepotCharge$Depot;)V"⟩
abbrev cX3_readPrice : ByteArray := prog_5_method_9_code
def yX3_readPrice : MethodName := ⟨RX3, "readPrice", "(LDepotCharge$Depot;)V"⟩
abbrev cX3_readSetting : ByteArray := prog_5_method_10_code
def yX3_readSetting : MethodName := ⟨RX3, "readSetting", "(LDepotCharge$Depot;I)V"⟩
abbrev cX3_readCurve : ByteArray := prog_5_method_11_code
def yX3_readCurve : MethodName := ⟨RX3, "readCurve", "(LDepotCharge$Depot;)V"⟩
abbrev cX3_readBus : ByteArray := prog_5_method_12_code
def yX3_readBus : MethodName := ⟨RX3, "readBus", "(LDepotCharge$Depot;)V"⟩
abbrev cX3_readCharge : ByteArray := prog_5_method_13_code
def yX3_readCharge : MethodName := ⟨RX3, "readCharge", "(LDepotCharge$Depot;)V"⟩
def RX4 : String := "DepotCharge$Ruler"
def TX4 : u_T := fun k => match k with
  | 0 => ("DepotCharge$Ruler", "sets", "[I", true)
  | 1 => ("DepotCharge$Ruler", "levels", "[I", true)
  | _ => ("DepotCharge$Ruler", "ranks", "[I", true)
def tyX4 : Nat → FieldType := fun k => match k with
  | 0 => .array .int
  | 1 => .array .int
  | _ => .array .int
abbrev wsX40 : List Cond := u_ws RX4 TX4 3
theorem nmX4 : ∀ a, a < 3 → ∀ b, b < 3 → a ≠ b → (TX4 a).2.1 ≠ (TX4 b).2.1 := by decide +kernel
theorem tyX4_ok : ∀ k, k < 3 → parseFieldDescriptor (TX4 k).2.2.1 = some (tyX4 k) := by decide +kernel
abbrev cX4_init : ByteArray := prog_6_method_1_code
def yX4_init : MethodName := ⟨RX4, "<init>", "()V"⟩
abbrev cX4_make : ByteArray := prog_6_method_2_code
def yX4_make : MethodName := ⟨RX4, "make", "(LDepotCharge$Depot;I)V"⟩
abbrev cX4_chargeSlot : ByteArray := prog_6_method_3_code
def yX4_chargeSlot : MethodName := ⟨RX4, "chargeSlot", "(LDepotCharge$Depot;II)I"⟩
abbrev cX4_rankOf : ByteArray := prog_6_method_4_code
def yX4_rankOf : MethodName := ⟨RX4, "rankOf", "(LDepotCharge$Depot;III)I"⟩
abbrev cX4_firstOf : ByteArray := prog_6_method_5_code
def yX4_firstOf : MethodName := ⟨RX4, "firstOf", "(I)I"⟩
def RX5 : String := "DepotCharge$Tape"
def TX5 : u_T := fun k => match k with
  | 0 => ("DepotCharge$Tape", "bytes", "[B", true)
  | 1 => ("DepotCharge$Tape", "length", "I", false)
  | 2 => ("DepotCharge$Tape", "kind", "I", false)
  | 3 => ("DepotCharge$Tape", "place", "I", false)
  | 4 => ("DepotCharge$Tape", "number", "I", false)
  | _ => ("DepotCharge$Tape", "behind", "I", false)
def tyX5 : Nat → FieldType := fun k => match k with
  | 0 => .array .byte
  | 1 => .int
  | 2 => .int
  | 3 => .int
  | 4 => .int
  | _ => .int
abbrev wsX50 : List Cond := u_ws RX5 TX5 6
theorem nmX5 : ∀ a, a < 6 → ∀ b, b < 6 → a ≠ b → (TX5 a).2.1 ≠ (TX5 b).2.1 := by decide +kernel
theorem tyX5_ok : ∀ k, k < 6 → parseFieldDescriptor (TX5 k).2.2.1 = some (tyX5 k) := by decide +kernel
abbrev cX5_init : ByteArray := prog_7_method_1_code
def yX5_init : MethodName := ⟨RX5, "<init>", "()V"⟩
abbrev cX5_append : ByteArray := prog_7_method_2_code
def yX5_append : MethodName := ⟨RX5, "append", "(I)V"⟩
abbrev cX5_rewind : ByteArray := prog_7_method_3_code
def yX5_rewind : MethodName := ⟨RX5, "rewind", "()V"⟩
abbrev cX5_step : ByteArray := prog_7_method_4_code
def yX5_step : MethodName := ⟨RX5, "step", "()V"⟩
abbrev cX5_isDigit : ByteArray := prog_7_method_5_code
def yX5_isDigit : MethodName := ⟨RX5, "isDigit", "(I)Z"⟩
abbrev cX5_isLetter : ByteArray := prog_7_method_6_code
def yX5_isLetter : MethodName := ⟨RX5, "isLetter", "(I)Z"⟩
abbrev cX5_readNumber : ByteArray := prog_7_method_7_code
def yX5_readNumber : MethodName := ⟨RX5, "readNumber", "()V"⟩
abbrev cX5_readWord : ByteArray := prog_7_method_8_code
def yX5_readWord : MethodName := ⟨RX5, "readWord", "()V"⟩
abbrev cX5_isWord : ByteArray := prog_7_method_9_code
def yX5_isWord : MethodName := ⟨RX5, "isWord", "(Ljava/lang/String;)Z"⟩
abbrev cX5_isSemicolon : ByteArray := prog_7_method_10_code
def yX5_isSemicolon : MethodName := ⟨RX5, "isSemicolon", "()Z"⟩
def RX6 : String := "DepotCharge"
def TX6 : u_T := fun k => match k with
  | 0 => ("DepotCharge", "now", "LDepotCharge$Depot;", false)
  | 1 => ("DepotCharge", "draft", "LDepotCharge$Depot;", false)
  | 2 => ("DepotCharge", "tape", "LDepotCharge$Tape;", true)
  | 3 => ("DepotCharge", "reader", "LDepotCharge$Reader;", true)
  | 4 => ("DepotCharge", "ledger", "LDepotCharge$Ledger;", true)
  | 5 => ("DepotCharge", "planner", "LDepotCharge$Planner;", true)
  | 6 => ("DepotCharge", "ruler", "LDepotCharge$Ruler;", true)
  | 7 => ("DepotCharge", "bestSets", "[I", true)
  | _ => ("DepotCharge", "bestIsKnown", "Z", false)
def tyX6 : Nat → FieldType := fun k => match k with
  | 0 => .object "DepotCharge$Depot"
  | 1 => .object "DepotCharge$Depot"
  | 2 => .object "DepotCharge$Tape"
  | 3 => .object "DepotCharge$Reader"
  | 4 => .object "DepotCharge$Ledger"
  | 5 => .object "DepotCharge$Planner"
  | 6 => .object "DepotCharge$Ruler"
  | 7 => .array .int
  | _ => .boolean
abbrev wsX60 : List Cond := u_ws RX6 TX6 9
theorem nmX6 : ∀ a, a < 9 → ∀ b, b < 9 → a ≠ b → (TX6 a).2.1 ≠ (TX6 b).2.1 := by decide +kernel
theorem tyX6_ok : ∀ k, k < 9 → parseFieldDescriptor (TX6 k).2.2.1 = some (tyX6 k) := by decide +kernel
abbrev cX6_init : ByteArray := prog_1_method_1_code
def yX6_init : MethodName := ⟨RX6, "<init>", "()V"⟩
abbrev cX6_feed : ByteArray := prog_1_method_2_code
def yX6_feed : MethodName := ⟨RX6, "feed", "(IIIII)I"⟩
abbrev cX6_end : ByteArray := prog_1_method_3_code
def yX6_end : MethodName := ⟨RX6, "end", "(I)Z"⟩
abbrev cX6_tell : ByteArray := prog_1_method_4_code
def yX6_tell : MethodName := ⟨RX6, "tell", "()I"⟩
abbrev cX6_fault : ByteArray := prog_1_method_5_code
def yX6_fault : MethodName := ⟨RX6, "fault", "()I"⟩
abbrev cX6_set : ByteArray := prog_1_method_6_code
def yX6_set : MethodName := ⟨RX6, "set", "(II)Z"⟩
abbrev cX6_bus : ByteArray := prog_1_method_7_code
def yX6_bus : MethodName := ⟨RX6, "bus", "(IIIIII)I"⟩
abbrev cX6_drop : ByteArray := prog_1_method_8_code
def yX6_drop : MethodName := ⟨RX6, "drop", "()I"⟩
abbrev cX6_charge : ByteArray := prog_1_method_9_code
def yX6_charge : MethodName := ⟨RX6, "charge", "(IIZ)Z"⟩
abbrev cX6_clear : ByteArray := prog_1_method_10_code
def yX6_clear : MethodName := ⟨RX6, "clear", "()I"⟩
abbrev cX6_count : ByteArray := prog_1_method_11_code
def yX6_count : MethodName := ⟨RX6, "count", "(I)I"⟩
abbrev cX6_told : ByteArray := prog_1_method_12_code
def yX6_told : MethodName := ⟨RX6, "told", "(II)I"⟩
abbrev cX6_curve : ByteArray := prog_1_method_13_code
def yX6_curve : MethodName := ⟨RX6, "curve", "(III)I"⟩
abbrev cX6_takes : ByteArray := prog_1_method_14_code
def yX6_takes : MethodName := ⟨RX6, "takes", "(II)I"⟩
abbrev cX6_slots : ByteArray := prog_1_method_15_code
def yX6_slots : MethodName := ⟨RX6, "slots", "(III)I"⟩
abbrev cX6_plan : ByteArray := prog_1_method_16_code
def yX6_plan : MethodName := ⟨RX6, "plan", "(I)I"⟩
abbrev cX6_level : ByteArray := prog_1_method_17_code
def yX6_level : MethodName := ⟨RX6, "level", "(II)I"⟩
abbrev cX6_used : ByteArray := prog_1_method_18_code
def yX6_used : MethodName := ⟨RX6, "used", "(I)I"⟩
abbrev cX6_sum : ByteArray := prog_1_method_19_code
def yX6_sum : MethodName := ⟨RX6, "sum", "(I)I"⟩
abbrev cX6_lack : ByteArray := prog_1_method_20_code
def yX6_lack : MethodName := ⟨RX6, "lack", "(I)I"⟩
abbrev cX6_best : ByteArray := prog_1_method_21_code
def yX6_best : MethodName := ⟨RX6, "best", "(I)I"⟩
abbrev cX6_take : ByteArray := prog_1_method_22_code
def yX6_take : MethodName := ⟨RX6, "take", "()I"⟩
abbrev cX6_late : ByteArray := prog_1_method_23_code
def yX6_late : MethodName := ⟨RX6, "late", "(II)I"⟩
abbrev cX6_latest : ByteArray := prog_1_method_24_code
def yX6_latest : MethodName := ⟨RX6, "latest", "(I)I"⟩
abbrev cX6_were : ByteArray := prog_1_method_25_code
def yX6_were : MethodName := ⟨RX6, "were", "(II)I"⟩
abbrev cX6_least : ByteArray := prog_1_method_26_code
def yX6_least : MethodName := ⟨RX6, "least", "(I)I"⟩
abbrev cX6_without : ByteArray := prog_1_method_27_code
def yX6_without : MethodName := ⟨RX6, "without", "(I)I"⟩
abbrev cX6_rule : ByteArray := prog_1_method_28_code
def yX6_rule : MethodName := ⟨RX6, "rule", "(II)I"⟩
abbrev cX6_takeRule : ByteArray := prog_1_method_29_code
def yX6_takeRule : MethodName := ⟨RX6, "takeRule", "(I)I"⟩
abbrev cX6_bestRule : ByteArray := prog_1_method_30_code
def yX6_bestRule : MethodName := ⟨RX6, "bestRule", "()I"⟩
abbrev cX6_isRule : ByteArray := prog_1_method_31_code
def yX6_isRule : MethodName := ⟨RX6, "isRule", "(I)Z"⟩
abbrev cX6_findBest : ByteArray := prog_1_method_32_code
def yX6_findBest : MethodName := ⟨RX6, "findBest", "()V"⟩
abbrev cX6_adopt : ByteArray := prog_1_method_33_code
def yX6_adopt : MethodName := ⟨RX6, "adopt", "([I)I"⟩
abbrev cX6_costIfLate : ByteArray := prog_1_method_34_code
def yX6_costIfLate : MethodName := ⟨RX6, "costIfLate", "(II)I"⟩
abbrev cX6_costIfSet : ByteArray := prog_1_method_35_code
def yX6_costIfSet : MethodName := ⟨RX6, "costIfSet", "(II)I"⟩
abbrev cX6_firstReady : ByteArray := prog_1_method_36_code
def yX6_firstReady : MethodName := ⟨RX6, "firstReady", "(II)I"⟩
abbrev cX6_leastLimit : ByteArray := prog_1_method_37_code
def yX6_leastLimit : MethodName := ⟨RX6, "leastLimit", "()I"⟩
def RX7 : String := "DepotChargeModel"
def TX7 : u_T := fun k => match k with
  | 0 => ("DepotChargeModel", "raised", "I", false)
  | 1 => ("DepotChargeModel", "told", "[I", true)
  | 2 => ("DepotChargeModel", "draft", "[I", true)
  | 3 => ("DepotChargeModel", "tape", "[I", true)
  | 4 => ("DepotChargeModel", "taped", "I", false)
  | 5 => ("DepotChargeModel", "fault", "I", false)
  | 6 => ("DepotChargeModel", "at", "I", false)
  | 7 => ("DepotChargeModel", "wrong", "I", false)
  | 8 => ("DepotChargeModel", "value", "I", false)
  | 9 => ("DepotChargeModel", "place", "I", false)
  | 10 => ("DepotChargeModel", "statements", "I", false)
  | 11 => ("DepotChargeModel", "plugs", "I", false)
  | 12 => ("DepotChargeModel", "power", "I", false)
  | 13 => ("DepotChargeModel", "limit", "I", false)
  | 14 => ("DepotChargeModel", "comes", "[I", true)
  | 15 => ("DepotChargeModel", "some", "I", false)
  | 16 => ("DepotChargeModel", "plan", "[I", true)
  | 17 => ("DepotChargeModel", "level", "[I", true)
  | 18 => ("DepotChargeModel", "used", "[I", true)
  | 19 => ("DepotChargeModel", "lacks", "[I", true)
  | 20 => ("DepotChargeModel", "costs", "[I", true)
  | 21 => ("DepotChargeModel", "charges", "[I", true)
  | 22 => ("DepotChargeModel", "sets", "[I", true)
  | 23 => ("DepotChargeModel", "full", "[I", true)
  | 24 => ("DepotChargeModel", "step", "[I", true)
  | 25 => ("DepotChargeModel", "row", "[I", true)
  | _ => ("DepotChargeModel", "rank", "[I", true)
def tyX7 : Nat → FieldType := fun k => match k with
  | 0 => .int
  | 1 => .array .int
  | 2 => .array .int
  | 3 => .array .int
  | 4 => .int
  | 5 => .int
  | 6 => .int
  | 7 => .int
  | 8 => .int
  | 9 => .int
  | 10 => .int
  | 11 => .int
  | 12 => .int
  | 13 => .int
  | 14 => .array .int
  | 15 => .int
  | 16 => .array .int
  | 17 => .array .int
  | 18 => .array .int
  | 19 => .array .int
  | 20 => .array .int
  | 21 => .array .int
  | 22 => .array .int
  | 23 => .array .int
  | 24 => .array .int
  | 25 => .array .int
  | _ => .array .int
abbrev wsX70 : List Cond := u_ws RX7 TX7 27
theorem nmX7 : ∀ a, a < 27 → ∀ b, b < 27 → a ≠ b → (TX7 a).2.1 ≠ (TX7 b).2.1 := by decide +kernel
theorem tyX7_ok : ∀ k, k < 27 → parseFieldDescriptor (TX7 k).2.2.1 = some (tyX7 k) := by decide +kernel
abbrev cX7_init : ByteArray := prog_9_method_1_code
def yX7_init : MethodName := ⟨RX7, "<init>", "()V"⟩
abbrev cX7_thrown : ByteArray := prog_9_method_2_code
def yX7_thrown : MethodName := ⟨RX7, "thrown", "()I"⟩
abbrev cX7_in : ByteArray := prog_9_method_3_code
def yX7_in : MethodName := ⟨RX7, "in", "(III)Z"⟩
abbrev cX7_has : ByteArray := prog_9_method_4_code
def yX7_has : MethodName := ⟨RX7, "has", "(II)Z"⟩
abbrev cX7_bits : ByteArray := prog_9_method_5_code
def yX7_bits : MethodName := ⟨RX7, "bits", "(I)I"⟩
abbrev cX7_of : ByteArray := prog_9_method_6_code
def yX7_of : MethodName := ⟨RX7, "of", "(II)I"⟩
abbrev cX7_isBus : ByteArray := prog_9_method_7_code
def yX7_isBus : MethodName := ⟨RX7, "isBus", "(I)Z"⟩
abbrev cX7_isSlot : ByteArray := prog_9_method_8_code
def yX7_isSlot : MethodName := ⟨RX7, "isSlot", "(I)Z"⟩
abbrev cX7_four : ByteArray := prog_9_method_9_code
def yX7_four : MethodName := ⟨RX7, "four", "(I)V"⟩
abbrev cX7_feed : ByteArray := prog_9_method_10_code
def yX7_feed : MethodName := ⟨RX7, "feed", "(IIIII)I"⟩
abbrev cX7_end : ByteArray := prog_9_method_11_code
def yX7_end : MethodName := ⟨RX7, "end", "(I)Z"⟩
abbrev cX7_here : ByteArray := prog_9_method_12_code
def yX7_here : MethodName := ⟨RX7, "here", "()I"⟩
abbrev cX7_fails : ByteArray := prog_9_method_13_code
def yX7_fails : MethodName := ⟨RX7, "fails", "(II)Z"⟩
abbrev cX7_isNumber : ByteArray := prog_9_method_14_code
def yX7_isNumber : MethodName := ⟨RX7, "isNumber", "()Z"⟩
abbrev cX7_readPlain : ByteArray := prog_9_method_15_code
def yX7_readPlain : MethodName := ⟨RX7, "readPlain", "()Z"⟩
abbrev cX7_readNumber : ByteArray := prog_9_method_16_code
def yX7_readNumber : MethodName := ⟨RX7, "readNumber", "(II)Z"⟩
abbrev cX7_reads : ByteArray := prog_9_method_17_code
def yX7_reads : MethodName := ⟨RX7, "reads", "(III)Z"⟩
abbrev cX7_readWord : ByteArray := prog_9_method_18_code
def yX7_readWord : MethodName := ⟨RX7, "readWord", "()J"⟩
abbrev cX7_readSlots : ByteArray := prog_9_method_19_code
def yX7_readSlots : MethodName := ⟨RX7, "readSlots", "()Z"⟩
abbrev cX7_readPrice : ByteArray := prog_9_method_20_code
def yX7_readPrice : MethodName := ⟨RX7, "readPrice", "()Z"⟩
abbrev cX7_readCurve : ByteArray := prog_9_method_21_code
def yX7_readCurve : MethodName := ⟨RX7, "readCurve", "(I)Z"⟩
abbrev cX7_readBus : ByteArray := prog_9_method_22_code
def yX7_readBus : MethodName := ⟨RX7, "readBus", "(I)Z"⟩
abbrev cX7_readCharge : ByteArray := prog_9_method_23_code
def yX7_readCharge : MethodName := ⟨RX7, "readCharge", "()Z"⟩
abbrev cX7_readStatement : ByteArray := prog_9_method_24_code
def yX7_readStatement : MethodName := ⟨RX7, "readStatement", "()Z"⟩
abbrev cX7_readText : ByteArray := prog_9_method_25_code
def yX7_readText : MethodName := ⟨RX7, "readText", "()Z"⟩
abbrev cX7_copies : ByteArray := prog_9_method_26_code
def yX7_copies : MethodName := ⟨RX7, "copies", "(Z)V"⟩
abbrev cX7_tell : ByteArray := prog_9_method_27_code
def yX7_tell : MethodName := ⟨RX7, "tell", "()I"⟩
abbrev cX7_fault : ByteArray := prog_9_method_28_code
def yX7_fault : MethodName := ⟨RX7, "fault", "()I"⟩
abbrev cX7_mostOf : ByteArray := prog_9_method_29_code
def yX7_mostOf : MethodName := ⟨RX7, "mostOf", "(I)I"⟩
abbrev cX7_set : ByteArray := prog_9_method_30_code
def yX7_set : MethodName := ⟨RX7, "set", "(II)Z"⟩
abbrev cX7_bus : ByteArray := prog_9_method_31_code
def yX7_bus : MethodName := ⟨RX7, "bus", "(IIIIII)I"⟩
abbrev cX7_drop : ByteArray := prog_9_method_32_code
def yX7_drop : MethodName := ⟨RX7, "drop", "()I"⟩
abbrev cX7_charge : ByteArray := prog_9_method_33_code
def yX7_charge : MethodName := ⟨RX7, "charge", "(IIZ)Z"⟩
abbrev cX7_chargesOf : ByteArray := prog_9_method_34_code
def yX7_chargesOf : MethodName := ⟨RX7, "chargesOf", "()I"⟩
abbrev cX7_clear : ByteArray := prog_9_method_35_code
def yX7_clear : MethodName := ⟨RX7, "clear", "()I"⟩
abbrev cX7_count : ByteArray := prog_9_method_36_code
def yX7_count : MethodName := ⟨RX7, "count", "(I)I"⟩
abbrev cX7_told : ByteArray := prog_9_method_37_code
def yX7_told : MethodName := ⟨RX7, "told", "(II)I"⟩
abbrev cX7_curve : ByteArray := prog_9_method_38_code
def yX7_curve : MethodName := ⟨RX7, "curve", "(III)I"⟩
abbrev cX7_less : ByteArray := prog_9_method_39_code
def yX7_less : MethodName := ⟨RX7, "less", "(II)I"⟩
abbrev cX7_takesOf : ByteArray := prog_9_method_40_code
def yX7_takesOf : MethodName := ⟨RX7, "takesOf", "(II)I"⟩
abbrev cX7_slotsOf : ByteArray := prog_9_method_41_code
def yX7_slotsOf : MethodName := ⟨RX7, "slotsOf", "(III)I"⟩
abbrev cX7_takes : ByteArray := prog_9_method_42_code
def yX7_takes : MethodName := ⟨RX7, "takes", "(II)I"⟩
abbrev cX7_slots : ByteArray := prog_9_method_43_code
def yX7_slots : MethodName := ⟨RX7, "slots", "(III)I"⟩
abbrev cX7_asTold : ByteArray := prog_9_method_44_code
def yX7_asTold : MethodName := ⟨RX7, "asTold", "()V"⟩
abbrev cX7_isThere : ByteArray := prog_9_method_45_code
def yX7_isThere : MethodName := ⟨RX7, "isThere", "(II)Z"⟩
abbrev cX7_goes : ByteArray := prog_9_method_46_code
def yX7_goes : MethodName := ⟨RX7, "goes", "()V"⟩
abbrev cX7_goesByTold : ByteArray := prog_9_method_47_code
def yX7_goesByTold : MethodName := ⟨RX7, "goesByTold", "()V"⟩
abbrev cX7_lackOf : ByteArray := prog_9_method_48_code
def yX7_lackOf : MethodName := ⟨RX7, "lackOf", "(I)I"⟩
abbrev cX7_sumOf : ByteArray := prog_9_method_49_code
def yX7_sumOf : MethodName := ⟨RX7, "sumOf", "(I)I"⟩
abbrev cX7_isAllThere : ByteArray := prog_9_method_50_code
def yX7_isAllThere : MethodName := ⟨RX7, "isAllThere", "(I)Z"⟩
abbrev cX7_wrongOf : ByteArray := prog_9_method_51_code
def yX7_wrongOf : MethodName := ⟨RX7, "wrongOf", "()I"⟩
abbrev cX7_plan : ByteArray := prog_9_method_52_code
def yX7_plan : MethodName := ⟨RX7, "plan", "(I)I"⟩
abbrev cX7_level : ByteArray := prog_9_method_53_code
def yX7_level : MethodName := ⟨RX7, "level", "(II)I"⟩
abbrev cX7_used : ByteArray := prog_9_method_54_code
def yX7_used : MethodName := ⟨RX7, "used", "(I)I"⟩
abbrev cX7_sum : ByteArray := prog_9_method_55_code
def yX7_sum : MethodName := ⟨RX7, "sum", "(I)I"⟩
abbrev cX7_lack : ByteArray := prog_9_method_56_code
def yX7_lack : MethodName := ⟨RX7, "lack", "(I)I"⟩
abbrev cX7_countOf : ByteArray := prog_9_method_57_code
def yX7_countOf : MethodName := ⟨RX7, "countOf", "(II)I"⟩
abbrev cX7_laysFull : ByteArray := prog_9_method_58_code
def yX7_laysFull : MethodName := ⟨RX7, "laysFull", "()V"⟩
abbrev cX7_mayBe : ByteArray := prog_9_method_59_code
def yX7_mayBe : MethodName := ⟨RX7, "mayBe", "(II)Z"⟩
abbrev cX7_laysEnd : ByteArray := prog_9_method_60_code
def yX7_laysEnd : MethodName := ⟨RX7, "laysEnd", "(I)V"⟩
abbrev cX7_taken : ByteArray := prog_9_method_61_code
def yX7_taken : MethodName := ⟨RX7, "taken", "(III)I"⟩
abbrev cX7_behind : ByteArray := prog_9_method_62_code
def yX7_behind : MethodName := ⟨RX7, "behind", "(II)I"⟩
abbrev cX7_laysSlot : ByteArray := prog_9_method_63_code
def yX7_laysSlot : MethodName := ⟨RX7, "laysSlot", "(II)V"⟩
abbrev cX7_finds : ByteArray := prog_9_method_64_code
def yX7_finds : MethodName := ⟨RX7, "finds", "()V"⟩
abbrev cX7_laysBest : ByteArray := prog_9_method_65_code
def yX7_laysBest : MethodName := ⟨RX7, "laysBest", "()V"⟩
abbrev cX7_costNow : ByteArray := prog_9_method_66_code
def yX7_costNow : MethodName := ⟨RX7, "costNow", "()I"⟩
abbrev cX7_best : ByteArray := prog_9_method_67_code
def yX7_best : MethodName := ⟨RX7, "best", "(I)I"⟩
abbrev cX7_stands : ByteArray := prog_9_method_68_code
def yX7_stands : MethodName := ⟨RX7, "stands", "()I"⟩
abbrev cX7_take : ByteArray := prog_9_method_69_code
def yX7_take : MethodName := ⟨RX7, "take", "()I"⟩
abbrev cX7_late : ByteArray := prog_9_method_70_code
def yX7_late : MethodName := ⟨RX7, "late", "(II)I"⟩
abbrev cX7_latest : ByteArray := prog_9_method_71_code
def yX7_latest : MethodName := ⟨RX7, "latest", "(I)I"⟩
abbrev cX7_lays : ByteArray := prog_9_method_72_code
def yX7_lays : MethodName := ⟨RX7, "lays", "(II)V"⟩
abbrev cX7_were : ByteArray := prog_9_method_73_code
def yX7_were : MethodName := ⟨RX7, "were", "(II)I"⟩
abbrev cX7_least : ByteArray := prog_9_method_74_code
def yX7_least : MethodName := ⟨RX7, "least", "(I)I"⟩
abbrev cX7_without : ByteArray := prog_9_method_75_code
def yX7_without : MethodName := ⟨RX7, "without", "(I)I"⟩
abbrev cX7_rankOf : ByteArray := prog_9_method_76_code
def yX7_rankOf : MethodName := ⟨RX7, "rankOf", "(III)I"⟩
abbrev cX7_setBy : ByteArray := prog_9_method_77_code
def yX7_setBy : MethodName := ⟨RX7, "setBy", "(II)I"⟩
abbrev cX7_rules : ByteArray := prog_9_method_78_code
def yX7_rules : MethodName := ⟨RX7, "rules", "(I)V"⟩
abbrev cX7_rule : ByteArray := prog_9_method_79_code
def yX7_rule : MethodName := ⟨RX7, "rule", "(II)I"⟩
abbrev cX7_takeRule : ByteArray := prog_9_method_80_code
def yX7_takeRule : MethodName := ⟨RX7, "takeRule", "(I)I"⟩
abbrev cX7_bestRule : ByteArray := prog_9_method_81_code
def yX7_bestRule : MethodName := ⟨RX7, "bestRule", "()I"⟩
def RJx145de : String := "java/io/Serializable"
def TJx145de : u_T := fun k => match k with
  | _ => ("", "", "", false)
def tyJx145de : Nat → FieldType := fun k => match k with
  | _ => .int
abbrev wsJx145de0 : List Cond := u_ws RJx145de TJx145de 0
theorem nmJx145de : ∀ a, a < 0 → ∀ b, b < 0 → a ≠ b → (TJx145de a).2.1 ≠ (TJx145de b).2.1 := by decide +kernel
theorem tyJx145de_ok : ∀ k, k < 0 → parseFieldDescriptor (TJx145de k).2.2.1 = some (tyJx145de k) := by decide +kernel
def RJx9f9b0 : String := "java/lang/CharSequence"
def TJx9f9b0 : u_T := fun k => match k with
  | _ => ("", "", "", false)
def tyJx9f9b0 : Nat → FieldType := fun k => match k with
  | _ => .int
abbrev wsJx9f9b00 : List Cond := u_ws RJx9f9b0 TJx9f9b0 0
theorem nmJx9f9b0 : ∀ a, a < 0 → ∀ b, b < 0 → a ≠ b → (TJx9f9b0 a).2.1 ≠ (TJx9f9b0 b).2.1 := by decide +kernel
theorem tyJx9f9b0_ok : ∀ k, k < 0 → parseFieldDescriptor (TJx9f9b0 k).2.2.1 = some (tyJx9f9b0 k) := by decide +kernel
def RJxb160c : String := "java/lang/Comparable"
def TJxb160c : u_T := fun k => match k with
  | _ => ("", "", "", false)
def tyJxb160c : Nat → FieldType := fun k => match k with
  | _ => .int
abbrev wsJxb160c0 : List Cond := u_ws RJxb160c TJxb160c 0
theorem nmJxb160c : ∀ a, a < 0 → ∀ b, b < 0 → a ≠ b → (TJxb160c a).2.1 ≠ (TJxb160c b).2.1 := by decide +kernel
theorem tyJxb160c_ok : ∀ k, k < 0 → parseFieldDescriptor (TJxb160c k).2.2.1 = some (tyJxb160c k) := by decide +kernel
def RJ9 : String := "java/lang/Math"
def TJ9 : u_T := fun k => match k with
  | _ => ("", "", "", false)
def tyJ9 : Nat → FieldType := fun k => match k with
  | _ => .int
abbrev wsJ90 : List Cond := u_ws RJ9 TJ9 0
theorem nmJ9 : ∀ a, a < 0 → ∀ b, b < 0 → a ≠ b → (TJ9 a).2.1 ≠ (TJ9 b).2.1 := by decide +kernel
theorem tyJ9_ok : ∀ k, k < 0 → parseFieldDescriptor (TJ9 k).2.2.1 = some (tyJ9 k) := by decide +kernel
abbrev cJ9_max_7cf53 : ByteArray := prog_14_method_65_code
def yJ9_max_7cf53 : MethodName := ⟨RJ9, "max", "(II)I"⟩
abbrev cJ9_min_7cf53 : ByteArray := prog_14_method_69_code
def yJ9_min_7cf53 : MethodName := ⟨RJ9, "min", "(II)I"⟩
def RJ0 : String := "java/lang/String"
def TJ0 : u_T := fun k => match k with
  | _ => ("", "", "", false)
def tyJ0 : Nat → FieldType := fun k => match k with
  | _ => .int
abbrev wsJ00 : List Cond := u_ws RJ0 TJ0 0
theorem nmJ0 : ∀ a, a < 0 → ∀ b, b < 0 → a ≠ b → (TJ0 a).2.1 ≠ (TJ0 b).2.1 := by decide +kernel
theorem tyJ0_ok : ∀ k, k < 0 → parseFieldDescriptor (TJ0 k).2.2.1 = some (tyJ0 k) := by decide +kernel
abbrev cJ0_length_8abf5 : ByteArray := prog_16_method_54_code
def yJ0_length_8abf5 : MethodName := ⟨RJ0, "length", "()I"⟩
abbrev cJ0_charAt_5068e : ByteArray := prog_16_method_56_code
def yJ0_charAt_5068e : MethodName := ⟨RJ0, "charAt", "(I)C"⟩
abbrev cJ0_coder_7d493 : ByteArray := prog_16_method_152_code
def yJ0_coder_7d493 : MethodName := ⟨RJ0, "coder", "()B"⟩
abbrev cJ0_isLatin1_aae02 : ByteArray := prog_16_method_154_code
def yJ0_isLatin1_aae02 : MethodName := ⟨RJ0, "isLatin1", "()Z"⟩
abbrev cJ0_checkIndex_df160 : ByteArray := prog_16_method_155_code
def yJ0_checkIndex_df160 : MethodName := ⟨RJ0, "checkIndex", "(II)V"⟩
def RJ1 : String := "java/lang/StringLatin1"
def TJ1 : u_T := fun k => match k with
  | _ => ("", "", "", false)
def tyJ1 : Nat → FieldType := fun k => match k with
  | _ => .int
abbrev wsJ10 : List Cond := u_ws RJ1 TJ1 0
theorem nmJ1 : ∀ a, a < 0 → ∀ b, b < 0 → a ≠ b → (TJ1 a).2.1 ≠ (TJ1 b).2.1 := by decide +kernel
theorem tyJ1_ok : ∀ k, k < 0 → parseFieldDescriptor (TJ1 k).2.2.1 = some (tyJ1 k) := by decide +kernel
abbrev cJ1_charAt_3b067 : ByteArray := prog_17_method_2_code
def yJ1_charAt_3b067 : MethodName := ⟨RJ1, "charAt", "([BI)C"⟩
def RJ2 : String := "java/lang/StringUTF16"
def TJ2 : u_T := fun k => match k with
  | _ => ("", "", "", false)
def tyJ2 : Nat → FieldType := fun k => match k with
  | _ => .int
abbrev wsJ20 : List Cond := u_ws RJ2 TJ2 0
theorem nmJ2 : ∀ a, a < 0 → ∀ b, b < 0 → a ≠ b → (TJ2 a).2.1 ≠ (TJ2 b).2.1 := by decide +kernel
theorem tyJ2_ok : ∀ k, k < 0 → parseFieldDescriptor (TJ2 k).2.2.1 = some (tyJ2 k) := by decide +kernel
abbrev cJ2_getChar_3b067 : ByteArray := prog_18_method_5_code
def yJ2_getChar_3b067 : MethodName := ⟨RJ2, "getChar", "([BI)C"⟩
abbrev cJ2_length_9d52b : ByteArray := prog_18_method_6_code
def yJ2_length_9d52b : MethodName := ⟨RJ2, "length", "([B)I"⟩
abbrev cJ2_charAt_3b067 : ByteArray := prog_18_method_83_code
def yJ2_charAt_3b067 : MethodName := ⟨RJ2, "charAt", "([BI)C"⟩
abbrev cJ2_checkIndex_2214a : ByteArray := prog_18_method_91_code
def yJ2_checkIndex_2214a : MethodName := ⟨RJ2, "checkIndex", "(I[B)V"⟩
def RJ10 : String := "java/lang/System"
def TJ10 : u_T := fun k => match k with
  | _ => ("", "", "", false)
def tyJ10 : Nat → FieldType := fun k => match k with
  | _ => .int
abbrev wsJ100 : List Cond := u_ws RJ10 TJ10 0
theorem nmJ10 : ∀ a, a < 0 → ∀ b, b < 0 → a ≠ b → (TJ10 a).2.1 ≠ (TJ10 b).2.1 := by decide +kernel
theorem tyJ10_ok : ∀ k, k < 0 → parseFieldDescriptor (TJ10 k).2.2.1 = some (tyJ10 k) := by decide +kernel
def RJxfd54e : String := "java/lang/constant/Constable"
def TJxfd54e : u_T := fun k => match k with
  | _ => ("", "", "", false)
def tyJxfd54e : Nat → FieldType := fun k => match k with
  | _ => .int
abbrev wsJxfd54e0 : List Cond := u_ws RJxfd54e TJxfd54e 0
theorem nmJxfd54e : ∀ a, a < 0 → ∀ b, b < 0 → a ≠ b → (TJxfd54e a).2.1 ≠ (TJxfd54e b).2.1 := by decide +kernel
theorem tyJxfd54e_ok : ∀ k, k < 0 → parseFieldDescriptor (TJxfd54e k).2.2.1 = some (tyJxfd54e k) := by decide +kernel
def RJx3cf43 : String := "java/lang/constant/ConstantDesc"
def TJx3cf43 : u_T := fun k => match k with
  | _ => ("", "", "", false)
def tyJx3cf43 : Nat → FieldType := fun k => match k with
  | _ => .int
abbrev wsJx3cf430 : List Cond := u_ws RJx3cf43 TJx3cf43 0
theorem nmJx3cf43 : ∀ a, a < 0 → ∀ b, b < 0 → a ≠ b → (TJx3cf43 a).2.1 ≠ (TJx3cf43 b).2.1 := by decide +kernel
theorem tyJx3cf43_ok : ∀ k, k < 0 → parseFieldDescriptor (TJx3cf43 k).2.2.1 = some (tyJx3cf43 k) := by decide +kernel
def RJ7 : String := "java/util/Arrays"
def TJ7 : u_T := fun k => match k with
  | _ => ("", "", "", false)
def tyJ7 : Nat → FieldType := fun k => match k with
  | _ => .int
abbrev wsJ70 : List Cond := u_ws RJ7 TJ7 0
theorem nmJ7 : ∀ a, a < 0 → ∀ b, b < 0 → a ≠ b → (TJ7 a).2.1 ≠ (TJ7 b).2.1 := by decide +kernel
theorem tyJ7_ok : ∀ k, k < 0 → parseFieldDescriptor (TJ7 k).2.2.1 = some (tyJ7 k) := by decide +kernel
abbrev cJ7_fill_53178 : ByteArray := prog_23_method_103_code
def yJ7_fill_53178 : MethodName := ⟨RJ7, "fill", "([II)V"⟩
def RJ3 : String := "jdk/internal/util/Preconditions"
def TJ3 : u_T := fun k => match k with
  | _ => ("", "", "", false)
def tyJ3 : Nat → FieldType := fun k => match k with
  | _ => .int
abbrev wsJ30 : List Cond := u_ws RJ3 TJ3 0
theorem nmJ3 : ∀ a, a < 0 → ∀ b, b < 0 → a ≠ b → (TJ3 a).2.1 ≠ (TJ3 b).2.1 := by decide +kernel
theorem tyJ3_ok : ∀ k, k < 0 → parseFieldDescriptor (TJ3 k).2.2.1 = some (tyJ3 k) := by decide +kernel
abbrev cJ3_checkIndex_8e157 : ByteArray := prog_25_method_11_code
def yJ3_checkIndex_8e157 : MethodName := ⟨RJ3, "checkIndex", "(IILjava/util/function/BiFunction;)I"⟩
def RL : String := "DepotChargeLaw"
abbrev cL_told : ByteArray := method_3_code
def yL_told : MethodName := ⟨RL, "told", "(LDepotCharge;II[J)I"⟩
abbrev cL_law : ByteArray := code
def yL_law : MethodName := ⟨RL, "law", "([I)Z"⟩
abbrev vwCl : List vw_C := [(RX0, TX0, 11), (RX1, TX1, 6), (RX2, TX2, 19), (RX3, TX3, 2), (RX4, TX4, 3), (RX5, TX5, 6), (RX6, TX6, 9), (RX7, TX7, 27)]
end
section
/-! THE SMALL MACHINE: a memory of fixed cells (ids 1 to 62, what the constructors make), and 'Snd': what a run of the bytecode from a place on comes to, as an Option of (answer, memory); rules, an instruction each. -/
def mm_tbl : List Cond := lw_tbl.filter goodWord
theorem mm_in0 {w : Cond} (i : Nat) (h : (k2_sels lw_privs)[i]? = some w) (g : goodWord w = true) : w ∈ mm_tbl := List.mem_filter.mpr ⟨List.mem_append_left _ (List.mem_of_getElem? h), g⟩
theorem mm_inT {w : Cond} (h : w ∈ tables_1) (g : goodWord w = true) : w ∈ mm_tbl := List.mem_filter.mpr ⟨List.mem_append_right _ h, g⟩
theorem mm_in1 {w : Cond} (i : Nat) (h : tables_1_1[i]? = some w) (g : goodWord w = true) : w ∈ mm_tbl := mm_inT (List.mem_append_left _ (List.mem_of_getElem? h)) g
theorem mm_in2 {w : Cond} (i : Nat) (h : tables_1_2[i]? = some w) (g : goodWord w = true) : w ∈ mm_tbl := mm_inT (List.mem_append_right _ (List.mem_append_left _ (List.mem_of_getElem? h))) g
theorem mm_in3 {w : Cond} (i : Nat) (h : tables_1_3[i]? = some w) (g : goodWord w = true) : w ∈ mm_tbl := mm_inT (List.mem_append_right _ (List.mem_append_right _ (List.mem_append_left _ (List.mem_of_getElem? h)))) g
theorem mm_in4 {w : Cond} (i : Nat) (h : tables_1_4[i]? = some w) (g : goodWord w = true) : w ∈ mm_tbl := mm_inT (List.mem_append_right _ (List.mem_append_right _ (List.mem_append_right _ (List.mem_append_left _ (List.mem_of_getElem? h))))) g
theorem mm_in5 {w : Cond} (i : Nat) (h : tables_1_5[i]? = some w) (g : goodWord w = true) : w ∈ mm_tbl := mm_inT (List.mem_append_right _ (List.mem_append_right _ (List.mem_append_right _ (List.mem_append_right _ (List.mem_append_left _ (List.mem_of_getElem? h)))))) g
theorem mm_in6 {w : Cond} (i : Nat) (h : tables_1_6[i]? = some w) (g : goodWord w = true) : w ∈ mm_tbl := mm_inT (List.mem_append_right _ (List.mem_append_right _ (List.mem_append_right _ (List.mem_append_right _ (List.mem_append_right _ (List.mem_of_getElem? h)))))) g
theorem mm_good : GoodIn mm_tbl mm_tbl := fun w h => ⟨h, good_of_word (List.mem_filter.mp h).2⟩
theorem mm_goodC {w : Cond} (h : w ∈ mm_tbl) : GoodIn mm_tbl (w :: mm_tbl) := fun v hv => by
  rcases List.mem_cons.mp hv with e | e
  · rw [e]; exact mm_good w h
  · exact mm_good v e
-- the memory: ints by cell and place, longs likewise, the three references that move (now, draft, the planner's depot), how many exceptions were made
abbrev mm_M : Type := (Nat → Nat → Int32) × (Nat → Nat → Int64) × (Nat × Nat × Nat) × Nat
def mI (M : mm_M) (c k : Nat) : Int32 := M.1 c k
def mL (M : mm_M) (c k : Nat) : Int64 := M.2.1 c k
def mNow (M : mm_M) : Nat := M.2.2.1.1
def mDra (M : mm_M) : Nat := M.2.2.1.2.1
def mDep (M : mm_M) : Nat := M.2.2.1.2.2
def mG (M : mm_M) : Nat := M.2.2.2
def uR {α : Type} (f : Nat → α) (c : Nat) (g : α) : Nat → α := fun a => if a = c then g else f a
def sR (M : mm_M) (c : Nat) (r : Nat → Int32) : mm_M := (uR M.1 c r, M.2)
def sI (M : mm_M) (c k : Nat) (v : Int32) : mm_M := sR M c (upd (M.1 c) k v)
def sL (M : mm_M) (c k : Nat) (v : Int64) : mm_M := (M.1, uR M.2.1 c (vp_updL (M.2.1 c) k v), M.2.2)
def sNow (M : mm_M) (d : Nat) : mm_M := (M.1, M.2.1, (d, M.2.2.1.2), M.2.2.2)
def sDra (M : mm_M) (d : Nat) : mm_M := (M.1, M.2.1, (M.2.2.1.1, d, M.2.2.1.2.2), M.2.2.2)
def sDep (M : mm_M) (d : Nat) : mm_M := (M.1, M.2.1, (M.2.2.1.1, M.2.2.1.2.1, d), M.2.2.2)
def sG (M : mm_M) (g : Nat) : mm_M := (M.1, M.2.1, M.2.2.1, g)
-- shapes: (0, class, fields) an object; (1, n, 0) ints; (2, n, 0) bytes; (3, n, 0) longs
def mm_shT : List (Nat × Nat × Nat) := [(9, 0, 0), (0, 6, 9),
  (0, 0, 11), (1, 3, 0), (1, 8, 0), (1, 8, 0), (1, 4, 0), (1, 16, 0), (1, 16, 0), (1, 24, 0), (1, 6, 0),
  (0, 0, 11), (1, 3, 0), (1, 8, 0), (1, 8, 0), (1, 4, 0), (1, 16, 0), (1, 16, 0), (1, 24, 0), (1, 6, 0),
  (0, 5, 6), (2, 400, 0), (0, 3, 2), (0, 1, 6), (1, 36, 0), (1, 8, 0),
  (0, 2, 19), (1, 3, 0), (1, 4, 0), (1, 4, 0), (1, 4, 0), (1, 36, 0), (1, 36, 0), (1, 16, 0), (3, 6561, 0), (1, 6561, 0), (1, 4, 0), (1, 4, 0), (1, 4, 0), (1, 4, 0), (1, 16, 0),
  (0, 4, 3), (1, 8, 0), (1, 4, 0), (1, 4, 0), (1, 8, 0),
  (0, 7, 27), (1, 82, 0), (1, 82, 0), (1, 400, 0), (1, 4, 0), (1, 8, 0), (1, 36, 0), (1, 8, 0), (1, 59049, 0), (1, 59049, 0), (1, 59049, 0), (1, 59049, 0), (1, 36, 0), (1, 4, 0), (1, 4, 0), (1, 4, 0),
  (3, 1, 0)]
def mm_sh (c : Nat) : Nat × Nat × Nat := mm_shT.getD c (9, 0, 0)
-- what a field of an object is: 0 an int; 1 now; 2 draft; 3 the planner's depot; 10 + c the cell c
def mm_fkT : List (List Nat) := [[], [1, 2, 30, 32, 33, 36, 51, 55, 0],
  [0, 0, 0, 13, 14, 15, 16, 17, 18, 19, 20], [], [], [], [], [], [], [], [],
  [0, 0, 0, 22, 23, 24, 25, 26, 27, 28, 29], [], [], [], [], [], [], [], [],
  [31, 0, 0, 0, 0, 0], [], [30, 0], [34, 35, 0, 0, 0, 0], [], [],
  [37, 38, 0, 3, 39, 40, 41, 42, 43, 44, 45, 46, 47, 48, 49, 0, 0, 0, 50], [], [], [], [], [], [], [], [], [], [], [], [], [], [],
  [52, 53, 54], [], [], [], [],
  [0, 57, 58, 59, 0, 0, 0, 0, 0, 0, 0, 0, 0, 0, 60, 0, 61, 62, 63, 64, 65, 66, 67, 68, 69, 70, 71]]
def mm_fk (c k : Nat) : Nat := (mm_fkT.getD c []).getD k 0
def mm_fv (ad : Nat → Nat) (M : mm_M) (c k : Nat) : Value :=
  if mm_fk c k = 0 then .int (M.1 c k) else if mm_fk c k = 1 then .ref (ad M.2.2.1.1) else if mm_fk c k = 2 then .ref (ad M.2.2.1.2.1) else if mm_fk c k = 3 then .ref (ad M.2.2.1.2.2) else .ref (ad (mm_fk c k - 10))
abbrev mm_K : Type := ClassId × ClassId × ClassId
abbrev mm_ty (cs : mm_K) : List (ClassId × FieldType) := [(cs.1, .int), (cs.2.1, .byte), (cs.2.2, .long)]
def mm_e (ad : Nat → Nat) (cs : mm_K) (M : mm_M) (c : Nat) : va_E :=
  if (mm_sh c).1 = 0 then .inr ((mm_sh c).2.1, (List.range (mm_sh c).2.2).map (mm_fv ad M c))
  else if (mm_sh c).1 = 1 then .inl (cs.1, (mm_sh c).2.1, .inl (M.1 c))
  else if (mm_sh c).1 = 2 then .inl (cs.2.1, (mm_sh c).2.1, .inl (M.1 c))
  else .inl (cs.2.2, (mm_sh c).2.1, .inr (.inl (M.2.1 c)))
def mm_ws (ad : Nat → Nat) (cs : mm_K) (M : mm_M) : va_W := (List.range 62).map (fun j => (ad (j + 1), mm_e ad cs M (j + 1)))
theorem mm_get (ad : Nat → Nat) (cs : mm_K) (M : mm_M) {c : Nat} (h : 0 < c ∧ c ≤ 62) : (mm_ws ad cs M)[c - 1]? = some (ad c, mm_e ad cs M c) := by
  unfold mm_ws
  rw [List.getElem?_map, List.getElem?_range (by omega)]
  simp only [Option.map_some]
  rw [show c - 1 + 1 = c by omega]
theorem mm_set (ad : Nat → Nat) (cs : mm_K) (M M' : mm_M) {c : Nat} (h : 0 < c ∧ c ≤ 62) {E : va_E} (ho : ∀ a, a ≠ c → mm_e ad cs M a = mm_e ad cs M' a) (he : mm_e ad cs M' c = E) :
    (mm_ws ad cs M).set (c - 1) (ad c, E) = mm_ws ad cs M' := by
  unfold mm_ws
  apply List.ext_getElem?
  intro i
  rw [List.getElem?_set]
  by_cases hi : c - 1 = i
  · subst hi
    rw [if_pos rfl, if_pos (by simp; omega), List.getElem?_map, List.getElem?_range (by omega)]
    simp only [Option.map_some]
    rw [show c - 1 + 1 = c by omega, he]
  · rw [if_neg hi, List.getElem?_map, List.getElem?_map]
    by_cases hl : i < 62
    · rw [List.getElem?_range hl]
      simp only [Option.map_some]
      rw [ho (i + 1) (by omega)]
    · rw [List.getElem?_eq_none (by simp; omega)]
      rfl
theorem mm_len (ad : Nat → Nat) (cs : mm_K) (M : mm_M) : (mm_ws ad cs M).length = 62 := by simp [mm_ws]
theorem uR_ne {α : Type} {f : Nat → α} {c a : Nat} {g : α} (h : a ≠ c) : uR f c g a = f a := if_neg h
theorem uR_eq {α : Type} {f : Nat → α} {c : Nat} {g : α} : uR f c g c = g := if_pos rfl
theorem mm_fv_ne (ad : Nat → Nat) (M : mm_M) {c a : Nat} (r : Nat → Int32) (h : a ≠ c) : mm_fv ad (sR M c r) a = mm_fv ad M a := by
  funext k
  simp only [mm_fv, sR, uR_ne h]
theorem mm_e_ne (ad : Nat → Nat) (cs : mm_K) (M : mm_M) {c : Nat} (r : Nat → Int32) : ∀ a, a ≠ c → mm_e ad cs M a = mm_e ad cs (sR M c r) a := by
  intro a h
  simp only [mm_e, mm_fv_ne ad M r h]
  simp only [sR, uR_ne h]
theorem mm_eL_ne (ad : Nat → Nat) (cs : mm_K) (M : mm_M) {c k : Nat} {v : Int64} : ∀ a, a ≠ c → mm_e ad cs M a = mm_e ad cs (sL M c k v) a := by
  intro a h
  simp only [mm_e, sL, uR_ne h]
  rfl
theorem mm_fields (ad : Nat → Nat) (M : mm_M) (c n : Nat) {k : Nat} (h : k < n) : ((List.range n).map (mm_fv ad M c))[k]? = some (mm_fv ad M c k) := by
  rw [List.getElem?_map, List.getElem?_range h]; rfl
theorem mm_fset (ad : Nat → Nat) (M M' : mm_M) (c n : Nat) {k : Nat} {v : Value} (h : k < n) (hv : mm_fv ad M' c k = v) (ho : ∀ b, b ≠ k → mm_fv ad M c b = mm_fv ad M' c b) : ((List.range n).map (mm_fv ad M c)).set k v = (List.range n).map (mm_fv ad M' c) := by
  apply List.ext_getElem?
  intro i
  rw [List.getElem?_set]
  by_cases hi : k = i
  · subst hi
    rw [if_pos rfl, if_pos (by simp; omega), List.getElem?_map, List.getElem?_range h]
    simp [hv]
  · rw [if_neg hi, List.getElem?_map, List.getElem?_map]
    by_cases hl : i < n
    · rw [List.getElem?_range hl]
      simp [ho i (fun e => hi e.symm)]
    · rw [List.getElem?_eq_none (by simp; omega)]
      rfl
end
section
/-! ===== BEGIN words of one list among another's, by their places ===== -/
theorem goodIn_r {big : List Cond} (ws : List Cond) (ps : List Nat) (hp : ws = ps.filterMap (fun i => big[i]?)) (h : ws.all goodWord = true) : GoodIn big ws := by
  intro w hw
  have h1 := List.all_eq_true.mp h w hw
  rw [hp] at hw
  obtain ⟨i, -, hi⟩ := List.mem_filterMap.mp hw
  have hm : w ∈ big := by first | exact List.mem_of_getElem? hi | exact List.getElem?_mem hi
  exact ⟨hm, good_of_word h1⟩
theorem goodIn_app {big a b : List Cond} (ha : GoodIn big a) (hb : GoodIn big b) : GoodIn big (a ++ b) := fun w h => (List.mem_append.mp h).elim (ha w) (hb w)
theorem goodIn_ca {big a b : List Cond} {c : Cond} (ha : GoodIn big (c :: a)) (hb : GoodIn big b) : GoodIn big (c :: (a ++ b)) := fun w h => (List.mem_cons.mp h).elim (fun e => ha w (List.mem_cons.mpr (Or.inl e))) (fun h => (List.mem_append.mp h).elim (fun h => ha w (List.mem_cons.mpr (Or.inr h))) (hb w))
theorem goodIn_sub {big ws : List Cond} (hm : ∀ w ∈ ws, w ∈ big) (h : ws.all goodWord = true) : GoodIn big ws := fun w hw => ⟨hm w hw, good_of_word (List.all_eq_true.mp h w hw)⟩
/-! ===== END ===== -/
/-! ===== BEGIN exceptions that leave a method, and their catching by the caller (launches without stack traces) ===== -/
section VXA
/-! The laws vx_back, vx_callV, vx_callS, vx_callSW, vx_throw0, vx_throwS follow proofs of the library, with one case more: JvmDerived/Free/Laws.lean (Back.of_free), Shelf42/LK1.lean (callV, callS), Shelf/KitTraced.lean (throwNew0V, throwNewS). -/
/-- where a method has thrown q: the class by its name, the cell, what was written, the world -/
def vx_T (XC : String → State → State → Prop) (st : State) (q : Addr) (t : State) (mc ms : Nat) (free : Addr → Prop) : Prop :=
  ∃ (E : String) (ce : Cell) (L : List Loc), XC E st t ∧ t.heap[q]? = some ce ∧ ce.vm = .none ∧ st.vm.findClass E = some ce.cls ∧ st.WarmedH t.vm ∧ st.sameButNew ({ t with vm := st.vm } : State) L mc ms ∧ ∀ z ∈ L, free z.base
def vx_Q (Qc : Array Value → State → Outcome → State → Prop) (XC : String → State → State → Prop) (mc ms : Nat) (free : Addr → Prop) : Array Value → State → Outcome → State → Prop := fun a st o t =>
  (Qc a st o t ∧ ∃ L, FrameEnd st o t L mc ms ∧ ∀ q ∈ L, free q.base) ∨ ∃ q, o = .threw q ∧ vx_T XC st q t mc ms free
/-- a callee that returns or throws -/
def vx_Met (l : Launch) (y : MethodName) (ws : List Cond) (rm : Room) (Pc : Array Value → State → Prop) (Qc : Array Value → State → Outcome → State → Prop) (XC : String → State → State → Prop) (mc ms : Nat) (free : Addr → Prop) : Prop :=
  MetFree l y (headSpec ws rm) Pc (fun _ _ _ _ _ => True) (vx_Q Qc XC mc ms free)
def vx_Post (XC : String → State → State → Prop) (mc ms : Nat) (free : Addr → Prop) : Pt → Array Value → Addr → Pt → Prop := fun A a q B =>
  ∃ (g : JFrame) (mk : MethodId) (t : State) (L : List Loc) (E : String) (ce : Cell), B.U.heap = t.heap ∧ B.U.vm = t.vm ∧ XC E (A.U.calling g mk a) t ∧ t.heap[q]? = some ce ∧ ce.vm = .none ∧ A.U.vm.findClass E = some ce.cls ∧ B.locs = A.locs ++ L ∧ (∀ z ∈ L, free z.base) ∧ B.cells = A.cells + mc ∧ B.slots = A.slots + ms
def vx_Back (l : Launch) (R : Room) (p : Program) (e : Env) (below : List Frame) (s : State) (sargs : Array Value) (y : MethodName) (len W9 : Nat)
    (Pre : Pt → Array Value → Prop) (Post : Pt → Array Value → Option Value → Pt → Prop) (PostX : Pt → Array Value → Addr → Pt → Prop) : Prop :=
  ∀ (m : MethodId) (meth : Method) (c : Code) (A : Pt) (g : JFrame) (ig : Instr) (mk : MethodId) (a : Array Value),
    Stand p l e R s m sargs below meth c A.U A.locs A.cells A.slots → g.method = m → g.locals.size = c.maxLocals → decode c.code g.pc = .ok (ig, len) →
    2 * g.monitorRoom + (g.stack.map fun v => v.category).sum ≤ W9 → A.U.methodNamed? y = some mk → Pre A a →
    (∃ (v : Option Value) (B : Pt), Stand p l e R s m sargs below meth c B.U B.locs B.cells B.slots ∧ Post A a v B ∧
      Steps p.tables e below (doInvoke e (A.U.setTop g) [] mk a).1 (B.U.setTop { g with pc := g.pc + len, stack := v.toList ++ g.stack })) ∨
    (∃ (q : Addr) (B : Pt), Stand p l e R s m sargs below meth c B.U B.locs B.cells B.slots ∧ PostX A a q B ∧
      Steps p.tables e below (doInvoke e (A.U.setTop g) [] mk a).1 ((B.U.setTop g).pushFrame (.throwing q)))
section Payer
variable {l : Launch} {R : Room} {p : Program} {e : Env} {below : List Frame} {s : State} {sargs : Array Value} {y : MethodName} {len W9 : Nat}
theorem vx_back {ws : List Cond} {rm : Room} {Pc : Array Value → State → Prop} {Qc : Array Value → State → Outcome → State → Prop} {XC : String → State → State → Prop} {mc ms : Nat} {free : Addr → Prop} {bytes : ByteArray} {maxL : Nat} {ret : Option FieldType}
    (hM : vx_Met l y ws rm Pc Qc XC mc ms free) (hblind : FrameBlind Pc) (hrc : rm.cells = mc) (hrs : rm.slots = ms)
    (hframes : rm.frames + 1 ≤ R.frames) (hlocals : W9 + (maxL + 11) + rm.locals ≤ R.locals)
    (hws : ∀ w ∈ ws, ∀ a' U, s.WarmedH U.vm → w.before a' U = true) (hcode : Cond.code y bytes maxL ret ∈ ws) (hinit : ∀ a' U, s.WarmedH U.vm → (Cond.initialized y.cls).before a' U = true) :
    vx_Back l R p e below s sargs y len W9 (PreOf R mc ms Pc) (PostOf Qc mc ms free) (vx_Post XC mc ms free) := by
  intro m meth c A g ig mk a X hg hsize hdg hW hn hp
  have h1 : (headSpec ws rm).pre.before a A.U = true := atoms_intro fun w hw => hws w hw _ _ X.warmed
  have h2 : (Cond.code y bytes maxL ret).before a A.U = true := hws _ hcode _ _ X.warmed
  have h3 : (Cond.initialized y.cls).before a A.U = true := hinit _ _ X.warmed
  have h4 : A.cells + (headSpec ws rm).room.cells ≤ R.cells := by rw [show (headSpec ws rm).room.cells = mc from hrc]; exact hp.1
  have h5 : A.slots + (headSpec ws rm).room.slots ≤ R.slots := by rw [show (headSpec ws rm).room.slots = ms from hrs]; exact hp.2.1
  have hPc : Pc a (A.U.calling g mk a) := hblind _ _ _ _ hp.2.2
  obtain ⟨U, Ls, c0, s0⟩ := A
  dsimp only [Pt.U, Pt.locs, Pt.cells, Pt.slots] at h1 h2 h3 h4 h5 X hn hPc ⊢
  obtain ⟨methY, cY, hmY, hcY, -, hlY, -, -, -, -⟩ := Cond.code_spec hn h2
  obtain ⟨kY, hkY, -⟩ := className_of_methodNamed hn
  have hinitY : kY.init = .initialized := Cond.initialized_spec (findClass_of_methodNamed hn) hkY h3
  have h : At U g.method c below := by rw [hg]; exact X.here
  have hlocals9 : W9 + (maxL + 11) + (headSpec ws rm).room.locals ≤ R.locals := hlocals
  have happ : (headSpec ws rm).appliesLoose y e.platform (U.calling g mk a) = true :=
    Spec.appliesLoose_calling (g := g) h hdg hn hkY hinitY
      (X.room_calling (g := g) (R' := (headSpec ws rm).room) hsize hmY hcY hframes (by rw [hlY]; omega) h4 h5) h1
  obtain ⟨mid, hmid⟩ := h.above
  have hfr : (U.setTop g).frames = (.java g :: mid) ++ below := by rw [State.frames_setTop' g h.top, hmid]; rfl
  obtain ⟨o, s₂, hsteps, -, hend, hq⟩ := Steps.callFree hM p X.admits X.cas X.clock (acts := []) hfr happ hPc trivial
  have hq' : vx_Q Qc XC mc ms free a (U.calling g mk a) o s₂ := hq
  rw [State.frames_setTop' g h.top] at hend
  obtain ⟨g₀, hg0⟩ := Option.isSome_iff_exists.mp h.top
  obtain ⟨r, hr⟩ := State.topJava?_eq_some.mp hg0
  have hr' : (({ U with heap := s₂.heap, slotsUsed := s₂.slotsUsed } : State).setVm s₂.vm).frames = .java g₀ :: r := hr
  rcases hq' with ⟨hqc, L, hfe, hL⟩ | ⟨q, rfl, E, ce, L, hx, hce, hcv, hcl, hW₂, hsm, hL⟩
  · obtain ⟨⟨v, rfl⟩, hW₂, e2, q2, q3, q4, q5, q6⟩ := id hfe
    have e3 : s₂ = ({ (U.calling g mk a).setFrames s₂.frames with heap := s₂.heap, slotsUsed := s₂.slotsUsed } : State).setVm s₂.vm := by
      have : s₂ = ({ s₂ with vm := (U.calling g mk a).vm } : State).setVm s₂.vm := rfl
      rw [e2] at this
      exact this
    obtain ⟨c₂, i₂, len₂, hc₂, hd₂, hf₂⟩ := hend
    have hW' : U.WarmedH s₂.vm := hW₂
    have hcc : c₂ = c := by
      have h1 : s₂.code? g.method = U.code? g.method := by
        rw [State.code?_eq, State.code?_eq, hW'.alike.method?]
      exact Option.some.inj (hc₂.symm.trans (h1.trans h.code))
    subst hcc
    have hlen : len₂ = len := by rw [hdg] at hd₂; cases hd₂; rfl
    subst hlen
    have hs₂ : s₂ = (({ U with heap := s₂.heap, slotsUsed := s₂.slotsUsed } : State).setVm s₂.vm).setTop { g with pc := g.pc + len₂, stack := v.toList ++ g.stack } := by
      refine e3.trans ?_
      rw [hf₂, State.calling_eq h.top, State.setFrames_setFrames, State.setTop_of_frames _ hr', hr]
      rfl
    have hsame : U.sameButNew ({ U with heap := s₂.heap, slotsUsed := s₂.slotsUsed } : State) L mc ms := by
      refine ⟨?_, q2, q3, q4, q5, q6⟩
      obtain ⟨t, ht, -⟩ := State.frames_cons hr
      show ({ U with heap := s₂.heap, slotsUsed := s₂.slotsUsed } : State) = { U.setFrames U.frames with heap := s₂.heap, slotsUsed := s₂.slotsUsed }
      rw [State.setFrames_self ht]
    subst hg
    refine Or.inl ⟨v, ⟨(({ U with heap := s₂.heap, slotsUsed := s₂.slotsUsed } : State).setVm s₂.vm), Ls ++ L, c0 + mc, s0 + ms⟩,
      ⟨X.admits, X.cas, X.clock, X.frames, X.room, X.hears, X.method, X.code, (X.here.setHeapUsed s₂.heap s₂.slotsUsed).setVm hW'.alike, X.tail, State.WarmedH.trans X.warmed hW', X.limits, X.bytes, X.same.trans (hsame.setVm s.vm)⟩,
      ⟨g, mk, s₂, L, rfl, rfl, hqc, rfl, hL, rfl, rfl⟩, ?_⟩
    show Steps p.tables e below _ ((({ U with heap := s₂.heap, slotsUsed := s₂.slotsUsed } : State).setVm s₂.vm).setTop { g with pc := g.pc + len₂, stack := v.toList ++ g.stack })
    rw [← hs₂]
    exact hsteps
  · obtain ⟨e2, q2, q3, q4, q5, q6⟩ := id hsm
    have e3 : s₂ = ({ (U.calling g mk a).setFrames s₂.frames with heap := s₂.heap, slotsUsed := s₂.slotsUsed } : State).setVm s₂.vm := by
      have : s₂ = ({ s₂ with vm := (U.calling g mk a).vm } : State).setVm s₂.vm := rfl
      rw [e2] at this
      exact this
    have hf₂ : s₂.frames = .throwing q :: .java g :: U.frames.tail := hend
    have hW' : U.WarmedH s₂.vm := hW₂
    have hs₂ : s₂ = ((({ U with heap := s₂.heap, slotsUsed := s₂.slotsUsed } : State).setVm s₂.vm).setTop g).pushFrame (.throwing q) := by
      refine e3.trans ?_
      rw [hf₂, State.calling_eq h.top, State.setFrames_setFrames, State.pushFrame, State.frames_setTop _ hr', State.setTop_of_frames _ hr', State.setFrames_setFrames, hr]
      rfl
    have hsame : U.sameButNew ({ U with heap := s₂.heap, slotsUsed := s₂.slotsUsed } : State) L mc ms := by
      refine ⟨?_, q2, q3, q4, q5, q6⟩
      obtain ⟨t, ht, -⟩ := State.frames_cons hr
      show ({ U with heap := s₂.heap, slotsUsed := s₂.slotsUsed } : State) = { U.setFrames U.frames with heap := s₂.heap, slotsUsed := s₂.slotsUsed }
      rw [State.setFrames_self ht]
    subst hg
    refine Or.inr ⟨q, ⟨(({ U with heap := s₂.heap, slotsUsed := s₂.slotsUsed } : State).setVm s₂.vm), Ls ++ L, c0 + mc, s0 + ms⟩,
      ⟨X.admits, X.cas, X.clock, X.frames, X.room, X.hears, X.method, X.code, (X.here.setHeapUsed s₂.heap s₂.slotsUsed).setVm hW'.alike, X.tail, State.WarmedH.trans X.warmed hW', X.limits, X.bytes, X.same.trans (hsame.setVm s.vm)⟩,
      ⟨g, mk, s₂, L, E, ce, rfl, rfl, hx, hce, hcv, hcl, rfl, hL, rfl, rfl⟩, ?_⟩
    show Steps p.tables e below _ (((({ U with heap := s₂.heap, slotsUsed := s₂.slotsUsed } : State).setVm s₂.vm).setTop g).pushFrame (.throwing q))
    rw [← hs₂]
    exact hsteps
end Payer
section Calls
variable {p : Program} {l : Launch} {e : Env} {R : Room} {s : State} {m : MethodId} {args : Array Value} {below : List Frame} {meth : Method} {c : Code} {T : State} {locs : List Loc} {cells slots : Nat}
theorem vx_callV (X : Stand p l e R s m args below meth c T locs cells slots) (hexec : p.tables.exec = Jvm.exec) {own C : String} {index : Nat} {y : MethodName} {bytes : ByteArray} {maxL : Nat} {ret : Option FieldType}
    (hown : s.vm.findClass own = some m.cls) (hlink : (Cond.methodLink own index y).before args s = true) (hinst : (Cond.instanceMethod y).before args s = true) (hsel : (Cond.selects C y y).before args s = true)
    (hcode : (Cond.code y bytes maxL ret).before args s = true) (hy : y.cls ≠ "java/lang/invoke/MethodHandle" ∧ y.cls ≠ "java/lang/invoke/VarHandle")
    {W9 : Nat} {Pre : Pt → Array Value → Prop} {Post : Pt → Array Value → Option Value → Pt → Prop} {PostX : Pt → Array Value → Addr → Pt → Prop} (hK : vx_Back l R p e below s args y 3 W9 Pre Post PostX)
    {b : Addr} {cellB : Cell} (hcell : T.heap[b]? = some cellB) (hobj : cellB.vm.isStatics = false) (hcls : s.vm.findClass C = some cellB.cls)
    {g : JFrame} (hg : g.method = m) (hsize : g.locals.size = c.maxLocals) {argsL rest : List Value} (hlen : ∀ sig, parseMethodDescriptor y.desc = some sig → argsL.length = sig.parameters.length)
    (hstack : g.stack = argsL.reverse ++ .ref b :: rest) (hW : 2 * g.monitorRoom + (rest.map fun v => v.category).sum ≤ W9) (hdg : decode c.code g.pc = .ok (.invokevirtual index, 3))
    (hpre : ∀ vm₁, s.WarmedH vm₁ → Pre ⟨T.setVm vm₁, locs, cells, slots⟩ (Value.ref b :: argsL).toArray) :
    (∃ (v : Option Value) (vm₁ : Vm) (B : Pt), s.WarmedH vm₁ ∧ Stand p l e R s m args below meth c B.U B.locs B.cells B.slots ∧ Post ⟨T.setVm vm₁, locs, cells, slots⟩ (Value.ref b :: argsL).toArray v B ∧
      ∀ target, Steps p.tables e below (B.U.setTop { g with pc := g.pc + 3, stack := v.toList ++ rest }) target → Steps p.tables e below (T.setTop g) target) ∨
    (∃ (q : Addr) (vm₁ : Vm) (B : Pt), s.WarmedH vm₁ ∧ Stand p l e R s m args below meth c B.U B.locs B.cells B.slots ∧ PostX ⟨T.setVm vm₁, locs, cells, slots⟩ (Value.ref b :: argsL).toArray q B ∧
      Steps p.tables e below (T.setTop g) ((B.U.setTop { g with stack := rest }).pushFrame (.throwing q))) := by
  obtain ⟨mk, methM, hnamed, hmethM, hstM, habM⟩ := Cond.instanceMethod_spec hinst
  obtain ⟨methM', cM, hmethM', -, -, -, -, -, -, hsigM⟩ := Cond.code_spec hnamed hcode
  cases hmethM.symm.trans hmethM'
  obtain ⟨c2, r2, m2, q1, q2, q3, q4, kP, hkP, hkPi⟩ := Cond.selects_spec hsel
  cases hcls.symm.trans q1
  cases (State.methodFound?_of_named hnamed hy).symm.trans q2
  cases hnamed.symm.trans q3
  have hselP : selectMethod e.platform s.vm cellB.cls mk = .method mk := by rw [Launch.admits_selectMethod X.admits]; exact q4
  obtain ⟨vm₁, X₁, hstep₁⟩ := X.invokevirtual hexec hown hlink hnamed hmethM hstM hkP hkPi hy (a := b) (cell := cellB) hcell
    (fun z h => by rw [h] at hobj; cases hobj) hselP hmethM habM hkP hkPi (g := g) hg (argsL := argsL) (rest := rest) (hlen _ hsigM) hstack hdg
  rcases hK m meth c ⟨T.setVm vm₁, locs, cells, slots⟩ { g with stack := rest } (.invokevirtual index) mk (Value.ref b :: argsL).toArray X₁ hg hsize hdg hW (X₁.named hnamed) (hpre vm₁ X₁.warmed) with ⟨v, B, X', hpost, hsteps⟩ | ⟨q, B, X', hpost, hsteps⟩
  · exact Or.inl ⟨v, vm₁, B, X₁.warmed, X', hpost, fun target h => hstep₁ _ fun acts => by rw [doInvoke_state]; exact hsteps.trans h⟩
  · exact Or.inr ⟨q, vm₁, B, X₁.warmed, X', hpost, hstep₁ _ fun acts => by rw [doInvoke_state]; exact hsteps⟩
theorem vx_callS (X : Stand p l e R s m args below meth c T locs cells slots) (hexec : p.tables.exec = Jvm.exec) {own : String} {index : Nat} {y : MethodName} {bytes : ByteArray} {maxL : Nat} {ret : Option FieldType}
    (hown : s.vm.findClass own = some m.cls) (hlink : (Cond.methodLink own index y).before args s = true) (hstat : (Cond.static y).before args s = true) (hinit : (Cond.initialized y.cls).before args s = true)
    (hcode : (Cond.code y bytes maxL ret).before args s = true) (hy : y.cls ≠ "java/lang/invoke/MethodHandle" ∧ y.cls ≠ "java/lang/invoke/VarHandle")
    {W9 : Nat} {Pre : Pt → Array Value → Prop} {Post : Pt → Array Value → Option Value → Pt → Prop} {PostX : Pt → Array Value → Addr → Pt → Prop} (hK : vx_Back l R p e below s args y 3 W9 Pre Post PostX)
    {g : JFrame} (hg : g.method = m) (hsize : g.locals.size = c.maxLocals) {argsL rest : List Value} (hlen : ∀ sig, parseMethodDescriptor y.desc = some sig → argsL.length = sig.parameters.length)
    (hstack : g.stack = argsL.reverse ++ rest) (hW : 2 * g.monitorRoom + (rest.map fun v => v.category).sum ≤ W9) (hdg : decode c.code g.pc = .ok (.invokestatic index, 3))
    (hpre : ∀ vm₁, s.WarmedH vm₁ → Pre ⟨T.setVm vm₁, locs, cells, slots⟩ argsL.toArray) :
    (∃ (v : Option Value) (vm₁ : Vm) (B : Pt), s.WarmedH vm₁ ∧ Stand p l e R s m args below meth c B.U B.locs B.cells B.slots ∧ Post ⟨T.setVm vm₁, locs, cells, slots⟩ argsL.toArray v B ∧
      ∀ target, Steps p.tables e below (B.U.setTop { g with pc := g.pc + 3, stack := v.toList ++ rest }) target → Steps p.tables e below (T.setTop g) target) ∨
    (∃ (q : Addr) (vm₁ : Vm) (B : Pt), s.WarmedH vm₁ ∧ Stand p l e R s m args below meth c B.U B.locs B.cells B.slots ∧ PostX ⟨T.setVm vm₁, locs, cells, slots⟩ argsL.toArray q B ∧
      Steps p.tables e below (T.setTop g) ((B.U.setTop { g with stack := rest }).pushFrame (.throwing q))) := by
  obtain ⟨mk, hnamed⟩ := Cond.code_named hcode
  obtain ⟨methM, cM, hmethM, -, -, -, -, -, -, hsigM⟩ := Cond.code_spec hnamed hcode
  have hstatic : methM.isStatic = true := Cond.static_spec hnamed hmethM hstat
  obtain ⟨kP, hkP, -⟩ := className_of_methodNamed hnamed
  have hinitP : kP.init = .initialized := Cond.initialized_spec (findClass_of_methodNamed hnamed) hkP hinit
  obtain ⟨vm₁, X₁, hstep₁⟩ := X.invokestatic hexec hown hlink hnamed hmethM hstatic hkP hinitP hy (g := g) hg (argsL := argsL) (rest := rest) (hlen _ hsigM) hstack hdg
  rcases hK m meth c ⟨T.setVm vm₁, locs, cells, slots⟩ { g with stack := rest } (.invokestatic index) mk argsL.toArray X₁ hg hsize hdg hW (X₁.named hnamed) (hpre vm₁ X₁.warmed) with ⟨v, B, X', hpost, hsteps⟩ | ⟨q, B, X', hpost, hsteps⟩
  · exact Or.inl ⟨v, vm₁, B, X₁.warmed, X', hpost, fun target h => hstep₁ _ fun acts => by rw [doInvoke_state]; exact hsteps.trans h⟩
  · exact Or.inr ⟨q, vm₁, B, X₁.warmed, X', hpost, hstep₁ _ fun acts => by rw [doInvoke_state]; exact hsteps⟩
end Calls
theorem vx_cls {s : State} {T : State} {vm₁ : Vm} {E : String} {k : ClassId} (hW : s.WarmedH vm₁) (h : (T.setVm vm₁).vm.findClass E = some k) : s.vm.findClass E = some k := by
  have h1 : vm₁.findClass E = some k := h
  rw [hW.alike.findClass] at h1
  exact h1
/-- the method's frame g, with q thrown over it -/
def vx_W (p : Program) (l : Launch) (e : Env) (R : Room) (s : State) (m : MethodId) (args : Array Value) (below : List Frame) (meth : Method) (c : Code) (H : Heap) (locs : List Loc) (cells slots : Nat) (Q : State → Prop) (g : JFrame) (q : Addr) : Prop :=
  ∀ T : State, T.heap = H → Stand p l e R s m args below meth c T locs cells slots → ∃ t, Steps p.tables e below ((T.setTop g).pushFrame (.throwing q)) t ∧ Q t
def vx_Run (p : Program) (l : Launch) (e : Env) (R : Room) (s : State) (m : MethodId) (args : Array Value) (below : List Frame) (meth : Method) (c : Code) (H : Heap) (locs : List Loc) (cells slots mc ms : Nat) (g : JFrame) (rest : List Value) (Qa : State → Outcome → State → Prop) (XC : String → State → State → Prop) (free : Addr → Prop) : Prop :=
  ∀ T : State, T.heap = H → Stand p l e R s m args below meth c T locs cells slots →
    (∃ (v : Option Value) (st₀ t T' : State) (L : List Loc), st₀.heap = H ∧ Stand p l e R s m args below meth c T' (locs ++ L) (cells + mc) (slots + ms) ∧ (∀ q ∈ L, free q.base) ∧ T'.heap = t.heap ∧ T'.vm = t.vm ∧ Qa st₀ (.returned v) t ∧
      Goes p e below T g T' { g with pc := g.pc + 3, stack := v.toList ++ rest }) ∨
    (∃ (q : Addr) (st₀ t T' : State) (L : List Loc) (E : String) (ce : Cell), st₀.heap = H ∧ Stand p l e R s m args below meth c T' (locs ++ L) (cells + mc) (slots + ms) ∧ (∀ z ∈ L, free z.base) ∧ T'.heap = t.heap ∧ T'.vm = t.vm ∧ XC E st₀ t ∧ t.heap[q]? = some ce ∧ ce.vm = .none ∧ s.vm.findClass E = some ce.cls ∧
      Steps p.tables e below (T.setTop g) ((T'.setTop { g with stack := rest }).pushFrame (.throwing q)))
def vx_X {S : Type} (px : S → Prop) (B : String → S → State → Prop) (A : Nat → Prop) : String → State → State → Prop := fun E st t => ∃ u : S, px u ∧ B E u t ∧ va_F A st t
section Runs
variable {p : Program} {l : Launch} {e : Env} {R : Room} {s : State} {m : MethodId} {args : Array Value} {below : List Frame} {meth : Method} {c : Code} {H : Heap} {locs : List Loc} {cells slots : Nat}
variable {y : MethodName} {bytes cc : ByteArray} {maxL nL mc ms n index : Nat} {ret : Option FieldType} {ws : List Cond} {rm : Room} {Pc : Array Value → State → Prop} {Qc : Array Value → State → Outcome → State → Prop} {XC : String → State → State → Prop} {free : Addr → Prop} {Ts : List Cond} {own C : String} {b : Addr} {As rest : List Value} {g : JFrame}
theorem vx_callBack (cb : CallB R s args own index y bytes maxL ret ws rm mc ms n) (hM : vx_Met l y ws rm Pc Qc XC mc ms free) (hbl : FrameBlind Pc) : vx_Back l R p e below s args y 3 8 (PreOf R mc ms Pc) (PostOf Qc mc ms free) (vx_Post XC mc ms free) := by
  obtain ⟨hrc, hrs, hfr, hlo, hws, hcw, -, hini, -⟩ := cb
  exact vx_back (bytes := bytes) (maxL := maxL) (ret := ret) hM hbl hrc hrs hfr hlo hws hcw (fun a' U hW => word_at hW (Or.inl (by first | rfl | simp [Cond.onTables, Cond.keeps, Cond.steady])) hini)
theorem vx_runV (S : CallFix p m c cc nL s args Ts own) (hM : vx_Met l y ws rm Pc Qc XC mc ms free) (cw : CallW R s args own C index y bytes maxL ret ws rm mc ms n) (hp : PreV s H C b Pc As)
    (hg : g.method = m) (hn : As.length = n) (hsize : g.locals.size = nL) (hstack : g.stack = As.reverse ++ .ref b :: rest) (hW : 2 * g.monitorRoom + (rest.map fun v => v.category).sum ≤ 8) (hdg : decode cc g.pc = .ok (.invokevirtual index, 3)) (hf : cells + mc ≤ R.cells ∧ slots + ms ≤ R.slots) :
    vx_Run p l e R s m args below meth c H locs cells slots mc ms g rest (Qc (Value.ref b :: As).toArray) XC free := by
  have hK : vx_Back l R p e below s args y 3 8 (PreOf R mc ms Pc) (PostOf Qc mc ms free) (vx_Post XC mc ms free) := vx_callBack cw.1 hM hp.1
  obtain ⟨⟨-, -, -, -, -, -, hcode, -, hy, hlen, hl⟩, hin, hse⟩ := cw
  obtain ⟨hx, hb, hml, ho, -⟩ := S
  obtain ⟨-, ⟨cellB, hcB, hoB, hclB⟩, hPc⟩ := hp
  intro T hT X
  rcases vx_callV X hx (C := C) (bytes := bytes) (maxL := maxL) (ret := ret) ho hl hin hse hcode hy hK (by rw [hT]; exact hcB) hoB hclB hg (hsize.trans hml.symm) (argsL := As) (rest := rest) (fun sig h => hn.trans (hlen sig h)) hstack hW (by rw [hb]; exact hdg)
    (fun vm₁ hW₁ => ⟨hf.1, hf.2, hPc (T.setVm vm₁) hT hW₁⟩) with ⟨v, vm₁, ⟨U', l2, c2, s2⟩, hW₁, X', ⟨g', mk, t, L, e1, e2, hq, h1, hL, h2, h3⟩, st⟩ | ⟨q, vm₁, ⟨U', l2, c2, s2⟩, hW₁, X', ⟨g', mk, t, L, E, ce, e1, e2, hq, hce, hcv, hcl, h1, hL, h2, h3⟩, st⟩
  · dsimp only [Pt.U, Pt.locs, Pt.cells, Pt.slots] at X' e1 e2 h1 h2 h3 st
    subst h1; subst h2; subst h3
    exact Or.inl ⟨v, (T.setVm vm₁).calling g' mk (Value.ref b :: As).toArray, t, U', L, hT, X', hL, e1, e2, hq, st⟩
  · dsimp only [Pt.U, Pt.locs, Pt.cells, Pt.slots] at X' e1 e2 h1 h2 h3 st hcl
    subst h1; subst h2; subst h3
    exact Or.inr ⟨q, (T.setVm vm₁).calling g' mk (Value.ref b :: As).toArray, t, U', L, E, ce, hT, X', hL, e1, e2, hq, hce, hcv, vx_cls hW₁ hcl, st⟩
theorem vx_runS (S : CallFix p m c cc nL s args Ts own) (hM : vx_Met l y ws rm Pc Qc XC mc ms free) (cw : CallB R s args own index y bytes maxL ret ws rm mc ms n ∧ (Cond.static y).before args s = true) (hp : PreS s H Pc As)
    (hg : g.method = m) (hn : As.length = n) (hsize : g.locals.size = nL) (hstack : g.stack = As.reverse ++ rest) (hW : 2 * g.monitorRoom + (rest.map fun v => v.category).sum ≤ 8) (hdg : decode cc g.pc = .ok (.invokestatic index, 3)) (hf : cells + mc ≤ R.cells ∧ slots + ms ≤ R.slots) :
    vx_Run p l e R s m args below meth c H locs cells slots mc ms g rest (Qc As.toArray) XC free := by
  have hK : vx_Back l R p e below s args y 3 8 (PreOf R mc ms Pc) (PostOf Qc mc ms free) (vx_Post XC mc ms free) := vx_callBack cw.1 hM hp.1
  obtain ⟨⟨-, -, -, -, -, -, hcode, hini, hy, hlen, hl⟩, hstt⟩ := cw
  obtain ⟨hx, hb, hml, ho, -⟩ := S
  intro T hT X
  rcases vx_callS X hx (bytes := bytes) (maxL := maxL) (ret := ret) ho hl hstt hini hcode hy hK hg (hsize.trans hml.symm) (argsL := As) (rest := rest) (fun sig h => hn.trans (hlen sig h)) hstack hW (by rw [hb]; exact hdg)
    (fun vm₁ hW₁ => ⟨hf.1, hf.2, hp.2 (T.setVm vm₁) hT hW₁⟩) with ⟨v, vm₁, ⟨U', l2, c2, s2⟩, hW₁, X', ⟨g', mk, t, L, e1, e2, hq, h1, hL, h2, h3⟩, st⟩ | ⟨q, vm₁, ⟨U', l2, c2, s2⟩, hW₁, X', ⟨g', mk, t, L, E, ce, e1, e2, hq, hce, hcv, hcl, h1, hL, h2, h3⟩, st⟩
  · dsimp only [Pt.U, Pt.locs, Pt.cells, Pt.slots] at X' e1 e2 h1 h2 h3 st
    subst h1; subst h2; subst h3
    exact Or.inl ⟨v, (T.setVm vm₁).calling g' mk As.toArray, t, U', L, hT, X', hL, e1, e2, hq, st⟩
  · dsimp only [Pt.U, Pt.locs, Pt.cells, Pt.slots] at X' e1 e2 h1 h2 h3 st hcl
    subst h1; subst h2; subst h3
    exact Or.inr ⟨q, (T.setVm vm₁).calling g' mk As.toArray, t, U', L, E, ce, hT, X', hL, e1, e2, hq, hce, hcv, vx_cls hW₁ hcl, st⟩
end Runs
section Rows
variable {p : Program} {l : Launch} {e : Env} {R : Room} {s : State} {m : MethodId} {args : Array Value} {below : List Frame} {meth : Method} {c : Code} {H : Heap} {locs : List Loc} {cells slots : Nat} {Q : State → Prop}
variable {mc ms : Nat} {free : Addr → Prop} {A0 A1 : Nat → Prop} {H0 : Heap} {a : Array Value} {pc : Nat} {ls : Array Slot} {st0 rest : List Value}
theorem vx_keep {st₀ t T' : State} {L : List Loc} (h0 : st₀.heap = H) (e1 : T'.heap = t.heap) (hS : va_S A0 H0 H locs) (hA : ∀ q, q < H.size → A1 q → A0 q) (hf : ∀ q, free q → A0 q) (hL : ∀ q ∈ L, free q.base) (hF : va_F A1 st₀ t) :
    H.size ≤ T'.heap.size ∧ (∀ q : Nat, q < H.size → ¬ A1 q → T'.heap[q]? = H[q]?) ∧ va_S A0 H0 T'.heap (locs ++ L) := by
  obtain ⟨hz, hk⟩ := hF
  rw [h0] at hz hk
  exact ⟨by rw [e1]; exact hz, fun q h1 h2 => by rw [e1]; exact hk q h1 h2,
    ⟨Nat.le_trans hS.1 (by rw [e1]; exact hz), fun q h1 h2 => by rw [e1, hk q (Nat.lt_of_lt_of_le h1 hS.1) (fun z => h2 (hA q (Nat.lt_of_lt_of_le h1 hS.1) z))]; exact hS.2.1 q h1 h2, fun q hq => by
      rcases List.mem_append.mp hq with h | h
      · exact hS.2.2 q h
      · exact hf _ (hL q h)⟩⟩
theorem vx_calli {S SX : Type} {post : Int32 → S → Prop} {px : SX → Prop} {B : S → State → Prop} {BX : String → SX → State → Prop} {AX : Nat → Prop} (hr : vx_Run p l e R s m args below meth c H locs cells slots mc ms (F0 m pc ls st0) rest (va_Qi post B A1 a) (vx_X px BX AX) free) (hS : va_S A0 H0 H locs) (hA : ∀ q, q < H.size → A1 q → A0 q) (hf : ∀ q, free q → A0 q) (hAX : ∀ q, q < H.size → AX q → A0 q)
    (kx : ∀ (E : String) (ce : Cell) (q9 : Addr) (u : SX) (t : State) (H1 : Heap) (locs1 : List Loc), t.heap = H1 → s.vm.Alike t.vm → px u → BX E u t → H.size ≤ H1.size → (∀ q : Nat, q < H.size → ¬ AX q → H1[q]? = H[q]?) → va_S A0 H0 H1 locs1 → H1[q9]? = some ce → ce.vm = .none → s.vm.findClass E = some ce.cls → vx_W p l e R s m args below meth c H1 locs1 (cells + mc) (slots + ms) Q (F0 m pc ls rest) q9)
    (kk : ∀ (r : Int32) (u : S) (t : State) (H1 : Heap) (locs1 : List Loc), t.heap = H1 → s.vm.Alike t.vm → post r u → B u t → H.size ≤ H1.size → (∀ q : Nat, q < H.size → ¬ A1 q → H1[q]? = H[q]?) → va_S A0 H0 H1 locs1 → W p l e R s m args below meth c H1 locs1 (cells + mc) (slots + ms) Q (F0 m (pc + 3) ls (.int r :: rest))) : W p l e R s m args below meth c H locs cells slots Q (F0 m pc ls st0) := by
  intro T hT X
  rcases hr T hT X with ⟨v, st₀, t, T', L, h0, X', hL, e1, e2, ⟨⟨r, u, hv, hp, hb⟩, hF⟩, st⟩ | ⟨q, st₀, t, T', L, E, ce, h0, X', hL, e1, e2, ⟨u, hp, hb, hF⟩, hce, hcv, hcl, st⟩
  · cases hv
    obtain ⟨k1, k2, k3⟩ := vx_keep h0 e1 hS hA hf hL hF
    obtain ⟨t2, a1, b1⟩ := kk r u t T'.heap (locs ++ L) e1.symm (by rw [← e2]; exact X'.warmed.alike) hp hb k1 k2 k3 T' rfl X'
    exact ⟨t2, st t2 a1, b1⟩
  · obtain ⟨k1, k2, k3⟩ := vx_keep h0 e1 hS hAX hf hL hF
    obtain ⟨t2, a1, b1⟩ := kx E ce q u t T'.heap (locs ++ L) e1.symm (by rw [← e2]; exact X'.warmed.alike) hp hb k1 k2 k3 (by rw [e1]; exact hce) hcv hcl T' rfl X'
    exact ⟨t2, st.trans a1, b1⟩
theorem vx_calll {S SX : Type} {post : Int64 → S → Prop} {px : SX → Prop} {B : S → State → Prop} {BX : String → SX → State → Prop} {AX : Nat → Prop} (hr : vx_Run p l e R s m args below meth c H locs cells slots mc ms (F0 m pc ls st0) rest (va_Ql post B A1 a) (vx_X px BX AX) free) (hS : va_S A0 H0 H locs) (hA : ∀ q, q < H.size → A1 q → A0 q) (hf : ∀ q, free q → A0 q) (hAX : ∀ q, q < H.size → AX q → A0 q)
    (kx : ∀ (E : String) (ce : Cell) (q9 : Addr) (u : SX) (t : State) (H1 : Heap) (locs1 : List Loc), t.heap = H1 → s.vm.Alike t.vm → px u → BX E u t → H.size ≤ H1.size → (∀ q : Nat, q < H.size → ¬ AX q → H1[q]? = H[q]?) → va_S A0 H0 H1 locs1 → H1[q9]? = some ce → ce.vm = .none → s.vm.findClass E = some ce.cls → vx_W p l e R s m args below meth c H1 locs1 (cells + mc) (slots + ms) Q (F0 m pc ls rest) q9)
    (kk : ∀ (r : Int64) (u : S) (t : State) (H1 : Heap) (locs1 : List Loc), t.heap = H1 → s.vm.Alike t.vm → post r u → B u t → H.size ≤ H1.size → (∀ q : Nat, q < H.size → ¬ A1 q → H1[q]? = H[q]?) → va_S A0 H0 H1 locs1 → W p l e R s m args below meth c H1 locs1 (cells + mc) (slots + ms) Q (F0 m (pc + 3) ls (.long r :: rest))) : W p l e R s m args below meth c H locs cells slots Q (F0 m pc ls st0) := by
  intro T hT X
  rcases hr T hT X with ⟨v, st₀, t, T', L, h0, X', hL, e1, e2, ⟨⟨r, u, hv, hp, hb⟩, hF⟩, st⟩ | ⟨q, st₀, t, T', L, E, ce, h0, X', hL, e1, e2, ⟨u, hp, hb, hF⟩, hce, hcv, hcl, st⟩
  · cases hv
    obtain ⟨k1, k2, k3⟩ := vx_keep h0 e1 hS hA hf hL hF
    obtain ⟨t2, a1, b1⟩ := kk r u t T'.heap (locs ++ L) e1.symm (by rw [← e2]; exact X'.warmed.alike) hp hb k1 k2 k3 T' rfl X'
    exact ⟨t2, st t2 a1, b1⟩
  · obtain ⟨k1, k2, k3⟩ := vx_keep h0 e1 hS hAX hf hL hF
    obtain ⟨t2, a1, b1⟩ := kx E ce q u t T'.heap (locs ++ L) e1.symm (by rw [← e2]; exact X'.warmed.alike) hp hb k1 k2 k3 (by rw [e1]; exact hce) hcv hcl T' rfl X'
    exact ⟨t2, st.trans a1, b1⟩
theorem vx_callf {S SX : Type} {post : UInt32 → S → Prop} {px : SX → Prop} {B : S → State → Prop} {BX : String → SX → State → Prop} {AX : Nat → Prop} (hr : vx_Run p l e R s m args below meth c H locs cells slots mc ms (F0 m pc ls st0) rest (va_Qf post B A1 a) (vx_X px BX AX) free) (hS : va_S A0 H0 H locs) (hA : ∀ q, q < H.size → A1 q → A0 q) (hf : ∀ q, free q → A0 q) (hAX : ∀ q, q < H.size → AX q → A0 q)
    (kx : ∀ (E : String) (ce : Cell) (q9 : Addr) (u : SX) (t : State) (H1 : Heap) (locs1 : List Loc), t.heap = H1 → s.vm.Alike t.vm → px u → BX E u t → H.size ≤ H1.size → (∀ q : Nat, q < H.size → ¬ AX q → H1[q]? = H[q]?) → va_S A0 H0 H1 locs1 → H1[q9]? = some ce → ce.vm = .none → s.vm.findClass E = some ce.cls → vx_W p l e R s m args below meth c H1 locs1 (cells + mc) (slots + ms) Q (F0 m pc ls rest) q9)
    (kk : ∀ (r : UInt32) (u : S) (t : State) (H1 : Heap) (locs1 : List Loc), t.heap = H1 → s.vm.Alike t.vm → post r u → B u t → H.size ≤ H1.size → (∀ q : Nat, q < H.size → ¬ A1 q → H1[q]? = H[q]?) → va_S A0 H0 H1 locs1 → W p l e R s m args below meth c H1 locs1 (cells + mc) (slots + ms) Q (F0 m (pc + 3) ls (.float r :: rest))) : W p l e R s m args below meth c H locs cells slots Q (F0 m pc ls st0) := by
  intro T hT X
  rcases hr T hT X with ⟨v, st₀, t, T', L, h0, X', hL, e1, e2, ⟨⟨r, u, hv, hp, hb⟩, hF⟩, st⟩ | ⟨q, st₀, t, T', L, E, ce, h0, X', hL, e1, e2, ⟨u, hp, hb, hF⟩, hce, hcv, hcl, st⟩
  · cases hv
    obtain ⟨k1, k2, k3⟩ := vx_keep h0 e1 hS hA hf hL hF
    obtain ⟨t2, a1, b1⟩ := kk r u t T'.heap (locs ++ L) e1.symm (by rw [← e2]; exact X'.warmed.alike) hp hb k1 k2 k3 T' rfl X'
    exact ⟨t2, st t2 a1, b1⟩
  · obtain ⟨k1, k2, k3⟩ := vx_keep h0 e1 hS hAX hf hL hF
    obtain ⟨t2, a1, b1⟩ := kx E ce q u t T'.heap (locs ++ L) e1.symm (by rw [← e2]; exact X'.warmed.alike) hp hb k1 k2 k3 (by rw [e1]; exact hce) hcv hcl T' rfl X'
    exact ⟨t2, st.trans a1, b1⟩
theorem vx_calld {S SX : Type} {post : UInt64 → S → Prop} {px : SX → Prop} {B : S → State → Prop} {BX : String → SX → State → Prop} {AX : Nat → Prop} (hr : vx_Run p l e R s m args below meth c H locs cells slots mc ms (F0 m pc ls st0) rest (va_Qd post B A1 a) (vx_X px BX AX) free) (hS : va_S A0 H0 H locs) (hA : ∀ q, q < H.size → A1 q → A0 q) (hf : ∀ q, free q → A0 q) (hAX : ∀ q, q < H.size → AX q → A0 q)
    (kx : ∀ (E : String) (ce : Cell) (q9 : Addr) (u : SX) (t : State) (H1 : Heap) (locs1 : List Loc), t.heap = H1 → s.vm.Alike t.vm → px u → BX E u t → H.size ≤ H1.size → (∀ q : Nat, q < H.size → ¬ AX q → H1[q]? = H[q]?) → va_S A0 H0 H1 locs1 → H1[q9]? = some ce → ce.vm = .none → s.vm.findClass E = some ce.cls → vx_W p l e R s m args below meth c H1 locs1 (cells + mc) (slots + ms) Q (F0 m pc ls rest) q9)
    (kk : ∀ (r : UInt64) (u : S) (t : State) (H1 : Heap) (locs1 : List Loc), t.heap = H1 → s.vm.Alike t.vm → post r u → B u t → H.size ≤ H1.size → (∀ q : Nat, q < H.size → ¬ A1 q → H1[q]? = H[q]?) → va_S A0 H0 H1 locs1 → W p l e R s m args below meth c H1 locs1 (cells + mc) (slots + ms) Q (F0 m (pc + 3) ls (.double r :: rest))) : W p l e R s m args below meth c H locs cells slots Q (F0 m pc ls st0) := by
  intro T hT X
  rcases hr T hT X with ⟨v, st₀, t, T', L, h0, X', hL, e1, e2, ⟨⟨r, u, hv, hp, hb⟩, hF⟩, st⟩ | ⟨q, st₀, t, T', L, E, ce, h0, X', hL, e1, e2, ⟨u, hp, hb, hF⟩, hce, hcv, hcl, st⟩
  · cases hv
    obtain ⟨k1, k2, k3⟩ := vx_keep h0 e1 hS hA hf hL hF
    obtain ⟨t2, a1, b1⟩ := kk r u t T'.heap (locs ++ L) e1.symm (by rw [← e2]; exact X'.warmed.alike) hp hb k1 k2 k3 T' rfl X'
    exact ⟨t2, st t2 a1, b1⟩
  · obtain ⟨k1, k2, k3⟩ := vx_keep h0 e1 hS hAX hf hL hF
    obtain ⟨t2, a1, b1⟩ := kx E ce q u t T'.heap (locs ++ L) e1.symm (by rw [← e2]; exact X'.warmed.alike) hp hb k1 k2 k3 (by rw [e1]; exact hce) hcv hcl T' rfl X'
    exact ⟨t2, st.trans a1, b1⟩
theorem vx_callv {S SX : Type} {post : S → Prop} {px : SX → Prop} {B : S → State → Prop} {BX : String → SX → State → Prop} {AX : Nat → Prop} (hr : vx_Run p l e R s m args below meth c H locs cells slots mc ms (F0 m pc ls st0) rest (va_Qv post B A1 a) (vx_X px BX AX) free) (hS : va_S A0 H0 H locs) (hA : ∀ q, q < H.size → A1 q → A0 q) (hf : ∀ q, free q → A0 q) (hAX : ∀ q, q < H.size → AX q → A0 q)
    (kx : ∀ (E : String) (ce : Cell) (q9 : Addr) (u : SX) (t : State) (H1 : Heap) (locs1 : List Loc), t.heap = H1 → s.vm.Alike t.vm → px u → BX E u t → H.size ≤ H1.size → (∀ q : Nat, q < H.size → ¬ AX q → H1[q]? = H[q]?) → va_S A0 H0 H1 locs1 → H1[q9]? = some ce → ce.vm = .none → s.vm.findClass E = some ce.cls → vx_W p l e R s m args below meth c H1 locs1 (cells + mc) (slots + ms) Q (F0 m pc ls rest) q9)
    (kk : ∀ (u : S) (t : State) (H1 : Heap) (locs1 : List Loc), t.heap = H1 → s.vm.Alike t.vm → post u → B u t → H.size ≤ H1.size → (∀ q : Nat, q < H.size → ¬ A1 q → H1[q]? = H[q]?) → va_S A0 H0 H1 locs1 → W p l e R s m args below meth c H1 locs1 (cells + mc) (slots + ms) Q (F0 m (pc + 3) ls (rest))) : W p l e R s m args below meth c H locs cells slots Q (F0 m pc ls st0) := by
  intro T hT X
  rcases hr T hT X with ⟨v, st₀, t, T', L, h0, X', hL, e1, e2, ⟨⟨u, hv, hp, hb⟩, hF⟩, st⟩ | ⟨q, st₀, t, T', L, E, ce, h0, X', hL, e1, e2, ⟨u, hp, hb, hF⟩, hce, hcv, hcl, st⟩
  · cases hv
    obtain ⟨k1, k2, k3⟩ := vx_keep h0 e1 hS hA hf hL hF
    obtain ⟨t2, a1, b1⟩ := kk u t T'.heap (locs ++ L) e1.symm (by rw [← e2]; exact X'.warmed.alike) hp hb k1 k2 k3 T' rfl X'
    exact ⟨t2, st t2 a1, b1⟩
  · obtain ⟨k1, k2, k3⟩ := vx_keep h0 e1 hS hAX hf hL hF
    obtain ⟨t2, a1, b1⟩ := kx E ce q u t T'.heap (locs ++ L) e1.symm (by rw [← e2]; exact X'.warmed.alike) hp hb k1 k2 k3 (by rw [e1]; exact hce) hcv hcl T' rfl X'
    exact ⟨t2, st.trans a1, b1⟩
/-- caught by the row x of this method's table; the rows ahead don't take it -/
theorem vx_catch {own name : String} {E : String} {ce : Cell} {q : Addr} (hown : s.vm.findClass own = some m.cls) (pre : List ExceptionTableEntry) (x : ExceptionTableEntry) (suf : List ExceptionTableEntry) (hsplit : c.exceptionTable.toList = pre ++ x :: suf)
    (hpass : ∀ z ∈ pre, covers z pc = false ∨ (z.catchType ≠ 0 ∧ ∃ nm : String, (Cond.classLink own z.catchType nm).before args s = true ∧ va_Nc E nm s)) (hx : covers x pc = true) (h0 : x.catchType ≠ 0)
    (hlink : (Cond.classLink own x.catchType name).before args s = true) (hcast : (Cond.castable E name).before args s = true) (hcell : H[q]? = some ce) (hv : ce.vm = .none) (hcl : s.vm.findClass E = some ce.cls)
    (kk : W p l e R s m args below meth c H locs cells slots Q (F0 m x.handlerPc ls [.ref q])) : vx_W p l e R s m args below meth c H locs cells slots Q (F0 m pc ls rest) q := by
  intro T hT X
  have hpl : e.platform.magicAccessors = ({} : Platform).magicAccessors := by rw [X.admits.platform]
  obtain ⟨c3, c4, hc3, hc4, hasg⟩ := Cond.castable_spec hcast
  cases Option.some.inj (hc3.symm.trans hcl)
  obtain ⟨c5, hc5, hcl5⟩ := Cond.classLink_spec hown hlink e.platform hpl
  cases Option.some.inj (hc4.symm.trans hc5)
  obtain ⟨vm', X', st⟩ := X.thenCaughtThrough q (g := F0 m pc ls rest) rfl (Steps.refl _) (by rw [hT]; exact hcell) (by rw [hv]; rfl) (by obtain ⟨k9, h9, -⟩ := Vm.findClass_spec hcl; exact ⟨k9, h9⟩) pre x suf hsplit
    (fun z hz => by
      rcases hpass z hz with h | ⟨hz0, nm, hl1, hn1⟩
      · exact Or.inl h
      · obtain ⟨c6, hc6, hcl6⟩ := Cond.classLink_spec hown hl1 e.platform hpl
        obtain ⟨a8, b8, h1, h2, h3⟩ := hn1
        cases Option.some.inj (h1.symm.trans hcl)
        cases Option.some.inj (h2.symm.trans hc6)
        exact Or.inr ⟨hz0, _, hcl6, h3⟩) hx (Or.inr ⟨h0, c4, hcl5, hasg⟩)
  obtain ⟨t, a1, b1⟩ := kk (T.setVm vm') hT X'
  exact ⟨t, st.trans a1, b1⟩
end Rows
section Ends
variable {p : Program} {l : Launch} {e : Env} {R : Room} {s : State} {m : MethodId} {args : Array Value} {below : List Frame} {meth : Method} {c : Code} {H : Heap} {locs : List Loc} {cells slots : Nat} {Q : State → Prop}
variable {mc ms : Nat} {free : Addr → Prop} {A0 A1 : Nat → Prop} {H0 : Heap} {a : Array Value} {ls : Array Slot} {st0 rest : List Value}
variable {Qc : Array Value → State → Outcome → State → Prop} {XC : String → State → State → Prop}
/-- what a body that may throw owes at its end -/
def vx_MQ (below : List Frame) (Qc : Array Value → State → Outcome → State → Prop) (XC : String → State → State → Prop) (a : Array Value) (s : State) (mc ms : Nat) (free : Addr → Prop) : State → Prop := fun t =>
  ∃ o, t.status = .running ∧ Ended t below o ∧ vx_Q Qc XC mc ms free a s o t
theorem vx_ret {g : JFrame} {mc ms : Nat} (k : W p l e R s m args below meth c H locs cells slots (MQ below Qc args s mc ms free) g) : W p l e R s m args below meth c H locs cells slots (vx_MQ below Qc XC args s mc ms free) g := by
  intro T hT X
  obtain ⟨t, a1, o, b1, b2, b3, b4⟩ := k T hT X
  exact ⟨t, a1, o, b1, b2, Or.inl ⟨b3, b4⟩⟩
/-- not caught here: it goes on to the caller -/
theorem vx_widen {g : JFrame} {q : Addr} {k n : Nat} (h1 : cells ≤ k) (h2 : slots ≤ n) (kk : vx_W p l e R s m args below meth c H locs k n Q g q) : vx_W p l e R s m args below meth c H locs cells slots Q g q := fun T hT X => kk T hT (stand_widen X h1 h2)
theorem vx_out {pc : Nat} {E : String} {ce : Cell} {q : Addr} {mc ms : Nat} (hout : ∀ x ∈ c.exceptionTable.toList, covers x pc = false) (hlocks : meth.locks = false) (hcell : H[q]? = some ce) (hv : ce.vm = .none) (hcl : s.vm.findClass E = some ce.cls)
    (hx : ∀ t : State, t.heap = H → s.vm.Alike t.vm → XC E s t) (hf : ∀ z ∈ locs, free z.base) (hc : cells ≤ mc) (hs : slots ≤ ms) :
    vx_W p l e R s m args below meth c H locs cells slots (vx_MQ below Qc XC args s mc ms free) (F0 m pc ls rest) q := by
  intro T hT X
  obtain ⟨st1, hrun, hend, hW, hsm⟩ := X.leaveThrown q (g := F0 m pc ls rest) rfl rfl rfl hout hlocks
  have hcell9 : (T.setFrames (.throwing q :: below)).heap[q]? = some ce := by
    show T.heap[q]? = some ce
    rw [hT]; exact hcell
  exact ⟨_, st1, .threw q, hrun, hend, Or.inr ⟨q, rfl, E, ce, locs, hx _ hT hW.alike, hcell9, hv, hcl, hW, hsm.mono hc hs, hf⟩⟩
theorem vx_frame {U : State} {k n : Nat} (h : s.sameButNew ({ U with vm := s.vm } : State) locs k n) : s.heap.size ≤ U.heap.size ∧ ∀ q : Nat, q < s.heap.size → (∀ z ∈ locs, z.base ≠ q) → U.heap[q]? = s.heap[q]? := by
  obtain ⟨-, h2, -, -, -, h6⟩ := h
  refine ⟨h2, fun q hq hz => ?_⟩
  obtain ⟨c9, e1, e2, e3, e4⟩ := h6 q _ (Array.getElem?_eq_getElem hq)
  have hs : c9.slots = (s.heap[q]).slots := Array.ext_getElem? fun i => e4 i fun hm => hz _ hm rfl
  have h9 : c9 = s.heap[q] := by
    rw [hs] at e2
    exact e2
  have e5 : U.heap[q]? = some c9 := e1
  rw [e5, h9, Array.getElem?_eq_getElem hq]
/-- the words of a throw but the four that speak of the heap -/
def vx_no (w : Cond) : Bool := decide (w ≠ .isRef (.static Bundle.tN "UNASSIGNED_STACK" Bundle.steD)) && decide (w ≠ .isRef (.static Bundle.tN "SUPPRESSED_SENTINEL" Bundle.listD)) && decide (w ≠ .laysStatic Bundle.tN "UNASSIGNED_STACK" Bundle.steD) && decide (w ≠ .laysStatic Bundle.tN "SUPPRESSED_SENTINEL" Bundle.listD)
def vx_at0 (own : String) (ic : Nat) (X : String) (names : List String) : List Cond := (Bundle.ownAtoms0 own ic X names).filter vx_no
def vx_atS (own : String) (ic : Nat) (X : String) (names : List String) : List Cond := (Bundle.ownAtoms own ic X names).filter vx_no
/-- a word that the tables alone decide, or a good one -/
def vx_ot (w : Cond) : Bool := w.onTables || goodWord w
theorem vx_ot_at {args a' : Array Value} {s U : State} {w : Cond} (hW : s.WarmedH U.vm) (hvm : s.vm = U.vm) (hg : vx_ot w = true) (h : w.before args s = true) : w.before a' U = true := by
  simp only [vx_ot, Bool.or_eq_true] at hg
  rcases hg with hg | hg
  · exact va_tabs hg hvm h
  · exact word_at hW (good_of_word hg) h
/-- a list's words: the good ones out of the method's own list, the others by premises of their own -/
theorem vx_hat {args : Array Value} {s : State} {L B : List Cond} (h1 : ∀ w ∈ L.filter goodWord, w.before args s = true) (h2 : ∀ w ∈ L.filter (fun w => !goodWord w), w ∈ B) (h3 : ∀ w ∈ B, w.before args s = true) : ∀ w ∈ L, w.before args s = true := by
  intro w hw
  by_cases g : goodWord w = true
  · exact h1 w (List.mem_filter.mpr ⟨hw, g⟩)
  · refine h3 w (h2 w (List.mem_filter.mpr ⟨hw, ?_⟩))
    show (!goodWord w) = true
    cases hgw : goodWord w
    · rfl
    · exact absurd hgw g
theorem vx_c {args : Array Value} {s : State} {w : Cond} {B : List Cond} (h : w.before args s = true) (t : ∀ w ∈ B, w.before args s = true) : ∀ w' ∈ w :: B, w'.before args s = true := fun w' h' => (List.mem_cons.mp h').elim (fun e => by rw [e]; exact h) (t w')
theorem vx_n {args : Array Value} {s : State} : ∀ w ∈ ([] : List Cond), w.before args s = true := fun _ h => nomatch h
theorem vx_own {args : Array Value} {s : State} {L : List Cond} (h1 : ∀ w ∈ L.filter vx_no, w.before args s = true)
    (hU : (Cond.isRef (.static Bundle.tN "UNASSIGNED_STACK" Bundle.steD)).before args s = true) (hN : (Cond.isRef (.static Bundle.tN "SUPPRESSED_SENTINEL" Bundle.listD)).before args s = true)
    (lU : (Cond.laysStatic Bundle.tN "UNASSIGNED_STACK" Bundle.steD).before args s = true) (lN : (Cond.laysStatic Bundle.tN "SUPPRESSED_SENTINEL" Bundle.listD).before args s = true) : ∀ w ∈ L, w.before args s = true := by
  intro w hw
  by_cases e1 : w = .isRef (.static Bundle.tN "UNASSIGNED_STACK" Bundle.steD)
  · rw [e1]; exact hU
  · by_cases e2 : w = .isRef (.static Bundle.tN "SUPPRESSED_SENTINEL" Bundle.listD)
    · rw [e2]; exact hN
    · by_cases e3 : w = .laysStatic Bundle.tN "UNASSIGNED_STACK" Bundle.steD
      · rw [e3]; exact lU
      · by_cases e4 : w = .laysStatic Bundle.tN "SUPPRESSED_SENTINEL" Bundle.listD
        · rw [e4]; exact lN
        · exact h1 w (List.mem_filter.mpr ⟨hw, by unfold vx_no; rw [decide_eq_true e1, decide_eq_true e2, decide_eq_true e3, decide_eq_true e4]; rfl⟩)
/-- where a static field lies, its class's statics cell in H -/
def vx_L (C n d : String) (A : Nat → Prop) (U : State) (H : Heap) : Prop := ∃ (c : ClassId) (k : Class) (i : Nat) (f : Field) (a : Nat) (cell : Cell), U.vm.findClass C = some c ∧ U.fieldFound? C n d = some (c, k, i, f) ∧ f.isStatic = true ∧ k.statics = some a ∧ H[a]? = some cell ∧ cell.vm.isStatics = true ∧ cell.cls = c ∧ f.slot < cell.slots.size ∧ k.staticTypes[f.slot]? = some f.type ∧ ¬ A a
theorem vx_L.moved {C n d : String} {A : Nat → Prop} {u U : State} {H : Heap} (hvm : u.vm.Alike U.vm) (h : vx_L C n d A u H) : vx_L C n d A U H := by
  obtain ⟨c, k, i, f, a, cell, h1, h2, h3, h4, h5, h6, h7, h8, h9, h10⟩ := h
  obtain ⟨k', hi', he⟩ := State.fieldFound?_setVm hvm h2
  exact ⟨c, k', i, f, a, cell, by rw [hvm.findClass]; exact h1, hi', h3, by rw [he]; exact h4, h5, h6, h7, h8, by rw [he]; exact h9, h10⟩
theorem vx_L.kept {C n d : String} {A : Nat → Prop} {U : State} {H H1 : Heap} (h : vx_L C n d A U H) (hq : ∀ a : Nat, a < H.size → ¬ A a → H1[a]? = H[a]?) : vx_L C n d A U H1 := by
  obtain ⟨c, k, i, f, a, cell, h1, h2, h3, h4, h5, h6, h7, h8, h9, h10⟩ := h
  exact ⟨c, k, i, f, a, cell, h1, h2, h3, h4, by rw [hq a (Array.getElem?_eq_some_iff.mp h5).1 h10]; exact h5, h6, h7, h8, h9, h10⟩
theorem vx_L.narrow {C n d : String} {A B : Nat → Prop} {U : State} {H : Heap} (h : vx_L C n d A U H) (hAB : ∀ q, B q → A q) : vx_L C n d B U H := by
  obtain ⟨c, k, i, f, a, cell, h1, h2, h3, h4, h5, h6, h7, h8, h9, h10⟩ := h
  exact ⟨c, k, i, f, a, cell, h1, h2, h3, h4, h5, h6, h7, h8, h9, fun z => h10 (hAB _ z)⟩
theorem vx_L.word {C n d : String} {A : Nat → Prop} {s : State} {args : Array Value} (h : vx_L C n d A s s.heap) : (Cond.laysStatic C n d).before args s = true := by
  obtain ⟨c, k, i, f, a, cell, h1, h2, h3, h4, h5, h6, h7, h8, h9, -⟩ := h
  show (Cond.laysStatic C n d).holds args s none s [] = true
  exact Cond.laysStatic_of h1 h2 h3 h4 h5 h6 h7 h8 h9
/-- .. and what it holds: null or some reference -/
def vx_Zq (C n d : String) (A : Nat → Prop) (U : State) (H : Heap) : Prop := va_Zq C n d A U H ∧ vx_L C n d A U H
theorem vx_Zq.moved {C n d : String} {A : Nat → Prop} {u U : State} {H : Heap} (hvm : u.vm.Alike U.vm) (h : vx_Zq C n d A u H) : vx_Zq C n d A U H := ⟨va_Zq.moved hvm h.1, vx_L.moved hvm h.2⟩
theorem vx_Zq.kept {C n d : String} {A : Nat → Prop} {U : State} {H H1 : Heap} (h : vx_Zq C n d A U H) (hq : ∀ a : Nat, a < H.size → ¬ A a → H1[a]? = H[a]?) : vx_Zq C n d A U H1 := ⟨va_Zq.kept h.1 hq, vx_L.kept h.2 hq⟩
theorem vx_Zq.narrow {C n d : String} {A B : Nat → Prop} {U : State} {H : Heap} (h : vx_Zq C n d A U H) (hAB : ∀ q, B q → A q) : vx_Zq C n d B U H := ⟨va_Zq.narrow h.1 hAB, vx_L.narrow h.2 hAB⟩
theorem vx_Zqof {args : Array Value} {s : State} {C n d : String} {A : Nat → Prop} (hl : (Cond.laysStatic C n d).before args s = true) (hini : (Cond.initialized C).before args s = true) (h : (Cond.isRef (.static C n d)).before args s = true) (hA : ∀ a : Nat, a < s.heap.size → ¬ A a) : vx_Zq C n d A s s.heap := by
  refine ⟨va_Zqof hl hini h hA, ?_⟩
  obtain ⟨c, k, i, f, a, cell, h1, h2, h3, h4, h5, h6, h7, h8, h9⟩ := Cond.laysStatic_spec hl
  exact ⟨c, k, i, f, a, cell, h1, h2, h3, h4, h5, h6, h7, h8, h9, hA a (Array.getElem?_eq_some_iff.mp h5).1⟩
theorem vx_isRef {C n d : String} {v : Value} {A : Nat → Prop} {s : State} {args : Array Value} (h : va_Z C n d v A s s.heap) (hv : v.isRef = true) : (Cond.isRef (.static C n d)).before args s = true := by
  obtain ⟨cf, kf, fi, f, a, cell, h1, h2, h3, h4, h5, h6, h7, -⟩ := h
  have he : (Term.static C n d).eval args s none [] s = some v := by
    simp [Term.eval, State.fieldNamed?, h1, h2, h4, h5, h6, h7]
  simp only [Cond.before, Cond.holds, Cond.value, he]
  cases v <;> simp_all [Value.isRef]
theorem vx_isRefq {C n d : String} {A : Nat → Prop} {s : State} {args : Array Value} (h : va_Zq C n d A s s.heap) : (Cond.isRef (.static C n d)).before args s = true := by
  rcases h with h | ⟨t, h⟩
  · exact vx_isRef h rfl
  · exact vx_isRef h rfl
/-- the same frame, seen from here: as if the method were called anew in this heap -/
theorem vx_rebase {T : State} (X : Stand p l e R s m args below meth c T locs cells slots) {R' : Room} (hf : R'.frames ≤ R.frames) (hl : R'.locals ≤ R.locals) (hc : cells + R'.cells ≤ R.cells) (hs : slots + R'.slots ≤ R.slots) :
    Stand p l e R' ((T.setVm s.vm).setFrames (.invoking m args :: below)) m args below meth c T [] 0 0 := by
  have htop : (T.setVm s.vm).topJava?.isSome := X.here.top
  have hF : ((T.setVm s.vm).setFrames (.invoking m args :: below)).frames = .invoking m args :: below := State.frames_setFrames _ (State.cur_lt_of_top htop)
  obtain ⟨g₀, hg0⟩ := Option.isSome_iff_exists.mp htop
  obtain ⟨r, hr⟩ := State.topJava?_eq_some.mp hg0
  have hl9 : e.platform.stackLimits (T.setVm s.vm).me = e.platform.stackLimits s.me := X.limits
  have hb9 : (T.setVm s.vm).me.stackBytes = s.me.stackBytes := X.bytes
  refine ⟨X.admits, X.cas, X.clock, hF, ?_, X.hears, X.method, X.code, X.here, X.tail, X.warmed, ?_, ?_, ?_⟩
  · have h := X.room
    have hU : ((T.setVm s.vm).setFrames (.invoking m args :: below)).localsInUse = s.localsInUse := by
      rw [State.localsInUse_invoking hF (meth := meth) (c := c) X.method X.code, State.localsInUse_invoking X.frames X.method X.code]
    simp only [State.hasRoom, Bool.and_eq_true, decide_eq_true_eq] at h ⊢
    obtain ⟨⟨⟨⟨h1, h2, h3, h4, h5, h6⟩, h7⟩, h8⟩, h9⟩ := h
    rw [X.frames, List.length_cons] at h2 h3
    have q1 := X.heapSize
    have q2 := X.used
    simp only [hF, hU, List.length_cons, State.stackLimits_setFrames, State.stackBytes_setFrames, hl9, hb9]
    refine ⟨⟨⟨⟨by omega, by omega, by omega, by omega, by omega, h6⟩, ?_⟩, ?_⟩, X.book⟩
    · show T.heap.size + R'.cells ≤ e.platform.maxCells
      omega
    · show T.slotsUsed + R'.slots ≤ e.platform.maxSlots
      omega
  · rw [State.stackLimits_setFrames]; rfl
  · rw [State.stackBytes_setFrames]; rfl
  · refine ⟨?_, Nat.le_refl _, Nat.le_refl _, ?_, ?_, fun a c9 h9 => ⟨c9, h9, rfl, rfl, fun _ _ => rfl⟩⟩
    · obtain ⟨t, ht, -⟩ := State.frames_cons hr
      show T.setVm s.vm = { ((T.setVm s.vm).setFrames (.invoking m args :: below)).setFrames (T.setVm s.vm).frames with heap := T.heap, slotsUsed := T.slotsUsed }
      rw [State.setFrames_setFrames, State.setFrames_self ht]
      rfl
    · show T.slotsUsed = T.slotsUsed + ((T.heap.toList.drop T.heap.size).map (·.slots.size)).sum
      rw [List.drop_eq_nil_of_le (Nat.le_of_eq Array.length_toList)]
      rfl
    · show ((T.heap.toList.drop T.heap.size).map (·.slots.size)).sum ≤ 0
      rw [List.drop_eq_nil_of_le (Nat.le_of_eq Array.length_toList)]
      exact Nat.le_refl _
/-- 'throw new E()': new; dup; invokespecial; athrow -/
theorem vx_throw0 {cc : ByteArray} {pc : Nat} (hexec : p.tables.exec = Jvm.exec) (hb : c.code = cc) (hl : l.stackTraces = false) {own cls : String} {names : List String} {ik ic mc ms : Nat} {A : Nat → Prop}
    (hown : s.vm.findClass own = some m.cls) (hcls : Bundle.fit cls = true) (hnames : ∀ n ∈ names, Bundle.fit n = true)
    (hk : (Cond.classLink own ik cls).before args s = true) (hini : (Cond.initialized cls).before args s = true) (hat : ∀ w ∈ vx_at0 own ic cls names, w.before args s = true)
    (hgood : ∀ w ∈ Cond.classLink own ik cls :: Cond.initialized cls :: vx_at0 own ic cls names, vx_ot w = true)
    (hU : vx_Zq Bundle.tN "UNASSIGNED_STACK" Bundle.steD A s s.heap) (hN : vx_Zq Bundle.tN "SUPPRESSED_SENTINEL" Bundle.listD A s s.heap) (hS : va_S A s.heap H locs) (hsize : ls.size = c.maxLocals)
    (d0 : decode cc pc = .ok (.new ik, 3)) (d3 : decode cc (pc + 3) = .ok (.dup, 1)) (d4 : decode cc (pc + 4) = .ok (.invokespecial ic, 3)) (d7 : decode cc (pc + 7) = .ok (.athrow, 1))
    (hout : ∀ x ∈ c.exceptionTable.toList, covers x (pc + 7) = false)
    (hRframes : names.length + 3 < R.frames) (hRlocals : (rest.map fun v => v.category).sum + (13 * (names.length + 1) + 42) ≤ R.locals) (hRcells : cells + 1 ≤ R.cells) (hRslots : slots + 6 ≤ R.slots) (hlocks : meth.locks = false)
    (hx : ∀ t : State, s.vm.Alike t.vm → H.size ≤ t.heap.size → (∀ q : Nat, q < H.size → t.heap[q]? = H[q]?) → XC cls s t)
    (hf : ∀ z ∈ locs, free z.base) (hc : cells + 1 ≤ mc) (hs : slots + 6 ≤ ms) :
    W p l e R s m args below meth c H locs cells slots (vx_MQ below Qc XC args s mc ms free) (F0 m pc ls rest) := by
  intro T hT X
  have htr : e.platform.stackTraces = false := (show e.platform.stackTraces = l.stackTraces by rw [X.admits.platform]).trans hl
  have Y := vx_rebase X (R' := { frames := R.frames, locals := R.locals, cells := 1, slots := 6 }) (Nat.le_refl _) (Nat.le_refl _) hRcells hRslots
  obtain ⟨s', hA⟩ : ∃ z, z = (T.setVm s.vm).setFrames (.invoking m args :: below) := ⟨_, rfl⟩
  rw [← hA] at Y
  have hvm : s'.vm = s.vm := by rw [hA]; rfl
  have hhp : s'.heap = H := by rw [hA]; exact hT
  have hW0 : s.WarmedH s'.vm := by rw [hvm]; exact State.WarmedH.refl s
  have hat' : ∀ w ∈ vx_at0 own ic cls names, w.before args s' = true := fun w hw => vx_ot_at hW0 hvm.symm (hgood w (List.mem_cons_of_mem _ (List.mem_cons_of_mem _ hw))) (hat w hw)
  have hk' : (Cond.classLink own ik cls).before args s' = true := vx_ot_at hW0 hvm.symm (hgood _ List.mem_cons_self) hk
  have hini' : (Cond.initialized cls).before args s' = true := vx_ot_at hW0 hvm.symm (hgood _ (List.mem_cons_of_mem _ List.mem_cons_self)) hini
  have hU' : vx_Zq Bundle.tN "UNASSIGNED_STACK" Bundle.steD A s' s'.heap := by rw [hhp]; exact vx_Zq.moved hW0.alike (hU.kept hS.2.1)
  have hN' : vx_Zq Bundle.tN "SUPPRESSED_SENTINEL" Bundle.listD A s' s'.heap := by rw [hhp]; exact vx_Zq.moved hW0.alike (hN.kept hS.2.1)
  have h : ∀ w ∈ Bundle.ownAtoms0 own ic cls names, w.before args s' = true := vx_own hat' (vx_isRefq hU'.1) (vx_isRefq hN'.1) hU'.2.word hN'.2.word
  have hown' : s'.vm.findClass own = some m.cls := by rw [hvm]; exact hown
  have hins : (Cond.instantiable cls 6).before args s' = true := h _ (by simp [Bundle.ownAtoms0])
  obtain ⟨vm₁, cX, kX, hfX, hkX, -, -, X₁, st1⟩ := Y.newCold hexec (own := own) (C := cls) (index := ik) (n := 6) hown' hk' hins hini'
    (g := F0 m pc ls rest) rfl (by rw [hb]; exact d0) (Nat.le_refl _) (Nat.le_refl _)
  generalize hT1 : (T.setVm vm₁).pushCell { cls := cX, slots := kX.instanceTypes.map defaultValue, vm := .none } = T1 at X₁ st1
  have hcat : (Value.ref T.heap.size).category = 1 := rfl
  have hcellA : T1.heap[T.heap.size]? = some (freshCell cX kX) := by rw [← hT1]; exact State.heap_pushCell_size _ _
  have d3' : decode c.code (pc + 3) = .ok (.dup, 1) := by rw [hb]; exact d3
  obtain ⟨U, hsteps, hrun, hend, hW, hsame, ce, hce, hO⟩ := X₁.ctorThrow0 hexec htr (own := own) (cls := cls) (names := names) (ic := ic) hown' hcls hnames h (fun x hx => nomatch hx) hfX hkX hcellA (by rw [hhp, hT]; exact Nat.le_refl _)
    (g := { method := m, pc := pc + 4, locals := ls, stack := .ref T.heap.size :: .ref T.heap.size :: rest, locked := none }) rfl hsize rfl rfl (rest := rest) rfl
    (by rw [hb]; exact d4) (by rw [hb]; exact d7) hout hRframes (by simp only [List.map_cons, List.sum_cons, hcat]; omega) hlocks
  obtain ⟨f1, f2⟩ := vx_frame hsame
  rw [hhp] at f1 f2
  have hWs : s.WarmedH U.vm := State.WarmedH.trans hW0 hW
  have hcl : s.vm.findClass cls = some ce.cls := by
    have h9 := hO.cls
    rw [hvm] at h9
    exact h9
  have hall : s.sameButNew ({ U with vm := s.vm } : State) locs mc ms := by
    subst hA
    obtain ⟨e1, e2⟩ := hsame
    rw [State.setFrames_setFrames] at e1
    have h2 : (T.setVm s.vm).sameButNew ({ U with vm := s.vm } : State) [] (0 + 1) (0 + 6) := ⟨e1, e2⟩
    have h3 := X.same.trans h2
    rw [List.append_nil] at h3
    exact h3.mono hc hs
  refine ⟨U, ?_, .threw T.heap.size, hrun, hend, Or.inr ⟨T.heap.size, rfl, cls, ce, locs, hx U hWs.alike f1 (fun q hq => f2 q hq (fun z hz => nomatch hz)), hce, hO.vm, hcl, hWs, hall, hf⟩⟩
  refine st1 _ ?_
  show Steps p.tables e below (T1.setTop { method := m, pc := pc + 3, locals := ls, stack := .ref T.heap.size :: rest, locked := none }) _
  jvm_step X₁.here [X₁.here.top, hexec, d3', Value.category]
  exact hsteps
/-- 'throw new E("text")': new; dup; ldc; invokespecial; athrow -/
theorem vx_throwS {cc : ByteArray} {pc : Nat} (hexec : p.tables.exec = Jvm.exec) (hb : c.code = cc) (hl : l.stackTraces = false) {own cls text : String} {names : List String} {ik is ic mc ms sa : Nat} {A : Nat → Prop}
    (hown : s.vm.findClass own = some m.cls) (hcls : Bundle.fit cls = true) (hnames : ∀ n ∈ names, Bundle.fit n = true)
    (hk : (Cond.classLink own ik cls).before args s = true) (hini : (Cond.initialized cls).before args s = true) (hstr : vk_R own is text sa s) (hat : ∀ w ∈ vx_atS own ic cls names, w.before args s = true)
    (hgood : ∀ w ∈ Cond.classLink own ik cls :: Cond.initialized cls :: vx_atS own ic cls names, vx_ot w = true)
    (hU : vx_Zq Bundle.tN "UNASSIGNED_STACK" Bundle.steD A s s.heap) (hN : vx_Zq Bundle.tN "SUPPRESSED_SENTINEL" Bundle.listD A s s.heap) (hS : va_S A s.heap H locs) (hsize : ls.size = c.maxLocals)
    (d0 : decode cc pc = .ok (.new ik, 3)) (d3 : decode cc (pc + 3) = .ok (.dup, 1)) (d4 : decode cc (pc + 4) = .ok (.ldc is, 2)) (d6 : decode cc (pc + 6) = .ok (.invokespecial ic, 3)) (d9 : decode cc (pc + 9) = .ok (.athrow, 1))
    (hout : ∀ x ∈ c.exceptionTable.toList, covers x (pc + 9) = false)
    (hRframes : names.length + 3 < R.frames) (hRlocals : (rest.map fun v => v.category).sum + (13 * (names.length + 1) + 43) ≤ R.locals) (hRcells : cells + 1 ≤ R.cells) (hRslots : slots + 6 ≤ R.slots) (hlocks : meth.locks = false)
    (hx : ∀ t : State, s.vm.Alike t.vm → H.size ≤ t.heap.size → (∀ q : Nat, q < H.size → t.heap[q]? = H[q]?) → XC cls s t)
    (hf : ∀ z ∈ locs, free z.base) (hc : cells + 1 ≤ mc) (hs : slots + 6 ≤ ms) :
    W p l e R s m args below meth c H locs cells slots (vx_MQ below Qc XC args s mc ms free) (F0 m pc ls rest) := by
  intro T hT X
  have htr : e.platform.stackTraces = false := (show e.platform.stackTraces = l.stackTraces by rw [X.admits.platform]).trans hl
  have Y := vx_rebase X (R' := { frames := R.frames, locals := R.locals, cells := 1, slots := 6 }) (Nat.le_refl _) (Nat.le_refl _) hRcells hRslots
  obtain ⟨s', hA⟩ : ∃ z, z = (T.setVm s.vm).setFrames (.invoking m args :: below) := ⟨_, rfl⟩
  rw [← hA] at Y
  have hvm : s'.vm = s.vm := by rw [hA]; rfl
  have hhp : s'.heap = H := by rw [hA]; exact hT
  have hW0 : s.WarmedH s'.vm := by rw [hvm]; exact State.WarmedH.refl s
  have hat' : ∀ w ∈ vx_atS own ic cls names, w.before args s' = true := fun w hw => vx_ot_at hW0 hvm.symm (hgood w (List.mem_cons_of_mem _ (List.mem_cons_of_mem _ hw))) (hat w hw)
  have hk' : (Cond.classLink own ik cls).before args s' = true := vx_ot_at hW0 hvm.symm (hgood _ List.mem_cons_self) hk
  have hini' : (Cond.initialized cls).before args s' = true := vx_ot_at hW0 hvm.symm (hgood _ (List.mem_cons_of_mem _ List.mem_cons_self)) hini
  have hU' : vx_Zq Bundle.tN "UNASSIGNED_STACK" Bundle.steD A s' s'.heap := by rw [hhp]; exact vx_Zq.moved hW0.alike (hU.kept hS.2.1)
  have hN' : vx_Zq Bundle.tN "SUPPRESSED_SENTINEL" Bundle.listD A s' s'.heap := by rw [hhp]; exact vx_Zq.moved hW0.alike (hN.kept hS.2.1)
  have h : ∀ w ∈ Bundle.ownAtoms own ic cls names, w.before args s' = true := vx_own hat' (vx_isRefq hU'.1) (vx_isRefq hN'.1) hU'.2.word hN'.2.word
  have hown' : s'.vm.findClass own = some m.cls := by rw [hvm]; exact hown
  have hins : (Cond.instantiable cls 6).before args s' = true := h _ (by simp [Bundle.ownAtoms])
  obtain ⟨vm₁, cX, kX, hfX, hkX, -, -, X₁, st1⟩ := Y.newCold hexec (own := own) (C := cls) (index := ik) (n := 6) hown' hk' hins hini'
    (g := F0 m pc ls rest) rfl (by rw [hb]; exact d0) (Nat.le_refl _) (Nat.le_refl _)
  generalize hT1 : (T.setVm vm₁).pushCell { cls := cX, slots := kX.instanceTypes.map defaultValue, vm := .none } = T1 at X₁ st1
  have hcat : (Value.ref T.heap.size).category = 1 := rfl
  have hcellA : T1.heap[T.heap.size]? = some (freshCell cX kX) := by rw [← hT1]; exact State.heap_pushCell_size _ _
  have d3' : decode c.code (pc + 3) = .ok (.dup, 1) := by rw [hb]; exact d3
  have d4' : decode c.code (pc + 4) = .ok (.ldc is, 2) := by rw [hb]; exact d4
  have hstr' : vk_R own is text sa s' := vk_R.warm hW0 hstr
  obtain ⟨U, hsteps, hrun, hend, hW, hsame, ce, hce, hO⟩ := X₁.ctorThrowS hexec htr (own := own) (cls := cls) (names := names) (ic := ic) hown' hcls hnames h (fun x hx => nomatch hx) hfX hkX hcellA (by rw [hhp, hT]; exact Nat.le_refl _) (msg := .ref sa) rfl
    (g := { method := m, pc := pc + 6, locals := ls, stack := .ref sa :: .ref T.heap.size :: .ref T.heap.size :: rest, locked := none }) rfl hsize rfl rfl (rest := rest) rfl
    (by rw [hb]; exact d6) (by rw [hb]; exact d9) hout hRframes (by simp only [List.map_cons, List.sum_cons, hcat]; omega) hlocks
  obtain ⟨f1, f2⟩ := vx_frame hsame
  rw [hhp] at f1 f2
  have hWs : s.WarmedH U.vm := State.WarmedH.trans hW0 hW
  have hcl : s.vm.findClass cls = some ce.cls := by
    have h9 := hO.cls
    rw [hvm] at h9
    exact h9
  have hall : s.sameButNew ({ U with vm := s.vm } : State) locs mc ms := by
    subst hA
    obtain ⟨e1, e2⟩ := hsame
    rw [State.setFrames_setFrames] at e1
    have h2 : (T.setVm s.vm).sameButNew ({ U with vm := s.vm } : State) [] (0 + 1) (0 + 6) := ⟨e1, e2⟩
    have h3 := X.same.trans h2
    rw [List.append_nil] at h3
    exact h3.mono hc hs
  refine ⟨U, ?_, .threw T.heap.size, hrun, hend, Or.inr ⟨T.heap.size, rfl, cls, ce, locs, hx U hWs.alike f1 (fun q hq => f2 q hq (fun z hz => nomatch hz)), hce, hO.vm, hcl, hWs, hall, hf⟩⟩
  refine st1 _ ?_
  show Steps p.tables e below (T1.setTop { method := m, pc := pc + 3, locals := ls, stack := .ref T.heap.size :: rest, locked := none }) _
  jvm_step X₁.here [X₁.here.top, hexec, d3', Value.category]
  exact X₁.ldcString hexec (own := own) (text := text) (index := is) (a := sa) hown' hstr'.1 hstr'.2
    (g := { method := m, pc := pc + 4, locals := ls, stack := .ref T.heap.size :: .ref T.heap.size :: rest, locked := none }) rfl d4' _ hsteps
/-- 'throw new E("text")', the text by a wide index -/
theorem vx_throwSW {cc : ByteArray} {pc : Nat} (hexec : p.tables.exec = Jvm.exec) (hb : c.code = cc) (hl : l.stackTraces = false) {own cls text : String} {names : List String} {ik is ic mc ms sa : Nat} {A : Nat → Prop}
    (hown : s.vm.findClass own = some m.cls) (hcls : Bundle.fit cls = true) (hnames : ∀ n ∈ names, Bundle.fit n = true)
    (hk : (Cond.classLink own ik cls).before args s = true) (hini : (Cond.initialized cls).before args s = true) (hstr : vk_R own is text sa s) (hat : ∀ w ∈ vx_atS own ic cls names, w.before args s = true)
    (hgood : ∀ w ∈ Cond.classLink own ik cls :: Cond.initialized cls :: vx_atS own ic cls names, vx_ot w = true)
    (hU : vx_Zq Bundle.tN "UNASSIGNED_STACK" Bundle.steD A s s.heap) (hN : vx_Zq Bundle.tN "SUPPRESSED_SENTINEL" Bundle.listD A s s.heap) (hS : va_S A s.heap H locs) (hsize : ls.size = c.maxLocals)
    (d0 : decode cc pc = .ok (.new ik, 3)) (d3 : decode cc (pc + 3) = .ok (.dup, 1)) (d4 : decode cc (pc + 4) = .ok (.ldc_w is, 3)) (d7 : decode cc (pc + 7) = .ok (.invokespecial ic, 3)) (d10 : decode cc (pc + 10) = .ok (.athrow, 1))
    (hout : ∀ x ∈ c.exceptionTable.toList, covers x (pc + 10) = false)
    (hRframes : names.length + 3 < R.frames) (hRlocals : (rest.map fun v => v.category).sum + (13 * (names.length + 1) + 43) ≤ R.locals) (hRcells : cells + 1 ≤ R.cells) (hRslots : slots + 6 ≤ R.slots) (hlocks : meth.locks = false)
    (hx : ∀ t : State, s.vm.Alike t.vm → H.size ≤ t.heap.size → (∀ q : Nat, q < H.size → t.heap[q]? = H[q]?) → XC cls s t)
    (hf : ∀ z ∈ locs, free z.base) (hc : cells + 1 ≤ mc) (hs : slots + 6 ≤ ms) :
    W p l e R s m args below meth c H locs cells slots (vx_MQ below Qc XC args s mc ms free) (F0 m pc ls rest) := by
  intro T hT X
  have htr : e.platform.stackTraces = false := (show e.platform.stackTraces = l.stackTraces by rw [X.admits.platform]).trans hl
  have Y := vx_rebase X (R' := { frames := R.frames, locals := R.locals, cells := 1, slots := 6 }) (Nat.le_refl _) (Nat.le_refl _) hRcells hRslots
  obtain ⟨s', hA⟩ : ∃ z, z = (T.setVm s.vm).setFrames (.invoking m args :: below) := ⟨_, rfl⟩
  rw [← hA] at Y
  have hvm : s'.vm = s.vm := by rw [hA]; rfl
  have hhp : s'.heap = H := by rw [hA]; exact hT
  have hW0 : s.WarmedH s'.vm := by rw [hvm]; exact State.WarmedH.refl s
  have hat' : ∀ w ∈ vx_atS own ic cls names, w.before args s' = true := fun w hw => vx_ot_at hW0 hvm.symm (hgood w (List.mem_cons_of_mem _ (List.mem_cons_of_mem _ hw))) (hat w hw)
  have hk' : (Cond.classLink own ik cls).before args s' = true := vx_ot_at hW0 hvm.symm (hgood _ List.mem_cons_self) hk
  have hini' : (Cond.initialized cls).before args s' = true := vx_ot_at hW0 hvm.symm (hgood _ (List.mem_cons_of_mem _ List.mem_cons_self)) hini
  have hU' : vx_Zq Bundle.tN "UNASSIGNED_STACK" Bundle.steD A s' s'.heap := by rw [hhp]; exact vx_Zq.moved hW0.alike (hU.kept hS.2.1)
  have hN' : vx_Zq Bundle.tN "SUPPRESSED_SENTINEL" Bundle.listD A s' s'.heap := by rw [hhp]; exact vx_Zq.moved hW0.alike (hN.kept hS.2.1)
  have h : ∀ w ∈ Bundle.ownAtoms own ic cls names, w.before args s' = true := vx_own hat' (vx_isRefq hU'.1) (vx_isRefq hN'.1) hU'.2.word hN'.2.word
  have hown' : s'.vm.findClass own = some m.cls := by rw [hvm]; exact hown
  have hins : (Cond.instantiable cls 6).before args s' = true := h _ (by simp [Bundle.ownAtoms])
  obtain ⟨vm₁, cX, kX, hfX, hkX, -, -, X₁, st1⟩ := Y.newCold hexec (own := own) (C := cls) (index := ik) (n := 6) hown' hk' hins hini'
    (g := F0 m pc ls rest) rfl (by rw [hb]; exact d0) (Nat.le_refl _) (Nat.le_refl _)
  generalize hT1 : (T.setVm vm₁).pushCell { cls := cX, slots := kX.instanceTypes.map defaultValue, vm := .none } = T1 at X₁ st1
  have hcat : (Value.ref T.heap.size).category = 1 := rfl
  have hcellA : T1.heap[T.heap.size]? = some (freshCell cX kX) := by rw [← hT1]; exact State.heap_pushCell_size _ _
  have d3' : decode c.code (pc + 3) = .ok (.dup, 1) := by rw [hb]; exact d3
  have d4' : decode c.code (pc + 4) = .ok (.ldc_w is, 3) := by rw [hb]; exact d4
  have hstr' : vk_R own is text sa s' := vk_R.warm hW0 hstr
  obtain ⟨U, hsteps, hrun, hend, hW, hsame, ce, hce, hO⟩ := X₁.ctorThrowS hexec htr (own := own) (cls := cls) (names := names) (ic := ic) hown' hcls hnames h (fun x hx => nomatch hx) hfX hkX hcellA (by rw [hhp, hT]; exact Nat.le_refl _) (msg := .ref sa) rfl
    (g := { method := m, pc := pc + 7, locals := ls, stack := .ref sa :: .ref T.heap.size :: .ref T.heap.size :: rest, locked := none }) rfl hsize rfl rfl (rest := rest) rfl
    (by rw [hb]; exact d7) (by rw [hb]; exact d10) hout hRframes (by simp only [List.map_cons, List.sum_cons, hcat]; omega) hlocks
  obtain ⟨f1, f2⟩ := vx_frame hsame
  rw [hhp] at f1 f2
  have hWs : s.WarmedH U.vm := State.WarmedH.trans hW0 hW
  have hcl : s.vm.findClass cls = some ce.cls := by
    have h9 := hO.cls
    rw [hvm] at h9
    exact h9
  have hall : s.sameButNew ({ U with vm := s.vm } : State) locs mc ms := by
    subst hA
    obtain ⟨e1, e2⟩ := hsame
    rw [State.setFrames_setFrames] at e1
    have h2 : (T.setVm s.vm).sameButNew ({ U with vm := s.vm } : State) [] (0 + 1) (0 + 6) := ⟨e1, e2⟩
    have h3 := X.same.trans h2
    rw [List.append_nil] at h3
    exact h3.mono hc hs
  refine ⟨U, ?_, .threw T.heap.size, hrun, hend, Or.inr ⟨T.heap.size, rfl, cls, ce, locs, hx U hWs.alike f1 (fun q hq => f2 q hq (fun z hz => nomatch hz)), hce, hO.vm, hcl, hWs, hall, hf⟩⟩
  refine st1 _ ?_
  show Steps p.tables e below (T1.setTop { method := m, pc := pc + 3, locals := ls, stack := .ref T.heap.size :: rest, locked := none }) _
  jvm_step X₁.here [X₁.here.top, hexec, d3', Value.category]
  exact X₁.ldcStringW hexec (own := own) (text := text) (index := is) (a := sa) hown' hstr'.1 hstr'.2
    (g := { method := m, pc := pc + 4, locals := ls, stack := .ref T.heap.size :: .ref T.heap.size :: rest, locked := none }) rfl d4' _ hsteps
end Ends
section Bodies
variable {l : Launch}
theorem vx_ofW {y : MethodName} {ws ws' : List Cond} {rm : Room} {Pc : Array Value → State → Prop} {Qc : Array Value → State → Outcome → State → Prop} {XC : String → State → State → Prop} {mc ms : Nat} {free : Addr → Prop} {cc : ByteArray} {maxL : Nat} {ret : Option FieldType}
    (hy : plainName y.cls = true) (hw : ws = Cond.code y cc maxL ret :: ws')
    (body : ∀ p e s m args below meth c s₁, BodyLoose p l y (headSpec ws rm) cc maxL ret e s m args below meth c s₁ → c.maxLocals = maxL → (∀ x ∈ c.exceptionTable.toList, False) → Pc args s →
      W p l e (headSpec ws rm).room s m args below meth c s.heap [] 0 0 (vx_MQ below Qc XC args s mc ms free) (entryFrame m args maxL)) : vx_Met l y ws rm Pc Qc XC mc ms free := by
  refine MetFree.of_bodyS (code := cc) (maxLocals := maxL) (ret := ret) hy ?_ ?_
  · intro args s m h hn
    obtain ⟨meth, c, h1, h2, h3, h4, h5, h6, -, -⟩ := Cond.code_spec hn (atoms_spec (ws := ws) h _ (by rw [hw]; exact List.mem_cons_self))
    exact ⟨meth, c, h1, h2, h3, h4, h5, h6⟩
  · intro p e s m args below meth c s₁ B hml hP _
    have hh0 : s₁.heap = s.heap := by rw [B.state]; rfl
    have ht : ∀ x ∈ c.exceptionTable.toList, False := by
      obtain ⟨meth9, c9, h1, h2, -, -, -, -, h7, -⟩ := Cond.code_spec B.named (atoms_spec (ws := ws) B.pre _ (by rw [hw]; exact List.mem_cons_self))
      cases Option.some.inj (h1.symm.trans B.method)
      cases Option.some.inj (h2.symm.trans (Stand.of_body B).code)
      intro x hx
      rw [Array.isEmpty_iff.mp h7] at hx
      cases hx
    obtain ⟨t, a1, o, b1, b2, b3⟩ := body p e s m args below meth c s₁ B hml ht hP s₁ hh0 (Stand.of_body B)
    exact ⟨t, o, a1, b1, b2, b3⟩
/-- the table of a body with handlers -/
theorem vx_table {p : Program} {x y : MethodName} {S : Spec} {cc bytes : ByteArray} {maxL maxL' : Nat} {ret ret' : Option FieldType} {e : Env} {s s₁ : State} {m : MethodId} {args : Array Value} {below : List Frame} {meth : Method} {c : Code} {hh : List (Nat × Nat × Nat × Nat)}
    (B : BodyLoose p l y S cc maxL ret e s m args below meth c s₁) (h : (Cond.codeWith y bytes maxL' ret' hh).before args s = true) : c.exceptionTable.toList = tableOf hh := by
  obtain ⟨m9, meth9, c9, hn9, h1, h2, -, -, h6, -⟩ := Cond.codeWith_spec h
  cases Option.some.inj (hn9.symm.trans B.named)
  cases Option.some.inj (h1.symm.trans B.method)
  cases Option.some.inj (h2.symm.trans (Stand.of_body B).code)
  rw [← h6, table_eq]
end Bodies
end VXA
/-! ===== END ===== -/
/-! ===== BEGIN a static call of a method with an exception table ===== -/
section VXS
variable {p : Program} {l : Launch} {e : Env} {R : Room} {s : State} {m : MethodId} {args : Array Value} {below : List Frame} {meth : Method} {c : Code} {T : State} {H : Heap} {locs : List Loc} {cells slots : Nat}
abbrev vx_CSW (R : Room) (s : State) (args : Array Value) (own : String) (index : Nat) (y : MethodName) (bytes : ByteArray) (maxL : Nat) (ret : Option FieldType) (hh : List (Nat × Nat × Nat × Nat)) (ws : List Cond) (rm : Room) (mc ms n : Nat) : Prop :=
  (rm.cells = mc ∧ rm.slots = ms ∧ rm.frames + 1 ≤ R.frames ∧ 8 + (maxL + 11) + rm.locals ≤ R.locals ∧ (∀ w ∈ ws, ∀ (a' : Array Value) (U : State), s.WarmedH U.vm → w.before a' U = true) ∧ Cond.codeWith y bytes maxL ret hh ∈ ws) ∧
  (Cond.codeWith y bytes maxL ret hh).before args s = true ∧ (Cond.initialized y.cls).before args s = true ∧ (y.cls ≠ "java/lang/invoke/MethodHandle" ∧ y.cls ≠ "java/lang/invoke/VarHandle") ∧
  (∀ sig, parseMethodDescriptor y.desc = some sig → n = sig.parameters.length) ∧ (Cond.methodLink own index y).before args s = true ∧ (Cond.static y).before args s = true
theorem vx_cwSW {own : String} {index maxL mc ms : Nat} {y : MethodName} {bytes : ByteArray} {ret : Option FieldType} {hh : List (Nat × Nat × Nat × Nat)} {Ts ws ws' : List Cond} {rm : Room} (n : Nat) (ht : ∀ w ∈ Ts, w.before args s = true) (hT : GoodIn Ts (va_wsS own index y ws)) (hw : ws = Cond.codeWith y bytes maxL ret hh :: ws') (hrc : rm.cells = mc) (hrs : rm.slots = ms)
    (hd : y.cls ≠ "java/lang/invoke/MethodHandle" ∧ y.cls ≠ "java/lang/invoke/VarHandle" ∧ (parseMethodDescriptor y.desc).map (fun d => d.parameters.length) = some n) (hR : rm.frames + 1 ≤ R.frames ∧ 8 + (maxL + 11) + rm.locals ≤ R.locals) :
    vx_CSW R s args own index y bytes maxL ret hh ws rm mc ms n := by
  have ok : ∀ w ∈ va_wsS own index y ws, w.before args s = true := fun w h => ht w (hT w h).1
  have hG : GoodIn Ts ws := fun w h => hT w (by unfold va_wsS; exact List.mem_append_right _ h)
  have hc : Cond.codeWith y bytes maxL ret hh ∈ ws := by rw [hw]; exact List.mem_cons_self
  refine ⟨⟨hrc, hrs, hR.1, hR.2, pay_in ht hG, hc⟩, ht _ (hG _ hc).1, ok _ (by simp [va_wsS]), ⟨hd.1, hd.2.1⟩, fun sig h => ?_, ok _ (by simp [va_wsS]), ok _ (by simp [va_wsS])⟩
  have h2 := hd.2.2
  rw [h] at h2
  exact (Option.some.inj h2).symm
theorem vx_callSW (X : Stand p l e R s m args below meth c T locs cells slots) (hexec : p.tables.exec = Jvm.exec) {own : String} {index : Nat} {y : MethodName} {bytes : ByteArray} {maxL : Nat} {ret : Option FieldType} {hh : List (Nat × Nat × Nat × Nat)}
    (hown : s.vm.findClass own = some m.cls) (hlink : (Cond.methodLink own index y).before args s = true) (hstat : (Cond.static y).before args s = true) (hinit : (Cond.initialized y.cls).before args s = true)
    (hcode : (Cond.codeWith y bytes maxL ret hh).before args s = true) (hy : y.cls ≠ "java/lang/invoke/MethodHandle" ∧ y.cls ≠ "java/lang/invoke/VarHandle")
    {W9 : Nat} {Pre : Pt → Array Value → Prop} {Post : Pt → Array Value → Option Value → Pt → Prop} (hK : Back l R p e below s args y 3 W9 Pre Post)
    {g : JFrame} (hg : g.method = m) (hsize : g.locals.size = c.maxLocals) {argsL rest : List Value} (hlen : ∀ sig, parseMethodDescriptor y.desc = some sig → argsL.length = sig.parameters.length)
    (hstack : g.stack = argsL.reverse ++ rest) (hW : 2 * g.monitorRoom + (rest.map fun v => v.category).sum ≤ W9) (hdg : decode c.code g.pc = .ok (.invokestatic index, 3))
    (hpre : ∀ vm₁, s.WarmedH vm₁ → Pre ⟨T.setVm vm₁, locs, cells, slots⟩ argsL.toArray) :
    ∃ (v : Option Value) (vm₁ : Vm) (B : Pt), s.WarmedH vm₁ ∧ Stand p l e R s m args below meth c B.U B.locs B.cells B.slots ∧ Post ⟨T.setVm vm₁, locs, cells, slots⟩ argsL.toArray v B ∧
      ∀ target, Steps p.tables e below (B.U.setTop { g with pc := g.pc + 3, stack := v.toList ++ rest }) target → Steps p.tables e below (T.setTop g) target := by
  obtain ⟨mk, methM, cM, hnamed, hmethM, -, -, -, -, -, -, hsigM⟩ := Cond.codeWith_spec hcode
  have hstatic : methM.isStatic = true := Cond.static_spec hnamed hmethM hstat
  obtain ⟨kP, hkP, -⟩ := className_of_methodNamed hnamed
  have hinitP : kP.init = .initialized := Cond.initialized_spec (findClass_of_methodNamed hnamed) hkP hinit
  obtain ⟨vm₁, X₁, hstep₁⟩ := X.invokestatic hexec hown hlink hnamed hmethM hstatic hkP hinitP hy (g := g) hg (argsL := argsL) (rest := rest) (hlen _ hsigM) hstack hdg
  obtain ⟨v, B, X', hpost, hsteps⟩ := hK m meth c ⟨T.setVm vm₁, locs, cells, slots⟩ { g with stack := rest } (.invokestatic index) mk argsL.toArray X₁ hg hsize hdg hW (X₁.named hnamed) (hpre vm₁ X₁.warmed)
  exact ⟨v, vm₁, B, X₁.warmed, X', hpost, fun target h => hstep₁ _ fun acts => by rw [doInvoke_state]; exact hsteps.trans h⟩
theorem vx_runSW {y : MethodName} {bytes cc : ByteArray} {maxL nL mc ms n index : Nat} {ret : Option FieldType} {hh : List (Nat × Nat × Nat × Nat)} {ws : List Cond} {rm : Room} {Pc : Array Value → State → Prop} {Qc : Array Value → State → Outcome → State → Prop} {free : Addr → Prop} {Ts : List Cond} {own : String} {As rest : List Value} {g : JFrame}
    (S : CallFix p m c cc nL s args Ts own) (hM : Met l y ws rm Pc Qc mc ms free) (cw : vx_CSW R s args own index y bytes maxL ret hh ws rm mc ms n) (hp : PreS s H Pc As)
    (hg : g.method = m) (hn : As.length = n) (hsize : g.locals.size = nL) (hstack : g.stack = As.reverse ++ rest) (hW : 2 * g.monitorRoom + (rest.map fun v => v.category).sum ≤ 8) (hdg : decode cc g.pc = .ok (.invokestatic index, 3)) (hf : cells + mc ≤ R.cells ∧ slots + ms ≤ R.slots) :
    va_Run p l e R s m args below meth c H locs cells slots mc ms g rest (Qc As.toArray) (free) := by
  obtain ⟨⟨hrc, hrs, hfr, hlo, hws, hcw⟩, hcode, hini, hy, hlen, hl, hstt⟩ := cw
  have hK : Back l R p e below s args y 3 8 (PreOf R mc ms Pc) (PostOf Qc mc ms free) := va_backW (hh := hh) (bytes := bytes) (maxL := maxL) (ret := ret) hM hp.1 hrc hrs hfr hlo hws hcw (fun a' U hW => word_at hW (Or.inl (by first | rfl | simp [Cond.onTables, Cond.keeps, Cond.steady])) hini)
  obtain ⟨hx, hb, hml, ho, -⟩ := S
  intro T hT X
  obtain ⟨v, vm₁, ⟨U', l2, c2, s2⟩, hW₁, X', ⟨g', mk, t, L, e1, e2, hq, h1, hL, h2, h3⟩, st⟩ := vx_callSW X hx (hh := hh) (bytes := bytes) (maxL := maxL) (ret := ret) ho hl hstt hini hcode hy hK hg (hsize.trans hml.symm) (argsL := As) (rest := rest) (fun sig h => hn.trans (hlen sig h)) hstack hW (by rw [hb]; exact hdg)
    (fun vm₁ hW₁ => ⟨hf.1, hf.2, hp.2 (T.setVm vm₁) hT hW₁⟩)
  dsimp only [Pt.U, Pt.locs, Pt.cells, Pt.slots] at X' e1 e2 h1 h2 h3 st
  subst h1; subst h2; subst h3
  exact ⟨v, (T.setVm vm₁).calling g' mk As.toArray, t, U', L, hT, X', hL, e1, e2, hq, st⟩
/-- not caught here, past rows that name other classes: it goes on to the caller -/
theorem vx_outP {p : Program} {l : Launch} {e : Env} {R : Room} {s : State} {m : MethodId} {args : Array Value} {below : List Frame} {meth : Method} {c : Code} {H : Heap} {locs : List Loc} {cells slots : Nat} {free : Addr → Prop} {ls : Array Slot} {rest : List Value} {Qc : Array Value → State → Outcome → State → Prop} {XC : String → State → State → Prop}
    {pc : Nat} {own E : String} {ce : Cell} {q : Addr} {mc ms : Nat} (hown : s.vm.findClass own = some m.cls) (hlocks : meth.locks = false)
    (hpass : ∀ z ∈ c.exceptionTable.toList, covers z pc = false ∨ (z.catchType ≠ 0 ∧ ∃ nm : String, (Cond.classLink own z.catchType nm).before args s = true ∧ va_Nc E nm s)) (hcell : H[q]? = some ce) (hv : ce.vm = .none) (hcl : s.vm.findClass E = some ce.cls)
    (hx : ∀ t : State, t.heap = H → s.vm.Alike t.vm → XC E s t) (hf : ∀ z ∈ locs, free z.base) (hc : cells ≤ mc) (hs : slots ≤ ms) :
    vx_W p l e R s m args below meth c H locs cells slots (vx_MQ below Qc XC args s mc ms free) (F0 m pc ls rest) q := by
  intro T hT X
  have hpl : e.platform.magicAccessors = ({} : Platform).magicAccessors := by rw [X.admits.platform]
  obtain ⟨vm', hW', X', st⟩ := X.outThrough hlocks q (g := F0 m pc ls rest) rfl rfl rfl (cell := ce) (by rw [hT]; exact hcell) (by rw [hv]; rfl)
    (by obtain ⟨k9, h9, -⟩ := Vm.findClass_spec hcl; exact ⟨k9, h9⟩) (fun z hz => by
      rcases hpass z hz with h | ⟨hz0, nm, hl1, hn1⟩
      · exact Or.inl h
      · obtain ⟨c6, hc6, hcl6⟩ := Cond.classLink_spec hown hl1 e.platform hpl
        obtain ⟨a8, b8, h1, h2, h3⟩ := hn1
        cases Option.some.inj (h1.symm.trans hcl)
        cases Option.some.inj (h2.symm.trans hc6)
        exact Or.inr ⟨hz0, _, hcl6, h3⟩)
  obtain ⟨g₀, hfr⟩ := X'.frames_eq
  have hcell9 : ((T.setVm vm').setFrames (.throwing q :: below)).heap[q]? = some ce := by
    show T.heap[q]? = some ce
    rw [hT]; exact hcell
  have hend : Ended ((T.setVm vm').setFrames (.throwing q :: below)) below (.threw q) := State.frames_setFrames _ (State.cur_lt_of_frames hfr)
  refine ⟨(T.setVm vm').setFrames (.throwing q :: below), ?_, .threw q, X'.here.running, hend, Or.inr ⟨q, rfl, E, ce, locs, hx _ hT (X'.ends _).1.alike, hcell9, hv, hcl, (X'.ends _).1, (X'.ends _).2.mono hc hs, hf⟩⟩
  rw [X.pushThrowing_eq]
  exact st
/-- a thing of a world lies in the heap -/
theorem vx_lt {D : va_G} {cl : List vw_C} {ws : va_W} {H1 : Heap} (h : va_P D cl ws H1) {k : Nat} {q : Nat × va_E} (hk : ws[k]? = some q) : q.1 < H1.size := (h k q hk).lt
end VXS
/-! ===== END ===== -/
section VXB9
variable {p : Program} {l : Launch} {e : Env} {R : Room} {s : State} {m : MethodId} {args : Array Value} {below : List Frame} {meth : Method} {c : Code} {H : Heap} {locs : List Loc} {cells slots : Nat}
theorem vx_back9 {T S : State} {R' : Room} {k n : Nat} (X : Stand p l e R s m args below meth c T locs cells slots) (Y : Stand p l e R' ((T.setVm s.vm).setFrames (.invoking m args :: below)) m args below meth c T [] 0 0) (Z : Stand p l e R' ((T.setVm s.vm).setFrames (.invoking m args :: below)) m args below meth c S [] k n) :
    Stand p l e R s m args below meth c S locs (cells + k) (slots + n) := by
  have hW0 : s.WarmedH ((T.setVm s.vm).setFrames (.invoking m args :: below)).vm := State.WarmedH.refl s
  refine { admits := X.admits, cas := X.cas, clock := X.clock, frames := X.frames, room := X.room, hears := X.hears, method := X.method, code := X.code, here := Z.here, tail := Z.tail, warmed := State.WarmedH.trans hW0 Z.warmed, limits := Z.limits.trans (Y.limits.symm.trans X.limits), bytes := Z.bytes.trans (Y.bytes.symm.trans X.bytes), same := ?_ }
  obtain ⟨e1, e2⟩ := Z.same
  rw [State.setFrames_setFrames] at e1
  have h2 : (T.setVm s.vm).sameButNew (S.setVm s.vm) [] k n := ⟨e1, e2⟩
  have h3 := X.same.trans h2
  rw [List.append_nil] at h3
  exact h3
end VXB9
/-- the words of a throw of X: X's constructor links that of Y at i1, the rest of the chain as the kit has it -/
def kx_atoms (own : String) (ic : Nat) (X : String) (i1 : Nat) (b1 : ByteArray) (Y : String) (r : List String) : List Cond :=
  Bundle.throwableAtoms ++ Bundle.throwableSAtoms ++ Bundle.passSAtoms X Y i1 b1 ++ Bundle.chainSAtoms Y r ++
  [.methodLink own ic (Bundle.initS X), .instantiable X 6, .castable X X, .selects X Bundle.tFill0 Bundle.tFill0, .selects X Bundle.tFill Bundle.tFill,
   .lays X Bundle.tN "cause" "Ljava/lang/Throwable;", .lays X Bundle.tN "stackTrace" Bundle.steD, .lays X Bundle.tN "suppressedExceptions" Bundle.listD, .lays X Bundle.tN "detailMessage" "Ljava/lang/String;",
   .isRef (.static Bundle.tN "UNASSIGNED_STACK" Bundle.steD), .isRef (.static Bundle.tN "SUPPRESSED_SENTINEL" Bundle.listD),
   .fieldLink Bundle.tN 198 Bundle.tN "backtrace" "Ljava/lang/Object;", .lays Bundle.tN Bundle.tN "backtrace" "Ljava/lang/Object;", .lays X Bundle.tN "backtrace" "Ljava/lang/Object;"]
def kx_at (own : String) (ic : Nat) (X : String) (i1 : Nat) (b1 : ByteArray) (Y : String) (r : List String) : List Cond := (kx_atoms own ic X i1 b1 Y r).filter vx_no
section KXA
variable {p : Program} {l : Launch} {e : Env} {R : Room} {s : State} {m₀ : MethodId} {args : Array Value} {below : List Frame} {meth : Method} {c : Code} {W : State} {locs : List Loc} {cells slots : Nat}
set_option maxHeartbeats 1000000 in
theorem kx_ctorMade (X : Stand p l e R s m₀ args below meth c W locs cells slots) (hexec : p.tables.exec = Jvm.exec) (htr : e.platform.stackTraces = false) {own cls : String} {up : String} {r : List String} {i1 : Nat} {b1 : ByteArray} {ic : Nat}
    (hown : s.vm.findClass own = some m₀.cls) (hcls : Bundle.fit cls = true) (hY1 : Bundle.fit up = true) (hr1 : ∀ n ∈ r, Bundle.fit n = true) (g0 : decode b1 0 = .ok (.aload_n 0, 1)) (g1 : decode b1 1 = .ok (.aload_n 1, 1)) (g2 : decode b1 2 = .ok (.invokespecial i1, 3)) (g5 : decode b1 5 = .ok (.return_, 1))
    (h : ∀ a ∈ kx_atoms own ic cls i1 b1 up r, a.before args s = true)
    (hlocs : ∀ x ∈ locs, ∀ cell, s.heap[x.base]? = some cell → cell.vm.isStatics = false)
    {a : Addr} {cX : ClassId} {kX : Class} (hfoundX : s.vm.findClass cls = some cX) (hkX : s.vm.classes[cX]? = some kX) (hcell : W.heap[a]? = some (freshCell cX kX)) (hnew : s.heap.size ≤ a)
    {msg : Value} (hmsg : msg.isRef = true)
    {g : JFrame} (hg : g.method = m₀) (hsize : g.locals.size = c.maxLocals) {rest : List Value} (hstack : g.stack = msg :: .ref a :: .ref a :: rest)
    (hd6 : decode c.code g.pc = .ok (.invokespecial ic, 3))
    (hRframes : (r.length + 1) + 3 < R.frames) (hRlocals : 2 * g.monitorRoom + ((Value.ref a :: rest).map fun v => v.category).sum + (13 * ((r.length + 1) + 1) + 42) ≤ R.locals) :
    ∃ (V : State) (ce : Cell) (L : List Loc), Stand p l e R s m₀ args below meth c (V.setCell a ce) (locs ++ L) cells slots ∧ (∀ y ∈ L, y.base = a) ∧ a < V.heap.size ∧ ce.cls = cX ∧ ce.vm = .none ∧
      ∀ target, Steps p.tables e below ((V.setCell a ce).setTop { g with stack := .ref a :: rest, pc := g.pc + 3 }) target → Steps p.tables e below (W.setTop g) target := by
  have howns : e.platform.frameOwnsMonitors = true := by rw [X.admits.platform]
  have hfin : e.platform.finalization = false := by rw [X.admits.platform]
  have hpl : e.platform.magicAccessors = ({} : Platform).magicAccessors := by rw [X.admits.platform]
  have a' : ∀ x, x ∈ kx_atoms own ic cls i1 b1 up r → x.holds args s none s [] = true := fun x hx => h x hx
  obtain ⟨T, Z0, L, -, Y⟩ := ThrowableC.of_atoms (args := args) howns hfin hpl (fun x hx => h x (by simp [kx_atoms, hx]))
  obtain ⟨Z, M, LZ, LM, hnZ⟩ := Init0T.ofS_atoms (args := args) hpl L Y (fun x hx => h x (by simp [kx_atoms, hx]))
  obtain ⟨P2, Ps, hlen, L2, hL, hP2m, hlink2, hlink⟩ := Bundle.chainS (args := args) hpl hnZ r up hY1 hr1 (fun x hx => h x (by simp [kx_atoms, hx]))
  obtain ⟨P1, L1, hP1m, hs1⟩ := PassC.ofS_atoms (args := args) (s := s) hpl (X := cls) (Y := up) (Bundle.fit_spec hcls).1 (Bundle.fit_spec hY1).2 g0 g1 g2 g5 (fun x hx => h x (by simp [kx_atoms, hx]))
  have hfound : s.vm.findClass cls = some P1.m.cls := findClass_of_methodNamed hP1m
  cases Option.some.inj (hfoundX.symm.trans hfound)
  obtain ⟨c1, kX', hc1, hk, hord, -, -, hn6⟩ := Cond.instantiable_spec (a' (.instantiable cls 6) (by simp [kx_atoms]))
  cases Option.some.inj (hc1.symm.trans hfound)
  cases Option.some.inj (hkX.symm.trans hk)
  have hsel0 : selectMethod e.platform s.vm P1.m.cls T.fill0 = .method T.fill0 := by
    obtain ⟨c2, r2, m2, q1, q2, q3, q4, -⟩ := Cond.selects_spec (a' (.selects cls Bundle.tFill0 Bundle.tFill0) (by simp [kx_atoms]))
    cases Option.some.inj (q1.symm.trans hfound)
    cases Option.some.inj (q2.symm.trans (State.methodFound?_of_named Y.fill0 (by decide)))
    cases Option.some.inj (q3.symm.trans Y.fill0)
    rw [Launch.admits_selectMethod X.admits]; exact q4
  have hselF : selectMethod e.platform s.vm P1.m.cls T.fill = .method T.fill := by
    obtain ⟨c2, r2, m2, q1, q2, q3, q4, -⟩ := Cond.selects_spec (a' (.selects cls Bundle.tFill Bundle.tFill) (by simp [kx_atoms]))
    cases Option.some.inj (q1.symm.trans hfound)
    cases Option.some.inj (q2.symm.trans (State.methodFound?_of_named Y.fill (by decide)))
    cases Option.some.inj (q3.symm.trans Y.fill)
    rw [Launch.admits_selectMethod X.admits]; exact q4
  obtain ⟨cellS0, hcS0, hiss⟩ := Y.statics
  obtain ⟨u0, hu0⟩ := Cond.staticRefV Y.unassigned L.unassignedStatic L.statics hcS0 hiss (a' (.isRef (.static Bundle.tN "UNASSIGNED_STACK" Bundle.steD)) (by simp [kx_atoms]))
  obtain ⟨sen, hsen⟩ := Cond.staticRefV Y.sentinel L.sentinelStatic L.statics hcS0 hiss (a' (.isRef (.static Bundle.tN "SUPPRESSED_SENTINEL" Bundle.listD)) (by simp [kx_atoms]))
  obtain ⟨ci198, i198, fB, hk198, hg198, ha198, hsB, -, hnB, htB, hffB⟩ := Cond.ownField (t := .object "java/lang/Object") Y.found L.cls (by decide +kernel) (a' (.fieldLink Bundle.tN 198 Bundle.tN "backtrace" "Ljava/lang/Object;") (by simp [kx_atoms])) (a' (.lays Bundle.tN Bundle.tN "backtrace" "Ljava/lang/Object;") (by simp [kx_atoms])) e.platform hpl
  obtain ⟨cellS, hcS', heS, -, hkeep⟩ := X.same.2.2.2.2.2 T.aS cellS0 hcS0
  have hcellS : W.heap[T.aS]? = some cellS := hcS'
  have hout' : ∀ i, (⟨T.aS, i⟩ : Loc) ∉ locs := fun i hmem => by
    have := hlocs _ hmem cellS0 hcS0
    rw [hiss] at this; cases this
  have hknownS : cellS.vm ≠ .unknown := by
    rw [heS]; intro hu
    rw [show cellS0.vm = .unknown from hu] at hiss
    cases hiss
  have hneS : T.aS ≠ a := Nat.ne_of_lt (Nat.lt_of_lt_of_le (Array.getElem?_eq_some_iff.mp hcS0).1 hnew)
  obtain ⟨iM, hffM⟩ := Y.msg
  obtain ⟨tyC, dC, hdC, hdnC⟩ := Cond.laysAt hfound hk Y.cause (a' (.lays cls Bundle.tN "cause" "Ljava/lang/Throwable;") (by simp [kx_atoms]))
  obtain ⟨tyS, dS, hdS, hdnS⟩ := Cond.laysAt hfound hk Y.stack (a' (.lays cls Bundle.tN "stackTrace" Bundle.steD) (by simp [kx_atoms]))
  obtain ⟨tyP, dP, hdP, hdnP⟩ := Cond.laysAt hfound hk Y.supp (a' (.lays cls Bundle.tN "suppressedExceptions" Bundle.listD) (by simp [kx_atoms]))
  obtain ⟨tyM, dM, hdM, hdnM⟩ := Cond.laysAt hfound hk hffM (a' (.lays cls Bundle.tN "detailMessage" "Ljava/lang/String;") (by simp [kx_atoms]))
  obtain ⟨tyB, dB, hdB, hdnB⟩ := Cond.laysAt hfound hk hffB (a' (.lays cls Bundle.tN "backtrace" "Ljava/lang/Object;") (by simp [kx_atoms]))
  have bC := Cond.laysApart hdB hdC hdnB hdnC (by rw [hnB, Y.causeName]; decide)
  have bS := Cond.laysApart hdB hdS hdnB hdnS (by rw [hnB, Y.stackName]; decide)
  have bP := Cond.laysApart hdB hdP hdnB hdnP (by rw [hnB, Y.suppName]; decide)
  have hskip : SkipFacts T e.platform s (fun u => u) u0 ((preparedCellV T.toThrowableT (freshCell P1.m.cls kX) a u0 sen).withEntry W.cur) :=
    ⟨{ ci198 := ci198, i198 := i198, fBack := fB }, ⟨hk198, hg198, ha198, hsB⟩, by
      have := fresh_default (c := P1.m.cls) tyB
      rw [htB] at this
      simpa [preparedCellV, Cell.setSlot, Cell.withEntry, Array.getElem?_setIfInBounds, bC, bS, bP, bC.symm, bS.symm, bP.symm, defaultValue] using this, fun _ _ => rfl⟩
  obtain ⟨tm, methC, cdC, kC, vm₁, hnC, -, -, -, -, -, -, -, hW₁, st1⟩ := Steps.initColdS (tb := p.tables) (e := e) (below := below) (s := s) (U := W) X.here hexec X.warmed hpl hown (t := Bundle.initS cls) rfl rfl (Bundle.fit_spec hcls).2
    (a' (.methodLink own ic (Bundle.initS cls)) (by simp [kx_atoms])) (h (.instanceMethod (Bundle.initS cls)) (by simp [kx_atoms, Bundle.passSAtoms])) (bytes := b1) (maxL := 2) (h (.code (Bundle.initS cls) b1 2 none) (by simp [kx_atoms, Bundle.passSAtoms]))
    (f := g) hg (a := a) (msg := msg) (rest := .ref a :: rest) hstack hd6
  cases Option.some.inj (hnC.symm.trans hP1m)
  have X₁ := X.noted hW₁
  obtain ⟨vm₂, X₂, st2⟩ := X₁.ctorMessageOffV hexec (g := { g with stack := .ref a :: rest }) hg hsize T L Z LZ M LM (P1 :: P2 :: Ps)
    (fun P hP => by rcases List.mem_cons.mp hP with rfl | hP; exact L1; rcases List.mem_cons.mp hP with rfl | hP; exact L2; exact hL P hP) ⟨Option.some.inj (hs1.symm.trans hP2m), hlink2, hlink⟩ (u0 := u0) (sen := sen) (self := a) hmsg (cell := freshCell P1.m.cls kX) (cellS := cellS)
    hcell (fun _ => by simp) (by simp) rfl rfl hsel0 hselF hcellS hneS hknownS (by rw [hkeep _ (hout' _)]; exact hu0) (by rw [hkeep _ (hout' _)]; exact hsen)
    (Takes.of_laid hk hord tyC (by rw [Y.causeType]; rfl)) (Takes.of_laid hk hord tyS (by rw [Y.stackType]; exact fits_refV_array _ u0)) (Takes.of_laid hk hord tyP (by rw [Y.suppType]; exact fits_refV_object _ sen))
    (Takes.of_laid hk hord tyM (by rw [Y.msgType]; exact fits_refV_object _ ⟨msg, hmsg⟩)) Y.objLocals hskip htr [] hd6
    (by simp only [List.length_cons, hlen]; omega) (by simp only [List.length_cons, hlen]; exact hRlocals)
  have hlt : a < ((W.setVm vm₁).setVm vm₂).heap.size := (Array.getElem?_eq_some_iff.mp hcell).1
  refine ⟨(W.setVm vm₁).setVm vm₂, _, _, X₂, fun y hy => ?_, hlt, rfl, rfl, fun target hwalk => st1 _ (fun acts => ?_)⟩
  · simp only [List.mem_cons, List.not_mem_nil, or_false] at hy
    rcases hy with rfl | rfl | rfl | rfl | rfl <;> rfl
  · rw [doInvoke_state]
    exact st2 _ hwalk
end KXA
section KXB
variable {p : Program} {l : Launch} {e : Env} {R : Room} {s : State} {m : MethodId} {args : Array Value} {below : List Frame} {meth : Method} {c : Code} {H : Heap} {locs : List Loc} {cells slots : Nat} {Q : State → Prop}
variable {ls : Array Slot} {rest : List Value} {D : va_G} {cl : List vw_C} {tys : List (ClassId × FieldType)} {ws : va_W}
theorem kx_make {cc : ByteArray} {pc : Nat} (hexec : p.tables.exec = Jvm.exec) (hb : c.code = cc) (hl : l.stackTraces = false) {own cls text : String} {up : String} {r : List String} {i1 : Nat} {b1 : ByteArray} {ik is ic sa : Nat} {A : Nat → Prop}
    (hown : s.vm.findClass own = some m.cls) (hcls : Bundle.fit cls = true) (hY1 : Bundle.fit up = true) (hr1 : ∀ n ∈ r, Bundle.fit n = true) (g0 : decode b1 0 = .ok (.aload_n 0, 1)) (g1 : decode b1 1 = .ok (.aload_n 1, 1)) (g2 : decode b1 2 = .ok (.invokespecial i1, 3)) (g5 : decode b1 5 = .ok (.return_, 1))
    (hk : (Cond.classLink own ik cls).before args s = true) (hini : (Cond.initialized cls).before args s = true) (hstr : vk_R own is text sa s) (hat : ∀ w ∈ kx_at own ic cls i1 b1 up r, w.before args s = true)
    (hgood : ∀ w ∈ Cond.classLink own ik cls :: Cond.initialized cls :: kx_at own ic cls i1 b1 up r, vx_ot w = true)
    (hU : vx_Zq Bundle.tN "UNASSIGNED_STACK" Bundle.steD A s s.heap) (hN : vx_Zq Bundle.tN "SUPPRESSED_SENTINEL" Bundle.listD A s s.heap) (hS : va_S A s.heap H locs) (hsize : ls.size = c.maxLocals)
    (d0 : decode cc pc = .ok (.new ik, 3)) (d3 : decode cc (pc + 3) = .ok (.dup, 1)) (d4 : decode cc (pc + 4) = .ok (.ldc is, 2)) (d6 : decode cc (pc + 6) = .ok (.invokespecial ic, 3))
    (hRframes : (r.length + 1) + 3 < R.frames) (hRlocals : (rest.map fun v => v.category).sum + (13 * ((r.length + 1) + 1) + 43) ≤ R.locals) (hRcells : cells + 1 ≤ R.cells) (hRslots : slots + 6 ≤ R.slots)
    (kk : ∀ (q : Nat) (H1 : Heap) (ce : Cell), H1[q]? = some ce → ce.vm = .none → s.vm.findClass cls = some ce.cls → H.size ≤ H1.size → (∀ z : Nat, z < H.size → H1[z]? = H[z]?) → va_S A s.heap H1 locs → W p l e R s m args below meth c H1 locs (cells + 1) (slots + 6) Q (F0 m (pc + 9) ls (.ref q :: rest))) :
    W p l e R s m args below meth c H locs cells slots Q (F0 m pc ls rest) := by
  intro T hT X
  subst hT
  have htr : e.platform.stackTraces = false := (show e.platform.stackTraces = l.stackTraces by rw [X.admits.platform]).trans hl
  have Y := vx_rebase X (R' := { frames := R.frames, locals := R.locals, cells := 1, slots := 6 }) (Nat.le_refl _) (Nat.le_refl _) hRcells hRslots
  obtain ⟨s', hA'⟩ : ∃ z, z = (T.setVm s.vm).setFrames (.invoking m args :: below) := ⟨_, rfl⟩
  rw [← hA'] at Y
  have hvm : s'.vm = s.vm := by rw [hA']; rfl
  have hhp : s'.heap = T.heap := by rw [hA']; rfl
  have hW0 : s.WarmedH s'.vm := by rw [hvm]; exact State.WarmedH.refl s
  have hat' : ∀ w ∈ kx_at own ic cls i1 b1 up r, w.before args s' = true := fun w hw => vx_ot_at hW0 hvm.symm (hgood w (List.mem_cons_of_mem _ (List.mem_cons_of_mem _ hw))) (hat w hw)
  have hk' : (Cond.classLink own ik cls).before args s' = true := vx_ot_at hW0 hvm.symm (hgood _ List.mem_cons_self) hk
  have hini' : (Cond.initialized cls).before args s' = true := vx_ot_at hW0 hvm.symm (hgood _ (List.mem_cons_of_mem _ List.mem_cons_self)) hini
  have hU' : vx_Zq Bundle.tN "UNASSIGNED_STACK" Bundle.steD A s' s'.heap := by rw [hhp]; exact vx_Zq.moved hW0.alike (hU.kept hS.2.1)
  have hN' : vx_Zq Bundle.tN "SUPPRESSED_SENTINEL" Bundle.listD A s' s'.heap := by rw [hhp]; exact vx_Zq.moved hW0.alike (hN.kept hS.2.1)
  have h : ∀ w ∈ kx_atoms own ic cls i1 b1 up r, w.before args s' = true := vx_own hat' (vx_isRefq hU'.1) (vx_isRefq hN'.1) hU'.2.word hN'.2.word
  have hown' : s'.vm.findClass own = some m.cls := by rw [hvm]; exact hown
  have hins : (Cond.instantiable cls 6).before args s' = true := h _ (by simp [kx_atoms])
  obtain ⟨vm₁, cX, kX, hfX, hkX, -, -, X₁, st1⟩ := Y.newCold hexec (own := own) (C := cls) (index := ik) (n := 6) hown' hk' hins hini'
    (g := F0 m pc ls rest) rfl (by rw [hb]; exact d0) (Nat.le_refl _) (Nat.le_refl _)
  generalize hT1 : (T.setVm vm₁).pushCell { cls := cX, slots := kX.instanceTypes.map defaultValue, vm := .none } = T1 at X₁ st1
  have hcat : (Value.ref T.heap.size).category = 1 := rfl
  have hcellA : T1.heap[T.heap.size]? = some (freshCell cX kX) := by rw [← hT1]; exact State.heap_pushCell_size _ _
  have d3' : decode c.code (pc + 3) = .ok (.dup, 1) := by rw [hb]; exact d3
  have d4' : decode c.code (pc + 4) = .ok (.ldc is, 2) := by rw [hb]; exact d4
  have hstr' : vk_R own is text sa s' := vk_R.warm hW0 hstr
  obtain ⟨V, ce, L, Z, hL, hlt, hcl9, hvm9, st⟩ := kx_ctorMade X₁ hexec htr (own := own) (cls := cls) (up := up) (r := r) (ic := ic) hown' hcls hY1 hr1 g0 g1 g2 g5 h (fun x hx => nomatch hx) hfX hkX hcellA (by rw [hhp]; exact Nat.le_refl _) (msg := .ref sa) rfl
    (g := { method := m, pc := pc + 6, locals := ls, stack := .ref sa :: .ref T.heap.size :: .ref T.heap.size :: rest, locked := none }) rfl hsize (rest := rest) rfl
    (by rw [hb]; exact d6) hRframes (by simp only [List.map_cons, List.sum_cons, hcat]; omega)
  have Z0 := Stand.forget (locs := []) Z (fun y hy => by rw [hL y hy, hhp]; exact Nat.le_refl _)
  obtain ⟨f1, f2⟩ := vx_frame Z0.same
  rw [hhp] at f1 f2
  have hcid : s.vm.findClass cls = some ce.cls := by
    rw [hvm] at hfX
    rw [hcl9]
    exact hfX
  have hh : (V.setCell T.heap.size ce).heap[T.heap.size]? = some ce := heapAt_setCell_self (s := V) ce hlt
  subst hA'
  have X5 := vx_back9 X Y Z0
  have X6 : Stand p l e R s m args below meth c (V.setCell T.heap.size ce) locs (cells + 1) (slots + 6) := { X5 with same := X5.same.mono (by omega) (by omega) }
  obtain ⟨t, a1, b1⟩ := kk T.heap.size (V.setCell T.heap.size ce).heap ce hh hvm9 hcid f1 (fun z hz => f2 z hz (fun y hy => nomatch hy)) ⟨Nat.le_trans hS.1 f1, fun q h1 h2 => (f2 q (Nat.lt_of_lt_of_le h1 hS.1) (fun z hz => nomatch hz)).trans (hS.2.1 q h1 h2), hS.2.2⟩ _ rfl X6
  refine ⟨t, st1 _ ?_, b1⟩
  show Steps p.tables e below (T1.setTop { method := m, pc := pc + 3, locals := ls, stack := .ref T.heap.size :: rest, locked := none }) _
  jvm_step X₁.here [X₁.here.top, hexec, d3', Value.category]
  exact X₁.ldcString hexec (own := own) (text := text) (index := is) (a := sa) hown' hstr'.1 hstr'.2
    (g := { method := m, pc := pc + 4, locals := ls, stack := .ref T.heap.size :: .ref T.heap.size :: rest, locked := none }) rfl d4' _ (st _ a1)
theorem vx_athrow {cc : ByteArray} {pc : Nat} (hexec : p.tables.exec = Jvm.exec) (hb : c.code = cc) {q : Addr} (hdg : decode cc pc = .ok (.athrow, 1)) (k : vx_W p l e R s m args below meth c H locs cells slots Q (F0 m pc ls rest) q) : W p l e R s m args below meth c H locs cells slots Q (F0 m pc ls (.ref q :: rest)) := by
  intro T hT X
  obtain ⟨t, st, hq⟩ := k T hT X
  refine ⟨t, ?_, hq⟩
  have hdg' : decode c.code pc = .ok (.athrow, 1) := by rw [hb]; exact hdg
  jvm_step X.here [X.here.top, hexec, hdg', athrow.wp_sem]
  exact st
end KXB
end
section
/-! what lies outside the cells and never changes: three static tables, the texts, words of nest mates -/
def mm_ro (t j : Nat) : Int32 := (([[4, 50, 200], [0, 1, 1, 2, 1, 2, 2, 3, 1, 2, 2, 3, 2, 3, 3, 4], [0, 0, 1, 0, 2, 0, 1, 0, 3, 0, 1, 0, 2, 0, 1, 0]] : List (List Int32)).getD t []).getD j 0
def mm_txt : List (List Int32) := [[115, 108, 111, 116, 115], [112, 114, 105, 99, 101], [112, 108, 117, 103, 115], [112, 111, 119, 101, 114], [108, 105, 109, 105, 116], [99, 117, 114, 118, 101], [98, 117, 115], [99, 104, 97, 114, 103, 101]]
def mm_txl : List Nat := [5, 5, 5, 5, 5, 5, 3, 6]
def mm_rw : List Cond := [.fieldLinkNest "DepotCharge$Reader" 109 "DepotCharge" "MOST_OF_SETTING" "[I" "DepotCharge", .fieldLinkNest "DepotCharge$Depot" 66 "DepotCharge" "MOST_OF_SETTING" "[I" "DepotCharge", .fieldLinkNest "DepotCharge$Ledger" 55 "DepotCharge" "SIZE_OF_SET" "[I" "DepotCharge", .fieldLinkNest "DepotCharge$Planner" 141 "DepotCharge" "SIZE_OF_SET" "[I" "DepotCharge", .fieldLinkNest "DepotCharge$Planner" 144 "DepotCharge" "FIRST_OF_SET" "[I" "DepotCharge", .fieldLinkNest "DepotCharge$Ruler" 46 "DepotCharge" "SIZE_OF_SET" "[I" "DepotCharge", .fieldLinkNest "DepotCharge$Ruler" 63 "DepotCharge" "FIRST_OF_SET" "[I" "DepotCharge"]
def mm_RO (ad : Nat → Nat) (A : Nat → Prop) (U : State) (H : Heap) : Prop :=
  (va_Z "DepotCharge" "MOST_OF_SETTING" "[I" (.ref (ad 100)) A U H ∧ va_Z "DepotCharge" "SIZE_OF_SET" "[I" (.ref (ad 101)) A U H ∧ va_Z "DepotCharge" "FIRST_OF_SET" "[I" (.ref (ad 102)) A U H) ∧
  (va_T .int (ad 100) 3 (fun j => .int (mm_ro 0 j)) A U H ∧ va_T .int (ad 101) 16 (fun j => .int (mm_ro 1 j)) A U H ∧ va_T .int (ad 102) 16 (fun j => .int (mm_ro 2 j)) A U H) ∧
  (∀ w ∈ mm_rw, va_Nw w U) ∧
  (vk_S 8 mm_txl mm_txt (fun i => ad (200 + i)) (fun i => ad (300 + i)) A U H ∧ vk_R "DepotCharge$Reader" 34 "slots" (ad 200) U ∧ vk_R "DepotCharge$Reader" 43 "price" (ad 201) U ∧ vk_R "DepotCharge$Reader" 48 "plugs" (ad 202) U ∧ vk_R "DepotCharge$Reader" 54 "power" (ad 203) U ∧ vk_R "DepotCharge$Reader" 56 "limit" (ad 204) U ∧ vk_R "DepotCharge$Reader" 58 "curve" (ad 205) U ∧ vk_R "DepotCharge$Reader" 63 "bus" (ad 206) U ∧ vk_R "DepotCharge$Reader" 68 "charge" (ad 207) U) ∧
  (va_Z "java/lang/String" "COMPACT_STRINGS" "Z" (.int 1) A U H ∧ (va_Z "jdk/internal/util/Preconditions" "SIOOBE_FORMATTER" "Ljava/util/function/BiFunction;" .null A U H ∨ va_Z "jdk/internal/util/Preconditions" "SIOOBE_FORMATTER" "Ljava/util/function/BiFunction;" (.ref (ad 400)) A U H))
theorem mm_RO.kept {ad : Nat → Nat} {A : Nat → Prop} {U : State} {H H1 : Heap} (h : mm_RO ad A U H) (hq : ∀ a : Nat, a < H.size → ¬ A a → H1[a]? = H[a]?) : mm_RO ad A U H1 := by
  obtain ⟨⟨a1, a2, a3⟩, ⟨b1, b2, b3⟩, c, ⟨d1, d2⟩, e1, e2⟩ := h
  exact ⟨⟨a1.kept hq, a2.kept hq, a3.kept hq⟩, ⟨b1.kept hq, b2.kept hq, b3.kept hq⟩, c, ⟨d1.kept hq, d2⟩, e1.kept hq, e2.imp (fun h => h.kept hq) (fun h => h.kept hq)⟩
theorem mm_RO.narrow {ad : Nat → Nat} {A B : Nat → Prop} {U : State} {H : Heap} (h : mm_RO ad A U H) (hq : ∀ q, B q → A q) : mm_RO ad B U H := by
  obtain ⟨⟨a1, a2, a3⟩, ⟨b1, b2, b3⟩, c, ⟨d1, d2⟩, e1, e2⟩ := h
  exact ⟨⟨a1.narrow hq, a2.narrow hq, a3.narrow hq⟩, ⟨b1.narrow hq, b2.narrow hq, b3.narrow hq⟩, c, ⟨d1.narrow hq, d2⟩, e1.narrow hq, e2.imp (fun h => h.narrow hq) (fun h => h.narrow hq)⟩
theorem mm_rw_tab : ∀ w ∈ mm_rw, w.onTables = true := by decide +kernel
theorem mm_rw_warm {s U : State} (hW : s.WarmedH U.vm) (h : ∀ w ∈ mm_rw, va_Nw w s) : ∀ w ∈ mm_rw, va_Nw w U := by
  intro w hw
  have h1 := h w hw
  simp only [mm_rw, List.mem_cons, List.not_mem_nil, or_false] at hw
  rcases hw with e | e | e | e | e | e | e <;> (subst e; exact va_Nw.warmF hW h1)
theorem mm_RO.warm {ad : Nat → Nat} {A : Nat → Prop} {s U : State} {H : Heap} (hW : s.WarmedH U.vm) (h : mm_RO ad A s H) : mm_RO ad A U H := by
  have hv := hW.alike
  obtain ⟨⟨a1, a2, a3⟩, ⟨b1, b2, b3⟩, c, ⟨d1, d2, d3, d4, d5, d6, d7, d8, d9⟩, e1, e2⟩ := h
  exact ⟨⟨a1.moved hv, a2.moved hv, a3.moved hv⟩, ⟨b1.moved hv, b2.moved hv, b3.moved hv⟩, mm_rw_warm hW c, ⟨d1.moved hv, d2.warm hW, d3.warm hW, d4.warm hW, d5.warm hW, d6.warm hW, d7.warm hW, d8.warm hW, d9.warm hW⟩, e1.moved hv, e2.imp (fun h => h.moved hv) (fun h => h.moved hv)⟩
theorem mm_RO.same {ad : Nat → Nat} {A : Nat → Prop} {s U : State} {H : Heap} (hW : U.vm = s.vm) (h : mm_RO ad A s H) : mm_RO ad A U H := by
  have hv : s.vm.Alike U.vm := by rw [hW]; exact Vm.Alike.refl _
  obtain ⟨⟨a1, a2, a3⟩, ⟨b1, b2, b3⟩, c, ⟨d1, d2, d3, d4, d5, d6, d7, d8, d9⟩, e1, e2⟩ := h
  exact ⟨⟨a1.moved hv, a2.moved hv, a3.moved hv⟩, ⟨b1.moved hv, b2.moved hv, b3.moved hv⟩, fun w hw => va_Nw.same (mm_rw_tab w hw) hW.symm (c w hw), ⟨d1.moved hv, d2.same hW, d3.same hW, d4.same hW, d5.same hW, d6.same hW, d7.same hW, d8.same hW, d9.same hW⟩, e1.moved hv, e2.imp (fun h => h.moved hv) (fun h => h.moved hv)⟩
-- values: a reference is a cell's id; ad: where the cells lie
def mm_v (ad : Nat → Nat) : Value → Value
  | .ref k => .ref (ad k)
  | v => v
def mm_L (ad : Nat → Nat) (lo : List (Option Value)) (ls : Array Slot) (nL : Nat) : Prop := ls.size = nL ∧ lv_wf ls ∧ ∀ (i : Nat) (v : Value), lo[i]? = some (some v) → ls[i]? = some (.val (mm_v ad v))
-- a method: its name, bytes, locals, answer, and how deep it goes
abbrev mm_J : Type := MethodName × ByteArray × Nat × Option FieldType × Nat
abbrev mm_X : Type := Nat × (Nat → Int32)
-- what a throw needs: the text, two statics of Throwable, words of the tables
def kx_ns : String := "java/util/NoSuchElementException"
def kx_bad : List Cond := [.declares (Bundle.initS "java/lang/RuntimeException"), .declares (Bundle.initS "java/lang/Exception"), .declares (Bundle.initS "java/lang/Throwable"), .castable kx_ns kx_ns]
def mm_RX (ad : Nat → Nat) (A : Nat → Prop) (U : State) (H : Heap) : Prop := vk_R "DepotCharge" 140 "no such bus, or nothing such is told of it" (ad 208) U ∧ vx_Zq Bundle.tN "UNASSIGNED_STACK" Bundle.steD A U H ∧ vx_Zq Bundle.tN "SUPPRESSED_SENTINEL" Bundle.listD A U H ∧ ∀ w ∈ kx_bad, va_Nw w U
theorem mm_RX.kept {ad : Nat → Nat} {A : Nat → Prop} {U : State} {H H1 : Heap} (h : mm_RX ad A U H) (hq : ∀ a : Nat, a < H.size → ¬ A a → H1[a]? = H[a]?) : mm_RX ad A U H1 := ⟨h.1, h.2.1.kept hq, h.2.2.1.kept hq, h.2.2.2⟩
theorem mm_RX.narrow {ad : Nat → Nat} {A B : Nat → Prop} {U : State} {H : Heap} (h : mm_RX ad A U H) (hq : ∀ q, B q → A q) : mm_RX ad B U H := ⟨h.1, h.2.1.narrow hq, h.2.2.1.narrow hq, h.2.2.2⟩
theorem kx_tab : ∀ w ∈ kx_bad, w.onTables = true := by decide +kernel
theorem mm_RX.warm {ad : Nat → Nat} {A : Nat → Prop} {s U : State} {H : Heap} (hW : s.WarmedH U.vm) (h : mm_RX ad A s H) : mm_RX ad A U H := ⟨h.1.warm hW, h.2.1.moved hW.alike, h.2.2.1.moved hW.alike, fun w hw => by
  have h1 := h.2.2.2 w hw
  simp only [kx_bad, List.mem_cons, List.not_mem_nil, or_false] at hw
  rcases hw with e | e | e | e <;> (subst e; first | exact va_Nw.warmD hW h1 | exact va_Nw.warmC hW h1)⟩
theorem mm_RX.same {ad : Nat → Nat} {A : Nat → Prop} {s U : State} {H : Heap} (hv : U.vm = s.vm) (h : mm_RX ad A s H) : mm_RX ad A U H := ⟨h.1.same hv, h.2.1.moved (by rw [hv]; exact Vm.Alike.refl _), h.2.2.1.moved (by rw [hv]; exact Vm.Alike.refl _), fun w hw => va_Nw.same (kx_tab w hw) hv.symm (h.2.2.2 w hw)⟩
/-- what a walk of the method j has, from its entry on -/
def mm_C (l : Launch) (j : mm_J) (X : mm_X) (p : Program) (R : Room) (s : State) (m : MethodId) (args : Array Value) (meth : Method) (c : Code) (D : va_G) (A : Nat → Prop) (cs : mm_K) (ad : Nat → Nat) : Prop :=
  p.tables.exec = Jvm.exec ∧ c.code = j.2.1 ∧ c.maxLocals = j.2.2.1 ∧ meth.sig.returnType = j.2.2.2.1 ∧ (∀ w ∈ mm_tbl, w.before args s = true) ∧ s.vm.findClass j.1.cls = some m.cls ∧ meth.locks = false ∧
  va_K D vwCl (mm_ty cs) s ∧ (∀ q, s.heap.size ≤ q → A q) ∧ mm_RO ad A s s.heap ∧ (X.1 = 0 ∨ (va_T .int (ad 103) X.1 (fun j => .int (X.2 j)) A s s.heap ∧ l.stackTraces = false ∧ mm_RX ad A s s.heap)) ∧ j.2.2.2.2 ≤ R.frames ∧ 36 * j.2.2.2.2 ≤ R.locals
def mm_W (s : State) (D : va_G) (A : Nat → Prop) (cs : mm_K) (ad : Nat → Nat) (M : mm_M) (H : Heap) (locs : List Loc) : Prop :=
  va_P D vwCl (mm_ws ad cs M) H ∧ va_D A (mm_ws ad cs M) ∧ va_S A s.heap H locs
/-- an end of j: the answer r is on the stack at pc -/
def mm_E (j : mm_J) (pc : Nat) (r : Option Value) (st : List Value) : Prop := match r with
  | none => st = [] ∧ decode j.2.1 pc = .ok (.return_, 1) ∧ j.2.2.2.1 = none
  | some (.int v) => st = [.int v] ∧ decode j.2.1 pc = .ok (.ireturn, 1) ∧ ∃ ty, j.2.2.2.1 = some ty ∧ narrow ty (.int v) = .int v
  | some (.long v) => st = [.long v] ∧ decode j.2.1 pc = .ok (.lreturn, 1) ∧ j.2.2.2.1 = some .long
  | _ => False
/-- from pc on, with locals lo, stack st and memory M: if ee comes to x, so does the machine -/
def Snd {α : Type} (inj : α → Option Value × mm_M) (j : mm_J) (X : mm_X) (pc : Nat) (lo : List (Option Value)) (st : List Value) (M : mm_M) (ee : Option α) : Prop :=
  ∀ x, ee = some x → mG M ≤ mG (inj x).2 ∧ ∀ (p : Program) (l : Launch) (e : Env) (R : Room) (s : State) (m : MethodId) (args : Array Value) (below : List Frame) (meth : Method) (c : Code) (D : va_G) (A : Nat → Prop) (cs : mm_K) (ad : Nat → Nat) (g0 k0 s0 : Nat) (Q : State → Prop),
    mm_C l j X p R s m args meth c D A cs ad → k0 + mG (inj x).2 ≤ R.cells + g0 → s0 + 6 * mG (inj x).2 ≤ R.slots + 6 * g0 →
    (∀ (H : Heap) (locs : List Loc) (cells slots : Nat) (pc : Nat) (ls : Array Slot) (st : List Value), mm_W s D A cs ad (inj x).2 H locs → cells + g0 = k0 + mG (inj x).2 → slots + 6 * g0 = s0 + 6 * mG (inj x).2 → mm_E j pc (inj x).1 st → W p l e R s m args below meth c H locs cells slots Q (F0 m pc ls st)) →
    ∀ (H : Heap) (locs : List Loc) (cells slots : Nat) (ls : Array Slot), mm_W s D A cs ad M H locs → mm_L ad lo ls j.2.2.1 → cells + g0 = k0 + mG M → slots + 6 * g0 = s0 + 6 * mG M → W p l e R s m args below meth c H locs cells slots Q (F0 m pc ls (st.map (mm_v ad)))
/-- one step -/
def mStp (j : mm_J) (X : mm_X) (pc : Nat) (lo : List (Option Value)) (st : List Value) (M : mm_M) (pc' : Nat) (lo' : List (Option Value)) (st' : List Value) (M' : mm_M) : Prop :=
  mG M' = mG M ∧ ∀ (p : Program) (l : Launch) (e : Env) (R : Room) (s : State) (m : MethodId) (args : Array Value) (below : List Frame) (meth : Method) (c : Code) (D : va_G) (A : Nat → Prop) (cs : mm_K) (ad : Nat → Nat) (Q : State → Prop),
    mm_C l j X p R s m args meth c D A cs ad → ∀ (H : Heap) (locs : List Loc) (cells slots : Nat) (ls : Array Slot), cells ≤ R.cells → slots ≤ R.slots → mm_W s D A cs ad M H locs → mm_L ad lo ls j.2.2.1 →
    (∀ (H' : Heap) (locs' : List Loc) (ls' : Array Slot), mm_W s D A cs ad M' H' locs' → mm_L ad lo' ls' j.2.2.1 → W p l e R s m args below meth c H' locs' cells slots Q (F0 m pc' ls' (st'.map (mm_v ad)))) →
    W p l e R s m args below meth c H locs cells slots Q (F0 m pc ls (st.map (mm_v ad)))
theorem mStp.go {α : Type} {inj : α → Option Value × mm_M} {j : mm_J} {X : mm_X} {pc pc' : Nat} {lo lo' : List (Option Value)} {st st' : List Value} {M M' : mm_M} {ee : Option α} (h : mStp j X pc lo st M pc' lo' st' M') (k : Snd inj j X pc' lo' st' M' ee) : Snd inj j X pc lo st M ee := by
  intro x hx
  obtain ⟨k1, k2⟩ := k x hx
  refine ⟨by rw [← h.1]; exact k1, ?_⟩
  intro p l e R s m args below meth c D A cs ad g0 k0 s0 Q C b1 b2 hQ H locs cells slots ls hW hL hc hs
  refine h.2 p l e R s m args below meth c D A cs ad Q C H locs cells slots ls (by have := h.1; omega) (by have := h.1; omega) hW hL fun H' locs' ls' hW' hL' => ?_
  exact k2 p l e R s m args below meth c D A cs ad g0 k0 s0 Q C b1 b2 hQ H' locs' cells slots ls' hW' hL' (by rw [h.1]; exact hc) (by rw [h.1]; exact hs)
theorem Snd.none {α : Type} {inj : α → Option Value × mm_M} {j : mm_J} {X : mm_X} {pc : Nat} {lo : List (Option Value)} {st : List Value} {M : mm_M} : Snd inj j X pc lo st M (Option.none : Option α) := fun x hx => by cases hx
theorem Snd.ite {α : Type} {inj : α → Option Value × mm_M} {j : mm_J} {X : mm_X} {pc : Nat} {lo : List (Option Value)} {st : List Value} {M : mm_M} {b : Bool} {ee : Option α} (k : b = true → Snd inj j X pc lo st M ee) : Snd inj j X pc lo st M (if b = true then ee else Option.none) := by
  by_cases h : b = true
  · rw [if_pos h]; exact k h
  · rw [if_neg h]; exact Snd.none
theorem Snd.gd {α : Type} {inj : α → Option Value × mm_M} {j : mm_J} {X : mm_X} {pc : Nat} {lo : List (Option Value)} {st : List Value} {M : mm_M} {P : Prop} [Decidable P] {ee : Option α} (k : P → Snd inj j X pc lo st M ee) : Snd inj j X pc lo st M (if P then ee else Option.none) := by
  by_cases h : P
  · rw [if_pos h]; exact k h
  · rw [if_neg h]; exact Snd.none
-- locals
def mm_kill (lo : List (Option Value)) (i : Nat) : List (Option Value) := match i with
  | 0 => lo
  | k + 1 => match lo[k]? with
    | some (some (.long _)) => lo.set k Option.none
    | some (some (.double _)) => lo.set k Option.none
    | _ => lo
def mm_st1 (lo : List (Option Value)) (i : Nat) (v : Value) : List (Option Value) := (mm_kill lo i).set i (some v)
def mm_st2 (lo : List (Option Value)) (i : Nat) (v : Value) : List (Option Value) := ((mm_kill lo i).set i (some v)).set (i + 1) Option.none
theorem mm_v_cat (ad : Nat → Nat) (v : Value) : (mm_v ad v).category = v.category := by cases v <;> rfl
theorem mm_kill_sub {lo : List (Option Value)} {i k : Nat} {v : Value} (h : (mm_kill lo i)[k]? = some (some v)) : lo[k]? = some (some v) ∧ ¬ (k + 1 = i ∧ v.category = 2) := by
  cases i with
  | zero => exact ⟨h, by omega⟩
  | succ n =>
    unfold mm_kill at h
    dsimp only at h
    split at h
    · next w hw =>
      by_cases hk : k = n
      · subst hk
        have hl : k < lo.length := (List.getElem?_eq_some_iff.mp hw).1
        rw [List.getElem?_set_self hl] at h
        cases h
      · rw [List.getElem?_set_ne (fun e => hk e.symm)] at h
        exact ⟨h, by omega⟩
    · next w hw =>
      by_cases hk : k = n
      · subst hk
        have hl : k < lo.length := (List.getElem?_eq_some_iff.mp hw).1
        rw [List.getElem?_set_self hl] at h
        cases h
      · rw [List.getElem?_set_ne (fun e => hk e.symm)] at h
        exact ⟨h, by omega⟩
    · next h1 h2 =>
      refine ⟨h, fun q => ?_⟩
      obtain ⟨q1, q2⟩ := q
      have hk : k = n := by omega
      subst hk
      cases v with
      | long z => exact h1 z h
      | double z => exact h2 z h
      | _ => simp [Value.category] at q2
theorem mm_st1_mem {lo : List (Option Value)} {i k : Nat} {v w : Value} (h : (mm_st1 lo i v)[k]? = some (some w)) : (k = i ∧ w = v) ∨ (k ≠ i ∧ lo[k]? = some (some w) ∧ ¬ (k + 1 = i ∧ w.category = 2)) := by
  unfold mm_st1 at h
  by_cases hk : k = i
  · subst hk
    rw [List.getElem?_set] at h
    rw [if_pos rfl] at h
    split at h
    · cases h; exact Or.inl ⟨rfl, rfl⟩
    · cases h
  · rw [List.getElem?_set_ne (fun e => hk e.symm)] at h
    exact Or.inr ⟨hk, mm_kill_sub h⟩
theorem mm_st2_mem {lo : List (Option Value)} {i k : Nat} {v w : Value} (h : (mm_st2 lo i v)[k]? = some (some w)) : (k = i ∧ w = v) ∨ (k ≠ i ∧ k ≠ i + 1 ∧ lo[k]? = some (some w) ∧ ¬ (k + 1 = i ∧ w.category = 2)) := by
  unfold mm_st2 at h
  by_cases hk2 : k = i + 1
  · subst hk2
    rw [List.getElem?_set, if_pos rfl] at h
    split at h
    · cases h
    · cases h
  · rw [List.getElem?_set_ne (fun e => hk2 e.symm)] at h
    rcases mm_st1_mem (lo := lo) (i := i) (v := v) h with q | ⟨q1, q2⟩
    · exact Or.inl q
    · exact Or.inr ⟨q1, hk2, q2⟩
/-- the locals' list of the kit, out of ours -/
def mm_lv (ad : Nat → Nat) (ls : Array Slot) (lo : List (Option Value)) : List (Nat × Value) := (List.range lo.length).filterMap (fun i => match lo[i]? with | some (some v) => some (i, mm_v ad v) | _ => Option.none)
theorem mm_lv_mem {ad : Nat → Nat} {ls : Array Slot} {lo : List (Option Value)} {i : Nat} {v : Value} (h : lo[i]? = some (some v)) : (i, mm_v ad v) ∈ mm_lv ad ls lo := by
  unfold mm_lv
  refine List.mem_filterMap.mpr ⟨i, List.mem_range.mpr (List.getElem?_eq_some_iff.mp h).1, ?_⟩
  rw [h]
theorem mm_lv_of {ad : Nat → Nat} {ls : Array Slot} {lo : List (Option Value)} {q : Nat × Value} (h : q ∈ mm_lv ad ls lo) : ∃ v, lo[q.1]? = some (some v) ∧ q.2 = mm_v ad v := by
  unfold mm_lv at h
  obtain ⟨i, -, hi⟩ := List.mem_filterMap.mp h
  split at hi
  · next v hv => cases hi; exact ⟨v, hv, rfl⟩
  · cases hi
theorem mm_L.has {ad : Nat → Nat} {lo : List (Option Value)} {ls : Array Slot} {nL : Nat} (h : mm_L ad lo ls nL) : lv_has ls nL (mm_lv ad ls lo) := ⟨h.1, h.2.1, fun q hq => by
  obtain ⟨v, h1, h2⟩ := mm_lv_of hq
  rw [h2]; exact h.2.2 q.1 v h1⟩
theorem mm_L.store1 {ad : Nat → Nat} {lo lo' : List (Option Value)} {ls ls' : Array Slot} {nL i : Nat} {v : Value} (h : lv_has ls' nL ((i, mm_v ad v) :: (mm_lv ad ls lo).filter (fun q => !(q.1 == i) && !(q.1 + 1 == i && q.2.category == 2)))) (hl : mm_st1 lo i v = lo') : mm_L ad lo' ls' nL := by
  subst hl
  refine ⟨h.1, h.2.1, fun k w hk => ?_⟩
  rcases mm_st1_mem hk with ⟨e1, e2⟩ | ⟨e1, e2, e3⟩
  · subst e1; subst e2
    exact h.2.2 (k, mm_v ad w) List.mem_cons_self
  · refine h.2.2 (k, mm_v ad w) (List.mem_cons_of_mem _ (List.mem_filter.mpr ⟨mm_lv_mem e2, ?_⟩))
    simp only [mm_v_cat, Bool.and_eq_true, Bool.not_eq_true', beq_eq_false_iff_ne, Bool.and_eq_false_iff, beq_iff_eq]
    refine ⟨e1, ?_⟩
    by_cases q : k + 1 = i
    · right; intro z; exact e3 ⟨q, z⟩
    · left; exact q
theorem mm_L.store2 {ad : Nat → Nat} {lo lo' : List (Option Value)} {ls ls' : Array Slot} {nL i : Nat} {v : Value} (h : lv_has ls' nL ((i, mm_v ad v) :: (mm_lv ad ls lo).filter (fun q => !(q.1 == i) && (!(q.1 == i + 1) && !(q.1 + 1 == i && q.2.category == 2))))) (hl : mm_st2 lo i v = lo') : mm_L ad lo' ls' nL := by
  subst hl
  refine ⟨h.1, h.2.1, fun k w hk => ?_⟩
  rcases mm_st2_mem hk with ⟨e1, e2⟩ | ⟨e1, e0, e2, e3⟩
  · subst e1; subst e2
    exact h.2.2 (k, mm_v ad w) List.mem_cons_self
  · refine h.2.2 (k, mm_v ad w) (List.mem_cons_of_mem _ (List.mem_filter.mpr ⟨mm_lv_mem e2, ?_⟩))
    simp only [mm_v_cat, Bool.and_eq_true, Bool.not_eq_true', beq_eq_false_iff_ne, Bool.and_eq_false_iff, beq_iff_eq]
    refine ⟨e1, e0, ?_⟩
    by_cases q : k + 1 = i
    · right; intro z; exact e3 ⟨q, z⟩
    · left; exact q
/-- fewer locals -/
def mm_le : List (Option Value) → List (Option Value) → Prop
  | [], _ => True
  | Option.none :: a, [] => mm_le a []
  | Option.none :: a, _ :: b => mm_le a b
  | some v :: a, b :: bs => b = some v ∧ mm_le a bs
  | some _ :: _, [] => False
theorem mm_le_at : ∀ (a b : List (Option Value)), mm_le a b → ∀ (i : Nat) (v : Value), a[i]? = some (some v) → b[i]? = some (some v)
  | [], b, _, i, v, hv => by simp at hv
  | Option.none :: a, [], h, i, v, hv => by
    cases i with
    | zero => simp at hv
    | succ i =>
      rw [List.getElem?_cons_succ] at hv
      have := mm_le_at a [] h i v hv
      simp at this
  | Option.none :: a, x :: b, h, i, v, hv => by
    cases i with
    | zero => simp at hv
    | succ i =>
      rw [List.getElem?_cons_succ] at hv ⊢
      exact mm_le_at a b h i v hv
  | some w :: a, x :: b, h, i, v, hv => by
    cases i with
    | zero =>
      rw [List.getElem?_cons_zero] at hv ⊢
      rw [h.1]; exact hv
    | succ i =>
      rw [List.getElem?_cons_succ] at hv ⊢
      exact mm_le_at a b h.2 i v hv
  | some w :: a, [], h, i, v, hv => h.elim
theorem Snd.wk {α : Type} {inj : α → Option Value × mm_M} {j : mm_J} {X : mm_X} {pc : Nat} {lo lo' : List (Option Value)} {st : List Value} {M : mm_M} {ee : Option α} (k : Snd inj j X pc lo' st M ee) (h : mm_le lo' lo) : Snd inj j X pc lo st M ee := by
  intro x hx
  obtain ⟨k1, k2⟩ := k x hx
  refine ⟨k1, ?_⟩
  intro p l e R s m args below meth c D A cs ad g0 k0 s0 Q C b1 b2 hQ H locs cells slots ls hW hL hc hs
  exact k2 p l e R s m args below meth c D A cs ad g0 k0 s0 Q C b1 b2 hQ H locs cells slots ls hW ⟨hL.1, hL.2.1, fun i v hv => hL.2.2 i v (mm_le_at _ _ h i v hv)⟩ hc hs
end
section
section RULES
variable {α : Type} {inj : α → Option Value × mm_M} {j : mm_J} {X : mm_X} {pc : Nat} {lo lo' : List (Option Value)} {st : List Value} {M : mm_M} {ee ef : Option α}
def bI (v : Int32) (e : Int32 → Option α) : Option α := e v
def bL (v : Int64) (e : Int64 → Option α) : Option α := e v
def bN (v : Nat) (e : Nat → Option α) : Option α := e v
def bM (v : mm_M) (e : mm_M → Option α) : Option α := e v
def inb (i : Int32) (n : Nat) : Bool := !(decide (i < 0)) && decide (i.toNatClampNeg < n)
theorem inb_in {i : Int32} {n : Nat} (h : inb i n = true) : vp_in i n := by
  unfold inb at h
  simp only [Bool.and_eq_true, Bool.not_eq_true', decide_eq_false_iff_not, decide_eq_true_eq] at h
  rintro (q | q)
  · exact h.1 q
  · omega
theorem sn_iadd {a b : Int32} (hd : decode j.2.1 pc = .ok (.iadd, 1)) (k : Snd inj j X (pc + 1) lo (.int (a + b) :: st) M ee) : Snd inj j X pc lo (.int b :: .int a :: st) M ee := mStp.go ⟨rfl, fun p l e R s m args below meth c D A cs ad Q C H locs cells slots ls h1 h2 hW hL kk => lv_iadd C.1 C.2.1 hd (kk H locs ls hW hL)⟩ k
theorem sn_isub {a b : Int32} (hd : decode j.2.1 pc = .ok (.isub, 1)) (k : Snd inj j X (pc + 1) lo (.int (a - b) :: st) M ee) : Snd inj j X pc lo (.int b :: .int a :: st) M ee := mStp.go ⟨rfl, fun p l e R s m args below meth c D A cs ad Q C H locs cells slots ls h1 h2 hW hL kk => lv_isub C.1 C.2.1 hd (kk H locs ls hW hL)⟩ k
theorem sn_imul {a b : Int32} (hd : decode j.2.1 pc = .ok (.imul, 1)) (k : Snd inj j X (pc + 1) lo (.int (a * b) :: st) M ee) : Snd inj j X pc lo (.int b :: .int a :: st) M ee := mStp.go ⟨rfl, fun p l e R s m args below meth c D A cs ad Q C H locs cells slots ls h1 h2 hW hL kk => lv_imul C.1 C.2.1 hd (kk H locs ls hW hL)⟩ k
theorem sn_iand {a b : Int32} (hd : decode j.2.1 pc = .ok (.iand, 1)) (k : Snd inj j X (pc + 1) lo (.int (a &&& b) :: st) M ee) : Snd inj j X pc lo (.int b :: .int a :: st) M ee := mStp.go ⟨rfl, fun p l e R s m args below meth c D A cs ad Q C H locs cells slots ls h1 h2 hW hL kk => lv_iand C.1 C.2.1 hd (kk H locs ls hW hL)⟩ k
theorem sn_ior {a b : Int32} (hd : decode j.2.1 pc = .ok (.ior, 1)) (k : Snd inj j X (pc + 1) lo (.int (a ||| b) :: st) M ee) : Snd inj j X pc lo (.int b :: .int a :: st) M ee := mStp.go ⟨rfl, fun p l e R s m args below meth c D A cs ad Q C H locs cells slots ls h1 h2 hW hL kk => lv_ior C.1 C.2.1 hd (kk H locs ls hW hL)⟩ k
theorem sn_ixor {a b : Int32} (hd : decode j.2.1 pc = .ok (.ixor, 1)) (k : Snd inj j X (pc + 1) lo (.int (a ^^^ b) :: st) M ee) : Snd inj j X pc lo (.int b :: .int a :: st) M ee := mStp.go ⟨rfl, fun p l e R s m args below meth c D A cs ad Q C H locs cells slots ls h1 h2 hW hL kk => lv_ixor C.1 C.2.1 hd (kk H locs ls hW hL)⟩ k
theorem sn_ishl {a b : Int32} (hd : decode j.2.1 pc = .ok (.ishl, 1)) (k : Snd inj j X (pc + 1) lo (.int (a <<< (b &&& 31)) :: st) M ee) : Snd inj j X pc lo (.int b :: .int a :: st) M ee := mStp.go ⟨rfl, fun p l e R s m args below meth c D A cs ad Q C H locs cells slots ls h1 h2 hW hL kk => lv_ishl C.1 C.2.1 hd (kk H locs ls hW hL)⟩ k
theorem sn_ishr {a b : Int32} (hd : decode j.2.1 pc = .ok (.ishr, 1)) (k : Snd inj j X (pc + 1) lo (.int (a >>> (b &&& 31)) :: st) M ee) : Snd inj j X pc lo (.int b :: .int a :: st) M ee := mStp.go ⟨rfl, fun p l e R s m args below meth c D A cs ad Q C H locs cells slots ls h1 h2 hW hL kk => lv_ishr C.1 C.2.1 hd (kk H locs ls hW hL)⟩ k
theorem sn_iushr {a b : Int32} (hd : decode j.2.1 pc = .ok (.iushr, 1)) (k : Snd inj j X (pc + 1) lo (.int ((a.toUInt32 >>> (b.toUInt32 &&& Int32.toUInt32 31)).toInt32) :: st) M ee) : Snd inj j X pc lo (.int b :: .int a :: st) M ee := mStp.go ⟨rfl, fun p l e R s m args below meth c D A cs ad Q C H locs cells slots ls h1 h2 hW hL kk => lv_iushr C.1 C.2.1 hd rfl (kk H locs ls hW hL)⟩ k
theorem sn_ineg {a : Int32} (hd : decode j.2.1 pc = .ok (.ineg, 1)) (k : Snd inj j X (pc + 1) lo (.int (-a) :: st) M ee) : Snd inj j X pc lo (.int a :: st) M ee := mStp.go ⟨rfl, fun p l e R s m args below meth c D A cs ad Q C H locs cells slots ls h1 h2 hW hL kk => lv_ineg C.1 C.2.1 hd (kk H locs ls hW hL)⟩ k
theorem sn_idiv {a b : Int32} (hne : ¬ b = 0) (hd : decode j.2.1 pc = .ok (.idiv, 1)) (k : Snd inj j X (pc + 1) lo (.int (a / b) :: st) M ee) : Snd inj j X pc lo (.int b :: .int a :: st) M ee := mStp.go ⟨rfl, fun p l e R s m args below meth c D A cs ad Q C H locs cells slots ls h1 h2 hW hL kk => lv_idiv C.1 C.2.1 hd hne (kk H locs ls hW hL)⟩ k
theorem sn_irem {a b : Int32} (hne : ¬ b = 0) (hd : decode j.2.1 pc = .ok (.irem, 1)) (k : Snd inj j X (pc + 1) lo (.int (a - a / b * b) :: st) M ee) : Snd inj j X pc lo (.int b :: .int a :: st) M ee := mStp.go ⟨rfl, fun p l e R s m args below meth c D A cs ad Q C H locs cells slots ls h1 h2 hW hL kk => lv_irem C.1 C.2.1 hd hne (kk H locs ls hW hL)⟩ k
theorem sn_ladd {a b : Int64} (hd : decode j.2.1 pc = .ok (.ladd, 1)) (k : Snd inj j X (pc + 1) lo (.long (a + b) :: st) M ee) : Snd inj j X pc lo (.long b :: .long a :: st) M ee := mStp.go ⟨rfl, fun p l e R s m args below meth c D A cs ad Q C H locs cells slots ls h1 h2 hW hL kk => lv_ladd C.1 C.2.1 hd (kk H locs ls hW hL)⟩ k
theorem sn_lsub {a b : Int64} (hd : decode j.2.1 pc = .ok (.lsub, 1)) (k : Snd inj j X (pc + 1) lo (.long (a - b) :: st) M ee) : Snd inj j X pc lo (.long b :: .long a :: st) M ee := mStp.go ⟨rfl, fun p l e R s m args below meth c D A cs ad Q C H locs cells slots ls h1 h2 hW hL kk => lv_lsub C.1 C.2.1 hd (kk H locs ls hW hL)⟩ k
theorem sn_lmul {a b : Int64} (hd : decode j.2.1 pc = .ok (.lmul, 1)) (k : Snd inj j X (pc + 1) lo (.long (a * b) :: st) M ee) : Snd inj j X pc lo (.long b :: .long a :: st) M ee := mStp.go ⟨rfl, fun p l e R s m args below meth c D A cs ad Q C H locs cells slots ls h1 h2 hW hL kk => lv_lmul C.1 C.2.1 hd (kk H locs ls hW hL)⟩ k
theorem sn_ldiv {a b : Int64} (hne : ¬ b = 0) (hd : decode j.2.1 pc = .ok (.ldiv, 1)) (k : Snd inj j X (pc + 1) lo (.long (a / b) :: st) M ee) : Snd inj j X pc lo (.long b :: .long a :: st) M ee := mStp.go ⟨rfl, fun p l e R s m args below meth c D A cs ad Q C H locs cells slots ls h1 h2 hW hL kk => lv_ldiv C.1 C.2.1 hd hne (kk H locs ls hW hL)⟩ k
theorem sn_lrem {a b : Int64} (hne : ¬ b = 0) (hd : decode j.2.1 pc = .ok (.lrem, 1)) (k : Snd inj j X (pc + 1) lo (.long (a - a / b * b) :: st) M ee) : Snd inj j X pc lo (.long b :: .long a :: st) M ee := mStp.go ⟨rfl, fun p l e R s m args below meth c D A cs ad Q C H locs cells slots ls h1 h2 hW hL kk => lv_lrem C.1 C.2.1 hd hne (kk H locs ls hW hL)⟩ k
theorem sn_i2l {a : Int32} (hd : decode j.2.1 pc = .ok (.i2l, 1)) (k : Snd inj j X (pc + 1) lo (.long a.toInt64 :: st) M ee) : Snd inj j X pc lo (.int a :: st) M ee := mStp.go ⟨rfl, fun p l e R s m args below meth c D A cs ad Q C H locs cells slots ls h1 h2 hW hL kk => lv_i2l C.1 C.2.1 hd rfl (kk H locs ls hW hL)⟩ k
theorem sn_l2i {a : Int64} (hd : decode j.2.1 pc = .ok (.l2i, 1)) (k : Snd inj j X (pc + 1) lo (.int a.toInt32 :: st) M ee) : Snd inj j X pc lo (.long a :: st) M ee := mStp.go ⟨rfl, fun p l e R s m args below meth c D A cs ad Q C H locs cells slots ls h1 h2 hW hL kk => lv_l2i C.1 C.2.1 hd rfl (kk H locs ls hW hL)⟩ k
theorem sn_i2b {a : Int32} (hd : decode j.2.1 pc = .ok (.i2b, 1)) (k : Snd inj j X (pc + 1) lo (.int a.toInt8.toInt32 :: st) M ee) : Snd inj j X pc lo (.int a :: st) M ee := mStp.go ⟨rfl, fun p l e R s m args below meth c D A cs ad Q C H locs cells slots ls h1 h2 hW hL kk => lv_i2b C.1 C.2.1 hd rfl (kk H locs ls hW hL)⟩ k
theorem sn_i2c {a : Int32} (hd : decode j.2.1 pc = .ok (.i2c, 1)) (k : Snd inj j X (pc + 1) lo (.int (a.toUInt32 % 65536).toInt32 :: st) M ee) : Snd inj j X pc lo (.int a :: st) M ee := mStp.go ⟨rfl, fun p l e R s m args below meth c D A cs ad Q C H locs cells slots ls h1 h2 hW hL kk => lv_i2c C.1 C.2.1 hd rfl (kk H locs ls hW hL)⟩ k
theorem sn_lcmp {a b : Int64} (hd : decode j.2.1 pc = .ok (.lcmp, 1)) (k : Snd inj j X (pc + 1) lo (.int (lg_cmp a b) :: st) M ee) : Snd inj j X pc lo (.long b :: .long a :: st) M ee := mStp.go ⟨rfl, fun p l e R s m args below meth c D A cs ad Q C H locs cells slots ls h1 h2 hW hL kk => W.lcmp C.1 C.2.1 hd (kk H locs ls hW hL)⟩ k
theorem sn_iconst {n : Int} (v : Int32) (hv : Int32.ofInt n = v) (hd : decode j.2.1 pc = .ok (.iconst n, 1)) (k : Snd inj j X (pc + 1) lo (.int v :: st) M ee) : Snd inj j X pc lo st M ee := mStp.go ⟨rfl, fun p l e R s m args below meth c D A cs ad Q C H locs cells slots ls h1 h2 hW hL kk => lv_iconst C.1 C.2.1 hd hv (kk H locs ls hW hL)⟩ k
theorem sn_bipush {n : Int} (v : Int32) (hv : (Int8.ofInt n).toInt32 = v) (hd : decode j.2.1 pc = .ok (.bipush n, 2)) (k : Snd inj j X (pc + 2) lo (.int v :: st) M ee) : Snd inj j X pc lo st M ee := mStp.go ⟨rfl, fun p l e R s m args below meth c D A cs ad Q C H locs cells slots ls h1 h2 hW hL kk => lv_bipush C.1 C.2.1 hd hv (kk H locs ls hW hL)⟩ k
theorem sn_sipush {n : Int} (v : Int32) (hv : (Int16.ofInt n).toInt32 = v) (hd : decode j.2.1 pc = .ok (.sipush n, 3)) (k : Snd inj j X (pc + 3) lo (.int v :: st) M ee) : Snd inj j X pc lo st M ee := mStp.go ⟨rfl, fun p l e R s m args below meth c D A cs ad Q C H locs cells slots ls h1 h2 hW hL kk => lv_sipush C.1 C.2.1 hd hv (kk H locs ls hW hL)⟩ k
theorem sn_lconst {n : Fin 2} (v : Int64) (hv : Int64.ofNat (n : Nat) = v) (hd : decode j.2.1 pc = .ok (.lconst n, 1)) (k : Snd inj j X (pc + 1) lo (.long v :: st) M ee) : Snd inj j X pc lo st M ee := mStp.go ⟨rfl, fun p l e R s m args below meth c D A cs ad Q C H locs cells slots ls h1 h2 hW hL kk => lv_lconst C.1 C.2.1 hd hv (kk H locs ls hW hL)⟩ k
theorem sn_ldc {i : Nat} {v : Int32} (hw : Cond.constant j.1.cls i v ∈ mm_tbl) (hd : decode j.2.1 pc = .ok (.ldc i, 2)) (k : Snd inj j X (pc + 2) lo (.int v :: st) M ee) : Snd inj j X pc lo st M ee := mStp.go ⟨rfl, fun p l e R s m args below meth c D A cs ad Q C H locs cells slots ls h1 h2 hW hL kk => lv_ldc C.1 C.2.1 C.2.2.2.2.2.1 (C.2.2.2.2.1 _ hw) hd (kk H locs ls hW hL)⟩ k
theorem sn_ldc2 {i : Nat} {v : Int64} (hw : Cond.constantLong j.1.cls i v ∈ mm_tbl) (hd : decode j.2.1 pc = .ok (.ldc2_w i, 3)) (k : Snd inj j X (pc + 3) lo (.long v :: st) M ee) : Snd inj j X pc lo st M ee := mStp.go ⟨rfl, fun p l e R s m args below meth c D A cs ad Q C H locs cells slots ls h1 h2 hW hL kk => lv_ldc2 C.1 C.2.1 C.2.2.2.2.2.1 (C.2.2.2.2.1 _ hw) hd (kk H locs ls hW hL)⟩ k
theorem sn_iload {i : Nat} {v : Int32} (hl : lo[i]? = some (some (.int v))) (hd : decode j.2.1 pc = .ok (.iload i, 2)) (k : Snd inj j X (pc + 2) lo (.int v :: st) M ee) : Snd inj j X pc lo st M ee := mStp.go ⟨rfl, fun p l e R s m args below meth c D A cs ad Q C H locs cells slots ls h1 h2 hW hL kk => lv_iload C.1 C.2.1 hd (hL.2.2 _ _ hl) (kk H locs ls hW hL)⟩ k
theorem sn_iload_n {i : Nat} {f : Fin 4} {v : Int32} (hf : (f : Nat) = i) (hl : lo[i]? = some (some (.int v))) (hd : decode j.2.1 pc = .ok (.iload_n f, 1)) (k : Snd inj j X (pc + 1) lo (.int v :: st) M ee) : Snd inj j X pc lo st M ee := mStp.go ⟨rfl, fun p l e R s m args below meth c D A cs ad Q C H locs cells slots ls h1 h2 hW hL kk => lv_iload_n C.1 C.2.1 hd hf (hL.2.2 _ _ hl) (kk H locs ls hW hL)⟩ k
theorem sn_istore {i : Nat} {v : Int32} (hn : i < j.2.2.1) (hl : mm_st1 lo i (.int v) = lo') (hd : decode j.2.1 pc = .ok (.istore i, 2)) (k : Snd inj j X (pc + 2) lo' st M ee) : Snd inj j X pc lo (.int v :: st) M ee := mStp.go ⟨rfl, fun p l e R s m args below meth c D A cs ad Q C H locs cells slots ls h1 h2 hW hL kk => lv_istore C.1 C.2.1 hd hL.has hn rfl (fun ls' h => kk H locs ls' hW (mm_L.store1 h hl))⟩ k
theorem sn_istoreB {i : Nat} {v : Int32} (lv : Int32 → List (Option Value)) {ex : Int32 → Option α} (hn : i < j.2.2.1) (hl : ∀ x, mm_st1 lo i (.int x) = lv x) (hd : decode j.2.1 pc = .ok (.istore i, 2)) (k : ∀ x, Snd inj j X (pc + 2) (lv x) st M (ex x)) : Snd inj j X pc lo (.int v :: st) M (bI v ex) := sn_istore hn (hl v) hd (k v)
theorem sn_istore_n {i : Nat} {f : Fin 4} (hf : (f : Nat) = i) {v : Int32} (hn : i < j.2.2.1) (hl : mm_st1 lo i (.int v) = lo') (hd : decode j.2.1 pc = .ok (.istore_n f, 1)) (k : Snd inj j X (pc + 1) lo' st M ee) : Snd inj j X pc lo (.int v :: st) M ee := mStp.go ⟨rfl, fun p l e R s m args below meth c D A cs ad Q C H locs cells slots ls h1 h2 hW hL kk => lv_istore_n C.1 C.2.1 hd hf hL.has hn rfl (fun ls' h => kk H locs ls' hW (mm_L.store1 h hl))⟩ k
theorem sn_istoreB_n {i : Nat} {f : Fin 4} (hf : (f : Nat) = i) {v : Int32} (lv : Int32 → List (Option Value)) {ex : Int32 → Option α} (hn : i < j.2.2.1) (hl : ∀ x, mm_st1 lo i (.int x) = lv x) (hd : decode j.2.1 pc = .ok (.istore_n f, 1)) (k : ∀ x, Snd inj j X (pc + 1) (lv x) st M (ex x)) : Snd inj j X pc lo (.int v :: st) M (bI v ex) := sn_istore_n hf hn (hl v) hd (k v)
theorem sn_lload {i : Nat} {v : Int64} (hl : lo[i]? = some (some (.long v))) (hd : decode j.2.1 pc = .ok (.lload i, 2)) (k : Snd inj j X (pc + 2) lo (.long v :: st) M ee) : Snd inj j X pc lo st M ee := mStp.go ⟨rfl, fun p l e R s m args below meth c D A cs ad Q C H locs cells slots ls h1 h2 hW hL kk => lv_lload C.1 C.2.1 hd (hL.2.2 _ _ hl) (kk H locs ls hW hL)⟩ k
theorem sn_lload_n {i : Nat} {f : Fin 4} {v : Int64} (hf : (f : Nat) = i) (hl : lo[i]? = some (some (.long v))) (hd : decode j.2.1 pc = .ok (.lload_n f, 1)) (k : Snd inj j X (pc + 1) lo (.long v :: st) M ee) : Snd inj j X pc lo st M ee := mStp.go ⟨rfl, fun p l e R s m args below meth c D A cs ad Q C H locs cells slots ls h1 h2 hW hL kk => lv_lload_n C.1 C.2.1 hd hf (hL.2.2 _ _ hl) (kk H locs ls hW hL)⟩ k
theorem sn_lstore {i : Nat} {v : Int64} (hn : i + 1 < j.2.2.1) (hl : mm_st2 lo i (.long v) = lo') (hd : decode j.2.1 pc = .ok (.lstore i, 2)) (k : Snd inj j X (pc + 2) lo' st M ee) : Snd inj j X pc lo (.long v :: st) M ee := mStp.go ⟨rfl, fun p l e R s m args below meth c D A cs ad Q C H locs cells slots ls h1 h2 hW hL kk => lv_lstore C.1 C.2.1 hd hL.has hn rfl (fun ls' h => kk H locs ls' hW (mm_L.store2 h hl))⟩ k
theorem sn_lstoreB {i : Nat} {v : Int64} (lv : Int64 → List (Option Value)) {ex : Int64 → Option α} (hn : i + 1 < j.2.2.1) (hl : ∀ x, mm_st2 lo i (.long x) = lv x) (hd : decode j.2.1 pc = .ok (.lstore i, 2)) (k : ∀ x, Snd inj j X (pc + 2) (lv x) st M (ex x)) : Snd inj j X pc lo (.long v :: st) M (bL v ex) := sn_lstore hn (hl v) hd (k v)
theorem sn_lstore_n {i : Nat} {f : Fin 4} (hf : (f : Nat) = i) {v : Int64} (hn : i + 1 < j.2.2.1) (hl : mm_st2 lo i (.long v) = lo') (hd : decode j.2.1 pc = .ok (.lstore_n f, 1)) (k : Snd inj j X (pc + 1) lo' st M ee) : Snd inj j X pc lo (.long v :: st) M ee := mStp.go ⟨rfl, fun p l e R s m args below meth c D A cs ad Q C H locs cells slots ls h1 h2 hW hL kk => lv_lstore_n C.1 C.2.1 hd hf hL.has hn rfl (fun ls' h => kk H locs ls' hW (mm_L.store2 h hl))⟩ k
theorem sn_lstoreB_n {i : Nat} {f : Fin 4} (hf : (f : Nat) = i) {v : Int64} (lv : Int64 → List (Option Value)) {ex : Int64 → Option α} (hn : i + 1 < j.2.2.1) (hl : ∀ x, mm_st2 lo i (.long x) = lv x) (hd : decode j.2.1 pc = .ok (.lstore_n f, 1)) (k : ∀ x, Snd inj j X (pc + 1) (lv x) st M (ex x)) : Snd inj j X pc lo (.long v :: st) M (bL v ex) := sn_lstore_n hf hn (hl v) hd (k v)
theorem sn_aload {i : Nat} {v : Nat} (hl : lo[i]? = some (some (.ref v))) (hd : decode j.2.1 pc = .ok (.aload i, 2)) (k : Snd inj j X (pc + 2) lo (.ref v :: st) M ee) : Snd inj j X pc lo st M ee := mStp.go ⟨rfl, fun p l e R s m args below meth c D A cs ad Q C H locs cells slots ls h1 h2 hW hL kk => lv_aload C.1 C.2.1 hd (hL.2.2 _ _ hl) (kk H locs ls hW hL)⟩ k
theorem sn_aload_n {i : Nat} {f : Fin 4} {v : Nat} (hf : (f : Nat) = i) (hl : lo[i]? = some (some (.ref v))) (hd : decode j.2.1 pc = .ok (.aload_n f, 1)) (k : Snd inj j X (pc + 1) lo (.ref v :: st) M ee) : Snd inj j X pc lo st M ee := mStp.go ⟨rfl, fun p l e R s m args below meth c D A cs ad Q C H locs cells slots ls h1 h2 hW hL kk => lv_aload_n C.1 C.2.1 hd hf (hL.2.2 _ _ hl) (kk H locs ls hW hL)⟩ k
theorem sn_astore {i : Nat} {v : Nat} (hn : i < j.2.2.1) (hl : mm_st1 lo i (.ref v) = lo') (hd : decode j.2.1 pc = .ok (.astore i, 2)) (k : Snd inj j X (pc + 2) lo' st M ee) : Snd inj j X pc lo (.ref v :: st) M ee := mStp.go ⟨rfl, fun p l e R s m args below meth c D A cs ad Q C H locs cells slots ls h1 h2 hW hL kk => lv_astore C.1 C.2.1 hd hL.has hn rfl (fun ls' h => kk H locs ls' hW (mm_L.store1 h hl))⟩ k
theorem sn_astoreB {i : Nat} {v : Nat} (lv : Nat → List (Option Value)) {ex : Nat → Option α} (hn : i < j.2.2.1) (hl : ∀ x, mm_st1 lo i (.ref x) = lv x) (hd : decode j.2.1 pc = .ok (.astore i, 2)) (k : ∀ x, Snd inj j X (pc + 2) (lv x) st M (ex x)) : Snd inj j X pc lo (.ref v :: st) M (bN v ex) := sn_astore hn (hl v) hd (k v)
theorem sn_astore_n {i : Nat} {f : Fin 4} (hf : (f : Nat) = i) {v : Nat} (hn : i < j.2.2.1) (hl : mm_st1 lo i (.ref v) = lo') (hd : decode j.2.1 pc = .ok (.astore_n f, 1)) (k : Snd inj j X (pc + 1) lo' st M ee) : Snd inj j X pc lo (.ref v :: st) M ee := mStp.go ⟨rfl, fun p l e R s m args below meth c D A cs ad Q C H locs cells slots ls h1 h2 hW hL kk => lv_astore_n C.1 C.2.1 hd hf hL.has hn rfl (fun ls' h => kk H locs ls' hW (mm_L.store1 h hl))⟩ k
theorem sn_astoreB_n {i : Nat} {f : Fin 4} (hf : (f : Nat) = i) {v : Nat} (lv : Nat → List (Option Value)) {ex : Nat → Option α} (hn : i < j.2.2.1) (hl : ∀ x, mm_st1 lo i (.ref x) = lv x) (hd : decode j.2.1 pc = .ok (.astore_n f, 1)) (k : ∀ x, Snd inj j X (pc + 1) (lv x) st M (ex x)) : Snd inj j X pc lo (.ref v :: st) M (bN v ex) := sn_astore_n hf hn (hl v) hd (k v)
theorem mm_lv_idx {ad : Nat → Nat} {ls : Array Slot} {i : Nat} {v : Value} (hl : lo[i]? = some (some v)) : ∃ k : Nat, (mm_lv ad ls lo)[k]? = some (i, mm_v ad v) := List.getElem?_of_mem (mm_lv_mem hl)
theorem sn_iinc {i : Nat} {n : Int} {v : Int32} (w : Int32) (hv : Int32.ofInt n = w) (hn : i < j.2.2.1) (hi : lo[i]? = some (some (.int v))) (hl : mm_st1 lo i (.int (v + w)) = lo') (hd : decode j.2.1 pc = .ok (.iinc i n, 3)) (k : Snd inj j X (pc + 3) lo' st M ee) : Snd inj j X pc lo st M ee := mStp.go ⟨rfl, fun p l e R s m args below meth c D A cs ad Q C H locs cells slots ls h1 h2 hW hL kk => by
  obtain ⟨q, hq⟩ := mm_lv_idx (ad := ad) (ls := ls) hi
  exact lv_iinc (v := v + w) C.1 C.2.1 hd hL.has (k := q) hq (by rw [hv]) hn rfl (fun ls' h => kk H locs ls' hW (mm_L.store1 h hl))⟩ k
theorem sn_dup {v : Value} (hc : v.category = 1) (hd : decode j.2.1 pc = .ok (.dup, 1)) (k : Snd inj j X (pc + 1) lo (v :: v :: st) M ee) : Snd inj j X pc lo (v :: st) M ee := mStp.go ⟨rfl, fun p l e R s m args below meth c D A cs ad Q C H locs cells slots ls h1 h2 hW hL kk => lv_dup C.1 C.2.1 hd ((mm_v_cat ad v).trans hc) (kk H locs ls hW hL)⟩ k
theorem sn_pop {v : Value} (hc : v.category = 1) (hd : decode j.2.1 pc = .ok (.pop, 1)) (k : Snd inj j X (pc + 1) lo st M ee) : Snd inj j X pc lo (v :: st) M ee := mStp.go ⟨rfl, fun p l e R s m args below meth c D A cs ad Q C H locs cells slots ls h1 h2 hW hL kk => lv_pop C.1 C.2.1 hd ((mm_v_cat ad v).trans hc) (kk H locs ls hW hL)⟩ k
theorem sn_dup2 {v w : Value} (hc : v.category = 1) (hc2 : w.category = 1) (hd : decode j.2.1 pc = .ok (.dup2, 1)) (k : Snd inj j X (pc + 1) lo (v :: w :: v :: w :: st) M ee) : Snd inj j X pc lo (v :: w :: st) M ee := mStp.go ⟨rfl, fun p l e R s m args below meth c D A cs ad Q C H locs cells slots ls h1 h2 hW hL kk => lv_dup2_11 C.1 C.2.1 hd ((mm_v_cat ad v).trans hc) ((mm_v_cat ad w).trans hc2) (kk H locs ls hW hL)⟩ k
theorem sn_goto {off : Int} (tgt : Nat) (ht : (pc : Int) + off = (tgt : Int)) (hd : decode j.2.1 pc = .ok (.goto off, 3)) (k : Snd inj j X tgt lo st M ee) : Snd inj j X pc lo st M ee := mStp.go ⟨rfl, fun p l e R s m args below meth c D A cs ad Q C H locs cells slots ls h1 h2 hW hL kk => lv_goto C.1 C.2.1 hd ht (kk H locs ls hW hL)⟩ k
theorem sn_if_ne {a : Int32} {off : Int} (tgt : Nat) (ht : (pc : Int) + off = (tgt : Int)) (hd : decode j.2.1 pc = .ok (.ifCond .ne off, 3)) (k1 : Snd inj j X tgt lo st M ee) (k2 : Snd inj j X (pc + 3) lo st M ef) : Snd inj j X pc lo (.int a :: st) M (if a = 0 then ef else ee) := by
  by_cases hc : a = 0
  · rw [if_pos hc]
    exact mStp.go ⟨rfl, fun p l e R s m args below meth c D A cs ad Q C H locs cells slots ls h1 h2 hW hL kk => lv_if_ne C.1 C.2.1 hd ht (fun q => absurd hc q) (fun _ => kk H locs ls hW hL)⟩ k2
  · rw [if_neg hc]
    exact mStp.go ⟨rfl, fun p l e R s m args below meth c D A cs ad Q C H locs cells slots ls h1 h2 hW hL kk => lv_if_ne C.1 C.2.1 hd ht (fun _ => kk H locs ls hW hL) (fun q => absurd q hc)⟩ k1
theorem sn_icmp_ne {a b : Int32} {off : Int} (tgt : Nat) (ht : (pc : Int) + off = (tgt : Int)) (hd : decode j.2.1 pc = .ok (.if_icmp .ne off, 3)) (k1 : Snd inj j X tgt lo st M ee) (k2 : Snd inj j X (pc + 3) lo st M ef) : Snd inj j X pc lo (.int b :: .int a :: st) M (if a = b then ef else ee) := by
  by_cases hc : a = b
  · rw [if_pos hc]
    exact mStp.go ⟨rfl, fun p l e R s m args below meth c D A cs ad Q C H locs cells slots ls h1 h2 hW hL kk => lv_icmp_ne C.1 C.2.1 hd ht (fun q => absurd hc q) (fun _ => kk H locs ls hW hL)⟩ k2
  · rw [if_neg hc]
    exact mStp.go ⟨rfl, fun p l e R s m args below meth c D A cs ad Q C H locs cells slots ls h1 h2 hW hL kk => lv_icmp_ne C.1 C.2.1 hd ht (fun _ => kk H locs ls hW hL) (fun q => absurd q hc)⟩ k1
theorem sn_if_eq {a : Int32} {off : Int} (tgt : Nat) (ht : (pc : Int) + off = (tgt : Int)) (hd : decode j.2.1 pc = .ok (.ifCond .eq off, 3)) (k1 : Snd inj j X tgt lo st M ee) (k2 : Snd inj j X (pc + 3) lo st M ef) : Snd inj j X pc lo (.int a :: st) M (if a = 0 then ee else ef) := by
  by_cases hc : a = 0
  · rw [if_pos hc]
    exact mStp.go ⟨rfl, fun p l e R s m args below meth c D A cs ad Q C H locs cells slots ls h1 h2 hW hL kk => lv_if_eq C.1 C.2.1 hd ht (fun _ => kk H locs ls hW hL) (fun q => absurd hc q)⟩ k1
  · rw [if_neg hc]
    exact mStp.go ⟨rfl, fun p l e R s m args below meth c D A cs ad Q C H locs cells slots ls h1 h2 hW hL kk => lv_if_eq C.1 C.2.1 hd ht (fun q => absurd q hc) (fun _ => kk H locs ls hW hL)⟩ k2
theorem sn_icmp_eq {a b : Int32} {off : Int} (tgt : Nat) (ht : (pc : Int) + off = (tgt : Int)) (hd : decode j.2.1 pc = .ok (.if_icmp .eq off, 3)) (k1 : Snd inj j X tgt lo st M ee) (k2 : Snd inj j X (pc + 3) lo st M ef) : Snd inj j X pc lo (.int b :: .int a :: st) M (if a = b then ee else ef) := by
  by_cases hc : a = b
  · rw [if_pos hc]
    exact mStp.go ⟨rfl, fun p l e R s m args below meth c D A cs ad Q C H locs cells slots ls h1 h2 hW hL kk => lv_icmp_eq C.1 C.2.1 hd ht (fun _ => kk H locs ls hW hL) (fun q => absurd hc q)⟩ k1
  · rw [if_neg hc]
    exact mStp.go ⟨rfl, fun p l e R s m args below meth c D A cs ad Q C H locs cells slots ls h1 h2 hW hL kk => lv_icmp_eq C.1 C.2.1 hd ht (fun q => absurd q hc) (fun _ => kk H locs ls hW hL)⟩ k2
theorem sn_if_lt {a : Int32} {off : Int} (tgt : Nat) (ht : (pc : Int) + off = (tgt : Int)) (hd : decode j.2.1 pc = .ok (.ifCond .lt off, 3)) (k1 : Snd inj j X tgt lo st M ee) (k2 : Snd inj j X (pc + 3) lo st M ef) : Snd inj j X pc lo (.int a :: st) M (if a < 0 then ee else ef) := by
  by_cases hc : a < 0
  · rw [if_pos hc]
    exact mStp.go ⟨rfl, fun p l e R s m args below meth c D A cs ad Q C H locs cells slots ls h1 h2 hW hL kk => lv_if_lt C.1 C.2.1 hd ht (fun _ => kk H locs ls hW hL) (fun q => absurd hc q)⟩ k1
  · rw [if_neg hc]
    exact mStp.go ⟨rfl, fun p l e R s m args below meth c D A cs ad Q C H locs cells slots ls h1 h2 hW hL kk => lv_if_lt C.1 C.2.1 hd ht (fun q => absurd q hc) (fun _ => kk H locs ls hW hL)⟩ k2
theorem sn_icmp_lt {a b : Int32} {off : Int} (tgt : Nat) (ht : (pc : Int) + off = (tgt : Int)) (hd : decode j.2.1 pc = .ok (.if_icmp .lt off, 3)) (k1 : Snd inj j X tgt lo st M ee) (k2 : Snd inj j X (pc + 3) lo st M ef) : Snd inj j X pc lo (.int b :: .int a :: st) M (if a < b then ee else ef) := by
  by_cases hc : a < b
  · rw [if_pos hc]
    exact mStp.go ⟨rfl, fun p l e R s m args below meth c D A cs ad Q C H locs cells slots ls h1 h2 hW hL kk => lv_icmp_lt C.1 C.2.1 hd ht (fun _ => kk H locs ls hW hL) (fun q => absurd hc q)⟩ k1
  · rw [if_neg hc]
    exact mStp.go ⟨rfl, fun p l e R s m args below meth c D A cs ad Q C H locs cells slots ls h1 h2 hW hL kk => lv_icmp_lt C.1 C.2.1 hd ht (fun q => absurd q hc) (fun _ => kk H locs ls hW hL)⟩ k2
theorem sn_if_ge {a : Int32} {off : Int} (tgt : Nat) (ht : (pc : Int) + off = (tgt : Int)) (hd : decode j.2.1 pc = .ok (.ifCond .ge off, 3)) (k1 : Snd inj j X tgt lo st M ee) (k2 : Snd inj j X (pc + 3) lo st M ef) : Snd inj j X pc lo (.int a :: st) M (if 0 ≤ a then ee else ef) := by
  by_cases hc : 0 ≤ a
  · rw [if_pos hc]
    exact mStp.go ⟨rfl, fun p l e R s m args below meth c D A cs ad Q C H locs cells slots ls h1 h2 hW hL kk => lv_if_ge C.1 C.2.1 hd ht (fun _ => kk H locs ls hW hL) (fun q => absurd hc q)⟩ k1
  · rw [if_neg hc]
    exact mStp.go ⟨rfl, fun p l e R s m args below meth c D A cs ad Q C H locs cells slots ls h1 h2 hW hL kk => lv_if_ge C.1 C.2.1 hd ht (fun q => absurd q hc) (fun _ => kk H locs ls hW hL)⟩ k2
theorem sn_icmp_ge {a b : Int32} {off : Int} (tgt : Nat) (ht : (pc : Int) + off = (tgt : Int)) (hd : decode j.2.1 pc = .ok (.if_icmp .ge off, 3)) (k1 : Snd inj j X tgt lo st M ee) (k2 : Snd inj j X (pc + 3) lo st M ef) : Snd inj j X pc lo (.int b :: .int a :: st) M (if b ≤ a then ee else ef) := by
  by_cases hc : b ≤ a
  · rw [if_pos hc]
    exact mStp.go ⟨rfl, fun p l e R s m args below meth c D A cs ad Q C H locs cells slots ls h1 h2 hW hL kk => lv_icmp_ge C.1 C.2.1 hd ht (fun _ => kk H locs ls hW hL) (fun q => absurd hc q)⟩ k1
  · rw [if_neg hc]
    exact mStp.go ⟨rfl, fun p l e R s m args below meth c D A cs ad Q C H locs cells slots ls h1 h2 hW hL kk => lv_icmp_ge C.1 C.2.1 hd ht (fun q => absurd q hc) (fun _ => kk H locs ls hW hL)⟩ k2
theorem sn_if_gt {a : Int32} {off : Int} (tgt : Nat) (ht : (pc : Int) + off = (tgt : Int)) (hd : decode j.2.1 pc = .ok (.ifCond .gt off, 3)) (k1 : Snd inj j X tgt lo st M ee) (k2 : Snd inj j X (pc + 3) lo st M ef) : Snd inj j X pc lo (.int a :: st) M (if 0 < a then ee else ef) := by
  by_cases hc : 0 < a
  · rw [if_pos hc]
    exact mStp.go ⟨rfl, fun p l e R s m args below meth c D A cs ad Q C H locs cells slots ls h1 h2 hW hL kk => lv_if_gt C.1 C.2.1 hd ht (fun _ => kk H locs ls hW hL) (fun q => absurd hc q)⟩ k1
  · rw [if_neg hc]
    exact mStp.go ⟨rfl, fun p l e R s m args below meth c D A cs ad Q C H locs cells slots ls h1 h2 hW hL kk => lv_if_gt C.1 C.2.1 hd ht (fun q => absurd q hc) (fun _ => kk H locs ls hW hL)⟩ k2
theorem sn_icmp_gt {a b : Int32} {off : Int} (tgt : Nat) (ht : (pc : Int) + off = (tgt : Int)) (hd : decode j.2.1 pc = .ok (.if_icmp .gt off, 3)) (k1 : Snd inj j X tgt lo st M ee) (k2 : Snd inj j X (pc + 3) lo st M ef) : Snd inj j X pc lo (.int b :: .int a :: st) M (if b < a then ee else ef) := by
  by_cases hc : b < a
  · rw [if_pos hc]
    exact mStp.go ⟨rfl, fun p l e R s m args below meth c D A cs ad Q C H locs cells slots ls h1 h2 hW hL kk => lv_icmp_gt C.1 C.2.1 hd ht (fun _ => kk H locs ls hW hL) (fun q => absurd hc q)⟩ k1
  · rw [if_neg hc]
    exact mStp.go ⟨rfl, fun p l e R s m args below meth c D A cs ad Q C H locs cells slots ls h1 h2 hW hL kk => lv_icmp_gt C.1 C.2.1 hd ht (fun q => absurd q hc) (fun _ => kk H locs ls hW hL)⟩ k2
theorem sn_if_le {a : Int32} {off : Int} (tgt : Nat) (ht : (pc : Int) + off = (tgt : Int)) (hd : decode j.2.1 pc = .ok (.ifCond .le off, 3)) (k1 : Snd inj j X tgt lo st M ee) (k2 : Snd inj j X (pc + 3) lo st M ef) : Snd inj j X pc lo (.int a :: st) M (if a ≤ 0 then ee else ef) := by
  by_cases hc : a ≤ 0
  · rw [if_pos hc]
    exact mStp.go ⟨rfl, fun p l e R s m args below meth c D A cs ad Q C H locs cells slots ls h1 h2 hW hL kk => lv_if_le C.1 C.2.1 hd ht (fun _ => kk H locs ls hW hL) (fun q => absurd hc q)⟩ k1
  · rw [if_neg hc]
    exact mStp.go ⟨rfl, fun p l e R s m args below meth c D A cs ad Q C H locs cells slots ls h1 h2 hW hL kk => lv_if_le C.1 C.2.1 hd ht (fun q => absurd q hc) (fun _ => kk H locs ls hW hL)⟩ k2
theorem sn_icmp_le {a b : Int32} {off : Int} (tgt : Nat) (ht : (pc : Int) + off = (tgt : Int)) (hd : decode j.2.1 pc = .ok (.if_icmp .le off, 3)) (k1 : Snd inj j X tgt lo st M ee) (k2 : Snd inj j X (pc + 3) lo st M ef) : Snd inj j X pc lo (.int b :: .int a :: st) M (if a ≤ b then ee else ef) := by
  by_cases hc : a ≤ b
  · rw [if_pos hc]
    exact mStp.go ⟨rfl, fun p l e R s m args below meth c D A cs ad Q C H locs cells slots ls h1 h2 hW hL kk => lv_icmp_le C.1 C.2.1 hd ht (fun _ => kk H locs ls hW hL) (fun q => absurd hc q)⟩ k1
  · rw [if_neg hc]
    exact mStp.go ⟨rfl, fun p l e R s m args below meth c D A cs ad Q C H locs cells slots ls h1 h2 hW hL kk => lv_icmp_le C.1 C.2.1 hd ht (fun q => absurd q hc) (fun _ => kk H locs ls hW hL)⟩ k2
end RULES
end
section
section HEAPRULES
variable {α : Type} {inj : α → Option Value × mm_M} {j : mm_J} {X : mm_X} {pc : Nat} {lo lo' : List (Option Value)} {st : List Value} {M : mm_M} {ee ef : Option α}
-- objects
theorem mm_e_obj (ad : Nat → Nat) (cs : mm_K) (M : mm_M) {c ci N : Nat} (hs : mm_sh c = (0, ci, N)) : mm_e ad cs M c = .inr (ci, (List.range N).map (mm_fv ad M c)) := by simp [mm_e, hs]
theorem mm_e_int (ad : Nat → Nat) (cs : mm_K) (M : mm_M) {c n : Nat} (hs : mm_sh c = (1, n, 0)) : mm_e ad cs M c = .inl (cs.1, n, .inl (M.1 c)) := by simp [mm_e, hs]
theorem mm_e_byte (ad : Nat → Nat) (cs : mm_K) (M : mm_M) {c n : Nat} (hs : mm_sh c = (2, n, 0)) : mm_e ad cs M c = .inl (cs.2.1, n, .inl (M.1 c)) := by simp [mm_e, hs]
theorem mm_e_long (ad : Nat → Nat) (cs : mm_K) (M : mm_M) {c n : Nat} (hs : mm_sh c = (3, n, 0)) : mm_e ad cs M c = .inl (cs.2.2, n, .inr (.inl (M.2.1 c))) := by simp [mm_e, hs]
theorem mm_getv {c k ci N idx : Nat} {C : String} {T : u_T} {v : Value} (hcl : vwCl[ci]? = some (C, T, N)) (hin : ∀ w ∈ u_ws C T N, w ∈ mm_tbl) (hs : mm_sh c = (0, ci, N)) (hc : 0 < c ∧ c ≤ 62) (hk : k < N) (hf : ∀ ad, mm_fv ad M c k = mm_v ad v) (hw : Cond.fieldLink j.1.cls idx (T k).1 (T k).2.1 (T k).2.2.1 ∈ mm_tbl) (hd : decode j.2.1 pc = .ok (.getfield idx, 3)) (k1 : Snd inj j X (pc + 3) lo (v :: st) M ee) : Snd inj j X pc lo (.ref c :: st) M ee :=
  mStp.go ⟨rfl, fun p l e R s m args below meth c0 D A cs ad Q C1 H locs cells slots ls h1 h2 hW hL kk => by
    refine va_get (D := D) (ci := ci) (C := C) (T := T) (N := N) (fs := (List.range N).map (mm_fv ad M c)) (v := mm_v ad v) C1.1 C1.2.1 C1.2.2.2.2.1 hin C1.2.2.2.2.2.1 C1.2.2.2.2.2.2.2.1 hW.1 (c - 1) ?_ hcl k hk (C1.2.2.2.2.1 _ hw) (fun _ h => h) ?_ hd (kk H locs ls hW hL)
    · rw [mm_get ad cs M hc, mm_e_obj ad cs M hs]
    · rw [mm_fields ad M c N hk, hf]⟩ k1
theorem sn_gI {c k ci N idx : Nat} {C : String} {T : u_T} (hcl : vwCl[ci]? = some (C, T, N)) (hin : ∀ w ∈ u_ws C T N, w ∈ mm_tbl) (hs : mm_sh c = (0, ci, N)) (hc : 0 < c ∧ c ≤ 62) (hk : k < N) (hf : mm_fk c k = 0) (hw : Cond.fieldLink j.1.cls idx (T k).1 (T k).2.1 (T k).2.2.1 ∈ mm_tbl) (hd : decode j.2.1 pc = .ok (.getfield idx, 3)) (k1 : Snd inj j X (pc + 3) lo (.int (mI M c k) :: st) M ee) : Snd inj j X pc lo (.ref c :: st) M ee :=
  mm_getv hcl hin hs hc hk (fun ad => by simp [mm_fv, hf, mm_v, mI]) hw hd k1
theorem sn_gR {c k ci N idx : Nat} (r : Nat) {C : String} {T : u_T} (hcl : vwCl[ci]? = some (C, T, N)) (hin : ∀ w ∈ u_ws C T N, w ∈ mm_tbl) (hs : mm_sh c = (0, ci, N)) (hc : 0 < c ∧ c ≤ 62) (hk : k < N) (hf : mm_fk c k = 10 + r) (hw : Cond.fieldLink j.1.cls idx (T k).1 (T k).2.1 (T k).2.2.1 ∈ mm_tbl) (hd : decode j.2.1 pc = .ok (.getfield idx, 3)) (k1 : Snd inj j X (pc + 3) lo (.ref r :: st) M ee) : Snd inj j X pc lo (.ref c :: st) M ee :=
  mm_getv hcl hin hs hc hk (fun ad => by
    have e : 10 + r - 10 = r := by omega
    simp only [mm_fv, hf, mm_v, e]
    rw [if_neg (by omega), if_neg (by omega), if_neg (by omega), if_neg (by omega)]) hw hd k1
theorem sn_gNow {idx : Nat} (hin : ∀ w ∈ u_ws RX6 TX6 9, w ∈ mm_tbl) (hw : Cond.fieldLink j.1.cls idx (TX6 0).1 (TX6 0).2.1 (TX6 0).2.2.1 ∈ mm_tbl) (hd : decode j.2.1 pc = .ok (.getfield idx, 3)) {ex : Nat → Option α} (k1 : ∀ d, Snd inj j X (pc + 3) lo (.ref d :: st) M (ex d)) : Snd inj j X pc lo (.ref 1 :: st) M (bN (mNow M) ex) :=
  mm_getv (ci := 6) (k := 0) (T := TX6) rfl hin rfl ⟨by decide, by decide⟩ (by decide) (fun ad => rfl) hw hd (k1 (mNow M))
theorem sn_gDra {idx : Nat} (hin : ∀ w ∈ u_ws RX6 TX6 9, w ∈ mm_tbl) (hw : Cond.fieldLink j.1.cls idx (TX6 1).1 (TX6 1).2.1 (TX6 1).2.2.1 ∈ mm_tbl) (hd : decode j.2.1 pc = .ok (.getfield idx, 3)) {ex : Nat → Option α} (k1 : ∀ d, Snd inj j X (pc + 3) lo (.ref d :: st) M (ex d)) : Snd inj j X pc lo (.ref 1 :: st) M (bN (mDra M) ex) :=
  mm_getv (ci := 6) (k := 1) (T := TX6) rfl hin rfl ⟨by decide, by decide⟩ (by decide) (fun ad => rfl) hw hd (k1 (mDra M))
theorem sn_gDep {idx : Nat} (hin : ∀ w ∈ u_ws RX2 TX2 19, w ∈ mm_tbl) (hw : Cond.fieldLink j.1.cls idx (TX2 3).1 (TX2 3).2.1 (TX2 3).2.2.1 ∈ mm_tbl) (hd : decode j.2.1 pc = .ok (.getfield idx, 3)) {ex : Nat → Option α} (k1 : ∀ d, Snd inj j X (pc + 3) lo (.ref d :: st) M (ex d)) : Snd inj j X pc lo (.ref 26 :: st) M (bN (mDep M) ex) :=
  mm_getv (ci := 2) (k := 3) (T := TX2) rfl hin rfl ⟨by decide, by decide⟩ (by decide) (fun ad => rfl) hw hd (k1 (mDep M))
theorem mm_putv {M' : mm_M} {c k ci N idx : Nat} {C : String} {T : u_T} {ty : FieldType} {v : Value} (ty0 : Nat → FieldType) (hty : ∀ k, k < N → parseFieldDescriptor (T k).2.2.1 = some (ty0 k)) (hnm : ∀ a, a < N → ∀ b, b < N → a ≠ b → (T a).2.1 ≠ (T b).2.1) (hcl : vwCl[ci]? = some (C, T, N)) (hin : ∀ w ∈ u_ws C T N, w ∈ mm_tbl) (hs : mm_sh c = (0, ci, N)) (hc : 0 < c ∧ c ≤ 62) (hk : k < N) (hfin : (T k).2.2.2 = false)
    (hG : mG M' = mG M) (hf : ∀ ad, mm_fv ad M' c k = mm_v ad v) (ho : ∀ ad b, b ≠ k → mm_fv ad M c b = mm_fv ad M' c b) (hne : ∀ ad cs a, a ≠ c → mm_e ad cs M a = mm_e ad cs M' a) (hd0 : parseFieldDescriptor (T k).2.2.1 = some ty) (hn : ∀ ad, narrow ty (mm_v ad v) = mm_v ad v) (hfit : ∀ ad, fits ty (mm_v ad v) = true)
    (hw : Cond.fieldLink j.1.cls idx (T k).1 (T k).2.1 (T k).2.2.1 ∈ mm_tbl) (hd : decode j.2.1 pc = .ok (.putfield idx, 3)) (k1 : Snd inj j X (pc + 3) lo st M' ee) : Snd inj j X pc lo (v :: .ref c :: st) M ee :=
  mStp.go ⟨hG, fun p l e R s m args below meth c0 D A cs ad Q C1 H locs cells slots ls h1 h2 hW hL kk => by
    refine va_put (D := D) (ci := ci) (C := C) (T := T) (N := N) (fs := (List.range N).map (mm_fv ad M c)) (v := mm_v ad v) (ty := ty) C1.1 C1.2.1 C1.2.2.2.2.1 hin ty0 hty hnm C1.2.2.2.2.2.1 C1.2.2.2.2.2.2.2.1 hW.1 hW.2.1 hW.2.2 (c - 1) ?_ hcl k hk (C1.2.2.2.2.1 _ hw) (fun _ h => h) hfin hd0 (hn ad) (hfit ad) (by simp; exact hk) hd (fun H1 locs1 hP hD hS => ?_)
    · rw [mm_get ad cs M hc, mm_e_obj ad cs M hs]
    · rw [mm_fset ad M M' c N hk (hf ad) (ho ad), mm_set ad cs M M' hc (hne ad cs) (mm_e_obj ad cs M' hs)] at hP hD
      exact kk H1 locs1 ls ⟨hP, hD, hS⟩ hL⟩ k1
theorem mm_fv_sI (ad : Nat → Nat) {c k : Nat} {v : Int32} (hf : mm_fk c k = 0) : mm_fv ad (sI M c k v) c k = .int v := by
  simp [mm_fv, hf, sI, sR, uR, upd]
theorem mm_fv_sI_ne (ad : Nat → Nat) {c k : Nat} {v : Int32} : ∀ b, b ≠ k → mm_fv ad M c b = mm_fv ad (sI M c k v) c b := by
  intro b hb
  simp [mm_fv, sI, sR, uR, upd, hb]
theorem sn_pI {c k ci N idx : Nat} {v : Int32} {C : String} {T : u_T} (ty0 : Nat → FieldType) (hty : ∀ k, k < N → parseFieldDescriptor (T k).2.2.1 = some (ty0 k)) (hnm : ∀ a, a < N → ∀ b, b < N → a ≠ b → (T a).2.1 ≠ (T b).2.1) (hcl : vwCl[ci]? = some (C, T, N)) (hin : ∀ w ∈ u_ws C T N, w ∈ mm_tbl) (hs : mm_sh c = (0, ci, N)) (hc : 0 < c ∧ c ≤ 62) (hk : k < N) (hfin : (T k).2.2.2 = false) (hf : mm_fk c k = 0) (hd0 : parseFieldDescriptor (T k).2.2.1 = some .int)
    (hw : Cond.fieldLink j.1.cls idx (T k).1 (T k).2.1 (T k).2.2.1 ∈ mm_tbl) (hd : decode j.2.1 pc = .ok (.putfield idx, 3)) {ex : mm_M → Option α} (k1 : ∀ M, Snd inj j X (pc + 3) lo st M (ex M)) : Snd inj j X pc lo (.int v :: .ref c :: st) M (bM (sI M c k v) ex) :=
  mm_putv (M' := sI M c k v) ty0 hty hnm hcl hin hs hc hk hfin rfl (fun ad => mm_fv_sI ad hf) (fun ad => mm_fv_sI_ne ad) (fun ad cs => mm_e_ne ad cs M _) hd0 (fun _ => rfl) (fun _ => rfl) hw hd (k1 _)
theorem sn_pZ {c k ci N idx : Nat} {v : Int32} {C : String} {T : u_T} (hz : v = 0 ∨ v = 1) (ty0 : Nat → FieldType) (hty : ∀ k, k < N → parseFieldDescriptor (T k).2.2.1 = some (ty0 k)) (hnm : ∀ a, a < N → ∀ b, b < N → a ≠ b → (T a).2.1 ≠ (T b).2.1) (hcl : vwCl[ci]? = some (C, T, N)) (hin : ∀ w ∈ u_ws C T N, w ∈ mm_tbl) (hs : mm_sh c = (0, ci, N)) (hc : 0 < c ∧ c ≤ 62) (hk : k < N) (hfin : (T k).2.2.2 = false) (hf : mm_fk c k = 0) (hd0 : parseFieldDescriptor (T k).2.2.1 = some .boolean)
    (hw : Cond.fieldLink j.1.cls idx (T k).1 (T k).2.1 (T k).2.2.1 ∈ mm_tbl) (hd : decode j.2.1 pc = .ok (.putfield idx, 3)) {ex : mm_M → Option α} (k1 : ∀ M, Snd inj j X (pc + 3) lo st M (ex M)) : Snd inj j X pc lo (.int v :: .ref c :: st) M (bM (sI M c k v) ex) :=
  mm_putv (M' := sI M c k v) ty0 hty hnm hcl hin hs hc hk hfin rfl (fun ad => mm_fv_sI ad hf) (fun ad => mm_fv_sI_ne ad) (fun ad cs => mm_e_ne ad cs M _) hd0 (fun _ => by rcases hz with rfl | rfl <;> rfl) (fun _ => by rcases hz with rfl | rfl <;> rfl) hw hd (k1 _)
theorem mm_eN_ne {M' : mm_M} {c0 : Nat} (hI : M'.1 = M.1) (hLg : M'.2.1 = M.2.1) (h : ∀ ad a, a ≠ c0 → mm_fv ad M a = mm_fv ad M' a) : ∀ (ad : Nat → Nat) (cs : mm_K) (a : Nat), a ≠ c0 → mm_e ad cs M a = mm_e ad cs M' a := by
  intro ad cs a ha
  simp only [mm_e, h ad a ha, hI, hLg]
theorem mm_fk_out {c : Nat} (h : 62 < c) : ∀ k, mm_fk c k = 0 := by
  intro k
  have : mm_fkT.getD c [] = [] := by
    rw [List.getD_eq_getElem?_getD, List.getElem?_eq_none (by show 47 ≤ c; omega)]; rfl
  unfold mm_fk
  rw [this]; rfl
theorem mm_kindA : ∀ a, a ≤ 62 → a ≠ 1 → ∀ k, mm_fk a k ≠ 1 ∧ mm_fk a k ≠ 2 := by
  intro a ha h1 k
  by_cases hk : k < 27
  · revert a k
    have : ∀ a : Fin 63, a.1 ≠ 1 → ∀ k : Fin 27, mm_fk a.1 k.1 ≠ 1 ∧ mm_fk a.1 k.1 ≠ 2 := by decide +kernel
    intro a ha h1 k hk
    exact this ⟨a, by omega⟩ h1 ⟨k, hk⟩
  · have : ∀ a : Fin 63, (mm_fkT.getD a.1 []).length ≤ 27 := by decide +kernel
    have hl := this ⟨a, by omega⟩
    have e : mm_fk a k = 0 := by
      unfold mm_fk
      rw [List.getD_eq_getElem?_getD, List.getElem?_eq_none (by simp at hl ⊢; omega)]; rfl
    rw [e]; exact ⟨by decide, by decide⟩
theorem mm_kindB : ∀ a, a ≤ 62 → a ≠ 26 → ∀ k, mm_fk a k ≠ 3 := by
  intro a ha h1 k
  by_cases hk : k < 27
  · revert a k
    have : ∀ a : Fin 63, a.1 ≠ 26 → ∀ k : Fin 27, mm_fk a.1 k.1 ≠ 3 := by decide +kernel
    intro a ha h1 k hk
    exact this ⟨a, by omega⟩ h1 ⟨k, hk⟩
  · have : ∀ a : Fin 63, (mm_fkT.getD a.1 []).length ≤ 27 := by decide +kernel
    have hl := this ⟨a, by omega⟩
    have e : mm_fk a k = 0 := by
      unfold mm_fk
      rw [List.getD_eq_getElem?_getD, List.getElem?_eq_none (by simp at hl ⊢; omega)]; rfl
    rw [e]; decide
theorem mm_fvA {M' : mm_M} (hI : M'.1 = M.1) (hp : M'.2.2.1.2.2 = M.2.2.1.2.2) : ∀ (ad : Nat → Nat) (a : Nat), a ≠ 1 → mm_fv ad M a = mm_fv ad M' a := by
  intro ad a ha
  funext k
  by_cases h : a ≤ 62
  · obtain ⟨q1, q2⟩ := mm_kindA a h ha k
    simp only [mm_fv, hI, hp, if_neg q1, if_neg q2]
  · simp only [mm_fv, mm_fk_out (show 62 < a by omega) k, if_true, hI]
theorem mm_fvB {M' : mm_M} (hI : M'.1 = M.1) (h1 : M'.2.2.1.1 = M.2.2.1.1) (h2 : M'.2.2.1.2.1 = M.2.2.1.2.1) : ∀ (ad : Nat → Nat) (a : Nat), a ≠ 26 → mm_fv ad M a = mm_fv ad M' a := by
  intro ad a ha
  funext k
  by_cases h : a ≤ 62
  · have q1 := mm_kindB a h ha k
    simp only [mm_fv, hI, h1, h2, if_neg q1]
  · simp only [mm_fv, mm_fk_out (show 62 < a by omega) k, if_true, hI]
theorem sn_pNow {idx d : Nat} (hin : ∀ w ∈ u_ws RX6 TX6 9, w ∈ mm_tbl) (hw : Cond.fieldLink j.1.cls idx (TX6 0).1 (TX6 0).2.1 (TX6 0).2.2.1 ∈ mm_tbl) (hd : decode j.2.1 pc = .ok (.putfield idx, 3)) {ex : mm_M → Option α} (k1 : ∀ M, Snd inj j X (pc + 3) lo st M (ex M)) : Snd inj j X pc lo (.ref d :: .ref 1 :: st) M (bM (sNow M d) ex) :=
  mm_putv (M' := sNow M d) (c := 1) (k := 0) (ci := 6) (N := 9) (ty := .object "DepotCharge$Depot") tyX6 tyX6_ok nmX6 rfl hin rfl ⟨by decide, by decide⟩ (by decide) rfl rfl (fun ad => rfl) (fun ad b hb => by
    by_cases h9 : b < 9
    · have : b = 1 ∨ b = 2 ∨ b = 3 ∨ b = 4 ∨ b = 5 ∨ b = 6 ∨ b = 7 ∨ b = 8 := by omega
      rcases this with rfl | rfl | rfl | rfl | rfl | rfl | rfl | rfl <;> rfl
    · have e : mm_fk 1 b = 0 := by
        unfold mm_fk
        rw [List.getD_eq_getElem?_getD, List.getElem?_eq_none (by show 9 ≤ b; omega)]; rfl
      simp [mm_fv, e, sNow]) (mm_eN_ne rfl rfl (mm_fvA rfl rfl)) (tyX6_ok 0 (by decide)) (fun _ => rfl) (fun _ => rfl) hw hd (k1 _)
theorem sn_pDra {idx d : Nat} (hin : ∀ w ∈ u_ws RX6 TX6 9, w ∈ mm_tbl) (hw : Cond.fieldLink j.1.cls idx (TX6 1).1 (TX6 1).2.1 (TX6 1).2.2.1 ∈ mm_tbl) (hd : decode j.2.1 pc = .ok (.putfield idx, 3)) {ex : mm_M → Option α} (k1 : ∀ M, Snd inj j X (pc + 3) lo st M (ex M)) : Snd inj j X pc lo (.ref d :: .ref 1 :: st) M (bM (sDra M d) ex) :=
  mm_putv (M' := sDra M d) (c := 1) (k := 1) (ci := 6) (N := 9) (ty := .object "DepotCharge$Depot") tyX6 tyX6_ok nmX6 rfl hin rfl ⟨by decide, by decide⟩ (by decide) rfl rfl (fun ad => rfl) (fun ad b hb => by
    by_cases h9 : b < 9
    · have : b = 0 ∨ b = 2 ∨ b = 3 ∨ b = 4 ∨ b = 5 ∨ b = 6 ∨ b = 7 ∨ b = 8 := by omega
      rcases this with rfl | rfl | rfl | rfl | rfl | rfl | rfl | rfl <;> rfl
    · have e : mm_fk 1 b = 0 := by
        unfold mm_fk
        rw [List.getD_eq_getElem?_getD, List.getElem?_eq_none (by show 9 ≤ b; omega)]; rfl
      simp [mm_fv, e, sDra]) (mm_eN_ne rfl rfl (mm_fvA rfl rfl)) (tyX6_ok 1 (by decide)) (fun _ => rfl) (fun _ => rfl) hw hd (k1 _)
theorem sn_pDep {idx d : Nat} (hin : ∀ w ∈ u_ws RX2 TX2 19, w ∈ mm_tbl) (hw : Cond.fieldLink j.1.cls idx (TX2 3).1 (TX2 3).2.1 (TX2 3).2.2.1 ∈ mm_tbl) (hd : decode j.2.1 pc = .ok (.putfield idx, 3)) {ex : mm_M → Option α} (k1 : ∀ M, Snd inj j X (pc + 3) lo st M (ex M)) : Snd inj j X pc lo (.ref d :: .ref 26 :: st) M (bM (sDep M d) ex) :=
  mm_putv (M' := sDep M d) (c := 26) (k := 3) (ci := 2) (N := 19) (ty := .object "DepotCharge$Depot") tyX2 tyX2_ok nmX2 rfl hin rfl ⟨by decide, by decide⟩ (by decide) rfl rfl (fun ad => rfl) (fun ad b hb => by
    by_cases h9 : b < 19
    · have : b = 0 ∨ b = 1 ∨ b = 2 ∨ b = 4 ∨ b = 5 ∨ b = 6 ∨ b = 7 ∨ b = 8 ∨ b = 9 ∨ b = 10 ∨ b = 11 ∨ b = 12 ∨ b = 13 ∨ b = 14 ∨ b = 15 ∨ b = 16 ∨ b = 17 ∨ b = 18 := by omega
      rcases this with rfl | rfl | rfl | rfl | rfl | rfl | rfl | rfl | rfl | rfl | rfl | rfl | rfl | rfl | rfl | rfl | rfl | rfl <;> rfl
    · have e : mm_fk 26 b = 0 := by
        unfold mm_fk
        rw [List.getD_eq_getElem?_getD, List.getElem?_eq_none (by show 19 ≤ b; omega)]; rfl
      simp [mm_fv, e, sDep]) (mm_eN_ne rfl rfl (mm_fvB rfl rfl rfl)) (tyX2_ok 3 (by decide)) (fun _ => rfl) (fun _ => rfl) hw hd (k1 _)
-- arrays
def aI (c n : Nat) (i : Int32) (M : mm_M) (e : Int32 → Option α) : Option α := if inb i n = true then e (mI M c i.toNatClampNeg) else none
def aL (c n : Nat) (i : Int32) (M : mm_M) (e : Int64 → Option α) : Option α := if inb i n = true then e (mL M c i.toNatClampNeg) else none
def aT (t n : Nat) (i : Int32) (e : Int32 → Option α) : Option α := if inb i n = true then e (mm_ro t i.toNatClampNeg) else none
def aX (X : mm_X) (i : Int32) (e : Int32 → Option α) : Option α := if inb i X.1 = true then e (X.2 i.toNatClampNeg) else none
def uI (c n : Nat) (i v : Int32) (M : mm_M) (e : mm_M → Option α) : Option α := if inb i n = true then e (sI M c i.toNatClampNeg v) else none
def uB (c n : Nat) (i v : Int32) (M : mm_M) (e : mm_M → Option α) : Option α := if inb i n = true then e (sI M c i.toNatClampNeg v.toInt8.toInt32) else none
def uL (c n : Nat) (i : Int32) (v : Int64) (M : mm_M) (e : mm_M → Option α) : Option α := if inb i n = true then e (sL M c i.toNatClampNeg v) else none
theorem sn_iald {c n : Nat} {i : Int32} (hs : mm_sh c = (1, n, 0)) (hc : 0 < c ∧ c ≤ 62) (hd : decode j.2.1 pc = .ok (.iaload, 1)) {ex : Int32 → Option α} (k1 : ∀ x, Snd inj j X (pc + 1) lo (.int x :: st) M (ex x)) : Snd inj j X pc lo (.int i :: .ref c :: st) M (aI c n i M ex) :=
  Snd.ite fun hb => mStp.go ⟨rfl, fun p l e R s m args below meth c0 D A cs ad Q C1 H locs cells slots ls h1 h2 hW hL kk => by
    refine va_iald (D := D) (cA := cs.1) (n := n) (f := M.1 c) C1.1 C1.2.1 C1.2.2.2.2.2.2.2.1 hW.1 (c - 1) 0 ?_ rfl (inb_in hb) hd (kk H locs ls hW hL)
    rw [mm_get ad cs M hc, mm_e_int ad cs M hs]⟩ (k1 (mI M c i.toNatClampNeg))
theorem sn_bald {c n : Nat} {i : Int32} (hs : mm_sh c = (2, n, 0)) (hc : 0 < c ∧ c ≤ 62) (hd : decode j.2.1 pc = .ok (.baload, 1)) {ex : Int32 → Option α} (k1 : ∀ x, Snd inj j X (pc + 1) lo (.int x :: st) M (ex x)) : Snd inj j X pc lo (.int i :: .ref c :: st) M (aI c n i M ex) :=
  Snd.ite fun hb => mStp.go ⟨rfl, fun p l e R s m args below meth c0 D A cs ad Q C1 H locs cells slots ls h1 h2 hW hL kk => by
    refine va_bald (D := D) (cA := cs.2.1) (n := n) (f := M.1 c) C1.1 C1.2.1 C1.2.2.2.2.2.2.2.1 hW.1 (c - 1) 1 ?_ rfl (inb_in hb) hd (kk H locs ls hW hL)
    rw [mm_get ad cs M hc, mm_e_byte ad cs M hs]⟩ (k1 (mI M c i.toNatClampNeg))
theorem sn_lald {c n : Nat} {i : Int32} (hs : mm_sh c = (3, n, 0)) (hc : 0 < c ∧ c ≤ 62) (hd : decode j.2.1 pc = .ok (.laload, 1)) {ex : Int64 → Option α} (k1 : ∀ x, Snd inj j X (pc + 1) lo (.long x :: st) M (ex x)) : Snd inj j X pc lo (.int i :: .ref c :: st) M (aL c n i M ex) :=
  Snd.ite fun hb => mStp.go ⟨rfl, fun p l e R s m args below meth c0 D A cs ad Q C1 H locs cells slots ls h1 h2 hW hL kk => by
    refine va_lald (D := D) (cA := cs.2.2) (n := n) (f := M.2.1 c) C1.1 C1.2.1 C1.2.2.2.2.2.2.2.1 hW.1 (c - 1) 2 ?_ rfl (inb_in hb) hd (kk H locs ls hW hL)
    rw [mm_get ad cs M hc, mm_e_long ad cs M hs]⟩ (k1 (mL M c i.toNatClampNeg))
theorem sn_iast {c n : Nat} {i v : Int32} (hs : mm_sh c = (1, n, 0)) (hc : 0 < c ∧ c ≤ 62) (hd : decode j.2.1 pc = .ok (.iastore, 1)) {ex : mm_M → Option α} (k1 : ∀ M, Snd inj j X (pc + 1) lo st M (ex M)) : Snd inj j X pc lo (.int v :: .int i :: .ref c :: st) M (uI c n i v M ex) :=
  Snd.ite fun hb => mStp.go (M' := sI M c i.toNatClampNeg v) ⟨rfl, fun p l e R s m args below meth c0 D A cs ad Q C1 H locs cells slots ls h1 h2 hW hL kk => by
    refine va_iast (D := D) (cA := cs.1) (n := n) (f := M.1 c) C1.1 C1.2.1 C1.2.2.2.2.2.2.2.1 hW.1 hW.2.1 hW.2.2 (c - 1) 0 ?_ rfl (inb_in hb) hd (fun H1 locs1 hP hD hS => ?_)
    · rw [mm_get ad cs M hc, mm_e_int ad cs M hs]
    · rw [mm_set ad cs M (sI M c i.toNatClampNeg v) hc (mm_e_ne ad cs M _) (by rw [mm_e_int ad cs _ hs]; simp [sI, sR, uR])] at hP hD
      exact kk H1 locs1 ls ⟨hP, hD, hS⟩ hL⟩ (k1 (sI M c i.toNatClampNeg v))
theorem sn_bast {c n : Nat} {i v : Int32} (hs : mm_sh c = (2, n, 0)) (hc : 0 < c ∧ c ≤ 62) (hd : decode j.2.1 pc = .ok (.bastore, 1)) {ex : mm_M → Option α} (k1 : ∀ M, Snd inj j X (pc + 1) lo st M (ex M)) : Snd inj j X pc lo (.int v :: .int i :: .ref c :: st) M (uB c n i v M ex) :=
  Snd.ite fun hb => mStp.go (M' := sI M c i.toNatClampNeg v.toInt8.toInt32) ⟨rfl, fun p l e R s m args below meth c0 D A cs ad Q C1 H locs cells slots ls h1 h2 hW hL kk => by
    refine va_bast (D := D) (cA := cs.2.1) (n := n) (f := M.1 c) C1.1 C1.2.1 C1.2.2.2.2.2.2.2.1 hW.1 hW.2.1 hW.2.2 (c - 1) 1 ?_ rfl (inb_in hb) hd (fun H1 locs1 hP hD hS => ?_)
    · rw [mm_get ad cs M hc, mm_e_byte ad cs M hs]
    · rw [vp_nar_byte] at hP hD
      rw [mm_set ad cs M (sI M c i.toNatClampNeg v.toInt8.toInt32) hc (mm_e_ne ad cs M _) (by rw [mm_e_byte ad cs _ hs]; simp [sI, sR, uR])] at hP hD
      exact kk H1 locs1 ls ⟨hP, hD, hS⟩ hL⟩ (k1 (sI M c i.toNatClampNeg v.toInt8.toInt32))
theorem sn_last {c n : Nat} {i : Int32} {v : Int64} (hs : mm_sh c = (3, n, 0)) (hc : 0 < c ∧ c ≤ 62) (hd : decode j.2.1 pc = .ok (.lastore, 1)) {ex : mm_M → Option α} (k1 : ∀ M, Snd inj j X (pc + 1) lo st M (ex M)) : Snd inj j X pc lo (.long v :: .int i :: .ref c :: st) M (uL c n i v M ex) :=
  Snd.ite fun hb => mStp.go (M' := sL M c i.toNatClampNeg v) ⟨rfl, fun p l e R s m args below meth c0 D A cs ad Q C1 H locs cells slots ls h1 h2 hW hL kk => by
    refine va_last (D := D) (cA := cs.2.2) (n := n) (f := M.2.1 c) C1.1 C1.2.1 C1.2.2.2.2.2.2.2.1 hW.1 hW.2.1 hW.2.2 (c - 1) 2 ?_ rfl (inb_in hb) hd (fun H1 locs1 hP hD hS => ?_)
    · rw [mm_get ad cs M hc, mm_e_long ad cs M hs]
    · rw [mm_set ad cs M (sL M c i.toNatClampNeg v) hc (mm_eL_ne ad cs M) (by rw [mm_e_long ad cs _ hs]; simp [sL, uR])] at hP hD
      exact kk H1 locs1 ls ⟨hP, hD, hS⟩ hL⟩ (k1 (sL M c i.toNatClampNeg v))
theorem sn_alen {c n : Nat} (v : Int32) (hs : mm_sh c = (1, n, 0)) (hc : 0 < c ∧ c ≤ 62) (hv : Int32.ofNat n = v) (hd : decode j.2.1 pc = .ok (.arraylength, 1)) (k1 : Snd inj j X (pc + 1) lo (.int v :: st) M ee) : Snd inj j X pc lo (.ref c :: st) M ee :=
  mStp.go ⟨rfl, fun p l e R s m args below meth c0 D A cs ad Q C1 H locs cells slots ls h1 h2 hW hL kk => by
    refine va_alen (D := D) (cA := cs.1) (x := (n, .inl (M.1 c))) (ty := .int) C1.1 C1.2.1 C1.2.2.2.2.2.2.2.1 hW.1 (c - 1) 0 ?_ rfl hv hd (kk H locs ls hW hL)
    rw [mm_get ad cs M hc, mm_e_int ad cs M hs]⟩ k1
-- the static tables, the script
theorem sn_tald {t n : Nat} {i : Int32} (ht : ∀ ad A U H, mm_RO ad A U H → va_T .int (ad (100 + t)) n (fun j => .int (mm_ro t j)) A U H) (hd : decode j.2.1 pc = .ok (.iaload, 1)) {ex : Int32 → Option α} (k1 : ∀ x, Snd inj j X (pc + 1) lo (.int x :: st) M (ex x)) : Snd inj j X pc lo (.int i :: .ref (100 + t) :: st) M (aT t n i ex) :=
  Snd.ite fun hb => mStp.go ⟨rfl, fun p l e R s m args below meth c0 D A cs ad Q C1 H locs cells slots ls h1 h2 hW hL kk =>
    va_ti (v := .int (mm_ro t i.toNatClampNeg)) C1.1 C1.2.1 (ht ad A s s.heap C1.2.2.2.2.2.2.2.2.2.1) hW.2.2 (inb_in hb) rfl hd (kk H locs ls hW hL)⟩ (k1 (mm_ro t i.toNatClampNeg))
theorem mm_T0 : ∀ ad A U H, mm_RO ad A U H → va_T .int (ad (100 + 0)) 3 (fun j => .int (mm_ro 0 j)) A U H := fun _ _ _ _ h => h.2.1.1
theorem mm_T1 : ∀ ad A U H, mm_RO ad A U H → va_T .int (ad (100 + 1)) 16 (fun j => .int (mm_ro 1 j)) A U H := fun _ _ _ _ h => h.2.1.2.1
theorem mm_T2 : ∀ ad A U H, mm_RO ad A U H → va_T .int (ad (100 + 2)) 16 (fun j => .int (mm_ro 2 j)) A U H := fun _ _ _ _ h => h.2.1.2.2
theorem sn_xald {i : Int32} (hd : decode j.2.1 pc = .ok (.iaload, 1)) {ex : Int32 → Option α} (k1 : ∀ x, Snd inj j X (pc + 1) lo (.int x :: st) M (ex x)) : Snd inj j X pc lo (.int i :: .ref 103 :: st) M (aX X i ex) :=
  Snd.ite fun hb => mStp.go ⟨rfl, fun p l e R s m args below meth c0 D A cs ad Q C1 H locs cells slots ls h1 h2 hW hL kk => by
    rcases C1.2.2.2.2.2.2.2.2.2.2.1 with h0 | ⟨h0, -, -⟩
    · exfalso
      rw [h0] at hb
      simp [inb] at hb
    · exact va_ti (v := .int (X.2 i.toNatClampNeg)) C1.1 C1.2.1 h0 hW.2.2 (inb_in hb) rfl hd (kk H locs ls hW hL)⟩ (k1 (X.2 i.toNatClampNeg))
theorem sn_xlen (hX : X.1 ≠ 0) (hd : decode j.2.1 pc = .ok (.arraylength, 1)) (k1 : Snd inj j X (pc + 1) lo (.int (Int32.ofNat X.1) :: st) M ee) : Snd inj j X pc lo (.ref 103 :: st) M ee :=
  mStp.go ⟨rfl, fun p l e R s m args below meth c0 D A cs ad Q C1 H locs cells slots ls h1 h2 hW hL kk => by
    rcases C1.2.2.2.2.2.2.2.2.2.2.1 with h0 | ⟨h0, -, -⟩
    · exact absurd h0 hX
    · exact va_tlen C1.1 C1.2.1 h0 hW.2.2 rfl hd (kk H locs ls hW hL)⟩ k1
theorem sn_gst {idx t : Nat} {n : String} (ht : ∀ ad A U H, mm_RO ad A U H → va_Z "DepotCharge" n "[I" (.ref (ad (100 + t))) A U H) (hj : j.1.cls = "DepotCharge") (hw : Cond.fieldLink "DepotCharge" idx "DepotCharge" n "[I" ∈ mm_tbl) (hd : decode j.2.1 pc = .ok (.getstatic idx, 3)) (k1 : Snd inj j X (pc + 3) lo (.ref (100 + t) :: st) M ee) : Snd inj j X pc lo st M ee :=
  mStp.go ⟨rfl, fun p l e R s m args below meth c0 D A cs ad Q C1 H locs cells slots ls h1 h2 hW hL kk =>
    va_gets C1.1 C1.2.1 (ht ad A s s.heap C1.2.2.2.2.2.2.2.2.2.1) hW.2.2 (own := "DepotCharge") (by rw [← hj]; exact C1.2.2.2.2.2.1) (C1.2.2.2.2.1 _ hw) (fun _ h => h) hd (kk H locs ls hW hL)⟩ k1
theorem sn_gstN {idx t : Nat} {n : String} (ht : ∀ ad A U H, mm_RO ad A U H → va_Z "DepotCharge" n "[I" (.ref (ad (100 + t))) A U H) (hw : Cond.fieldLinkNest j.1.cls idx "DepotCharge" n "[I" "DepotCharge" ∈ mm_rw) (hd : decode j.2.1 pc = .ok (.getstatic idx, 3)) (k1 : Snd inj j X (pc + 3) lo (.ref (100 + t) :: st) M ee) : Snd inj j X pc lo st M ee :=
  mStp.go ⟨rfl, fun p l e R s m args below meth c0 D A cs ad Q C1 H locs cells slots ls h1 h2 hW hL kk =>
    va_getsN C1.1 C1.2.1 (ht ad A s s.heap C1.2.2.2.2.2.2.2.2.2.1) hW.2.2 C1.2.2.2.2.2.1 (va_Nw.use (mm_rw_tab _ hw) (C1.2.2.2.2.2.2.2.2.2.1.2.2.1 _ hw)) (fun _ h => h) hd (kk H locs ls hW hL)⟩ k1
theorem mm_Z0 : ∀ ad A U H, mm_RO ad A U H → va_Z "DepotCharge" "MOST_OF_SETTING" "[I" (.ref (ad (100 + 0))) A U H := fun _ _ _ _ h => h.1.1
theorem mm_Z1 : ∀ ad A U H, mm_RO ad A U H → va_Z "DepotCharge" "SIZE_OF_SET" "[I" (.ref (ad (100 + 1))) A U H := fun _ _ _ _ h => h.1.2.1
theorem mm_Z2 : ∀ ad A U H, mm_RO ad A U H → va_Z "DepotCharge" "FIRST_OF_SET" "[I" (.ref (ad (100 + 2))) A U H := fun _ _ _ _ h => h.1.2.2
-- the JDK's own
def mx (a b : Int32) : Int32 := if a < b then b else a
def mi (a b : Int32) : Int32 := if b < a then b else a
theorem sn_max {a b : Int32} {idx : Nat} (hl : Cond.methodLink j.1.cls idx Lib.Math.max.name ∈ mm_tbl) (h2 : Cond.static Lib.Math.max.name ∈ mm_tbl) (h3 : Cond.initialized "java/lang/Math" ∈ mm_tbl) (h4 : Cond.code Lib.Math.max.name Lib.Math.max.code 2 (some .int) ∈ mm_tbl) (hj : 1 ≤ j.2.2.2.2) (hr : ((st.map fun v => v.category).sum) ≤ 8) (hd : decode j.2.1 pc = .ok (.invokestatic idx, 3)) (k1 : Snd inj j X (pc + 3) lo (.int (mx a b) :: st) M ee) : Snd inj j X pc lo (.int b :: .int a :: st) M ee :=
  mStp.go ⟨rfl, fun p l e R s m args below meth c0 D A cs ad Q C1 H locs cells slots ls g1 g2 hW hL kk =>
    va_mmax C1.1 C1.2.1 (by rw [C1.2.2.1, hL.1]) C1.2.2.2.2.2.1 (C1.2.2.2.2.1 _ hl) (C1.2.2.2.2.1 _ h2) (C1.2.2.2.2.1 _ h3) (C1.2.2.2.2.1 _ h4) (Nat.le_trans hj C1.2.2.2.2.2.2.2.2.2.2.2.1) (by
      have e : (List.map (fun v => v.category) (List.map (mm_v ad) st)) = st.map fun v => v.category := by rw [List.map_map]; exact List.map_congr_left fun v _ => mm_v_cat ad v
      have h9 := C1.2.2.2.2.2.2.2.2.2.2.2.2
      rw [e]; omega) g1 g2 hd (kk H locs ls hW hL)⟩ k1
theorem sn_min {a b : Int32} {idx : Nat} (hl : Cond.methodLink j.1.cls idx Lib.Math.min.name ∈ mm_tbl) (h2 : Cond.static Lib.Math.min.name ∈ mm_tbl) (h3 : Cond.initialized "java/lang/Math" ∈ mm_tbl) (h4 : Cond.code Lib.Math.min.name Lib.Math.min.code 2 (some .int) ∈ mm_tbl) (hj : 1 ≤ j.2.2.2.2) (hr : ((st.map fun v => v.category).sum) ≤ 8) (hd : decode j.2.1 pc = .ok (.invokestatic idx, 3)) (k1 : Snd inj j X (pc + 3) lo (.int (mi a b) :: st) M ee) : Snd inj j X pc lo (.int b :: .int a :: st) M ee :=
  mStp.go ⟨rfl, fun p l e R s m args below meth c0 D A cs ad Q C1 H locs cells slots ls g1 g2 hW hL kk =>
    va_mmin C1.1 C1.2.1 (by rw [C1.2.2.1, hL.1]) C1.2.2.2.2.2.1 (C1.2.2.2.2.1 _ hl) (C1.2.2.2.2.1 _ h2) (C1.2.2.2.2.1 _ h3) (C1.2.2.2.2.1 _ h4) (Nat.le_trans hj C1.2.2.2.2.2.2.2.2.2.2.2.1) (by
      have e : (List.map (fun v => v.category) (List.map (mm_v ad) st)) = st.map fun v => v.category := by rw [List.map_map]; exact List.map_congr_left fun v _ => mm_v_cat ad v
      have h9 := C1.2.2.2.2.2.2.2.2.2.2.2.2
      rw [e]; omega) g1 g2 hd (kk H locs ls hW hL)⟩ k1
def cpy (a na b nb : Nat) (sp dp n : Int32) (M : mm_M) (e : mm_M → Option α) : Option α := if (!(decide (sp < 0)) && !(decide (dp < 0)) && !(decide (n < 0)) && decide (sp.toNatClampNeg + n.toNatClampNeg ≤ na) && decide (dp.toNatClampNeg + n.toNatClampNeg ≤ nb)) = true then e (sR M b (va_cpy (M.1 a) (M.1 b) sp.toNatClampNeg dp.toNatClampNeg n.toNatClampNeg)) else none
theorem sn_cpy {a na b nb idx : Nat} {sp dp n : Int32} (hsa : mm_sh a = (1, na, 0)) (hca : 0 < a ∧ a ≤ 62) (hsb : mm_sh b = (1, nb, 0)) (hcb : 0 < b ∧ b ≤ 62) (hl : Cond.methodLink j.1.cls idx arraycopyName ∈ mm_tbl) (h1 : Cond.native arraycopyName ∈ mm_tbl) (h2 : Cond.static arraycopyName ∈ mm_tbl) (h3 : Cond.initialized "java/lang/System" ∈ mm_tbl) (hj : 1 ≤ j.2.2.2.2) (hr : ((st.map fun v => v.category).sum) ≤ 8) (hd : decode j.2.1 pc = .ok (.invokestatic idx, 3)) {ex : mm_M → Option α} (k1 : ∀ M, Snd inj j X (pc + 3) lo st M (ex M)) : Snd inj j X pc lo (.int n :: .int dp :: .ref b :: .int sp :: .ref a :: st) M (cpy a na b nb sp dp n M ex) :=
  Snd.ite fun hb => by
    simp only [Bool.and_eq_true, Bool.not_eq_true', decide_eq_false_iff_not, decide_eq_true_eq] at hb
    obtain ⟨⟨⟨⟨b1, b2⟩, b3⟩, b4⟩, b5⟩ := hb
    refine mStp.go (M' := sR M b (va_cpy (M.1 a) (M.1 b) sp.toNatClampNeg dp.toNatClampNeg n.toNatClampNeg)) ⟨rfl, fun p l e R s m args below meth c0 D A cs ad Q C1 H locs cells slots ls g1 g2 hW hL kk => ?_⟩ (k1 _)
    refine va_copyi (D := D) (c0 := cs.1) (c1 := cs.1) (n0 := na) (n1 := nb) (f := M.1 a) (g := M.1 b) (ty := .int) C1.1 C1.2.1 (by rw [C1.2.2.1, hL.1]) C1.2.2.2.2.2.1 (C1.2.2.2.2.1 _ hl) (C1.2.2.2.2.1 _ h1) (C1.2.2.2.2.1 _ h2) (C1.2.2.2.2.1 _ h3) C1.2.2.2.2.2.2.2.1 hW.1 hW.2.1 hW.2.2 (a - 1) (b - 1) 0 0 ?_ ?_ rfl rfl rfl b1 b2 b3 b4 b5 (fun _ _ => rfl) (Nat.le_trans hj C1.2.2.2.2.2.2.2.2.2.2.2.1) ?_ hd (fun H1 locs1 hP hD hS => ?_)
    · rw [mm_get ad cs M hca, mm_e_int ad cs M hsa]
    · rw [mm_get ad cs M hcb, mm_e_int ad cs M hsb]
    · have e : (List.map (fun v => v.category) (List.map (mm_v ad) st)) = st.map fun v => v.category := by rw [List.map_map]; exact List.map_congr_left fun v _ => mm_v_cat ad v
      have h9 := C1.2.2.2.2.2.2.2.2.2.2.2.2
      have h8 : nativeFrameWords "java/lang/System" "arraycopy" 5 = 0 ∨ nativeFrameWords "java/lang/System" "arraycopy" 5 ≤ 17 := by right; decide +kernel
      rw [e]; omega
    · rw [mm_set ad cs M (sR M b (va_cpy (M.1 a) (M.1 b) sp.toNatClampNeg dp.toNatClampNeg n.toNatClampNeg)) hcb (mm_e_ne ad cs M _) (by rw [mm_e_int ad cs _ hsb]; simp [sR, uR])] at hP hD
      exact kk H1 locs1 ls ⟨hP, hD, hS⟩ hL
theorem sn_ldcS {idx q : Nat} {tx : String} (ht : ∀ ad A U H, mm_RO ad A U H → vk_R j.1.cls idx tx (ad q) U) (hd : decode j.2.1 pc = .ok (.ldc idx, 2)) (k1 : Snd inj j X (pc + 2) lo (.ref q :: st) M ee) : Snd inj j X pc lo st M ee :=
  mStp.go ⟨rfl, fun p l e R s m args below meth c0 D A cs ad Q C1 H locs cells slots ls g1 g2 hW hL kk => va_ldcS C1.1 C1.2.1 C1.2.2.2.2.2.1 (ht ad A s s.heap C1.2.2.2.2.2.2.2.2.2.1) hd (kk H locs ls hW hL)⟩ k1
-- ends
abbrev injI : Int32 × mm_M → Option Value × mm_M := fun x => (some (.int x.1), x.2)
abbrev injL : Int64 × mm_M → Option Value × mm_M := fun x => (some (.long x.1), x.2)
abbrev injV : mm_M → Option Value × mm_M := fun M => (none, M)
theorem sn_iret {v : Int32} (hr : j.2.2.2.1 = some .int) (hd : decode j.2.1 pc = .ok (.ireturn, 1)) : Snd injI j X pc lo [.int v] M (some (v, M)) := by
  intro x hx
  cases hx
  refine ⟨Nat.le_refl _, ?_⟩
  intro p l e R s m args below meth c D A cs ad g0 k0 s0 Q C b1 b2 hQ H locs cells slots ls hW hL hc hs
  exact hQ H locs cells slots pc ls _ hW hc hs ⟨rfl, hd, .int, hr, rfl⟩
def rZ (v : Int32) (M : mm_M) : Option (Int32 × mm_M) := if v = 0 ∨ v = 1 then some (v, M) else none
theorem sn_zret {v : Int32} (hr : j.2.2.2.1 = some .boolean) (hd : decode j.2.1 pc = .ok (.ireturn, 1)) : Snd injI j X pc lo [.int v] M (rZ v M) := by
  unfold rZ
  refine Snd.gd fun h => ?_
  intro x hx
  cases hx
  refine ⟨Nat.le_refl _, ?_⟩
  intro p l e R s m args below meth c D A cs ad g0 k0 s0 Q C b1 b2 hQ H locs cells slots ls hW hL hc hs
  exact hQ H locs cells slots pc ls _ hW hc hs ⟨rfl, hd, .boolean, hr, by rcases h with rfl | rfl <;> simp [narrow]⟩
theorem sn_lret {v : Int64} (hr : j.2.2.2.1 = some .long) (hd : decode j.2.1 pc = .ok (.lreturn, 1)) : Snd injL j X pc lo [.long v] M (some (v, M)) := by
  intro x hx
  cases hx
  refine ⟨Nat.le_refl _, ?_⟩
  intro p l e R s m args below meth c D A cs ad g0 k0 s0 Q C b1 b2 hQ H locs cells slots ls hW hL hc hs
  exact hQ H locs cells slots pc ls _ hW hc hs ⟨rfl, hd, hr⟩
theorem sn_vret (hr : j.2.2.2.1 = none) (hd : decode j.2.1 pc = .ok (.return_, 1)) : Snd injV j X pc lo [] M (some M) := by
  intro x hx
  cases hx
  refine ⟨Nat.le_refl _, ?_⟩
  intro p l e R s m args below meth c D A cs ad g0 k0 s0 Q C b1 b2 hQ H locs cells slots ls hW hL hc hs
  exact hQ H locs cells slots pc ls _ hW hc hs ⟨rfl, hd, hr⟩
end HEAPRULES
end
section
section CALLRULES
abbrev mm_X0 : mm_X := (0, fun _ => 0)
theorem mm_args_in {ad : Nat → Nat} : ∀ (as : List Value) (k i : Nat) (v : Value), (∀ v ∈ as, v.category = 1) → as[i]? = some v → (k + i, mm_v ad v) ∈ lv_args k (as.map (mm_v ad))
  | [], k, i, v, _, h => by simp at h
  | a :: as, k, i, v, hc, h => by
    cases i with
    | zero =>
      rw [List.getElem?_cons_zero] at h
      cases h
      exact List.mem_cons_self
    | succ i =>
      rw [List.getElem?_cons_succ] at h
      have e : (mm_v ad a).category = 1 := (mm_v_cat ad a).trans (hc a List.mem_cons_self)
      have := mm_args_in (ad := ad) as (k + 1) i v (fun v hv => hc v (List.mem_cons_of_mem _ hv)) h
      simp only [List.map_cons, lv_args]
      rw [if_neg (by omega)]
      refine List.mem_cons_of_mem _ ?_
      rw [show k + (i + 1) = k + 1 + i by omega]
      exact this
theorem mm_sl_len {ad : Nat → Nat} (as : List Value) (hc : ∀ v ∈ as, v.category = 1) : (lg_sl (as.map (mm_v ad))).length = as.length := by
  induction as with
  | nil => rfl
  | cons a as ih =>
    have e : (mm_v ad a).category = 1 := (mm_v_cat ad a).trans (hc a List.mem_cons_self)
    have h := ih (fun v hv => hc v (List.mem_cons_of_mem _ hv))
    simp only [List.map_cons, lg_sl, List.flatMap_cons] at h ⊢
    rw [if_neg (by omega)]
    simp only [List.length_append, List.length_cons, List.length_nil, h]
    omega
/-- a method's words, its room, its start, its end -/
abbrev mm_wd (j : mm_J) : List Cond := .code j.1 j.2.1 j.2.2.1 j.2.2.2.1 :: mm_tbl
abbrev mm_rm (j : mm_J) (g : Nat) : Room := { frames := j.2.2.2.2, cells := g, slots := 6 * g, locals := 36 * j.2.2.2.2 }
def mm_Pc (D : va_G) (cs : mm_K) (ad : Nat → Nat) (as : List Value) (M : mm_M) (sz : Nat) : Array Value → State → Prop := fun a U => a = (as.map (mm_v ad)).toArray ∧ U.heap.size = sz ∧ va_P D vwCl (mm_ws ad cs M) U.heap ∧ va_K D vwCl (mm_ty cs) U ∧ va_D (fun _ => True) (mm_ws ad cs M) ∧ mm_RO ad (va_A (mm_ws ad cs M) sz) U U.heap
def mm_B (D : va_G) (cs : mm_K) (ad : Nat → Nat) (A : Nat → Prop) (M : mm_M) (_ : Unit) (t : State) : Prop := va_P D vwCl (mm_ws ad cs M) t.heap ∧ va_K D vwCl (mm_ty cs) t ∧ va_D A (mm_ws ad cs M)
theorem mm_blind (D : va_G) (cs : mm_K) (ad : Nat → Nat) (as : List Value) (M : mm_M) (sz : Nat) : FrameBlind (mm_Pc D cs ad as M sz) := by
  intro a U g mk h
  obtain ⟨h1, h2, h3, h4, h5, h6⟩ := h
  exact ⟨h1, h2, h3, va_K.moved (u := U) (U := U.calling g mk a) (Vm.Alike.refl U.vm) h4, h5, mm_RO.same (s := U) (U := U.calling g mk a) rfl h6⟩
variable {α : Type} {inj : α → Option Value × mm_M}
/-- the contract of j out of its 'Snd' -/
theorem mm_met {j : mm_J} {as : List Value} {M : mm_M} {x : α} (h : Snd inj j mm_X0 0 (as.map some) [] M (some x)) (hc : ∀ v ∈ as, v.category = 1) (hn : as.length ≤ j.2.2.1) (hp : plainName j.1.cls = true) (l : Launch) (D : va_G) (cs : mm_K) (ad : Nat → Nat) (sz : Nat) (Qc : Array Value → State → Outcome → State → Prop)
    (hQc : ∀ (s t : State) (H : Heap) (a : Array Value) (locs : List Loc), t.heap = H → s.WarmedH t.vm → s.heap.size = sz → va_K D vwCl (mm_ty cs) s → mm_W s D (va_A (mm_ws ad cs M) sz) cs ad (inj x).2 H locs → Qc a s (.returned (inj x).1) t)
    (hv : ∀ r, (inj x).1 = some (.ref r) → False) :
    Met l j.1 (mm_wd j) (mm_rm j (mG (inj x).2 - mG M)) (mm_Pc D cs ad as M sz) Qc (mG (inj x).2 - mG M) (6 * (mG (inj x).2 - mG M)) (va_A (mm_ws ad cs M) sz) := by
  refine Met.ofW (cc := j.2.1) (maxL := j.2.2.1) (ret := j.2.2.2.1) hp rfl ?_
  intro p e s m args below meth c s₁ B hml hpc
  obtain ⟨rfl, hsz, hP, hK, hD, hRO⟩ := hpc
  obtain ⟨g1, g2⟩ := h x rfl
  have hts := atoms_spec (ws := mm_wd j) B.pre
  rw [lg_entry_eq]
  have hl := lv_entry (as.map (mm_v ad)) (n := j.2.2.1) (by rw [mm_sl_len as hc]; exact hn)
  generalize (lg_sl (as.map (mm_v ad)) ++ List.replicate (j.2.2.1 - (lg_sl (as.map (mm_v ad))).length) Slot.unset).toArray = ls at hl ⊢
  subst hsz
  have hD' := hD.self (sz := s.heap.size)
  refine g2 p l e _ s m _ below meth c D (va_A (mm_ws ad cs M) s.heap.size) cs ad (mG M) 0 0 _ ⟨B.exec, B.bytes, hml, B.returns, fun w hw => hts w (List.mem_cons_of_mem _ hw), findClass_of_methodNamed B.named, B.notSynchronized, hK, fun q hq => Or.inr hq, hRO, Or.inl rfl, Nat.le_refl _, Nat.le_refl _⟩ (by show 0 + mG (inj x).2 ≤ (mG (inj x).2 - mG M) + mG M; omega) (by show 0 + 6 * mG (inj x).2 ≤ 6 * (mG (inj x).2 - mG M) + 6 * mG M; omega) ?_ s.heap [] 0 0 ls ⟨hP, hD', va_S.rf⟩ ⟨hl.1, hl.2.1, fun i v hv => ?_⟩ (by omega) (by omega)
  · intro H locs cells slots pc ls st hW hcc hss hE
    have e1 : cells = mG (inj x).2 - mG M := by omega
    have e2 : slots = 6 * (mG (inj x).2 - mG M) := by omega
    subst e1; subst e2
    have hlk : meth.locks = false := B.notSynchronized
    unfold mm_E at hE
    have hq : ∀ t : State, t.heap = H → s.WarmedH t.vm → Qc (as.map (mm_v ad)).toArray s (.returned (inj x).1) t := fun t ht hw => hQc s t H _ locs ht hw rfl hK hW
    generalize (inj x).1 = r at hE hq hv
    match r, hE with
    | none, ⟨hst, hd, hr⟩ =>
      subst hst
      exact W.vret B.exec B.bytes (B.returns.trans hr) hq hW.2.2.2.2 hd (hlocks := hlk)
    | some (.int v), ⟨hst, hd, ty, hr, hnr⟩ =>
      subst hst
      exact W.zret B.exec B.bytes (B.returns.trans hr) hnr hq hW.2.2.2.2 hd (hlocks := hlk)
    | some (.long v), ⟨hst, hd, hr⟩ =>
      subst hst
      exact W.lret B.exec B.bytes (B.returns.trans hr) hq hW.2.2.2.2 hd (hlocks := hlk)
  · rw [List.getElem?_map] at hv
    cases hi : as[i]? with
    | none => rw [hi] at hv; cases hv
    | some w =>
      rw [hi] at hv
      have e : w = v := by simpa using hv
      subst e
      have := mm_args_in (ad := ad) as 0 i w hc hi
      rw [Nat.zero_add] at this
      exact hl.2.2 _ this
/-- what a callee's name must have -/
def mm_cl (j : mm_J) (n : Nat) : Prop := Cond.code j.1 j.2.1 j.2.2.1 j.2.2.2.1 ∈ mm_tbl ∧ Cond.initialized j.1.cls ∈ mm_tbl ∧ (j.1.cls ≠ "java/lang/invoke/MethodHandle" ∧ j.1.cls ≠ "java/lang/invoke/VarHandle" ∧ (parseMethodDescriptor j.1.desc).map (fun d => d.parameters.length) = some n) ∧ plainName j.1.cls = true ∧ j.2.2.1 ≤ 17
variable {β : Type} {jnj : β → Option Value × mm_M} {j jc : mm_J} {X : mm_X} {pc idx n : Nat} {lo : List (Option Value)} {st0 st : List Value} {M : mm_M}
theorem mm_cat8 {ad : Nat → Nat} (h : (st.map fun v => v.category).sum ≤ 8) : ((st.map (mm_v ad)).map fun v => v.category).sum ≤ 8 := by
  rw [List.map_map]
  have e : st.map ((fun v : Value => v.category) ∘ mm_v ad) = st.map fun v => v.category := List.map_congr_left fun v _ => mm_v_cat ad v
  rw [e]; exact h
/-- how a call goes on: the callee's answer r on the stack -/
def mm_cont (jnj : β → Option Value × mm_M) (j : mm_J) (X : mm_X) (pc : Nat) (lo : List (Option Value)) (st : List Value) (inj : α → Option Value × mm_M) (ex : α → Option β) : Prop := ∀ x : α, Snd jnj j X (pc + 3) lo ((inj x).1.toList ++ st) (inj x).2 (ex x)
theorem mm_ret_v {ad : Nat → Nat} {r : Option Value} (h : ∀ k, r = some (.ref k) → False) : r.toList.map (mm_v ad) = r.toList := by
  cases r with
  | none => rfl
  | some v =>
    cases v with
    | ref k => exact (h k rfl).elim
    | _ => rfl
/-- a call, whatever its kind: 'run' is the kit's row of it -/
theorem mm_call {f : Option α} {ex : α → Option β} {As : List Value} (hf : Snd inj jc mm_X0 0 (As.map some) [] M f) (hv : ∀ (x : α) r, (inj x).1 = some (.ref r) → False) (hc : ∀ v ∈ As, v.category = 1) (hn : As.length ≤ jc.2.2.1) (hcl : mm_cl jc n) (hlv : jc.2.2.2.2 + 1 ≤ j.2.2.2.2) (k : ∀ x : α, f = some x → Snd jnj j X (pc + 3) lo ((inj x).1.toList ++ st) (inj x).2 (ex x))
    (run : ∀ (p : Program) (l : Launch) (e : Env) (R : Room) (s : State) (m : MethodId) (args : Array Value) (below : List Frame) (meth : Method) (c : Code) (D : va_G) (A : Nat → Prop) (cs : mm_K) (ad : Nat → Nat) (H : Heap) (locs : List Loc) (cells slots g : Nat) (ls : Array Slot) (Qc : Array Value → State → Outcome → State → Prop) (free : Nat → Prop),
      mm_C l j X p R s m args meth c D A cs ad → ls.size = j.2.2.1 → mm_W s D A cs ad M H locs → Met l jc.1 (mm_wd jc) (mm_rm jc g) (mm_Pc D cs ad As M H.size) Qc g (6 * g) free → (∀ U : State, U.heap = H → s.WarmedH U.vm → mm_Pc D cs ad As M H.size (As.map (mm_v ad)).toArray U) → cells + g ≤ R.cells → slots + 6 * g ≤ R.slots →
      va_Run p l e R s m args below meth c H locs cells slots g (6 * g) (F0 m pc ls (st0.map (mm_v ad))) (st.map (mm_v ad)) (Qc (As.map (mm_v ad)).toArray) free) : Snd jnj j X pc lo st0 M (f.bind ex) := by
  intro y hy
  cases hfx : f with
  | none => rw [hfx] at hy; cases hy
  | some x =>
    have hkx := k x hfx
    rw [hfx] at hy hf
    have hy : ex x = some y := hy
    obtain ⟨f1, -⟩ := hf x rfl
    obtain ⟨k1, k2⟩ := hkx y hy
    refine ⟨Nat.le_trans f1 k1, ?_⟩
    intro p l e R s m args below meth c D A cs ad g0 k0 s0 Q C b1 b2 hQ H locs cells slots ls hW hL hcc hss
    have hFr : ∀ q, va_A (mm_ws ad cs M) H.size q → A q := by
      intro q h
      rcases h with ⟨i, e, h⟩ | h
      · exact hW.2.1.2 i (q, e) h
      · exact C.2.2.2.2.2.2.2.2.1 q (Nat.le_trans hW.2.2.1 h)
    have hM := mm_met hf hc hn hcl.2.2.2.1 l D cs ad H.size (fun _ st oc t => (oc = .returned (inj x).1 ∧ mm_B D cs ad (va_A (mm_ws ad cs M) H.size) (inj x).2 () t) ∧ va_F (va_A (mm_ws ad cs M) H.size) st t) (fun s1 t H1 a locs1 ht hw hs1 hK1 hW1 => ⟨⟨rfl, by rw [ht]; exact hW1.1, va_K.moved hw.alike hK1, hW1.2.1⟩, hW1.2.2.F ht⟩) (hv x)
    have hr := run p l e R s m args below meth c D A cs ad H locs cells slots (mG (inj x).2 - mG M) ls _ _ C hL.1 hW hM (fun U hU hWm => ⟨rfl, by rw [hU], by rw [hU]; exact hW.1, va_K.moved hWm.alike C.2.2.2.2.2.2.2.1, hW.2.1.weaken (fun _ _ _ _ => trivial), by
      rw [hU]
      exact ((C.2.2.2.2.2.2.2.2.2.1.kept hW.2.2.2.1).narrow hFr).warm hWm⟩) (by omega) (by omega)
    intro T hT Xs
    obtain ⟨v, st₀, t, T', L, h0, X', hLl, e1, e2, ⟨⟨hv1, hB1, hB2, hB3⟩, hz, hk⟩, stp⟩ := hr T hT Xs
    have hv2 : v = (inj x).1 := by injection hv1
    subst hv2
    rw [h0] at hz hk
    have hS' : va_S A s.heap T'.heap (locs ++ L) := ⟨Nat.le_trans hW.2.2.1 (by rw [e1]; exact hz), fun q h1 h2 => by rw [e1, hk q (Nat.lt_of_lt_of_le h1 hW.2.2.1) (fun z => h2 (hFr q z))]; exact hW.2.2.2.1 q h1 h2, fun q hq => by
      rcases List.mem_append.mp hq with h | h
      · exact hW.2.2.2.2 q h
      · exact hFr _ (hLl q h)⟩
    obtain ⟨t2, a1, b3⟩ := k2 p l e R s m args below meth c D A cs ad g0 k0 s0 Q C b1 b2 hQ T'.heap (locs ++ L) (cells + (mG (inj x).2 - mG M)) (slots + 6 * (mG (inj x).2 - mG M)) ls ⟨by rw [e1]; exact hB1, hB3.weaken (fun _ q _ h => hFr q.1 h), hS'⟩ hL (by omega) (by omega) T' rfl X'
    rw [List.map_append, mm_ret_v (hv x)] at a1
    exact ⟨t2, stp t2 a1, b3⟩
theorem sn_callV {f : Option α} {ex : α → Option β} {b ci N : Nat} {T : u_T} {As : List Value} (hf : Snd inj jc mm_X0 0 ((.ref b :: As).map some) [] M f) (hv : ∀ (x : α) r, (inj x).1 = some (.ref r) → False) (hc : ∀ v ∈ Value.ref b :: As, v.category = 1) (hn : (Value.ref b :: As).length ≤ jc.2.2.1) (hcl : mm_cl jc n) (hAs : As.length = n) (hlv : jc.2.2.2.2 + 1 ≤ j.2.2.2.2)
    (hvc : vwCl[ci]? = some (jc.1.cls, T, N)) (hs : mm_sh b = (0, ci, N)) (hb : 0 < b ∧ b ≤ 62) (hl : Cond.methodLink j.1.cls idx jc.1 ∈ mm_tbl) (hin : Cond.instanceMethod jc.1 ∈ mm_tbl) (hse : Cond.selects jc.1.cls jc.1 jc.1 ∈ mm_tbl) (hst : st0 = As.reverse ++ .ref b :: st) (hr : (st.map fun v => v.category).sum ≤ 8) (hd : decode j.2.1 pc = .ok (.invokevirtual idx, 3)) (k : mm_cont jnj j X pc lo st inj ex) : Snd jnj j X pc lo st0 M (f.bind ex) := by
  refine mm_call hf hv hc hn hcl hlv (fun x _ => k x) ?_
  intro p l e R s m args below meth c D A cs ad H locs cells slots g ls Qc free C hls hWW hM hpc h1 h2
  have hts := C.2.2.2.2.1
  refine va_runV (C := jc.1.cls) (As := As.map (mm_v ad)) (rest := st.map (mm_v ad)) (b := ad b) (n := n) (Ts := mm_tbl) (own := j.1.cls) ⟨C.1, C.2.1, C.2.2.1, C.2.2.2.2.2.1, hts⟩ hM ⟨callB_of n hts (mm_goodC hcl.1) rfl rfl rfl (hts _ hcl.2.1) (hts _ hl) hcl.2.2.1 ⟨Nat.le_trans hlv C.2.2.2.2.2.2.2.2.2.2.2.1, ?_⟩, hts _ hin, hts _ hse⟩ ⟨mm_blind D cs ad _ M _, ?_, fun U hU hWm => hpc U hU hWm⟩ rfl (by rw [List.length_map]; exact hAs) hls ?_ (lv_room (mm_cat8 hr)) hd ⟨h1, h2⟩
  · have q1 := C.2.2.2.2.2.2.2.2.2.2.2.2
    have q2 := hcl.2.2.2.2
    show 8 + (jc.2.2.1 + 11) + 36 * jc.2.2.2.2 ≤ R.locals
    omega
  · exact va_recv (q := (jc.1.cls, T, N)) C.2.2.2.2.2.2.2.1 hWW.1 hvc (q0 := b - 1) (by rw [mm_get ad cs M hb, mm_e_obj ad cs M hs])
  · rw [hst]
    show List.map (mm_v ad) (As.reverse ++ Value.ref b :: st) = _
    rw [List.map_append, List.map_reverse]
    rfl
theorem sn_callS {f : Option α} {ex : α → Option β} {As : List Value} (hf : Snd inj jc mm_X0 0 (As.map some) [] M f) (hv : ∀ (x : α) r, (inj x).1 = some (.ref r) → False) (hc : ∀ v ∈ As, v.category = 1) (hn : As.length ≤ jc.2.2.1) (hcl : mm_cl jc n) (hAs : As.length = n) (hlv : jc.2.2.2.2 + 1 ≤ j.2.2.2.2)
    (hl : Cond.methodLink j.1.cls idx jc.1 ∈ mm_tbl) (hin : Cond.static jc.1 ∈ mm_tbl) (hst : st0 = As.reverse ++ st) (hr : (st.map fun v => v.category).sum ≤ 8) (hd : decode j.2.1 pc = .ok (.invokestatic idx, 3)) (k : mm_cont jnj j X pc lo st inj ex) : Snd jnj j X pc lo st0 M (f.bind ex) := by
  refine mm_call hf hv hc hn hcl hlv (fun x _ => k x) ?_
  intro p l e R s m args below meth c D A cs ad H locs cells slots g ls Qc free C hls hWW hM hpc h1 h2
  have hts := C.2.2.2.2.1
  refine va_runS (As := As.map (mm_v ad)) (rest := st.map (mm_v ad)) (n := n) (Ts := mm_tbl) (own := j.1.cls) ⟨C.1, C.2.1, C.2.2.1, C.2.2.2.2.2.1, hts⟩ hM ⟨callB_of n hts (mm_goodC hcl.1) rfl rfl rfl (hts _ hcl.2.1) (hts _ hl) hcl.2.2.1 ⟨Nat.le_trans hlv C.2.2.2.2.2.2.2.2.2.2.2.1, ?_⟩, hts _ hin⟩ ⟨mm_blind D cs ad _ M _, fun U hU hWm => hpc U hU hWm⟩ rfl (by rw [List.length_map]; exact hAs) hls ?_ (lv_room (mm_cat8 hr)) hd ⟨h1, h2⟩
  · have q1 := C.2.2.2.2.2.2.2.2.2.2.2.2
    have q2 := hcl.2.2.2.2
    show 8 + (jc.2.2.1 + 11) + 36 * jc.2.2.2.2 ≤ R.locals
    omega
  · rw [hst]
    show List.map (mm_v ad) (As.reverse ++ st) = _
    rw [List.map_append, List.map_reverse]
theorem mm_hvI : ∀ (x : Int32 × mm_M) r, (injI x).1 = some (.ref r) → False := fun x r h => by cases h
theorem mm_hvL : ∀ (x : Int64 × mm_M) r, (injL x).1 = some (.ref r) → False := fun x r h => by cases h
theorem mm_hvV : ∀ (x : mm_M) r, (injV x).1 = some (.ref r) → False := fun x r h => by cases h
def cI (f : Option (Int32 × mm_M)) (e : Int32 → mm_M → Option β) : Option β := f.bind (fun x => e x.1 x.2)
def cL (f : Option (Int64 × mm_M)) (e : Int64 → mm_M → Option β) : Option β := f.bind (fun x => e x.1 x.2)
def cV (f : Option mm_M) (e : mm_M → Option β) : Option β := f.bind e
end CALLRULES
end
