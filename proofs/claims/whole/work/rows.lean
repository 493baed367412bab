section
-- ===== PART A: goes FIRST, ahead of the names: the tables' words, and 'selects' of the private methods out of them =====
/-- a private method of a class that the tables say can be made, by its rows of tables_1 -/
def lw_okq (q : MethodName × Nat) : Prop := (q.1.cls ≠ "java/lang/invoke/MethodHandle" ∧ q.1.cls ≠ "java/lang/invoke/VarHandle") ∧ Cond.instantiable q.1.cls q.2 ∈ tables_1 ∧ Cond.privateMethod q.1 ∈ tables_1 ∧ Cond.instanceMethod q.1 ∈ tables_1
theorem lw_p0 : lw_okq (⟨"DepotCharge$Tape", "isDigit", "(I)Z"⟩, 6) := ⟨⟨by decide +kernel, by decide +kernel⟩, List.mem_of_getElem? (i := 98) (by decide +kernel), List.mem_of_getElem? (i := 319) (by decide +kernel), List.mem_of_getElem? (i := 320) (by decide +kernel)⟩
theorem lw_p1 : lw_okq (⟨"DepotCharge$Tape", "readNumber", "()V"⟩, 6) := ⟨⟨by decide +kernel, by decide +kernel⟩, List.mem_of_getElem? (i := 98) (by decide +kernel), List.mem_of_getElem? (i := 323) (by decide +kernel), List.mem_of_getElem? (i := 324) (by decide +kernel)⟩
theorem lw_p2 : lw_okq (⟨"DepotCharge$Tape", "isLetter", "(I)Z"⟩, 6) := ⟨⟨by decide +kernel, by decide +kernel⟩, List.mem_of_getElem? (i := 98) (by decide +kernel), List.mem_of_getElem? (i := 327) (by decide +kernel), List.mem_of_getElem? (i := 328) (by decide +kernel)⟩
theorem lw_p3 : lw_okq (⟨"DepotCharge$Tape", "readWord", "()V"⟩, 6) := ⟨⟨by decide +kernel, by decide +kernel⟩, List.mem_of_getElem? (i := 98) (by decide +kernel), List.mem_of_getElem? (i := 331) (by decide +kernel), List.mem_of_getElem? (i := 332) (by decide +kernel)⟩
theorem lw_p4 : lw_okq (⟨"DepotCharge$Reader", "readStatement", "(LDepotCharge$Depot;)V"⟩, 2) := ⟨⟨by decide +kernel, by decide +kernel⟩, List.mem_of_getElem? (i := 128) (by decide +kernel), List.mem_of_getElem? (i := 335) (by decide +kernel), List.mem_of_getElem? (i := 336) (by decide +kernel)⟩
theorem lw_p5 : lw_okq (⟨"DepotCharge$Reader", "readSlots", "(LDepotCharge$Depot;)V"⟩, 2) := ⟨⟨by decide +kernel, by decide +kernel⟩, List.mem_of_getElem? (i := 128) (by decide +kernel), List.mem_of_getElem? (i := 392) (by decide +kernel), List.mem_of_getElem? (i := 393) (by decide +kernel)⟩
theorem lw_p6 : lw_okq (⟨"DepotCharge$Reader", "readNumber", "(II)I"⟩, 2) := ⟨⟨by decide +kernel, by decide +kernel⟩, List.mem_of_getElem? (i := 128) (by decide +kernel), List.mem_of_getElem? (i := 397) (by decide +kernel), List.mem_of_getElem? (i := 398) (by decide +kernel)⟩
theorem lw_p7 : lw_okq (⟨"DepotCharge$Reader", "numberIsWithin", "(II)Z"⟩, 2) := ⟨⟨by decide +kernel, by decide +kernel⟩, List.mem_of_getElem? (i := 128) (by decide +kernel), List.mem_of_getElem? (i := 401) (by decide +kernel), List.mem_of_getElem? (i := 402) (by decide +kernel)⟩
theorem lw_p8 : lw_okq (⟨"DepotCharge$Reader", "blame", "(I)V"⟩, 2) := ⟨⟨by decide +kernel, by decide +kernel⟩, List.mem_of_getElem? (i := 128) (by decide +kernel), List.mem_of_getElem? (i := 405) (by decide +kernel), List.mem_of_getElem? (i := 406) (by decide +kernel)⟩
theorem lw_p9 : lw_okq (⟨"DepotCharge$Reader", "readPrice", "(LDepotCharge$Depot;)V"⟩, 2) := ⟨⟨by decide +kernel, by decide +kernel⟩, List.mem_of_getElem? (i := 128) (by decide +kernel), List.mem_of_getElem? (i := 414) (by decide +kernel), List.mem_of_getElem? (i := 415) (by decide +kernel)⟩
theorem lw_p10 : lw_okq (⟨"DepotCharge$Reader", "readSetting", "(LDepotCharge$Depot;I)V"⟩, 2) := ⟨⟨by decide +kernel, by decide +kernel⟩, List.mem_of_getElem? (i := 128) (by decide +kernel), List.mem_of_getElem? (i := 427) (by decide +kernel), List.mem_of_getElem? (i := 428) (by decide +kernel)⟩
theorem lw_p11 : lw_okq (⟨"DepotCharge$Reader", "readCurve", "(LDepotCharge$Depot;)V"⟩, 2) := ⟨⟨by decide +kernel, by decide +kernel⟩, List.mem_of_getElem? (i := 128) (by decide +kernel), List.mem_of_getElem? (i := 444) (by decide +kernel), List.mem_of_getElem? (i := 445) (by decide +kernel)⟩
theorem lw_p12 : lw_okq (⟨"DepotCharge$Reader", "readBus", "(LDepotCharge$Depot;)V"⟩, 2) := ⟨⟨by decide +kernel, by decide +kernel⟩, List.mem_of_getElem? (i := 128) (by decide +kernel), List.mem_of_getElem? (i := 453) (by decide +kernel), List.mem_of_getElem? (i := 454) (by decide +kernel)⟩
theorem lw_p13 : lw_okq (⟨"DepotCharge$Reader", "readCharge", "(LDepotCharge$Depot;)V"⟩, 2) := ⟨⟨by decide +kernel, by decide +kernel⟩, List.mem_of_getElem? (i := 128) (by decide +kernel), List.mem_of_getElem? (i := 476) (by decide +kernel), List.mem_of_getElem? (i := 477) (by decide +kernel)⟩
theorem lw_p14 : lw_okq (⟨"DepotCharge$Reader", "readSemicolon", "()V"⟩, 2) := ⟨⟨by decide +kernel, by decide +kernel⟩, List.mem_of_getElem? (i := 128) (by decide +kernel), List.mem_of_getElem? (i := 480) (by decide +kernel), List.mem_of_getElem? (i := 481) (by decide +kernel)⟩
theorem lw_p15 : lw_okq (⟨"DepotCharge$Ledger", "chargeSlot", "(LDepotCharge$Depot;II)I"⟩, 6) := ⟨⟨by decide +kernel, by decide +kernel⟩, List.mem_of_getElem? (i := 142) (by decide +kernel), List.mem_of_getElem? (i := 533) (by decide +kernel), List.mem_of_getElem? (i := 534) (by decide +kernel)⟩
def lw_privs_1 : List (MethodName × Nat) := [(⟨"DepotCharge$Tape", "isDigit", "(I)Z"⟩, 6), (⟨"DepotCharge$Tape", "readNumber", "()V"⟩, 6), (⟨"DepotCharge$Tape", "isLetter", "(I)Z"⟩, 6), (⟨"DepotCharge$Tape", "readWord", "()V"⟩, 6), (⟨"DepotCharge$Reader", "readStatement", "(LDepotCharge$Depot;)V"⟩, 2), (⟨"DepotCharge$Reader", "readSlots", "(LDepotCharge$Depot;)V"⟩, 2), (⟨"DepotCharge$Reader", "readNumber", "(II)I"⟩, 2), (⟨"DepotCharge$Reader", "numberIsWithin", "(II)Z"⟩, 2), (⟨"DepotCharge$Reader", "blame", "(I)V"⟩, 2), (⟨"DepotCharge$Reader", "readPrice", "(LDepotCharge$Depot;)V"⟩, 2), (⟨"DepotCharge$Reader", "readSetting", "(LDepotCharge$Depot;I)V"⟩, 2), (⟨"DepotCharge$Reader", "readCurve", "(LDepotCharge$Depot;)V"⟩, 2), (⟨"DepotCharge$Reader", "readBus", "(LDepotCharge$Depot;)V"⟩, 2), (⟨"DepotCharge$Reader", "readCharge", "(LDepotCharge$Depot;)V"⟩, 2), (⟨"DepotCharge$Reader", "readSemicolon", "()V"⟩, 2), (⟨"DepotCharge$Ledger", "chargeSlot", "(LDepotCharge$Depot;II)I"⟩, 6)]
theorem lw_r1 : ∀ q ∈ lw_privs_1, lw_okq q := List.forall_mem_cons.mpr ⟨lw_p0, List.forall_mem_cons.mpr ⟨lw_p1, List.forall_mem_cons.mpr ⟨lw_p2, List.forall_mem_cons.mpr ⟨lw_p3, List.forall_mem_cons.mpr ⟨lw_p4, List.forall_mem_cons.mpr ⟨lw_p5, List.forall_mem_cons.mpr ⟨lw_p6, List.forall_mem_cons.mpr ⟨lw_p7, List.forall_mem_cons.mpr ⟨lw_p8, List.forall_mem_cons.mpr ⟨lw_p9, List.forall_mem_cons.mpr ⟨lw_p10, List.forall_mem_cons.mpr ⟨lw_p11, List.forall_mem_cons.mpr ⟨lw_p12, List.forall_mem_cons.mpr ⟨lw_p13, List.forall_mem_cons.mpr ⟨lw_p14, List.forall_mem_cons.mpr ⟨lw_p15, fun _ h => absurd h List.not_mem_nil⟩⟩⟩⟩⟩⟩⟩⟩⟩⟩⟩⟩⟩⟩⟩⟩
theorem lw_p16 : lw_okq (⟨"DepotCharge$Ledger", "slotIsWrong", "(LDepotCharge$Depot;III)Z"⟩, 6) := ⟨⟨by decide +kernel, by decide +kernel⟩, List.mem_of_getElem? (i := 142) (by decide +kernel), List.mem_of_getElem? (i := 617) (by decide +kernel), List.mem_of_getElem? (i := 618) (by decide +kernel)⟩
theorem lw_p17 : lw_okq (⟨"DepotCharge", "findBest", "()V"⟩, 9) := ⟨⟨by decide +kernel, by decide +kernel⟩, List.mem_of_getElem? (i := 21) (by decide +kernel), List.mem_of_getElem? (i := 637) (by decide +kernel), List.mem_of_getElem? (i := 638) (by decide +kernel)⟩
theorem lw_p18 : lw_okq (⟨"DepotCharge$Planner", "traceAll", "()V"⟩, 19) := ⟨⟨by decide +kernel, by decide +kernel⟩, List.mem_of_getElem? (i := 171) (by decide +kernel), List.mem_of_getElem? (i := 651) (by decide +kernel), List.mem_of_getElem? (i := 652) (by decide +kernel)⟩
theorem lw_p19 : lw_okq (⟨"DepotCharge$Planner", "trace", "(I)V"⟩, 19) := ⟨⟨by decide +kernel, by decide +kernel⟩, List.mem_of_getElem? (i := 171) (by decide +kernel), List.mem_of_getElem? (i := 655) (by decide +kernel), List.mem_of_getElem? (i := 656) (by decide +kernel)⟩
theorem lw_p20 : lw_okq (⟨"DepotCharge$Planner", "mayBeReady", "()Z"⟩, 19) := ⟨⟨by decide +kernel, by decide +kernel⟩, List.mem_of_getElem? (i := 171) (by decide +kernel), List.mem_of_getElem? (i := 661) (by decide +kernel), List.mem_of_getElem? (i := 662) (by decide +kernel)⟩
theorem lw_p21 : lw_okq (⟨"DepotCharge$Planner", "weighStates", "(Z)Z"⟩, 19) := ⟨⟨by decide +kernel, by decide +kernel⟩, List.mem_of_getElem? (i := 171) (by decide +kernel), List.mem_of_getElem? (i := 665) (by decide +kernel), List.mem_of_getElem? (i := 666) (by decide +kernel)⟩
theorem lw_p22 : lw_okq (⟨"DepotCharge$Planner", "spread", "(IZ)I"⟩, 19) := ⟨⟨by decide +kernel, by decide +kernel⟩, List.mem_of_getElem? (i := 171) (by decide +kernel), List.mem_of_getElem? (i := 669) (by decide +kernel), List.mem_of_getElem? (i := 670) (by decide +kernel)⟩
theorem lw_p23 : lw_okq (⟨"DepotCharge$Planner", "lackHere", "()I"⟩, 19) := ⟨⟨by decide +kernel, by decide +kernel⟩, List.mem_of_getElem? (i := 171) (by decide +kernel), List.mem_of_getElem? (i := 674) (by decide +kernel), List.mem_of_getElem? (i := 675) (by decide +kernel)⟩
theorem lw_p24 : lw_okq (⟨"DepotCharge$Planner", "nextState", "()V"⟩, 19) := ⟨⟨by decide +kernel, by decide +kernel⟩, List.mem_of_getElem? (i := 171) (by decide +kernel), List.mem_of_getElem? (i := 680) (by decide +kernel), List.mem_of_getElem? (i := 681) (by decide +kernel)⟩
theorem lw_p25 : lw_okq (⟨"DepotCharge$Planner", "settle", "(I)V"⟩, 19) := ⟨⟨by decide +kernel, by decide +kernel⟩, List.mem_of_getElem? (i := 171) (by decide +kernel), List.mem_of_getElem? (i := 684) (by decide +kernel), List.mem_of_getElem? (i := 685) (by decide +kernel)⟩
theorem lw_p26 : lw_okq (⟨"DepotCharge", "adopt", "([I)I"⟩, 9) := ⟨⟨by decide +kernel, by decide +kernel⟩, List.mem_of_getElem? (i := 21) (by decide +kernel), List.mem_of_getElem? (i := 696) (by decide +kernel), List.mem_of_getElem? (i := 697) (by decide +kernel)⟩
theorem lw_p27 : lw_okq (⟨"DepotCharge", "costIfLate", "(II)I"⟩, 9) := ⟨⟨by decide +kernel, by decide +kernel⟩, List.mem_of_getElem? (i := 21) (by decide +kernel), List.mem_of_getElem? (i := 704) (by decide +kernel), List.mem_of_getElem? (i := 705) (by decide +kernel)⟩
theorem lw_p28 : lw_okq (⟨"DepotCharge", "costIfSet", "(II)I"⟩, 9) := ⟨⟨by decide +kernel, by decide +kernel⟩, List.mem_of_getElem? (i := 21) (by decide +kernel), List.mem_of_getElem? (i := 721) (by decide +kernel), List.mem_of_getElem? (i := 722) (by decide +kernel)⟩
theorem lw_p29 : lw_okq (⟨"DepotCharge", "firstReady", "(II)I"⟩, 9) := ⟨⟨by decide +kernel, by decide +kernel⟩, List.mem_of_getElem? (i := 21) (by decide +kernel), List.mem_of_getElem? (i := 730) (by decide +kernel), List.mem_of_getElem? (i := 731) (by decide +kernel)⟩
theorem lw_p30 : lw_okq (⟨"DepotCharge", "leastLimit", "()I"⟩, 9) := ⟨⟨by decide +kernel, by decide +kernel⟩, List.mem_of_getElem? (i := 21) (by decide +kernel), List.mem_of_getElem? (i := 738) (by decide +kernel), List.mem_of_getElem? (i := 739) (by decide +kernel)⟩
theorem lw_p31 : lw_okq (⟨"DepotCharge$Ruler", "chargeSlot", "(LDepotCharge$Depot;II)I"⟩, 3) := ⟨⟨by decide +kernel, by decide +kernel⟩, List.mem_of_getElem? (i := 239) (by decide +kernel), List.mem_of_getElem? (i := 758) (by decide +kernel), List.mem_of_getElem? (i := 759) (by decide +kernel)⟩
def lw_privs_2 : List (MethodName × Nat) := [(⟨"DepotCharge$Ledger", "slotIsWrong", "(LDepotCharge$Depot;III)Z"⟩, 6), (⟨"DepotCharge", "findBest", "()V"⟩, 9), (⟨"DepotCharge$Planner", "traceAll", "()V"⟩, 19), (⟨"DepotCharge$Planner", "trace", "(I)V"⟩, 19), (⟨"DepotCharge$Planner", "mayBeReady", "()Z"⟩, 19), (⟨"DepotCharge$Planner", "weighStates", "(Z)Z"⟩, 19), (⟨"DepotCharge$Planner", "spread", "(IZ)I"⟩, 19), (⟨"DepotCharge$Planner", "lackHere", "()I"⟩, 19), (⟨"DepotCharge$Planner", "nextState", "()V"⟩, 19), (⟨"DepotCharge$Planner", "settle", "(I)V"⟩, 19), (⟨"DepotCharge", "adopt", "([I)I"⟩, 9), (⟨"DepotCharge", "costIfLate", "(II)I"⟩, 9), (⟨"DepotCharge", "costIfSet", "(II)I"⟩, 9), (⟨"DepotCharge", "firstReady", "(II)I"⟩, 9), (⟨"DepotCharge", "leastLimit", "()I"⟩, 9), (⟨"DepotCharge$Ruler", "chargeSlot", "(LDepotCharge$Depot;II)I"⟩, 3)]
theorem lw_r2 : ∀ q ∈ lw_privs_2, lw_okq q := List.forall_mem_cons.mpr ⟨lw_p16, List.forall_mem_cons.mpr ⟨lw_p17, List.forall_mem_cons.mpr ⟨lw_p18, List.forall_mem_cons.mpr ⟨lw_p19, List.forall_mem_cons.mpr ⟨lw_p20, List.forall_mem_cons.mpr ⟨lw_p21, List.forall_mem_cons.mpr ⟨lw_p22, List.forall_mem_cons.mpr ⟨lw_p23, List.forall_mem_cons.mpr ⟨lw_p24, List.forall_mem_cons.mpr ⟨lw_p25, List.forall_mem_cons.mpr ⟨lw_p26, List.forall_mem_cons.mpr ⟨lw_p27, List.forall_mem_cons.mpr ⟨lw_p28, List.forall_mem_cons.mpr ⟨lw_p29, List.forall_mem_cons.mpr ⟨lw_p30, List.forall_mem_cons.mpr ⟨lw_p31, fun _ h => absurd h List.not_mem_nil⟩⟩⟩⟩⟩⟩⟩⟩⟩⟩⟩⟩⟩⟩⟩⟩
theorem lw_p32 : lw_okq (⟨"DepotCharge$Ruler", "rankOf", "(LDepotCharge$Depot;III)I"⟩, 3) := ⟨⟨by decide +kernel, by decide +kernel⟩, List.mem_of_getElem? (i := 239) (by decide +kernel), List.mem_of_getElem? (i := 763) (by decide +kernel), List.mem_of_getElem? (i := 764) (by decide +kernel)⟩
theorem lw_p33 : lw_okq (⟨"DepotCharge$Ruler", "firstOf", "(I)I"⟩, 3) := ⟨⟨by decide +kernel, by decide +kernel⟩, List.mem_of_getElem? (i := 239) (by decide +kernel), List.mem_of_getElem? (i := 769) (by decide +kernel), List.mem_of_getElem? (i := 770) (by decide +kernel)⟩
theorem lw_p34 : lw_okq (⟨"java/lang/Throwable", "fillInStackTrace", "(I)Ljava/lang/Throwable;"⟩, 6) := ⟨⟨by decide +kernel, by decide +kernel⟩, List.mem_of_getElem? (i := 827) (by decide +kernel), List.mem_of_getElem? (i := 825) (by decide +kernel), List.mem_of_getElem? (i := 826) (by decide +kernel)⟩
theorem lw_p35 : lw_okq (⟨"DepotChargeModel", "four", "(I)V"⟩, 27) := ⟨⟨by decide +kernel, by decide +kernel⟩, List.mem_of_getElem? (i := 856) (by decide +kernel), List.mem_of_getElem? (i := 953) (by decide +kernel), List.mem_of_getElem? (i := 954) (by decide +kernel)⟩
theorem lw_p36 : lw_okq (⟨"DepotChargeModel", "copies", "(Z)V"⟩, 27) := ⟨⟨by decide +kernel, by decide +kernel⟩, List.mem_of_getElem? (i := 856) (by decide +kernel), List.mem_of_getElem? (i := 968) (by decide +kernel), List.mem_of_getElem? (i := 969) (by decide +kernel)⟩
theorem lw_p37 : lw_okq (⟨"DepotChargeModel", "readText", "()Z"⟩, 27) := ⟨⟨by decide +kernel, by decide +kernel⟩, List.mem_of_getElem? (i := 856) (by decide +kernel), List.mem_of_getElem? (i := 972) (by decide +kernel), List.mem_of_getElem? (i := 973) (by decide +kernel)⟩
theorem lw_p38 : lw_okq (⟨"DepotChargeModel", "here", "()I"⟩, 27) := ⟨⟨by decide +kernel, by decide +kernel⟩, List.mem_of_getElem? (i := 856) (by decide +kernel), List.mem_of_getElem? (i := 976) (by decide +kernel), List.mem_of_getElem? (i := 977) (by decide +kernel)⟩
theorem lw_p39 : lw_okq (⟨"DepotChargeModel", "readStatement", "()Z"⟩, 27) := ⟨⟨by decide +kernel, by decide +kernel⟩, List.mem_of_getElem? (i := 856) (by decide +kernel), List.mem_of_getElem? (i := 980) (by decide +kernel), List.mem_of_getElem? (i := 981) (by decide +kernel)⟩
theorem lw_p40 : lw_okq (⟨"DepotChargeModel", "fails", "(II)Z"⟩, 27) := ⟨⟨by decide +kernel, by decide +kernel⟩, List.mem_of_getElem? (i := 856) (by decide +kernel), List.mem_of_getElem? (i := 984) (by decide +kernel), List.mem_of_getElem? (i := 985) (by decide +kernel)⟩
theorem lw_p41 : lw_okq (⟨"DepotChargeModel", "readWord", "()J"⟩, 27) := ⟨⟨by decide +kernel, by decide +kernel⟩, List.mem_of_getElem? (i := 856) (by decide +kernel), List.mem_of_getElem? (i := 988) (by decide +kernel), List.mem_of_getElem? (i := 989) (by decide +kernel)⟩
theorem lw_p42 : lw_okq (⟨"DepotChargeModel", "readSlots", "()Z"⟩, 27) := ⟨⟨by decide +kernel, by decide +kernel⟩, List.mem_of_getElem? (i := 856) (by decide +kernel), List.mem_of_getElem? (i := 996) (by decide +kernel), List.mem_of_getElem? (i := 997) (by decide +kernel)⟩
theorem lw_p43 : lw_okq (⟨"DepotChargeModel", "readNumber", "(II)Z"⟩, 27) := ⟨⟨by decide +kernel, by decide +kernel⟩, List.mem_of_getElem? (i := 856) (by decide +kernel), List.mem_of_getElem? (i := 1000) (by decide +kernel), List.mem_of_getElem? (i := 1001) (by decide +kernel)⟩
theorem lw_p44 : lw_okq (⟨"DepotChargeModel", "readPlain", "()Z"⟩, 27) := ⟨⟨by decide +kernel, by decide +kernel⟩, List.mem_of_getElem? (i := 856) (by decide +kernel), List.mem_of_getElem? (i := 1004) (by decide +kernel), List.mem_of_getElem? (i := 1005) (by decide +kernel)⟩
theorem lw_p45 : lw_okq (⟨"DepotChargeModel", "isNumber", "()Z"⟩, 27) := ⟨⟨by decide +kernel, by decide +kernel⟩, List.mem_of_getElem? (i := 856) (by decide +kernel), List.mem_of_getElem? (i := 1008) (by decide +kernel), List.mem_of_getElem? (i := 1009) (by decide +kernel)⟩
theorem lw_p46 : lw_okq (⟨"DepotChargeModel", "readPrice", "()Z"⟩, 27) := ⟨⟨by decide +kernel, by decide +kernel⟩, List.mem_of_getElem? (i := 856) (by decide +kernel), List.mem_of_getElem? (i := 1013) (by decide +kernel), List.mem_of_getElem? (i := 1014) (by decide +kernel)⟩
theorem lw_p47 : lw_okq (⟨"DepotChargeModel", "reads", "(III)Z"⟩, 27) := ⟨⟨by decide +kernel, by decide +kernel⟩, List.mem_of_getElem? (i := 856) (by decide +kernel), List.mem_of_getElem? (i := 1017) (by decide +kernel), List.mem_of_getElem? (i := 1018) (by decide +kernel)⟩
def lw_privs_3 : List (MethodName × Nat) := [(⟨"DepotCharge$Ruler", "rankOf", "(LDepotCharge$Depot;III)I"⟩, 3), (⟨"DepotCharge$Ruler", "firstOf", "(I)I"⟩, 3), (⟨"java/lang/Throwable", "fillInStackTrace", "(I)Ljava/lang/Throwable;"⟩, 6), (⟨"DepotChargeModel", "four", "(I)V"⟩, 27), (⟨"DepotChargeModel", "copies", "(Z)V"⟩, 27), (⟨"DepotChargeModel", "readText", "()Z"⟩, 27), (⟨"DepotChargeModel", "here", "()I"⟩, 27), (⟨"DepotChargeModel", "readStatement", "()Z"⟩, 27), (⟨"DepotChargeModel", "fails", "(II)Z"⟩, 27), (⟨"DepotChargeModel", "readWord", "()J"⟩, 27), (⟨"DepotChargeModel", "readSlots", "()Z"⟩, 27), (⟨"DepotChargeModel", "readNumber", "(II)Z"⟩, 27), (⟨"DepotChargeModel", "readPlain", "()Z"⟩, 27), (⟨"DepotChargeModel", "isNumber", "()Z"⟩, 27), (⟨"DepotChargeModel", "readPrice", "()Z"⟩, 27), (⟨"DepotChargeModel", "reads", "(III)Z"⟩, 27)]
theorem lw_r3 : ∀ q ∈ lw_privs_3, lw_okq q := List.forall_mem_cons.mpr ⟨lw_p32, List.forall_mem_cons.mpr ⟨lw_p33, List.forall_mem_cons.mpr ⟨lw_p34, List.forall_mem_cons.mpr ⟨lw_p35, List.forall_mem_cons.mpr ⟨lw_p36, List.forall_mem_cons.mpr ⟨lw_p37, List.forall_mem_cons.mpr ⟨lw_p38, List.forall_mem_cons.mpr ⟨lw_p39, List.forall_mem_cons.mpr ⟨lw_p40, List.forall_mem_cons.mpr ⟨lw_p41, List.forall_mem_cons.mpr ⟨lw_p42, List.forall_mem_cons.mpr ⟨lw_p43, List.forall_mem_cons.mpr ⟨lw_p44, List.forall_mem_cons.mpr ⟨lw_p45, List.forall_mem_cons.mpr ⟨lw_p46, List.forall_mem_cons.mpr ⟨lw_p47, fun _ h => absurd h List.not_mem_nil⟩⟩⟩⟩⟩⟩⟩⟩⟩⟩⟩⟩⟩⟩⟩⟩
theorem lw_p48 : lw_okq (⟨"DepotChargeModel", "readCurve", "(I)Z"⟩, 27) := ⟨⟨by decide +kernel, by decide +kernel⟩, List.mem_of_getElem? (i := 856) (by decide +kernel), List.mem_of_getElem? (i := 1025) (by decide +kernel), List.mem_of_getElem? (i := 1026) (by decide +kernel)⟩
theorem lw_p49 : lw_okq (⟨"DepotChargeModel", "readBus", "(I)Z"⟩, 27) := ⟨⟨by decide +kernel, by decide +kernel⟩, List.mem_of_getElem? (i := 856) (by decide +kernel), List.mem_of_getElem? (i := 1030) (by decide +kernel), List.mem_of_getElem? (i := 1031) (by decide +kernel)⟩
theorem lw_p50 : lw_okq (⟨"DepotChargeModel", "readCharge", "()Z"⟩, 27) := ⟨⟨by decide +kernel, by decide +kernel⟩, List.mem_of_getElem? (i := 856) (by decide +kernel), List.mem_of_getElem? (i := 1035) (by decide +kernel), List.mem_of_getElem? (i := 1036) (by decide +kernel)⟩
theorem lw_p51 : lw_okq (⟨"DepotChargeModel", "isSlot", "(I)Z"⟩, 27) := ⟨⟨by decide +kernel, by decide +kernel⟩, List.mem_of_getElem? (i := 856) (by decide +kernel), List.mem_of_getElem? (i := 1065) (by decide +kernel), List.mem_of_getElem? (i := 1066) (by decide +kernel)⟩
theorem lw_p52 : lw_okq (⟨"DepotChargeModel", "isBus", "(I)Z"⟩, 27) := ⟨⟨by decide +kernel, by decide +kernel⟩, List.mem_of_getElem? (i := 856) (by decide +kernel), List.mem_of_getElem? (i := 1069) (by decide +kernel), List.mem_of_getElem? (i := 1070) (by decide +kernel)⟩
theorem lw_p53 : lw_okq (⟨"DepotChargeModel", "chargesOf", "()I"⟩, 27) := ⟨⟨by decide +kernel, by decide +kernel⟩, List.mem_of_getElem? (i := 856) (by decide +kernel), List.mem_of_getElem? (i := 1077) (by decide +kernel), List.mem_of_getElem? (i := 1078) (by decide +kernel)⟩
theorem lw_p54 : lw_okq (⟨"DepotChargeModel", "of", "(II)I"⟩, 27) := ⟨⟨by decide +kernel, by decide +kernel⟩, List.mem_of_getElem? (i := 856) (by decide +kernel), List.mem_of_getElem? (i := 1092) (by decide +kernel), List.mem_of_getElem? (i := 1093) (by decide +kernel)⟩
theorem lw_p55 : lw_okq (⟨"DepotChargeModel", "asTold", "()V"⟩, 27) := ⟨⟨by decide +kernel, by decide +kernel⟩, List.mem_of_getElem? (i := 856) (by decide +kernel), List.mem_of_getElem? (i := 1104) (by decide +kernel), List.mem_of_getElem? (i := 1105) (by decide +kernel)⟩
theorem lw_p56 : lw_okq (⟨"DepotChargeModel", "takesOf", "(II)I"⟩, 27) := ⟨⟨by decide +kernel, by decide +kernel⟩, List.mem_of_getElem? (i := 856) (by decide +kernel), List.mem_of_getElem? (i := 1108) (by decide +kernel), List.mem_of_getElem? (i := 1109) (by decide +kernel)⟩
theorem lw_p57 : lw_okq (⟨"DepotChargeModel", "slotsOf", "(III)I"⟩, 27) := ⟨⟨by decide +kernel, by decide +kernel⟩, List.mem_of_getElem? (i := 856) (by decide +kernel), List.mem_of_getElem? (i := 1119) (by decide +kernel), List.mem_of_getElem? (i := 1120) (by decide +kernel)⟩
theorem lw_p58 : lw_okq (⟨"DepotChargeModel", "goesByTold", "()V"⟩, 27) := ⟨⟨by decide +kernel, by decide +kernel⟩, List.mem_of_getElem? (i := 856) (by decide +kernel), List.mem_of_getElem? (i := 1131) (by decide +kernel), List.mem_of_getElem? (i := 1132) (by decide +kernel)⟩
theorem lw_p59 : lw_okq (⟨"DepotChargeModel", "goes", "()V"⟩, 27) := ⟨⟨by decide +kernel, by decide +kernel⟩, List.mem_of_getElem? (i := 856) (by decide +kernel), List.mem_of_getElem? (i := 1135) (by decide +kernel), List.mem_of_getElem? (i := 1136) (by decide +kernel)⟩
theorem lw_p60 : lw_okq (⟨"DepotChargeModel", "isThere", "(II)Z"⟩, 27) := ⟨⟨by decide +kernel, by decide +kernel⟩, List.mem_of_getElem? (i := 856) (by decide +kernel), List.mem_of_getElem? (i := 1139) (by decide +kernel), List.mem_of_getElem? (i := 1140) (by decide +kernel)⟩
theorem lw_p61 : lw_okq (⟨"DepotChargeModel", "wrongOf", "()I"⟩, 27) := ⟨⟨by decide +kernel, by decide +kernel⟩, List.mem_of_getElem? (i := 856) (by decide +kernel), List.mem_of_getElem? (i := 1151) (by decide +kernel), List.mem_of_getElem? (i := 1152) (by decide +kernel)⟩
theorem lw_p62 : lw_okq (⟨"DepotChargeModel", "isAllThere", "(I)Z"⟩, 27) := ⟨⟨by decide +kernel, by decide +kernel⟩, List.mem_of_getElem? (i := 856) (by decide +kernel), List.mem_of_getElem? (i := 1155) (by decide +kernel), List.mem_of_getElem? (i := 1156) (by decide +kernel)⟩
theorem lw_p63 : lw_okq (⟨"DepotChargeModel", "lackOf", "(I)I"⟩, 27) := ⟨⟨by decide +kernel, by decide +kernel⟩, List.mem_of_getElem? (i := 856) (by decide +kernel), List.mem_of_getElem? (i := 1159) (by decide +kernel), List.mem_of_getElem? (i := 1160) (by decide +kernel)⟩
def lw_privs_4 : List (MethodName × Nat) := [(⟨"DepotChargeModel", "readCurve", "(I)Z"⟩, 27), (⟨"DepotChargeModel", "readBus", "(I)Z"⟩, 27), (⟨"DepotChargeModel", "readCharge", "()Z"⟩, 27), (⟨"DepotChargeModel", "isSlot", "(I)Z"⟩, 27), (⟨"DepotChargeModel", "isBus", "(I)Z"⟩, 27), (⟨"DepotChargeModel", "chargesOf", "()I"⟩, 27), (⟨"DepotChargeModel", "of", "(II)I"⟩, 27), (⟨"DepotChargeModel", "asTold", "()V"⟩, 27), (⟨"DepotChargeModel", "takesOf", "(II)I"⟩, 27), (⟨"DepotChargeModel", "slotsOf", "(III)I"⟩, 27), (⟨"DepotChargeModel", "goesByTold", "()V"⟩, 27), (⟨"DepotChargeModel", "goes", "()V"⟩, 27), (⟨"DepotChargeModel", "isThere", "(II)Z"⟩, 27), (⟨"DepotChargeModel", "wrongOf", "()I"⟩, 27), (⟨"DepotChargeModel", "isAllThere", "(I)Z"⟩, 27), (⟨"DepotChargeModel", "lackOf", "(I)I"⟩, 27)]
theorem lw_r4 : ∀ q ∈ lw_privs_4, lw_okq q := List.forall_mem_cons.mpr ⟨lw_p48, List.forall_mem_cons.mpr ⟨lw_p49, List.forall_mem_cons.mpr ⟨lw_p50, List.forall_mem_cons.mpr ⟨lw_p51, List.forall_mem_cons.mpr ⟨lw_p52, List.forall_mem_cons.mpr ⟨lw_p53, List.forall_mem_cons.mpr ⟨lw_p54, List.forall_mem_cons.mpr ⟨lw_p55, List.forall_mem_cons.mpr ⟨lw_p56, List.forall_mem_cons.mpr ⟨lw_p57, List.forall_mem_cons.mpr ⟨lw_p58, List.forall_mem_cons.mpr ⟨lw_p59, List.forall_mem_cons.mpr ⟨lw_p60, List.forall_mem_cons.mpr ⟨lw_p61, List.forall_mem_cons.mpr ⟨lw_p62, List.forall_mem_cons.mpr ⟨lw_p63, fun _ h => absurd h List.not_mem_nil⟩⟩⟩⟩⟩⟩⟩⟩⟩⟩⟩⟩⟩⟩⟩⟩
theorem lw_p64 : lw_okq (⟨"DepotChargeModel", "sumOf", "(I)I"⟩, 27) := ⟨⟨by decide +kernel, by decide +kernel⟩, List.mem_of_getElem? (i := 856) (by decide +kernel), List.mem_of_getElem? (i := 1163) (by decide +kernel), List.mem_of_getElem? (i := 1164) (by decide +kernel)⟩
theorem lw_p65 : lw_okq (⟨"DepotChargeModel", "finds", "()V"⟩, 27) := ⟨⟨by decide +kernel, by decide +kernel⟩, List.mem_of_getElem? (i := 856) (by decide +kernel), List.mem_of_getElem? (i := 1175) (by decide +kernel), List.mem_of_getElem? (i := 1176) (by decide +kernel)⟩
theorem lw_p66 : lw_okq (⟨"DepotChargeModel", "laysFull", "()V"⟩, 27) := ⟨⟨by decide +kernel, by decide +kernel⟩, List.mem_of_getElem? (i := 856) (by decide +kernel), List.mem_of_getElem? (i := 1179) (by decide +kernel), List.mem_of_getElem? (i := 1180) (by decide +kernel)⟩
theorem lw_p67 : lw_okq (⟨"DepotChargeModel", "mayBe", "(II)Z"⟩, 27) := ⟨⟨by decide +kernel, by decide +kernel⟩, List.mem_of_getElem? (i := 856) (by decide +kernel), List.mem_of_getElem? (i := 1183) (by decide +kernel), List.mem_of_getElem? (i := 1184) (by decide +kernel)⟩
theorem lw_p68 : lw_okq (⟨"DepotChargeModel", "laysEnd", "(I)V"⟩, 27) := ⟨⟨by decide +kernel, by decide +kernel⟩, List.mem_of_getElem? (i := 856) (by decide +kernel), List.mem_of_getElem? (i := 1190) (by decide +kernel), List.mem_of_getElem? (i := 1191) (by decide +kernel)⟩
theorem lw_p69 : lw_okq (⟨"DepotChargeModel", "laysSlot", "(II)V"⟩, 27) := ⟨⟨by decide +kernel, by decide +kernel⟩, List.mem_of_getElem? (i := 856) (by decide +kernel), List.mem_of_getElem? (i := 1194) (by decide +kernel), List.mem_of_getElem? (i := 1195) (by decide +kernel)⟩
theorem lw_p70 : lw_okq (⟨"DepotChargeModel", "taken", "(III)I"⟩, 27) := ⟨⟨by decide +kernel, by decide +kernel⟩, List.mem_of_getElem? (i := 856) (by decide +kernel), List.mem_of_getElem? (i := 1198) (by decide +kernel), List.mem_of_getElem? (i := 1199) (by decide +kernel)⟩
theorem lw_p71 : lw_okq (⟨"DepotChargeModel", "behind", "(II)I"⟩, 27) := ⟨⟨by decide +kernel, by decide +kernel⟩, List.mem_of_getElem? (i := 856) (by decide +kernel), List.mem_of_getElem? (i := 1202) (by decide +kernel), List.mem_of_getElem? (i := 1203) (by decide +kernel)⟩
theorem lw_p72 : lw_okq (⟨"DepotChargeModel", "laysBest", "()V"⟩, 27) := ⟨⟨by decide +kernel, by decide +kernel⟩, List.mem_of_getElem? (i := 856) (by decide +kernel), List.mem_of_getElem? (i := 1206) (by decide +kernel), List.mem_of_getElem? (i := 1207) (by decide +kernel)⟩
theorem lw_p73 : lw_okq (⟨"DepotChargeModel", "stands", "()I"⟩, 27) := ⟨⟨by decide +kernel, by decide +kernel⟩, List.mem_of_getElem? (i := 856) (by decide +kernel), List.mem_of_getElem? (i := 1214) (by decide +kernel), List.mem_of_getElem? (i := 1215) (by decide +kernel)⟩
theorem lw_p74 : lw_okq (⟨"DepotChargeModel", "costNow", "()I"⟩, 27) := ⟨⟨by decide +kernel, by decide +kernel⟩, List.mem_of_getElem? (i := 856) (by decide +kernel), List.mem_of_getElem? (i := 1222) (by decide +kernel), List.mem_of_getElem? (i := 1223) (by decide +kernel)⟩
theorem lw_p75 : lw_okq (⟨"DepotChargeModel", "lays", "(II)V"⟩, 27) := ⟨⟨by decide +kernel, by decide +kernel⟩, List.mem_of_getElem? (i := 856) (by decide +kernel), List.mem_of_getElem? (i := 1234) (by decide +kernel), List.mem_of_getElem? (i := 1235) (by decide +kernel)⟩
theorem lw_p76 : lw_okq (⟨"DepotChargeModel", "rules", "(I)V"⟩, 27) := ⟨⟨by decide +kernel, by decide +kernel⟩, List.mem_of_getElem? (i := 856) (by decide +kernel), List.mem_of_getElem? (i := 1250) (by decide +kernel), List.mem_of_getElem? (i := 1251) (by decide +kernel)⟩
theorem lw_p77 : lw_okq (⟨"DepotChargeModel", "setBy", "(II)I"⟩, 27) := ⟨⟨by decide +kernel, by decide +kernel⟩, List.mem_of_getElem? (i := 856) (by decide +kernel), List.mem_of_getElem? (i := 1254) (by decide +kernel), List.mem_of_getElem? (i := 1255) (by decide +kernel)⟩
theorem lw_p78 : lw_okq (⟨"DepotChargeModel", "rankOf", "(III)I"⟩, 27) := ⟨⟨by decide +kernel, by decide +kernel⟩, List.mem_of_getElem? (i := 856) (by decide +kernel), List.mem_of_getElem? (i := 1258) (by decide +kernel), List.mem_of_getElem? (i := 1259) (by decide +kernel)⟩
def lw_privs_5 : List (MethodName × Nat) := [(⟨"DepotChargeModel", "sumOf", "(I)I"⟩, 27), (⟨"DepotChargeModel", "finds", "()V"⟩, 27), (⟨"DepotChargeModel", "laysFull", "()V"⟩, 27), (⟨"DepotChargeModel", "mayBe", "(II)Z"⟩, 27), (⟨"DepotChargeModel", "laysEnd", "(I)V"⟩, 27), (⟨"DepotChargeModel", "laysSlot", "(II)V"⟩, 27), (⟨"DepotChargeModel", "taken", "(III)I"⟩, 27), (⟨"DepotChargeModel", "behind", "(II)I"⟩, 27), (⟨"DepotChargeModel", "laysBest", "()V"⟩, 27), (⟨"DepotChargeModel", "stands", "()I"⟩, 27), (⟨"DepotChargeModel", "costNow", "()I"⟩, 27), (⟨"DepotChargeModel", "lays", "(II)V"⟩, 27), (⟨"DepotChargeModel", "rules", "(I)V"⟩, 27), (⟨"DepotChargeModel", "setBy", "(II)I"⟩, 27), (⟨"DepotChargeModel", "rankOf", "(III)I"⟩, 27)]
theorem lw_r5 : ∀ q ∈ lw_privs_5, lw_okq q := List.forall_mem_cons.mpr ⟨lw_p64, List.forall_mem_cons.mpr ⟨lw_p65, List.forall_mem_cons.mpr ⟨lw_p66, List.forall_mem_cons.mpr ⟨lw_p67, List.forall_mem_cons.mpr ⟨lw_p68, List.forall_mem_cons.mpr ⟨lw_p69, List.forall_mem_cons.mpr ⟨lw_p70, List.forall_mem_cons.mpr ⟨lw_p71, List.forall_mem_cons.mpr ⟨lw_p72, List.forall_mem_cons.mpr ⟨lw_p73, List.forall_mem_cons.mpr ⟨lw_p74, List.forall_mem_cons.mpr ⟨lw_p75, List.forall_mem_cons.mpr ⟨lw_p76, List.forall_mem_cons.mpr ⟨lw_p77, List.forall_mem_cons.mpr ⟨lw_p78, fun _ h => absurd h List.not_mem_nil⟩⟩⟩⟩⟩⟩⟩⟩⟩⟩⟩⟩⟩⟩⟩
def lw_privs : List (MethodName × Nat) := lw_privs_1 ++ (lw_privs_2 ++ (lw_privs_3 ++ (lw_privs_4 ++ (lw_privs_5))))
def lw_tbl : List Cond := k2_sels lw_privs ++ tables_1
theorem lw_privs_ok : ∀ q ∈ lw_privs, lw_okq q := by
  show ∀ q ∈ lw_privs_1 ++ (lw_privs_2 ++ (lw_privs_3 ++ (lw_privs_4 ++ (lw_privs_5)))), lw_okq q
  exact List.forall_mem_append.mpr ⟨lw_r1, List.forall_mem_append.mpr ⟨lw_r2, List.forall_mem_append.mpr ⟨lw_r3, List.forall_mem_append.mpr ⟨lw_r4, lw_r5⟩⟩⟩⟩
end
section
def RX0 : String := "DepotCharge$Depot"
def TX0 : u_T := fun k => match k with
  | 0 => ("DepotCharge$Depot", "slotCount", "I", false)
  | 1 => ("DepotCharge$Depot", "curveCount", "I", false)
  | 2 => ("DepotCharge$Depot", "busCount", "I", false)
  | 3 => ("DepotCharge$Depot", "settings", "[I", true)
  | 4 => ("DepotCharge$Depot", "prices", "[I", true)
  | 5 => ("DepotCharge$Depot", "sets", "[I", true)
  | 6 => ("DepotCharge$Depot", "pieceCounts", "[I", true)
  | 7 => ("DepotCharge$Depot", "froms", "[I", true)
  | 8 => ("DepotCharge$Depot", "rates", "[I", true)
  | 9 => ("DepotCharge$Depot", "facts", "[I", true)
  | _ => ("DepotCharge$Depot", "offered", "[I", true)
def tyX0 : Nat → FieldType := fun k => match k with
  | 0 => .int
  | 1 => .int
  | 2 => .int
  | 3 => .array .int
  | 4 => .array .int
  | 5 => .array .int
  | 6 => .array .int
  | 7 => .array .int
  | 8 => .array .int
  | 9 => .array .int
  | _ => .array .int
abbrev wsX00 : List Cond := u_ws RX0 TX0 11
theorem nmX0 : ∀ a, a < 11 → ∀ b, b < 11 → a ≠ b → (TX0 a).2.1 ≠ (TX0 b).2.1 := by decide +kernel
theorem tyX0_ok : ∀ k, k < 11 → parseFieldDescriptor (TX0 k).2.2.1 = some (tyX0 k) := by decide +kernel
abbrev cX0_init : ByteArray := prog_2_method_1_code
def yX0_init : MethodName := ⟨RX0, "<init>", "()V"⟩
abbrev cX0_copyFrom : ByteArray := prog_2_method_2_code
def yX0_copyFrom : MethodName := ⟨RX0, "copyFrom", "(LDepotCharge$Depot;)V"⟩
abbrev cX0_beginAnew : ByteArray := prog_2_method_3_code
def yX0_beginAnew : MethodName := ⟨RX0, "beginAnew", "(I)V"⟩
abbrev cX0_hasSlot : ByteArray := prog_2_method_4_code
def yX0_hasSlot : MethodName := ⟨RX0, "hasSlot", "(I)Z"⟩
abbrev cX0_hasBus : ByteArray := prog_2_method_5_code
def yX0_hasBus : MethodName := ⟨RX0, "hasBus", "(I)Z"⟩
abbrev cX0_hasCurve : ByteArray := prog_2_method_6_code
def yX0_hasCurve : MethodName := ⟨RX0, "hasCurve", "(I)Z"⟩
abbrev cX0_hasLevel : ByteArray := prog_2_method_7_code
def yX0_hasLevel : MethodName := ⟨RX0, "hasLevel", "(II)Z"⟩
abbrev cX0_fact : ByteArray := prog_2_method_8_code
def yX0_fact : MethodName := ⟨RX0, "fact", "(II)I"⟩
abbrev cX0_isThere : ByteArray := prog_2_method_9_code
def yX0_isThere : MethodName := ⟨RX0, "isThere", "(II)Z"⟩
abbrev cX0_settingCanBe : ByteArray := prog_2_method_10_code
def yX0_settingCanBe : MethodName := ⟨RX0, "settingCanBe", "(II)Z"⟩
abbrev cX0_changeSetting : ByteArray := prog_2_method_11_code
def yX0_changeSetting : MethodName := ⟨RX0, "changeSetting", "(II)Z"⟩
abbrev cX0_changePrice : ByteArray := prog_2_method_12_code
def yX0_changePrice : MethodName := ⟨RX0, "changePrice", "(II)Z"⟩
abbrev cX0_offer : ByteArray := prog_2_method_13_code
def yX0_offer : MethodName := ⟨RX0, "offer", "(II)Z"⟩
abbrev cX0_leastOffer : ByteArray := prog_2_method_14_code
def yX0_leastOffer : MethodName := ⟨RX0, "leastOffer", "(I)I"⟩
abbrev cX0_mostOffer : ByteArray := prog_2_method_15_code
def yX0_mostOffer : MethodName := ⟨RX0, "mostOffer", "(I)I"⟩
abbrev cX0_addOffered : ByteArray := prog_2_method_16_code
def yX0_addOffered : MethodName := ⟨RX0, "addOffered", "()V"⟩
abbrev cX0_removeLast : ByteArray := prog_2_method_17_code
def yX0_removeLast : MethodName := ⟨RX0, "removeLast", "()V"⟩
abbrev cX0_addPiece : ByteArray := prog_2_method_18_code
def yX0_addPiece : MethodName := ⟨RX0, "addPiece", "(III)V"⟩
abbrev cX0_gain : ByteArray := prog_2_method_19_code
def yX0_gain : MethodName := ⟨RX0, "gain", "(III)I"⟩
abbrev cX0_fewestCharges : ByteArray := prog_2_method_20_code
def yX0_fewestCharges : MethodName := ⟨RX0, "fewestCharges", "(III)I"⟩
abbrev cX0_topRate : ByteArray := prog_2_method_21_code
def yX0_topRate : MethodName := ⟨RX0, "topRate", "()I"⟩
def RX1 : String := "DepotCharge$Ledger"
def TX1 : u_T := fun k => match k with
  | 0 => ("DepotCharge$Ledger", "levels", "[I", true)
  | 1 => ("DepotCharge$Ledger", "usedBySlot", "[I", true)
  | 2 => ("DepotCharge$Ledger", "cost", "I", false)
  | 3 => ("DepotCharge$Ledger", "charges", "I", false)
  | 4 => ("DepotCharge$Ledger", "allLack", "I", false)
  | _ => ("DepotCharge$Ledger", "peak", "I", false)
def tyX1 : Nat → FieldType := fun k => match k with
  | 0 => .array .int
  | 1 => .array .int
  | 2 => .int
  | 3 => .int
  | 4 => .int
  | _ => .int
abbrev wsX10 : List Cond := u_ws RX1 TX1 6
theorem nmX1 : ∀ a, a < 6 → ∀ b, b < 6 → a ≠ b → (TX1 a).2.1 ≠ (TX1 b).2.1 := by decide +kernel
theorem tyX1_ok : ∀ k, k < 6 → parseFieldDescriptor (TX1 k).2.2.1 = some (tyX1 k) := by decide +kernel
abbrev cX1_init : ByteArray := prog_3_method_1_code
def yX1_init : MethodName := ⟨RX1, "<init>", "()V"⟩
abbrev cX1_weigh : ByteArray := prog_3_method_2_code
def yX1_weigh : MethodName := ⟨RX1, "weigh", "(LDepotCharge$Depot;[I)V"⟩
abbrev cX1_chargeSlot : ByteArray := prog_3_method_3_code
def yX1_chargeSlot : MethodName := ⟨RX1, "chargeSlot", "(LDepotCharge$Depot;II)I"⟩
abbrev cX1_levelAt : ByteArray := prog_3_method_4_code
def yX1_levelAt : MethodName := ⟨RX1, "levelAt", "(II)I"⟩
abbrev cX1_lackOf : ByteArray := prog_3_method_5_code
def yX1_lackOf : MethodName := ⟨RX1, "lackOf", "(LDepotCharge$Depot;I)I"⟩
abbrev cX1_figure : ByteArray := prog_3_method_6_code
def yX1_figure : MethodName := ⟨RX1, "figure", "(I)I"⟩
abbrev cX1_wrongness : ByteArray := prog_3_method_7_code
def yX1_wrongness : MethodName := ⟨RX1, "wrongness", "(LDepotCharge$Depot;[I)I"⟩
abbrev cX1_slotIsWrong : ByteArray := prog_3_method_8_code
def yX1_slotIsWrong : MethodName := ⟨RX1, "slotIsWrong", "(LDepotCharge$Depot;III)Z"⟩
abbrev cX1_holdsAbsent : ByteArray := prog_3_method_9_code
def yX1_holdsAbsent : MethodName := ⟨RX1, "holdsAbsent", "(LDepotCharge$Depot;II)Z"⟩
def RX2 : String := "DepotCharge$Planner"
def TX2 : u_T := fun k => match k with
  | 0 => ("DepotCharge$Planner", "settings", "[I", true)
  | 1 => ("DepotCharge$Planner", "comes", "[I", true)
  | 2 => ("DepotCharge$Planner", "wanted", "I", false)
  | 3 => ("DepotCharge$Planner", "depot", "LDepotCharge$Depot;", false)
  | 4 => ("DepotCharge$Planner", "stay", "[I", true)
  | 5 => ("DepotCharge$Planner", "most", "[I", true)
  | 6 => ("DepotCharge$Planner", "gains", "[I", true)
  | 7 => ("DepotCharge$Planner", "lacks", "[I", true)
  | 8 => ("DepotCharge$Planner", "shift", "[I", true)
  | 9 => ("DepotCharge$Planner", "worth", "[J", true)
  | 10 => ("DepotCharge$Planner", "choices", "[I", true)
  | 11 => ("DepotCharge$Planner", "at", "[I", true)
  | 12 => ("DepotCharge$Planner", "low", "[I", true)
  | 13 => ("DepotCharge$Planner", "high", "[I", true)
  | 14 => ("DepotCharge$Planner", "due", "[I", true)
  | 15 => ("DepotCharge$Planner", "state", "I", false)
  | 16 => ("DepotCharge$Planner", "charged", "I", false)
  | 17 => ("DepotCharge$Planner", "there", "I", false)
  | _ => ("DepotCharge$Planner", "usedBySet", "[I", true)
def tyX2 : Nat → FieldType := fun k => match k with
  | 0 => .array .int
  | 1 => .array .int
  | 2 => .int
  | 3 => .object "DepotCharge$Depot"
  | 4 => .array .int
  | 5 => .array .int
  | 6 => .array .int
  | 7 => .array .int
  | 8 => .array .int
  | 9 => .array .long
  | 10 => .array .int
  | 11 => .array .int
  | 12 => .array .int
  | 13 => .array .int
  | 14 => .array .int
  | 15 => .int
  | 16 => .int
  | 17 => .int
  | _ => .array .int
abbrev wsX20 : List Cond := u_ws RX2 TX2 19
theorem nmX2 : ∀ a, a < 19 → ∀ b, b < 19 → a ≠ b → (TX2 a).2.1 ≠ (TX2 b).2.1 := by decide +kernel
theorem tyX2_ok : ∀ k, k < 19 → parseFieldDescriptor (TX2 k).2.2.1 = some (tyX2 k) := by decide +kernel
abbrev cX2_init : ByteArray := prog_4_method_1_code
def yX2_init : MethodName := ⟨RX2, "<init>", "(LDepotCharge$Depot;)V"⟩
abbrev cX2_lookAt : ByteArray := prog_4_method_2_code
def yX2_lookAt : MethodName := ⟨RX2, "lookAt", "(LDepotCharge$Depot;)V"⟩
abbrev cX2_costIfReady : ByteArray := prog_4_method_3_code
def yX2_costIfReady : MethodName := ⟨RX2, "costIfReady", "()I"⟩
abbrev cX2_findPlan : ByteArray := prog_4_method_4_code
def yX2_findPlan : MethodName := ⟨RX2, "findPlan", "([I)V"⟩
abbrev cX2_traceAll : ByteArray := prog_4_method_5_code
def yX2_traceAll : MethodName := ⟨RX2, "traceAll", "()V"⟩
abbrev cX2_trace : ByteArray := prog_4_method_6_code
def yX2_trace : MethodName := ⟨RX2, "trace", "(I)V"⟩
abbrev cX2_mayBeReady : ByteArray := prog_4_method_7_code
def yX2_mayBeReady : MethodName := ⟨RX2, "mayBeReady", "()Z"⟩
abbrev cX2_weighStates : ByteArray := prog_4_method_8_code
def yX2_weighStates : MethodName := ⟨RX2, "weighStates", "(Z)Z"⟩
abbrev cX2_spread : ByteArray := prog_4_method_9_code
def yX2_spread : MethodName := ⟨RX2, "spread", "(IZ)I"⟩
abbrev cX2_nextState : ByteArray := prog_4_method_10_code
def yX2_nextState : MethodName := ⟨RX2, "nextState", "()V"⟩
abbrev cX2_lackHere : ByteArray := prog_4_method_11_code
def yX2_lackHere : MethodName := ⟨RX2, "lackHere", "()I"⟩
abbrev cX2_settle : ByteArray := prog_4_method_12_code
def yX2_settle : MethodName := ⟨RX2, "settle", "(I)V"⟩
def RX3 : String := "DepotCharge$Reader"
def TX3 : u_T := fun k => match k with
  | 0 => ("DepotCharge$Reader", "tape", "LDepotCharge$Tape;", true)
  | _ => ("DepotCharge$Reader", "fault", "I", false)
def tyX3 : Nat → FieldType := fun k => match k with
  | 0 => .object "DepotCharge$Tape"
  | _ => .int
abbrev wsX30 : List Cond := u_ws RX3 TX3 2
theorem nmX3 : ∀ a, a < 2 → ∀ b, b < 2 → a ≠ b → (TX3 a).2.1 ≠ (TX3 b).2.1 := by decide +kernel
theorem tyX3_ok : ∀ k, k < 2 → parseFieldDescriptor (TX3 k).2.2.1 = some (tyX3 k) := by decide +kernel
abbrev cX3_init : ByteArray := prog_5_method_1_code
def yX3_init : MethodName := ⟨RX3, "<init>", "(LDepotCharge$Tape;)V"⟩
abbrev cX3_readInto : ByteArray := prog_5_method_2_code
def yX3_readInto : MethodName := ⟨RX3, "readInto", "(LDepotCharge$Depot;)I"⟩
abbrev cX3_blame : ByteArray := prog_5_method_3_code
def yX3_blame : MethodName := ⟨RX3, "blame", "(I)V"⟩
abbrev cX3_readStatement : ByteArray := prog_5_method_4_code
def yX3_readStatement : MethodName := ⟨RX3, "readStatement", "(LDepotCharge$Depot;)V"⟩
abbrev cX3_readSemicolon : ByteArray := prog_5_method_5_code
def yX3_readSemicolon : MethodName := ⟨RX3, "readSemicolon", "()V"⟩
abbrev cX3_numberIsWithin : ByteArray := prog_5_method_6_code
def yX3_numberIsWithin : MethodName := ⟨RX3, "numberIsWithin", "(II)Z"⟩
abbrev cX3_readNumber : ByteArray := prog_5_method_7_code
def yX3_readNumber : MethodName := ⟨RX3, "readNumber", "(II)I"⟩
abbrev cX3_readSlots : ByteArray := prog_5_method_8_code
def yX3_readSlots : MethodName := ⟨RX3, "readSlots", "(LDepotCharge$Depot;)V"⟩
abbrev cX3_readPrice : ByteArray := prog_5_method_9_code
def yX3_readPrice : MethodName := ⟨RX3, "readPrice", "(LDepotCharge$Depot;)V"⟩
abbrev cX3_readSetting : ByteArray := prog_5_method_10_code
def yX3_readSetting : MethodName := ⟨RX3, "readSetting", "(LDepotCharge$Depot;I)V"⟩
abbrev cX3_readCurve : ByteArray := prog_5_method_11_code
def yX3_readCurve : MethodName := ⟨RX3, "readCurve", "(LDepotCharge$Depot;)V"⟩
abbrev cX3_readBus : ByteArray := prog_5_method_12_code
def yX3_readBus : MethodName := ⟨RX3, "readBus", "(LDepotCharge$Depot;)V"⟩
abbrev cX3_readCharge : ByteArray := prog_5_method_13_code
def yX3_readCharge : MethodName := ⟨RX3, "readCharge", "(LDepotCharge$Depot;)V"⟩
def RX4 : String := "DepotCharge$Ruler"
def TX4 : u_T := fun k => match k with
  | 0 => ("DepotCharge$Ruler", "sets", "[I", true)
  | 1 => ("DepotCharge$Ruler", "levels", "[I", true)
  | _ => ("DepotCharge$Ruler", "ranks", "[I", true)
def tyX4 : Nat → FieldType := fun k => match k with
  | 0 => .array .int
  | 1 => .array .int
  | _ => .array .int
abbrev wsX40 : List Cond := u_ws RX4 TX4 3
theorem nmX4 : ∀ a, a < 3 → ∀ b, b < 3 → a ≠ b → (TX4 a).2.1 ≠ (TX4 b).2.1 := by decide +kernel
theorem tyX4_ok : ∀ k, k < 3 → parseFieldDescriptor (TX4 k).2.2.1 = some (tyX4 k) := by decide +kernel
abbrev cX4_init : ByteArray := prog_6_method_1_code
def yX4_init : MethodName := ⟨RX4, "<init>", "()V"⟩
abbrev cX4_make : ByteArray := prog_6_method_2_code
def yX4_make : MethodName := ⟨RX4, "make", "(LDepotCharge$Depot;I)V"⟩
abbrev cX4_chargeSlot : ByteArray := prog_6_method_3_code
def yX4_chargeSlot : MethodName := ⟨RX4, "chargeSlot", "(LDepotCharge$Depot;II)I"⟩
abbrev cX4_rankOf : ByteArray := prog_6_method_4_code
def yX4_rankOf : MethodName := ⟨RX4, "rankOf", "(LDepotCharge$Depot;III)I"⟩
abbrev cX4_firstOf : ByteArray := prog_6_method_5_code
def yX4_firstOf : MethodName := ⟨RX4, "firstOf", "(I)I"⟩
def RX5 : String := "DepotCharge$Tape"
def TX5 : u_T := fun k => match k with
  | 0 => ("DepotCharge$Tape", "bytes", "[B", true)
  | 1 => ("DepotCharge$Tape", "length", "I", false)
  | 2 => ("DepotCharge$Tape", "kind", "I", false)
  | 3 => ("DepotCharge$Tape", "place", "I", false)
  | 4 => ("DepotCharge$Tape", "number", "I", false)
  | _ => ("DepotCharge$Tape", "behind", "I", false)
def tyX5 : Nat → FieldType := fun k => match k with
  | 0 => .array .byte
  | 1 => .int
  | 2 => .int
  | 3 => .int
  | 4 => .int
  | _ => .int
abbrev wsX50 : List Cond := u_ws RX5 TX5 6
theorem nmX5 : ∀ a, a < 6 → ∀ b, b < 6 → a ≠ b → (TX5 a).2.1 ≠ (TX5 b).2.1 := by decide +kernel
theorem tyX5_ok : ∀ k, k < 6 → parseFieldDescriptor (TX5 k).2.2.1 = some (tyX5 k) := by decide +kernel
abbrev cX5_init : ByteArray := prog_7_method_1_code
def yX5_init : MethodName := ⟨RX5, "<init>", "()V"⟩
abbrev cX5_append : ByteArray := prog_7_method_2_code
def yX5_append : MethodName := ⟨RX5, "append", "(I)V"⟩
abbrev cX5_rewind : ByteArray := prog_7_method_3_code
def yX5_rewind : MethodName := ⟨RX5, "rewind", "()V"⟩
abbrev cX5_step : ByteArray := prog_7_method_4_code
def yX5_step : MethodName := ⟨RX5, "step", "()V"⟩
abbrev cX5_isDigit : ByteArray := prog_7_method_5_code
def yX5_isDigit : MethodName := ⟨RX5, "isDigit", "(I)Z"⟩
abbrev cX5_isLetter : ByteArray := prog_7_method_6_code
def yX5_isLetter : MethodName := ⟨RX5, "isLetter", "(I)Z"⟩
abbrev cX5_readNumber : ByteArray := prog_7_method_7_code
def yX5_readNumber : MethodName := ⟨RX5, "readNumber", "()V"⟩
abbrev cX5_readWord : ByteArray := prog_7_method_8_code
def yX5_readWord : MethodName := ⟨RX5, "readWord", "()V"⟩
abbrev cX5_isWord : ByteArray := prog_7_method_9_code
def yX5_isWord : MethodName := ⟨RX5, "isWord", "(Ljava/lang/String;)Z"⟩
abbrev cX5_isSemicolon : ByteArray := prog_7_method_10_code
def yX5_isSemicolon : MethodName := ⟨RX5, "isSemicolon", "()Z"⟩
def RX6 : String := "DepotCharge"
def TX6 : u_T := fun k => match k with
  | 0 => ("DepotCharge", "now", "LDepotCharge$Depot;", false)
  | 1 => ("DepotCharge", "draft", "LDepotCharge$Depot;", false)
  | 2 => ("DepotCharge", "tape", "LDepotCharge$Tape;", true)
  | 3 => ("DepotCharge", "reader", "LDepotCharge$Reader;", true)
  | 4 => ("DepotCharge", "ledger", "LDepotCharge$Ledger;", true)
  | 5 => ("DepotCharge", "planner", "LDepotCharge$Planner;", true)
  | 6 => ("DepotCharge", "ruler", "LDepotCharge$Ruler;", true)
  | 7 => ("DepotCharge", "bestSets", "[I", true)
  | _ => ("DepotCharge", "bestIsKnown", "Z", false)
def tyX6 : Nat → FieldType := fun k => match k with
  | 0 => .object "DepotCharge$Depot"
  | 1 => .object "DepotCharge$Depot"
  | 2 => .object "DepotCharge$Tape"
  | 3 => .object "DepotCharge$Reader"
  | 4 => .object "DepotCharge$Ledger"
  | 5 => .object "DepotCharge$Planner"
  | 6 => .object "DepotCharge$Ruler"
  | 7 => .array .int
  | _ => .boolean
abbrev wsX60 : List Cond := u_ws RX6 TX6 9
theorem nmX6 : ∀ a, a < 9 → ∀ b, b < 9 → a ≠ b → (TX6 a).2.1 ≠ (TX6 b).2.1 := by decide +kernel
theorem tyX6_ok : ∀ k, k < 9 → parseFieldDescriptor (TX6 k).2.2.1 = some (tyX6 k) := by decide +kernel
abbrev cX6_init : ByteArray := prog_1_method_1_code
def yX6_init : MethodName := ⟨RX6, "<init>", "()V"⟩
abbrev cX6_feed : ByteArray := prog_1_method_2_code
def yX6_feed : MethodName := ⟨RX6, "feed", "(IIIII)I"⟩
abbrev cX6_end : ByteArray := prog_1_method_3_code
def yX6_end : MethodName := ⟨RX6, "end", "(I)Z"⟩
abbrev cX6_tell : ByteArray := prog_1_method_4_code
def yX6_tell : MethodName := ⟨RX6, "tell", "()I"⟩
abbrev cX6_fault : ByteArray := prog_1_method_5_code
def yX6_fault : MethodName := ⟨RX6, "fault", "()I"⟩
abbrev cX6_set : ByteArray := prog_1_method_6_code
def yX6_set : MethodName := ⟨RX6, "set", "(II)Z"⟩
abbrev cX6_bus : ByteArray := prog_1_method_7_code
def yX6_bus : MethodName := ⟨RX6, "bus", "(IIIIII)I"⟩
abbrev cX6_drop : ByteArray := prog_1_method_8_code
def yX6_drop : MethodName := ⟨RX6, "drop", "()I"⟩
abbrev cX6_charge : ByteArray := prog_1_method_9_code
def yX6_charge : MethodName := ⟨RX6, "charge", "(IIZ)Z"⟩
abbrev cX6_clear : ByteArray := prog_1_method_10_code
def yX6_clear : MethodName := ⟨RX6, "clear", "()I"⟩
abbrev cX6_count : ByteArray := prog_1_method_11_code
def yX6_count : MethodName := ⟨RX6, "count", "(I)I"⟩
abbrev cX6_told : ByteArray := prog_1_method_12_code
def yX6_told : MethodName := ⟨RX6, "told", "(II)I"⟩
abbrev cX6_curve : ByteArray := prog_1_method_13_code
def yX6_curve : MethodName := ⟨RX6, "curve", "(III)I"⟩
abbrev cX6_takes : ByteArray := prog_1_method_14_code
def yX6_takes : MethodName := ⟨RX6, "takes", "(II)I"⟩
abbrev cX6_slots : ByteArray := prog_1_method_15_code
def yX6_slots : MethodName := ⟨RX6, "slots", "(III)I"⟩
abbrev cX6_plan : ByteArray := prog_1_method_16_code
def yX6_plan : MethodName := ⟨RX6, "plan", "(I)I"⟩
abbrev cX6_level : ByteArray := prog_1_method_17_code
def yX6_level : MethodName := ⟨RX6, "level", "(II)I"⟩
abbrev cX6_used : ByteArray := prog_1_method_18_code
def yX6_used : MethodName := ⟨RX6, "used", "(I)I"⟩
abbrev cX6_sum : ByteArray := prog_1_method_19_code
def yX6_sum : MethodName := ⟨RX6, "sum", "(I)I"⟩
abbrev cX6_lack : ByteArray := prog_1_method_20_code
def yX6_lack : MethodName := ⟨RX6, "lack", "(I)I"⟩
abbrev cX6_best : ByteArray := prog_1_method_21_code
def yX6_best : MethodName := ⟨RX6, "best", "(I)I"⟩
abbrev cX6_take : ByteArray := prog_1_method_22_code
def yX6_take : MethodName := ⟨RX6, "take", "()I"⟩
abbrev cX6_late : ByteArray := prog_1_method_23_code
def yX6_late : MethodName := ⟨RX6, "late", "(II)I"⟩
abbrev cX6_latest : ByteArray := prog_1_method_24_code
def yX6_latest : MethodName := ⟨RX6, "latest", "(I)I"⟩
abbrev cX6_were : ByteArray := prog_1_method_25_code
def yX6_were : MethodName := ⟨RX6, "were", "(II)I"⟩
abbrev cX6_least : ByteArray := prog_1_method_26_code
def yX6_least : MethodName := ⟨RX6, "least", "(I)I"⟩
abbrev cX6_without : ByteArray := prog_1_method_27_code
def yX6_without : MethodName := ⟨RX6, "without", "(I)I"⟩
abbrev cX6_rule : ByteArray := prog_1_method_28_code
def yX6_rule : MethodName := ⟨RX6, "rule", "(II)I"⟩
abbrev cX6_takeRule : ByteArray := prog_1_method_29_code
def yX6_takeRule : MethodName := ⟨RX6, "takeRule", "(I)I"⟩
abbrev cX6_bestRule : ByteArray := prog_1_method_30_code
def yX6_bestRule : MethodName := ⟨RX6, "bestRule", "()I"⟩
abbrev cX6_isRule : ByteArray := prog_1_method_31_code
def yX6_isRule : MethodName := ⟨RX6, "isRule", "(I)Z"⟩
abbrev cX6_findBest : ByteArray := prog_1_method_32_code
def yX6_findBest : MethodName := ⟨RX6, "findBest", "()V"⟩
abbrev cX6_adopt : ByteArray := prog_1_method_33_code
def yX6_adopt : MethodName := ⟨RX6, "adopt", "([I)I"⟩
abbrev cX6_costIfLate : ByteArray := prog_1_method_34_code
def yX6_costIfLate : MethodName := ⟨RX6, "costIfLate", "(II)I"⟩
abbrev cX6_costIfSet : ByteArray := prog_1_method_35_code
def yX6_costIfSet : MethodName := ⟨RX6, "costIfSet", "(II)I"⟩
abbrev cX6_firstReady : ByteArray := prog_1_method_36_code
def yX6_firstReady : MethodName := ⟨RX6, "firstReady", "(II)I"⟩
abbrev cX6_leastLimit : ByteArray := prog_1_method_37_code
def yX6_leastLimit : MethodName := ⟨RX6, "leastLimit", "()I"⟩
def RX7 : String := "DepotChargeModel"
def TX7 : u_T := fun k => match k with
  | 0 => ("DepotChargeModel", "raised", "I", false)
  | 1 => ("DepotChargeModel", "told", "[I", true)
  | 2 => ("DepotChargeModel", "draft", "[I", true)
  | 3 => ("DepotChargeModel", "tape", "[I", true)
  | 4 => ("DepotChargeModel", "taped", "I", false)
  | 5 => ("DepotChargeModel", "fault", "I", false)
  | 6 => ("DepotChargeModel", "at", "I", false)
  | 7 => ("DepotChargeModel", "wrong", "I", false)
  | 8 => ("DepotChargeModel", "value", "I", false)
  | 9 => ("DepotChargeModel", "place", "I", false)
  | 10 => ("DepotChargeModel", "statements", "I", false)
  | 11 => ("DepotChargeModel", "plugs", "I", false)
  | 12 => ("DepotChargeModel", "power", "I", false)
  | 13 => ("DepotChargeModel", "limit", "I", false)
  | 14 => ("DepotChargeModel", "comes", "[I", true)
  | 15 => ("DepotChargeModel", "some", "I", false)
  | 16 => ("DepotChargeModel", "plan", "[I", true)
  | 17 => ("DepotChargeModel", "level", "[I", true)
  | 18 => ("DepotChargeModel", "used", "[I", true)
  | 19 => ("DepotChargeModel", "lacks", "[I", true)
  | 20 => ("DepotChargeModel", "costs", "[I", true)
  | 21 => ("DepotChargeModel", "charges", "[I", true)
  | 22 => ("DepotChargeModel", "sets", "[I", true)
  | 23 => ("DepotChargeModel", "full", "[I", true)
  | 24 => ("DepotChargeModel", "step", "[I", true)
  | 25 => ("DepotChargeModel", "row", "[I", true)
  | _ => ("DepotChargeModel", "rank", "[I", true)
def tyX7 : Nat → FieldType := fun k => match k with
  | 0 => .int
  | 1 => .array .int
  | 2 => .array .int
  | 3 => .array .int
  | 4 => .int
  | 5 => .int
  | 6 => .int
  | 7 => .int
  | 8 => .int
  | 9 => .int
  | 10 => .int
  | 11 => .int
  | 12 => .int
  | 13 => .int
  | 14 => .array .int
  | 15 => .int
  | 16 => .array .int
  | 17 => .array .int
  | 18 => .array .int
  | 19 => .array .int
  | 20 => .array .int
  | 21 => .array .int
  | 22 => .array .int
  | 23 => .array .int
  | 24 => .array .int
  | 25 => .array .int
  | _ => .array .int
abbrev wsX70 : List Cond := u_ws RX7 TX7 27
theorem nmX7 : ∀ a, a < 27 → ∀ b, b < 27 → a ≠ b → (TX7 a).2.1 ≠ (TX7 b).2.1 := by decide +kernel
theorem tyX7_ok : ∀ k, k < 27 → parseFieldDescriptor (TX7 k).2.2.1 = some (tyX7 k) := by decide +kernel
abbrev cX7_init : ByteArray := prog_9_method_1_code
def yX7_init : MethodName := ⟨RX7, "<init>", "()V"⟩
abbrev cX7_thrown : ByteArray := prog_9_method_2_code
def yX7_thrown : MethodName := ⟨RX7, "thrown", "()I"⟩
abbrev cX7_in : ByteArray := prog_9_method_3_code
def yX7_in : MethodName := ⟨RX7, "in", "(III)Z"⟩
abbrev cX7_has : ByteArray := prog_9_method_4_code
def yX7_has : MethodName := ⟨RX7, "has", "(II)Z"⟩
abbrev cX7_bits : ByteArray := prog_9_method_5_code
def yX7_bits : MethodName := ⟨RX7, "bits", "(I)I"⟩
abbrev cX7_of : ByteArray := prog_9_method_6_code
def yX7_of : MethodName := ⟨RX7, "of", "(II)I"⟩
abbrev cX7_isBus : ByteArray := prog_9_method_7_code
def yX7_isBus : MethodName := ⟨RX7, "isBus", "(I)Z"⟩
abbrev cX7_isSlot : ByteArray := prog_9_method_8_code
def yX7_isSlot : MethodName := ⟨RX7, "isSlot", "(I)Z"⟩
abbrev cX7_four : ByteArray := prog_9_method_9_code
def yX7_four : MethodName := ⟨RX7, "four", "(I)V"⟩
abbrev cX7_feed : ByteArray := prog_9_method_10_code
def yX7_feed : MethodName := ⟨RX7, "feed", "(IIIII)I"⟩
abbrev cX7_end : ByteArray := prog_9_method_11_code
def yX7_end : MethodName := ⟨RX7, "end", "(I)Z"⟩
abbrev cX7_here : ByteArray := prog_9_method_12_code
def yX7_here : MethodName := ⟨RX7, "here", "()I"⟩
abbrev cX7_fails : ByteArray := prog_9_method_13_code
def yX7_fails : MethodName := ⟨RX7, "fails", "(II)Z"⟩
abbrev cX7_isNumber : ByteArray := prog_9_method_14_code
def yX7_isNumber : MethodName := ⟨RX7, "isNumber", "()Z"⟩
abbrev cX7_readPlain : ByteArray := prog_9_method_15_code
def yX7_readPlain : MethodName := ⟨RX7, "readPlain", "()Z"⟩
abbrev cX7_readNumber : ByteArray := prog_9_method_16_code
def yX7_readNumber : MethodName := ⟨RX7, "readNumber", "(II)Z"⟩
abbrev cX7_reads : ByteArray := prog_9_method_17_code
def yX7_reads : MethodName := ⟨RX7, "reads", "(III)Z"⟩
abbrev cX7_readWord : ByteArray := prog_9_method_18_code
def yX7_readWord : MethodName := ⟨RX7, "readWord", "()J"⟩
abbrev cX7_readSlots : ByteArray := prog_9_method_19_code
def yX7_readSlots : MethodName := ⟨RX7, "readSlots", "()Z"⟩
abbrev cX7_readPrice : ByteArray := prog_9_method_20_code
def yX7_readPrice : MethodName := ⟨RX7, "readPrice", "()Z"⟩
abbrev cX7_readCurve : ByteArray := prog_9_method_21_code
def yX7_readCurve : MethodName := ⟨RX7, "readCurve", "(I)Z"⟩
abbrev cX7_readBus : ByteArray := prog_9_method_22_code
def yX7_readBus : MethodName := ⟨RX7, "readBus", "(I)Z"⟩
abbrev cX7_readCharge : ByteArray := prog_9_method_23_code
def yX7_readCharge : MethodName := ⟨RX7, "readCharge", "()Z"⟩
abbrev cX7_readStatement : ByteArray := prog_9_method_24_code
def yX7_readStatement : MethodName := ⟨RX7, "readStatement", "()Z"⟩
abbrev cX7_readText : ByteArray := prog_9_method_25_code
def yX7_readText : MethodName := ⟨RX7, "readText", "()Z"⟩
abbrev cX7_copies : ByteArray := prog_9_method_26_code
def yX7_copies : MethodName := ⟨RX7, "copies", "(Z)V"⟩
abbrev cX7_tell : ByteArray := prog_9_method_27_code
def yX7_tell : MethodName := ⟨RX7, "tell", "()I"⟩
abbrev cX7_fault : ByteArray := prog_9_method_28_code
def yX7_fault : MethodName := ⟨RX7, "fault", "()I"⟩
abbrev cX7_mostOf : ByteArray := prog_9_method_29_code
def yX7_mostOf : MethodName := ⟨RX7, "mostOf", "(I)I"⟩
abbrev cX7_set : ByteArray := prog_9_method_30_code
def yX7_set : MethodName := ⟨RX7, "set", "(II)Z"⟩
abbrev cX7_bus : ByteArray := prog_9_method_31_code
def yX7_bus : MethodName := ⟨RX7, "bus", "(IIIIII)I"⟩
abbrev cX7_drop : ByteArray := prog_9_method_32_code
def yX7_drop : MethodName := ⟨RX7, "drop", "()I"⟩
abbrev cX7_charge : ByteArray := prog_9_method_33_code
def yX7_charge : MethodName := ⟨RX7, "charge", "(IIZ)Z"⟩
abbrev cX7_chargesOf : ByteArray := prog_9_method_34_code
def yX7_chargesOf : MethodName := ⟨RX7, "chargesOf", "()I"⟩
abbrev cX7_clear : ByteArray := prog_9_method_35_code
def yX7_clear : MethodName := ⟨RX7, "clear", "()I"⟩
abbrev cX7_count : ByteArray := prog_9_method_36_code
def yX7_count : MethodName := ⟨RX7, "count", "(I)I"⟩
abbrev cX7_told : ByteArray := prog_9_method_37_code
def yX7_told : MethodName := ⟨RX7, "told", "(II)I"⟩
abbrev cX7_curve : ByteArray := prog_9_method_38_code
def yX7_curve : MethodName := ⟨RX7, "curve", "(III)I"⟩
abbrev cX7_less : ByteArray := prog_9_method_39_code
def yX7_less : MethodName := ⟨RX7, "less", "(II)I"⟩
abbrev cX7_takesOf : ByteArray := prog_9_method_40_code
def yX7_takesOf : MethodName := ⟨RX7, "takesOf", "(II)I"⟩
abbrev cX7_slotsOf : ByteArray := prog_9_method_41_code
def yX7_slotsOf : MethodName := ⟨RX7, "slotsOf", "(III)I"⟩
abbrev cX7_takes : ByteArray := prog_9_method_42_code
def yX7_takes : MethodName := ⟨RX7, "takes", "(II)I"⟩
abbrev cX7_slots : ByteArray := prog_9_method_43_code
def yX7_slots : MethodName := ⟨RX7, "slots", "(III)I"⟩
abbrev cX7_asTold : ByteArray := prog_9_method_44_code
def yX7_asTold : MethodName := ⟨RX7, "asTold", "()V"⟩
abbrev cX7_isThere : ByteArray := prog_9_method_45_code
def yX7_isThere : MethodName := ⟨RX7, "isThere", "(II)Z"⟩
abbrev cX7_goes : ByteArray := prog_9_method_46_code
def yX7_goes : MethodName := ⟨RX7, "goes", "()V"⟩
abbrev cX7_goesByTold : ByteArray := prog_9_method_47_code
def yX7_goesByTold : MethodName := ⟨RX7, "goesByTold", "()V"⟩
abbrev cX7_lackOf : ByteArray := prog_9_method_48_code
def yX7_lackOf : MethodName := ⟨RX7, "lackOf", "(I)I"⟩
abbrev cX7_sumOf : ByteArray := prog_9_method_49_code
def yX7_sumOf : MethodName := ⟨RX7, "sumOf", "(I)I"⟩
abbrev cX7_isAllThere : ByteArray := prog_9_method_50_code
def yX7_isAllThere : MethodName := ⟨RX7, "isAllThere", "(I)Z"⟩
abbrev cX7_wrongOf : ByteArray := prog_9_method_51_code
def yX7_wrongOf : MethodName := ⟨RX7, "wrongOf", "()I"⟩
abbrev cX7_plan : ByteArray := prog_9_method_52_code
def yX7_plan : MethodName := ⟨RX7, "plan", "(I)I"⟩
abbrev cX7_level : ByteArray := prog_9_method_53_code
def yX7_level : MethodName := ⟨RX7, "level", "(II)I"⟩
abbrev cX7_used : ByteArray := prog_9_method_54_code
def yX7_used : MethodName := ⟨RX7, "used", "(I)I"⟩
abbrev cX7_sum : ByteArray := prog_9_method_55_code
def yX7_sum : MethodName := ⟨RX7, "sum", "(I)I"⟩
abbrev cX7_lack : ByteArray := prog_9_method_56_code
def yX7_lack : MethodName := ⟨RX7, "lack", "(I)I"⟩
abbrev cX7_countOf : ByteArray := prog_9_method_57_code
def yX7_countOf : MethodName := ⟨RX7, "countOf", "(II)I"⟩
abbrev cX7_laysFull : ByteArray := prog_9_method_58_code
def yX7_laysFull : MethodName := ⟨RX7, "laysFull", "()V"⟩
abbrev cX7_mayBe : ByteArray := prog_9_method_59_code
def yX7_mayBe : MethodName := ⟨RX7, "mayBe", "(II)Z"⟩
abbrev cX7_laysEnd : ByteArray := prog_9_method_60_code
def yX7_laysEnd : MethodName := ⟨RX7, "laysEnd", "(I)V"⟩
abbrev cX7_taken : ByteArray := prog_9_method_61_code
def yX7_taken : MethodName := ⟨RX7, "taken", "(III)I"⟩
abbrev cX7_behind : ByteArray := prog_9_method_62_code
def yX7_behind : MethodName := ⟨RX7, "behind", "(II)I"⟩
abbrev cX7_laysSlot : ByteArray := prog_9_method_63_code
def yX7_laysSlot : MethodName := ⟨RX7, "laysSlot", "(II)V"⟩
abbrev cX7_finds : ByteArray := prog_9_method_64_code
def yX7_finds : MethodName := ⟨RX7, "finds", "()V"⟩
abbrev cX7_laysBest : ByteArray := prog_9_method_65_code
def yX7_laysBest : MethodName := ⟨RX7, "laysBest", "()V"⟩
abbrev cX7_costNow : ByteArray := prog_9_method_66_code
def yX7_costNow : MethodName := ⟨RX7, "costNow", "()I"⟩
abbrev cX7_best : ByteArray := prog_9_method_67_code
def yX7_best : MethodName := ⟨RX7, "best", "(I)I"⟩
abbrev cX7_stands : ByteArray := prog_9_method_68_code
def yX7_stands : MethodName := ⟨RX7, "stands", "()I"⟩
abbrev cX7_take : ByteArray := prog_9_method_69_code
def yX7_take : MethodName := ⟨RX7, "take", "()I"⟩
abbrev cX7_late : ByteArray := prog_9_method_70_code
def yX7_late : MethodName := ⟨RX7, "late", "(II)I"⟩
abbrev cX7_latest : ByteArray := prog_9_method_71_code
def yX7_latest : MethodName := ⟨RX7, "latest", "(I)I"⟩
abbrev cX7_lays : ByteArray := prog_9_method_72_code
def yX7_lays : MethodName := ⟨RX7, "lays", "(II)V"⟩
abbrev cX7_were : ByteArray := prog_9_method_73_code
def yX7_were : MethodName := ⟨RX7, "were", "(II)I"⟩
abbrev cX7_least : ByteArray := prog_9_method_74_code
def yX7_least : MethodName := ⟨RX7, "least", "(I)I"⟩
abbrev cX7_without : ByteArray := prog_9_method_75_code
def yX7_without : MethodName := ⟨RX7, "without", "(I)I"⟩
abbrev cX7_rankOf : ByteArray := prog_9_method_76_code
def yX7_rankOf : MethodName := ⟨RX7, "rankOf", "(III)I"⟩
abbrev cX7_setBy : ByteArray := prog_9_method_77_code
def yX7_setBy : MethodName := ⟨RX7, "setBy", "(II)I"⟩
abbrev cX7_rules : ByteArray := prog_9_method_78_code
def yX7_rules : MethodName := ⟨RX7, "rules", "(I)V"⟩
abbrev cX7_rule : ByteArray := prog_9_method_79_code
def yX7_rule : MethodName := ⟨RX7, "rule", "(II)I"⟩
abbrev cX7_takeRule : ByteArray := prog_9_method_80_code
def yX7_takeRule : MethodName := ⟨RX7, "takeRule", "(I)I"⟩
abbrev cX7_bestRule : ByteArray := prog_9_method_81_code
def yX7_bestRule : MethodName := ⟨RX7, "bestRule", "()I"⟩
def RJx145de : String := "java/io/Serializable"
def TJx145de : u_T := fun k => match k with
  | _ => ("", "", "", false)
def tyJx145de : Nat → FieldType := fun k => match k with
  | _ => .int
abbrev wsJx145de0 : List Cond := u_ws RJx145de TJx145de 0
theorem nmJx145de : ∀ a, a < 0 → ∀ b, b < 0 → a ≠ b → (TJx145de a).2.1 ≠ (TJx145de b).2.1 := by decide +kernel
theorem tyJx145de_ok : ∀ k, k < 0 → parseFieldDescriptor (TJx145de k).2.2.1 = some (tyJx145de k) := by decide +kernel
def RJx9f9b0 : String := "java/lang/CharSequence"
def TJx9f9b0 : u_T := fun k => match k with
  | _ => ("", "", "", false)
def tyJx9f9b0 : Nat → FieldType := fun k => match k with
  | _ => .int
abbrev wsJx9f9b00 : List Cond := u_ws RJx9f9b0 TJx9f9b0 0
theorem nmJx9f9b0 : ∀ a, a < 0 → ∀ b, b < 0 → a ≠ b → (TJx9f9b0 a).2.1 ≠ (TJx9f9b0 b).2.1 := by decide +kernel
theorem tyJx9f9b0_ok : ∀ k, k < 0 → parseFieldDescriptor (TJx9f9b0 k).2.2.1 = some (tyJx9f9b0 k) := by decide +kernel
def RJxb160c : String := "java/lang/Comparable"
def TJxb160c : u_T := fun k => match k with
  | _ => ("", "", "", false)
def tyJxb160c : Nat → FieldType := fun k => match k with
  | _ => .int
abbrev wsJxb160c0 : List Cond := u_ws RJxb160c TJxb160c 0
theorem nmJxb160c : ∀ a, a < 0 → ∀ b, b < 0 → a ≠ b → (TJxb160c a).2.1 ≠ (TJxb160c b).2.1 := by decide +kernel
theorem tyJxb160c_ok : ∀ k, k < 0 → parseFieldDescriptor (TJxb160c k).2.2.1 = some (tyJxb160c k) := by decide +kernel
def RJ9 : String := "java/lang/Math"
def TJ9 : u_T := fun k => match k with
  | _ => ("", "", "", false)
def tyJ9 : Nat → FieldType := fun k => match k with
  | _ => .int
abbrev wsJ90 : List Cond := u_ws RJ9 TJ9 0
theorem nmJ9 : ∀ a, a < 0 → ∀ b, b < 0 → a ≠ b → (TJ9 a).2.1 ≠ (TJ9 b).2.1 := by decide +kernel
theorem tyJ9_ok : ∀ k, k < 0 → parseFieldDescriptor (TJ9 k).2.2.1 = some (tyJ9 k) := by decide +kernel
abbrev cJ9_max_7cf53 : ByteArray := prog_14_method_65_code
def yJ9_max_7cf53 : MethodName := ⟨RJ9, "max", "(II)I"⟩
abbrev cJ9_min_7cf53 : ByteArray := prog_14_method_69_code
def yJ9_min_7cf53 : MethodName := ⟨RJ9, "min", "(II)I"⟩
def RJ0 : String := "java/lang/String"
def TJ0 : u_T := fun k => match k with
  | _ => ("", "", "", false)
def tyJ0 : Nat → FieldType := fun k => match k with
  | _ => .int
abbrev wsJ00 : List Cond := u_ws RJ0 TJ0 0
theorem nmJ0 : ∀ a, a < 0 → ∀ b, b < 0 → a ≠ b → (TJ0 a).2.1 ≠ (TJ0 b).2.1 := by decide +kernel
theorem tyJ0_ok : ∀ k, k < 0 → parseFieldDescriptor (TJ0 k).2.2.1 = some (tyJ0 k) := by decide +kernel
abbrev cJ0_length_8abf5 : ByteArray := prog_16_method_54_code
def yJ0_length_8abf5 : MethodName := ⟨RJ0, "length", "()I"⟩
abbrev cJ0_charAt_5068e : ByteArray := prog_16_method_56_code
def yJ0_charAt_5068e : MethodName := ⟨RJ0, "charAt", "(I)C"⟩
abbrev cJ0_coder_7d493 : ByteArray := prog_16_method_152_code
def yJ0_coder_7d493 : MethodName := ⟨RJ0, "coder", "()B"⟩
abbrev cJ0_isLatin1_aae02 : ByteArray := prog_16_method_154_code
def yJ0_isLatin1_aae02 : MethodName := ⟨RJ0, "isLatin1", "()Z"⟩
abbrev cJ0_checkIndex_df160 : ByteArray := prog_16_method_155_code
def yJ0_checkIndex_df160 : MethodName := ⟨RJ0, "checkIndex", "(II)V"⟩
def RJ1 : String := "java/lang/StringLatin1"
def TJ1 : u_T := fun k => match k with
  | _ => ("", "", "", false)
def tyJ1 : Nat → FieldType := fun k => match k with
  | _ => .int
abbrev wsJ10 : List Cond := u_ws RJ1 TJ1 0
theorem nmJ1 : ∀ a, a < 0 → ∀ b, b < 0 → a ≠ b → (TJ1 a).2.1 ≠ (TJ1 b).2.1 := by decide +kernel
theorem tyJ1_ok : ∀ k, k < 0 → parseFieldDescriptor (TJ1 k).2.2.1 = some (tyJ1 k) := by decide +kernel
abbrev cJ1_charAt_3b067 : ByteArray := prog_17_method_2_code
def yJ1_charAt_3b067 : MethodName := ⟨RJ1, "charAt", "([BI)C"⟩
def RJ2 : String := "java/lang/StringUTF16"
def TJ2 : u_T := fun k => match k with
  | _ => ("", "", "", false)
def tyJ2 : Nat → FieldType := fun k => match k with
  | _ => .int
abbrev wsJ20 : List Cond := u_ws RJ2 TJ2 0
theorem nmJ2 : ∀ a, a < 0 → ∀ b, b < 0 → a ≠ b → (TJ2 a).2.1 ≠ (TJ2 b).2.1 := by decide +kernel
theorem tyJ2_ok : ∀ k, k < 0 → parseFieldDescriptor (TJ2 k).2.2.1 = some (tyJ2 k) := by decide +kernel
abbrev cJ2_getChar_3b067 : ByteArray := prog_18_method_5_code
def yJ2_getChar_3b067 : MethodName := ⟨RJ2, "getChar", "([BI)C"⟩
abbrev cJ2_length_9d52b : ByteArray := prog_18_method_6_code
def yJ2_length_9d52b : MethodName := ⟨RJ2, "length", "([B)I"⟩
abbrev cJ2_charAt_3b067 : ByteArray := prog_18_method_83_code
def yJ2_charAt_3b067 : MethodName := ⟨RJ2, "charAt", "([BI)C"⟩
abbrev cJ2_checkIndex_2214a : ByteArray := prog_18_method_91_code
def yJ2_checkIndex_2214a : MethodName := ⟨RJ2, "checkIndex", "(I[B)V"⟩
def RJ10 : String := "java/lang/System"
def TJ10 : u_T := fun k => match k with
  | _ => ("", "", "", false)
def tyJ10 : Nat → FieldType := fun k => match k with
  | _ => .int
abbrev wsJ100 : List Cond := u_ws RJ10 TJ10 0
theorem nmJ10 : ∀ a, a < 0 → ∀ b, b < 0 → a ≠ b → (TJ10 a).2.1 ≠ (TJ10 b).2.1 := by decide +kernel
theorem tyJ10_ok : ∀ k, k < 0 → parseFieldDescriptor (TJ10 k).2.2.1 = some (tyJ10 k) := by decide +kernel
def RJxfd54e : String := "java/lang/constant/Constable"
def TJxfd54e : u_T := fun k => match k with
  | _ => ("", "", "", false)
def tyJxfd54e : Nat → FieldType := fun k => match k with
  | _ => .int
abbrev wsJxfd54e0 : List Cond := u_ws RJxfd54e TJxfd54e 0
theorem nmJxfd54e : ∀ a, a < 0 → ∀ b, b < 0 → a ≠ b → (TJxfd54e a).2.1 ≠ (TJxfd54e b).2.1 := by decide +kernel
theorem tyJxfd54e_ok : ∀ k, k < 0 → parseFieldDescriptor (TJxfd54e k).2.2.1 = some (tyJxfd54e k) := by decide +kernel
def RJx3cf43 : String := "java/lang/constant/ConstantDesc"
def TJx3cf43 : u_T := fun k => match k with
  | _ => ("", "", "", false)
def tyJx3cf43 : Nat → FieldType := fun k => match k with
  | _ => .int
abbrev wsJx3cf430 : List Cond := u_ws RJx3cf43 TJx3cf43 0
theorem nmJx3cf43 : ∀ a, a < 0 → ∀ b, b < 0 → a ≠ b → (TJx3cf43 a).2.1 ≠ (TJx3cf43 b).2.1 := by decide +kernel
theorem tyJx3cf43_ok : ∀ k, k < 0 → parseFieldDescriptor (TJx3cf43 k).2.2.1 = some (tyJx3cf43 k) := by decide +kernel
def RJ7 : String := "java/util/Arrays"
def TJ7 : u_T := fun k => match k with
  | _ => ("", "", "", false)
def tyJ7 : Nat → FieldType := fun k => match k with
  | _ => .int
abbrev wsJ70 : List Cond := u_ws RJ7 TJ7 0
theorem nmJ7 : ∀ a, a < 0 → ∀ b, b < 0 → a ≠ b → (TJ7 a).2.1 ≠ (TJ7 b).2.1 := by decide +kernel
theorem tyJ7_ok : ∀ k, k < 0 → parseFieldDescriptor (TJ7 k).2.2.1 = some (tyJ7 k) := by decide +kernel
abbrev cJ7_fill_53178 : ByteArray := prog_23_method_103_code
def yJ7_fill_53178 : MethodName := ⟨RJ7, "fill", "([II)V"⟩
def RJ3 : String := "jdk/internal/util/Preconditions"
def TJ3 : u_T := fun k => match k with
  | _ => ("", "", "", false)
def tyJ3 : Nat → FieldType := fun k => match k with
  | _ => .int
abbrev wsJ30 : List Cond := u_ws RJ3 TJ3 0
theorem nmJ3 : ∀ a, a < 0 → ∀ b, b < 0 → a ≠ b → (TJ3 a).2.1 ≠ (TJ3 b).2.1 := by decide +kernel
theorem tyJ3_ok : ∀ k, k < 0 → parseFieldDescriptor (TJ3 k).2.2.1 = some (tyJ3 k) := by decide +kernel
abbrev cJ3_checkIndex_8e157 : ByteArray := prog_25_method_11_code
def yJ3_checkIndex_8e157 : MethodName := ⟨RJ3, "checkIndex", "(IILjava/util/function/BiFunction;)I"⟩
def RL : String := "DepotChargeLaw"
abbrev cL_told : ByteArray := method_3_code
def yL_told : MethodName := ⟨RL, "told", "(LDepotCharge;II[J)I"⟩
abbrev cL_law : ByteArray := code
def yL_law : MethodName := ⟨RL, "law", "([I)Z"⟩
abbrev vwCl : List vw_C := [(RX0, TX0, 11), (RX1, TX1, 6), (RX2, TX2, 19), (RX3, TX3, 2), (RX4, TX4, 3), (RX5, TX5, 6), (RX6, TX6, 9), (RX7, TX7, 27)]
end
section
/-! THE SMALL MACHINE: a memory of fixed cells (ids 1 to 62, what the constructors make), and 'Snd': what a run of the bytecode from a place on comes to, as an Option of (answer, memory); rules, an instruction each. -/
def mm_tbl : List Cond := lw_tbl.filter goodWord
theorem mm_in0 {w : Cond} (i : Nat) (h : (k2_sels lw_privs)[i]? = some w) (g : goodWord w = true) : w ∈ mm_tbl := List.mem_filter.mpr ⟨List.mem_append_left _ (List.mem_of_getElem? h), g⟩
theorem mm_inT {w : Cond} (h : w ∈ tables_1) (g : goodWord w = true) : w ∈ mm_tbl := List.mem_filter.mpr ⟨List.mem_append_right _ h, g⟩
theorem mm_in1 {w : Cond} (i : Nat) (h : tables_1_1[i]? = some w) (g : goodWord w = true) : w ∈ mm_tbl := mm_inT (List.mem_append_left _ (List.mem_of_getElem? h)) g
theorem mm_in2 {w : Cond} (i : Nat) (h : tables_1_2[i]? = some w) (g : goodWord w = true) : w ∈ mm_tbl := mm_inT (List.mem_append_right _ (List.mem_append_left _ (List.mem_of_getElem? h))) g
theorem mm_in3 {w : Cond} (i : Nat) (h : tables_1_3[i]? = some w) (g : goodWord w = true) : w ∈ mm_tbl := mm_inT (List.mem_append_right _ (List.mem_append_right _ (List.mem_append_left _ (List.mem_of_getElem? h)))) g
theorem mm_in4 {w : Cond} (i : Nat) (h : tables_1_4[i]? = some w) (g : goodWord w = true) : w ∈ mm_tbl := mm_inT (List.mem_append_right _ (List.mem_append_right _ (List.mem_append_right _ (List.mem_append_left _ (List.mem_of_getElem? h))))) g
theorem mm_in5 {w : Cond} (i : Nat) (h : tables_1_5[i]? = some w) (g : goodWord w = true) : w ∈ mm_tbl := mm_inT (List.mem_append_right _ (List.mem_append_right _ (List.mem_append_right _ (List.mem_append_right _ (List.mem_append_left _ (List.mem_of_getElem? h)))))) g
theorem mm_in6 {w : Cond} (i : Nat) (h : tables_1_6[i]? = some w) (g : goodWord w = true) : w ∈ mm_tbl := mm_inT (List.mem_append_right _ (List.mem_append_right _ (List.mem_append_right _ (List.mem_append_right _ (List.mem_append_right _ (List.mem_of_getElem? h)))))) g
theorem mm_good : GoodIn mm_tbl mm_tbl := fun w h => ⟨h, good_of_word (List.mem_filter.mp h).2⟩
theorem mm_goodC {w : Cond} (h : w ∈ mm_tbl) : GoodIn mm_tbl (w :: mm_tbl) := fun v hv => by
  rcases List.mem_cons.mp hv with e | e
  · rw [e]; exact mm_good w h
  · exact mm_good v e
-- the memory: ints by cell and place, longs likewise, the three references that move (now, draft, the planner's depot), how many exceptions were made
abbrev mm_M : Type := (Nat → Nat → Int32) × (Nat → Nat → Int64) × (Nat × Nat × Nat) × Nat
def mI (M : mm_M) (c k : Nat) : Int32 := M.1 c k
def mL (M : mm_M) (c k : Nat) : Int64 := M.2.1 c k
def mNow (M : mm_M) : Nat := M.2.2.1.1
def mDra (M : mm_M) : Nat := M.2.2.1.2.1
def mDep (M : mm_M) : Nat := M.2.2.1.2.2
def mG (M : mm_M) : Nat := M.2.2.2
def uR {α : Type} (f : Nat → α) (c : Nat) (g : α) : Nat → α := fun a => if a = c then g else f a
def sR (M : mm_M) (c : Nat) (r : Nat → Int32) : mm_M := (uR M.1 c r, M.2)
def sI (M : mm_M) (c k : Nat) (v : Int32) : mm_M := sR M c (upd (M.1 c) k v)
def sL (M : mm_M) (c k : Nat) (v : Int64) : mm_M := (M.1, uR M.2.1 c (vp_updL (M.2.1 c) k v), M.2.2)
def sNow (M : mm_M) (d : Nat) : mm_M := (M.1, M.2.1, (d, M.2.2.1.2), M.2.2.2)
def sDra (M : mm_M) (d : Nat) : mm_M := (M.1, M.2.1, (M.2.2.1.1, d, M.2.2.1.2.2), M.2.2.2)
def sDep (M : mm_M) (d : Nat) : mm_M := (M.1, M.2.1, (M.2.2.1.1, M.2.2.1.2.1, d), M.2.2.2)
def sG (M : mm_M) (g : Nat) : mm_M := (M.1, M.2.1, M.2.2.1, g)
-- shapes: (0, class, fields) an object; (1, n, 0) ints; (2, n, 0) bytes; (3, n, 0) longs
def mm_shT : List (Nat × Nat × Nat) := [(9, 0, 0), (0, 6, 9),
  (0, 0, 11), (1, 3, 0), (1, 8, 0), (1, 8, 0), (1, 4, 0), (1, 16, 0), (1, 16, 0), (1, 24, 0), (1, 6, 0),
  (0, 0, 11), (1, 3, 0), (1, 8, 0), (1, 8, 0), (1, 4, 0), (1, 16, 0), (1, 16, 0), (1, 24, 0), (1, 6, 0),
  (0, 5, 6), (2, 400, 0), (0, 3, 2), (0, 1, 6), (1, 36, 0), (1, 8, 0),
  (0, 2, 19), (1, 3, 0), (1, 4, 0), (1, 4, 0), (1, 4, 0), (1, 36, 0), (1, 36, 0), (1, 16, 0), (3, 6561, 0), (1, 6561, 0), (1, 4, 0), (1, 4, 0), (1, 4, 0), (1, 4, 0), (1, 16, 0),
  (0, 4, 3), (1, 8, 0), (1, 4, 0), (1, 4, 0), (1, 8, 0),
  (0, 7, 27), (1, 82, 0), (1, 82, 0), (1, 400, 0), (1, 4, 0), (1, 8, 0), (1, 36, 0), (1, 8, 0), (1, 59049, 0), (1, 59049, 0), (1, 59049, 0), (1, 59049, 0), (1, 36, 0), (1, 4, 0), (1, 4, 0), (1, 4, 0),
  (3, 1, 0)]
def mm_sh (c : Nat) : Nat × Nat × Nat := mm_shT.getD c (9, 0, 0)
-- what a field of an object is: 0 an int; 1 now; 2 draft; 3 the planner's depot; 10 + c the cell c
def mm_fkT : List (List Nat) := [[], [1, 2, 30, 32, 33, 36, 51, 55, 0],
  [0, 0, 0, 13, 14, 15, 16, 17, 18, 19, 20], [], [], [], [], [], [], [], [],
  [0, 0, 0, 22, 23, 24, 25, 26, 27, 28, 29], [], [], [], [], [], [], [], [],
  [31, 0, 0, 0, 0, 0], [], [30, 0], [34, 35, 0, 0, 0, 0], [], [],
  [37, 38, 0, 3, 39, 40, 41, 42, 43, 44, 45, 46, 47, 48, 49, 0, 0, 0, 50], [], [], [], [], [], [], [], [], [], [], [], [], [], [],
  [52, 53, 54], [], [], [], [],
  [0, 57, 58, 59, 0, 0, 0, 0, 0, 0, 0, 0, 0, 0, 60, 0, 61, 62, 63, 64, 65, 66, 67, 68, 69, 70, 71]]
def mm_fk (c k : Nat) : Nat := (mm_fkT.getD c []).getD k 0
def mm_fv (ad : Nat → Nat) (M : mm_M) (c k : Nat) : Value :=
  if mm_fk c k = 0 then .int (M.1 c k) else if mm_fk c k = 1 then .ref (ad M.2.2.1.1) else if mm_fk c k = 2 then .ref (ad M.2.2.1.2.1) else if mm_fk c k = 3 then .ref (ad M.2.2.1.2.2) else .ref (ad (mm_fk c k - 10))
abbrev mm_K : Type := ClassId × ClassId × ClassId
abbrev mm_ty (cs : mm_K) : List (ClassId × FieldType) := [(cs.1, .int), (cs.2.1, .byte), (cs.2.2, .long)]
def mm_e (ad : Nat → Nat) (cs : mm_K) (M : mm_M) (c : Nat) : va_E :=
  if (mm_sh c).1 = 0 then .inr ((mm_sh c).2.1, (List.range (mm_sh c).2.2).map (mm_fv ad M c))
  else if (mm_sh c).1 = 1 then .inl (cs.1, (mm_sh c).2.1, .inl (M.1 c))
  else if (mm_sh c).1 = 2 then .inl (cs.2.1, (mm_sh c).2.1, .inl (M.1 c))
  else .inl (cs.2.2, (mm_sh c).2.1, .inr (.inl (M.2.1 c)))
def mm_ws (ad : Nat → Nat) (cs : mm_K) (M : mm_M) : va_W := (List.range 62).map (fun j => (ad (j + 1), mm_e ad cs M (j + 1)))
theorem mm_get (ad : Nat → Nat) (cs : mm_K) (M : mm_M) {c : Nat} (h : 0 < c ∧ c ≤ 62) : (mm_ws ad cs M)[c - 1]? = some (ad c, mm_e ad cs M c) := by
  unfold mm_ws
  rw [List.getElem?_map, List.getElem?_range (by omega)]
  simp only [Option.map_some]
  rw [show c - 1 + 1 = c by omega]
theorem mm_set (ad : Nat → Nat) (cs : mm_K) (M M' : mm_M) {c : Nat} (h : 0 < c ∧ c ≤ 62) {E : va_E} (ho : ∀ a, a ≠ c → mm_e ad cs M a = mm_e ad cs M' a) (he : mm_e ad cs M' c = E) :
    (mm_ws ad cs M).set (c - 1) (ad c, E) = mm_ws ad cs M' := by
  unfold mm_ws
  apply List.ext_getElem?
  intro i
  rw [List.getElem?_set]
  by_cases hi : c - 1 = i
  · subst hi
    rw [if_pos rfl, if_pos (by simp; omega), List.getElem?_map, List.getElem?_range (by omega)]
    simp only [Option.map_some]
    rw [show c - 1 + 1 = c by omega, he]
  · rw [if_neg hi, List.getElem?_map, List.getElem?_map]
    by_cases hl : i < 62
    · rw [List.getElem?_range hl]
      simp only [Option.map_some]
      rw [ho (i + 1) (by omega)]
    · rw [List.getElem?_eq_none (by simp; omega)]
      rfl
theorem mm_len (ad : Nat → Nat) (cs : mm_K) (M : mm_M) : (mm_ws ad cs M).length = 62 := by simp [mm_ws]
theorem uR_ne {α : Type} {f : Nat → α} {c a : Nat} {g : α} (h : a ≠ c) : uR f c g a = f a := if_neg h
theorem uR_eq {α : Type} {f : Nat → α} {c : Nat} {g : α} : uR f c g c = g := if_pos rfl
theorem mm_fv_ne (ad : Nat → Nat) (M : mm_M) {c a : Nat} (r : Nat → Int32) (h : a ≠ c) : mm_fv ad (sR M c r) a = mm_fv ad M a := by
  funext k
  simp only [mm_fv, sR, uR_ne h]
theorem mm_e_ne (ad : Nat → Nat) (cs : mm_K) (M : mm_M) {c : Nat} (r : Nat → Int32) : ∀ a, a ≠ c → mm_e ad cs M a = mm_e ad cs (sR M c r) a := by
  intro a h
  simp only [mm_e, mm_fv_ne ad M r h]
  simp only [sR, uR_ne h]
theorem mm_eL_ne (ad : Nat → Nat) (cs : mm_K) (M : mm_M) {c k : Nat} {v : Int64} : ∀ a, a ≠ c → mm_e ad cs M a = mm_e ad cs (sL M c k v) a := by
  intro a h
  simp only [mm_e, sL, uR_ne h]
  rfl
theorem mm_fields (ad : Nat → Nat) (M : mm_M) (c n : Nat) {k : Nat} (h : k < n) : ((List.range n).map (mm_fv ad M c))[k]? = some (mm_fv ad M c k) := by
  rw [List.getElem?_map, List.getElem?_range h]; rfl
theorem mm_fset (ad : Nat → Nat) (M M' : mm_M) (c n : Nat) {k : Nat} {v : Value} (h : k < n) (hv : mm_fv ad M' c k = v) (ho : ∀ b, b ≠ k → mm_fv ad M c b = mm_fv ad M' c b) : ((List.range n).map (mm_fv ad M c)).set k v = (List.range n).map (mm_fv ad M' c) := by
  apply List.ext_getElem?
  intro i
  rw [List.getElem?_set]
  by_cases hi : k = i
  · subst hi
    rw [if_pos rfl, if_pos (by simp; omega), List.getElem?_map, List.getElem?_range h]
    simp [hv]
  · rw [if_neg hi, List.getElem?_map, List.getElem?_map]
    by_cases hl : i < n
    · rw [List.getElem?_range hl]
      simp [ho i (fun e => hi e.symm)]
    · rw [List.getElem?_eq_none (by simp; omega)]
      rfl
end
section
/-! what lies outside the cells and never changes: three static tables, the texts, words of nest mates -/
def mm_ro (t j : Nat) : Int32 := (([[4, 50, 200], [0, 1, 1, 2, 1, 2, 2, 3, 1, 2, 2, 3, 2, 3, 3, 4], [0, 0, 1, 0, 2, 0, 1, 0, 3, 0, 1, 0, 2, 0, 1, 0]] : List (List Int32)).getD t []).getD j 0
def mm_txt : List (List Int32) := [[115, 108, 111, 116, 115], [112, 114, 105, 99, 101], [112, 108, 117, 103, 115], [112, 111, 119, 101, 114], [108, 105, 109, 105, 116], [99, 117, 114, 118, 101], [98, 117, 115], [99, 104, 97, 114, 103, 101]]
def mm_txl : List Nat := [5, 5, 5, 5, 5, 5, 3, 6]
def mm_rw : List Cond := [.fieldLinkNest "DepotCharge$Reader" 109 "DepotCharge" "MOST_OF_SETTING" "[I" "DepotCharge", .fieldLinkNest "DepotCharge$Depot" 66 "DepotCharge" "MOST_OF_SETTING" "[I" "DepotCharge", .fieldLinkNest "DepotCharge$Ledger" 55 "DepotCharge" "SIZE_OF_SET" "[I" "DepotCharge", .fieldLinkNest "DepotCharge$Planner" 141 "DepotCharge" "SIZE_OF_SET" "[I" "DepotCharge", .fieldLinkNest "DepotCharge$Planner" 144 "DepotCharge" "FIRST_OF_SET" "[I" "DepotCharge", .fieldLinkNest "DepotCharge$Ruler" 46 "DepotCharge" "SIZE_OF_SET" "[I" "DepotCharge", .fieldLinkNest "DepotCharge$Ruler" 63 "DepotCharge" "FIRST_OF_SET" "[I" "DepotCharge"]
def mm_RO (ad : Nat → Nat) (A : Nat → Prop) (U : State) (H : Heap) : Prop :=
  (va_Z "DepotCharge" "MOST_OF_SETTING" "[I" (.ref (ad 100)) A U H ∧ va_Z "DepotCharge" "SIZE_OF_SET" "[I" (.ref (ad 101)) A U H ∧ va_Z "DepotCharge" "FIRST_OF_SET" "[I" (.ref (ad 102)) A U H) ∧
  (va_T .int (ad 100) 3 (fun j => .int (mm_ro 0 j)) A U H ∧ va_T .int (ad 101) 16 (fun j => .int (mm_ro 1 j)) A U H ∧ va_T .int (ad 102) 16 (fun j => .int (mm_ro 2 j)) A U H) ∧
  (∀ w ∈ mm_rw, va_Nw w U) ∧
  (vk_S 8 mm_txl mm_txt (fun i => ad (200 + i)) (fun i => ad (300 + i)) A U H ∧ vk_R "DepotCharge$Reader" 34 "slots" (ad 200) U ∧ vk_R "DepotCharge$Reader" 43 "price" (ad 201) U ∧ vk_R "DepotCharge$Reader" 48 "plugs" (ad 202) U ∧ vk_R "DepotCharge$Reader" 54 "power" (ad 203) U ∧ vk_R "DepotCharge$Reader" 56 "limit" (ad 204) U ∧ vk_R "DepotCharge$Reader" 58 "curve" (ad 205) U ∧ vk_R "DepotCharge$Reader" 63 "bus" (ad 206) U ∧ vk_R "DepotCharge$Reader" 68 "charge" (ad 207) U) ∧
  (va_Z "java/lang/String" "COMPACT_STRINGS" "Z" (.int 1) A U H ∧ (va_Z "jdk/internal/util/Preconditions" "SIOOBE_FORMATTER" "Ljava/util/function/BiFunction;" .null A U H ∨ va_Z "jdk/internal/util/Preconditions" "SIOOBE_FORMATTER" "Ljava/util/function/BiFunction;" (.ref (ad 400)) A U H))
theorem mm_RO.kept {ad : Nat → Nat} {A : Nat → Prop} {U : State} {H H1 : Heap} (h : mm_RO ad A U H) (hq : ∀ a : Nat, a < H.size → ¬ A a → H1[a]? = H[a]?) : mm_RO ad A U H1 := by
  obtain ⟨⟨a1, a2, a3⟩, ⟨b1, b2, b3⟩, c, ⟨d1, d2⟩, e1, e2⟩ := h
  exact ⟨⟨a1.kept hq, a2.kept hq, a3.kept hq⟩, ⟨b1.kept hq, b2.kept hq, b3.kept hq⟩, c, ⟨d1.kept hq, d2⟩, e1.kept hq, e2.imp (fun h => h.kept hq) (fun h => h.kept hq)⟩
theorem mm_RO.narrow {ad : Nat → Nat} {A B : Nat → Prop} {U : State} {H : Heap} (h : mm_RO ad A U H) (hq : ∀ q, B q → A q) : mm_RO ad B U H := by
  obtain ⟨⟨a1, a2, a3⟩, ⟨b1, b2, b3⟩, c, ⟨d1, d2⟩, e1, e2⟩ := h
  exact ⟨⟨a1.narrow hq, a2.narrow hq, a3.narrow hq⟩, ⟨b1.narrow hq, b2.narrow hq, b3.narrow hq⟩, c, ⟨d1.narrow hq, d2⟩, e1.narrow hq, e2.imp (fun h => h.narrow hq) (fun h => h.narrow hq)⟩
theorem mm_rw_tab : ∀ w ∈ mm_rw, w.onTables = true := by decide +kernel
theorem mm_rw_warm {s U : State} (hW : s.WarmedH U.vm) (h : ∀ w ∈ mm_rw, va_Nw w s) : ∀ w ∈ mm_rw, va_Nw w U := by
  intro w hw
  have h1 := h w hw
  simp only [mm_rw, List.mem_cons, List.not_mem_nil, or_false] at hw
  rcases hw with e | e | e | e | e | e | e <;> (subst e; exact va_Nw.warmF hW h1)
theorem mm_RO.warm {ad : Nat → Nat} {A : Nat → Prop} {s U : State} {H : Heap} (hW : s.WarmedH U.vm) (h : mm_RO ad A s H) : mm_RO ad A U H := by
  have hv := hW.alike
  obtain ⟨⟨a1, a2, a3⟩, ⟨b1, b2, b3⟩, c, ⟨d1, d2, d3, d4, d5, d6, d7, d8, d9⟩, e1, e2⟩ := h
  exact ⟨⟨a1.moved hv, a2.moved hv, a3.moved hv⟩, ⟨b1.moved hv, b2.moved hv, b3.moved hv⟩, mm_rw_warm hW c, ⟨d1.moved hv, d2.warm hW, d3.warm hW, d4.warm hW, d5.warm hW, d6.warm hW, d7.warm hW, d8.warm hW, d9.warm hW⟩, e1.moved hv, e2.imp (fun h => h.moved hv) (fun h => h.moved hv)⟩
theorem mm_RO.same {ad : Nat → Nat} {A : Nat → Prop} {s U : State} {H : Heap} (hW : U.vm = s.vm) (h : mm_RO ad A s H) : mm_RO ad A U H := by
  have hv : s.vm.Alike U.vm := by rw [hW]; exact Vm.Alike.refl _
  obtain ⟨⟨a1, a2, a3⟩, ⟨b1, b2, b3⟩, c, ⟨d1, d2, d3, d4, d5, d6, d7, d8, d9⟩, e1, e2⟩ := h
  exact ⟨⟨a1.moved hv, a2.moved hv, a3.moved hv⟩, ⟨b1.moved hv, b2.moved hv, b3.moved hv⟩, fun w hw => va_Nw.same (mm_rw_tab w hw) hW.symm (c w hw), ⟨d1.moved hv, d2.same hW, d3.same hW, d4.same hW, d5.same hW, d6.same hW, d7.same hW, d8.same hW, d9.same hW⟩, e1.moved hv, e2.imp (fun h => h.moved hv) (fun h => h.moved hv)⟩
-- values: a reference is a cell's id; ad: where the cells lie
def mm_v (ad : Nat → Nat) : Value → Value
  | .ref k => .ref (ad k)
  | v => v
def mm_L (ad : Nat → Nat) (lo : List (Option Value)) (ls : Array Slot) (nL : Nat) : Prop := ls.size = nL ∧ lv_wf ls ∧ ∀ (i : Nat) (v : Value), lo[i]? = some (some v) → ls[i]? = some (.val (mm_v ad v))
-- a method: its name, bytes, locals, answer, and how deep it goes
abbrev mm_J : Type := MethodName × ByteArray × Nat × Option FieldType × Nat
abbrev mm_X : Type := Nat × (Nat → Int32)
/-- what a walk of the method j has, from its entry on -/
def mm_C (j : mm_J) (X : mm_X) (p : Program) (R : Room) (s : State) (m : MethodId) (args : Array Value) (meth : Method) (c : Code) (D : va_G) (A : Nat → Prop) (cs : mm_K) (ad : Nat → Nat) : Prop :=
  p.tables.exec = Jvm.exec ∧ c.code = j.2.1 ∧ c.maxLocals = j.2.2.1 ∧ meth.sig.returnType = j.2.2.2.1 ∧ (∀ w ∈ mm_tbl, w.before args s = true) ∧ s.vm.findClass j.1.cls = some m.cls ∧ meth.locks = false ∧
  va_K D vwCl (mm_ty cs) s ∧ (∀ q, s.heap.size ≤ q → A q) ∧ mm_RO ad A s s.heap ∧ (X.1 = 0 ∨ va_T .int (ad 103) X.1 (fun j => .int (X.2 j)) A s s.heap) ∧ j.2.2.2.2 ≤ R.frames ∧ 36 * j.2.2.2.2 ≤ R.locals
def mm_W (s : State) (D : va_G) (A : Nat → Prop) (cs : mm_K) (ad : Nat → Nat) (M : mm_M) (H : Heap) (locs : List Loc) : Prop :=
  va_P D vwCl (mm_ws ad cs M) H ∧ va_D A (mm_ws ad cs M) ∧ va_S A s.heap H locs
/-- an end of j: the answer r is on the stack at pc -/
def mm_E (j : mm_J) (pc : Nat) (r : Option Value) (st : List Value) : Prop := match r with
  | none => st = [] ∧ decode j.2.1 pc = .ok (.return_, 1) ∧ j.2.2.2.1 = none
  | some (.int v) => st = [.int v] ∧ decode j.2.1 pc = .ok (.ireturn, 1) ∧ ∃ ty, j.2.2.2.1 = some ty ∧ narrow ty (.int v) = .int v
  | some (.long v) => st = [.long v] ∧ decode j.2.1 pc = .ok (.lreturn, 1) ∧ j.2.2.2.1 = some .long
  | _ => False
/-- from pc on, with locals lo, stack st and memory M: if ee comes to x, so does the machine -/
def Snd {α : Type} (inj : α → Option Value × mm_M) (j : mm_J) (X : mm_X) (pc : Nat) (lo : List (Option Value)) (st : List Value) (M : mm_M) (ee : Option α) : Prop :=
  ∀ x, ee = some x → mG M ≤ mG (inj x).2 ∧ ∀ (p : Program) (l : Launch) (e : Env) (R : Room) (s : State) (m : MethodId) (args : Array Value) (below : List Frame) (meth : Method) (c : Code) (D : va_G) (A : Nat → Prop) (cs : mm_K) (ad : Nat → Nat) (g0 k0 s0 : Nat) (Q : State → Prop),
    mm_C j X p R s m args meth c D A cs ad → k0 + mG (inj x).2 ≤ R.cells + g0 → s0 + 6 * mG (inj x).2 ≤ R.slots + 6 * g0 →
    (∀ (H : Heap) (locs : List Loc) (cells slots : Nat) (pc : Nat) (ls : Array Slot) (st : List Value), mm_W s D A cs ad (inj x).2 H locs → cells + g0 = k0 + mG (inj x).2 → slots + 6 * g0 = s0 + 6 * mG (inj x).2 → mm_E j pc (inj x).1 st → W p l e R s m args below meth c H locs cells slots Q (F0 m pc ls st)) →
    ∀ (H : Heap) (locs : List Loc) (cells slots : Nat) (ls : Array Slot), mm_W s D A cs ad M H locs → mm_L ad lo ls j.2.2.1 → cells + g0 = k0 + mG M → slots + 6 * g0 = s0 + 6 * mG M → W p l e R s m args below meth c H locs cells slots Q (F0 m pc ls (st.map (mm_v ad)))
/-- one step -/
def mStp (j : mm_J) (X : mm_X) (pc : Nat) (lo : List (Option Value)) (st : List Value) (M : mm_M) (pc' : Nat) (lo' : List (Option Value)) (st' : List Value) (M' : mm_M) : Prop :=
  mG M' = mG M ∧ ∀ (p : Program) (l : Launch) (e : Env) (R : Room) (s : State) (m : MethodId) (args : Array Value) (below : List Frame) (meth : Method) (c : Code) (D : va_G) (A : Nat → Prop) (cs : mm_K) (ad : Nat → Nat) (Q : State → Prop),
    mm_C j X p R s m args meth c D A cs ad → ∀ (H : Heap) (locs : List Loc) (cells slots : Nat) (ls : Array Slot), cells ≤ R.cells → slots ≤ R.slots → mm_W s D A cs ad M H locs → mm_L ad lo ls j.2.2.1 →
    (∀ (H' : Heap) (locs' : List Loc) (ls' : Array Slot), mm_W s D A cs ad M' H' locs' → mm_L ad lo' ls' j.2.2.1 → W p l e R s m args below meth c H' locs' cells slots Q (F0 m pc' ls' (st'.map (mm_v ad)))) →
    W p l e R s m args below meth c H locs cells slots Q (F0 m pc ls (st.map (mm_v ad)))
theorem mStp.go {α : Type} {inj : α → Option Value × mm_M} {j : mm_J} {X : mm_X} {pc pc' : Nat} {lo lo' : List (Option Value)} {st st' : List Value} {M M' : mm_M} {ee : Option α} (h : mStp j X pc lo st M pc' lo' st' M') (k : Snd inj j X pc' lo' st' M' ee) : Snd inj j X pc lo st M ee := by
  intro x hx
  obtain ⟨k1, k2⟩ := k x hx
  refine ⟨by rw [← h.1]; exact k1, ?_⟩
  intro p l e R s m args below meth c D A cs ad g0 k0 s0 Q C b1 b2 hQ H locs cells slots ls hW hL hc hs
  refine h.2 p l e R s m args below meth c D A cs ad Q C H locs cells slots ls (by have := h.1; omega) (by have := h.1; omega) hW hL fun H' locs' ls' hW' hL' => ?_
  exact k2 p l e R s m args below meth c D A cs ad g0 k0 s0 Q C b1 b2 hQ H' locs' cells slots ls' hW' hL' (by rw [h.1]; exact hc) (by rw [h.1]; exact hs)
theorem Snd.none {α : Type} {inj : α → Option Value × mm_M} {j : mm_J} {X : mm_X} {pc : Nat} {lo : List (Option Value)} {st : List Value} {M : mm_M} : Snd inj j X pc lo st M (Option.none : Option α) := fun x hx => by cases hx
theorem Snd.ite {α : Type} {inj : α → Option Value × mm_M} {j : mm_J} {X : mm_X} {pc : Nat} {lo : List (Option Value)} {st : List Value} {M : mm_M} {b : Bool} {ee : Option α} (k : b = true → Snd inj j X pc lo st M ee) : Snd inj j X pc lo st M (if b = true then ee else Option.none) := by
  by_cases h : b = true
  · rw [if_pos h]; exact k h
  · rw [if_neg h]; exact Snd.none
theorem Snd.gd {α : Type} {inj : α → Option Value × mm_M} {j : mm_J} {X : mm_X} {pc : Nat} {lo : List (Option Value)} {st : List Value} {M : mm_M} {P : Prop} [Decidable P] {ee : Option α} (k : P → Snd inj j X pc lo st M ee) : Snd inj j X pc lo st M (if P then ee else Option.none) := by
  by_cases h : P
  · rw [if_pos h]; exact k h
  · rw [if_neg h]; exact Snd.none
-- locals
def mm_kill (lo : List (Option Value)) (i : Nat) : List (Option Value) := match i with
  | 0 => lo
  | k + 1 => match lo[k]? with
    | some (some (.long _)) => lo.set k Option.none
    | some (some (.double _)) => lo.set k Option.none
    | _ => lo
def mm_st1 (lo : List (Option Value)) (i : Nat) (v : Value) : List (Option Value) := (mm_kill lo i).set i (some v)
def mm_st2 (lo : List (Option Value)) (i : Nat) (v : Value) : List (Option Value) := ((mm_kill lo i).set i (some v)).set (i + 1) Option.none
theorem mm_v_cat (ad : Nat → Nat) (v : Value) : (mm_v ad v).category = v.category := by cases v <;> rfl
theorem mm_kill_sub {lo : List (Option Value)} {i k : Nat} {v : Value} (h : (mm_kill lo i)[k]? = some (some v)) : lo[k]? = some (some v) ∧ ¬ (k + 1 = i ∧ v.category = 2) := by
  cases i with
  | zero => exact ⟨h, by omega⟩
  | succ n =>
    unfold mm_kill at h
    dsimp only at h
    split at h
    · next w hw =>
      by_cases hk : k = n
      · subst hk
        have hl : k < lo.length := (List.getElem?_eq_some_iff.mp hw).1
        rw [List.getElem?_set_self hl] at h
        cases h
      · rw [List.getElem?_set_ne (fun e => hk e.symm)] at h
        exact ⟨h, by omega⟩
    · next w hw =>
      by_cases hk : k = n
      · subst hk
        have hl : k < lo.length := (List.getElem?_eq_some_iff.mp hw).1
        rw [List.getElem?_set_self hl] at h
        cases h
      · rw [List.getElem?_set_ne (fun e => hk e.symm)] at h
        exact ⟨h, by omega⟩
    · next h1 h2 =>
      refine ⟨h, fun q => ?_⟩
      obtain ⟨q1, q2⟩ := q
      have hk : k = n := by omega
      subst hk
      cases v with
      | long z => exact h1 z h
      | double z => exact h2 z h
      | _ => simp [Value.category] at q2
theorem mm_st1_mem {lo : List (Option Value)} {i k : Nat} {v w : Value} (h : (mm_st1 lo i v)[k]? = some (some w)) : (k = i ∧ w = v) ∨ (k ≠ i ∧ lo[k]? = some (some w) ∧ ¬ (k + 1 = i ∧ w.category = 2)) := by
  unfold mm_st1 at h
  by_cases hk : k = i
  · subst hk
    rw [List.getElem?_set] at h
    rw [if_pos rfl] at h
    split at h
    · cases h; exact Or.inl ⟨rfl, rfl⟩
    · cases h
  · rw [List.getElem?_set_ne (fun e => hk e.symm)] at h
    exact Or.inr ⟨hk, mm_kill_sub h⟩
theorem mm_st2_mem {lo : List (Option Value)} {i k : Nat} {v w : Value} (h : (mm_st2 lo i v)[k]? = some (some w)) : (k = i ∧ w = v) ∨ (k ≠ i ∧ k ≠ i + 1 ∧ lo[k]? = some (some w) ∧ ¬ (k + 1 = i ∧ w.category = 2)) := by
  unfold mm_st2 at h
  by_cases hk2 : k = i + 1
  · subst hk2
    rw [List.getElem?_set, if_pos rfl] at h
    split at h
    · cases h
    · cases h
  · rw [List.getElem?_set_ne (fun e => hk2 e.symm)] at h
    rcases mm_st1_mem (lo := lo) (i := i) (v := v) h with q | ⟨q1, q2⟩
    · exact Or.inl q
    · exact Or.inr ⟨q1, hk2, q2⟩
/-- the locals' list of the kit, out of ours -/
def mm_lv (ad : Nat → Nat) (ls : Array Slot) (lo : List (Option Value)) : List (Nat × Value) := (List.range lo.length).filterMap (fun i => match lo[i]? with | some (some v) => some (i, mm_v ad v) | _ => Option.none)
theorem mm_lv_mem {ad : Nat → Nat} {ls : Array Slot} {lo : List (Option Value)} {i : Nat} {v : Value} (h : lo[i]? = some (some v)) : (i, mm_v ad v) ∈ mm_lv ad ls lo := by
  unfold mm_lv
  refine List.mem_filterMap.mpr ⟨i, List.mem_range.mpr (List.getElem?_eq_some_iff.mp h).1, ?_⟩
  rw [h]
theorem mm_lv_of {ad : Nat → Nat} {ls : Array Slot} {lo : List (Option Value)} {q : Nat × Value} (h : q ∈ mm_lv ad ls lo) : ∃ v, lo[q.1]? = some (some v) ∧ q.2 = mm_v ad v := by
  unfold mm_lv at h
  obtain ⟨i, -, hi⟩ := List.mem_filterMap.mp h
  split at hi
  · next v hv => cases hi; exact ⟨v, hv, rfl⟩
  · cases hi
theorem mm_L.has {ad : Nat → Nat} {lo : List (Option Value)} {ls : Array Slot} {nL : Nat} (h : mm_L ad lo ls nL) : lv_has ls nL (mm_lv ad ls lo) := ⟨h.1, h.2.1, fun q hq => by
  obtain ⟨v, h1, h2⟩ := mm_lv_of hq
  rw [h2]; exact h.2.2 q.1 v h1⟩
theorem mm_L.store1 {ad : Nat → Nat} {lo lo' : List (Option Value)} {ls ls' : Array Slot} {nL i : Nat} {v : Value} (h : lv_has ls' nL ((i, mm_v ad v) :: (mm_lv ad ls lo).filter (fun q => !(q.1 == i) && !(q.1 + 1 == i && q.2.category == 2)))) (hl : mm_st1 lo i v = lo') : mm_L ad lo' ls' nL := by
  subst hl
  refine ⟨h.1, h.2.1, fun k w hk => ?_⟩
  rcases mm_st1_mem hk with ⟨e1, e2⟩ | ⟨e1, e2, e3⟩
  · subst e1; subst e2
    exact h.2.2 (k, mm_v ad w) List.mem_cons_self
  · refine h.2.2 (k, mm_v ad w) (List.mem_cons_of_mem _ (List.mem_filter.mpr ⟨mm_lv_mem e2, ?_⟩))
    simp only [mm_v_cat, Bool.and_eq_true, Bool.not_eq_true', beq_eq_false_iff_ne, Bool.and_eq_false_iff, beq_iff_eq]
    refine ⟨e1, ?_⟩
    by_cases q : k + 1 = i
    · right; intro z; exact e3 ⟨q, z⟩
    · left; exact q
theorem mm_L.store2 {ad : Nat → Nat} {lo lo' : List (Option Value)} {ls ls' : Array Slot} {nL i : Nat} {v : Value} (h : lv_has ls' nL ((i, mm_v ad v) :: (mm_lv ad ls lo).filter (fun q => !(q.1 == i) && (!(q.1 == i + 1) && !(q.1 + 1 == i && q.2.category == 2))))) (hl : mm_st2 lo i v = lo') : mm_L ad lo' ls' nL := by
  subst hl
  refine ⟨h.1, h.2.1, fun k w hk => ?_⟩
  rcases mm_st2_mem hk with ⟨e1, e2⟩ | ⟨e1, e0, e2, e3⟩
  · subst e1; subst e2
    exact h.2.2 (k, mm_v ad w) List.mem_cons_self
  · refine h.2.2 (k, mm_v ad w) (List.mem_cons_of_mem _ (List.mem_filter.mpr ⟨mm_lv_mem e2, ?_⟩))
    simp only [mm_v_cat, Bool.and_eq_true, Bool.not_eq_true', beq_eq_false_iff_ne, Bool.and_eq_false_iff, beq_iff_eq]
    refine ⟨e1, e0, ?_⟩
    by_cases q : k + 1 = i
    · right; intro z; exact e3 ⟨q, z⟩
    · left; exact q
/-- fewer locals -/
def mm_le : List (Option Value) → List (Option Value) → Prop
  | [], _ => True
  | Option.none :: a, [] => mm_le a []
  | Option.none :: a, _ :: b => mm_le a b
  | some v :: a, b :: bs => b = some v ∧ mm_le a bs
  | some _ :: _, [] => False
theorem mm_le_at : ∀ (a b : List (Option Value)), mm_le a b → ∀ (i : Nat) (v : Value), a[i]? = some (some v) → b[i]? = some (some v)
  | [], b, _, i, v, hv => by simp at hv
  | Option.none :: a, [], h, i, v, hv => by
    cases i with
    | zero => simp at hv
    | succ i =>
      rw [List.getElem?_cons_succ] at hv
      have := mm_le_at a [] h i v hv
      simp at this
  | Option.none :: a, x :: b, h, i, v, hv => by
    cases i with
    | zero => simp at hv
    | succ i =>
      rw [List.getElem?_cons_succ] at hv ⊢
      exact mm_le_at a b h i v hv
  | some w :: a, x :: b, h, i, v, hv => by
    cases i with
    | zero =>
      rw [List.getElem?_cons_zero] at hv ⊢
      rw [h.1]; exact hv
    | succ i =>
      rw [List.getElem?_cons_succ] at hv ⊢
      exact mm_le_at a b h.2 i v hv
  | some w :: a, [], h, i, v, hv => h.elim
theorem Snd.wk {α : Type} {inj : α → Option Value × mm_M} {j : mm_J} {X : mm_X} {pc : Nat} {lo lo' : List (Option Value)} {st : List Value} {M : mm_M} {ee : Option α} (k : Snd inj j X pc lo' st M ee) (h : mm_le lo' lo) : Snd inj j X pc lo st M ee := by
  intro x hx
  obtain ⟨k1, k2⟩ := k x hx
  refine ⟨k1, ?_⟩
  intro p l e R s m args below meth c D A cs ad g0 k0 s0 Q C b1 b2 hQ H locs cells slots ls hW hL hc hs
  exact k2 p l e R s m args below meth c D A cs ad g0 k0 s0 Q C b1 b2 hQ H locs cells slots ls hW ⟨hL.1, hL.2.1, fun i v hv => hL.2.2 i v (mm_le_at _ _ h i v hv)⟩ hc hs
end
section
section RULES
variable {α : Type} {inj : α → Option Value × mm_M} {j : mm_J} {X : mm_X} {pc : Nat} {lo lo' : List (Option Value)} {st : List Value} {M : mm_M} {ee ef : Option α}
def bI (v : Int32) (e : Int32 → Option α) : Option α := e v
def bL (v : Int64) (e : Int64 → Option α) : Option α := e v
def bN (v : Nat) (e : Nat → Option α) : Option α := e v
def bM (v : mm_M) (e : mm_M → Option α) : Option α := e v
def inb (i : Int32) (n : Nat) : Bool := !(decide (i < 0)) && decide (i.toNatClampNeg < n)
theorem inb_in {i : Int32} {n : Nat} (h : inb i n = true) : vp_in i n := by
  unfold inb at h
  simp only [Bool.and_eq_true, Bool.not_eq_true', decide_eq_false_iff_not, decide_eq_true_eq] at h
  rintro (q | q)
  · exact h.1 q
  · omega
theorem sn_iadd {a b : Int32} (hd : decode j.2.1 pc = .ok (.iadd, 1)) (k : Snd inj j X (pc + 1) lo (.int (a + b) :: st) M ee) : Snd inj j X pc lo (.int b :: .int a :: st) M ee := mStp.go ⟨rfl, fun p l e R s m args below meth c D A cs ad Q C H locs cells slots ls h1 h2 hW hL kk => lv_iadd C.1 C.2.1 hd (kk H locs ls hW hL)⟩ k
theorem sn_isub {a b : Int32} (hd : decode j.2.1 pc = .ok (.isub, 1)) (k : Snd inj j X (pc + 1) lo (.int (a - b) :: st) M ee) : Snd inj j X pc lo (.int b :: .int a :: st) M ee := mStp.go ⟨rfl, fun p l e R s m args below meth c D A cs ad Q C H locs cells slots ls h1 h2 hW hL kk => lv_isub C.1 C.2.1 hd (kk H locs ls hW hL)⟩ k
theorem sn_imul {a b : Int32} (hd : decode j.2.1 pc = .ok (.imul, 1)) (k : Snd inj j X (pc + 1) lo (.int (a * b) :: st) M ee) : Snd inj j X pc lo (.int b :: .int a :: st) M ee := mStp.go ⟨rfl, fun p l e R s m args below meth c D A cs ad Q C H locs cells slots ls h1 h2 hW hL kk => lv_imul C.1 C.2.1 hd (kk H locs ls hW hL)⟩ k
theorem sn_iand {a b : Int32} (hd : decode j.2.1 pc = .ok (.iand, 1)) (k : Snd inj j X (pc + 1) lo (.int (a &&& b) :: st) M ee) : Snd inj j X pc lo (.int b :: .int a :: st) M ee := mStp.go ⟨rfl, fun p l e R s m args below meth c D A cs ad Q C H locs cells slots ls h1 h2 hW hL kk => lv_iand C.1 C.2.1 hd (kk H locs ls hW hL)⟩ k
theorem sn_ior {a b : Int32} (hd : decode j.2.1 pc = .ok (.ior, 1)) (k : Snd inj j X (pc + 1) lo (.int (a ||| b) :: st) M ee) : Snd inj j X pc lo (.int b :: .int a :: st) M ee := mStp.go ⟨rfl, fun p l e R s m args below meth c D A cs ad Q C H locs cells slots ls h1 h2 hW hL kk => lv_ior C.1 C.2.1 hd (kk H locs ls hW hL)⟩ k
theorem sn_ixor {a b : Int32} (hd : decode j.2.1 pc = .ok (.ixor, 1)) (k : Snd inj j X (pc + 1) lo (.int (a ^^^ b) :: st) M ee) : Snd inj j X pc lo (.int b :: .int a :: st) M ee := mStp.go ⟨rfl, fun p l e R s m args below meth c D A cs ad Q C H locs cells slots ls h1 h2 hW hL kk => lv_ixor C.1 C.2.1 hd (kk H locs ls hW hL)⟩ k
theorem sn_ishl {a b : Int32} (hd : decode j.2.1 pc = .ok (.ishl, 1)) (k : Snd inj j X (pc + 1) lo (.int (a <<< (b &&& 31)) :: st) M ee) : Snd inj j X pc lo (.int b :: .int a :: st) M ee := mStp.go ⟨rfl, fun p l e R s m args below meth c D A cs ad Q C H locs cells slots ls h1 h2 hW hL kk => lv_ishl C.1 C.2.1 hd (kk H locs ls hW hL)⟩ k
theorem sn_ishr {a b : Int32} (hd : decode j.2.1 pc = .ok (.ishr, 1)) (k : Snd inj j X (pc + 1) lo (.int (a >>> (b &&& 31)) :: st) M ee) : Snd inj j X pc lo (.int b :: .int a :: st) M ee := mStp.go ⟨rfl, fun p l e R s m args below meth c D A cs ad Q C H locs cells slots ls h1 h2 hW hL kk => lv_ishr C.1 C.2.1 hd (kk H locs ls hW hL)⟩ k
theorem sn_iushr {a b : Int32} (hd : decode j.2.1 pc = .ok (.iushr, 1)) (k : Snd inj j X (pc + 1) lo (.int ((a.toUInt32 >>> (b.toUInt32 &&& Int32.toUInt32 31)).toInt32) :: st) M ee) : Snd inj j X pc lo (.int b :: .int a :: st) M ee := mStp.go ⟨rfl, fun p l e R s m args below meth c D A cs ad Q C H locs cells slots ls h1 h2 hW hL kk => lv_iushr C.1 C.2.1 hd rfl (kk H locs ls hW hL)⟩ k
theorem sn_ineg {a : Int32} (hd : decode j.2.1 pc = .ok (.ineg, 1)) (k : Snd inj j X (pc + 1) lo (.int (-a) :: st) M ee) : Snd inj j X pc lo (.int a :: st) M ee := mStp.go ⟨rfl, fun p l e R s m args below meth c D A cs ad Q C H locs cells slots ls h1 h2 hW hL kk => lv_ineg C.1 C.2.1 hd (kk H locs ls hW hL)⟩ k
theorem sn_idiv {a b : Int32} (hne : ¬ b = 0) (hd : decode j.2.1 pc = .ok (.idiv, 1)) (k : Snd inj j X (pc + 1) lo (.int (a / b) :: st) M ee) : Snd inj j X pc lo (.int b :: .int a :: st) M ee := mStp.go ⟨rfl, fun p l e R s m args below meth c D A cs ad Q C H locs cells slots ls h1 h2 hW hL kk => lv_idiv C.1 C.2.1 hd hne (kk H locs ls hW hL)⟩ k
theorem sn_irem {a b : Int32} (hne : ¬ b = 0) (hd : decode j.2.1 pc = .ok (.irem, 1)) (k : Snd inj j X (pc + 1) lo (.int (a - a / b * b) :: st) M ee) : Snd inj j X pc lo (.int b :: .int a :: st) M ee := mStp.go ⟨rfl, fun p l e R s m args below meth c D A cs ad Q C H locs cells slots ls h1 h2 hW hL kk => lv_irem C.1 C.2.1 hd hne (kk H locs ls hW hL)⟩ k
theorem sn_ladd {a b : Int64} (hd : decode j.2.1 pc = .ok (.ladd, 1)) (k : Snd inj j X (pc + 1) lo (.long (a + b) :: st) M ee) : Snd inj j X pc lo (.long b :: .long a :: st) M ee := mStp.go ⟨rfl, fun p l e R s m args below meth c D A cs ad Q C H locs cells slots ls h1 h2 hW hL kk => lv_ladd C.1 C.2.1 hd (kk H locs ls hW hL)⟩ k
theorem sn_lsub {a b : Int64} (hd : decode j.2.1 pc = .ok (.lsub, 1)) (k : Snd inj j X (pc + 1) lo (.long (a - b) :: st) M ee) : Snd inj j X pc lo (.long b :: .long a :: st) M ee := mStp.go ⟨rfl, fun p l e R s m args below meth c D A cs ad Q C H locs cells slots ls h1 h2 hW hL kk => lv_lsub C.1 C.2.1 hd (kk H locs ls hW hL)⟩ k
theorem sn_lmul {a b : Int64} (hd : decode j.2.1 pc = .ok (.lmul, 1)) (k : Snd inj j X (pc + 1) lo (.long (a * b) :: st) M ee) : Snd inj j X pc lo (.long b :: .long a :: st) M ee := mStp.go ⟨rfl, fun p l e R s m args below meth c D A cs ad Q C H locs cells slots ls h1 h2 hW hL kk => lv_lmul C.1 C.2.1 hd (kk H locs ls hW hL)⟩ k
theorem sn_ldiv {a b : Int64} (hne : ¬ b = 0) (hd : decode j.2.1 pc = .ok (.ldiv, 1)) (k : Snd inj j X (pc + 1) lo (.long (a / b) :: st) M ee) : Snd inj j X pc lo (.long b :: .long a :: st) M ee := mStp.go ⟨rfl, fun p l e R s m args below meth c D A cs ad Q C H locs cells slots ls h1 h2 hW hL kk => lv_ldiv C.1 C.2.1 hd hne (kk H locs ls hW hL)⟩ k
theorem sn_lrem {a b : Int64} (hne : ¬ b = 0) (hd : decode j.2.1 pc = .ok (.lrem, 1)) (k : Snd inj j X (pc + 1) lo (.long (a - a / b * b) :: st) M ee) : Snd inj j X pc lo (.long b :: .long a :: st) M ee := mStp.go ⟨rfl, fun p l e R s m args below meth c D A cs ad Q C H locs cells slots ls h1 h2 hW hL kk => lv_lrem C.1 C.2.1 hd hne (kk H locs ls hW hL)⟩ k
theorem sn_i2l {a : Int32} (hd : decode j.2.1 pc = .ok (.i2l, 1)) (k : Snd inj j X (pc + 1) lo (.long a.toInt64 :: st) M ee) : Snd inj j X pc lo (.int a :: st) M ee := mStp.go ⟨rfl, fun p l e R s m args below meth c D A cs ad Q C H locs cells slots ls h1 h2 hW hL kk => lv_i2l C.1 C.2.1 hd rfl (kk H locs ls hW hL)⟩ k
theorem sn_l2i {a : Int64} (hd : decode j.2.1 pc = .ok (.l2i, 1)) (k : Snd inj j X (pc + 1) lo (.int a.toInt32 :: st) M ee) : Snd inj j X pc lo (.long a :: st) M ee := mStp.go ⟨rfl, fun p l e R s m args below meth c D A cs ad Q C H locs cells slots ls h1 h2 hW hL kk => lv_l2i C.1 C.2.1 hd rfl (kk H locs ls hW hL)⟩ k
theorem sn_i2b {a : Int32} (hd : decode j.2.1 pc = .ok (.i2b, 1)) (k : Snd inj j X (pc + 1) lo (.int a.toInt8.toInt32 :: st) M ee) : Snd inj j X pc lo (.int a :: st) M ee := mStp.go ⟨rfl, fun p l e R s m args below meth c D A cs ad Q C H locs cells slots ls h1 h2 hW hL kk => lv_i2b C.1 C.2.1 hd rfl (kk H locs ls hW hL)⟩ k
theorem sn_i2c {a : Int32} (hd : decode j.2.1 pc = .ok (.i2c, 1)) (k : Snd inj j X (pc + 1) lo (.int (a.toUInt32 % 65536).toInt32 :: st) M ee) : Snd inj j X pc lo (.int a :: st) M ee := mStp.go ⟨rfl, fun p l e R s m args below meth c D A cs ad Q C H locs cells slots ls h1 h2 hW hL kk => lv_i2c C.1 C.2.1 hd rfl (kk H locs ls hW hL)⟩ k
theorem sn_lcmp {a b : Int64} (hd : decode j.2.1 pc = .ok (.lcmp, 1)) (k : Snd inj j X (pc + 1) lo (.int (lg_cmp a b) :: st) M ee) : Snd inj j X pc lo (.long b :: .long a :: st) M ee := mStp.go ⟨rfl, fun p l e R s m args below meth c D A cs ad Q C H locs cells slots ls h1 h2 hW hL kk => W.lcmp C.1 C.2.1 hd (kk H locs ls hW hL)⟩ k
theorem sn_iconst {n : Int} (v : Int32) (hv : Int32.ofInt n = v) (hd : decode j.2.1 pc = .ok (.iconst n, 1)) (k : Snd inj j X (pc + 1) lo (.int v :: st) M ee) : Snd inj j X pc lo st M ee := mStp.go ⟨rfl, fun p l e R s m args below meth c D A cs ad Q C H locs cells slots ls h1 h2 hW hL kk => lv_iconst C.1 C.2.1 hd hv (kk H locs ls hW hL)⟩ k
theorem sn_bipush {n : Int} (v : Int32) (hv : (Int8.ofInt n).toInt32 = v) (hd : decode j.2.1 pc = .ok (.bipush n, 2)) (k : Snd inj j X (pc + 2) lo (.int v :: st) M ee) : Snd inj j X pc lo st M ee := mStp.go ⟨rfl, fun p l e R s m args below meth c D A cs ad Q C H locs cells slots ls h1 h2 hW hL kk => lv_bipush C.1 C.2.1 hd hv (kk H locs ls hW hL)⟩ k
theorem sn_sipush {n : Int} (v : Int32) (hv : (Int16.ofInt n).toInt32 = v) (hd : decode j.2.1 pc = .ok (.sipush n, 3)) (k : Snd inj j X (pc + 3) lo (.int v :: st) M ee) : Snd inj j X pc lo st M ee := mStp.go ⟨rfl, fun p l e R s m args below meth c D A cs ad Q C H locs cells slots ls h1 h2 hW hL kk => lv_sipush C.1 C.2.1 hd hv (kk H locs ls hW hL)⟩ k
theorem sn_lconst {n : Fin 2} (v : Int64) (hv : Int64.ofNat (n : Nat) = v) (hd : decode j.2.1 pc = .ok (.lconst n, 1)) (k : Snd inj j X (pc + 1) lo (.long v :: st) M ee) : Snd inj j X pc lo st M ee := mStp.go ⟨rfl, fun p l e R s m args below meth c D A cs ad Q C H locs cells slots ls h1 h2 hW hL kk => lv_lconst C.1 C.2.1 hd hv (kk H locs ls hW hL)⟩ k
theorem sn_ldc {i : Nat} {v : Int32} (hw : Cond.constant j.1.cls i v ∈ mm_tbl) (hd : decode j.2.1 pc = .ok (.ldc i, 2)) (k : Snd inj j X (pc + 2) lo (.int v :: st) M ee) : Snd inj j X pc lo st M ee := mStp.go ⟨rfl, fun p l e R s m args below meth c D A cs ad Q C H locs cells slots ls h1 h2 hW hL kk => lv_ldc C.1 C.2.1 C.2.2.2.2.2.1 (C.2.2.2.2.1 _ hw) hd (kk H locs ls hW hL)⟩ k
theorem sn_ldc2 {i : Nat} {v : Int64} (hw : Cond.constantLong j.1.cls i v ∈ mm_tbl) (hd : decode j.2.1 pc = .ok (.ldc2_w i, 3)) (k : Snd inj j X (pc + 3) lo (.long v :: st) M ee) : Snd inj j X pc lo st M ee := mStp.go ⟨rfl, fun p l e R s m args below meth c D A cs ad Q C H locs cells slots ls h1 h2 hW hL kk => lv_ldc2 C.1 C.2.1 C.2.2.2.2.2.1 (C.2.2.2.2.1 _ hw) hd (kk H locs ls hW hL)⟩ k
theorem sn_iload {i : Nat} {v : Int32} (hl : lo[i]? = some (some (.int v))) (hd : decode j.2.1 pc = .ok (.iload i, 2)) (k : Snd inj j X (pc + 2) lo (.int v :: st) M ee) : Snd inj j X pc lo st M ee := mStp.go ⟨rfl, fun p l e R s m args below meth c D A cs ad Q C H locs cells slots ls h1 h2 hW hL kk => lv_iload C.1 C.2.1 hd (hL.2.2 _ _ hl) (kk H locs ls hW hL)⟩ k
theorem sn_iload_n {i : Nat} {f : Fin 4} {v : Int32} (hf : (f : Nat) = i) (hl : lo[i]? = some (some (.int v))) (hd : decode j.2.1 pc = .ok (.iload_n f, 1)) (k : Snd inj j X (pc + 1) lo (.int v :: st) M ee) : Snd inj j X pc lo st M ee := mStp.go ⟨rfl, fun p l e R s m args below meth c D A cs ad Q C H locs cells slots ls h1 h2 hW hL kk => lv_iload_n C.1 C.2.1 hd hf (hL.2.2 _ _ hl) (kk H locs ls hW hL)⟩ k
theorem sn_istore {i : Nat} {v : Int32} (hn : i < j.2.2.1) (hl : mm_st1 lo i (.int v) = lo') (hd : decode j.2.1 pc = .ok (.istore i, 2)) (k : Snd inj j X (pc + 2) lo' st M ee) : Snd inj j X pc lo (.int v :: st) M ee := mStp.go ⟨rfl, fun p l e R s m args below meth c D A cs ad Q C H locs cells slots ls h1 h2 hW hL kk => lv_istore C.1 C.2.1 hd hL.has hn rfl (fun ls' h => kk H locs ls' hW (mm_L.store1 h hl))⟩ k
theorem sn_istoreB {i : Nat} {v : Int32} (lv : Int32 → List (Option Value)) {ex : Int32 → Option α} (hn : i < j.2.2.1) (hl : ∀ x, mm_st1 lo i (.int x) = lv x) (hd : decode j.2.1 pc = .ok (.istore i, 2)) (k : ∀ x, Snd inj j X (pc + 2) (lv x) st M (ex x)) : Snd inj j X pc lo (.int v :: st) M (bI v ex) := sn_istore hn (hl v) hd (k v)
theorem sn_istore_n {i : Nat} {f : Fin 4} (hf : (f : Nat) = i) {v : Int32} (hn : i < j.2.2.1) (hl : mm_st1 lo i (.int v) = lo') (hd : decode j.2.1 pc = .ok (.istore_n f, 1)) (k : Snd inj j X (pc + 1) lo' st M ee) : Snd inj j X pc lo (.int v :: st) M ee := mStp.go ⟨rfl, fun p l e R s m args below meth c D A cs ad Q C H locs cells slots ls h1 h2 hW hL kk => lv_istore_n C.1 C.2.1 hd hf hL.has hn rfl (fun ls' h => kk H locs ls' hW (mm_L.store1 h hl))⟩ k
theorem sn_istoreB_n {i : Nat} {f : Fin 4} (hf : (f : Nat) = i) {v : Int32} (lv : Int32 → List (Option Value)) {ex : Int32 → Option α} (hn : i < j.2.2.1) (hl : ∀ x, mm_st1 lo i (.int x) = lv x) (hd : decode j.2.1 pc = .ok (.istore_n f, 1)) (k : ∀ x, Snd inj j X (pc + 1) (lv x) st M (ex x)) : Snd inj j X pc lo (.int v :: st) M (bI v ex) := sn_istore_n hf hn (hl v) hd (k v)
theorem sn_lload {i : Nat} {v : Int64} (hl : lo[i]? = some (some (.long v))) (hd : decode j.2.1 pc = .ok (.lload i, 2)) (k : Snd inj j X (pc + 2) lo (.long v :: st) M ee) : Snd inj j X pc lo st M ee := mStp.go ⟨rfl, fun p l e R s m args below meth c D A cs ad Q C H locs cells slots ls h1 h2 hW hL kk => lv_lload C.1 C.2.1 hd (hL.2.2 _ _ hl) (kk H locs ls hW hL)⟩ k
theorem sn_lload_n {i : Nat} {f : Fin 4} {v : Int64} (hf : (f : Nat) = i) (hl : lo[i]? = some (some (.long v))) (hd : decode j.2.1 pc = .ok (.lload_n f, 1)) (k : Snd inj j X (pc + 1) lo (.long v :: st) M ee) : Snd inj j X pc lo st M ee := mStp.go ⟨rfl, fun p l e R s m args below meth c D A cs ad Q C H locs cells slots ls h1 h2 hW hL kk => lv_lload_n C.1 C.2.1 hd hf (hL.2.2 _ _ hl) (kk H locs ls hW hL)⟩ k
theorem sn_lstore {i : Nat} {v : Int64} (hn : i + 1 < j.2.2.1) (hl : mm_st2 lo i (.long v) = lo') (hd : decode j.2.1 pc = .ok (.lstore i, 2)) (k : Snd inj j X (pc + 2) lo' st M ee) : Snd inj j X pc lo (.long v :: st) M ee := mStp.go ⟨rfl, fun p l e R s m args below meth c D A cs ad Q C H locs cells slots ls h1 h2 hW hL kk => lv_lstore C.1 C.2.1 hd hL.has hn rfl (fun ls' h => kk H locs ls' hW (mm_L.store2 h hl))⟩ k
theorem sn_lstoreB {i : Nat} {v : Int64} (lv : Int64 → List (Option Value)) {ex : Int64 → Option α} (hn : i + 1 < j.2.2.1) (hl : ∀ x, mm_st2 lo i (.long x) = lv x) (hd : decode j.2.1 pc = .ok (.lstore i, 2)) (k : ∀ x, Snd inj j X (pc + 2) (lv x) st M (ex x)) : Snd inj j X pc lo (.long v :: st) M (bL v ex) := sn_lstore hn (hl v) hd (k v)
theorem sn_lstore_n {i : Nat} {f : Fin 4} (hf : (f : Nat) = i) {v : Int64} (hn : i + 1 < j.2.2.1) (hl : mm_st2 lo i (.long v) = lo') (hd : decode j.2.1 pc = .ok (.lstore_n f, 1)) (k : Snd inj j X (pc + 1) lo' st M ee) : Snd inj j X pc lo (.long v :: st) M ee := mStp.go ⟨rfl, fun p l e R s m args below meth c D A cs ad Q C H locs cells slots ls h1 h2 hW hL kk => lv_lstore_n C.1 C.2.1 hd hf hL.has hn rfl (fun ls' h => kk H locs ls' hW (mm_L.store2 h hl))⟩ k
theorem sn_lstoreB_n {i : Nat} {f : Fin 4} (hf : (f : Nat) = i) {v : Int64} (lv : Int64 → List (Option Value)) {ex : Int64 → Option α} (hn : i + 1 < j.2.2.1) (hl : ∀ x, mm_st2 lo i (.long x) = lv x) (hd : decode j.2.1 pc = .ok (.lstore_n f, 1)) (k : ∀ x, Snd inj j X (pc + 1) (lv x) st M (ex x)) : Snd inj j X pc lo (.long v :: st) M (bL v ex) := sn_lstore_n hf hn (hl v) hd (k v)
theorem sn_aload {i : Nat} {v : Nat} (hl : lo[i]? = some (some (.ref v))) (hd : decode j.2.1 pc = .ok (.aload i, 2)) (k : Snd inj j X (pc + 2) lo (.ref v :: st) M ee) : Snd inj j X pc lo st M ee := mStp.go ⟨rfl, fun p l e R s m args below meth c D A cs ad Q C H locs cells slots ls h1 h2 hW hL kk => lv_aload C.1 C.2.1 hd (hL.2.2 _ _ hl) (kk H locs ls hW hL)⟩ k
theorem sn_aload_n {i : Nat} {f : Fin 4} {v : Nat} (hf : (f : Nat) = i) (hl : lo[i]? = some (some (.ref v))) (hd : decode j.2.1 pc = .ok (.aload_n f, 1)) (k : Snd inj j X (pc + 1) lo (.ref v :: st) M ee) : Snd inj j X pc lo st M ee := mStp.go ⟨rfl, fun p l e R s m args below meth c D A cs ad Q C H locs cells slots ls h1 h2 hW hL kk => lv_aload_n C.1 C.2.1 hd hf (hL.2.2 _ _ hl) (kk H locs ls hW hL)⟩ k
theorem sn_astore {i : Nat} {v : Nat} (hn : i < j.2.2.1) (hl : mm_st1 lo i (.ref v) = lo') (hd : decode j.2.1 pc = .ok (.astore i, 2)) (k : Snd inj j X (pc + 2) lo' st M ee) : Snd inj j X pc lo (.ref v :: st) M ee := mStp.go ⟨rfl, fun p l e R s m args below meth c D A cs ad Q C H locs cells slots ls h1 h2 hW hL kk => lv_astore C.1 C.2.1 hd hL.has hn rfl (fun ls' h => kk H locs ls' hW (mm_L.store1 h hl))⟩ k
theorem sn_astoreB {i : Nat} {v : Nat} (lv : Nat → List (Option Value)) {ex : Nat → Option α} (hn : i < j.2.2.1) (hl : ∀ x, mm_st1 lo i (.ref x) = lv x) (hd : decode j.2.1 pc = .ok (.astore i, 2)) (k : ∀ x, Snd inj j X (pc + 2) (lv x) st M (ex x)) : Snd inj j X pc lo (.ref v :: st) M (bN v ex) := sn_astore hn (hl v) hd (k v)
theorem sn_astore_n {i : Nat} {f : Fin 4} (hf : (f : Nat) = i) {v : Nat} (hn : i < j.2.2.1) (hl : mm_st1 lo i (.ref v) = lo') (hd : decode j.2.1 pc = .ok (.astore_n f, 1)) (k : Snd inj j X (pc + 1) lo' st M ee) : Snd inj j X pc lo (.ref v :: st) M ee := mStp.go ⟨rfl, fun p l e R s m args below meth c D A cs ad Q C H locs cells slots ls h1 h2 hW hL kk => lv_astore_n C.1 C.2.1 hd hf hL.has hn rfl (fun ls' h => kk H locs ls' hW (mm_L.store1 h hl))⟩ k
theorem sn_astoreB_n {i : Nat} {f : Fin 4} (hf : (f : Nat) = i) {v : Nat} (lv : Nat → List (Option Value)) {ex : Nat → Option α} (hn : i < j.2.2.1) (hl : ∀ x, mm_st1 lo i (.ref x) = lv x) (hd : decode j.2.1 pc = .ok (.astore_n f, 1)) (k : ∀ x, Snd inj j X (pc + 1) (lv x) st M (ex x)) : Snd inj j X pc lo (.ref v :: st) M (bN v ex) := sn_astore_n hf hn (hl v) hd (k v)
theorem mm_lv_idx {ad : Nat → Nat} {ls : Array Slot} {i : Nat} {v : Value} (hl : lo[i]? = some (some v)) : ∃ k : Nat, (mm_lv ad ls lo)[k]? = some (i, mm_v ad v) := List.getElem?_of_mem (mm_lv_mem hl)
theorem sn_iinc {i : Nat} {n : Int} {v : Int32} (w : Int32) (hv : Int32.ofInt n = w) (hn : i < j.2.2.1) (hi : lo[i]? = some (some (.int v))) (hl : mm_st1 lo i (.int (v + w)) = lo') (hd : decode j.2.1 pc = .ok (.iinc i n, 3)) (k : Snd inj j X (pc + 3) lo' st M ee) : Snd inj j X pc lo st M ee := mStp.go ⟨rfl, fun p l e R s m args below meth c D A cs ad Q C H locs cells slots ls h1 h2 hW hL kk => by
  obtain ⟨q, hq⟩ := mm_lv_idx (ad := ad) (ls := ls) hi
  exact lv_iinc (v := v + w) C.1 C.2.1 hd hL.has (k := q) hq (by rw [hv]) hn rfl (fun ls' h => kk H locs ls' hW (mm_L.store1 h hl))⟩ k
theorem sn_dup {v : Value} (hc : v.category = 1) (hd : decode j.2.1 pc = .ok (.dup, 1)) (k : Snd inj j X (pc + 1) lo (v :: v :: st) M ee) : Snd inj j X pc lo (v :: st) M ee := mStp.go ⟨rfl, fun p l e R s m args below meth c D A cs ad Q C H locs cells slots ls h1 h2 hW hL kk => lv_dup C.1 C.2.1 hd ((mm_v_cat ad v).trans hc) (kk H locs ls hW hL)⟩ k
theorem sn_pop {v : Value} (hc : v.category = 1) (hd : decode j.2.1 pc = .ok (.pop, 1)) (k : Snd inj j X (pc + 1) lo st M ee) : Snd inj j X pc lo (v :: st) M ee := mStp.go ⟨rfl, fun p l e R s m args below meth c D A cs ad Q C H locs cells slots ls h1 h2 hW hL kk => lv_pop C.1 C.2.1 hd ((mm_v_cat ad v).trans hc) (kk H locs ls hW hL)⟩ k
theorem sn_dup2 {v w : Value} (hc : v.category = 1) (hc2 : w.category = 1) (hd : decode j.2.1 pc = .ok (.dup2, 1)) (k : Snd inj j X (pc + 1) lo (v :: w :: v :: w :: st) M ee) : Snd inj j X pc lo (v :: w :: st) M ee := mStp.go ⟨rfl, fun p l e R s m args below meth c D A cs ad Q C H locs cells slots ls h1 h2 hW hL kk => lv_dup2_11 C.1 C.2.1 hd ((mm_v_cat ad v).trans hc) ((mm_v_cat ad w).trans hc2) (kk H locs ls hW hL)⟩ k
theorem sn_goto {off : Int} (tgt : Nat) (ht : (pc : Int) + off = (tgt : Int)) (hd : decode j.2.1 pc = .ok (.goto off, 3)) (k : Snd inj j X tgt lo st M ee) : Snd inj j X pc lo st M ee := mStp.go ⟨rfl, fun p l e R s m args below meth c D A cs ad Q C H locs cells slots ls h1 h2 hW hL kk => lv_goto C.1 C.2.1 hd ht (kk H locs ls hW hL)⟩ k
theorem sn_if_ne {a : Int32} {off : Int} (tgt : Nat) (ht : (pc : Int) + off = (tgt : Int)) (hd : decode j.2.1 pc = .ok (.ifCond .ne off, 3)) (k1 : Snd inj j X tgt lo st M ee) (k2 : Snd inj j X (pc + 3) lo st M ef) : Snd inj j X pc lo (.int a :: st) M (if a = 0 then ef else ee) := by
  by_cases hc : a = 0
  · rw [if_pos hc]
    exact mStp.go ⟨rfl, fun p l e R s m args below meth c D A cs ad Q C H locs cells slots ls h1 h2 hW hL kk => lv_if_ne C.1 C.2.1 hd ht (fun q => absurd hc q) (fun _ => kk H locs ls hW hL)⟩ k2
  · rw [if_neg hc]
    exact mStp.go ⟨rfl, fun p l e R s m args below meth c D A cs ad Q C H locs cells slots ls h1 h2 hW hL kk => lv_if_ne C.1 C.2.1 hd ht (fun _ => kk H locs ls hW hL) (fun q => absurd q hc)⟩ k1
theorem sn_icmp_ne {a b : Int32} {off : Int} (tgt : Nat) (ht : (pc : Int) + off = (tgt : Int)) (hd : decode j.2.1 pc = .ok (.if_icmp .ne off, 3)) (k1 : Snd inj j X tgt lo st M ee) (k2 : Snd inj j X (pc + 3) lo st M ef) : Snd inj j X pc lo (.int b :: .int a :: st) M (if a = b then ef else ee) := by
  by_cases hc : a = b
  · rw [if_pos hc]
    exact mStp.go ⟨rfl, fun p l e R s m args below meth c D A cs ad Q C H locs cells slots ls h1 h2 hW hL kk => lv_icmp_ne C.1 C.2.1 hd ht (fun q => absurd hc q) (fun _ => kk H locs ls hW hL)⟩ k2
  · rw [if_neg hc]
    exact mStp.go ⟨rfl, fun p l e R s m args below meth c D A cs ad Q C H locs cells slots ls h1 h2 hW hL kk => lv_icmp_ne C.1 C.2.1 hd ht (fun _ => kk H locs ls hW hL) (fun q => absurd q hc)⟩ k1
theorem sn_if_eq {a : Int32} {off : Int} (tgt : Nat) (ht : (pc : Int) + off = (tgt : Int)) (hd : decode j.2.1 pc = .ok (.ifCond .eq off, 3)) (k1 : Snd inj j X tgt lo st M ee) (k2 : Snd inj j X (pc + 3) lo st M ef) : Snd inj j X pc lo (.int a :: st) M (if a = 0 then ee else ef) := by
  by_cases hc : a = 0
  · rw [if_pos hc]
    exact mStp.go ⟨rfl, fun p l e R s m args below meth c D A cs ad Q C H locs cells slots ls h1 h2 hW hL kk => lv_if_eq C.1 C.2.1 hd ht (fun _ => kk H locs ls hW hL) (fun q => absurd hc q)⟩ k1
  · rw [if_neg hc]
    exact mStp.go ⟨rfl, fun p l e R s m args below meth c D A cs ad Q C H locs cells slots ls h1 h2 hW hL kk => lv_if_eq C.1 C.2.1 hd ht (fun q => absurd q hc) (fun _ => kk H locs ls hW hL)⟩ k2
theorem sn_icmp_eq {a b : Int32} {off : Int} (tgt : Nat) (ht : (pc : Int) + off = (tgt : Int)) (hd : decode j.2.1 pc = .ok (.if_icmp .eq off, 3)) (k1 : Snd inj j X tgt lo st M ee) (k2 : Snd inj j X (pc + 3) lo st M ef) : Snd inj j X pc lo (.int b :: .int a :: st) M (if a = b then ee else ef) := by
  by_cases hc : a = b
  · rw [if_pos hc]
    exact mStp.go ⟨rfl, fun p l e R s m args below meth c D A cs ad Q C H locs cells slots ls h1 h2 hW hL kk => lv_icmp_eq C.1 C.2.1 hd ht (fun _ => kk H locs ls hW hL) (fun q => absurd hc q)⟩ k1
  · rw [if_neg hc]
    exact mStp.go ⟨rfl, fun p l e R s m args below meth c D A cs ad Q C H locs cells slots ls h1 h2 hW hL kk => lv_icmp_eq C.1 C.2.1 hd ht (fun q => absurd q hc) (fun _ => kk H locs ls hW hL)⟩ k2
theorem sn_if_lt {a : Int32} {off : Int} (tgt : Nat) (ht : (pc : Int) + off = (tgt : Int)) (hd : decode j.2.1 pc = .ok (.ifCond .lt off, 3)) (k1 : Snd inj j X tgt lo st M ee) (k2 : Snd inj j X (pc + 3) lo st M ef) : Snd inj j X pc lo (.int a :: st) M (if a < 0 then ee else ef) := by
  by_cases hc : a < 0
  · rw [if_pos hc]
    exact mStp.go ⟨rfl, fun p l e R s m args below meth c D A cs ad Q C H locs cells slots ls h1 h2 hW hL kk => lv_if_lt C.1 C.2.1 hd ht (fun _ => kk H locs ls hW hL) (fun q => absurd hc q)⟩ k1
  · rw [if_neg hc]
    exact mStp.go ⟨rfl, fun p l e R s m args below meth c D A cs ad Q C H locs cells slots ls h1 h2 hW hL kk => lv_if_lt C.1 C.2.1 hd ht (fun q => absurd q hc) (fun _ => kk H locs ls hW hL)⟩ k2
theorem sn_icmp_lt {a b : Int32} {off : Int} (tgt : Nat) (ht : (pc : Int) + off = (tgt : Int)) (hd : decode j.2.1 pc = .ok (.if_icmp .lt off, 3)) (k1 : Snd inj j X tgt lo st M ee) (k2 : Snd inj j X (pc + 3) lo st M ef) : Snd inj j X pc lo (.int b :: .int a :: st) M (if a < b then ee else ef) := by
  by_cases hc : a < b
  · rw [if_pos hc]
    exact mStp.go ⟨rfl, fun p l e R s m args below meth c D A cs ad Q C H locs cells slots ls h1 h2 hW hL kk => lv_icmp_lt C.1 C.2.1 hd ht (fun _ => kk H locs ls hW hL) (fun q => absurd hc q)⟩ k1
  · rw [if_neg hc]
    exact mStp.go ⟨rfl, fun p l e R s m args below meth c D A cs ad Q C H locs cells slots ls h1 h2 hW hL kk => lv_icmp_lt C.1 C.2.1 hd ht (fun q => absurd q hc) (fun _ => kk H locs ls hW hL)⟩ k2
theorem sn_if_ge {a : Int32} {off : Int} (tgt : Nat) (ht : (pc : Int) + off = (tgt : Int)) (hd : decode j.2.1 pc = .ok (.ifCond .ge off, 3)) (k1 : Snd inj j X tgt lo st M ee) (k2 : Snd inj j X (pc + 3) lo st M ef) : Snd inj j X pc lo (.int a :: st) M (if 0 ≤ a then ee else ef) := by
  by_cases hc : 0 ≤ a
  · rw [if_pos hc]
    exact mStp.go ⟨rfl, fun p l e R s m args below meth c D A cs ad Q C H locs cells slots ls h1 h2 hW hL kk => lv_if_ge C.1 C.2.1 hd ht (fun _ => kk H locs ls hW hL) (fun q => absurd hc q)⟩ k1
  · rw [if_neg hc]
    exact mStp.go ⟨rfl, fun p l e R s m args below meth c D A cs ad Q C H locs cells slots ls h1 h2 hW hL kk => lv_if_ge C.1 C.2.1 hd ht (fun q => absurd q hc) (fun _ => kk H locs ls hW hL)⟩ k2
theorem sn_icmp_ge {a b : Int32} {off : Int} (tgt : Nat) (ht : (pc : Int) + off = (tgt : Int)) (hd : decode j.2.1 pc = .ok (.if_icmp .ge off, 3)) (k1 : Snd inj j X tgt lo st M ee) (k2 : Snd inj j X (pc + 3) lo st M ef) : Snd inj j X pc lo (.int b :: .int a :: st) M (if b ≤ a then ee else ef) := by
  by_cases hc : b ≤ a
  · rw [if_pos hc]
    exact mStp.go ⟨rfl, fun p l e R s m args below meth c D A cs ad Q C H locs cells slots ls h1 h2 hW hL kk => lv_icmp_ge C.1 C.2.1 hd ht (fun _ => kk H locs ls hW hL) (fun q => absurd hc q)⟩ k1
  · rw [if_neg hc]
    exact mStp.go ⟨rfl, fun p l e R s m args below meth c D A cs ad Q C H locs cells slots ls h1 h2 hW hL kk => lv_icmp_ge C.1 C.2.1 hd ht (fun q => absurd q hc) (fun _ => kk H locs ls hW hL)⟩ k2
theorem sn_if_gt {a : Int32} {off : Int} (tgt : Nat) (ht : (pc : Int) + off = (tgt : Int)) (hd : decode j.2.1 pc = .ok (.ifCond .gt off, 3)) (k1 : Snd inj j X tgt lo st M ee) (k2 : Snd inj j X (pc + 3) lo st M ef) : Snd inj j X pc lo (.int a :: st) M (if 0 < a then ee else ef) := by
  by_cases hc : 0 < a
  · rw [if_pos hc]
    exact mStp.go ⟨rfl, fun p l e R s m args below meth c D A cs ad Q C H locs cells slots ls h1 h2 hW hL kk => lv_if_gt C.1 C.2.1 hd ht (fun _ => kk H locs ls hW hL) (fun q => absurd hc q)⟩ k1
  · rw [if_neg hc]
    exact mStp.go ⟨rfl, fun p l e R s m args below meth c D A cs ad Q C H locs cells slots ls h1 h2 hW hL kk => lv_if_gt C.1 C.2.1 hd ht (fun q => absurd q hc) (fun _ => kk H locs ls hW hL)⟩ k2
theorem sn_icmp_gt {a b : Int32} {off : Int} (tgt : Nat) (ht : (pc : Int) + off = (tgt : Int)) (hd : decode j.2.1 pc = .ok (.if_icmp .gt off, 3)) (k1 : Snd inj j X tgt lo st M ee) (k2 : Snd inj j X (pc + 3) lo st M ef) : Snd inj j X pc lo (.int b :: .int a :: st) M (if b < a then ee else ef) := by
  by_cases hc : b < a
  · rw [if_pos hc]
    exact mStp.go ⟨rfl, fun p l e R s m args below meth c D A cs ad Q C H locs cells slots ls h1 h2 hW hL kk => lv_icmp_gt C.1 C.2.1 hd ht (fun _ => kk H locs ls hW hL) (fun q => absurd hc q)⟩ k1
  · rw [if_neg hc]
    exact mStp.go ⟨rfl, fun p l e R s m args below meth c D A cs ad Q C H locs cells slots ls h1 h2 hW hL kk => lv_icmp_gt C.1 C.2.1 hd ht (fun q => absurd q hc) (fun _ => kk H locs ls hW hL)⟩ k2
theorem sn_if_le {a : Int32} {off : Int} (tgt : Nat) (ht : (pc : Int) + off = (tgt : Int)) (hd : decode j.2.1 pc = .ok (.ifCond .le off, 3)) (k1 : Snd inj j X tgt lo st M ee) (k2 : Snd inj j X (pc + 3) lo st M ef) : Snd inj j X pc lo (.int a :: st) M (if a ≤ 0 then ee else ef) := by
  by_cases hc : a ≤ 0
  · rw [if_pos hc]
    exact mStp.go ⟨rfl, fun p l e R s m args below meth c D A cs ad Q C H locs cells slots ls h1 h2 hW hL kk => lv_if_le C.1 C.2.1 hd ht (fun _ => kk H locs ls hW hL) (fun q => absurd hc q)⟩ k1
  · rw [if_neg hc]
    exact mStp.go ⟨rfl, fun p l e R s m args below meth c D A cs ad Q C H locs cells slots ls h1 h2 hW hL kk => lv_if_le C.1 C.2.1 hd ht (fun q => absurd q hc) (fun _ => kk H locs ls hW hL)⟩ k2
theorem sn_icmp_le {a b : Int32} {off : Int} (tgt : Nat) (ht : (pc : Int) + off = (tgt : Int)) (hd : decode j.2.1 pc = .ok (.if_icmp .le off, 3)) (k1 : Snd inj j X tgt lo st M ee) (k2 : Snd inj j X (pc + 3) lo st M ef) : Snd inj j X pc lo (.int b :: .int a :: st) M (if a ≤ b then ee else ef) := by
  by_cases hc : a ≤ b
  · rw [if_pos hc]
    exact mStp.go ⟨rfl, fun p l e R s m args below meth c D A cs ad Q C H locs cells slots ls h1 h2 hW hL kk => lv_icmp_le C.1 C.2.1 hd ht (fun _ => kk H locs ls hW hL) (fun q => absurd hc q)⟩ k1
  · rw [if_neg hc]
    exact mStp.go ⟨rfl, fun p l e R s m args below meth c D A cs ad Q C H locs cells slots ls h1 h2 hW hL kk => lv_icmp_le C.1 C.2.1 hd ht (fun q => absurd q hc) (fun _ => kk H locs ls hW hL)⟩ k2
end RULES
end
section
section HEAPRULES
variable {α : Type} {inj : α → Option Value × mm_M} {j : mm_J} {X : mm_X} {pc : Nat} {lo lo' : List (Option Value)} {st : List Value} {M : mm_M} {ee ef : Option α}
-- objects
theorem mm_e_obj (ad : Nat → Nat) (cs : mm_K) (M : mm_M) {c ci N : Nat} (hs : mm_sh c = (0, ci, N)) : mm_e ad cs M c = .inr (ci, (List.range N).map (mm_fv ad M c)) := by simp [mm_e, hs]
theorem mm_e_int (ad : Nat → Nat) (cs : mm_K) (M : mm_M) {c n : Nat} (hs : mm_sh c = (1, n, 0)) : mm_e ad cs M c = .inl (cs.1, n, .inl (M.1 c)) := by simp [mm_e, hs]
theorem mm_e_byte (ad : Nat → Nat) (cs : mm_K) (M : mm_M) {c n : Nat} (hs : mm_sh c = (2, n, 0)) : mm_e ad cs M c = .inl (cs.2.1, n, .inl (M.1 c)) := by simp [mm_e, hs]
theorem mm_e_long (ad : Nat → Nat) (cs : mm_K) (M : mm_M) {c n : Nat} (hs : mm_sh c = (3, n, 0)) : mm_e ad cs M c = .inl (cs.2.2, n, .inr (.inl (M.2.1 c))) := by simp [mm_e, hs]
theorem mm_getv {c k ci N idx : Nat} {C : String} {T : u_T} {v : Value} (hcl : vwCl[ci]? = some (C, T, N)) (hin : ∀ w ∈ u_ws C T N, w ∈ mm_tbl) (hs : mm_sh c = (0, ci, N)) (hc : 0 < c ∧ c ≤ 62) (hk : k < N) (hf : ∀ ad, mm_fv ad M c k = mm_v ad v) (hw : Cond.fieldLink j.1.cls idx (T k).1 (T k).2.1 (T k).2.2.1 ∈ mm_tbl) (hd : decode j.2.1 pc = .ok (.getfield idx, 3)) (k1 : Snd inj j X (pc + 3) lo (v :: st) M ee) : Snd inj j X pc lo (.ref c :: st) M ee :=
  mStp.go ⟨rfl, fun p l e R s m args below meth c0 D A cs ad Q C1 H locs cells slots ls h1 h2 hW hL kk => by
    refine va_get (D := D) (ci := ci) (C := C) (T := T) (N := N) (fs := (List.range N).map (mm_fv ad M c)) (v := mm_v ad v) C1.1 C1.2.1 C1.2.2.2.2.1 hin C1.2.2.2.2.2.1 C1.2.2.2.2.2.2.2.1 hW.1 (c - 1) ?_ hcl k hk (C1.2.2.2.2.1 _ hw) (fun _ h => h) ?_ hd (kk H locs ls hW hL)
    · rw [mm_get ad cs M hc, mm_e_obj ad cs M hs]
    · rw [mm_fields ad M c N hk, hf]⟩ k1
theorem sn_gI {c k ci N idx : Nat} {C : String} {T : u_T} (hcl : vwCl[ci]? = some (C, T, N)) (hin : ∀ w ∈ u_ws C T N, w ∈ mm_tbl) (hs : mm_sh c = (0, ci, N)) (hc : 0 < c ∧ c ≤ 62) (hk : k < N) (hf : mm_fk c k = 0) (hw : Cond.fieldLink j.1.cls idx (T k).1 (T k).2.1 (T k).2.2.1 ∈ mm_tbl) (hd : decode j.2.1 pc = .ok (.getfield idx, 3)) (k1 : Snd inj j X (pc + 3) lo (.int (mI M c k) :: st) M ee) : Snd inj j X pc lo (.ref c :: st) M ee :=
  mm_getv hcl hin hs hc hk (fun ad => by simp [mm_fv, hf, mm_v, mI]) hw hd k1
theorem sn_gR {c k ci N idx : Nat} (r : Nat) {C : String} {T : u_T} (hcl : vwCl[ci]? = some (C, T, N)) (hin : ∀ w ∈ u_ws C T N, w ∈ mm_tbl) (hs : mm_sh c = (0, ci, N)) (hc : 0 < c ∧ c ≤ 62) (hk : k < N) (hf : mm_fk c k = 10 + r) (hw : Cond.fieldLink j.1.cls idx (T k).1 (T k).2.1 (T k).2.2.1 ∈ mm_tbl) (hd : decode j.2.1 pc = .ok (.getfield idx, 3)) (k1 : Snd inj j X (pc + 3) lo (.ref r :: st) M ee) : Snd inj j X pc lo (.ref c :: st) M ee :=
  mm_getv hcl hin hs hc hk (fun ad => by
    have e : 10 + r - 10 = r := by omega
    simp only [mm_fv, hf, mm_v, e]
    rw [if_neg (by omega), if_neg (by omega), if_neg (by omega), if_neg (by omega)]) hw hd k1
theorem sn_gNow {idx : Nat} (hin : ∀ w ∈ u_ws RX6 TX6 9, w ∈ mm_tbl) (hw : Cond.fieldLink j.1.cls idx (TX6 0).1 (TX6 0).2.1 (TX6 0).2.2.1 ∈ mm_tbl) (hd : decode j.2.1 pc = .ok (.getfield idx, 3)) {ex : Nat → Option α} (k1 : ∀ d, Snd inj j X (pc + 3) lo (.ref d :: st) M (ex d)) : Snd inj j X pc lo (.ref 1 :: st) M (bN (mNow M) ex) :=
  mm_getv (ci := 6) (k := 0) (T := TX6) rfl hin rfl ⟨by decide, by decide⟩ (by decide) (fun ad => rfl) hw hd (k1 (mNow M))
theorem sn_gDra {idx : Nat} (hin : ∀ w ∈ u_ws RX6 TX6 9, w ∈ mm_tbl) (hw : Cond.fieldLink j.1.cls idx (TX6 1).1 (TX6 1).2.1 (TX6 1).2.2.1 ∈ mm_tbl) (hd : decode j.2.1 pc = .ok (.getfield idx, 3)) {ex : Nat → Option α} (k1 : ∀ d, Snd inj j X (pc + 3) lo (.ref d :: st) M (ex d)) : Snd inj j X pc lo (.ref 1 :: st) M (bN (mDra M) ex) :=
  mm_getv (ci := 6) (k := 1) (T := TX6) rfl hin rfl ⟨by decide, by decide⟩ (by decide) (fun ad => rfl) hw hd (k1 (mDra M))
theorem sn_gDep {idx : Nat} (hin : ∀ w ∈ u_ws RX2 TX2 19, w ∈ mm_tbl) (hw : Cond.fieldLink j.1.cls idx (TX2 3).1 (TX2 3).2.1 (TX2 3).2.2.1 ∈ mm_tbl) (hd : decode j.2.1 pc = .ok (.getfield idx, 3)) {ex : Nat → Option α} (k1 : ∀ d, Snd inj j X (pc + 3) lo (.ref d :: st) M (ex d)) : Snd inj j X pc lo (.ref 26 :: st) M (bN (mDep M) ex) :=
  mm_getv (ci := 2) (k := 3) (T := TX2) rfl hin rfl ⟨by decide, by decide⟩ (by decide) (fun ad => rfl) hw hd (k1 (mDep M))
theorem mm_putv {M' : mm_M} {c k ci N idx : Nat} {C : String} {T : u_T} {ty : FieldType} {v : Value} (ty0 : Nat → FieldType) (hty : ∀ k, k < N → parseFieldDescriptor (T k).2.2.1 = some (ty0 k)) (hnm : ∀ a, a < N → ∀ b, b < N → a ≠ b → (T a).2.1 ≠ (T b).2.1) (hcl : vwCl[ci]? = some (C, T, N)) (hin : ∀ w ∈ u_ws C T N, w ∈ mm_tbl) (hs : mm_sh c = (0, ci, N)) (hc : 0 < c ∧ c ≤ 62) (hk : k < N) (hfin : (T k).2.2.2 = false)
    (hG : mG M' = mG M) (hf : ∀ ad, mm_fv ad M' c k = mm_v ad v) (ho : ∀ ad b, b ≠ k → mm_fv ad M c b = mm_fv ad M' c b) (hne : ∀ ad cs a, a ≠ c → mm_e ad cs M a = mm_e ad cs M' a) (hd0 : parseFieldDescriptor (T k).2.2.1 = some ty) (hn : ∀ ad, narrow ty (mm_v ad v) = mm_v ad v) (hfit : ∀ ad, fits ty (mm_v ad v) = true)
    (hw : Cond.fieldLink j.1.cls idx (T k).1 (T k).2.1 (T k).2.2.1 ∈ mm_tbl) (hd : decode j.2.1 pc = .ok (.putfield idx, 3)) (k1 : Snd inj j X (pc + 3) lo st M' ee) : Snd inj j X pc lo (v :: .ref c :: st) M ee :=
  mStp.go ⟨hG, fun p l e R s m args below meth c0 D A cs ad Q C1 H locs cells slots ls h1 h2 hW hL kk => by
    refine va_put (D := D) (ci := ci) (C := C) (T := T) (N := N) (fs := (List.range N).map (mm_fv ad M c)) (v := mm_v ad v) (ty := ty) C1.1 C1.2.1 C1.2.2.2.2.1 hin ty0 hty hnm C1.2.2.2.2.2.1 C1.2.2.2.2.2.2.2.1 hW.1 hW.2.1 hW.2.2 (c - 1) ?_ hcl k hk (C1.2.2.2.2.1 _ hw) (fun _ h => h) hfin hd0 (hn ad) (hfit ad) (by simp; exact hk) hd (fun H1 locs1 hP hD hS => ?_)
    · rw [mm_get ad cs M hc, mm_e_obj ad cs M hs]
    · rw [mm_fset ad M M' c N hk (hf ad) (ho ad), mm_set ad cs M M' hc (hne ad cs) (mm_e_obj ad cs M' hs)] at hP hD
      exact kk H1 locs1 ls ⟨hP, hD, hS⟩ hL⟩ k1
theorem mm_fv_sI (ad : Nat → Nat) {c k : Nat} {v : Int32} (hf : mm_fk c k = 0) : mm_fv ad (sI M c k v) c k = .int v := by
  simp [mm_fv, hf, sI, sR, uR, upd]
theorem mm_fv_sI_ne (ad : Nat → Nat) {c k : Nat} {v : Int32} : ∀ b, b ≠ k → mm_fv ad M c b = mm_fv ad (sI M c k v) c b := by
  intro b hb
  simp [mm_fv, sI, sR, uR, upd, hb]
theorem sn_pI {c k ci N idx : Nat} {v : Int32} {C : String} {T : u_T} (ty0 : Nat → FieldType) (hty : ∀ k, k < N → parseFieldDescriptor (T k).2.2.1 = some (ty0 k)) (hnm : ∀ a, a < N → ∀ b, b < N → a ≠ b → (T a).2.1 ≠ (T b).2.1) (hcl : vwCl[ci]? = some (C, T, N)) (hin : ∀ w ∈ u_ws C T N, w ∈ mm_tbl) (hs : mm_sh c = (0, ci, N)) (hc : 0 < c ∧ c ≤ 62) (hk : k < N) (hfin : (T k).2.2.2 = false) (hf : mm_fk c k = 0) (hd0 : parseFieldDescriptor (T k).2.2.1 = some .int)
    (hw : Cond.fieldLink j.1.cls idx (T k).1 (T k).2.1 (T k).2.2.1 ∈ mm_tbl) (hd : decode j.2.1 pc = .ok (.putfield idx, 3)) {ex : mm_M → Option α} (k1 : ∀ M, Snd inj j X (pc + 3) lo st M (ex M)) : Snd inj j X pc lo (.int v :: .ref c :: st) M (bM (sI M c k v) ex) :=
  mm_putv (M' := sI M c k v) ty0 hty hnm hcl hin hs hc hk hfin rfl (fun ad => mm_fv_sI ad hf) (fun ad => mm_fv_sI_ne ad) (fun ad cs => mm_e_ne ad cs M _) hd0 (fun _ => rfl) (fun _ => rfl) hw hd (k1 _)
theorem sn_pZ {c k ci N idx : Nat} {v : Int32} {C : String} {T : u_T} (hz : v = 0 ∨ v = 1) (ty0 : Nat → FieldType) (hty : ∀ k, k < N → parseFieldDescriptor (T k).2.2.1 = some (ty0 k)) (hnm : ∀ a, a < N → ∀ b, b < N → a ≠ b → (T a).2.1 ≠ (T b).2.1) (hcl : vwCl[ci]? = some (C, T, N)) (hin : ∀ w ∈ u_ws C T N, w ∈ mm_tbl) (hs : mm_sh c = (0, ci, N)) (hc : 0 < c ∧ c ≤ 62) (hk : k < N) (hfin : (T k).2.2.2 = false) (hf : mm_fk c k = 0) (hd0 : parseFieldDescriptor (T k).2.2.1 = some .boolean)
    (hw : Cond.fieldLink j.1.cls idx (T k).1 (T k).2.1 (T k).2.2.1 ∈ mm_tbl) (hd : decode j.2.1 pc = .ok (.putfield idx, 3)) {ex : mm_M → Option α} (k1 : ∀ M, Snd inj j X (pc + 3) lo st M (ex M)) : Snd inj j X pc lo (.int v :: .ref c :: st) M (bM (sI M c k v) ex) :=
  mm_putv (M' := sI M c k v) ty0 hty hnm hcl hin hs hc hk hfin rfl (fun ad => mm_fv_sI ad hf) (fun ad => mm_fv_sI_ne ad) (fun ad cs => mm_e_ne ad cs M _) hd0 (fun _ => by rcases hz with rfl | rfl <;> rfl) (fun _ => by rcases hz with rfl | rfl <;> rfl) hw hd (k1 _)
theorem mm_eN_ne {M' : mm_M} {c0 : Nat} (hI : M'.1 = M.1) (hLg : M'.2.1 = M.2.1) (h : ∀ ad a, a ≠ c0 → mm_fv ad M a = mm_fv ad M' a) : ∀ (ad : Nat → Nat) (cs : mm_K) (a : Nat), a ≠ c0 → mm_e ad cs M a = mm_e ad cs M' a := by
  intro ad cs a ha
  simp only [mm_e, h ad a ha, hI, hLg]
theorem mm_fk_out {c : Nat} (h : 62 < c) : ∀ k, mm_fk c k = 0 := by
  intro k
  have : mm_fkT.getD c [] = [] := by
    rw [List.getD_eq_getElem?_getD, List.getElem?_eq_none (by show 47 ≤ c; omega)]; rfl
  unfold mm_fk
  rw [this]; rfl
theorem mm_kindA : ∀ a, a ≤ 62 → a ≠ 1 → ∀ k, mm_fk a k ≠ 1 ∧ mm_fk a k ≠ 2 := by
  intro a ha h1 k
  by_cases hk : k < 27
  · revert a k
    have : ∀ a : Fin 63, a.1 ≠ 1 → ∀ k : Fin 27, mm_fk a.1 k.1 ≠ 1 ∧ mm_fk a.1 k.1 ≠ 2 := by decide +kernel
    intro a ha h1 k hk
    exact this ⟨a, by omega⟩ h1 ⟨k, hk⟩
  · have : ∀ a : Fin 63, (mm_fkT.getD a.1 []).length ≤ 27 := by decide +kernel
    have hl := this ⟨a, by omega⟩
    have e : mm_fk a k = 0 := by
      unfold mm_fk
      rw [List.getD_eq_getElem?_getD, List.getElem?_eq_none (by simp at hl ⊢; omega)]; rfl
    rw [e]; exact ⟨by decide, by decide⟩
theorem mm_kindB : ∀ a, a ≤ 62 → a ≠ 26 → ∀ k, mm_fk a k ≠ 3 := by
  intro a ha h1 k
  by_cases hk : k < 27
  · revert a k
    have : ∀ a : Fin 63, a.1 ≠ 26 → ∀ k : Fin 27, mm_fk a.1 k.1 ≠ 3 := by decide +kernel
    intro a ha h1 k hk
    exact this ⟨a, by omega⟩ h1 ⟨k, hk⟩
  · have : ∀ a : Fin 63, (mm_fkT.getD a.1 []).length ≤ 27 := by decide +kernel
    have hl := this ⟨a, by omega⟩
    have e : mm_fk a k = 0 := by
      unfold mm_fk
      rw [List.getD_eq_getElem?_getD, List.getElem?_eq_none (by simp at hl ⊢; omega)]; rfl
    rw [e]; decide
theorem mm_fvA {M' : mm_M} (hI : M'.1 = M.1) (hp : M'.2.2.1.2.2 = M.2.2.1.2.2) : ∀ (ad : Nat → Nat) (a : Nat), a ≠ 1 → mm_fv ad M a = mm_fv ad M' a := by
  intro ad a ha
  funext k
  by_cases h : a ≤ 62
  · obtain ⟨q1, q2⟩ := mm_kindA a h ha k
    simp only [mm_fv, hI, hp, if_neg q1, if_neg q2]
  · simp only [mm_fv, mm_fk_out (show 62 < a by omega) k, if_true, hI]
theorem mm_fvB {M' : mm_M} (hI : M'.1 = M.1) (h1 : M'.2.2.1.1 = M.2.2.1.1) (h2 : M'.2.2.1.2.1 = M.2.2.1.2.1) : ∀ (ad : Nat → Nat) (a : Nat), a ≠ 26 → mm_fv ad M a = mm_fv ad M' a := by
  intro ad a ha
  funext k
  by_cases h : a ≤ 62
  · have q1 := mm_kindB a h ha k
    simp only [mm_fv, hI, h1, h2, if_neg q1]
  · simp only [mm_fv, mm_fk_out (show 62 < a by omega) k, if_true, hI]
theorem sn_pNow {idx d : Nat} (hin : ∀ w ∈ u_ws RX6 TX6 9, w ∈ mm_tbl) (hw : Cond.fieldLink j.1.cls idx (TX6 0).1 (TX6 0).2.1 (TX6 0).2.2.1 ∈ mm_tbl) (hd : decode j.2.1 pc = .ok (.putfield idx, 3)) {ex : mm_M → Option α} (k1 : ∀ M, Snd inj j X (pc + 3) lo st M (ex M)) : Snd inj j X pc lo (.ref d :: .ref 1 :: st) M (bM (sNow M d) ex) :=
  mm_putv (M' := sNow M d) (c := 1) (k := 0) (ci := 6) (N := 9) (ty := .object "DepotCharge$Depot") tyX6 tyX6_ok nmX6 rfl hin rfl ⟨by decide, by decide⟩ (by decide) rfl rfl (fun ad => rfl) (fun ad b hb => by
    by_cases h9 : b < 9
    · have : b = 1 ∨ b = 2 ∨ b = 3 ∨ b = 4 ∨ b = 5 ∨ b = 6 ∨ b = 7 ∨ b = 8 := by omega
      rcases this with rfl | rfl | rfl | rfl | rfl | rfl | rfl | rfl <;> rfl
    · have e : mm_fk 1 b = 0 := by
        unfold mm_fk
        rw [List.getD_eq_getElem?_getD, List.getElem?_eq_none (by show 9 ≤ b; omega)]; rfl
      simp [mm_fv, e, sNow]) (mm_eN_ne rfl rfl (mm_fvA rfl rfl)) (tyX6_ok 0 (by decide)) (fun _ => rfl) (fun _ => rfl) hw hd (k1 _)
theorem sn_pDra {idx d : Nat} (hin : ∀ w ∈ u_ws RX6 TX6 9, w ∈ mm_tbl) (hw : Cond.fieldLink j.1.cls idx (TX6 1).1 (TX6 1).2.1 (TX6 1).2.2.1 ∈ mm_tbl) (hd : decode j.2.1 pc = .ok (.putfield idx, 3)) {ex : mm_M → Option α} (k1 : ∀ M, Snd inj j X (pc + 3) lo st M (ex M)) : Snd inj j X pc lo (.ref d :: .ref 1 :: st) M (bM (sDra M d) ex) :=
  mm_putv (M' := sDra M d) (c := 1) (k := 1) (ci := 6) (N := 9) (ty := .object "DepotCharge$Depot") tyX6 tyX6_ok nmX6 rfl hin rfl ⟨by decide, by decide⟩ (by decide) rfl rfl (fun ad => rfl) (fun ad b hb => by
    by_cases h9 : b < 9
    · have : b = 0 ∨ b = 2 ∨ b = 3 ∨ b = 4 ∨ b = 5 ∨ b = 6 ∨ b = 7 ∨ b = 8 := by omega
      rcases this with rfl | rfl | rfl | rfl | rfl | rfl | rfl | rfl <;> rfl
    · have e : mm_fk 1 b = 0 := by
        unfold mm_fk
        rw [List.getD_eq_getElem?_getD, List.getElem?_eq_none (by show 9 ≤ b; omega)]; rfl
      simp [mm_fv, e, sDra]) (mm_eN_ne rfl rfl (mm_fvA rfl rfl)) (tyX6_ok 1 (by decide)) (fun _ => rfl) (fun _ => rfl) hw hd (k1 _)
theorem sn_pDep {idx d : Nat} (hin : ∀ w ∈ u_ws RX2 TX2 19, w ∈ mm_tbl) (hw : Cond.fieldLink j.1.cls idx (TX2 3).1 (TX2 3).2.1 (TX2 3).2.2.1 ∈ mm_tbl) (hd : decode j.2.1 pc = .ok (.putfield idx, 3)) {ex : mm_M → Option α} (k1 : ∀ M, Snd inj j X (pc + 3) lo st M (ex M)) : Snd inj j X pc lo (.ref d :: .ref 26 :: st) M (bM (sDep M d) ex) :=
  mm_putv (M' := sDep M d) (c := 26) (k := 3) (ci := 2) (N := 19) (ty := .object "DepotCharge$Depot") tyX2 tyX2_ok nmX2 rfl hin rfl ⟨by decide, by decide⟩ (by decide) rfl rfl (fun ad => rfl) (fun ad b hb => by
    by_cases h9 : b < 19
    · have : b = 0 ∨ b = 1 ∨ b = 2 ∨ b = 4 ∨ b = 5 ∨ b = 6 ∨ b = 7 ∨ b = 8 ∨ b = 9 ∨ b = 10 ∨ b = 11 ∨ b = 12 ∨ b = 13 ∨ b = 14 ∨ b = 15 ∨ b = 16 ∨ b = 17 ∨ b = 18 := by omega
      rcases this with rfl | rfl | rfl | rfl | rfl | rfl | rfl | rfl | rfl | rfl | rfl | rfl | rfl | rfl | rfl | rfl | rfl | rfl <;> rfl
    · have e : mm_fk 26 b = 0 := by
        unfold mm_fk
        rw [List.getD_eq_getElem?_getD, List.getElem?_eq_none (by show 19 ≤ b; omega)]; rfl
      simp [mm_fv, e, sDep]) (mm_eN_ne rfl rfl (mm_fvB rfl rfl rfl)) (tyX2_ok 3 (by decide)) (fun _ => rfl) (fun _ => rfl) hw hd (k1 _)
-- arrays
def aI (c n : Nat) (i : Int32) (M : mm_M) (e : Int32 → Option α) : Option α := if inb i n = true then e (mI M c i.toNatClampNeg) else none
def aL (c n : Nat) (i : Int32) (M : mm_M) (e : Int64 → Option α) : Option α := if inb i n = true then e (mL M c i.toNatClampNeg) else none
def aT (t n : Nat) (i : Int32) (e : Int32 → Option α) : Option α := if inb i n = true then e (mm_ro t i.toNatClampNeg) else none
def aX (X : mm_X) (i : Int32) (e : Int32 → Option α) : Option α := if inb i X.1 = true then e (X.2 i.toNatClampNeg) else none
def uI (c n : Nat) (i v : Int32) (M : mm_M) (e : mm_M → Option α) : Option α := if inb i n = true then e (sI M c i.toNatClampNeg v) else none
def uB (c n : Nat) (i v : Int32) (M : mm_M) (e : mm_M → Option α) : Option α := if inb i n = true then e (sI M c i.toNatClampNeg v.toInt8.toInt32) else none
def uL (c n : Nat) (i : Int32) (v : Int64) (M : mm_M) (e : mm_M → Option α) : Option α := if inb i n = true then e (sL M c i.toNatClampNeg v) else none
theorem sn_iald {c n : Nat} {i : Int32} (hs : mm_sh c = (1, n, 0)) (hc : 0 < c ∧ c ≤ 62) (hd : decode j.2.1 pc = .ok (.iaload, 1)) {ex : Int32 → Option α} (k1 : ∀ x, Snd inj j X (pc + 1) lo (.int x :: st) M (ex x)) : Snd inj j X pc lo (.int i :: .ref c :: st) M (aI c n i M ex) :=
  Snd.ite fun hb => mStp.go ⟨rfl, fun p l e R s m args below meth c0 D A cs ad Q C1 H locs cells slots ls h1 h2 hW hL kk => by
    refine va_iald (D := D) (cA := cs.1) (n := n) (f := M.1 c) C1.1 C1.2.1 C1.2.2.2.2.2.2.2.1 hW.1 (c - 1) 0 ?_ rfl (inb_in hb) hd (kk H locs ls hW hL)
    rw [mm_get ad cs M hc, mm_e_int ad cs M hs]⟩ (k1 (mI M c i.toNatClampNeg))
theorem sn_bald {c n : Nat} {i : Int32} (hs : mm_sh c = (2, n, 0)) (hc : 0 < c ∧ c ≤ 62) (hd : decode j.2.1 pc = .ok (.baload, 1)) {ex : Int32 → Option α} (k1 : ∀ x, Snd inj j X (pc + 1) lo (.int x :: st) M (ex x)) : Snd inj j X pc lo (.int i :: .ref c :: st) M (aI c n i M ex) :=
  Snd.ite fun hb => mStp.go ⟨rfl, fun p l e R s m args below meth c0 D A cs ad Q C1 H locs cells slots ls h1 h2 hW hL kk => by
    refine va_bald (D := D) (cA := cs.2.1) (n := n) (f := M.1 c) C1.1 C1.2.1 C1.2.2.2.2.2.2.2.1 hW.1 (c - 1) 1 ?_ rfl (inb_in hb) hd (kk H locs ls hW hL)
    rw [mm_get ad cs M hc, mm_e_byte ad cs M hs]⟩ (k1 (mI M c i.toNatClampNeg))
theorem sn_lald {c n : Nat} {i : Int32} (hs : mm_sh c = (3, n, 0)) (hc : 0 < c ∧ c ≤ 62) (hd : decode j.2.1 pc = .ok (.laload, 1)) {ex : Int64 → Option α} (k1 : ∀ x, Snd inj j X (pc + 1) lo (.long x :: st) M (ex x)) : Snd inj j X pc lo (.int i :: .ref c :: st) M (aL c n i M ex) :=
  Snd.ite fun hb => mStp.go ⟨rfl, fun p l e R s m args below meth c0 D A cs ad Q C1 H locs cells slots ls h1 h2 hW hL kk => by
    refine va_lald (D := D) (cA := cs.2.2) (n := n) (f := M.2.1 c) C1.1 C1.2.1 C1.2.2.2.2.2.2.2.1 hW.1 (c - 1) 2 ?_ rfl (inb_in hb) hd (kk H locs ls hW hL)
    rw [mm_get ad cs M hc, mm_e_long ad cs M hs]⟩ (k1 (mL M c i.toNatClampNeg))
theorem sn_iast {c n : Nat} {i v : Int32} (hs : mm_sh c = (1, n, 0)) (hc : 0 < c ∧ c ≤ 62) (hd : decode j.2.1 pc = .ok (.iastore, 1)) {ex : mm_M → Option α} (k1 : ∀ M, Snd inj j X (pc + 1) lo st M (ex M)) : Snd inj j X pc lo (.int v :: .int i :: .ref c :: st) M (uI c n i v M ex) :=
  Snd.ite fun hb => mStp.go (M' := sI M c i.toNatClampNeg v) ⟨rfl, fun p l e R s m args below meth c0 D A cs ad Q C1 H locs cells slots ls h1 h2 hW hL kk => by
    refine va_iast (D := D) (cA := cs.1) (n := n) (f := M.1 c) C1.1 C1.2.1 C1.2.2.2.2.2.2.2.1 hW.1 hW.2.1 hW.2.2 (c - 1) 0 ?_ rfl (inb_in hb) hd (fun H1 locs1 hP hD hS => ?_)
    · rw [mm_get ad cs M hc, mm_e_int ad cs M hs]
    · rw [mm_set ad cs M (sI M c i.toNatClampNeg v) hc (mm_e_ne ad cs M _) (by rw [mm_e_int ad cs _ hs]; simp [sI, sR, uR])] at hP hD
      exact kk H1 locs1 ls ⟨hP, hD, hS⟩ hL⟩ (k1 (sI M c i.toNatClampNeg v))
theorem sn_bast {c n : Nat} {i v : Int32} (hs : mm_sh c = (2, n, 0)) (hc : 0 < c ∧ c ≤ 62) (hd : decode j.2.1 pc = .ok (.bastore, 1)) {ex : mm_M → Option α} (k1 : ∀ M, Snd inj j X (pc + 1) lo st M (ex M)) : Snd inj j X pc lo (.int v :: .int i :: .ref c :: st) M (uB c n i v M ex) :=
  Snd.ite fun hb => mStp.go (M' := sI M c i.toNatClampNeg v.toInt8.toInt32) ⟨rfl, fun p l e R s m args below meth c0 D A cs ad Q C1 H locs cells slots ls h1 h2 hW hL kk => by
    refine va_bast (D := D) (cA := cs.2.1) (n := n) (f := M.1 c) C1.1 C1.2.1 C1.2.2.2.2.2.2.2.1 hW.1 hW.2.1 hW.2.2 (c - 1) 1 ?_ rfl (inb_in hb) hd (fun H1 locs1 hP hD hS => ?_)
    · rw [mm_get ad cs M hc, mm_e_byte ad cs M hs]
    · rw [vp_nar_byte] at hP hD
      rw [mm_set ad cs M (sI M c i.toNatClampNeg v.toInt8.toInt32) hc (mm_e_ne ad cs M _) (by rw [mm_e_byte ad cs _ hs]; simp [sI, sR, uR])] at hP hD
      exact kk H1 locs1 ls ⟨hP, hD, hS⟩ hL⟩ (k1 (sI M c i.toNatClampNeg v.toInt8.toInt32))
theorem sn_last {c n : Nat} {i : Int32} {v : Int64} (hs : mm_sh c = (3, n, 0)) (hc : 0 < c ∧ c ≤ 62) (hd : decode j.2.1 pc = .ok (.lastore, 1)) {ex : mm_M → Option α} (k1 : ∀ M, Snd inj j X (pc + 1) lo st M (ex M)) : Snd inj j X pc lo (.long v :: .int i :: .ref c :: st) M (uL c n i v M ex) :=
  Snd.ite fun hb => mStp.go (M' := sL M c i.toNatClampNeg v) ⟨rfl, fun p l e R s m args below meth c0 D A cs ad Q C1 H locs cells slots ls h1 h2 hW hL kk => by
    refine va_last (D := D) (cA := cs.2.2) (n := n) (f := M.2.1 c) C1.1 C1.2.1 C1.2.2.2.2.2.2.2.1 hW.1 hW.2.1 hW.2.2 (c - 1) 2 ?_ rfl (inb_in hb) hd (fun H1 locs1 hP hD hS => ?_)
    · rw [mm_get ad cs M hc, mm_e_long ad cs M hs]
    · rw [mm_set ad cs M (sL M c i.toNatClampNeg v) hc (mm_eL_ne ad cs M) (by rw [mm_e_long ad cs _ hs]; simp [sL, uR])] at hP hD
      exact kk H1 locs1 ls ⟨hP, hD, hS⟩ hL⟩ (k1 (sL M c i.toNatClampNeg v))
theorem sn_alen {c n : Nat} (v : Int32) (hs : mm_sh c = (1, n, 0)) (hc : 0 < c ∧ c ≤ 62) (hv : Int32.ofNat n = v) (hd : decode j.2.1 pc = .ok (.arraylength, 1)) (k1 : Snd inj j X (pc + 1) lo (.int v :: st) M ee) : Snd inj j X pc lo (.ref c :: st) M ee :=
  mStp.go ⟨rfl, fun p l e R s m args below meth c0 D A cs ad Q C1 H locs cells slots ls h1 h2 hW hL kk => by
    refine va_alen (D := D) (cA := cs.1) (x := (n, .inl (M.1 c))) (ty := .int) C1.1 C1.2.1 C1.2.2.2.2.2.2.2.1 hW.1 (c - 1) 0 ?_ rfl hv hd (kk H locs ls hW hL)
    rw [mm_get ad cs M hc, mm_e_int ad cs M hs]⟩ k1
-- the static tables, the script
theorem sn_tald {t n : Nat} {i : Int32} (ht : ∀ ad A U H, mm_RO ad A U H → va_T .int (ad (100 + t)) n (fun j => .int (mm_ro t j)) A U H) (hd : decode j.2.1 pc = .ok (.iaload, 1)) {ex : Int32 → Option α} (k1 : ∀ x, Snd inj j X (pc + 1) lo (.int x :: st) M (ex x)) : Snd inj j X pc lo (.int i :: .ref (100 + t) :: st) M (aT t n i ex) :=
  Snd.ite fun hb => mStp.go ⟨rfl, fun p l e R s m args below meth c0 D A cs ad Q C1 H locs cells slots ls h1 h2 hW hL kk =>
    va_ti (v := .int (mm_ro t i.toNatClampNeg)) C1.1 C1.2.1 (ht ad A s s.heap C1.2.2.2.2.2.2.2.2.2.1) hW.2.2 (inb_in hb) rfl hd (kk H locs ls hW hL)⟩ (k1 (mm_ro t i.toNatClampNeg))
theorem mm_T0 : ∀ ad A U H, mm_RO ad A U H → va_T .int (ad (100 + 0)) 3 (fun j => .int (mm_ro 0 j)) A U H := fun _ _ _ _ h => h.2.1.1
theorem mm_T1 : ∀ ad A U H, mm_RO ad A U H → va_T .int (ad (100 + 1)) 16 (fun j => .int (mm_ro 1 j)) A U H := fun _ _ _ _ h => h.2.1.2.1
theorem mm_T2 : ∀ ad A U H, mm_RO ad A U H → va_T .int (ad (100 + 2)) 16 (fun j => .int (mm_ro 2 j)) A U H := fun _ _ _ _ h => h.2.1.2.2
theorem sn_xald {i : Int32} (hd : decode j.2.1 pc = .ok (.iaload, 1)) {ex : Int32 → Option α} (k1 : ∀ x, Snd inj j X (pc + 1) lo (.int x :: st) M (ex x)) : Snd inj j X pc lo (.int i :: .ref 103 :: st) M (aX X i ex) :=
  Snd.ite fun hb => mStp.go ⟨rfl, fun p l e R s m args below meth c0 D A cs ad Q C1 H locs cells slots ls h1 h2 hW hL kk => by
    rcases C1.2.2.2.2.2.2.2.2.2.2.1 with h0 | h0
    · exfalso
      rw [h0] at hb
      simp [inb] at hb
    · exact va_ti (v := .int (X.2 i.toNatClampNeg)) C1.1 C1.2.1 h0 hW.2.2 (inb_in hb) rfl hd (kk H locs ls hW hL)⟩ (k1 (X.2 i.toNatClampNeg))
theorem sn_xlen (hX : X.1 ≠ 0) (hd : decode j.2.1 pc = .ok (.arraylength, 1)) (k1 : Snd inj j X (pc + 1) lo (.int (Int32.ofNat X.1) :: st) M ee) : Snd inj j X pc lo (.ref 103 :: st) M ee :=
  mStp.go ⟨rfl, fun p l e R s m args below meth c0 D A cs ad Q C1 H locs cells slots ls h1 h2 hW hL kk => by
    rcases C1.2.2.2.2.2.2.2.2.2.2.1 with h0 | h0
    · exact absurd h0 hX
    · exact va_tlen C1.1 C1.2.1 h0 hW.2.2 rfl hd (kk H locs ls hW hL)⟩ k1
theorem sn_gst {idx t : Nat} {n : String} (ht : ∀ ad A U H, mm_RO ad A U H → va_Z "DepotCharge" n "[I" (.ref (ad (100 + t))) A U H) (hj : j.1.cls = "DepotCharge") (hw : Cond.fieldLink "DepotCharge" idx "DepotCharge" n "[I" ∈ mm_tbl) (hd : decode j.2.1 pc = .ok (.getstatic idx, 3)) (k1 : Snd inj j X (pc + 3) lo (.ref (100 + t) :: st) M ee) : Snd inj j X pc lo st M ee :=
  mStp.go ⟨rfl, fun p l e R s m args below meth c0 D A cs ad Q C1 H locs cells slots ls h1 h2 hW hL kk =>
    va_gets C1.1 C1.2.1 (ht ad A s s.heap C1.2.2.2.2.2.2.2.2.2.1) hW.2.2 (own := "DepotCharge") (by rw [← hj]; exact C1.2.2.2.2.2.1) (C1.2.2.2.2.1 _ hw) (fun _ h => h) hd (kk H locs ls hW hL)⟩ k1
theorem sn_gstN {idx t : Nat} {n : String} (ht : ∀ ad A U H, mm_RO ad A U H → va_Z "DepotCharge" n "[I" (.ref (ad (100 + t))) A U H) (hw : Cond.fieldLinkNest j.1.cls idx "DepotCharge" n "[I" "DepotCharge" ∈ mm_rw) (hd : decode j.2.1 pc = .ok (.getstatic idx, 3)) (k1 : Snd inj j X (pc + 3) lo (.ref (100 + t) :: st) M ee) : Snd inj j X pc lo st M ee :=
  mStp.go ⟨rfl, fun p l e R s m args below meth c0 D A cs ad Q C1 H locs cells slots ls h1 h2 hW hL kk =>
    va_getsN C1.1 C1.2.1 (ht ad A s s.heap C1.2.2.2.2.2.2.2.2.2.1) hW.2.2 C1.2.2.2.2.2.1 (va_Nw.use (mm_rw_tab _ hw) (C1.2.2.2.2.2.2.2.2.2.1.2.2.1 _ hw)) (fun _ h => h) hd (kk H locs ls hW hL)⟩ k1
theorem mm_Z0 : ∀ ad A U H, mm_RO ad A U H → va_Z "DepotCharge" "MOST_OF_SETTING" "[I" (.ref (ad (100 + 0))) A U H := fun _ _ _ _ h => h.1.1
theorem mm_Z1 : ∀ ad A U H, mm_RO ad A U H → va_Z "DepotCharge" "SIZE_OF_SET" "[I" (.ref (ad (100 + 1))) A U H := fun _ _ _ _ h => h.1.2.1
theorem mm_Z2 : ∀ ad A U H, mm_RO ad A U H → va_Z "DepotCharge" "FIRST_OF_SET" "[I" (.ref (ad (100 + 2))) A U H := fun _ _ _ _ h => h.1.2.2
-- the JDK's own
def mx (a b : Int32) : Int32 := if a < b then b else a
def mi (a b : Int32) : Int32 := if b < a then b else a
theorem sn_max {a b : Int32} {idx : Nat} (hl : Cond.methodLink j.1.cls idx Lib.Math.max.name ∈ mm_tbl) (h2 : Cond.static Lib.Math.max.name ∈ mm_tbl) (h3 : Cond.initialized "java/lang/Math" ∈ mm_tbl) (h4 : Cond.code Lib.Math.max.name Lib.Math.max.code 2 (some .int) ∈ mm_tbl) (hj : 1 ≤ j.2.2.2.2) (hr : ((st.map fun v => v.category).sum) ≤ 8) (hd : decode j.2.1 pc = .ok (.invokestatic idx, 3)) (k1 : Snd inj j X (pc + 3) lo (.int (mx a b) :: st) M ee) : Snd inj j X pc lo (.int b :: .int a :: st) M ee :=
  mStp.go ⟨rfl, fun p l e R s m args below meth c0 D A cs ad Q C1 H locs cells slots ls g1 g2 hW hL kk =>
    va_mmax C1.1 C1.2.1 (by rw [C1.2.2.1, hL.1]) C1.2.2.2.2.2.1 (C1.2.2.2.2.1 _ hl) (C1.2.2.2.2.1 _ h2) (C1.2.2.2.2.1 _ h3) (C1.2.2.2.2.1 _ h4) (Nat.le_trans hj C1.2.2.2.2.2.2.2.2.2.2.2.1) (by
      have e : (List.map (fun v => v.category) (List.map (mm_v ad) st)) = st.map fun v => v.category := by rw [List.map_map]; exact List.map_congr_left fun v _ => mm_v_cat ad v
      have h9 := C1.2.2.2.2.2.2.2.2.2.2.2.2
      rw [e]; omega) g1 g2 hd (kk H locs ls hW hL)⟩ k1
theorem sn_min {a b : Int32} {idx : Nat} (hl : Cond.methodLink j.1.cls idx Lib.Math.min.name ∈ mm_tbl) (h2 : Cond.static Lib.Math.min.name ∈ mm_tbl) (h3 : Cond.initialized "java/lang/Math" ∈ mm_tbl) (h4 : Cond.code Lib.Math.min.name Lib.Math.min.code 2 (some .int) ∈ mm_tbl) (hj : 1 ≤ j.2.2.2.2) (hr : ((st.map fun v => v.category).sum) ≤ 8) (hd : decode j.2.1 pc = .ok (.invokestatic idx, 3)) (k1 : Snd inj j X (pc + 3) lo (.int (mi a b) :: st) M ee) : Snd inj j X pc lo (.int b :: .int a :: st) M ee :=
  mStp.go ⟨rfl, fun p l e R s m args below meth c0 D A cs ad Q C1 H locs cells slots ls g1 g2 hW hL kk =>
    va_mmin C1.1 C1.2.1 (by rw [C1.2.2.1, hL.1]) C1.2.2.2.2.2.1 (C1.2.2.2.2.1 _ hl) (C1.2.2.2.2.1 _ h2) (C1.2.2.2.2.1 _ h3) (C1.2.2.2.2.1 _ h4) (Nat.le_trans hj C1.2.2.2.2.2.2.2.2.2.2.2.1) (by
      have e : (List.map (fun v => v.category) (List.map (mm_v ad) st)) = st.map fun v => v.category := by rw [List.map_map]; exact List.map_congr_left fun v _ => mm_v_cat ad v
      have h9 := C1.2.2.2.2.2.2.2.2.2.2.2.2
      rw [e]; omega) g1 g2 hd (kk H locs ls hW hL)⟩ k1
def cpy (a na b nb : Nat) (sp dp n : Int32) (M : mm_M) (e : mm_M → Option α) : Option α := if (!(decide (sp < 0)) && !(decide (dp < 0)) && !(decide (n < 0)) && decide (sp.toNatClampNeg + n.toNatClampNeg ≤ na) && decide (dp.toNatClampNeg + n.toNatClampNeg ≤ nb)) = true then e (sR M b (va_cpy (M.1 a) (M.1 b) sp.toNatClampNeg dp.toNatClampNeg n.toNatClampNeg)) else none
theorem sn_cpy {a na b nb idx : Nat} {sp dp n : Int32} (hsa : mm_sh a = (1, na, 0)) (hca : 0 < a ∧ a ≤ 62) (hsb : mm_sh b = (1, nb, 0)) (hcb : 0 < b ∧ b ≤ 62) (hl : Cond.methodLink j.1.cls idx arraycopyName ∈ mm_tbl) (h1 : Cond.native arraycopyName ∈ mm_tbl) (h2 : Cond.static arraycopyName ∈ mm_tbl) (h3 : Cond.initialized "java/lang/System" ∈ mm_tbl) (hj : 1 ≤ j.2.2.2.2) (hr : ((st.map fun v => v.category).sum) ≤ 8) (hd : decode j.2.1 pc = .ok (.invokestatic idx, 3)) {ex : mm_M → Option α} (k1 : ∀ M, Snd inj j X (pc + 3) lo st M (ex M)) : Snd inj j X pc lo (.int n :: .int dp :: .ref b :: .int sp :: .ref a :: st) M (cpy a na b nb sp dp n M ex) :=
  Snd.ite fun hb => by
    simp only [Bool.and_eq_true, Bool.not_eq_true', decide_eq_false_iff_not, decide_eq_true_eq] at hb
    obtain ⟨⟨⟨⟨b1, b2⟩, b3⟩, b4⟩, b5⟩ := hb
    refine mStp.go (M' := sR M b (va_cpy (M.1 a) (M.1 b) sp.toNatClampNeg dp.toNatClampNeg n.toNatClampNeg)) ⟨rfl, fun p l e R s m args below meth c0 D A cs ad Q C1 H locs cells slots ls g1 g2 hW hL kk => ?_⟩ (k1 _)
    refine va_copyi (D := D) (c0 := cs.1) (c1 := cs.1) (n0 := na) (n1 := nb) (f := M.1 a) (g := M.1 b) (ty := .int) C1.1 C1.2.1 (by rw [C1.2.2.1, hL.1]) C1.2.2.2.2.2.1 (C1.2.2.2.2.1 _ hl) (C1.2.2.2.2.1 _ h1) (C1.2.2.2.2.1 _ h2) (C1.2.2.2.2.1 _ h3) C1.2.2.2.2.2.2.2.1 hW.1 hW.2.1 hW.2.2 (a - 1) (b - 1) 0 0 ?_ ?_ rfl rfl rfl b1 b2 b3 b4 b5 (fun _ _ => rfl) (Nat.le_trans hj C1.2.2.2.2.2.2.2.2.2.2.2.1) ?_ hd (fun H1 locs1 hP hD hS => ?_)
    · rw [mm_get ad cs M hca, mm_e_int ad cs M hsa]
    · rw [mm_get ad cs M hcb, mm_e_int ad cs M hsb]
    · have e : (List.map (fun v => v.category) (List.map (mm_v ad) st)) = st.map fun v => v.category := by rw [List.map_map]; exact List.map_congr_left fun v _ => mm_v_cat ad v
      have h9 := C1.2.2.2.2.2.2.2.2.2.2.2.2
      have h8 : nativeFrameWords "java/lang/System" "arraycopy" 5 = 0 ∨ nativeFrameWords "java/lang/System" "arraycopy" 5 ≤ 17 := by right; decide +kernel
      rw [e]; omega
    · rw [mm_set ad cs M (sR M b (va_cpy (M.1 a) (M.1 b) sp.toNatClampNeg dp.toNatClampNeg n.toNatClampNeg)) hcb (mm_e_ne ad cs M _) (by rw [mm_e_int ad cs _ hsb]; simp [sR, uR])] at hP hD
      exact kk H1 locs1 ls ⟨hP, hD, hS⟩ hL
theorem sn_ldcS {idx q : Nat} {tx : String} (ht : ∀ ad A U H, mm_RO ad A U H → vk_R j.1.cls idx tx (ad q) U) (hd : decode j.2.1 pc = .ok (.ldc idx, 2)) (k1 : Snd inj j X (pc + 2) lo (.ref q :: st) M ee) : Snd inj j X pc lo st M ee :=
  mStp.go ⟨rfl, fun p l e R s m args below meth c0 D A cs ad Q C1 H locs cells slots ls g1 g2 hW hL kk => va_ldcS C1.1 C1.2.1 C1.2.2.2.2.2.1 (ht ad A s s.heap C1.2.2.2.2.2.2.2.2.2.1) hd (kk H locs ls hW hL)⟩ k1
-- ends
abbrev injI : Int32 × mm_M → Option Value × mm_M := fun x => (some (.int x.1), x.2)
abbrev injL : Int64 × mm_M → Option Value × mm_M := fun x => (some (.long x.1), x.2)
abbrev injV : mm_M → Option Value × mm_M := fun M => (none, M)
theorem sn_iret {v : Int32} (hr : j.2.2.2.1 = some .int) (hd : decode j.2.1 pc = .ok (.ireturn, 1)) : Snd injI j X pc lo [.int v] M (some (v, M)) := by
  intro x hx
  cases hx
  refine ⟨Nat.le_refl _, ?_⟩
  intro p l e R s m args below meth c D A cs ad g0 k0 s0 Q C b1 b2 hQ H locs cells slots ls hW hL hc hs
  exact hQ H locs cells slots pc ls _ hW hc hs ⟨rfl, hd, .int, hr, rfl⟩
def rZ (v : Int32) (M : mm_M) : Option (Int32 × mm_M) := if v = 0 ∨ v = 1 then some (v, M) else none
theorem sn_zret {v : Int32} (hr : j.2.2.2.1 = some .boolean) (hd : decode j.2.1 pc = .ok (.ireturn, 1)) : Snd injI j X pc lo [.int v] M (rZ v M) := by
  unfold rZ
  refine Snd.gd fun h => ?_
  intro x hx
  cases hx
  refine ⟨Nat.le_refl _, ?_⟩
  intro p l e R s m args below meth c D A cs ad g0 k0 s0 Q C b1 b2 hQ H locs cells slots ls hW hL hc hs
  exact hQ H locs cells slots pc ls _ hW hc hs ⟨rfl, hd, .boolean, hr, by rcases h with rfl | rfl <;> simp [narrow]⟩
theorem sn_lret {v : Int64} (hr : j.2.2.2.1 = some .long) (hd : decode j.2.1 pc = .ok (.lreturn, 1)) : Snd injL j X pc lo [.long v] M (some (v, M)) := by
  intro x hx
  cases hx
  refine ⟨Nat.le_refl _, ?_⟩
  intro p l e R s m args below meth c D A cs ad g0 k0 s0 Q C b1 b2 hQ H locs cells slots ls hW hL hc hs
  exact hQ H locs cells slots pc ls _ hW hc hs ⟨rfl, hd, hr⟩
theorem sn_vret (hr : j.2.2.2.1 = none) (hd : decode j.2.1 pc = .ok (.return_, 1)) : Snd injV j X pc lo [] M (some M) := by
  intro x hx
  cases hx
  refine ⟨Nat.le_refl _, ?_⟩
  intro p l e R s m args below meth c D A cs ad g0 k0 s0 Q C b1 b2 hQ H locs cells slots ls hW hL hc hs
  exact hQ H locs cells slots pc ls _ hW hc hs ⟨rfl, hd, hr⟩
end HEAPRULES
end
section
section CALLRULES
abbrev mm_X0 : mm_X := (0, fun _ => 0)
theorem mm_args_in {ad : Nat → Nat} : ∀ (as : List Value) (k i : Nat) (v : Value), (∀ v ∈ as, v.category = 1) → as[i]? = some v → (k + i, mm_v ad v) ∈ lv_args k (as.map (mm_v ad))
  | [], k, i, v, _, h => by simp at h
  | a :: as, k, i, v, hc, h => by
    cases i with
    | zero =>
      rw [List.getElem?_cons_zero] at h
      cases h
      exact List.mem_cons_self
    | succ i =>
      rw [List.getElem?_cons_succ] at h
      have e : (mm_v ad a).category = 1 := (mm_v_cat ad a).trans (hc a List.mem_cons_self)
      have := mm_args_in (ad := ad) as (k + 1) i v (fun v hv => hc v (List.mem_cons_of_mem _ hv)) h
      simp only [List.map_cons, lv_args]
      rw [if_neg (by omega)]
      refine List.mem_cons_of_mem _ ?_
      rw [show k + (i + 1) = k + 1 + i by omega]
      exact this
theorem mm_sl_len {ad : Nat → Nat} (as : List Value) (hc : ∀ v ∈ as, v.category = 1) : (lg_sl (as.map (mm_v ad))).length = as.length := by
  induction as with
  | nil => rfl
  | cons a as ih =>
    have e : (mm_v ad a).category = 1 := (mm_v_cat ad a).trans (hc a List.mem_cons_self)
    have h := ih (fun v hv => hc v (List.mem_cons_of_mem _ hv))
    simp only [List.map_cons, lg_sl, List.flatMap_cons] at h ⊢
    rw [if_neg (by omega)]
    simp only [List.length_append, List.length_cons, List.length_nil, h]
    omega
/-- a method's words, its room, its start, its end -/
abbrev mm_wd (j : mm_J) : List Cond := .code j.1 j.2.1 j.2.2.1 j.2.2.2.1 :: mm_tbl
abbrev mm_rm (j : mm_J) (g : Nat) : Room := { frames := j.2.2.2.2, cells := g, slots := 6 * g, locals := 36 * j.2.2.2.2 }
def mm_Pc (D : va_G) (cs : mm_K) (ad : Nat → Nat) (as : List Value) (M : mm_M) (sz : Nat) : Array Value → State → Prop := fun a U => a = (as.map (mm_v ad)).toArray ∧ U.heap.size = sz ∧ va_P D vwCl (mm_ws ad cs M) U.heap ∧ va_K D vwCl (mm_ty cs) U ∧ va_D (fun _ => True) (mm_ws ad cs M) ∧ mm_RO ad (va_A (mm_ws ad cs M) sz) U U.heap
def mm_B (D : va_G) (cs : mm_K) (ad : Nat → Nat) (A : Nat → Prop) (M : mm_M) (_ : Unit) (t : State) : Prop := va_P D vwCl (mm_ws ad cs M) t.heap ∧ va_K D vwCl (mm_ty cs) t ∧ va_D A (mm_ws ad cs M)
theorem mm_blind (D : va_G) (cs : mm_K) (ad : Nat → Nat) (as : List Value) (M : mm_M) (sz : Nat) : FrameBlind (mm_Pc D cs ad as M sz) := by
  intro a U g mk h
  obtain ⟨h1, h2, h3, h4, h5, h6⟩ := h
  exact ⟨h1, h2, h3, va_K.moved (u := U) (U := U.calling g mk a) (Vm.Alike.refl U.vm) h4, h5, mm_RO.same (s := U) (U := U.calling g mk a) rfl h6⟩
variable {α : Type} {inj : α → Option Value × mm_M}
/-- the contract of j out of its 'Snd' -/
theorem mm_met {j : mm_J} {as : List Value} {M : mm_M} {x : α} (h : Snd inj j mm_X0 0 (as.map some) [] M (some x)) (hc : ∀ v ∈ as, v.category = 1) (hn : as.length ≤ j.2.2.1) (hp : plainName j.1.cls = true) (l : Launch) (D : va_G) (cs : mm_K) (ad : Nat → Nat) (sz : Nat) (Qc : Array Value → State → Outcome → State → Prop)
    (hQc : ∀ (s t : State) (H : Heap) (a : Array Value) (locs : List Loc), t.heap = H → s.WarmedH t.vm → s.heap.size = sz → va_K D vwCl (mm_ty cs) s → mm_W s D (va_A (mm_ws ad cs M) sz) cs ad (inj x).2 H locs → Qc a s (.returned (inj x).1) t)
    (hv : ∀ r, (inj x).1 = some (.ref r) → False) :
    Met l j.1 (mm_wd j) (mm_rm j (mG (inj x).2 - mG M)) (mm_Pc D cs ad as M sz) Qc (mG (inj x).2 - mG M) (6 * (mG (inj x).2 - mG M)) (va_A (mm_ws ad cs M) sz) := by
  refine Met.ofW (cc := j.2.1) (maxL := j.2.2.1) (ret := j.2.2.2.1) hp rfl ?_
  intro p e s m args below meth c s₁ B hml hpc
  obtain ⟨rfl, hsz, hP, hK, hD, hRO⟩ := hpc
  obtain ⟨g1, g2⟩ := h x rfl
  have hts := atoms_spec (ws := mm_wd j) B.pre
  rw [lg_entry_eq]
  have hl := lv_entry (as.map (mm_v ad)) (n := j.2.2.1) (by rw [mm_sl_len as hc]; exact hn)
  generalize (lg_sl (as.map (mm_v ad)) ++ List.replicate (j.2.2.1 - (lg_sl (as.map (mm_v ad))).length) Slot.unset).toArray = ls at hl ⊢
  subst hsz
  have hD' := hD.self (sz := s.heap.size)
  refine g2 p l e _ s m _ below meth c D (va_A (mm_ws ad cs M) s.heap.size) cs ad (mG M) 0 0 _ ⟨B.exec, B.bytes, hml, B.returns, fun w hw => hts w (List.mem_cons_of_mem _ hw), findClass_of_methodNamed B.named, B.notSynchronized, hK, fun q hq => Or.inr hq, hRO, Or.inl rfl, Nat.le_refl _, Nat.le_refl _⟩ (by show 0 + mG (inj x).2 ≤ (mG (inj x).2 - mG M) + mG M; omega) (by show 0 + 6 * mG (inj x).2 ≤ 6 * (mG (inj x).2 - mG M) + 6 * mG M; omega) ?_ s.heap [] 0 0 ls ⟨hP, hD', va_S.rf⟩ ⟨hl.1, hl.2.1, fun i v hv => ?_⟩ (by omega) (by omega)
  · intro H locs cells slots pc ls st hW hcc hss hE
    have e1 : cells = mG (inj x).2 - mG M := by omega
    have e2 : slots = 6 * (mG (inj x).2 - mG M) := by omega
    subst e1; subst e2
    have hlk : meth.locks = false := B.notSynchronized
    unfold mm_E at hE
    have hq : ∀ t : State, t.heap = H → s.WarmedH t.vm → Qc (as.map (mm_v ad)).toArray s (.returned (inj x).1) t := fun t ht hw => hQc s t H _ locs ht hw rfl hK hW
    generalize (inj x).1 = r at hE hq hv
    match r, hE with
    | none, ⟨hst, hd, hr⟩ =>
      subst hst
      exact W.vret B.exec B.bytes (B.returns.trans hr) hq hW.2.2.2.2 hd (hlocks := hlk)
    | some (.int v), ⟨hst, hd, ty, hr, hnr⟩ =>
      subst hst
      exact W.zret B.exec B.bytes (B.returns.trans hr) hnr hq hW.2.2.2.2 hd (hlocks := hlk)
    | some (.long v), ⟨hst, hd, hr⟩ =>
      subst hst
      exact W.lret B.exec B.bytes (B.returns.trans hr) hq hW.2.2.2.2 hd (hlocks := hlk)
  · rw [List.getElem?_map] at hv
    cases hi : as[i]? with
    | none => rw [hi] at hv; cases hv
    | some w =>
      rw [hi] at hv
      have e : w = v := by simpa using hv
      subst e
      have := mm_args_in (ad := ad) as 0 i w hc hi
      rw [Nat.zero_add] at this
      exact hl.2.2 _ this
/-- what a callee's name must have -/
def mm_cl (j : mm_J) (n : Nat) : Prop := Cond.code j.1 j.2.1 j.2.2.1 j.2.2.2.1 ∈ mm_tbl ∧ Cond.initialized j.1.cls ∈ mm_tbl ∧ (j.1.cls ≠ "java/lang/invoke/MethodHandle" ∧ j.1.cls ≠ "java/lang/invoke/VarHandle" ∧ (parseMethodDescriptor j.1.desc).map (fun d => d.parameters.length) = some n) ∧ plainName j.1.cls = true ∧ j.2.2.1 ≤ 17
variable {β : Type} {jnj : β → Option Value × mm_M} {j jc : mm_J} {X : mm_X} {pc idx n : Nat} {lo : List (Option Value)} {st0 st : List Value} {M : mm_M}
theorem mm_cat8 {ad : Nat → Nat} (h : (st.map fun v => v.category).sum ≤ 8) : ((st.map (mm_v ad)).map fun v => v.category).sum ≤ 8 := by
  rw [List.map_map]
  have e : st.map ((fun v : Value => v.category) ∘ mm_v ad) = st.map fun v => v.category := List.map_congr_left fun v _ => mm_v_cat ad v
  rw [e]; exact h
/-- how a call goes on: the callee's answer r on the stack -/
def mm_cont (jnj : β → Option Value × mm_M) (j : mm_J) (X : mm_X) (pc : Nat) (lo : List (Option Value)) (st : List Value) (inj : α → Option Value × mm_M) (ex : α → Option β) : Prop := ∀ x : α, Snd jnj j X (pc + 3) lo ((inj x).1.toList ++ st) (inj x).2 (ex x)
theorem mm_ret_v {ad : Nat → Nat} {r : Option Value} (h : ∀ k, r = some (.ref k) → False) : r.toList.map (mm_v ad) = r.toList := by
  cases r with
  | none => rfl
  | some v =>
    cases v with
    | ref k => exact (h k rfl).elim
    | _ => rfl
/-- a call, whatever its kind: 'run' is the kit's row of it -/
theorem mm_call {f : Option α} {ex : α → Option β} {As : List Value} (hf : Snd inj jc mm_X0 0 (As.map some) [] M f) (hv : ∀ (x : α) r, (inj x).1 = some (.ref r) → False) (hc : ∀ v ∈ As, v.category = 1) (hn : As.length ≤ jc.2.2.1) (hcl : mm_cl jc n) (hlv : jc.2.2.2.2 + 1 ≤ j.2.2.2.2) (k : ∀ x : α, f = some x → Snd jnj j X (pc + 3) lo ((inj x).1.toList ++ st) (inj x).2 (ex x))
    (run : ∀ (p : Program) (l : Launch) (e : Env) (R : Room) (s : State) (m : MethodId) (args : Array Value) (below : List Frame) (meth : Method) (c : Code) (D : va_G) (A : Nat → Prop) (cs : mm_K) (ad : Nat → Nat) (H : Heap) (locs : List Loc) (cells slots g : Nat) (ls : Array Slot) (Qc : Array Value → State → Outcome → State → Prop) (free : Nat → Prop),
      mm_C j X p R s m args meth c D A cs ad → ls.size = j.2.2.1 → mm_W s D A cs ad M H locs → Met l jc.1 (mm_wd jc) (mm_rm jc g) (mm_Pc D cs ad As M H.size) Qc g (6 * g) free → (∀ U : State, U.heap = H → s.WarmedH U.vm → mm_Pc D cs ad As M H.size (As.map (mm_v ad)).toArray U) → cells + g ≤ R.cells → slots + 6 * g ≤ R.slots →
      va_Run p l e R s m args below meth c H locs cells slots g (6 * g) (F0 m pc ls (st0.map (mm_v ad))) (st.map (mm_v ad)) (Qc (As.map (mm_v ad)).toArray) free) : Snd jnj j X pc lo st0 M (f.bind ex) := by
  intro y hy
  cases hfx : f with
  | none => rw [hfx] at hy; cases hy
  | some x =>
    have hkx := k x hfx
    rw [hfx] at hy hf
    have hy : ex x = some y := hy
    obtain ⟨f1, -⟩ := hf x rfl
    obtain ⟨k1, k2⟩ := hkx y hy
    refine ⟨Nat.le_trans f1 k1, ?_⟩
    intro p l e R s m args below meth c D A cs ad g0 k0 s0 Q C b1 b2 hQ H locs cells slots ls hW hL hcc hss
    have hFr : ∀ q, va_A (mm_ws ad cs M) H.size q → A q := by
      intro q h
      rcases h with ⟨i, e, h⟩ | h
      · exact hW.2.1.2 i (q, e) h
      · exact C.2.2.2.2.2.2.2.2.1 q (Nat.le_trans hW.2.2.1 h)
    have hM := mm_met hf hc hn hcl.2.2.2.1 l D cs ad H.size (fun _ st oc t => (oc = .returned (inj x).1 ∧ mm_B D cs ad (va_A (mm_ws ad cs M) H.size) (inj x).2 () t) ∧ va_F (va_A (mm_ws ad cs M) H.size) st t) (fun s1 t H1 a locs1 ht hw hs1 hK1 hW1 => ⟨⟨rfl, by rw [ht]; exact hW1.1, va_K.moved hw.alike hK1, hW1.2.1⟩, hW1.2.2.F ht⟩) (hv x)
    have hr := run p l e R s m args below meth c D A cs ad H locs cells slots (mG (inj x).2 - mG M) ls _ _ C hL.1 hW hM (fun U hU hWm => ⟨rfl, by rw [hU], by rw [hU]; exact hW.1, va_K.moved hWm.alike C.2.2.2.2.2.2.2.1, hW.2.1.weaken (fun _ _ _ _ => trivial), by
      rw [hU]
      exact ((C.2.2.2.2.2.2.2.2.2.1.kept hW.2.2.2.1).narrow hFr).warm hWm⟩) (by omega) (by omega)
    intro T hT Xs
    obtain ⟨v, st₀, t, T', L, h0, X', hLl, e1, e2, ⟨⟨hv1, hB1, hB2, hB3⟩, hz, hk⟩, stp⟩ := hr T hT Xs
    have hv2 : v = (inj x).1 := by injection hv1
    subst hv2
    rw [h0] at hz hk
    have hS' : va_S A s.heap T'.heap (locs ++ L) := ⟨Nat.le_trans hW.2.2.1 (by rw [e1]; exact hz), fun q h1 h2 => by rw [e1, hk q (Nat.lt_of_lt_of_le h1 hW.2.2.1) (fun z => h2 (hFr q z))]; exact hW.2.2.2.1 q h1 h2, fun q hq => by
      rcases List.mem_append.mp hq with h | h
      · exact hW.2.2.2.2 q h
      · exact hFr _ (hLl q h)⟩
    obtain ⟨t2, a1, b3⟩ := k2 p l e R s m args below meth c D A cs ad g0 k0 s0 Q C b1 b2 hQ T'.heap (locs ++ L) (cells + (mG (inj x).2 - mG M)) (slots + 6 * (mG (inj x).2 - mG M)) ls ⟨by rw [e1]; exact hB1, hB3.weaken (fun _ q _ h => hFr q.1 h), hS'⟩ hL (by omega) (by omega) T' rfl X'
    rw [List.map_append, mm_ret_v (hv x)] at a1
    exact ⟨t2, stp t2 a1, b3⟩
theorem sn_callV {f : Option α} {ex : α → Option β} {b ci N : Nat} {T : u_T} {As : List Value} (hf : Snd inj jc mm_X0 0 ((.ref b :: As).map some) [] M f) (hv : ∀ (x : α) r, (inj x).1 = some (.ref r) → False) (hc : ∀ v ∈ Value.ref b :: As, v.category = 1) (hn : (Value.ref b :: As).length ≤ jc.2.2.1) (hcl : mm_cl jc n) (hAs : As.length = n) (hlv : jc.2.2.2.2 + 1 ≤ j.2.2.2.2)
    (hvc : vwCl[ci]? = some (jc.1.cls, T, N)) (hs : mm_sh b = (0, ci, N)) (hb : 0 < b ∧ b ≤ 62) (hl : Cond.methodLink j.1.cls idx jc.1 ∈ mm_tbl) (hin : Cond.instanceMethod jc.1 ∈ mm_tbl) (hse : Cond.selects jc.1.cls jc.1 jc.1 ∈ mm_tbl) (hst : st0 = As.reverse ++ .ref b :: st) (hr : (st.map fun v => v.category).sum ≤ 8) (hd : decode j.2.1 pc = .ok (.invokevirtual idx, 3)) (k : mm_cont jnj j X pc lo st inj ex) : Snd jnj j X pc lo st0 M (f.bind ex) := by
  refine mm_call hf hv hc hn hcl hlv (fun x _ => k x) ?_
  intro p l e R s m args below meth c D A cs ad H locs cells slots g ls Qc free C hls hWW hM hpc h1 h2
  have hts := C.2.2.2.2.1
  refine va_runV (C := jc.1.cls) (As := As.map (mm_v ad)) (rest := st.map (mm_v ad)) (b := ad b) (n := n) (Ts := mm_tbl) (own := j.1.cls) ⟨C.1, C.2.1, C.2.2.1, C.2.2.2.2.2.1, hts⟩ hM ⟨callB_of n hts (mm_goodC hcl.1) rfl rfl rfl (hts _ hcl.2.1) (hts _ hl) hcl.2.2.1 ⟨Nat.le_trans hlv C.2.2.2.2.2.2.2.2.2.2.2.1, ?_⟩, hts _ hin, hts _ hse⟩ ⟨mm_blind D cs ad _ M _, ?_, fun U hU hWm => hpc U hU hWm⟩ rfl (by rw [List.length_map]; exact hAs) hls ?_ (lv_room (mm_cat8 hr)) hd ⟨h1, h2⟩
  · have q1 := C.2.2.2.2.2.2.2.2.2.2.2.2
    have q2 := hcl.2.2.2.2
    show 8 + (jc.2.2.1 + 11) + 36 * jc.2.2.2.2 ≤ R.locals
    omega
  · exact va_recv (q := (jc.1.cls, T, N)) C.2.2.2.2.2.2.2.1 hWW.1 hvc (q0 := b - 1) (by rw [mm_get ad cs M hb, mm_e_obj ad cs M hs])
  · rw [hst]
    show List.map (mm_v ad) (As.reverse ++ Value.ref b :: st) = _
    rw [List.map_append, List.map_reverse]
    rfl
theorem sn_callS {f : Option α} {ex : α → Option β} {As : List Value} (hf : Snd inj jc mm_X0 0 (As.map some) [] M f) (hv : ∀ (x : α) r, (inj x).1 = some (.ref r) → False) (hc : ∀ v ∈ As, v.category = 1) (hn : As.length ≤ jc.2.2.1) (hcl : mm_cl jc n) (hAs : As.length = n) (hlv : jc.2.2.2.2 + 1 ≤ j.2.2.2.2)
    (hl : Cond.methodLink j.1.cls idx jc.1 ∈ mm_tbl) (hin : Cond.static jc.1 ∈ mm_tbl) (hst : st0 = As.reverse ++ st) (hr : (st.map fun v => v.category).sum ≤ 8) (hd : decode j.2.1 pc = .ok (.invokestatic idx, 3)) (k : mm_cont jnj j X pc lo st inj ex) : Snd jnj j X pc lo st0 M (f.bind ex) := by
  refine mm_call hf hv hc hn hcl hlv (fun x _ => k x) ?_
  intro p l e R s m args below meth c D A cs ad H locs cells slots g ls Qc free C hls hWW hM hpc h1 h2
  have hts := C.2.2.2.2.1
  refine va_runS (As := As.map (mm_v ad)) (rest := st.map (mm_v ad)) (n := n) (Ts := mm_tbl) (own := j.1.cls) ⟨C.1, C.2.1, C.2.2.1, C.2.2.2.2.2.1, hts⟩ hM ⟨callB_of n hts (mm_goodC hcl.1) rfl rfl rfl (hts _ hcl.2.1) (hts _ hl) hcl.2.2.1 ⟨Nat.le_trans hlv C.2.2.2.2.2.2.2.2.2.2.2.1, ?_⟩, hts _ hin⟩ ⟨mm_blind D cs ad _ M _, fun U hU hWm => hpc U hU hWm⟩ rfl (by rw [List.length_map]; exact hAs) hls ?_ (lv_room (mm_cat8 hr)) hd ⟨h1, h2⟩
  · have q1 := C.2.2.2.2.2.2.2.2.2.2.2.2
    have q2 := hcl.2.2.2.2
    show 8 + (jc.2.2.1 + 11) + 36 * jc.2.2.2.2 ≤ R.locals
    omega
  · rw [hst]
    show List.map (mm_v ad) (As.reverse ++ st) = _
    rw [List.map_append, List.map_reverse]
theorem mm_hvI : ∀ (x : Int32 × mm_M) r, (injI x).1 = some (.ref r) → False := fun x r h => by cases h
theorem mm_hvL : ∀ (x : Int64 × mm_M) r, (injL x).1 = some (.ref r) → False := fun x r h => by cases h
theorem mm_hvV : ∀ (x : mm_M) r, (injV x).1 = some (.ref r) → False := fun x r h => by cases h
def cI (f : Option (Int32 × mm_M)) (e : Int32 → mm_M → Option β) : Option β := f.bind (fun x => e x.1 x.2)
def cL (f : Option (Int64 × mm_M)) (e : Int64 → mm_M → Option β) : Option β := f.bind (fun x => e x.1 x.2)
def cV (f : Option mm_M) (e : mm_M → Option β) : Option β := f.bind e
end CALLRULES
end
section
-- kinds of cells
def isD (d : Nat) : Bool := d == 2 || d == 11
theorem isD_or {d : Nat} (h : isD d = true) : d = 2 ∨ d = 11 := by simpa [isD] using h
theorem isD_obj {d : Nat} (h : isD d = true) : mm_sh d = (0, 0, 11) := by rcases isD_or h with rfl | rfl <;> rfl
theorem isD_pos {d : Nat} (h : isD d = true) : 0 < d ∧ d ≤ 62 := by rcases isD_or h with rfl | rfl <;> decide
theorem isD_k0 {d : Nat} (h : isD d = true) (k : Nat) (hk : k < 3) : mm_fk d k = 0 := by
  have : k = 0 ∨ k = 1 ∨ k = 2 := by omega
  rcases isD_or h with rfl | rfl <;> rcases this with rfl | rfl | rfl <;> rfl
theorem isD_kR {d : Nat} (h : isD d = true) (k o : Nat) (hk : k = o + 2) (ho : 0 < o ∧ o ≤ 8) : mm_fk d k = 10 + (d + o) := by
  subst hk
  have : o = 1 ∨ o = 2 ∨ o = 3 ∨ o = 4 ∨ o = 5 ∨ o = 6 ∨ o = 7 ∨ o = 8 := by omega
  rcases isD_or h with rfl | rfl <;> rcases this with rfl | rfl | rfl | rfl | rfl | rfl | rfl | rfl <;> rfl
theorem isD_a1 {d : Nat} (h : isD d = true) : mm_sh (d + 1) = (1, 3, 0) := by rcases isD_or h with rfl | rfl <;> rfl
theorem isD_p1 {d : Nat} (h : isD d = true) : 0 < d + 1 ∧ d + 1 ≤ 62 := by rcases isD_or h with rfl | rfl <;> decide
theorem isD_a2 {d : Nat} (h : isD d = true) : mm_sh (d + 2) = (1, 8, 0) := by rcases isD_or h with rfl | rfl <;> rfl
theorem isD_p2 {d : Nat} (h : isD d = true) : 0 < d + 2 ∧ d + 2 ≤ 62 := by rcases isD_or h with rfl | rfl <;> decide
theorem isD_a3 {d : Nat} (h : isD d = true) : mm_sh (d + 3) = (1, 8, 0) := by rcases isD_or h with rfl | rfl <;> rfl
theorem isD_p3 {d : Nat} (h : isD d = true) : 0 < d + 3 ∧ d + 3 ≤ 62 := by rcases isD_or h with rfl | rfl <;> decide
theorem isD_a4 {d : Nat} (h : isD d = true) : mm_sh (d + 4) = (1, 4, 0) := by rcases isD_or h with rfl | rfl <;> rfl
theorem isD_p4 {d : Nat} (h : isD d = true) : 0 < d + 4 ∧ d + 4 ≤ 62 := by rcases isD_or h with rfl | rfl <;> decide
theorem isD_a5 {d : Nat} (h : isD d = true) : mm_sh (d + 5) = (1, 16, 0) := by rcases isD_or h with rfl | rfl <;> rfl
theorem isD_p5 {d : Nat} (h : isD d = true) : 0 < d + 5 ∧ d + 5 ≤ 62 := by rcases isD_or h with rfl | rfl <;> decide
theorem isD_a6 {d : Nat} (h : isD d = true) : mm_sh (d + 6) = (1, 16, 0) := by rcases isD_or h with rfl | rfl <;> rfl
theorem isD_p6 {d : Nat} (h : isD d = true) : 0 < d + 6 ∧ d + 6 ≤ 62 := by rcases isD_or h with rfl | rfl <;> decide
theorem isD_a7 {d : Nat} (h : isD d = true) : mm_sh (d + 7) = (1, 24, 0) := by rcases isD_or h with rfl | rfl <;> rfl
theorem isD_p7 {d : Nat} (h : isD d = true) : 0 < d + 7 ∧ d + 7 ≤ 62 := by rcases isD_or h with rfl | rfl <;> decide
theorem isD_a8 {d : Nat} (h : isD d = true) : mm_sh (d + 8) = (1, 6, 0) := by rcases isD_or h with rfl | rfl <;> rfl
theorem isD_p8 {d : Nat} (h : isD d = true) : 0 < d + 8 ∧ d + 8 ≤ 62 := by rcases isD_or h with rfl | rfl <;> decide
def mm_n (a : Nat) : Nat := (mm_sh a).2.1
def isA (a : Nat) : Bool := (mm_sh a).1 == 1 && (mm_sh a).2.2 == 0 && decide (0 < a) && decide (a ≤ 62)
theorem isA_sh {a : Nat} (h : isA a = true) : mm_sh a = (1, mm_n a, 0) := by
  simp only [isA, Bool.and_eq_true, beq_iff_eq, decide_eq_true_eq] at h
  obtain ⟨⟨⟨h1, h2⟩, -⟩, -⟩ := h
  exact Prod.ext h1 (Prod.ext rfl h2)
theorem isA_pos {a : Nat} (h : isA a = true) : 0 < a ∧ a ≤ 62 := by
  simp only [isA, Bool.and_eq_true, decide_eq_true_eq] at h
  exact ⟨h.1.2, h.2⟩
theorem isD_isA {d o : Nat} (h : isD d = true) (ho : 0 < o ∧ o ≤ 8) : isA (d + o) = true := by
  have : o = 1 ∨ o = 2 ∨ o = 3 ∨ o = 4 ∨ o = 5 ∨ o = 6 ∨ o = 7 ∨ o = 8 := by omega
  rcases isD_or h with rfl | rfl <;> rcases this with rfl | rfl | rfl | rfl | rfl | rfl | rfl | rfl <;> rfl
def isS (q : Nat) : Bool := decide (200 ≤ q) && decide (q < 208)
def FU : Nat := 1000000
section MORERULES
variable {α : Type} {inj : α → Option Value × mm_M} {j : mm_J} {X : mm_X} {pc : Nat} {lo : List (Option Value)} {st : List Value} {M : mm_M} {ee ef : Option α}
theorem Snd.bI {v : Int32} {ex : Int32 → Option α} (k : ∀ x, Snd inj j X pc lo (.int x :: st) M (ex x)) : Snd inj j X pc lo (.int v :: st) M (bI v ex) := k v
theorem Snd.ifc {P : Prop} [Decidable P] (k1 : P → Snd inj j X pc lo st M ee) (k2 : ¬ P → Snd inj j X pc lo st M ef) : Snd inj j X pc lo st M (if P then ee else ef) := by
  by_cases h : P
  · rw [if_pos h]; exact k1 h
  · rw [if_neg h]; exact k2 h
theorem sn_tbl {x k : Int32} {kk dflt lo' hi off : Int} {offs : Array Int} {len : Nat} (tgt : Nat) (h : x = k) (hk : k.toInt = kk) (hd : decode j.2.1 pc = .ok (.tableswitch dflt lo' hi offs, len)) (h1 : ¬ kk < lo') (h2 : ¬ hi < kk) (ho : offs[(kk - lo').toNat]? = some off) (ht : (pc : Int) + off = (tgt : Int)) (k1 : Snd inj j X tgt lo st M ee) : Snd inj j X pc lo (.int x :: st) M ee :=
  mStp.go ⟨rfl, fun p l e R s m args below meth c D A cs ad Q C H locs cells slots ls g1 g2 hW hL kx => by
    subst h; subst hk
    exact lv_tableIn C.1 C.2.1 hd h1 h2 ho ht (kx H locs ls hW hL)⟩ k1
theorem sn_tblO {x : Int32} {dflt lo' hi : Int} {offs : Array Int} {len : Nat} (tgt : Nat) (hd : decode j.2.1 pc = .ok (.tableswitch dflt lo' hi offs, len)) (h : x.toInt < lo' ∨ hi < x.toInt) (ht : (pc : Int) + dflt = (tgt : Int)) (k1 : Snd inj j X tgt lo st M ee) : Snd inj j X pc lo (.int x :: st) M ee :=
  mStp.go ⟨rfl, fun p l e R s m args below meth c D A cs ad Q C H locs cells slots ls g1 g2 hW hL kx => lv_tableOut C.1 C.2.1 hd h ht (kx H locs ls hW hL)⟩ k1
theorem sn_lkp {x : Int32} {dflt off : Int} {ps : Array (Int × Int)} {len : Nat} (tgt : Nat) (hd : decode j.2.1 pc = .ok (.lookupswitch dflt ps, len)) (hp : (ps.toList.zip (ps.toList.drop 1)).all (fun (a, next) => a.1 < next.1) = true) (ho : Op.lookupswitch.offset ps.toList dflt x.toInt = off) (ht : (pc : Int) + off = (tgt : Int)) (k1 : Snd inj j X tgt lo st M ee) : Snd inj j X pc lo (.int x :: st) M ee :=
  mStp.go ⟨rfl, fun p l e R s m args below meth c D A cs ad Q C H locs cells slots ls g1 g2 hW hL kx => lv_lookup C.1 C.2.1 hd hp ho ht (kx H locs ls hW hL)⟩ k1
end MORERULES
theorem mm_S0 : ∀ ad A U H, mm_RO ad A U H → vk_R "DepotCharge$Reader" 34 "slots" (ad 200) U := fun _ _ _ _ h => h.2.2.2.1.2.1
theorem mm_S1 : ∀ ad A U H, mm_RO ad A U H → vk_R "DepotCharge$Reader" 43 "price" (ad 201) U := fun _ _ _ _ h => h.2.2.2.1.2.2.1
theorem mm_S2 : ∀ ad A U H, mm_RO ad A U H → vk_R "DepotCharge$Reader" 48 "plugs" (ad 202) U := fun _ _ _ _ h => h.2.2.2.1.2.2.2.1
theorem mm_S3 : ∀ ad A U H, mm_RO ad A U H → vk_R "DepotCharge$Reader" 54 "power" (ad 203) U := fun _ _ _ _ h => h.2.2.2.1.2.2.2.2.1
theorem mm_S4 : ∀ ad A U H, mm_RO ad A U H → vk_R "DepotCharge$Reader" 56 "limit" (ad 204) U := fun _ _ _ _ h => h.2.2.2.1.2.2.2.2.2.1
theorem mm_S5 : ∀ ad A U H, mm_RO ad A U H → vk_R "DepotCharge$Reader" 58 "curve" (ad 205) U := fun _ _ _ _ h => h.2.2.2.1.2.2.2.2.2.2.1
theorem mm_S6 : ∀ ad A U H, mm_RO ad A U H → vk_R "DepotCharge$Reader" 63 "bus" (ad 206) U := fun _ _ _ _ h => h.2.2.2.1.2.2.2.2.2.2.2.1
theorem mm_S7 : ∀ ad A U H, mm_RO ad A U H → vk_R "DepotCharge$Reader" 68 "charge" (ad 207) U := fun _ _ _ _ h => h.2.2.2.1.2.2.2.2.2.2.2.2
theorem mm_rn_X3_109 : Cond.fieldLinkNest RX3 109 "DepotCharge" "MOST_OF_SETTING" "[I" "DepotCharge" ∈ mm_rw := List.mem_of_getElem? (i := 0) rfl
theorem mm_rn_X0_66 : Cond.fieldLinkNest RX0 66 "DepotCharge" "MOST_OF_SETTING" "[I" "DepotCharge" ∈ mm_rw := List.mem_of_getElem? (i := 1) rfl
theorem mm_rn_X1_55 : Cond.fieldLinkNest RX1 55 "DepotCharge" "SIZE_OF_SET" "[I" "DepotCharge" ∈ mm_rw := List.mem_of_getElem? (i := 2) rfl
theorem mm_rn_X2_141 : Cond.fieldLinkNest RX2 141 "DepotCharge" "SIZE_OF_SET" "[I" "DepotCharge" ∈ mm_rw := List.mem_of_getElem? (i := 3) rfl
theorem mm_rn_X2_144 : Cond.fieldLinkNest RX2 144 "DepotCharge" "FIRST_OF_SET" "[I" "DepotCharge" ∈ mm_rw := List.mem_of_getElem? (i := 4) rfl
theorem mm_rn_X4_46 : Cond.fieldLinkNest RX4 46 "DepotCharge" "SIZE_OF_SET" "[I" "DepotCharge" ∈ mm_rw := List.mem_of_getElem? (i := 5) rfl
theorem mm_rn_X4_63 : Cond.fieldLinkNest RX4 63 "DepotCharge" "FIRST_OF_SET" "[I" "DepotCharge" ∈ mm_rw := List.mem_of_getElem? (i := 6) rfl
theorem w_fl_X0_36 : Cond.fieldLink RX0 36 "DepotCharge$Depot" "slotCount" "I" ∈ mm_tbl := mm_in1 37 rfl rfl
theorem w_fl_X0_40 : Cond.fieldLink RX0 40 "DepotCharge$Depot" "curveCount" "I" ∈ mm_tbl := mm_in1 43 rfl rfl
theorem w_fl_X0_43 : Cond.fieldLink RX0 43 "DepotCharge$Depot" "busCount" "I" ∈ mm_tbl := mm_in1 46 rfl rfl
theorem w_fl_X0_9 : Cond.fieldLink RX0 9 "DepotCharge$Depot" "settings" "[I" ∈ mm_tbl := mm_in1 52 rfl rfl
theorem w_ml_X0_52 : Cond.methodLink RX0 52 arraycopyName ∈ mm_tbl := mm_in2 63 rfl rfl
theorem w_fl_X0_15 : Cond.fieldLink RX0 15 "DepotCharge$Depot" "prices" "[I" ∈ mm_tbl := mm_in1 57 rfl rfl
theorem w_fl_X0_18 : Cond.fieldLink RX0 18 "DepotCharge$Depot" "sets" "[I" ∈ mm_tbl := mm_in1 61 rfl rfl
theorem w_fl_X0_21 : Cond.fieldLink RX0 21 "DepotCharge$Depot" "pieceCounts" "[I" ∈ mm_tbl := mm_in1 64 rfl rfl
theorem w_fl_X0_24 : Cond.fieldLink RX0 24 "DepotCharge$Depot" "froms" "[I" ∈ mm_tbl := mm_in1 67 rfl rfl
theorem w_fl_X0_27 : Cond.fieldLink RX0 27 "DepotCharge$Depot" "rates" "[I" ∈ mm_tbl := mm_in1 69 rfl rfl
theorem w_fl_X0_30 : Cond.fieldLink RX0 30 "DepotCharge$Depot" "facts" "[I" ∈ mm_tbl := mm_in1 71 rfl rfl
theorem w_ml_X0_46 : Cond.methodLink RX0 46 yJ7_fill_53178 ∈ mm_tbl := mm_in1 34 rfl rfl
theorem w_st_J7_fill_53178 : Cond.static yJ7_fill_53178 ∈ mm_tbl := mm_in1 35 rfl rfl
theorem w_ml_X0_58 : Cond.methodLink RX0 58 yX0_hasBus ∈ mm_tbl := mm_in3 103 rfl rfl
theorem w_im_X0_hasBus : Cond.instanceMethod yX0_hasBus ∈ mm_tbl := mm_in3 37 rfl rfl
theorem w_se_X0_hasBus : Cond.selects yX0_hasBus.cls yX0_hasBus yX0_hasBus ∈ mm_tbl := mm_in3 38 rfl rfl
theorem w_ml_X0_62 : Cond.methodLink RX0 62 yX0_fact ∈ mm_tbl := mm_in3 64 rfl rfl
theorem w_im_X0_fact : Cond.instanceMethod yX0_fact ∈ mm_tbl := mm_in3 49 rfl rfl
theorem w_se_X0_fact : Cond.selects yX0_fact.cls yX0_fact yX0_fact ∈ mm_tbl := mm_in3 50 rfl rfl
theorem w_ml_X0_69 : Cond.methodLink RX0 69 yX0_settingCanBe ∈ mm_tbl := mm_in2 196 rfl rfl
theorem w_st_X0_settingCanBe : Cond.static yX0_settingCanBe ∈ mm_tbl := mm_in2 197 rfl rfl
theorem w_ml_X0_73 : Cond.methodLink RX0 73 yX0_hasSlot ∈ mm_tbl := mm_in2 181 rfl rfl
theorem w_im_X0_hasSlot : Cond.instanceMethod yX0_hasSlot ∈ mm_tbl := mm_in2 182 rfl rfl
theorem w_se_X0_hasSlot : Cond.selects yX0_hasSlot.cls yX0_hasSlot yX0_hasSlot ∈ mm_tbl := mm_in2 183 rfl rfl
theorem w_fl_X0_33 : Cond.fieldLink RX0 33 "DepotCharge$Depot" "offered" "[I" ∈ mm_tbl := mm_in1 72 rfl rfl
theorem w_ml_X0_76 : Cond.methodLink RX0 76 yX0_leastOffer ∈ mm_tbl := mm_in2 228 rfl rfl
theorem w_im_X0_leastOffer : Cond.instanceMethod yX0_leastOffer ∈ mm_tbl := mm_in2 217 rfl rfl
theorem w_se_X0_leastOffer : Cond.selects yX0_leastOffer.cls yX0_leastOffer yX0_leastOffer ∈ mm_tbl := mm_in2 218 rfl rfl
theorem w_ml_X0_80 : Cond.methodLink RX0 80 yX0_mostOffer ∈ mm_tbl := mm_in2 229 rfl rfl
theorem w_im_X0_mostOffer : Cond.instanceMethod yX0_mostOffer ∈ mm_tbl := mm_in2 221 rfl rfl
theorem w_se_X0_mostOffer : Cond.selects yX0_mostOffer.cls yX0_mostOffer yX0_mostOffer ∈ mm_tbl := mm_in2 222 rfl rfl
theorem w_ml_X0_88 : Cond.methodLink RX0 88 Lib.Math.min.name ∈ mm_tbl := mm_in3 72 rfl rfl
theorem w_ml_X0_83 : Cond.methodLink RX0 83 Lib.Math.max.name ∈ mm_tbl := mm_in3 69 rfl rfl
theorem w_ml_X0_91 : Cond.methodLink RX0 91 yX0_gain ∈ mm_tbl := mm_in3 114 rfl rfl
theorem w_im_X0_gain : Cond.instanceMethod yX0_gain ∈ mm_tbl := mm_in3 66 rfl rfl
theorem w_se_X0_gain : Cond.selects yX0_gain.cls yX0_gain yX0_gain ∈ mm_tbl := mm_in3 67 rfl rfl
theorem w_fl_X1_11 : Cond.fieldLink RX1 11 "DepotCharge$Ledger" "levels" "[I" ∈ mm_tbl := mm_in1 147 rfl rfl
theorem w_fl_X1_31 : Cond.fieldLink RX1 31 "DepotCharge$Depot" "busCount" "I" ∈ mm_tbl := mm_in1 48 rfl rfl
theorem w_ml_X1_62 : Cond.methodLink RX1 62 yX1_levelAt ∈ mm_tbl := mm_in3 56 rfl rfl
theorem w_im_X1_levelAt : Cond.instanceMethod yX1_levelAt ∈ mm_tbl := mm_in3 57 rfl rfl
theorem w_se_X1_levelAt : Cond.selects yX1_levelAt.cls yX1_levelAt yX1_levelAt ∈ mm_tbl := mm_in3 58 rfl rfl
theorem w_ml_X1_65 : Cond.methodLink RX1 65 yX0_isThere ∈ mm_tbl := mm_in3 60 rfl rfl
theorem w_im_X0_isThere : Cond.instanceMethod yX0_isThere ∈ mm_tbl := mm_in3 61 rfl rfl
theorem w_se_X0_isThere : Cond.selects yX0_isThere.cls yX0_isThere yX0_isThere ∈ mm_tbl := mm_in3 62 rfl rfl
theorem w_fl_X1_69 : Cond.fieldLink RX1 69 "DepotCharge$Depot" "settings" "[I" ∈ mm_tbl := mm_in1 54 rfl rfl
theorem w_ml_X1_72 : Cond.methodLink RX1 72 yX0_gain ∈ mm_tbl := mm_in3 65 rfl rfl
theorem w_ml_X1_36 : Cond.methodLink RX1 36 yX0_fact ∈ mm_tbl := mm_in3 48 rfl rfl
theorem w_fl_X1_40 : Cond.fieldLink RX1 40 "DepotCharge$Depot" "slotCount" "I" ∈ mm_tbl := mm_in1 39 rfl rfl
theorem w_ml_X1_50 : Cond.methodLink RX1 50 Lib.Math.max.name ∈ mm_tbl := mm_in3 75 rfl rfl
theorem w_fl_X1_25 : Cond.fieldLink RX1 25 "DepotCharge$Ledger" "allLack" "I" ∈ mm_tbl := mm_in1 154 rfl rfl
theorem w_ml_X1_58 : Cond.methodLink RX1 58 yX1_lackOf ∈ mm_tbl := mm_in3 78 rfl rfl
theorem w_im_X1_lackOf : Cond.instanceMethod yX1_lackOf ∈ mm_tbl := mm_in3 79 rfl rfl
theorem w_se_X1_lackOf : Cond.selects yX1_lackOf.cls yX1_lackOf yX1_lackOf ∈ mm_tbl := mm_in3 80 rfl rfl
theorem w_fl_X1_15 : Cond.fieldLink RX1 15 "DepotCharge$Ledger" "usedBySlot" "[I" ∈ mm_tbl := mm_in1 148 rfl rfl
theorem w_ml_X1_43 : Cond.methodLink RX1 43 yX1_chargeSlot ∈ mm_tbl := mm_in3 52 rfl rfl
theorem w_im_X1_chargeSlot : Cond.instanceMethod yX1_chargeSlot ∈ mm_tbl := mm_in3 54 rfl rfl
theorem w_se_X1_chargeSlot : Cond.selects yX1_chargeSlot.cls yX1_chargeSlot yX1_chargeSlot ∈ mm_tbl := mm_in0 15 rfl rfl
theorem w_fl_X1_18 : Cond.fieldLink RX1 18 "DepotCharge$Ledger" "cost" "I" ∈ mm_tbl := mm_in1 150 rfl rfl
theorem w_fl_X1_47 : Cond.fieldLink RX1 47 "DepotCharge$Depot" "prices" "[I" ∈ mm_tbl := mm_in1 58 rfl rfl
theorem w_fl_X1_28 : Cond.fieldLink RX1 28 "DepotCharge$Ledger" "peak" "I" ∈ mm_tbl := mm_in1 156 rfl rfl
theorem w_fl_X1_22 : Cond.fieldLink RX1 22 "DepotCharge$Ledger" "charges" "I" ∈ mm_tbl := mm_in1 152 rfl rfl
theorem w_ml_X1_80 : Cond.methodLink RX1 80 yX1_holdsAbsent ∈ mm_tbl := mm_in3 140 rfl rfl
theorem w_st_X1_holdsAbsent : Cond.static yX1_holdsAbsent ∈ mm_tbl := mm_in3 141 rfl rfl
theorem w_ml_X1_76 : Cond.methodLink RX1 76 yX1_slotIsWrong ∈ mm_tbl := mm_in3 136 rfl rfl
theorem w_im_X1_slotIsWrong : Cond.instanceMethod yX1_slotIsWrong ∈ mm_tbl := mm_in3 138 rfl rfl
theorem w_se_X1_slotIsWrong : Cond.selects yX1_slotIsWrong.cls yX1_slotIsWrong yX1_slotIsWrong ∈ mm_tbl := mm_in0 16 rfl rfl
theorem w_fl_X2_15 : Cond.fieldLink RX2 15 "DepotCharge$Planner" "comes" "[I" ∈ mm_tbl := mm_in1 178 rfl rfl
theorem w_ml_X2_81 : Cond.methodLink RX2 81 yX0_fact ∈ mm_tbl := mm_in3 165 rfl rfl
theorem w_fl_X2_68 : Cond.fieldLink RX2 68 "DepotCharge$Planner" "depot" "LDepotCharge$Depot;" ∈ mm_tbl := mm_in1 182 rfl rfl
theorem w_fl_X2_18 : Cond.fieldLink RX2 18 "DepotCharge$Planner" "wanted" "I" ∈ mm_tbl := mm_in1 180 rfl rfl
theorem w_fl_X2_72 : Cond.fieldLink RX2 72 "DepotCharge$Depot" "settings" "[I" ∈ mm_tbl := mm_in1 53 rfl rfl
theorem w_fl_X2_11 : Cond.fieldLink RX2 11 "DepotCharge$Planner" "settings" "[I" ∈ mm_tbl := mm_in1 176 rfl rfl
theorem w_ml_X2_75 : Cond.methodLink RX2 75 arraycopyName ∈ mm_tbl := mm_in3 164 rfl rfl
theorem w_fl_X2_25 : Cond.fieldLink RX2 25 "DepotCharge$Planner" "most" "[I" ∈ mm_tbl := mm_in1 184 rfl rfl
theorem w_fl_X2_31 : Cond.fieldLink RX2 31 "DepotCharge$Planner" "lacks" "[I" ∈ mm_tbl := mm_in1 186 rfl rfl
theorem w_ml_X2_110 : Cond.methodLink RX2 110 Lib.Math.max.name ∈ mm_tbl := mm_in3 178 rfl rfl
theorem w_fl_X2_22 : Cond.fieldLink RX2 22 "DepotCharge$Planner" "stay" "[I" ∈ mm_tbl := mm_in1 183 rfl rfl
theorem w_ml_X2_115 : Cond.methodLink RX2 115 yX0_gain ∈ mm_tbl := mm_in3 179 rfl rfl
theorem w_fl_X2_28 : Cond.fieldLink RX2 28 "DepotCharge$Planner" "gains" "[I" ∈ mm_tbl := mm_in1 185 rfl rfl
theorem w_fl_X2_34 : Cond.fieldLink RX2 34 "DepotCharge$Planner" "shift" "[I" ∈ mm_tbl := mm_in1 187 rfl rfl
theorem w_fl_X2_103 : Cond.fieldLink RX2 103 "DepotCharge$Depot" "busCount" "I" ∈ mm_tbl := mm_in1 49 rfl rfl
theorem w_ml_X2_106 : Cond.methodLink RX2 106 yX2_trace ∈ mm_tbl := mm_in3 174 rfl rfl
theorem w_im_X2_trace : Cond.instanceMethod yX2_trace ∈ mm_tbl := mm_in3 176 rfl rfl
theorem w_se_X2_trace : Cond.selects yX2_trace.cls yX2_trace yX2_trace ∈ mm_tbl := mm_in0 19 rfl rfl
theorem w_fl_X2_100 : Cond.fieldLink RX2 100 "DepotCharge$Depot" "slotCount" "I" ∈ mm_tbl := mm_in1 40 rfl rfl
theorem w_fl_X2_44 : Cond.fieldLink RX2 44 "DepotCharge$Planner" "at" "[I" ∈ mm_tbl := mm_in1 190 rfl rfl
theorem w_fl_X2_47 : Cond.fieldLink RX2 47 "DepotCharge$Planner" "low" "[I" ∈ mm_tbl := mm_in1 191 rfl rfl
theorem w_fl_X2_59 : Cond.fieldLink RX2 59 "DepotCharge$Planner" "charged" "I" ∈ mm_tbl := mm_in1 195 rfl rfl
theorem w_fl_X2_56 : Cond.fieldLink RX2 56 "DepotCharge$Planner" "state" "I" ∈ mm_tbl := mm_in1 194 rfl rfl
theorem w_fl_X2_50 : Cond.fieldLink RX2 50 "DepotCharge$Planner" "high" "[I" ∈ mm_tbl := mm_in1 192 rfl rfl
theorem w_fl_X2_62 : Cond.fieldLink RX2 62 "DepotCharge$Planner" "there" "I" ∈ mm_tbl := mm_in1 196 rfl rfl
theorem w_fl_X2_53 : Cond.fieldLink RX2 53 "DepotCharge$Planner" "due" "[I" ∈ mm_tbl := mm_in1 193 rfl rfl
theorem w_ml_X2_135 : Cond.methodLink RX2 135 Lib.Math.min.name ∈ mm_tbl := mm_in3 192 rfl rfl
theorem w_fl_X2_37 : Cond.fieldLink RX2 37 "DepotCharge$Planner" "worth" "[J" ∈ mm_tbl := mm_in1 188 rfl rfl
theorem w_fl_X2_41 : Cond.fieldLink RX2 41 "DepotCharge$Planner" "choices" "[I" ∈ mm_tbl := mm_in1 189 rfl rfl
theorem w_fl_X2_65 : Cond.fieldLink RX2 65 "DepotCharge$Planner" "usedBySet" "[I" ∈ mm_tbl := mm_in1 197 rfl rfl
theorem w_fl_X2_138 : Cond.fieldLink RX2 138 "DepotCharge$Depot" "prices" "[I" ∈ mm_tbl := mm_in1 60 rfl rfl
theorem w_cl_X2_96 : Cond.constantLong RX2 96 64 ∈ mm_tbl := mm_in3 198 rfl rfl
theorem w_cl_X2_133 : Cond.constantLong RX2 133 1125899906842624 ∈ mm_tbl := mm_in3 207 rfl rfl
theorem w_ml_X2_127 : Cond.methodLink RX2 127 yX2_nextState ∈ mm_tbl := mm_in3 199 rfl rfl
theorem w_im_X2_nextState : Cond.instanceMethod yX2_nextState ∈ mm_tbl := mm_in3 201 rfl rfl
theorem w_se_X2_nextState : Cond.selects yX2_nextState.cls yX2_nextState yX2_nextState ∈ mm_tbl := mm_in0 24 rfl rfl
theorem w_ml_X2_130 : Cond.methodLink RX2 130 yX2_settle ∈ mm_tbl := mm_in3 203 rfl rfl
theorem w_im_X2_settle : Cond.instanceMethod yX2_settle ∈ mm_tbl := mm_in3 205 rfl rfl
theorem w_se_X2_settle : Cond.selects yX2_settle.cls yX2_settle yX2_settle ∈ mm_tbl := mm_in0 25 rfl rfl
theorem w_ml_X2_119 : Cond.methodLink RX2 119 yX2_spread ∈ mm_tbl := mm_in3 188 rfl rfl
theorem w_im_X2_spread : Cond.instanceMethod yX2_spread ∈ mm_tbl := mm_in3 190 rfl rfl
theorem w_se_X2_spread : Cond.selects yX2_spread.cls yX2_spread yX2_spread ∈ mm_tbl := mm_in0 22 rfl rfl
theorem w_ml_X2_123 : Cond.methodLink RX2 123 yX2_lackHere ∈ mm_tbl := mm_in3 193 rfl rfl
theorem w_im_X2_lackHere : Cond.instanceMethod yX2_lackHere ∈ mm_tbl := mm_in3 195 rfl rfl
theorem w_se_X2_lackHere : Cond.selects yX2_lackHere.cls yX2_lackHere yX2_lackHere ∈ mm_tbl := mm_in0 23 rfl rfl
theorem w_cl_X2_98 : Cond.constantLong RX2 98 100000 ∈ mm_tbl := mm_in3 197 rfl rfl
theorem w_ml_X2_85 : Cond.methodLink RX2 85 yX2_traceAll ∈ mm_tbl := mm_in3 170 rfl rfl
theorem w_im_X2_traceAll : Cond.instanceMethod yX2_traceAll ∈ mm_tbl := mm_in3 172 rfl rfl
theorem w_se_X2_traceAll : Cond.selects yX2_traceAll.cls yX2_traceAll yX2_traceAll ∈ mm_tbl := mm_in0 18 rfl rfl
theorem w_ml_X2_88 : Cond.methodLink RX2 88 yX2_mayBeReady ∈ mm_tbl := mm_in3 180 rfl rfl
theorem w_im_X2_mayBeReady : Cond.instanceMethod yX2_mayBeReady ∈ mm_tbl := mm_in3 182 rfl rfl
theorem w_se_X2_mayBeReady : Cond.selects yX2_mayBeReady.cls yX2_mayBeReady yX2_mayBeReady ∈ mm_tbl := mm_in0 20 rfl rfl
theorem w_ml_X2_92 : Cond.methodLink RX2 92 yX2_weighStates ∈ mm_tbl := mm_in3 184 rfl rfl
theorem w_im_X2_weighStates : Cond.instanceMethod yX2_weighStates ∈ mm_tbl := mm_in3 186 rfl rfl
theorem w_se_X2_weighStates : Cond.selects yX2_weighStates.cls yX2_weighStates yX2_weighStates ∈ mm_tbl := mm_in0 21 rfl rfl
theorem w_fl_X5_9 : Cond.fieldLink RX5 9 "DepotCharge$Tape" "bytes" "[B" ∈ mm_tbl := mm_in1 103 rfl rfl
theorem w_fl_X5_28 : Cond.fieldLink RX5 28 "DepotCharge$Tape" "behind" "I" ∈ mm_tbl := mm_in1 112 rfl rfl
theorem w_fl_X5_22 : Cond.fieldLink RX5 22 "DepotCharge$Tape" "place" "I" ∈ mm_tbl := mm_in1 108 rfl rfl
theorem w_fl_X5_25 : Cond.fieldLink RX5 25 "DepotCharge$Tape" "number" "I" ∈ mm_tbl := mm_in1 110 rfl rfl
theorem w_fl_X5_15 : Cond.fieldLink RX5 15 "DepotCharge$Tape" "length" "I" ∈ mm_tbl := mm_in1 104 rfl rfl
theorem w_ml_X5_34 : Cond.methodLink RX5 34 yX5_isDigit ∈ mm_tbl := mm_in2 78 rfl rfl
theorem w_im_X5_isDigit : Cond.instanceMethod yX5_isDigit ∈ mm_tbl := mm_in2 80 rfl rfl
theorem w_se_X5_isDigit : Cond.selects yX5_isDigit.cls yX5_isDigit yX5_isDigit ∈ mm_tbl := mm_in0 0 rfl rfl
theorem w_fl_X5_19 : Cond.fieldLink RX5 19 "DepotCharge$Tape" "kind" "I" ∈ mm_tbl := mm_in1 106 rfl rfl
theorem w_ml_X5_41 : Cond.methodLink RX5 41 yX5_isLetter ∈ mm_tbl := mm_in2 86 rfl rfl
theorem w_im_X5_isLetter : Cond.instanceMethod yX5_isLetter ∈ mm_tbl := mm_in2 88 rfl rfl
theorem w_se_X5_isLetter : Cond.selects yX5_isLetter.cls yX5_isLetter yX5_isLetter ∈ mm_tbl := mm_in0 2 rfl rfl
theorem w_ml_X5_44 : Cond.methodLink RX5 44 yX5_readWord ∈ mm_tbl := mm_in2 90 rfl rfl
theorem w_im_X5_readWord : Cond.instanceMethod yX5_readWord ∈ mm_tbl := mm_in2 92 rfl rfl
theorem w_se_X5_readWord : Cond.selects yX5_readWord.cls yX5_readWord yX5_readWord ∈ mm_tbl := mm_in0 3 rfl rfl
theorem w_ml_X5_38 : Cond.methodLink RX5 38 yX5_readNumber ∈ mm_tbl := mm_in2 82 rfl rfl
theorem w_im_X5_readNumber : Cond.instanceMethod yX5_readNumber ∈ mm_tbl := mm_in2 84 rfl rfl
theorem w_se_X5_readNumber : Cond.selects yX5_readNumber.cls yX5_readNumber yX5_readNumber ∈ mm_tbl := mm_in0 1 rfl rfl
theorem w_ml_X5_31 : Cond.methodLink RX5 31 yX5_step ∈ mm_tbl := mm_in2 74 rfl rfl
theorem w_im_X5_step : Cond.instanceMethod yX5_step ∈ mm_tbl := mm_in2 75 rfl rfl
theorem w_se_X5_step : Cond.selects yX5_step.cls yX5_step yX5_step ∈ mm_tbl := mm_in2 76 rfl rfl
theorem w_ml_X5_47 : Cond.methodLink RX5 47 yJ0_length_8abf5 ∈ mm_tbl := mm_in2 103 rfl rfl
theorem w_ml_X5_52 : Cond.methodLink RX5 52 yJ0_charAt_5068e ∈ mm_tbl := mm_in2 113 rfl rfl
theorem w_fl_X3_9 : Cond.fieldLink RX3 9 "DepotCharge$Reader" "fault" "I" ∈ mm_tbl := mm_in1 134 rfl rfl
theorem w_fl_X3_15 : Cond.fieldLink RX3 15 "DepotCharge$Reader" "tape" "LDepotCharge$Tape;" ∈ mm_tbl := mm_in1 133 rfl rfl
theorem w_fl_X3_31 : Cond.fieldLink RX3 31 "DepotCharge$Tape" "place" "I" ∈ mm_tbl := mm_in1 109 rfl rfl
theorem w_ml_X3_73 : Cond.methodLink RX3 73 yX3_blame ∈ mm_tbl := mm_in2 164 rfl rfl
theorem w_im_X3_blame : Cond.instanceMethod yX3_blame ∈ mm_tbl := mm_in2 166 rfl rfl
theorem w_se_X3_blame : Cond.selects yX3_blame.cls yX3_blame yX3_blame ∈ mm_tbl := mm_in0 8 rfl rfl
theorem w_fl_X3_24 : Cond.fieldLink RX3 24 "DepotCharge$Tape" "kind" "I" ∈ mm_tbl := mm_in1 107 rfl rfl
theorem w_fl_X3_87 : Cond.fieldLink RX3 87 "DepotCharge$Tape" "number" "I" ∈ mm_tbl := mm_in1 111 rfl rfl
theorem w_ml_X3_90 : Cond.methodLink RX3 90 yX3_numberIsWithin ∈ mm_tbl := mm_in2 160 rfl rfl
theorem w_im_X3_numberIsWithin : Cond.instanceMethod yX3_numberIsWithin ∈ mm_tbl := mm_in2 162 rfl rfl
theorem w_se_X3_numberIsWithin : Cond.selects yX3_numberIsWithin.cls yX3_numberIsWithin yX3_numberIsWithin ∈ mm_tbl := mm_in0 7 rfl rfl
theorem w_ml_X3_84 : Cond.methodLink RX3 84 yX5_step ∈ mm_tbl := mm_in2 155 rfl rfl
theorem w_ml_X3_94 : Cond.methodLink RX3 94 yX3_readNumber ∈ mm_tbl := mm_in2 156 rfl rfl
theorem w_im_X3_readNumber : Cond.instanceMethod yX3_readNumber ∈ mm_tbl := mm_in2 158 rfl rfl
theorem w_se_X3_readNumber : Cond.selects yX3_readNumber.cls yX3_readNumber yX3_readNumber ∈ mm_tbl := mm_in0 6 rfl rfl
theorem w_ml_X3_98 : Cond.methodLink RX3 98 yX0_beginAnew ∈ mm_tbl := mm_in2 168 rfl rfl
theorem w_im_X0_beginAnew : Cond.instanceMethod yX0_beginAnew ∈ mm_tbl := mm_in2 169 rfl rfl
theorem w_se_X0_beginAnew : Cond.selects yX0_beginAnew.cls yX0_beginAnew yX0_beginAnew ∈ mm_tbl := mm_in2 170 rfl rfl
theorem w_fl_X3_103 : Cond.fieldLink RX3 103 "DepotCharge$Depot" "slotCount" "I" ∈ mm_tbl := mm_in1 41 rfl rfl
theorem w_ml_X3_106 : Cond.methodLink RX3 106 yX0_changePrice ∈ mm_tbl := mm_in2 177 rfl rfl
theorem w_im_X0_changePrice : Cond.instanceMethod yX0_changePrice ∈ mm_tbl := mm_in2 178 rfl rfl
theorem w_se_X0_changePrice : Cond.selects yX0_changePrice.cls yX0_changePrice yX0_changePrice ∈ mm_tbl := mm_in2 179 rfl rfl
theorem w_ml_X3_113 : Cond.methodLink RX3 113 yX0_changeSetting ∈ mm_tbl := mm_in2 192 rfl rfl
theorem w_im_X0_changeSetting : Cond.instanceMethod yX0_changeSetting ∈ mm_tbl := mm_in2 193 rfl rfl
theorem w_se_X0_changeSetting : Cond.selects yX0_changeSetting.cls yX0_changeSetting yX0_changeSetting ∈ mm_tbl := mm_in2 194 rfl rfl
theorem w_fl_X3_116 : Cond.fieldLink RX3 116 "DepotCharge$Depot" "curveCount" "I" ∈ mm_tbl := mm_in1 44 rfl rfl
theorem w_ml_X3_122 : Cond.methodLink RX3 122 yX0_addPiece ∈ mm_tbl := mm_in2 207 rfl rfl
theorem w_im_X0_addPiece : Cond.instanceMethod yX0_addPiece ∈ mm_tbl := mm_in2 208 rfl rfl
theorem w_se_X0_addPiece : Cond.selects yX0_addPiece.cls yX0_addPiece yX0_addPiece ∈ mm_tbl := mm_in2 209 rfl rfl
theorem w_fl_X3_119 : Cond.fieldLink RX3 119 "DepotCharge$Depot" "pieceCounts" "[I" ∈ mm_tbl := mm_in1 65 rfl rfl
theorem w_ml_X3_139 : Cond.methodLink RX3 139 yX0_addOffered ∈ mm_tbl := mm_in2 230 rfl rfl
theorem w_im_X0_addOffered : Cond.instanceMethod yX0_addOffered ∈ mm_tbl := mm_in2 231 rfl rfl
theorem w_se_X0_addOffered : Cond.selects yX0_addOffered.cls yX0_addOffered yX0_addOffered ∈ mm_tbl := mm_in2 232 rfl rfl
theorem w_ml_X3_129 : Cond.methodLink RX3 129 yX0_leastOffer ∈ mm_tbl := mm_in2 216 rfl rfl
theorem w_ml_X3_133 : Cond.methodLink RX3 133 yX0_mostOffer ∈ mm_tbl := mm_in2 220 rfl rfl
theorem w_ml_X3_136 : Cond.methodLink RX3 136 yX0_offer ∈ mm_tbl := mm_in2 224 rfl rfl
theorem w_im_X0_offer : Cond.instanceMethod yX0_offer ∈ mm_tbl := mm_in2 225 rfl rfl
theorem w_se_X0_offer : Cond.selects yX0_offer.cls yX0_offer yX0_offer ∈ mm_tbl := mm_in2 226 rfl rfl
theorem w_fl_X3_126 : Cond.fieldLink RX3 126 "DepotCharge$Depot" "busCount" "I" ∈ mm_tbl := mm_in1 51 rfl rfl
theorem w_fl_X3_142 : Cond.fieldLink RX3 142 "DepotCharge$Depot" "sets" "[I" ∈ mm_tbl := mm_in1 63 rfl rfl
theorem w_ml_X3_80 : Cond.methodLink RX3 80 yX5_isSemicolon ∈ mm_tbl := mm_in3 3 rfl rfl
theorem w_im_X5_isSemicolon : Cond.instanceMethod yX5_isSemicolon ∈ mm_tbl := mm_in3 4 rfl rfl
theorem w_se_X5_isSemicolon : Cond.selects yX5_isSemicolon.cls yX5_isSemicolon yX5_isSemicolon ∈ mm_tbl := mm_in3 5 rfl rfl
theorem w_ml_X3_77 : Cond.methodLink RX3 77 yX3_readSemicolon ∈ mm_tbl := mm_in2 239 rfl rfl
theorem w_im_X3_readSemicolon : Cond.instanceMethod yX3_readSemicolon ∈ mm_tbl := mm_in3 1 rfl rfl
theorem w_se_X3_readSemicolon : Cond.selects yX3_readSemicolon.cls yX3_readSemicolon yX3_readSemicolon ∈ mm_tbl := mm_in0 14 rfl rfl
theorem w_ml_X3_36 : Cond.methodLink RX3 36 yX5_isWord ∈ mm_tbl := mm_in2 99 rfl rfl
theorem w_im_X5_isWord : Cond.instanceMethod yX5_isWord ∈ mm_tbl := mm_in2 100 rfl rfl
theorem w_se_X5_isWord : Cond.selects yX5_isWord.cls yX5_isWord yX5_isWord ∈ mm_tbl := mm_in2 101 rfl rfl
theorem w_ml_X3_70 : Cond.methodLink RX3 70 yX3_readCharge ∈ mm_tbl := mm_in2 235 rfl rfl
theorem w_im_X3_readCharge : Cond.instanceMethod yX3_readCharge ∈ mm_tbl := mm_in2 237 rfl rfl
theorem w_se_X3_readCharge : Cond.selects yX3_readCharge.cls yX3_readCharge yX3_readCharge ∈ mm_tbl := mm_in0 13 rfl rfl
theorem w_ml_X3_65 : Cond.methodLink RX3 65 yX3_readBus ∈ mm_tbl := mm_in2 212 rfl rfl
theorem w_im_X3_readBus : Cond.instanceMethod yX3_readBus ∈ mm_tbl := mm_in2 214 rfl rfl
theorem w_se_X3_readBus : Cond.selects yX3_readBus.cls yX3_readBus yX3_readBus ∈ mm_tbl := mm_in0 12 rfl rfl
theorem w_ml_X3_60 : Cond.methodLink RX3 60 yX3_readCurve ∈ mm_tbl := mm_in2 203 rfl rfl
theorem w_im_X3_readCurve : Cond.instanceMethod yX3_readCurve ∈ mm_tbl := mm_in2 205 rfl rfl
theorem w_se_X3_readCurve : Cond.selects yX3_readCurve.cls yX3_readCurve yX3_readCurve ∈ mm_tbl := mm_in0 11 rfl rfl
theorem w_ml_X3_50 : Cond.methodLink RX3 50 yX3_readSetting ∈ mm_tbl := mm_in2 186 rfl rfl
theorem w_im_X3_readSetting : Cond.instanceMethod yX3_readSetting ∈ mm_tbl := mm_in2 188 rfl rfl
theorem w_se_X3_readSetting : Cond.selects yX3_readSetting.cls yX3_readSetting yX3_readSetting ∈ mm_tbl := mm_in0 10 rfl rfl
theorem w_ml_X3_45 : Cond.methodLink RX3 45 yX3_readPrice ∈ mm_tbl := mm_in2 173 rfl rfl
theorem w_im_X3_readPrice : Cond.instanceMethod yX3_readPrice ∈ mm_tbl := mm_in2 175 rfl rfl
theorem w_se_X3_readPrice : Cond.selects yX3_readPrice.cls yX3_readPrice yX3_readPrice ∈ mm_tbl := mm_in0 9 rfl rfl
theorem w_ml_X3_40 : Cond.methodLink RX3 40 yX3_readSlots ∈ mm_tbl := mm_in2 151 rfl rfl
theorem w_im_X3_readSlots : Cond.instanceMethod yX3_readSlots ∈ mm_tbl := mm_in2 153 rfl rfl
theorem w_se_X3_readSlots : Cond.selects yX3_readSlots.cls yX3_readSlots yX3_readSlots ∈ mm_tbl := mm_in0 5 rfl rfl
theorem w_ml_X3_27 : Cond.methodLink RX3 27 yX3_readStatement ∈ mm_tbl := mm_in2 94 rfl rfl
theorem w_im_X3_readStatement : Cond.instanceMethod yX3_readStatement ∈ mm_tbl := mm_in2 96 rfl rfl
theorem w_se_X3_readStatement : Cond.selects yX3_readStatement.cls yX3_readStatement yX3_readStatement ∈ mm_tbl := mm_in0 4 rfl rfl
theorem w_ml_X3_19 : Cond.methodLink RX3 19 yX5_rewind ∈ mm_tbl := mm_in2 70 rfl rfl
theorem w_im_X5_rewind : Cond.instanceMethod yX5_rewind ∈ mm_tbl := mm_in2 71 rfl rfl
theorem w_se_X5_rewind : Cond.selects yX5_rewind.cls yX5_rewind yX5_rewind ∈ mm_tbl := mm_in2 72 rfl rfl
theorem w_ml_X4_27 : Cond.methodLink RX4 27 yX0_fact ∈ mm_tbl := mm_in4 36 rfl rfl
theorem w_fl_X4_15 : Cond.fieldLink RX4 15 "DepotCharge$Ruler" "levels" "[I" ∈ mm_tbl := mm_in2 6 rfl rfl
theorem w_ml_X4_60 : Cond.methodLink RX4 60 yX0_fewestCharges ∈ mm_tbl := mm_in4 46 rfl rfl
theorem w_im_X0_fewestCharges : Cond.instanceMethod yX0_fewestCharges ∈ mm_tbl := mm_in3 111 rfl rfl
theorem w_se_X0_fewestCharges : Cond.selects yX0_fewestCharges.cls yX0_fewestCharges yX0_fewestCharges ∈ mm_tbl := mm_in3 112 rfl rfl
theorem w_fl_X4_18 : Cond.fieldLink RX4 18 "DepotCharge$Ruler" "ranks" "[I" ∈ mm_tbl := mm_in2 7 rfl rfl
theorem w_fl_X4_49 : Cond.fieldLink RX4 49 "DepotCharge$Depot" "settings" "[I" ∈ mm_tbl := mm_in1 55 rfl rfl
theorem w_ml_X4_52 : Cond.methodLink RX4 52 yX4_firstOf ∈ mm_tbl := mm_in4 48 rfl rfl
theorem w_im_X4_firstOf : Cond.instanceMethod yX4_firstOf ∈ mm_tbl := mm_in4 50 rfl rfl
theorem w_se_X4_firstOf : Cond.selects yX4_firstOf.cls yX4_firstOf yX4_firstOf ∈ mm_tbl := mm_in0 33 rfl rfl
theorem w_ml_X4_56 : Cond.methodLink RX4 56 yX0_gain ∈ mm_tbl := mm_in4 53 rfl rfl
theorem w_fl_X4_21 : Cond.fieldLink RX4 21 "DepotCharge$Depot" "busCount" "I" ∈ mm_tbl := mm_in1 47 rfl rfl
theorem w_ml_X4_38 : Cond.methodLink RX4 38 yX0_isThere ∈ mm_tbl := mm_in4 41 rfl rfl
theorem w_ml_X4_42 : Cond.methodLink RX4 42 yX4_rankOf ∈ mm_tbl := mm_in4 42 rfl rfl
theorem w_im_X4_rankOf : Cond.instanceMethod yX4_rankOf ∈ mm_tbl := mm_in4 44 rfl rfl
theorem w_se_X4_rankOf : Cond.selects yX4_rankOf.cls yX4_rankOf yX4_rankOf ∈ mm_tbl := mm_in0 32 rfl rfl
theorem w_fl_X4_9 : Cond.fieldLink RX4 9 "DepotCharge$Ruler" "sets" "[I" ∈ mm_tbl := mm_in2 4 rfl rfl
theorem w_fl_X4_31 : Cond.fieldLink RX4 31 "DepotCharge$Depot" "slotCount" "I" ∈ mm_tbl := mm_in1 38 rfl rfl
theorem w_ml_X4_34 : Cond.methodLink RX4 34 yX4_chargeSlot ∈ mm_tbl := mm_in4 37 rfl rfl
theorem w_im_X4_chargeSlot : Cond.instanceMethod yX4_chargeSlot ∈ mm_tbl := mm_in4 39 rfl rfl
theorem w_se_X4_chargeSlot : Cond.selects yX4_chargeSlot.cls yX4_chargeSlot yX4_chargeSlot ∈ mm_tbl := mm_in0 31 rfl rfl
theorem w_fl_X6_22 : Cond.fieldLink RX6 22 "DepotCharge" "tape" "LDepotCharge$Tape;" ∈ mm_tbl := mm_in2 17 rfl rfl
theorem w_fl_X6_66 : Cond.fieldLink RX6 66 "DepotCharge$Tape" "length" "I" ∈ mm_tbl := mm_in1 105 rfl rfl
theorem w_ml_X6_70 : Cond.methodLink RX6 70 yX5_append ∈ mm_tbl := mm_in2 47 rfl rfl
theorem w_im_X5_append : Cond.instanceMethod yX5_append ∈ mm_tbl := mm_in2 48 rfl rfl
theorem w_se_X5_append : Cond.selects yX5_append.cls yX5_append yX5_append ∈ mm_tbl := mm_in2 49 rfl rfl
theorem w_fl_X6_16 : Cond.fieldLink RX6 16 "DepotCharge" "draft" "LDepotCharge$Depot;" ∈ mm_tbl := mm_in2 16 rfl rfl
theorem w_fl_X6_12 : Cond.fieldLink RX6 12 "DepotCharge" "now" "LDepotCharge$Depot;" ∈ mm_tbl := mm_in2 15 rfl rfl
theorem w_ml_X6_74 : Cond.methodLink RX6 74 yX0_copyFrom ∈ mm_tbl := mm_in2 59 rfl rfl
theorem w_im_X0_copyFrom : Cond.instanceMethod yX0_copyFrom ∈ mm_tbl := mm_in2 60 rfl rfl
theorem w_se_X0_copyFrom : Cond.selects yX0_copyFrom.cls yX0_copyFrom yX0_copyFrom ∈ mm_tbl := mm_in2 61 rfl rfl
theorem w_fl_X6_31 : Cond.fieldLink RX6 31 "DepotCharge" "reader" "LDepotCharge$Reader;" ∈ mm_tbl := mm_in2 18 rfl rfl
theorem w_ml_X6_77 : Cond.methodLink RX6 77 yX3_readInto ∈ mm_tbl := mm_in2 66 rfl rfl
theorem w_im_X3_readInto : Cond.instanceMethod yX3_readInto ∈ mm_tbl := mm_in2 67 rfl rfl
theorem w_se_X3_readInto : Cond.selects yX3_readInto.cls yX3_readInto yX3_readInto ∈ mm_tbl := mm_in2 68 rfl rfl
theorem w_fl_X6_62 : Cond.fieldLink RX6 62 "DepotCharge" "bestIsKnown" "Z" ∈ mm_tbl := mm_in2 23 rfl rfl
theorem w_fl_X6_81 : Cond.fieldLink RX6 81 "DepotCharge$Reader" "fault" "I" ∈ mm_tbl := mm_in1 135 rfl rfl
theorem w_ml_X6_88 : Cond.methodLink RX6 88 yX0_changePrice ∈ mm_tbl := mm_in3 16 rfl rfl
theorem w_ml_X6_84 : Cond.methodLink RX6 84 yX0_changeSetting ∈ mm_tbl := mm_in3 15 rfl rfl
theorem w_fl_X6_94 : Cond.fieldLink RX6 94 "DepotCharge$Depot" "busCount" "I" ∈ mm_tbl := mm_in1 50 rfl rfl
theorem w_ml_X6_97 : Cond.methodLink RX6 97 yX0_addOffered ∈ mm_tbl := mm_in3 22 rfl rfl
theorem w_ml_X6_91 : Cond.methodLink RX6 91 yX0_offer ∈ mm_tbl := mm_in3 21 rfl rfl
theorem w_ml_X6_100 : Cond.methodLink RX6 100 yX0_removeLast ∈ mm_tbl := mm_in3 27 rfl rfl
theorem w_im_X0_removeLast : Cond.instanceMethod yX0_removeLast ∈ mm_tbl := mm_in3 28 rfl rfl
theorem w_se_X0_removeLast : Cond.selects yX0_removeLast.cls yX0_removeLast yX0_removeLast ∈ mm_tbl := mm_in3 29 rfl rfl
theorem w_fl_X6_110 : Cond.fieldLink RX6 110 "DepotCharge$Depot" "sets" "[I" ∈ mm_tbl := mm_in1 62 rfl rfl
theorem w_ml_X6_103 : Cond.methodLink RX6 103 yX0_hasSlot ∈ mm_tbl := mm_in3 35 rfl rfl
theorem w_ml_X6_107 : Cond.methodLink RX6 107 yX0_hasBus ∈ mm_tbl := mm_in3 36 rfl rfl
theorem w_fl_X6_38 : Cond.fieldLink RX6 38 "DepotCharge" "ledger" "LDepotCharge$Ledger;" ∈ mm_tbl := mm_in2 19 rfl rfl
theorem w_ml_X6_113 : Cond.methodLink RX6 113 yX1_weigh ∈ mm_tbl := mm_in3 44 rfl rfl
theorem w_im_X1_weigh : Cond.instanceMethod yX1_weigh ∈ mm_tbl := mm_in3 45 rfl rfl
theorem w_se_X1_weigh : Cond.selects yX1_weigh.cls yX1_weigh yX1_weigh ∈ mm_tbl := mm_in3 46 rfl rfl
theorem w_ml_X6_117 : Cond.methodLink RX6 117 yJ7_fill_53178 ∈ mm_tbl := mm_in3 82 rfl rfl
theorem w_fl_X6_123 : Cond.fieldLink RX6 123 "DepotCharge$Ledger" "charges" "I" ∈ mm_tbl := mm_in1 153 rfl rfl
theorem w_fl_X6_126 : Cond.fieldLink RX6 126 "DepotCharge$Depot" "slotCount" "I" ∈ mm_tbl := mm_in1 42 rfl rfl
theorem w_fl_X6_129 : Cond.fieldLink RX6 129 "DepotCharge$Depot" "curveCount" "I" ∈ mm_tbl := mm_in1 45 rfl rfl
theorem w_fl_X6_132 : Cond.fieldLink RX6 132 "DepotCharge$Depot" "settings" "[I" ∈ mm_tbl := mm_in1 56 rfl rfl
theorem w_fl_X6_135 : Cond.fieldLink RX6 135 "DepotCharge$Depot" "prices" "[I" ∈ mm_tbl := mm_in1 59 rfl rfl
theorem w_ml_X6_149 : Cond.methodLink RX6 149 yX0_hasCurve ∈ mm_tbl := mm_in3 91 rfl rfl
theorem w_im_X0_hasCurve : Cond.instanceMethod yX0_hasCurve ∈ mm_tbl := mm_in3 92 rfl rfl
theorem w_se_X0_hasCurve : Cond.selects yX0_hasCurve.cls yX0_hasCurve yX0_hasCurve ∈ mm_tbl := mm_in3 93 rfl rfl
theorem w_fl_X6_152 : Cond.fieldLink RX6 152 "DepotCharge$Depot" "pieceCounts" "[I" ∈ mm_tbl := mm_in1 66 rfl rfl
theorem w_fl_X6_155 : Cond.fieldLink RX6 155 "DepotCharge$Depot" "froms" "[I" ∈ mm_tbl := mm_in1 68 rfl rfl
theorem w_fl_X6_158 : Cond.fieldLink RX6 158 "DepotCharge$Depot" "rates" "[I" ∈ mm_tbl := mm_in1 70 rfl rfl
theorem w_ml_X6_161 : Cond.methodLink RX6 161 yX0_hasLevel ∈ mm_tbl := mm_in3 99 rfl rfl
theorem w_im_X0_hasLevel : Cond.instanceMethod yX0_hasLevel ∈ mm_tbl := mm_in3 100 rfl rfl
theorem w_se_X0_hasLevel : Cond.selects yX0_hasLevel.cls yX0_hasLevel yX0_hasLevel ∈ mm_tbl := mm_in3 101 rfl rfl
theorem w_ml_X6_164 : Cond.methodLink RX6 164 yX0_gain ∈ mm_tbl := mm_in3 104 rfl rfl
theorem w_ml_X6_145 : Cond.methodLink RX6 145 yX0_fact ∈ mm_tbl := mm_in3 109 rfl rfl
theorem w_ml_X6_168 : Cond.methodLink RX6 168 yX0_fewestCharges ∈ mm_tbl := mm_in3 110 rfl rfl
theorem w_ml_X6_171 : Cond.methodLink RX6 171 yX1_levelAt ∈ mm_tbl := mm_in3 123 rfl rfl
theorem w_fl_X6_174 : Cond.fieldLink RX6 174 "DepotCharge$Ledger" "usedBySlot" "[I" ∈ mm_tbl := mm_in1 149 rfl rfl
theorem w_ml_X6_181 : Cond.methodLink RX6 181 yX1_figure ∈ mm_tbl := mm_in3 143 rfl rfl
theorem w_im_X1_figure : Cond.instanceMethod yX1_figure ∈ mm_tbl := mm_in3 144 rfl rfl
theorem w_se_X1_figure : Cond.selects yX1_figure.cls yX1_figure yX1_figure ∈ mm_tbl := mm_in3 145 rfl rfl
theorem w_ml_X6_177 : Cond.methodLink RX6 177 yX1_wrongness ∈ mm_tbl := mm_in3 132 rfl rfl
theorem w_im_X1_wrongness : Cond.instanceMethod yX1_wrongness ∈ mm_tbl := mm_in3 133 rfl rfl
theorem w_se_X1_wrongness : Cond.selects yX1_wrongness.cls yX1_wrongness yX1_wrongness ∈ mm_tbl := mm_in3 134 rfl rfl
theorem w_ml_X6_185 : Cond.methodLink RX6 185 yX1_lackOf ∈ mm_tbl := mm_in3 151 rfl rfl
theorem w_fl_X6_47 : Cond.fieldLink RX6 47 "DepotCharge" "planner" "LDepotCharge$Planner;" ∈ mm_tbl := mm_in2 20 rfl rfl
theorem w_ml_X6_218 : Cond.methodLink RX6 218 yX2_lookAt ∈ mm_tbl := mm_in3 160 rfl rfl
theorem w_im_X2_lookAt : Cond.instanceMethod yX2_lookAt ∈ mm_tbl := mm_in3 161 rfl rfl
theorem w_se_X2_lookAt : Cond.selects yX2_lookAt.cls yX2_lookAt yX2_lookAt ∈ mm_tbl := mm_in3 162 rfl rfl
theorem w_fl_X6_58 : Cond.fieldLink RX6 58 "DepotCharge" "bestSets" "[I" ∈ mm_tbl := mm_in2 22 rfl rfl
theorem w_ml_X6_241 : Cond.methodLink RX6 241 yX2_findPlan ∈ mm_tbl := mm_in3 166 rfl rfl
theorem w_im_X2_findPlan : Cond.instanceMethod yX2_findPlan ∈ mm_tbl := mm_in3 167 rfl rfl
theorem w_se_X2_findPlan : Cond.selects yX2_findPlan.cls yX2_findPlan yX2_findPlan ∈ mm_tbl := mm_in3 168 rfl rfl
theorem w_ml_X6_189 : Cond.methodLink RX6 189 yX6_findBest ∈ mm_tbl := mm_in3 156 rfl rfl
theorem w_im_X6_findBest : Cond.instanceMethod yX6_findBest ∈ mm_tbl := mm_in3 158 rfl rfl
theorem w_se_X6_findBest : Cond.selects yX6_findBest.cls yX6_findBest yX6_findBest ∈ mm_tbl := mm_in0 17 rfl rfl
theorem w_ml_X6_192 : Cond.methodLink RX6 192 yX6_adopt ∈ mm_tbl := mm_in3 215 rfl rfl
theorem w_im_X6_adopt : Cond.instanceMethod yX6_adopt ∈ mm_tbl := mm_in3 217 rfl rfl
theorem w_se_X6_adopt : Cond.selects yX6_adopt.cls yX6_adopt yX6_adopt ∈ mm_tbl := mm_in0 26 rfl rfl
theorem w_fl_X6_245 : Cond.fieldLink RX6 245 "DepotCharge$Planner" "comes" "[I" ∈ mm_tbl := mm_in1 179 rfl rfl
theorem w_ml_X6_224 : Cond.methodLink RX6 224 yX2_costIfReady ∈ mm_tbl := mm_in3 227 rfl rfl
theorem w_im_X2_costIfReady : Cond.instanceMethod yX2_costIfReady ∈ mm_tbl := mm_in3 228 rfl rfl
theorem w_se_X2_costIfReady : Cond.selects yX2_costIfReady.cls yX2_costIfReady yX2_costIfReady ∈ mm_tbl := mm_in3 229 rfl rfl
theorem w_ml_X6_196 : Cond.methodLink RX6 196 yX6_costIfLate ∈ mm_tbl := mm_in3 223 rfl rfl
theorem w_im_X6_costIfLate : Cond.instanceMethod yX6_costIfLate ∈ mm_tbl := mm_in3 225 rfl rfl
theorem w_se_X6_costIfLate : Cond.selects yX6_costIfLate.cls yX6_costIfLate yX6_costIfLate ∈ mm_tbl := mm_in0 27 rfl rfl
theorem w_fl_X6_248 : Cond.fieldLink RX6 248 "DepotCharge$Planner" "settings" "[I" ∈ mm_tbl := mm_in1 177 rfl rfl
theorem w_ml_X6_199 : Cond.methodLink RX6 199 yX0_settingCanBe ∈ mm_tbl := mm_in3 239 rfl rfl
theorem w_ml_X6_202 : Cond.methodLink RX6 202 yX6_costIfSet ∈ mm_tbl := mm_in4 0 rfl rfl
theorem w_im_X6_costIfSet : Cond.instanceMethod yX6_costIfSet ∈ mm_tbl := mm_in4 2 rfl rfl
theorem w_se_X6_costIfSet : Cond.selects yX6_costIfSet.cls yX6_costIfSet yX6_costIfSet ∈ mm_tbl := mm_in0 28 rfl rfl
theorem w_fl_X6_205 : Cond.fieldLink "DepotCharge" 205 "DepotCharge" "MOST_OF_SETTING" "[I" ∈ mm_tbl := mm_in4 8 rfl rfl
theorem w_ml_X6_208 : Cond.methodLink RX6 208 yX6_firstReady ∈ mm_tbl := mm_in4 9 rfl rfl
theorem w_im_X6_firstReady : Cond.instanceMethod yX6_firstReady ∈ mm_tbl := mm_in4 11 rfl rfl
theorem w_se_X6_firstReady : Cond.selects yX6_firstReady.cls yX6_firstReady yX6_firstReady ∈ mm_tbl := mm_in0 29 rfl rfl
theorem w_ml_X6_211 : Cond.methodLink RX6 211 yX0_topRate ∈ mm_tbl := mm_in4 13 rfl rfl
theorem w_im_X0_topRate : Cond.instanceMethod yX0_topRate ∈ mm_tbl := mm_in4 14 rfl rfl
theorem w_se_X0_topRate : Cond.selects yX0_topRate.cls yX0_topRate yX0_topRate ∈ mm_tbl := mm_in4 15 rfl rfl
theorem w_ml_X6_215 : Cond.methodLink RX6 215 yX6_leastLimit ∈ mm_tbl := mm_in4 17 rfl rfl
theorem w_im_X6_leastLimit : Cond.instanceMethod yX6_leastLimit ∈ mm_tbl := mm_in4 19 rfl rfl
theorem w_se_X6_leastLimit : Cond.selects yX6_leastLimit.cls yX6_leastLimit yX6_leastLimit ∈ mm_tbl := mm_in0 30 rfl rfl
theorem w_fl_X6_221 : Cond.fieldLink RX6 221 "DepotCharge$Planner" "wanted" "I" ∈ mm_tbl := mm_in1 181 rfl rfl
theorem w_ml_X6_227 : Cond.methodLink RX6 227 yX6_isRule ∈ mm_tbl := mm_in4 29 rfl rfl
theorem w_st_X6_isRule : Cond.static yX6_isRule ∈ mm_tbl := mm_in4 30 rfl rfl
theorem w_fl_X6_54 : Cond.fieldLink RX6 54 "DepotCharge" "ruler" "LDepotCharge$Ruler;" ∈ mm_tbl := mm_in2 21 rfl rfl
theorem w_ml_X6_230 : Cond.methodLink RX6 230 yX4_make ∈ mm_tbl := mm_in4 32 rfl rfl
theorem w_im_X4_make : Cond.instanceMethod yX4_make ∈ mm_tbl := mm_in4 33 rfl rfl
theorem w_se_X4_make : Cond.selects yX4_make.cls yX4_make yX4_make ∈ mm_tbl := mm_in4 34 rfl rfl
theorem w_fl_X6_234 : Cond.fieldLink RX6 234 "DepotCharge$Ruler" "sets" "[I" ∈ mm_tbl := mm_in2 5 rfl rfl
theorem w_fl_X6_235 : Cond.fieldLink RX6 235 "DepotCharge$Ledger" "allLack" "I" ∈ mm_tbl := mm_in1 155 rfl rfl
theorem w_fl_X6_238 : Cond.fieldLink RX6 238 "DepotCharge$Ledger" "cost" "I" ∈ mm_tbl := mm_in1 151 rfl rfl
theorem w_fl_X7_56 : Cond.fieldLink RX7 56 "DepotChargeModel" "raised" "I" ∈ mm_tbl := mm_in4 142 rfl rfl
theorem w_fl_X7_7 : Cond.fieldLink RX7 7 "DepotChargeModel" "told" "[I" ∈ mm_tbl := mm_in4 143 rfl rfl
theorem w_ml_X7_60 : Cond.methodLink RX7 60 yX7_in ∈ mm_tbl := mm_in5 0 rfl rfl
theorem w_st_X7_in : Cond.static yX7_in ∈ mm_tbl := mm_in5 1 rfl rfl
theorem w_fl_X7_16 : Cond.fieldLink RX7 16 "DepotChargeModel" "tape" "[I" ∈ mm_tbl := mm_in4 145 rfl rfl
theorem w_fl_X7_64 : Cond.fieldLink RX7 64 "DepotChargeModel" "taped" "I" ∈ mm_tbl := mm_in4 146 rfl rfl
theorem w_ml_X7_67 : Cond.methodLink RX7 67 yX7_four ∈ mm_tbl := mm_in4 232 rfl rfl
theorem w_im_X7_four : Cond.instanceMethod yX7_four ∈ mm_tbl := mm_in4 234 rfl rfl
theorem w_se_X7_four : Cond.selects yX7_four.cls yX7_four yX7_four ∈ mm_tbl := mm_in0 35 rfl rfl
theorem w_fl_X7_71 : Cond.fieldLink RX7 71 "DepotChargeModel" "at" "I" ∈ mm_tbl := mm_in4 148 rfl rfl
theorem w_fl_X7_74 : Cond.fieldLink RX7 74 "DepotChargeModel" "wrong" "I" ∈ mm_tbl := mm_in4 149 rfl rfl
theorem w_ml_X7_77 : Cond.methodLink RX7 77 yX7_here ∈ mm_tbl := mm_in5 15 rfl rfl
theorem w_im_X7_here : Cond.instanceMethod yX7_here ∈ mm_tbl := mm_in5 17 rfl rfl
theorem w_se_X7_here : Cond.selects yX7_here.cls yX7_here yX7_here ∈ mm_tbl := mm_in0 38 rfl rfl
theorem w_fl_X7_89 : Cond.fieldLink RX7 89 "DepotChargeModel" "place" "I" ∈ mm_tbl := mm_in4 151 rfl rfl
theorem w_ml_X7_85 : Cond.methodLink RX7 85 yX7_fails ∈ mm_tbl := mm_in5 23 rfl rfl
theorem w_im_X7_fails : Cond.instanceMethod yX7_fails ∈ mm_tbl := mm_in5 25 rfl rfl
theorem w_se_X7_fails : Cond.selects yX7_fails.cls yX7_fails yX7_fails ∈ mm_tbl := mm_in0 40 rfl rfl
theorem w_fl_X7_92 : Cond.fieldLink RX7 92 "DepotChargeModel" "value" "I" ∈ mm_tbl := mm_in4 150 rfl rfl
theorem w_ml_X7_81 : Cond.methodLink RX7 81 yX7_isNumber ∈ mm_tbl := mm_in5 47 rfl rfl
theorem w_im_X7_isNumber : Cond.instanceMethod yX7_isNumber ∈ mm_tbl := mm_in5 49 rfl rfl
theorem w_se_X7_isNumber : Cond.selects yX7_isNumber.cls yX7_isNumber yX7_isNumber ∈ mm_tbl := mm_in0 45 rfl rfl
theorem w_ml_X7_95 : Cond.methodLink RX7 95 yX7_readPlain ∈ mm_tbl := mm_in5 43 rfl rfl
theorem w_im_X7_readPlain : Cond.instanceMethod yX7_readPlain ∈ mm_tbl := mm_in5 45 rfl rfl
theorem w_se_X7_readPlain : Cond.selects yX7_readPlain.cls yX7_readPlain yX7_readPlain ∈ mm_tbl := mm_in0 44 rfl rfl
theorem w_ml_X7_98 : Cond.methodLink RX7 98 yX7_readNumber ∈ mm_tbl := mm_in5 39 rfl rfl
theorem w_im_X7_readNumber : Cond.instanceMethod yX7_readNumber ∈ mm_tbl := mm_in5 41 rfl rfl
theorem w_se_X7_readNumber : Cond.selects yX7_readNumber.cls yX7_readNumber yX7_readNumber ∈ mm_tbl := mm_in0 43 rfl rfl
theorem w_fl_X7_13 : Cond.fieldLink RX7 13 "DepotChargeModel" "draft" "[I" ∈ mm_tbl := mm_in4 144 rfl rfl
theorem w_cl_X7_105 : Cond.constantLong RX7 105 (-1) ∈ mm_tbl := mm_in5 33 rfl rfl
theorem w_cl_X7_101 : Cond.constantLong RX7 101 27 ∈ mm_tbl := mm_in5 31 rfl rfl
theorem w_cl_X7_103 : Cond.constantLong RX7 103 96 ∈ mm_tbl := mm_in5 32 rfl rfl
theorem w_ml_X7_107 : Cond.methodLink RX7 107 yX7_reads ∈ mm_tbl := mm_in5 56 rfl rfl
theorem w_im_X7_reads : Cond.instanceMethod yX7_reads ∈ mm_tbl := mm_in5 58 rfl rfl
theorem w_se_X7_reads : Cond.selects yX7_reads.cls yX7_reads yX7_reads ∈ mm_tbl := mm_in0 47 rfl rfl
theorem w_ml_X7_110 : Cond.methodLink RX7 110 yX7_has ∈ mm_tbl := mm_in5 78 rfl rfl
theorem w_st_X7_has : Cond.static yX7_has ∈ mm_tbl := mm_in5 79 rfl rfl
theorem w_ml_X7_113 : Cond.methodLink RX7 113 yX7_readWord ∈ mm_tbl := mm_in5 27 rfl rfl
theorem w_im_X7_readWord : Cond.instanceMethod yX7_readWord ∈ mm_tbl := mm_in5 29 rfl rfl
theorem w_se_X7_readWord : Cond.selects yX7_readWord.cls yX7_readWord yX7_readWord ∈ mm_tbl := mm_in0 41 rfl rfl
theorem w_cl_X7_117 : Cond.constantLong RX7 117 10345069 ∈ mm_tbl := mm_in5 34 rfl rfl
theorem w_cl_X7_122 : Cond.constantLong RX7 122 8863997 ∈ mm_tbl := mm_in5 51 rfl rfl
theorem w_cl_X7_127 : Cond.constantLong RX7 127 8754769 ∈ mm_tbl := mm_in5 60 rfl rfl
theorem w_cl_X7_129 : Cond.constantLong RX7 129 8815221 ∈ mm_tbl := mm_in5 61 rfl rfl
theorem w_cl_X7_131 : Cond.constantLong RX7 131 6564179 ∈ mm_tbl := mm_in5 62 rfl rfl
theorem w_cl_X7_133 : Cond.constantLong RX7 133 2021387 ∈ mm_tbl := mm_in5 63 rfl rfl
theorem w_cl_X7_139 : Cond.constantLong RX7 139 2044 ∈ mm_tbl := mm_in5 68 rfl rfl
theorem w_cl_X7_144 : Cond.constantLong RX7 144 47331248 ∈ mm_tbl := mm_in5 73 rfl rfl
theorem w_ml_X7_146 : Cond.methodLink RX7 146 yX7_readCharge ∈ mm_tbl := mm_in5 74 rfl rfl
theorem w_im_X7_readCharge : Cond.instanceMethod yX7_readCharge ∈ mm_tbl := mm_in5 76 rfl rfl
theorem w_se_X7_readCharge : Cond.selects yX7_readCharge.cls yX7_readCharge yX7_readCharge ∈ mm_tbl := mm_in0 50 rfl rfl
theorem w_ml_X7_141 : Cond.methodLink RX7 141 yX7_readBus ∈ mm_tbl := mm_in5 69 rfl rfl
theorem w_im_X7_readBus : Cond.instanceMethod yX7_readBus ∈ mm_tbl := mm_in5 71 rfl rfl
theorem w_se_X7_readBus : Cond.selects yX7_readBus.cls yX7_readBus yX7_readBus ∈ mm_tbl := mm_in0 49 rfl rfl
theorem w_ml_X7_135 : Cond.methodLink RX7 135 yX7_readCurve ∈ mm_tbl := mm_in5 64 rfl rfl
theorem w_im_X7_readCurve : Cond.instanceMethod yX7_readCurve ∈ mm_tbl := mm_in5 66 rfl rfl
theorem w_se_X7_readCurve : Cond.selects yX7_readCurve.cls yX7_readCurve yX7_readCurve ∈ mm_tbl := mm_in0 48 rfl rfl
theorem w_ml_X7_124 : Cond.methodLink RX7 124 yX7_readPrice ∈ mm_tbl := mm_in5 52 rfl rfl
theorem w_im_X7_readPrice : Cond.instanceMethod yX7_readPrice ∈ mm_tbl := mm_in5 54 rfl rfl
theorem w_se_X7_readPrice : Cond.selects yX7_readPrice.cls yX7_readPrice yX7_readPrice ∈ mm_tbl := mm_in0 46 rfl rfl
theorem w_ml_X7_119 : Cond.methodLink RX7 119 yX7_readSlots ∈ mm_tbl := mm_in5 35 rfl rfl
theorem w_im_X7_readSlots : Cond.instanceMethod yX7_readSlots ∈ mm_tbl := mm_in5 37 rfl rfl
theorem w_se_X7_readSlots : Cond.selects yX7_readSlots.cls yX7_readSlots yX7_readSlots ∈ mm_tbl := mm_in0 42 rfl rfl
theorem w_ml_X7_152 : Cond.methodLink RX7 152 yX7_readStatement ∈ mm_tbl := mm_in5 19 rfl rfl
theorem w_im_X7_readStatement : Cond.instanceMethod yX7_readStatement ∈ mm_tbl := mm_in5 21 rfl rfl
theorem w_se_X7_readStatement : Cond.selects yX7_readStatement.cls yX7_readStatement yX7_readStatement ∈ mm_tbl := mm_in0 39 rfl rfl
theorem w_fl_X7_149 : Cond.fieldLink RX7 149 "DepotChargeModel" "statements" "I" ∈ mm_tbl := mm_in4 152 rfl rfl
theorem w_ml_X7_155 : Cond.methodLink RX7 155 yX7_copies ∈ mm_tbl := mm_in5 7 rfl rfl
theorem w_im_X7_copies : Cond.instanceMethod yX7_copies ∈ mm_tbl := mm_in5 9 rfl rfl
theorem w_se_X7_copies : Cond.selects yX7_copies.cls yX7_copies yX7_copies ∈ mm_tbl := mm_in0 36 rfl rfl
theorem w_ml_X7_159 : Cond.methodLink RX7 159 yX7_readText ∈ mm_tbl := mm_in5 11 rfl rfl
theorem w_im_X7_readText : Cond.instanceMethod yX7_readText ∈ mm_tbl := mm_in5 13 rfl rfl
theorem w_se_X7_readText : Cond.selects yX7_readText.cls yX7_readText yX7_readText ∈ mm_tbl := mm_in0 37 rfl rfl
theorem w_fl_X7_162 : Cond.fieldLink RX7 162 "DepotChargeModel" "fault" "I" ∈ mm_tbl := mm_in4 147 rfl rfl
theorem w_ml_X7_165 : Cond.methodLink RX7 165 yX7_mostOf ∈ mm_tbl := mm_in5 89 rfl rfl
theorem w_st_X7_mostOf : Cond.static yX7_mostOf ∈ mm_tbl := mm_in5 90 rfl rfl
theorem w_ml_X7_169 : Cond.methodLink RX7 169 yX7_isSlot ∈ mm_tbl := mm_in5 104 rfl rfl
theorem w_im_X7_isSlot : Cond.instanceMethod yX7_isSlot ∈ mm_tbl := mm_in5 106 rfl rfl
theorem w_se_X7_isSlot : Cond.selects yX7_isSlot.cls yX7_isSlot yX7_isSlot ∈ mm_tbl := mm_in0 51 rfl rfl
theorem w_ml_X7_172 : Cond.methodLink RX7 172 yX7_isBus ∈ mm_tbl := mm_in5 108 rfl rfl
theorem w_im_X7_isBus : Cond.instanceMethod yX7_isBus ∈ mm_tbl := mm_in5 110 rfl rfl
theorem w_se_X7_isBus : Cond.selects yX7_isBus.cls yX7_isBus yX7_isBus ∈ mm_tbl := mm_in0 52 rfl rfl
theorem w_ml_X7_175 : Cond.methodLink RX7 175 yX7_bits ∈ mm_tbl := mm_in5 120 rfl rfl
theorem w_st_X7_bits : Cond.static yX7_bits ∈ mm_tbl := mm_in5 121 rfl rfl
theorem w_ml_X7_178 : Cond.methodLink RX7 178 yX7_chargesOf ∈ mm_tbl := mm_in5 116 rfl rfl
theorem w_im_X7_chargesOf : Cond.instanceMethod yX7_chargesOf ∈ mm_tbl := mm_in5 118 rfl rfl
theorem w_se_X7_chargesOf : Cond.selects yX7_chargesOf.cls yX7_chargesOf yX7_chargesOf ∈ mm_tbl := mm_in0 53 rfl rfl
theorem w_ml_X7_181 : Cond.methodLink RX7 181 yX7_of ∈ mm_tbl := mm_in5 131 rfl rfl
theorem w_im_X7_of : Cond.instanceMethod yX7_of ∈ mm_tbl := mm_in5 133 rfl rfl
theorem w_se_X7_of : Cond.selects yX7_of.cls yX7_of yX7_of ∈ mm_tbl := mm_in0 54 rfl rfl
theorem w_fl_X7_185 : Cond.fieldLink RX7 185 "DepotChargeModel" "power" "I" ∈ mm_tbl := mm_in4 154 rfl rfl
theorem w_ml_X7_188 : Cond.methodLink RX7 188 yX7_less ∈ mm_tbl := mm_in5 151 rfl rfl
theorem w_st_X7_less : Cond.static yX7_less ∈ mm_tbl := mm_in5 152 rfl rfl
theorem w_ml_X7_191 : Cond.methodLink RX7 191 yX7_takesOf ∈ mm_tbl := mm_in5 147 rfl rfl
theorem w_im_X7_takesOf : Cond.instanceMethod yX7_takesOf ∈ mm_tbl := mm_in5 149 rfl rfl
theorem w_se_X7_takesOf : Cond.selects yX7_takesOf.cls yX7_takesOf yX7_takesOf ∈ mm_tbl := mm_in0 56 rfl rfl
theorem w_fl_X7_19 : Cond.fieldLink RX7 19 "DepotChargeModel" "comes" "[I" ∈ mm_tbl := mm_in4 156 rfl rfl
theorem w_fl_X7_201 : Cond.fieldLink RX7 201 "DepotChargeModel" "plugs" "I" ∈ mm_tbl := mm_in4 153 rfl rfl
theorem w_fl_X7_204 : Cond.fieldLink RX7 204 "DepotChargeModel" "limit" "I" ∈ mm_tbl := mm_in4 155 rfl rfl
theorem w_fl_X7_207 : Cond.fieldLink RX7 207 "DepotChargeModel" "some" "I" ∈ mm_tbl := mm_in4 157 rfl rfl
theorem w_ml_X7_194 : Cond.methodLink RX7 194 yX7_asTold ∈ mm_tbl := mm_in5 143 rfl rfl
theorem w_im_X7_asTold : Cond.instanceMethod yX7_asTold ∈ mm_tbl := mm_in5 145 rfl rfl
theorem w_se_X7_asTold : Cond.selects yX7_asTold.cls yX7_asTold yX7_asTold ∈ mm_tbl := mm_in0 55 rfl rfl
theorem w_ml_X7_197 : Cond.methodLink RX7 197 yX7_slotsOf ∈ mm_tbl := mm_in5 158 rfl rfl
theorem w_im_X7_slotsOf : Cond.instanceMethod yX7_slotsOf ∈ mm_tbl := mm_in5 160 rfl rfl
theorem w_se_X7_slotsOf : Cond.selects yX7_slotsOf.cls yX7_slotsOf yX7_slotsOf ∈ mm_tbl := mm_in0 57 rfl rfl
theorem w_fl_X7_25 : Cond.fieldLink RX7 25 "DepotChargeModel" "level" "[I" ∈ mm_tbl := mm_in4 159 rfl rfl
theorem w_fl_X7_28 : Cond.fieldLink RX7 28 "DepotChargeModel" "used" "[I" ∈ mm_tbl := mm_in4 160 rfl rfl
theorem w_fl_X7_22 : Cond.fieldLink RX7 22 "DepotChargeModel" "plan" "[I" ∈ mm_tbl := mm_in4 158 rfl rfl
theorem w_ml_X7_210 : Cond.methodLink RX7 210 yX7_isThere ∈ mm_tbl := mm_in5 178 rfl rfl
theorem w_im_X7_isThere : Cond.instanceMethod yX7_isThere ∈ mm_tbl := mm_in5 180 rfl rfl
theorem w_se_X7_isThere : Cond.selects yX7_isThere.cls yX7_isThere yX7_isThere ∈ mm_tbl := mm_in0 60 rfl rfl
theorem w_ml_X7_213 : Cond.methodLink RX7 213 yX7_goes ∈ mm_tbl := mm_in5 174 rfl rfl
theorem w_im_X7_goes : Cond.instanceMethod yX7_goes ∈ mm_tbl := mm_in5 176 rfl rfl
theorem w_se_X7_goes : Cond.selects yX7_goes.cls yX7_goes yX7_goes ∈ mm_tbl := mm_in0 59 rfl rfl
theorem w_ml_X7_216 : Cond.methodLink RX7 216 yX7_lackOf ∈ mm_tbl := mm_in5 198 rfl rfl
theorem w_im_X7_lackOf : Cond.instanceMethod yX7_lackOf ∈ mm_tbl := mm_in5 200 rfl rfl
theorem w_se_X7_lackOf : Cond.selects yX7_lackOf.cls yX7_lackOf yX7_lackOf ∈ mm_tbl := mm_in0 63 rfl rfl
theorem w_ml_X7_219 : Cond.methodLink RX7 219 yX7_isAllThere ∈ mm_tbl := mm_in5 194 rfl rfl
theorem w_im_X7_isAllThere : Cond.instanceMethod yX7_isAllThere ∈ mm_tbl := mm_in5 196 rfl rfl
theorem w_se_X7_isAllThere : Cond.selects yX7_isAllThere.cls yX7_isAllThere yX7_isAllThere ∈ mm_tbl := mm_in0 62 rfl rfl
theorem w_ml_X7_222 : Cond.methodLink RX7 222 yX7_goesByTold ∈ mm_tbl := mm_in5 170 rfl rfl
theorem w_im_X7_goesByTold : Cond.instanceMethod yX7_goesByTold ∈ mm_tbl := mm_in5 172 rfl rfl
theorem w_se_X7_goesByTold : Cond.selects yX7_goesByTold.cls yX7_goesByTold yX7_goesByTold ∈ mm_tbl := mm_in0 58 rfl rfl
theorem w_ml_X7_228 : Cond.methodLink RX7 228 yX7_sumOf ∈ mm_tbl := mm_in5 202 rfl rfl
theorem w_im_X7_sumOf : Cond.instanceMethod yX7_sumOf ∈ mm_tbl := mm_in5 204 rfl rfl
theorem w_se_X7_sumOf : Cond.selects yX7_sumOf.cls yX7_sumOf yX7_sumOf ∈ mm_tbl := mm_in0 64 rfl rfl
theorem w_ml_X7_225 : Cond.methodLink RX7 225 yX7_wrongOf ∈ mm_tbl := mm_in5 190 rfl rfl
theorem w_im_X7_wrongOf : Cond.instanceMethod yX7_wrongOf ∈ mm_tbl := mm_in5 192 rfl rfl
theorem w_se_X7_wrongOf : Cond.selects yX7_wrongOf.cls yX7_wrongOf yX7_wrongOf ∈ mm_tbl := mm_in0 61 rfl rfl
theorem w_fl_X7_44 : Cond.fieldLink RX7 44 "DepotChargeModel" "full" "[I" ∈ mm_tbl := mm_in4 165 rfl rfl
theorem w_ml_X7_231 : Cond.methodLink RX7 231 yX7_countOf ∈ mm_tbl := mm_in5 226 rfl rfl
theorem w_st_X7_countOf : Cond.static yX7_countOf ∈ mm_tbl := mm_in5 227 rfl rfl
theorem w_fl_X7_32 : Cond.fieldLink RX7 32 "DepotChargeModel" "lacks" "[I" ∈ mm_tbl := mm_in4 161 rfl rfl
theorem w_fl_X7_35 : Cond.fieldLink RX7 35 "DepotChargeModel" "costs" "[I" ∈ mm_tbl := mm_in4 162 rfl rfl
theorem w_fl_X7_38 : Cond.fieldLink RX7 38 "DepotChargeModel" "charges" "[I" ∈ mm_tbl := mm_in4 163 rfl rfl
theorem w_fl_X7_47 : Cond.fieldLink RX7 47 "DepotChargeModel" "step" "[I" ∈ mm_tbl := mm_in4 166 rfl rfl
theorem w_fl_X7_41 : Cond.fieldLink RX7 41 "DepotChargeModel" "sets" "[I" ∈ mm_tbl := mm_in4 164 rfl rfl
theorem w_ml_X7_234 : Cond.methodLink RX7 234 yX7_taken ∈ mm_tbl := mm_in5 237 rfl rfl
theorem w_im_X7_taken : Cond.instanceMethod yX7_taken ∈ mm_tbl := mm_in5 239 rfl rfl
theorem w_se_X7_taken : Cond.selects yX7_taken.cls yX7_taken yX7_taken ∈ mm_tbl := mm_in0 70 rfl rfl
theorem w_ml_X7_237 : Cond.methodLink RX7 237 yX7_behind ∈ mm_tbl := mm_in6 1 rfl rfl
theorem w_im_X7_behind : Cond.instanceMethod yX7_behind ∈ mm_tbl := mm_in6 3 rfl rfl
theorem w_se_X7_behind : Cond.selects yX7_behind.cls yX7_behind yX7_behind ∈ mm_tbl := mm_in0 71 rfl rfl
theorem w_ml_X7_243 : Cond.methodLink RX7 243 yX7_mayBe ∈ mm_tbl := mm_in5 222 rfl rfl
theorem w_im_X7_mayBe : Cond.instanceMethod yX7_mayBe ∈ mm_tbl := mm_in5 224 rfl rfl
theorem w_se_X7_mayBe : Cond.selects yX7_mayBe.cls yX7_mayBe yX7_mayBe ∈ mm_tbl := mm_in0 67 rfl rfl
theorem w_ml_X7_249 : Cond.methodLink RX7 249 yX7_laysSlot ∈ mm_tbl := mm_in5 233 rfl rfl
theorem w_im_X7_laysSlot : Cond.instanceMethod yX7_laysSlot ∈ mm_tbl := mm_in5 235 rfl rfl
theorem w_se_X7_laysSlot : Cond.selects yX7_laysSlot.cls yX7_laysSlot yX7_laysSlot ∈ mm_tbl := mm_in0 69 rfl rfl
theorem w_ml_X7_246 : Cond.methodLink RX7 246 yX7_laysEnd ∈ mm_tbl := mm_in5 229 rfl rfl
theorem w_im_X7_laysEnd : Cond.instanceMethod yX7_laysEnd ∈ mm_tbl := mm_in5 231 rfl rfl
theorem w_se_X7_laysEnd : Cond.selects yX7_laysEnd.cls yX7_laysEnd yX7_laysEnd ∈ mm_tbl := mm_in0 68 rfl rfl
theorem w_ml_X7_240 : Cond.methodLink RX7 240 yX7_laysFull ∈ mm_tbl := mm_in5 218 rfl rfl
theorem w_im_X7_laysFull : Cond.instanceMethod yX7_laysFull ∈ mm_tbl := mm_in5 220 rfl rfl
theorem w_se_X7_laysFull : Cond.selects yX7_laysFull.cls yX7_laysFull yX7_laysFull ∈ mm_tbl := mm_in0 66 rfl rfl
theorem w_ml_X7_253 : Cond.methodLink RX7 253 yX7_finds ∈ mm_tbl := mm_in5 214 rfl rfl
theorem w_im_X7_finds : Cond.instanceMethod yX7_finds ∈ mm_tbl := mm_in5 216 rfl rfl
theorem w_se_X7_finds : Cond.selects yX7_finds.cls yX7_finds yX7_finds ∈ mm_tbl := mm_in0 65 rfl rfl
theorem w_ml_X7_256 : Cond.methodLink RX7 256 yX7_laysBest ∈ mm_tbl := mm_in6 5 rfl rfl
theorem w_im_X7_laysBest : Cond.instanceMethod yX7_laysBest ∈ mm_tbl := mm_in6 7 rfl rfl
theorem w_se_X7_laysBest : Cond.selects yX7_laysBest.cls yX7_laysBest yX7_laysBest ∈ mm_tbl := mm_in0 72 rfl rfl
theorem w_ml_X7_259 : Cond.methodLink RX7 259 yX7_stands ∈ mm_tbl := mm_in6 13 rfl rfl
theorem w_im_X7_stands : Cond.instanceMethod yX7_stands ∈ mm_tbl := mm_in6 15 rfl rfl
theorem w_se_X7_stands : Cond.selects yX7_stands.cls yX7_stands yX7_stands ∈ mm_tbl := mm_in0 73 rfl rfl
theorem w_ml_X7_262 : Cond.methodLink RX7 262 yX7_costNow ∈ mm_tbl := mm_in6 21 rfl rfl
theorem w_im_X7_costNow : Cond.instanceMethod yX7_costNow ∈ mm_tbl := mm_in6 23 rfl rfl
theorem w_se_X7_costNow : Cond.selects yX7_costNow.cls yX7_costNow yX7_costNow ∈ mm_tbl := mm_in0 74 rfl rfl
theorem w_ml_X7_265 : Cond.methodLink RX7 265 yX7_lays ∈ mm_tbl := mm_in6 33 rfl rfl
theorem w_im_X7_lays : Cond.instanceMethod yX7_lays ∈ mm_tbl := mm_in6 35 rfl rfl
theorem w_se_X7_lays : Cond.selects yX7_lays.cls yX7_lays yX7_lays ∈ mm_tbl := mm_in0 75 rfl rfl
theorem w_fl_X7_50 : Cond.fieldLink RX7 50 "DepotChargeModel" "row" "[I" ∈ mm_tbl := mm_in4 167 rfl rfl
theorem w_fl_X7_53 : Cond.fieldLink RX7 53 "DepotChargeModel" "rank" "[I" ∈ mm_tbl := mm_in4 168 rfl rfl
theorem w_ml_X7_268 : Cond.methodLink RX7 268 yX7_rankOf ∈ mm_tbl := mm_in6 57 rfl rfl
theorem w_im_X7_rankOf : Cond.instanceMethod yX7_rankOf ∈ mm_tbl := mm_in6 59 rfl rfl
theorem w_se_X7_rankOf : Cond.selects yX7_rankOf.cls yX7_rankOf yX7_rankOf ∈ mm_tbl := mm_in0 78 rfl rfl
theorem w_ml_X7_271 : Cond.methodLink RX7 271 yX7_setBy ∈ mm_tbl := mm_in6 53 rfl rfl
theorem w_im_X7_setBy : Cond.instanceMethod yX7_setBy ∈ mm_tbl := mm_in6 55 rfl rfl
theorem w_se_X7_setBy : Cond.selects yX7_setBy.cls yX7_setBy yX7_setBy ∈ mm_tbl := mm_in0 77 rfl rfl
theorem w_ml_X7_274 : Cond.methodLink RX7 274 yX7_rules ∈ mm_tbl := mm_in6 49 rfl rfl
theorem w_im_X7_rules : Cond.instanceMethod yX7_rules ∈ mm_tbl := mm_in6 51 rfl rfl
theorem w_se_X7_rules : Cond.selects yX7_rules.cls yX7_rules yX7_rules ∈ mm_tbl := mm_in0 76 rfl rfl
theorem w_ly_X0_0 : u_lay RX0 TX0 0 ∈ mm_tbl := mm_in1 73 rfl rfl
theorem w_ly_X0_1 : u_lay RX0 TX0 1 ∈ mm_tbl := mm_in1 75 rfl rfl
theorem w_ly_X0_2 : u_lay RX0 TX0 2 ∈ mm_tbl := mm_in1 77 rfl rfl
theorem w_ly_X0_3 : u_lay RX0 TX0 3 ∈ mm_tbl := mm_in1 79 rfl rfl
theorem w_ly_X0_4 : u_lay RX0 TX0 4 ∈ mm_tbl := mm_in1 81 rfl rfl
theorem w_ly_X0_5 : u_lay RX0 TX0 5 ∈ mm_tbl := mm_in1 83 rfl rfl
theorem w_ly_X0_6 : u_lay RX0 TX0 6 ∈ mm_tbl := mm_in1 85 rfl rfl
theorem w_ly_X0_7 : u_lay RX0 TX0 7 ∈ mm_tbl := mm_in1 87 rfl rfl
theorem w_ly_X0_8 : u_lay RX0 TX0 8 ∈ mm_tbl := mm_in1 89 rfl rfl
theorem w_ly_X0_9 : u_lay RX0 TX0 9 ∈ mm_tbl := mm_in1 91 rfl rfl
theorem w_ly_X0_10 : u_lay RX0 TX0 10 ∈ mm_tbl := mm_in1 93 rfl rfl
theorem iw0 : ∀ w ∈ u_ws RX0 TX0 11, w ∈ mm_tbl := by
  intro w hw
  obtain ⟨k, hk, rfl⟩ := List.mem_map.mp hw
  have hk := List.mem_range.mp hk
  match k, hk with
  | 0, _ => exact w_ly_X0_0
  | 1, _ => exact w_ly_X0_1
  | 2, _ => exact w_ly_X0_2
  | 3, _ => exact w_ly_X0_3
  | 4, _ => exact w_ly_X0_4
  | 5, _ => exact w_ly_X0_5
  | 6, _ => exact w_ly_X0_6
  | 7, _ => exact w_ly_X0_7
  | 8, _ => exact w_ly_X0_8
  | 9, _ => exact w_ly_X0_9
  | 10, _ => exact w_ly_X0_10
  | k + 11, h => omega
theorem w_ly_X1_0 : u_lay RX1 TX1 0 ∈ mm_tbl := mm_in1 157 rfl rfl
theorem w_ly_X1_1 : u_lay RX1 TX1 1 ∈ mm_tbl := mm_in1 159 rfl rfl
theorem w_ly_X1_2 : u_lay RX1 TX1 2 ∈ mm_tbl := mm_in1 161 rfl rfl
theorem w_ly_X1_3 : u_lay RX1 TX1 3 ∈ mm_tbl := mm_in1 163 rfl rfl
theorem w_ly_X1_4 : u_lay RX1 TX1 4 ∈ mm_tbl := mm_in1 165 rfl rfl
theorem w_ly_X1_5 : u_lay RX1 TX1 5 ∈ mm_tbl := mm_in1 167 rfl rfl
theorem iw1 : ∀ w ∈ u_ws RX1 TX1 6, w ∈ mm_tbl := by
  intro w hw
  obtain ⟨k, hk, rfl⟩ := List.mem_map.mp hw
  have hk := List.mem_range.mp hk
  match k, hk with
  | 0, _ => exact w_ly_X1_0
  | 1, _ => exact w_ly_X1_1
  | 2, _ => exact w_ly_X1_2
  | 3, _ => exact w_ly_X1_3
  | 4, _ => exact w_ly_X1_4
  | 5, _ => exact w_ly_X1_5
  | k + 6, h => omega
theorem w_ly_X2_0 : u_lay RX2 TX2 0 ∈ mm_tbl := mm_in1 198 rfl rfl
theorem w_ly_X2_1 : u_lay RX2 TX2 1 ∈ mm_tbl := mm_in1 200 rfl rfl
theorem w_ly_X2_2 : u_lay RX2 TX2 2 ∈ mm_tbl := mm_in1 202 rfl rfl
theorem w_ly_X2_3 : u_lay RX2 TX2 3 ∈ mm_tbl := mm_in1 204 rfl rfl
theorem w_ly_X2_4 : u_lay RX2 TX2 4 ∈ mm_tbl := mm_in1 206 rfl rfl
theorem w_ly_X2_5 : u_lay RX2 TX2 5 ∈ mm_tbl := mm_in1 208 rfl rfl
theorem w_ly_X2_6 : u_lay RX2 TX2 6 ∈ mm_tbl := mm_in1 210 rfl rfl
theorem w_ly_X2_7 : u_lay RX2 TX2 7 ∈ mm_tbl := mm_in1 212 rfl rfl
theorem w_ly_X2_8 : u_lay RX2 TX2 8 ∈ mm_tbl := mm_in1 214 rfl rfl
theorem w_ly_X2_9 : u_lay RX2 TX2 9 ∈ mm_tbl := mm_in1 216 rfl rfl
theorem w_ly_X2_10 : u_lay RX2 TX2 10 ∈ mm_tbl := mm_in1 218 rfl rfl
theorem w_ly_X2_11 : u_lay RX2 TX2 11 ∈ mm_tbl := mm_in1 220 rfl rfl
theorem w_ly_X2_12 : u_lay RX2 TX2 12 ∈ mm_tbl := mm_in1 222 rfl rfl
theorem w_ly_X2_13 : u_lay RX2 TX2 13 ∈ mm_tbl := mm_in1 224 rfl rfl
theorem w_ly_X2_14 : u_lay RX2 TX2 14 ∈ mm_tbl := mm_in1 226 rfl rfl
theorem w_ly_X2_15 : u_lay RX2 TX2 15 ∈ mm_tbl := mm_in1 228 rfl rfl
theorem w_ly_X2_16 : u_lay RX2 TX2 16 ∈ mm_tbl := mm_in1 230 rfl rfl
theorem w_ly_X2_17 : u_lay RX2 TX2 17 ∈ mm_tbl := mm_in1 232 rfl rfl
theorem w_ly_X2_18 : u_lay RX2 TX2 18 ∈ mm_tbl := mm_in1 234 rfl rfl
theorem iw2 : ∀ w ∈ u_ws RX2 TX2 19, w ∈ mm_tbl := by
  intro w hw
  obtain ⟨k, hk, rfl⟩ := List.mem_map.mp hw
  have hk := List.mem_range.mp hk
  match k, hk with
  | 0, _ => exact w_ly_X2_0
  | 1, _ => exact w_ly_X2_1
  | 2, _ => exact w_ly_X2_2
  | 3, _ => exact w_ly_X2_3
  | 4, _ => exact w_ly_X2_4
  | 5, _ => exact w_ly_X2_5
  | 6, _ => exact w_ly_X2_6
  | 7, _ => exact w_ly_X2_7
  | 8, _ => exact w_ly_X2_8
  | 9, _ => exact w_ly_X2_9
  | 10, _ => exact w_ly_X2_10
  | 11, _ => exact w_ly_X2_11
  | 12, _ => exact w_ly_X2_12
  | 13, _ => exact w_ly_X2_13
  | 14, _ => exact w_ly_X2_14
  | 15, _ => exact w_ly_X2_15
  | 16, _ => exact w_ly_X2_16
  | 17, _ => exact w_ly_X2_17
  | 18, _ => exact w_ly_X2_18
  | k + 19, h => omega
theorem w_ly_X3_0 : u_lay RX3 TX3 0 ∈ mm_tbl := mm_in1 136 rfl rfl
theorem w_ly_X3_1 : u_lay RX3 TX3 1 ∈ mm_tbl := mm_in1 138 rfl rfl
theorem iw3 : ∀ w ∈ u_ws RX3 TX3 2, w ∈ mm_tbl := by
  intro w hw
  obtain ⟨k, hk, rfl⟩ := List.mem_map.mp hw
  have hk := List.mem_range.mp hk
  match k, hk with
  | 0, _ => exact w_ly_X3_0
  | 1, _ => exact w_ly_X3_1
  | k + 2, h => omega
theorem w_ly_X4_0 : u_lay RX4 TX4 0 ∈ mm_tbl := mm_in2 8 rfl rfl
theorem w_ly_X4_1 : u_lay RX4 TX4 1 ∈ mm_tbl := mm_in2 10 rfl rfl
theorem w_ly_X4_2 : u_lay RX4 TX4 2 ∈ mm_tbl := mm_in2 12 rfl rfl
theorem iw4 : ∀ w ∈ u_ws RX4 TX4 3, w ∈ mm_tbl := by
  intro w hw
  obtain ⟨k, hk, rfl⟩ := List.mem_map.mp hw
  have hk := List.mem_range.mp hk
  match k, hk with
  | 0, _ => exact w_ly_X4_0
  | 1, _ => exact w_ly_X4_1
  | 2, _ => exact w_ly_X4_2
  | k + 3, h => omega
theorem w_ly_X5_0 : u_lay RX5 TX5 0 ∈ mm_tbl := mm_in1 113 rfl rfl
theorem w_ly_X5_1 : u_lay RX5 TX5 1 ∈ mm_tbl := mm_in1 115 rfl rfl
theorem w_ly_X5_2 : u_lay RX5 TX5 2 ∈ mm_tbl := mm_in1 117 rfl rfl
theorem w_ly_X5_3 : u_lay RX5 TX5 3 ∈ mm_tbl := mm_in1 119 rfl rfl
theorem w_ly_X5_4 : u_lay RX5 TX5 4 ∈ mm_tbl := mm_in1 121 rfl rfl
theorem w_ly_X5_5 : u_lay RX5 TX5 5 ∈ mm_tbl := mm_in1 123 rfl rfl
theorem iw5 : ∀ w ∈ u_ws RX5 TX5 6, w ∈ mm_tbl := by
  intro w hw
  obtain ⟨k, hk, rfl⟩ := List.mem_map.mp hw
  have hk := List.mem_range.mp hk
  match k, hk with
  | 0, _ => exact w_ly_X5_0
  | 1, _ => exact w_ly_X5_1
  | 2, _ => exact w_ly_X5_2
  | 3, _ => exact w_ly_X5_3
  | 4, _ => exact w_ly_X5_4
  | 5, _ => exact w_ly_X5_5
  | k + 6, h => omega
theorem w_ly_X6_0 : u_lay RX6 TX6 0 ∈ mm_tbl := mm_in2 24 rfl rfl
theorem w_ly_X6_1 : u_lay RX6 TX6 1 ∈ mm_tbl := mm_in2 26 rfl rfl
theorem w_ly_X6_2 : u_lay RX6 TX6 2 ∈ mm_tbl := mm_in2 28 rfl rfl
theorem w_ly_X6_3 : u_lay RX6 TX6 3 ∈ mm_tbl := mm_in2 30 rfl rfl
theorem w_ly_X6_4 : u_lay RX6 TX6 4 ∈ mm_tbl := mm_in2 32 rfl rfl
theorem w_ly_X6_5 : u_lay RX6 TX6 5 ∈ mm_tbl := mm_in2 34 rfl rfl
theorem w_ly_X6_6 : u_lay RX6 TX6 6 ∈ mm_tbl := mm_in2 36 rfl rfl
theorem w_ly_X6_7 : u_lay RX6 TX6 7 ∈ mm_tbl := mm_in2 38 rfl rfl
theorem w_ly_X6_8 : u_lay RX6 TX6 8 ∈ mm_tbl := mm_in2 40 rfl rfl
theorem iw6 : ∀ w ∈ u_ws RX6 TX6 9, w ∈ mm_tbl := by
  intro w hw
  obtain ⟨k, hk, rfl⟩ := List.mem_map.mp hw
  have hk := List.mem_range.mp hk
  match k, hk with
  | 0, _ => exact w_ly_X6_0
  | 1, _ => exact w_ly_X6_1
  | 2, _ => exact w_ly_X6_2
  | 3, _ => exact w_ly_X6_3
  | 4, _ => exact w_ly_X6_4
  | 5, _ => exact w_ly_X6_5
  | 6, _ => exact w_ly_X6_6
  | 7, _ => exact w_ly_X6_7
  | 8, _ => exact w_ly_X6_8
  | k + 9, h => omega
theorem w_ly_X7_0 : u_lay RX7 TX7 0 ∈ mm_tbl := mm_in4 169 rfl rfl
theorem w_ly_X7_1 : u_lay RX7 TX7 1 ∈ mm_tbl := mm_in4 171 rfl rfl
theorem w_ly_X7_2 : u_lay RX7 TX7 2 ∈ mm_tbl := mm_in4 173 rfl rfl
theorem w_ly_X7_3 : u_lay RX7 TX7 3 ∈ mm_tbl := mm_in4 175 rfl rfl
theorem w_ly_X7_4 : u_lay RX7 TX7 4 ∈ mm_tbl := mm_in4 177 rfl rfl
theorem w_ly_X7_5 : u_lay RX7 TX7 5 ∈ mm_tbl := mm_in4 179 rfl rfl
theorem w_ly_X7_6 : u_lay RX7 TX7 6 ∈ mm_tbl := mm_in4 181 rfl rfl
theorem w_ly_X7_7 : u_lay RX7 TX7 7 ∈ mm_tbl := mm_in4 183 rfl rfl
theorem w_ly_X7_8 : u_lay RX7 TX7 8 ∈ mm_tbl := mm_in4 185 rfl rfl
theorem w_ly_X7_9 : u_lay RX7 TX7 9 ∈ mm_tbl := mm_in4 187 rfl rfl
theorem w_ly_X7_10 : u_lay RX7 TX7 10 ∈ mm_tbl := mm_in4 189 rfl rfl
theorem w_ly_X7_11 : u_lay RX7 TX7 11 ∈ mm_tbl := mm_in4 191 rfl rfl
theorem w_ly_X7_12 : u_lay RX7 TX7 12 ∈ mm_tbl := mm_in4 193 rfl rfl
theorem w_ly_X7_13 : u_lay RX7 TX7 13 ∈ mm_tbl := mm_in4 195 rfl rfl
theorem w_ly_X7_14 : u_lay RX7 TX7 14 ∈ mm_tbl := mm_in4 197 rfl rfl
theorem w_ly_X7_15 : u_lay RX7 TX7 15 ∈ mm_tbl := mm_in4 199 rfl rfl
theorem w_ly_X7_16 : u_lay RX7 TX7 16 ∈ mm_tbl := mm_in4 201 rfl rfl
theorem w_ly_X7_17 : u_lay RX7 TX7 17 ∈ mm_tbl := mm_in4 203 rfl rfl
theorem w_ly_X7_18 : u_lay RX7 TX7 18 ∈ mm_tbl := mm_in4 205 rfl rfl
theorem w_ly_X7_19 : u_lay RX7 TX7 19 ∈ mm_tbl := mm_in4 207 rfl rfl
theorem w_ly_X7_20 : u_lay RX7 TX7 20 ∈ mm_tbl := mm_in4 209 rfl rfl
theorem w_ly_X7_21 : u_lay RX7 TX7 21 ∈ mm_tbl := mm_in4 211 rfl rfl
theorem w_ly_X7_22 : u_lay RX7 TX7 22 ∈ mm_tbl := mm_in4 213 rfl rfl
theorem w_ly_X7_23 : u_lay RX7 TX7 23 ∈ mm_tbl := mm_in4 215 rfl rfl
theorem w_ly_X7_24 : u_lay RX7 TX7 24 ∈ mm_tbl := mm_in4 217 rfl rfl
theorem w_ly_X7_25 : u_lay RX7 TX7 25 ∈ mm_tbl := mm_in4 219 rfl rfl
theorem w_ly_X7_26 : u_lay RX7 TX7 26 ∈ mm_tbl := mm_in4 221 rfl rfl
theorem iw7 : ∀ w ∈ u_ws RX7 TX7 27, w ∈ mm_tbl := by
  intro w hw
  obtain ⟨k, hk, rfl⟩ := List.mem_map.mp hw
  have hk := List.mem_range.mp hk
  match k, hk with
  | 0, _ => exact w_ly_X7_0
  | 1, _ => exact w_ly_X7_1
  | 2, _ => exact w_ly_X7_2
  | 3, _ => exact w_ly_X7_3
  | 4, _ => exact w_ly_X7_4
  | 5, _ => exact w_ly_X7_5
  | 6, _ => exact w_ly_X7_6
  | 7, _ => exact w_ly_X7_7
  | 8, _ => exact w_ly_X7_8
  | 9, _ => exact w_ly_X7_9
  | 10, _ => exact w_ly_X7_10
  | 11, _ => exact w_ly_X7_11
  | 12, _ => exact w_ly_X7_12
  | 13, _ => exact w_ly_X7_13
  | 14, _ => exact w_ly_X7_14
  | 15, _ => exact w_ly_X7_15
  | 16, _ => exact w_ly_X7_16
  | 17, _ => exact w_ly_X7_17
  | 18, _ => exact w_ly_X7_18
  | 19, _ => exact w_ly_X7_19
  | 20, _ => exact w_ly_X7_20
  | 21, _ => exact w_ly_X7_21
  | 22, _ => exact w_ly_X7_22
  | 23, _ => exact w_ly_X7_23
  | 24, _ => exact w_ly_X7_24
  | 25, _ => exact w_ly_X7_25
  | 26, _ => exact w_ly_X7_26
  | k + 27, h => omega
theorem w_max1 : Cond.static Lib.Math.max.name ∈ mm_tbl := mm_in3 70 rfl rfl
theorem w_max2 : Cond.code Lib.Math.max.name Lib.Math.max.code 2 (some .int) ∈ mm_tbl := mm_in3 71 rfl rfl
theorem w_min1 : Cond.static Lib.Math.min.name ∈ mm_tbl := mm_in3 73 rfl rfl
theorem w_min2 : Cond.code Lib.Math.min.name Lib.Math.min.code 2 (some .int) ∈ mm_tbl := mm_in3 74 rfl rfl
theorem w_math : Cond.initialized "java/lang/Math" ∈ mm_tbl := mm_in1 15 rfl rfl
theorem w_ac1 : Cond.native arraycopyName ∈ mm_tbl := mm_in2 65 rfl rfl
theorem w_ac2 : Cond.static arraycopyName ∈ mm_tbl := mm_in2 64 rfl rfl
theorem w_sys : Cond.initialized "java/lang/System" ∈ mm_tbl := mm_in1 10 rfl rfl
theorem w_cd_X0_copyFrom : Cond.code yX0_copyFrom cX0_copyFrom 2 none ∈ mm_tbl := mm_in2 62 rfl rfl
theorem w_in_X0 : Cond.initialized RX0 ∈ mm_tbl := mm_in1 2 rfl rfl
theorem w_cd_J7_fill_53178 : Cond.code yJ7_fill_53178 cJ7_fill_53178 4 none ∈ mm_tbl := mm_in1 36 rfl rfl
theorem w_in_J7 : Cond.initialized RJ7 ∈ mm_tbl := mm_in1 3 rfl rfl
theorem w_cd_X0_beginAnew : Cond.code yX0_beginAnew cX0_beginAnew 2 none ∈ mm_tbl := mm_in2 171 rfl rfl
theorem w_cd_X0_hasSlot : Cond.code yX0_hasSlot cX0_hasSlot 2 (some .boolean) ∈ mm_tbl := mm_in2 184 rfl rfl
theorem w_cd_X0_hasBus : Cond.code yX0_hasBus cX0_hasBus 2 (some .boolean) ∈ mm_tbl := mm_in3 39 rfl rfl
theorem w_cd_X0_hasCurve : Cond.code yX0_hasCurve cX0_hasCurve 2 (some .boolean) ∈ mm_tbl := mm_in3 94 rfl rfl
theorem w_cd_X0_fact : Cond.code yX0_fact cX0_fact 3 (some .int) ∈ mm_tbl := mm_in3 51 rfl rfl
theorem w_cd_X0_hasLevel : Cond.code yX0_hasLevel cX0_hasLevel 3 (some .boolean) ∈ mm_tbl := mm_in3 102 rfl rfl
theorem w_cd_X0_isThere : Cond.code yX0_isThere cX0_isThere 3 (some .boolean) ∈ mm_tbl := mm_in3 63 rfl rfl
theorem w_cd_X0_settingCanBe : Cond.code yX0_settingCanBe cX0_settingCanBe 2 (some .boolean) ∈ mm_tbl := mm_in2 198 rfl rfl
theorem w_cd_X0_changeSetting : Cond.code yX0_changeSetting cX0_changeSetting 3 (some .boolean) ∈ mm_tbl := mm_in2 195 rfl rfl
theorem w_cd_X0_changePrice : Cond.code yX0_changePrice cX0_changePrice 3 (some .boolean) ∈ mm_tbl := mm_in2 180 rfl rfl
theorem w_cd_X0_leastOffer : Cond.code yX0_leastOffer cX0_leastOffer 2 (some .int) ∈ mm_tbl := mm_in2 219 rfl rfl
theorem w_cd_X0_mostOffer : Cond.code yX0_mostOffer cX0_mostOffer 2 (some .int) ∈ mm_tbl := mm_in2 223 rfl rfl
theorem w_cd_X0_offer : Cond.code yX0_offer cX0_offer 3 (some .boolean) ∈ mm_tbl := mm_in2 227 rfl rfl
theorem w_cd_X0_addOffered : Cond.code yX0_addOffered cX0_addOffered 1 none ∈ mm_tbl := mm_in2 233 rfl rfl
theorem w_cd_X0_removeLast : Cond.code yX0_removeLast cX0_removeLast 2 none ∈ mm_tbl := mm_in3 30 rfl rfl
theorem w_cd_X0_addPiece : Cond.code yX0_addPiece cX0_addPiece 5 none ∈ mm_tbl := mm_in2 210 rfl rfl
theorem w_cd_X0_gain : Cond.code yX0_gain cX0_gain 8 (some .int) ∈ mm_tbl := mm_in3 68 rfl rfl
theorem w_cd_X0_fewestCharges : Cond.code yX0_fewestCharges cX0_fewestCharges 6 (some .int) ∈ mm_tbl := mm_in3 113 rfl rfl
theorem w_cd_X0_topRate : Cond.code yX0_topRate cX0_topRate 4 (some .int) ∈ mm_tbl := mm_in4 16 rfl rfl
theorem w_cd_X1_levelAt : Cond.code yX1_levelAt cX1_levelAt 3 (some .int) ∈ mm_tbl := mm_in3 59 rfl rfl
theorem w_in_X1 : Cond.initialized RX1 ∈ mm_tbl := mm_in1 6 rfl rfl
theorem w_cd_X1_chargeSlot : Cond.code yX1_chargeSlot cX1_chargeSlot 8 (some .int) ∈ mm_tbl := mm_in3 55 rfl rfl
theorem w_cd_X1_lackOf : Cond.code yX1_lackOf cX1_lackOf 3 (some .int) ∈ mm_tbl := mm_in3 81 rfl rfl
theorem w_cd_X1_weigh : Cond.code yX1_weigh cX1_weigh 4 none ∈ mm_tbl := mm_in3 47 rfl rfl
theorem w_cd_X1_figure : Cond.code yX1_figure cX1_figure 2 (some .int) ∈ mm_tbl := mm_in3 146 rfl rfl
theorem w_cd_X1_holdsAbsent : Cond.code yX1_holdsAbsent cX1_holdsAbsent 4 (some .boolean) ∈ mm_tbl := mm_in3 142 rfl rfl
theorem w_cd_X1_slotIsWrong : Cond.code yX1_slotIsWrong cX1_slotIsWrong 5 (some .boolean) ∈ mm_tbl := mm_in3 139 rfl rfl
theorem w_cd_X1_wrongness : Cond.code yX1_wrongness cX1_wrongness 5 (some .int) ∈ mm_tbl := mm_in3 135 rfl rfl
theorem w_cd_X2_lookAt : Cond.code yX2_lookAt cX2_lookAt 3 none ∈ mm_tbl := mm_in3 163 rfl rfl
theorem w_in_X2 : Cond.initialized RX2 ∈ mm_tbl := mm_in1 7 rfl rfl
theorem w_cd_X2_trace : Cond.code yX2_trace cX2_trace 6 none ∈ mm_tbl := mm_in3 177 rfl rfl
theorem w_cd_X2_traceAll : Cond.code yX2_traceAll cX2_traceAll 4 none ∈ mm_tbl := mm_in3 173 rfl rfl
theorem w_cd_X2_mayBeReady : Cond.code yX2_mayBeReady cX2_mayBeReady 5 (some .boolean) ∈ mm_tbl := mm_in3 183 rfl rfl
theorem w_cd_X2_spread : Cond.code yX2_spread cX2_spread 8 (some .int) ∈ mm_tbl := mm_in3 191 rfl rfl
theorem w_cd_X2_lackHere : Cond.code yX2_lackHere cX2_lackHere 3 (some .int) ∈ mm_tbl := mm_in3 196 rfl rfl
theorem w_cd_X2_nextState : Cond.code yX2_nextState cX2_nextState 2 none ∈ mm_tbl := mm_in3 202 rfl rfl
theorem w_cd_X2_settle : Cond.code yX2_settle cX2_settle 14 none ∈ mm_tbl := mm_in3 206 rfl rfl
theorem w_cd_X2_weighStates : Cond.code yX2_weighStates cX2_weighStates 6 (some .boolean) ∈ mm_tbl := mm_in3 187 rfl rfl
theorem w_cd_X2_costIfReady : Cond.code yX2_costIfReady cX2_costIfReady 1 (some .int) ∈ mm_tbl := mm_in3 230 rfl rfl
theorem w_cd_X2_findPlan : Cond.code yX2_findPlan cX2_findPlan 4 none ∈ mm_tbl := mm_in3 169 rfl rfl
theorem w_cd_X5_isDigit : Cond.code yX5_isDigit cX5_isDigit 2 (some .boolean) ∈ mm_tbl := mm_in2 81 rfl rfl
theorem w_in_X5 : Cond.initialized RX5 ∈ mm_tbl := mm_in1 4 rfl rfl
theorem w_cd_X5_readNumber : Cond.code yX5_readNumber cX5_readNumber 1 none ∈ mm_tbl := mm_in2 85 rfl rfl
theorem w_cd_X5_isLetter : Cond.code yX5_isLetter cX5_isLetter 2 (some .boolean) ∈ mm_tbl := mm_in2 89 rfl rfl
theorem w_cd_X5_readWord : Cond.code yX5_readWord cX5_readWord 1 none ∈ mm_tbl := mm_in2 93 rfl rfl
theorem w_cd_X5_step : Cond.code yX5_step cX5_step 1 none ∈ mm_tbl := mm_in2 77 rfl rfl
theorem w_cd_X5_rewind : Cond.code yX5_rewind cX5_rewind 1 none ∈ mm_tbl := mm_in2 73 rfl rfl
theorem w_cd_X5_isWord : Cond.code yX5_isWord cX5_isWord 3 (some .boolean) ∈ mm_tbl := mm_in2 102 rfl rfl
theorem w_cd_X3_blame : Cond.code yX3_blame cX3_blame 2 none ∈ mm_tbl := mm_in2 167 rfl rfl
theorem w_in_X3 : Cond.initialized RX3 ∈ mm_tbl := mm_in1 5 rfl rfl
theorem w_cd_X3_numberIsWithin : Cond.code yX3_numberIsWithin cX3_numberIsWithin 3 (some .boolean) ∈ mm_tbl := mm_in2 163 rfl rfl
theorem w_cd_X3_readNumber : Cond.code yX3_readNumber cX3_readNumber 4 (some .int) ∈ mm_tbl := mm_in2 159 rfl rfl
theorem w_cd_X3_readSlots : Cond.code yX3_readSlots cX3_readSlots 3 none ∈ mm_tbl := mm_in2 154 rfl rfl
theorem w_cd_X3_readPrice : Cond.code yX3_readPrice cX3_readPrice 4 none ∈ mm_tbl := mm_in2 176 rfl rfl
theorem w_cd_X3_readSetting : Cond.code yX3_readSetting cX3_readSetting 4 none ∈ mm_tbl := mm_in2 189 rfl rfl
theorem w_cd_X3_readCurve : Cond.code yX3_readCurve cX3_readCurve 8 none ∈ mm_tbl := mm_in2 206 rfl rfl
theorem w_cd_X3_readBus : Cond.code yX3_readBus cX3_readBus 4 none ∈ mm_tbl := mm_in2 215 rfl rfl
theorem w_cd_X3_readCharge : Cond.code yX3_readCharge cX3_readCharge 6 none ∈ mm_tbl := mm_in2 238 rfl rfl
theorem w_cd_X5_isSemicolon : Cond.code yX5_isSemicolon cX5_isSemicolon 1 (some .boolean) ∈ mm_tbl := mm_in3 6 rfl rfl
theorem w_cd_X3_readSemicolon : Cond.code yX3_readSemicolon cX3_readSemicolon 1 none ∈ mm_tbl := mm_in3 2 rfl rfl
theorem w_cd_X3_readStatement : Cond.code yX3_readStatement cX3_readStatement 2 none ∈ mm_tbl := mm_in2 97 rfl rfl
theorem w_cd_X3_readInto : Cond.code yX3_readInto cX3_readInto 3 (some .int) ∈ mm_tbl := mm_in2 69 rfl rfl
theorem w_cd_X4_rankOf : Cond.code yX4_rankOf cX4_rankOf 6 (some .int) ∈ mm_tbl := mm_in4 45 rfl rfl
theorem w_in_X4 : Cond.initialized RX4 ∈ mm_tbl := mm_in1 8 rfl rfl
theorem w_cd_X4_firstOf : Cond.code yX4_firstOf cX4_firstOf 4 (some .int) ∈ mm_tbl := mm_in4 51 rfl rfl
theorem w_cd_X4_chargeSlot : Cond.code yX4_chargeSlot cX4_chargeSlot 10 (some .int) ∈ mm_tbl := mm_in4 40 rfl rfl
theorem w_cd_X4_make : Cond.code yX4_make cX4_make 4 none ∈ mm_tbl := mm_in4 35 rfl rfl
theorem w_cd_X5_append : Cond.code yX5_append cX5_append 3 none ∈ mm_tbl := mm_in2 50 rfl rfl
theorem w_cd_X6_feed : Cond.code yX6_feed cX6_feed 6 (some .int) ∈ mm_tbl := mm_in2 46 rfl rfl
theorem w_in_X6 : Cond.initialized RX6 ∈ mm_tbl := mm_in1 1 rfl rfl
theorem w_cd_X6_end : Cond.code yX6_end cX6_end 2 (some .boolean) ∈ mm_tbl := mm_in2 54 rfl rfl
theorem w_cd_X6_tell : Cond.code yX6_tell cX6_tell 3 (some .int) ∈ mm_tbl := mm_in2 58 rfl rfl
theorem w_cd_X6_fault : Cond.code yX6_fault cX6_fault 1 (some .int) ∈ mm_tbl := mm_in3 10 rfl rfl
theorem w_cd_X6_set : Cond.code yX6_set cX6_set 4 (some .boolean) ∈ mm_tbl := mm_in3 14 rfl rfl
theorem w_cd_X6_bus : Cond.code yX6_bus cX6_bus 8 (some .int) ∈ mm_tbl := mm_in3 20 rfl rfl
theorem w_cd_X6_drop : Cond.code yX6_drop cX6_drop 1 (some .int) ∈ mm_tbl := mm_in3 26 rfl rfl
theorem w_cd_X6_charge : Cond.code yX6_charge cX6_charge 5 (some .boolean) ∈ mm_tbl := mm_in3 34 rfl rfl
theorem w_cd_X6_clear : Cond.code yX6_clear cX6_clear 1 (some .int) ∈ mm_tbl := mm_in3 43 rfl rfl
theorem w_cd_X6_count : Cond.code yX6_count cX6_count 2 (some .int) ∈ mm_tbl := mm_in3 86 rfl rfl
theorem w_cd_X6_curve : Cond.code yX6_curve cX6_curve 4 (some .int) ∈ mm_tbl := mm_in3 90 rfl rfl
theorem w_cd_X6_takes : Cond.code yX6_takes cX6_takes 3 (some .int) ∈ mm_tbl := mm_in3 98 rfl rfl
theorem w_cd_X6_slots : Cond.code yX6_slots cX6_slots 4 (some .int) ∈ mm_tbl := mm_in3 108 rfl rfl
theorem w_cd_X6_plan : Cond.code yX6_plan cX6_plan 2 (some .int) ∈ mm_tbl := mm_in3 118 rfl rfl
theorem w_cd_X6_level : Cond.code yX6_level cX6_level 3 (some .int) ∈ mm_tbl := mm_in3 122 rfl rfl
theorem w_cd_X6_used : Cond.code yX6_used cX6_used 2 (some .int) ∈ mm_tbl := mm_in3 127 rfl rfl
theorem w_cd_X6_sum : Cond.code yX6_sum cX6_sum 2 (some .int) ∈ mm_tbl := mm_in3 131 rfl rfl
theorem w_cd_X6_lack : Cond.code yX6_lack cX6_lack 2 (some .int) ∈ mm_tbl := mm_in3 150 rfl rfl
theorem w_cd_X6_findBest : Cond.code yX6_findBest cX6_findBest 1 none ∈ mm_tbl := mm_in3 159 rfl rfl
theorem w_cd_X6_best : Cond.code yX6_best cX6_best 2 (some .int) ∈ mm_tbl := mm_in3 155 rfl rfl
theorem w_cd_X6_adopt : Cond.code yX6_adopt cX6_adopt 3 (some .int) ∈ mm_tbl := mm_in3 218 rfl rfl
theorem w_cd_X6_take : Cond.code yX6_take cX6_take 1 (some .int) ∈ mm_tbl := mm_in3 214 rfl rfl
theorem w_cd_X6_costIfLate : Cond.code yX6_costIfLate cX6_costIfLate 3 (some .int) ∈ mm_tbl := mm_in3 226 rfl rfl
theorem w_cd_X6_late : Cond.code yX6_late cX6_late 3 (some .int) ∈ mm_tbl := mm_in3 222 rfl rfl
theorem w_cd_X6_latest : Cond.code yX6_latest cX6_latest 3 (some .int) ∈ mm_tbl := mm_in3 234 rfl rfl
theorem w_cd_X6_costIfSet : Cond.code yX6_costIfSet cX6_costIfSet 3 (some .int) ∈ mm_tbl := mm_in4 3 rfl rfl
theorem w_cd_X6_were : Cond.code yX6_were cX6_were 3 (some .int) ∈ mm_tbl := mm_in3 238 rfl rfl
theorem w_cd_X6_firstReady : Cond.code yX6_firstReady cX6_firstReady 4 (some .int) ∈ mm_tbl := mm_in4 12 rfl rfl
theorem w_cd_X6_leastLimit : Cond.code yX6_leastLimit cX6_leastLimit 5 (some .int) ∈ mm_tbl := mm_in4 20 rfl rfl
theorem w_cd_X6_least : Cond.code yX6_least cX6_least 2 (some .int) ∈ mm_tbl := mm_in4 7 rfl rfl
theorem w_cd_X6_without : Cond.code yX6_without cX6_without 2 (some .int) ∈ mm_tbl := mm_in4 24 rfl rfl
theorem w_cd_X6_isRule : Cond.code yX6_isRule cX6_isRule 1 (some .boolean) ∈ mm_tbl := mm_in4 31 rfl rfl
theorem w_cd_X6_rule : Cond.code yX6_rule cX6_rule 3 (some .int) ∈ mm_tbl := mm_in4 28 rfl rfl
theorem w_cd_X6_takeRule : Cond.code yX6_takeRule cX6_takeRule 2 (some .int) ∈ mm_tbl := mm_in4 57 rfl rfl
theorem w_cd_X6_bestRule : Cond.code yX6_bestRule cX6_bestRule 6 (some .int) ∈ mm_tbl := mm_in4 61 rfl rfl
theorem w_cd_X7_thrown : Cond.code yX7_thrown cX7_thrown 1 (some .int) ∈ mm_tbl := mm_in4 227 rfl rfl
theorem w_in_X7 : Cond.initialized RX7 ∈ mm_tbl := mm_in1 9 rfl rfl
theorem w_cd_X7_in : Cond.code yX7_in cX7_in 3 (some .boolean) ∈ mm_tbl := mm_in5 2 rfl rfl
theorem w_cd_X7_has : Cond.code yX7_has cX7_has 2 (some .boolean) ∈ mm_tbl := mm_in5 80 rfl rfl
theorem w_cd_X7_bits : Cond.code yX7_bits cX7_bits 3 (some .int) ∈ mm_tbl := mm_in5 122 rfl rfl
theorem w_cd_X7_of : Cond.code yX7_of cX7_of 3 (some .int) ∈ mm_tbl := mm_in5 134 rfl rfl
theorem w_cd_X7_isBus : Cond.code yX7_isBus cX7_isBus 2 (some .boolean) ∈ mm_tbl := mm_in5 111 rfl rfl
theorem w_cd_X7_isSlot : Cond.code yX7_isSlot cX7_isSlot 2 (some .boolean) ∈ mm_tbl := mm_in5 107 rfl rfl
theorem w_cd_X7_four : Cond.code yX7_four cX7_four 3 none ∈ mm_tbl := mm_in4 235 rfl rfl
theorem w_cd_X7_feed : Cond.code yX7_feed cX7_feed 6 (some .int) ∈ mm_tbl := mm_in4 231 rfl rfl
theorem w_cd_X7_end : Cond.code yX7_end cX7_end 2 (some .boolean) ∈ mm_tbl := mm_in4 239 rfl rfl
theorem w_cd_X7_here : Cond.code yX7_here cX7_here 1 (some .int) ∈ mm_tbl := mm_in5 18 rfl rfl
theorem w_cd_X7_fails : Cond.code yX7_fails cX7_fails 3 (some .boolean) ∈ mm_tbl := mm_in5 26 rfl rfl
theorem w_cd_X7_isNumber : Cond.code yX7_isNumber cX7_isNumber 1 (some .boolean) ∈ mm_tbl := mm_in5 50 rfl rfl
theorem w_cd_X7_readPlain : Cond.code yX7_readPlain cX7_readPlain 1 (some .boolean) ∈ mm_tbl := mm_in5 46 rfl rfl
theorem w_cd_X7_readNumber : Cond.code yX7_readNumber cX7_readNumber 3 (some .boolean) ∈ mm_tbl := mm_in5 42 rfl rfl
theorem w_cd_X7_reads : Cond.code yX7_reads cX7_reads 4 (some .boolean) ∈ mm_tbl := mm_in5 59 rfl rfl
theorem w_cd_X7_readWord : Cond.code yX7_readWord cX7_readWord 4 (some .long) ∈ mm_tbl := mm_in5 30 rfl rfl
theorem w_cd_X7_readSlots : Cond.code yX7_readSlots cX7_readSlots 2 (some .boolean) ∈ mm_tbl := mm_in5 38 rfl rfl
theorem w_cd_X7_readPrice : Cond.code yX7_readPrice cX7_readPrice 1 (some .boolean) ∈ mm_tbl := mm_in5 55 rfl rfl
theorem w_cd_X7_readCurve : Cond.code yX7_readCurve cX7_readCurve 6 (some .boolean) ∈ mm_tbl := mm_in5 67 rfl rfl
theorem w_cd_X7_readBus : Cond.code yX7_readBus cX7_readBus 3 (some .boolean) ∈ mm_tbl := mm_in5 72 rfl rfl
theorem w_cd_X7_readCharge : Cond.code yX7_readCharge cX7_readCharge 3 (some .boolean) ∈ mm_tbl := mm_in5 77 rfl rfl
theorem w_cd_X7_readStatement : Cond.code yX7_readStatement cX7_readStatement 4 (some .boolean) ∈ mm_tbl := mm_in5 22 rfl rfl
theorem w_cd_X7_readText : Cond.code yX7_readText cX7_readText 1 (some .boolean) ∈ mm_tbl := mm_in5 14 rfl rfl
theorem w_cd_X7_copies : Cond.code yX7_copies cX7_copies 3 none ∈ mm_tbl := mm_in5 10 rfl rfl
theorem w_cd_X7_tell : Cond.code yX7_tell cX7_tell 2 (some .int) ∈ mm_tbl := mm_in5 6 rfl rfl
theorem w_cd_X7_fault : Cond.code yX7_fault cX7_fault 1 (some .int) ∈ mm_tbl := mm_in5 84 rfl rfl
theorem w_cd_X7_mostOf : Cond.code yX7_mostOf cX7_mostOf 1 (some .int) ∈ mm_tbl := mm_in5 91 rfl rfl
theorem w_cd_X7_set : Cond.code yX7_set cX7_set 5 (some .boolean) ∈ mm_tbl := mm_in5 88 rfl rfl
theorem w_cd_X7_bus : Cond.code yX7_bus cX7_bus 8 (some .int) ∈ mm_tbl := mm_in5 95 rfl rfl
theorem w_cd_X7_drop : Cond.code yX7_drop cX7_drop 2 (some .int) ∈ mm_tbl := mm_in5 99 rfl rfl
theorem w_cd_X7_charge : Cond.code yX7_charge cX7_charge 4 (some .boolean) ∈ mm_tbl := mm_in5 103 rfl rfl
theorem w_cd_X7_chargesOf : Cond.code yX7_chargesOf cX7_chargesOf 3 (some .int) ∈ mm_tbl := mm_in5 119 rfl rfl
theorem w_cd_X7_clear : Cond.code yX7_clear cX7_clear 3 (some .int) ∈ mm_tbl := mm_in5 115 rfl rfl
theorem w_cd_X7_count : Cond.code yX7_count cX7_count 2 (some .int) ∈ mm_tbl := mm_in5 126 rfl rfl
theorem w_cd_X7_told : Cond.code yX7_told cX7_told 3 (some .int) ∈ mm_tbl := mm_in5 130 rfl rfl
theorem w_cd_X7_curve : Cond.code yX7_curve cX7_curve 5 (some .int) ∈ mm_tbl := mm_in5 138 rfl rfl
theorem w_cd_X7_less : Cond.code yX7_less cX7_less 2 (some .int) ∈ mm_tbl := mm_in5 153 rfl rfl
theorem w_cd_X7_takesOf : Cond.code yX7_takesOf cX7_takesOf 5 (some .int) ∈ mm_tbl := mm_in5 150 rfl rfl
theorem w_cd_X7_slotsOf : Cond.code yX7_slotsOf cX7_slotsOf 6 (some .int) ∈ mm_tbl := mm_in5 161 rfl rfl
theorem w_cd_X7_asTold : Cond.code yX7_asTold cX7_asTold 2 none ∈ mm_tbl := mm_in5 146 rfl rfl
theorem w_cd_X7_takes : Cond.code yX7_takes cX7_takes 3 (some .int) ∈ mm_tbl := mm_in5 142 rfl rfl
theorem w_cd_X7_slots : Cond.code yX7_slots cX7_slots 4 (some .int) ∈ mm_tbl := mm_in5 157 rfl rfl
theorem w_cd_X7_isThere : Cond.code yX7_isThere cX7_isThere 3 (some .boolean) ∈ mm_tbl := mm_in5 181 rfl rfl
theorem w_cd_X7_goes : Cond.code yX7_goes cX7_goes 4 none ∈ mm_tbl := mm_in5 177 rfl rfl
theorem w_cd_X7_goesByTold : Cond.code yX7_goesByTold cX7_goesByTold 2 none ∈ mm_tbl := mm_in5 173 rfl rfl
theorem w_cd_X7_lackOf : Cond.code yX7_lackOf cX7_lackOf 3 (some .int) ∈ mm_tbl := mm_in5 201 rfl rfl
theorem w_cd_X7_sumOf : Cond.code yX7_sumOf cX7_sumOf 4 (some .int) ∈ mm_tbl := mm_in5 205 rfl rfl
theorem w_cd_X7_isAllThere : Cond.code yX7_isAllThere cX7_isAllThere 3 (some .boolean) ∈ mm_tbl := mm_in5 197 rfl rfl
theorem w_cd_X7_wrongOf : Cond.code yX7_wrongOf cX7_wrongOf 4 (some .int) ∈ mm_tbl := mm_in5 193 rfl rfl
theorem w_cd_X7_plan : Cond.code yX7_plan cX7_plan 2 (some .int) ∈ mm_tbl := mm_in5 165 rfl rfl
theorem w_cd_X7_level : Cond.code yX7_level cX7_level 3 (some .int) ∈ mm_tbl := mm_in5 169 rfl rfl
theorem w_cd_X7_used : Cond.code yX7_used cX7_used 2 (some .int) ∈ mm_tbl := mm_in5 185 rfl rfl
theorem w_cd_X7_sum : Cond.code yX7_sum cX7_sum 2 (some .int) ∈ mm_tbl := mm_in5 189 rfl rfl
theorem w_cd_X7_lack : Cond.code yX7_lack cX7_lack 2 (some .int) ∈ mm_tbl := mm_in5 209 rfl rfl
theorem w_cd_X7_countOf : Cond.code yX7_countOf cX7_countOf 2 (some .int) ∈ mm_tbl := mm_in5 228 rfl rfl
theorem w_cd_X7_laysFull : Cond.code yX7_laysFull cX7_laysFull 3 none ∈ mm_tbl := mm_in5 221 rfl rfl
theorem w_cd_X7_mayBe : Cond.code yX7_mayBe cX7_mayBe 5 (some .boolean) ∈ mm_tbl := mm_in5 225 rfl rfl
theorem w_cd_X7_laysEnd : Cond.code yX7_laysEnd cX7_laysEnd 5 none ∈ mm_tbl := mm_in5 232 rfl rfl
theorem w_cd_X7_taken : Cond.code yX7_taken cX7_taken 7 (some .int) ∈ mm_tbl := mm_in6 0 rfl rfl
theorem w_cd_X7_behind : Cond.code yX7_behind cX7_behind 5 (some .int) ∈ mm_tbl := mm_in6 4 rfl rfl
theorem w_cd_X7_laysSlot : Cond.code yX7_laysSlot cX7_laysSlot 11 none ∈ mm_tbl := mm_in5 236 rfl rfl
theorem w_cd_X7_finds : Cond.code yX7_finds cX7_finds 3 none ∈ mm_tbl := mm_in5 217 rfl rfl
theorem w_cd_X7_laysBest : Cond.code yX7_laysBest cX7_laysBest 3 none ∈ mm_tbl := mm_in6 8 rfl rfl
theorem w_cd_X7_costNow : Cond.code yX7_costNow cX7_costNow 1 (some .int) ∈ mm_tbl := mm_in6 24 rfl rfl
theorem w_cd_X7_best : Cond.code yX7_best cX7_best 2 (some .int) ∈ mm_tbl := mm_in5 213 rfl rfl
theorem w_cd_X7_stands : Cond.code yX7_stands cX7_stands 2 (some .int) ∈ mm_tbl := mm_in6 16 rfl rfl
theorem w_cd_X7_take : Cond.code yX7_take cX7_take 1 (some .int) ∈ mm_tbl := mm_in6 12 rfl rfl
theorem w_cd_X7_late : Cond.code yX7_late cX7_late 3 (some .int) ∈ mm_tbl := mm_in6 20 rfl rfl
theorem w_cd_X7_latest : Cond.code yX7_latest cX7_latest 3 (some .int) ∈ mm_tbl := mm_in6 28 rfl rfl
theorem w_cd_X7_lays : Cond.code yX7_lays cX7_lays 3 none ∈ mm_tbl := mm_in6 36 rfl rfl
theorem w_cd_X7_were : Cond.code yX7_were cX7_were 3 (some .int) ∈ mm_tbl := mm_in6 32 rfl rfl
theorem w_cd_X7_least : Cond.code yX7_least cX7_least 3 (some .int) ∈ mm_tbl := mm_in6 40 rfl rfl
theorem w_cd_X7_without : Cond.code yX7_without cX7_without 2 (some .int) ∈ mm_tbl := mm_in6 44 rfl rfl
theorem w_cd_X7_rankOf : Cond.code yX7_rankOf cX7_rankOf 5 (some .int) ∈ mm_tbl := mm_in6 60 rfl rfl
theorem w_cd_X7_setBy : Cond.code yX7_setBy cX7_setBy 8 (some .int) ∈ mm_tbl := mm_in6 56 rfl rfl
theorem w_cd_X7_rules : Cond.code yX7_rules cX7_rules 3 none ∈ mm_tbl := mm_in6 52 rfl rfl
theorem w_cd_X7_rule : Cond.code yX7_rule cX7_rule 3 (some .int) ∈ mm_tbl := mm_in6 48 rfl rfl
theorem w_cd_X7_takeRule : Cond.code yX7_takeRule cX7_takeRule 2 (some .int) ∈ mm_tbl := mm_in6 64 rfl rfl
theorem w_cd_X7_bestRule : Cond.code yX7_bestRule cX7_bestRule 5 (some .int) ∈ mm_tbl := mm_in6 68 rfl rfl
theorem q0_copyFrom : mm_cl (yX0_copyFrom, cX0_copyFrom, 2, none, 1) 1 := ⟨w_cd_X0_copyFrom, w_in_X0, by decide +kernel, by decide, by decide⟩
theorem qJ_fill_53178 : mm_cl (yJ7_fill_53178, cJ7_fill_53178, 4, none, 0) 2 := ⟨w_cd_J7_fill_53178, w_in_J7, by decide +kernel, by decide, by decide⟩
theorem q0_beginAnew : mm_cl (yX0_beginAnew, cX0_beginAnew, 2, none, 1) 1 := ⟨w_cd_X0_beginAnew, w_in_X0, by decide +kernel, by decide, by decide⟩
theorem q0_hasSlot : mm_cl (yX0_hasSlot, cX0_hasSlot, 2, (some .boolean), 0) 1 := ⟨w_cd_X0_hasSlot, w_in_X0, by decide +kernel, by decide, by decide⟩
theorem q0_hasBus : mm_cl (yX0_hasBus, cX0_hasBus, 2, (some .boolean), 0) 1 := ⟨w_cd_X0_hasBus, w_in_X0, by decide +kernel, by decide, by decide⟩
theorem q0_hasCurve : mm_cl (yX0_hasCurve, cX0_hasCurve, 2, (some .boolean), 0) 1 := ⟨w_cd_X0_hasCurve, w_in_X0, by decide +kernel, by decide, by decide⟩
theorem q0_fact : mm_cl (yX0_fact, cX0_fact, 3, (some .int), 0) 2 := ⟨w_cd_X0_fact, w_in_X0, by decide +kernel, by decide, by decide⟩
theorem q0_hasLevel : mm_cl (yX0_hasLevel, cX0_hasLevel, 3, (some .boolean), 1) 2 := ⟨w_cd_X0_hasLevel, w_in_X0, by decide +kernel, by decide, by decide⟩
theorem q0_isThere : mm_cl (yX0_isThere, cX0_isThere, 3, (some .boolean), 1) 2 := ⟨w_cd_X0_isThere, w_in_X0, by decide +kernel, by decide, by decide⟩
theorem q0_settingCanBe : mm_cl (yX0_settingCanBe, cX0_settingCanBe, 2, (some .boolean), 0) 2 := ⟨w_cd_X0_settingCanBe, w_in_X0, by decide +kernel, by decide, by decide⟩
theorem q0_changeSetting : mm_cl (yX0_changeSetting, cX0_changeSetting, 3, (some .boolean), 1) 2 := ⟨w_cd_X0_changeSetting, w_in_X0, by decide +kernel, by decide, by decide⟩
theorem q0_changePrice : mm_cl (yX0_changePrice, cX0_changePrice, 3, (some .boolean), 1) 2 := ⟨w_cd_X0_changePrice, w_in_X0, by decide +kernel, by decide, by decide⟩
theorem q0_leastOffer : mm_cl (yX0_leastOffer, cX0_leastOffer, 2, (some .int), 0) 1 := ⟨w_cd_X0_leastOffer, w_in_X0, by decide +kernel, by decide, by decide⟩
theorem q0_mostOffer : mm_cl (yX0_mostOffer, cX0_mostOffer, 2, (some .int), 0) 1 := ⟨w_cd_X0_mostOffer, w_in_X0, by decide +kernel, by decide, by decide⟩
theorem q0_offer : mm_cl (yX0_offer, cX0_offer, 3, (some .boolean), 1) 2 := ⟨w_cd_X0_offer, w_in_X0, by decide +kernel, by decide, by decide⟩
theorem q0_addOffered : mm_cl (yX0_addOffered, cX0_addOffered, 1, none, 1) 0 := ⟨w_cd_X0_addOffered, w_in_X0, by decide +kernel, by decide, by decide⟩
theorem q0_removeLast : mm_cl (yX0_removeLast, cX0_removeLast, 2, none, 0) 0 := ⟨w_cd_X0_removeLast, w_in_X0, by decide +kernel, by decide, by decide⟩
theorem q0_addPiece : mm_cl (yX0_addPiece, cX0_addPiece, 5, none, 0) 3 := ⟨w_cd_X0_addPiece, w_in_X0, by decide +kernel, by decide, by decide⟩
theorem q0_gain : mm_cl (yX0_gain, cX0_gain, 8, (some .int), 1) 3 := ⟨w_cd_X0_gain, w_in_X0, by decide +kernel, by decide, by decide⟩
theorem q0_fewestCharges : mm_cl (yX0_fewestCharges, cX0_fewestCharges, 6, (some .int), 2) 3 := ⟨w_cd_X0_fewestCharges, w_in_X0, by decide +kernel, by decide, by decide⟩
theorem q0_topRate : mm_cl (yX0_topRate, cX0_topRate, 4, (some .int), 1) 0 := ⟨w_cd_X0_topRate, w_in_X0, by decide +kernel, by decide, by decide⟩
theorem q1_levelAt : mm_cl (yX1_levelAt, cX1_levelAt, 3, (some .int), 0) 2 := ⟨w_cd_X1_levelAt, w_in_X1, by decide +kernel, by decide, by decide⟩
theorem q1_chargeSlot : mm_cl (yX1_chargeSlot, cX1_chargeSlot, 8, (some .int), 2) 3 := ⟨w_cd_X1_chargeSlot, w_in_X1, by decide +kernel, by decide, by decide⟩
theorem q1_lackOf : mm_cl (yX1_lackOf, cX1_lackOf, 3, (some .int), 1) 2 := ⟨w_cd_X1_lackOf, w_in_X1, by decide +kernel, by decide, by decide⟩
theorem q1_weigh : mm_cl (yX1_weigh, cX1_weigh, 4, none, 3) 2 := ⟨w_cd_X1_weigh, w_in_X1, by decide +kernel, by decide, by decide⟩
theorem q1_figure : mm_cl (yX1_figure, cX1_figure, 2, (some .int), 0) 1 := ⟨w_cd_X1_figure, w_in_X1, by decide +kernel, by decide, by decide⟩
theorem q1_holdsAbsent : mm_cl (yX1_holdsAbsent, cX1_holdsAbsent, 4, (some .boolean), 2) 3 := ⟨w_cd_X1_holdsAbsent, w_in_X1, by decide +kernel, by decide, by decide⟩
theorem q1_slotIsWrong : mm_cl (yX1_slotIsWrong, cX1_slotIsWrong, 5, (some .boolean), 3) 4 := ⟨w_cd_X1_slotIsWrong, w_in_X1, by decide +kernel, by decide, by decide⟩
theorem q1_wrongness : mm_cl (yX1_wrongness, cX1_wrongness, 5, (some .int), 4) 2 := ⟨w_cd_X1_wrongness, w_in_X1, by decide +kernel, by decide, by decide⟩
theorem q2_lookAt : mm_cl (yX2_lookAt, cX2_lookAt, 3, none, 1) 1 := ⟨w_cd_X2_lookAt, w_in_X2, by decide +kernel, by decide, by decide⟩
theorem q2_trace : mm_cl (yX2_trace, cX2_trace, 6, none, 2) 1 := ⟨w_cd_X2_trace, w_in_X2, by decide +kernel, by decide, by decide⟩
theorem q2_traceAll : mm_cl (yX2_traceAll, cX2_traceAll, 4, none, 3) 0 := ⟨w_cd_X2_traceAll, w_in_X2, by decide +kernel, by decide, by decide⟩
theorem q2_mayBeReady : mm_cl (yX2_mayBeReady, cX2_mayBeReady, 5, (some .boolean), 0) 0 := ⟨w_cd_X2_mayBeReady, w_in_X2, by decide +kernel, by decide, by decide⟩
theorem q2_spread : mm_cl (yX2_spread, cX2_spread, 8, (some .int), 1) 2 := ⟨w_cd_X2_spread, w_in_X2, by decide +kernel, by decide, by decide⟩
theorem q2_lackHere : mm_cl (yX2_lackHere, cX2_lackHere, 3, (some .int), 0) 0 := ⟨w_cd_X2_lackHere, w_in_X2, by decide +kernel, by decide, by decide⟩
theorem q2_nextState : mm_cl (yX2_nextState, cX2_nextState, 2, none, 0) 0 := ⟨w_cd_X2_nextState, w_in_X2, by decide +kernel, by decide, by decide⟩
theorem q2_settle : mm_cl (yX2_settle, cX2_settle, 14, none, 0) 1 := ⟨w_cd_X2_settle, w_in_X2, by decide +kernel, by decide, by decide⟩
theorem q2_weighStates : mm_cl (yX2_weighStates, cX2_weighStates, 6, (some .boolean), 2) 1 := ⟨w_cd_X2_weighStates, w_in_X2, by decide +kernel, by decide, by decide⟩
theorem q2_costIfReady : mm_cl (yX2_costIfReady, cX2_costIfReady, 1, (some .int), 4) 0 := ⟨w_cd_X2_costIfReady, w_in_X2, by decide +kernel, by decide, by decide⟩
theorem q2_findPlan : mm_cl (yX2_findPlan, cX2_findPlan, 4, none, 4) 1 := ⟨w_cd_X2_findPlan, w_in_X2, by decide +kernel, by decide, by decide⟩
theorem q5_isDigit : mm_cl (yX5_isDigit, cX5_isDigit, 2, (some .boolean), 0) 1 := ⟨w_cd_X5_isDigit, w_in_X5, by decide +kernel, by decide, by decide⟩
theorem q5_readNumber : mm_cl (yX5_readNumber, cX5_readNumber, 1, none, 1) 0 := ⟨w_cd_X5_readNumber, w_in_X5, by decide +kernel, by decide, by decide⟩
theorem q5_isLetter : mm_cl (yX5_isLetter, cX5_isLetter, 2, (some .boolean), 0) 1 := ⟨w_cd_X5_isLetter, w_in_X5, by decide +kernel, by decide, by decide⟩
theorem q5_readWord : mm_cl (yX5_readWord, cX5_readWord, 1, none, 1) 0 := ⟨w_cd_X5_readWord, w_in_X5, by decide +kernel, by decide, by decide⟩
theorem q5_step : mm_cl (yX5_step, cX5_step, 1, none, 2) 0 := ⟨w_cd_X5_step, w_in_X5, by decide +kernel, by decide, by decide⟩
theorem q5_rewind : mm_cl (yX5_rewind, cX5_rewind, 1, none, 3) 0 := ⟨w_cd_X5_rewind, w_in_X5, by decide +kernel, by decide, by decide⟩
theorem q5_isWord : mm_cl (yX5_isWord, cX5_isWord, 3, (some .boolean), 4) 1 := ⟨w_cd_X5_isWord, w_in_X5, by decide +kernel, by decide, by decide⟩
theorem q3_blame : mm_cl (yX3_blame, cX3_blame, 2, none, 0) 1 := ⟨w_cd_X3_blame, w_in_X3, by decide +kernel, by decide, by decide⟩
theorem q3_numberIsWithin : mm_cl (yX3_numberIsWithin, cX3_numberIsWithin, 3, (some .boolean), 1) 2 := ⟨w_cd_X3_numberIsWithin, w_in_X3, by decide +kernel, by decide, by decide⟩
theorem q3_readNumber : mm_cl (yX3_readNumber, cX3_readNumber, 4, (some .int), 3) 2 := ⟨w_cd_X3_readNumber, w_in_X3, by decide +kernel, by decide, by decide⟩
theorem q3_readSlots : mm_cl (yX3_readSlots, cX3_readSlots, 3, none, 4) 1 := ⟨w_cd_X3_readSlots, w_in_X3, by decide +kernel, by decide, by decide⟩
theorem q3_readPrice : mm_cl (yX3_readPrice, cX3_readPrice, 4, none, 4) 1 := ⟨w_cd_X3_readPrice, w_in_X3, by decide +kernel, by decide, by decide⟩
theorem q3_readSetting : mm_cl (yX3_readSetting, cX3_readSetting, 4, none, 4) 2 := ⟨w_cd_X3_readSetting, w_in_X3, by decide +kernel, by decide, by decide⟩
theorem q3_readCurve : mm_cl (yX3_readCurve, cX3_readCurve, 8, none, 4) 1 := ⟨w_cd_X3_readCurve, w_in_X3, by decide +kernel, by decide, by decide⟩
theorem q3_readBus : mm_cl (yX3_readBus, cX3_readBus, 4, none, 4) 1 := ⟨w_cd_X3_readBus, w_in_X3, by decide +kernel, by decide, by decide⟩
theorem q3_readCharge : mm_cl (yX3_readCharge, cX3_readCharge, 6, none, 4) 1 := ⟨w_cd_X3_readCharge, w_in_X3, by decide +kernel, by decide, by decide⟩
theorem q5_isSemicolon : mm_cl (yX5_isSemicolon, cX5_isSemicolon, 1, (some .boolean), 0) 0 := ⟨w_cd_X5_isSemicolon, w_in_X5, by decide +kernel, by decide, by decide⟩
theorem q3_readSemicolon : mm_cl (yX3_readSemicolon, cX3_readSemicolon, 1, none, 3) 0 := ⟨w_cd_X3_readSemicolon, w_in_X3, by decide +kernel, by decide, by decide⟩
theorem q3_readStatement : mm_cl (yX3_readStatement, cX3_readStatement, 2, none, 5) 1 := ⟨w_cd_X3_readStatement, w_in_X3, by decide +kernel, by decide, by decide⟩
theorem q3_readInto : mm_cl (yX3_readInto, cX3_readInto, 3, (some .int), 6) 1 := ⟨w_cd_X3_readInto, w_in_X3, by decide +kernel, by decide, by decide⟩
theorem q4_rankOf : mm_cl (yX4_rankOf, cX4_rankOf, 6, (some .int), 3) 4 := ⟨w_cd_X4_rankOf, w_in_X4, by decide +kernel, by decide, by decide⟩
theorem q4_firstOf : mm_cl (yX4_firstOf, cX4_firstOf, 4, (some .int), 0) 1 := ⟨w_cd_X4_firstOf, w_in_X4, by decide +kernel, by decide, by decide⟩
theorem q4_chargeSlot : mm_cl (yX4_chargeSlot, cX4_chargeSlot, 10, (some .int), 4) 3 := ⟨w_cd_X4_chargeSlot, w_in_X4, by decide +kernel, by decide, by decide⟩
theorem q4_make : mm_cl (yX4_make, cX4_make, 4, none, 5) 2 := ⟨w_cd_X4_make, w_in_X4, by decide +kernel, by decide, by decide⟩
theorem q5_append : mm_cl (yX5_append, cX5_append, 3, none, 0) 1 := ⟨w_cd_X5_append, w_in_X5, by decide +kernel, by decide, by decide⟩
theorem q6_feed : mm_cl (yX6_feed, cX6_feed, 6, (some .int), 1) 5 := ⟨w_cd_X6_feed, w_in_X6, by decide +kernel, by decide, by decide⟩
theorem q6_end : mm_cl (yX6_end, cX6_end, 2, (some .boolean), 0) 1 := ⟨w_cd_X6_end, w_in_X6, by decide +kernel, by decide, by decide⟩
theorem q6_tell : mm_cl (yX6_tell, cX6_tell, 3, (some .int), 7) 0 := ⟨w_cd_X6_tell, w_in_X6, by decide +kernel, by decide, by decide⟩
theorem q6_fault : mm_cl (yX6_fault, cX6_fault, 1, (some .int), 0) 0 := ⟨w_cd_X6_fault, w_in_X6, by decide +kernel, by decide, by decide⟩
theorem q6_set : mm_cl (yX6_set, cX6_set, 4, (some .boolean), 2) 2 := ⟨w_cd_X6_set, w_in_X6, by decide +kernel, by decide, by decide⟩
theorem q6_bus : mm_cl (yX6_bus, cX6_bus, 8, (some .int), 2) 6 := ⟨w_cd_X6_bus, w_in_X6, by decide +kernel, by decide, by decide⟩
theorem q6_drop : mm_cl (yX6_drop, cX6_drop, 1, (some .int), 1) 0 := ⟨w_cd_X6_drop, w_in_X6, by decide +kernel, by decide, by decide⟩
theorem q6_charge : mm_cl (yX6_charge, cX6_charge, 5, (some .boolean), 1) 3 := ⟨w_cd_X6_charge, w_in_X6, by decide +kernel, by decide, by decide⟩
theorem q6_clear : mm_cl (yX6_clear, cX6_clear, 1, (some .int), 4) 0 := ⟨w_cd_X6_clear, w_in_X6, by decide +kernel, by decide, by decide⟩
theorem q6_count : mm_cl (yX6_count, cX6_count, 2, (some .int), 1) 1 := ⟨w_cd_X6_count, w_in_X6, by decide +kernel, by decide, by decide⟩
theorem q6_curve : mm_cl (yX6_curve, cX6_curve, 4, (some .int), 1) 3 := ⟨w_cd_X6_curve, w_in_X6, by decide +kernel, by decide, by decide⟩
theorem q6_takes : mm_cl (yX6_takes, cX6_takes, 3, (some .int), 2) 2 := ⟨w_cd_X6_takes, w_in_X6, by decide +kernel, by decide, by decide⟩
theorem q6_slots : mm_cl (yX6_slots, cX6_slots, 4, (some .int), 3) 3 := ⟨w_cd_X6_slots, w_in_X6, by decide +kernel, by decide, by decide⟩
theorem q6_plan : mm_cl (yX6_plan, cX6_plan, 2, (some .int), 1) 1 := ⟨w_cd_X6_plan, w_in_X6, by decide +kernel, by decide, by decide⟩
theorem q6_level : mm_cl (yX6_level, cX6_level, 3, (some .int), 4) 2 := ⟨w_cd_X6_level, w_in_X6, by decide +kernel, by decide, by decide⟩
theorem q6_used : mm_cl (yX6_used, cX6_used, 2, (some .int), 4) 1 := ⟨w_cd_X6_used, w_in_X6, by decide +kernel, by decide, by decide⟩
theorem q6_sum : mm_cl (yX6_sum, cX6_sum, 2, (some .int), 5) 1 := ⟨w_cd_X6_sum, w_in_X6, by decide +kernel, by decide, by decide⟩
theorem q6_lack : mm_cl (yX6_lack, cX6_lack, 2, (some .int), 4) 1 := ⟨w_cd_X6_lack, w_in_X6, by decide +kernel, by decide, by decide⟩
theorem q6_findBest : mm_cl (yX6_findBest, cX6_findBest, 1, none, 5) 0 := ⟨w_cd_X6_findBest, w_in_X6, by decide +kernel, by decide, by decide⟩
theorem q6_best : mm_cl (yX6_best, cX6_best, 2, (some .int), 6) 1 := ⟨w_cd_X6_best, w_in_X6, by decide +kernel, by decide, by decide⟩
theorem q6_adopt : mm_cl (yX6_adopt, cX6_adopt, 3, (some .int), 4) 1 := ⟨w_cd_X6_adopt, w_in_X6, by decide +kernel, by decide, by decide⟩
theorem q6_take : mm_cl (yX6_take, cX6_take, 1, (some .int), 6) 0 := ⟨w_cd_X6_take, w_in_X6, by decide +kernel, by decide, by decide⟩
theorem q6_costIfLate : mm_cl (yX6_costIfLate, cX6_costIfLate, 3, (some .int), 5) 2 := ⟨w_cd_X6_costIfLate, w_in_X6, by decide +kernel, by decide, by decide⟩
theorem q6_late : mm_cl (yX6_late, cX6_late, 3, (some .int), 6) 2 := ⟨w_cd_X6_late, w_in_X6, by decide +kernel, by decide, by decide⟩
theorem q6_latest : mm_cl (yX6_latest, cX6_latest, 3, (some .int), 6) 1 := ⟨w_cd_X6_latest, w_in_X6, by decide +kernel, by decide, by decide⟩
theorem q6_costIfSet : mm_cl (yX6_costIfSet, cX6_costIfSet, 3, (some .int), 5) 2 := ⟨w_cd_X6_costIfSet, w_in_X6, by decide +kernel, by decide, by decide⟩
theorem q6_were : mm_cl (yX6_were, cX6_were, 3, (some .int), 6) 2 := ⟨w_cd_X6_were, w_in_X6, by decide +kernel, by decide, by decide⟩
theorem q6_firstReady : mm_cl (yX6_firstReady, cX6_firstReady, 4, (some .int), 6) 2 := ⟨w_cd_X6_firstReady, w_in_X6, by decide +kernel, by decide, by decide⟩
theorem q6_leastLimit : mm_cl (yX6_leastLimit, cX6_leastLimit, 5, (some .int), 6) 0 := ⟨w_cd_X6_leastLimit, w_in_X6, by decide +kernel, by decide, by decide⟩
theorem q6_least : mm_cl (yX6_least, cX6_least, 2, (some .int), 7) 1 := ⟨w_cd_X6_least, w_in_X6, by decide +kernel, by decide, by decide⟩
theorem q6_without : mm_cl (yX6_without, cX6_without, 2, (some .int), 5) 1 := ⟨w_cd_X6_without, w_in_X6, by decide +kernel, by decide, by decide⟩
theorem q6_isRule : mm_cl (yX6_isRule, cX6_isRule, 1, (some .boolean), 0) 1 := ⟨w_cd_X6_isRule, w_in_X6, by decide +kernel, by decide, by decide⟩
theorem q6_rule : mm_cl (yX6_rule, cX6_rule, 3, (some .int), 6) 2 := ⟨w_cd_X6_rule, w_in_X6, by decide +kernel, by decide, by decide⟩
theorem q6_takeRule : mm_cl (yX6_takeRule, cX6_takeRule, 2, (some .int), 6) 1 := ⟨w_cd_X6_takeRule, w_in_X6, by decide +kernel, by decide, by decide⟩
theorem q6_bestRule : mm_cl (yX6_bestRule, cX6_bestRule, 6, (some .int), 6) 0 := ⟨w_cd_X6_bestRule, w_in_X6, by decide +kernel, by decide, by decide⟩
theorem q7_thrown : mm_cl (yX7_thrown, cX7_thrown, 1, (some .int), 0) 0 := ⟨w_cd_X7_thrown, w_in_X7, by decide +kernel, by decide, by decide⟩
theorem q7_in : mm_cl (yX7_in, cX7_in, 3, (some .boolean), 0) 3 := ⟨w_cd_X7_in, w_in_X7, by decide +kernel, by decide, by decide⟩
theorem q7_has : mm_cl (yX7_has, cX7_has, 2, (some .boolean), 0) 2 := ⟨w_cd_X7_has, w_in_X7, by decide +kernel, by decide, by decide⟩
theorem q7_bits : mm_cl (yX7_bits, cX7_bits, 3, (some .int), 0) 1 := ⟨w_cd_X7_bits, w_in_X7, by decide +kernel, by decide, by decide⟩
theorem q7_of : mm_cl (yX7_of, cX7_of, 3, (some .int), 0) 2 := ⟨w_cd_X7_of, w_in_X7, by decide +kernel, by decide, by decide⟩
theorem q7_isBus : mm_cl (yX7_isBus, cX7_isBus, 2, (some .boolean), 1) 1 := ⟨w_cd_X7_isBus, w_in_X7, by decide +kernel, by decide, by decide⟩
theorem q7_isSlot : mm_cl (yX7_isSlot, cX7_isSlot, 2, (some .boolean), 1) 1 := ⟨w_cd_X7_isSlot, w_in_X7, by decide +kernel, by decide, by decide⟩
theorem q7_four : mm_cl (yX7_four, cX7_four, 3, none, 0) 1 := ⟨w_cd_X7_four, w_in_X7, by decide +kernel, by decide, by decide⟩
theorem q7_feed : mm_cl (yX7_feed, cX7_feed, 6, (some .int), 1) 5 := ⟨w_cd_X7_feed, w_in_X7, by decide +kernel, by decide, by decide⟩
theorem q7_end : mm_cl (yX7_end, cX7_end, 2, (some .boolean), 1) 1 := ⟨w_cd_X7_end, w_in_X7, by decide +kernel, by decide, by decide⟩
theorem q7_here : mm_cl (yX7_here, cX7_here, 1, (some .int), 0) 0 := ⟨w_cd_X7_here, w_in_X7, by decide +kernel, by decide, by decide⟩
theorem q7_fails : mm_cl (yX7_fails, cX7_fails, 3, (some .boolean), 0) 2 := ⟨w_cd_X7_fails, w_in_X7, by decide +kernel, by decide, by decide⟩
theorem q7_isNumber : mm_cl (yX7_isNumber, cX7_isNumber, 1, (some .boolean), 1) 0 := ⟨w_cd_X7_isNumber, w_in_X7, by decide +kernel, by decide, by decide⟩
theorem q7_readPlain : mm_cl (yX7_readPlain, cX7_readPlain, 1, (some .boolean), 2) 0 := ⟨w_cd_X7_readPlain, w_in_X7, by decide +kernel, by decide, by decide⟩
theorem q7_readNumber : mm_cl (yX7_readNumber, cX7_readNumber, 3, (some .boolean), 3) 2 := ⟨w_cd_X7_readNumber, w_in_X7, by decide +kernel, by decide, by decide⟩
theorem q7_reads : mm_cl (yX7_reads, cX7_reads, 4, (some .boolean), 4) 3 := ⟨w_cd_X7_reads, w_in_X7, by decide +kernel, by decide, by decide⟩
theorem q7_readWord : mm_cl (yX7_readWord, cX7_readWord, 4, (some .long), 1) 0 := ⟨w_cd_X7_readWord, w_in_X7, by decide +kernel, by decide, by decide⟩
theorem q7_readSlots : mm_cl (yX7_readSlots, cX7_readSlots, 2, (some .boolean), 4) 0 := ⟨w_cd_X7_readSlots, w_in_X7, by decide +kernel, by decide, by decide⟩
theorem q7_readPrice : mm_cl (yX7_readPrice, cX7_readPrice, 1, (some .boolean), 5) 0 := ⟨w_cd_X7_readPrice, w_in_X7, by decide +kernel, by decide, by decide⟩
theorem q7_readCurve : mm_cl (yX7_readCurve, cX7_readCurve, 6, (some .boolean), 5) 1 := ⟨w_cd_X7_readCurve, w_in_X7, by decide +kernel, by decide, by decide⟩
theorem q7_readBus : mm_cl (yX7_readBus, cX7_readBus, 3, (some .boolean), 5) 1 := ⟨w_cd_X7_readBus, w_in_X7, by decide +kernel, by decide, by decide⟩
theorem q7_readCharge : mm_cl (yX7_readCharge, cX7_readCharge, 3, (some .boolean), 4) 0 := ⟨w_cd_X7_readCharge, w_in_X7, by decide +kernel, by decide, by decide⟩
theorem q7_readStatement : mm_cl (yX7_readStatement, cX7_readStatement, 4, (some .boolean), 6) 0 := ⟨w_cd_X7_readStatement, w_in_X7, by decide +kernel, by decide, by decide⟩
theorem q7_readText : mm_cl (yX7_readText, cX7_readText, 1, (some .boolean), 7) 0 := ⟨w_cd_X7_readText, w_in_X7, by decide +kernel, by decide, by decide⟩
theorem q7_copies : mm_cl (yX7_copies, cX7_copies, 3, none, 0) 1 := ⟨w_cd_X7_copies, w_in_X7, by decide +kernel, by decide, by decide⟩
theorem q7_tell : mm_cl (yX7_tell, cX7_tell, 2, (some .int), 8) 0 := ⟨w_cd_X7_tell, w_in_X7, by decide +kernel, by decide, by decide⟩
theorem q7_fault : mm_cl (yX7_fault, cX7_fault, 1, (some .int), 0) 0 := ⟨w_cd_X7_fault, w_in_X7, by decide +kernel, by decide, by decide⟩
theorem q7_mostOf : mm_cl (yX7_mostOf, cX7_mostOf, 1, (some .int), 0) 1 := ⟨w_cd_X7_mostOf, w_in_X7, by decide +kernel, by decide, by decide⟩
theorem q7_set : mm_cl (yX7_set, cX7_set, 5, (some .boolean), 1) 2 := ⟨w_cd_X7_set, w_in_X7, by decide +kernel, by decide, by decide⟩
theorem q7_bus : mm_cl (yX7_bus, cX7_bus, 8, (some .int), 1) 6 := ⟨w_cd_X7_bus, w_in_X7, by decide +kernel, by decide, by decide⟩
theorem q7_drop : mm_cl (yX7_drop, cX7_drop, 2, (some .int), 0) 0 := ⟨w_cd_X7_drop, w_in_X7, by decide +kernel, by decide, by decide⟩
theorem q7_charge : mm_cl (yX7_charge, cX7_charge, 4, (some .boolean), 2) 3 := ⟨w_cd_X7_charge, w_in_X7, by decide +kernel, by decide, by decide⟩
theorem q7_chargesOf : mm_cl (yX7_chargesOf, cX7_chargesOf, 3, (some .int), 1) 0 := ⟨w_cd_X7_chargesOf, w_in_X7, by decide +kernel, by decide, by decide⟩
theorem q7_clear : mm_cl (yX7_clear, cX7_clear, 3, (some .int), 2) 0 := ⟨w_cd_X7_clear, w_in_X7, by decide +kernel, by decide, by decide⟩
theorem q7_count : mm_cl (yX7_count, cX7_count, 2, (some .int), 1) 1 := ⟨w_cd_X7_count, w_in_X7, by decide +kernel, by decide, by decide⟩
theorem q7_told : mm_cl (yX7_told, cX7_told, 3, (some .int), 2) 2 := ⟨w_cd_X7_told, w_in_X7, by decide +kernel, by decide, by decide⟩
theorem q7_curve : mm_cl (yX7_curve, cX7_curve, 5, (some .int), 1) 3 := ⟨w_cd_X7_curve, w_in_X7, by decide +kernel, by decide, by decide⟩
theorem q7_less : mm_cl (yX7_less, cX7_less, 2, (some .int), 0) 2 := ⟨w_cd_X7_less, w_in_X7, by decide +kernel, by decide, by decide⟩
theorem q7_takesOf : mm_cl (yX7_takesOf, cX7_takesOf, 5, (some .int), 1) 2 := ⟨w_cd_X7_takesOf, w_in_X7, by decide +kernel, by decide, by decide⟩
theorem q7_slotsOf : mm_cl (yX7_slotsOf, cX7_slotsOf, 6, (some .int), 2) 3 := ⟨w_cd_X7_slotsOf, w_in_X7, by decide +kernel, by decide, by decide⟩
theorem q7_asTold : mm_cl (yX7_asTold, cX7_asTold, 2, none, 1) 0 := ⟨w_cd_X7_asTold, w_in_X7, by decide +kernel, by decide, by decide⟩
theorem q7_takes : mm_cl (yX7_takes, cX7_takes, 3, (some .int), 2) 2 := ⟨w_cd_X7_takes, w_in_X7, by decide +kernel, by decide, by decide⟩
theorem q7_slots : mm_cl (yX7_slots, cX7_slots, 4, (some .int), 3) 3 := ⟨w_cd_X7_slots, w_in_X7, by decide +kernel, by decide, by decide⟩
theorem q7_isThere : mm_cl (yX7_isThere, cX7_isThere, 3, (some .boolean), 1) 2 := ⟨w_cd_X7_isThere, w_in_X7, by decide +kernel, by decide, by decide⟩
theorem q7_goes : mm_cl (yX7_goes, cX7_goes, 4, none, 2) 0 := ⟨w_cd_X7_goes, w_in_X7, by decide +kernel, by decide, by decide⟩
theorem q7_goesByTold : mm_cl (yX7_goesByTold, cX7_goesByTold, 2, none, 3) 0 := ⟨w_cd_X7_goesByTold, w_in_X7, by decide +kernel, by decide, by decide⟩
theorem q7_lackOf : mm_cl (yX7_lackOf, cX7_lackOf, 3, (some .int), 1) 1 := ⟨w_cd_X7_lackOf, w_in_X7, by decide +kernel, by decide, by decide⟩
theorem q7_sumOf : mm_cl (yX7_sumOf, cX7_sumOf, 4, (some .int), 2) 1 := ⟨w_cd_X7_sumOf, w_in_X7, by decide +kernel, by decide, by decide⟩
theorem q7_isAllThere : mm_cl (yX7_isAllThere, cX7_isAllThere, 3, (some .boolean), 2) 1 := ⟨w_cd_X7_isAllThere, w_in_X7, by decide +kernel, by decide, by decide⟩
theorem q7_wrongOf : mm_cl (yX7_wrongOf, cX7_wrongOf, 4, (some .int), 3) 0 := ⟨w_cd_X7_wrongOf, w_in_X7, by decide +kernel, by decide, by decide⟩
theorem q7_plan : mm_cl (yX7_plan, cX7_plan, 2, (some .int), 2) 1 := ⟨w_cd_X7_plan, w_in_X7, by decide +kernel, by decide, by decide⟩
theorem q7_level : mm_cl (yX7_level, cX7_level, 3, (some .int), 4) 2 := ⟨w_cd_X7_level, w_in_X7, by decide +kernel, by decide, by decide⟩
theorem q7_used : mm_cl (yX7_used, cX7_used, 2, (some .int), 4) 1 := ⟨w_cd_X7_used, w_in_X7, by decide +kernel, by decide, by decide⟩
theorem q7_sum : mm_cl (yX7_sum, cX7_sum, 2, (some .int), 4) 1 := ⟨w_cd_X7_sum, w_in_X7, by decide +kernel, by decide, by decide⟩
theorem q7_lack : mm_cl (yX7_lack, cX7_lack, 2, (some .int), 4) 1 := ⟨w_cd_X7_lack, w_in_X7, by decide +kernel, by decide, by decide⟩
theorem q7_countOf : mm_cl (yX7_countOf, cX7_countOf, 2, (some .int), 0) 2 := ⟨w_cd_X7_countOf, w_in_X7, by decide +kernel, by decide, by decide⟩
theorem q7_laysFull : mm_cl (yX7_laysFull, cX7_laysFull, 3, none, 2) 0 := ⟨w_cd_X7_laysFull, w_in_X7, by decide +kernel, by decide, by decide⟩
theorem q7_mayBe : mm_cl (yX7_mayBe, cX7_mayBe, 5, (some .boolean), 1) 2 := ⟨w_cd_X7_mayBe, w_in_X7, by decide +kernel, by decide, by decide⟩
theorem q7_laysEnd : mm_cl (yX7_laysEnd, cX7_laysEnd, 5, none, 1) 1 := ⟨w_cd_X7_laysEnd, w_in_X7, by decide +kernel, by decide, by decide⟩
theorem q7_taken : mm_cl (yX7_taken, cX7_taken, 7, (some .int), 2) 3 := ⟨w_cd_X7_taken, w_in_X7, by decide +kernel, by decide, by decide⟩
theorem q7_behind : mm_cl (yX7_behind, cX7_behind, 5, (some .int), 1) 2 := ⟨w_cd_X7_behind, w_in_X7, by decide +kernel, by decide, by decide⟩
theorem q7_laysSlot : mm_cl (yX7_laysSlot, cX7_laysSlot, 11, none, 3) 2 := ⟨w_cd_X7_laysSlot, w_in_X7, by decide +kernel, by decide, by decide⟩
theorem q7_finds : mm_cl (yX7_finds, cX7_finds, 3, none, 4) 0 := ⟨w_cd_X7_finds, w_in_X7, by decide +kernel, by decide, by decide⟩
theorem q7_laysBest : mm_cl (yX7_laysBest, cX7_laysBest, 3, none, 3) 0 := ⟨w_cd_X7_laysBest, w_in_X7, by decide +kernel, by decide, by decide⟩
theorem q7_costNow : mm_cl (yX7_costNow, cX7_costNow, 1, (some .int), 5) 0 := ⟨w_cd_X7_costNow, w_in_X7, by decide +kernel, by decide, by decide⟩
theorem q7_best : mm_cl (yX7_best, cX7_best, 2, (some .int), 5) 1 := ⟨w_cd_X7_best, w_in_X7, by decide +kernel, by decide, by decide⟩
theorem q7_stands : mm_cl (yX7_stands, cX7_stands, 2, (some .int), 2) 0 := ⟨w_cd_X7_stands, w_in_X7, by decide +kernel, by decide, by decide⟩
theorem q7_take : mm_cl (yX7_take, cX7_take, 1, (some .int), 5) 0 := ⟨w_cd_X7_take, w_in_X7, by decide +kernel, by decide, by decide⟩
theorem q7_late : mm_cl (yX7_late, cX7_late, 3, (some .int), 6) 2 := ⟨w_cd_X7_late, w_in_X7, by decide +kernel, by decide, by decide⟩
theorem q7_latest : mm_cl (yX7_latest, cX7_latest, 3, (some .int), 6) 1 := ⟨w_cd_X7_latest, w_in_X7, by decide +kernel, by decide, by decide⟩
theorem q7_lays : mm_cl (yX7_lays, cX7_lays, 3, none, 2) 2 := ⟨w_cd_X7_lays, w_in_X7, by decide +kernel, by decide, by decide⟩
theorem q7_were : mm_cl (yX7_were, cX7_were, 3, (some .int), 6) 2 := ⟨w_cd_X7_were, w_in_X7, by decide +kernel, by decide, by decide⟩
theorem q7_least : mm_cl (yX7_least, cX7_least, 3, (some .int), 6) 1 := ⟨w_cd_X7_least, w_in_X7, by decide +kernel, by decide, by decide⟩
theorem q7_without : mm_cl (yX7_without, cX7_without, 2, (some .int), 6) 1 := ⟨w_cd_X7_without, w_in_X7, by decide +kernel, by decide, by decide⟩
theorem q7_rankOf : mm_cl (yX7_rankOf, cX7_rankOf, 5, (some .int), 3) 3 := ⟨w_cd_X7_rankOf, w_in_X7, by decide +kernel, by decide, by decide⟩
theorem q7_setBy : mm_cl (yX7_setBy, cX7_setBy, 8, (some .int), 4) 2 := ⟨w_cd_X7_setBy, w_in_X7, by decide +kernel, by decide, by decide⟩
theorem q7_rules : mm_cl (yX7_rules, cX7_rules, 3, none, 5) 1 := ⟨w_cd_X7_rules, w_in_X7, by decide +kernel, by decide, by decide⟩
theorem q7_rule : mm_cl (yX7_rule, cX7_rule, 3, (some .int), 6) 2 := ⟨w_cd_X7_rule, w_in_X7, by decide +kernel, by decide, by decide⟩
theorem q7_takeRule : mm_cl (yX7_takeRule, cX7_takeRule, 2, (some .int), 6) 1 := ⟨w_cd_X7_takeRule, w_in_X7, by decide +kernel, by decide, by decide⟩
theorem q7_bestRule : mm_cl (yX7_bestRule, cX7_bestRule, 5, (some .int), 6) 0 := ⟨w_cd_X7_bestRule, w_in_X7, by decide +kernel, by decide, by decide⟩
theorem g_X0_36 {α : Type} {inj : α → Option Value × mm_M} {j : mm_J} {X : mm_X} {pc : Nat} {lo : List (Option Value)} {st : List Value} {M : mm_M} {ee : Option α} {d : Nat} (hD : isD d = true) (hj : j.1.cls = RX0) (hd : decode j.2.1 pc = .ok (.getfield 36, 3)) (k1 : Snd inj j X (pc + 3) lo (.int (mI M d 0) :: st) M ee) : Snd inj j X pc lo (.ref d :: st) M ee := sn_gI (k := 0) (T := TX0) rfl iw0 (isD_obj hD) (isD_pos hD) (by decide) (isD_k0 hD 0 (by decide)) (by rw [hj]; exact w_fl_X0_36) hd k1
theorem p_X0_36 {α : Type} {inj : α → Option Value × mm_M} {j : mm_J} {X : mm_X} {pc : Nat} {lo : List (Option Value)} {st : List Value} {M : mm_M} {d : Nat} {v : Int32} {ex : mm_M → Option α} (hD : isD d = true) (hj : j.1.cls = RX0) (hd : decode j.2.1 pc = .ok (.putfield 36, 3)) (k1 : ∀ M, Snd inj j X (pc + 3) lo st M (ex M)) : Snd inj j X pc lo (.int v :: .ref d :: st) M (bM (sI M d 0 v) ex) := sn_pI (k := 0) (T := TX0) tyX0 tyX0_ok nmX0 rfl iw0 (isD_obj hD) (isD_pos hD) (by decide) rfl (isD_k0 hD 0 (by decide)) (tyX0_ok 0 (by decide)) (by rw [hj]; exact w_fl_X0_36) hd k1
theorem g_X0_40 {α : Type} {inj : α → Option Value × mm_M} {j : mm_J} {X : mm_X} {pc : Nat} {lo : List (Option Value)} {st : List Value} {M : mm_M} {ee : Option α} {d : Nat} (hD : isD d = true) (hj : j.1.cls = RX0) (hd : decode j.2.1 pc = .ok (.getfield 40, 3)) (k1 : Snd inj j X (pc + 3) lo (.int (mI M d 1) :: st) M ee) : Snd inj j X pc lo (.ref d :: st) M ee := sn_gI (k := 1) (T := TX0) rfl iw0 (isD_obj hD) (isD_pos hD) (by decide) (isD_k0 hD 1 (by decide)) (by rw [hj]; exact w_fl_X0_40) hd k1
theorem p_X0_40 {α : Type} {inj : α → Option Value × mm_M} {j : mm_J} {X : mm_X} {pc : Nat} {lo : List (Option Value)} {st : List Value} {M : mm_M} {d : Nat} {v : Int32} {ex : mm_M → Option α} (hD : isD d = true) (hj : j.1.cls = RX0) (hd : decode j.2.1 pc = .ok (.putfield 40, 3)) (k1 : ∀ M, Snd inj j X (pc + 3) lo st M (ex M)) : Snd inj j X pc lo (.int v :: .ref d :: st) M (bM (sI M d 1 v) ex) := sn_pI (k := 1) (T := TX0) tyX0 tyX0_ok nmX0 rfl iw0 (isD_obj hD) (isD_pos hD) (by decide) rfl (isD_k0 hD 1 (by decide)) (tyX0_ok 1 (by decide)) (by rw [hj]; exact w_fl_X0_40) hd k1
theorem g_X0_43 {α : Type} {inj : α → Option Value × mm_M} {j : mm_J} {X : mm_X} {pc : Nat} {lo : List (Option Value)} {st : List Value} {M : mm_M} {ee : Option α} {d : Nat} (hD : isD d = true) (hj : j.1.cls = RX0) (hd : decode j.2.1 pc = .ok (.getfield 43, 3)) (k1 : Snd inj j X (pc + 3) lo (.int (mI M d 2) :: st) M ee) : Snd inj j X pc lo (.ref d :: st) M ee := sn_gI (k := 2) (T := TX0) rfl iw0 (isD_obj hD) (isD_pos hD) (by decide) (isD_k0 hD 2 (by decide)) (by rw [hj]; exact w_fl_X0_43) hd k1
theorem p_X0_43 {α : Type} {inj : α → Option Value × mm_M} {j : mm_J} {X : mm_X} {pc : Nat} {lo : List (Option Value)} {st : List Value} {M : mm_M} {d : Nat} {v : Int32} {ex : mm_M → Option α} (hD : isD d = true) (hj : j.1.cls = RX0) (hd : decode j.2.1 pc = .ok (.putfield 43, 3)) (k1 : ∀ M, Snd inj j X (pc + 3) lo st M (ex M)) : Snd inj j X pc lo (.int v :: .ref d :: st) M (bM (sI M d 2 v) ex) := sn_pI (k := 2) (T := TX0) tyX0 tyX0_ok nmX0 rfl iw0 (isD_obj hD) (isD_pos hD) (by decide) rfl (isD_k0 hD 2 (by decide)) (tyX0_ok 2 (by decide)) (by rw [hj]; exact w_fl_X0_43) hd k1
theorem g_X0_9 {α : Type} {inj : α → Option Value × mm_M} {j : mm_J} {X : mm_X} {pc : Nat} {lo : List (Option Value)} {st : List Value} {M : mm_M} {ee : Option α} {d : Nat} (hD : isD d = true) (hj : j.1.cls = RX0) (hd : decode j.2.1 pc = .ok (.getfield 9, 3)) (k1 : Snd inj j X (pc + 3) lo (.ref (d + 1) :: st) M ee) : Snd inj j X pc lo (.ref d :: st) M ee := sn_gR (d + 1) (k := 3) (T := TX0) rfl iw0 (isD_obj hD) (isD_pos hD) (by decide) (isD_kR hD 3 1 rfl (by decide)) (by rw [hj]; exact w_fl_X0_9) hd k1
theorem g_X0_15 {α : Type} {inj : α → Option Value × mm_M} {j : mm_J} {X : mm_X} {pc : Nat} {lo : List (Option Value)} {st : List Value} {M : mm_M} {ee : Option α} {d : Nat} (hD : isD d = true) (hj : j.1.cls = RX0) (hd : decode j.2.1 pc = .ok (.getfield 15, 3)) (k1 : Snd inj j X (pc + 3) lo (.ref (d + 2) :: st) M ee) : Snd inj j X pc lo (.ref d :: st) M ee := sn_gR (d + 2) (k := 4) (T := TX0) rfl iw0 (isD_obj hD) (isD_pos hD) (by decide) (isD_kR hD 4 2 rfl (by decide)) (by rw [hj]; exact w_fl_X0_15) hd k1
theorem g_X0_18 {α : Type} {inj : α → Option Value × mm_M} {j : mm_J} {X : mm_X} {pc : Nat} {lo : List (Option Value)} {st : List Value} {M : mm_M} {ee : Option α} {d : Nat} (hD : isD d = true) (hj : j.1.cls = RX0) (hd : decode j.2.1 pc = .ok (.getfield 18, 3)) (k1 : Snd inj j X (pc + 3) lo (.ref (d + 3) :: st) M ee) : Snd inj j X pc lo (.ref d :: st) M ee := sn_gR (d + 3) (k := 5) (T := TX0) rfl iw0 (isD_obj hD) (isD_pos hD) (by decide) (isD_kR hD 5 3 rfl (by decide)) (by rw [hj]; exact w_fl_X0_18) hd k1
theorem g_X0_21 {α : Type} {inj : α → Option Value × mm_M} {j : mm_J} {X : mm_X} {pc : Nat} {lo : List (Option Value)} {st : List Value} {M : mm_M} {ee : Option α} {d : Nat} (hD : isD d = true) (hj : j.1.cls = RX0) (hd : decode j.2.1 pc = .ok (.getfield 21, 3)) (k1 : Snd inj j X (pc + 3) lo (.ref (d + 4) :: st) M ee) : Snd inj j X pc lo (.ref d :: st) M ee := sn_gR (d + 4) (k := 6) (T := TX0) rfl iw0 (isD_obj hD) (isD_pos hD) (by decide) (isD_kR hD 6 4 rfl (by decide)) (by rw [hj]; exact w_fl_X0_21) hd k1
theorem g_X0_24 {α : Type} {inj : α → Option Value × mm_M} {j : mm_J} {X : mm_X} {pc : Nat} {lo : List (Option Value)} {st : List Value} {M : mm_M} {ee : Option α} {d : Nat} (hD : isD d = true) (hj : j.1.cls = RX0) (hd : decode j.2.1 pc = .ok (.getfield 24, 3)) (k1 : Snd inj j X (pc + 3) lo (.ref (d + 5) :: st) M ee) : Snd inj j X pc lo (.ref d :: st) M ee := sn_gR (d + 5) (k := 7) (T := TX0) rfl iw0 (isD_obj hD) (isD_pos hD) (by decide) (isD_kR hD 7 5 rfl (by decide)) (by rw [hj]; exact w_fl_X0_24) hd k1
theorem g_X0_27 {α : Type} {inj : α → Option Value × mm_M} {j : mm_J} {X : mm_X} {pc : Nat} {lo : List (Option Value)} {st : List Value} {M : mm_M} {ee : Option α} {d : Nat} (hD : isD d = true) (hj : j.1.cls = RX0) (hd : decode j.2.1 pc = .ok (.getfield 27, 3)) (k1 : Snd inj j X (pc + 3) lo (.ref (d + 6) :: st) M ee) : Snd inj j X pc lo (.ref d :: st) M ee := sn_gR (d + 6) (k := 8) (T := TX0) rfl iw0 (isD_obj hD) (isD_pos hD) (by decide) (isD_kR hD 8 6 rfl (by decide)) (by rw [hj]; exact w_fl_X0_27) hd k1
theorem g_X0_30 {α : Type} {inj : α → Option Value × mm_M} {j : mm_J} {X : mm_X} {pc : Nat} {lo : List (Option Value)} {st : List Value} {M : mm_M} {ee : Option α} {d : Nat} (hD : isD d = true) (hj : j.1.cls = RX0) (hd : decode j.2.1 pc = .ok (.getfield 30, 3)) (k1 : Snd inj j X (pc + 3) lo (.ref (d + 7) :: st) M ee) : Snd inj j X pc lo (.ref d :: st) M ee := sn_gR (d + 7) (k := 9) (T := TX0) rfl iw0 (isD_obj hD) (isD_pos hD) (by decide) (isD_kR hD 9 7 rfl (by decide)) (by rw [hj]; exact w_fl_X0_30) hd k1
theorem g_X0_33 {α : Type} {inj : α → Option Value × mm_M} {j : mm_J} {X : mm_X} {pc : Nat} {lo : List (Option Value)} {st : List Value} {M : mm_M} {ee : Option α} {d : Nat} (hD : isD d = true) (hj : j.1.cls = RX0) (hd : decode j.2.1 pc = .ok (.getfield 33, 3)) (k1 : Snd inj j X (pc + 3) lo (.ref (d + 8) :: st) M ee) : Snd inj j X pc lo (.ref d :: st) M ee := sn_gR (d + 8) (k := 10) (T := TX0) rfl iw0 (isD_obj hD) (isD_pos hD) (by decide) (isD_kR hD 10 8 rfl (by decide)) (by rw [hj]; exact w_fl_X0_33) hd k1
theorem g_X1_11 {α : Type} {inj : α → Option Value × mm_M} {j : mm_J} {X : mm_X} {pc : Nat} {lo : List (Option Value)} {st : List Value} {M : mm_M} {ee : Option α} (hj : j.1.cls = RX1) (hd : decode j.2.1 pc = .ok (.getfield 11, 3)) (k1 : Snd inj j X (pc + 3) lo (.ref 24 :: st) M ee) : Snd inj j X pc lo (.ref 23 :: st) M ee := sn_gR 24 (k := 0) (T := TX1) rfl iw1 rfl ⟨by decide, by decide⟩ (by decide) rfl (by rw [hj]; exact w_fl_X1_11) hd k1
theorem g_X1_31 {α : Type} {inj : α → Option Value × mm_M} {j : mm_J} {X : mm_X} {pc : Nat} {lo : List (Option Value)} {st : List Value} {M : mm_M} {ee : Option α} {d : Nat} (hD : isD d = true) (hj : j.1.cls = RX1) (hd : decode j.2.1 pc = .ok (.getfield 31, 3)) (k1 : Snd inj j X (pc + 3) lo (.int (mI M d 2) :: st) M ee) : Snd inj j X pc lo (.ref d :: st) M ee := sn_gI (k := 2) (T := TX0) rfl iw0 (isD_obj hD) (isD_pos hD) (by decide) (isD_k0 hD 2 (by decide)) (by rw [hj]; exact w_fl_X1_31) hd k1
theorem g_X1_69 {α : Type} {inj : α → Option Value × mm_M} {j : mm_J} {X : mm_X} {pc : Nat} {lo : List (Option Value)} {st : List Value} {M : mm_M} {ee : Option α} {d : Nat} (hD : isD d = true) (hj : j.1.cls = RX1) (hd : decode j.2.1 pc = .ok (.getfield 69, 3)) (k1 : Snd inj j X (pc + 3) lo (.ref (d + 1) :: st) M ee) : Snd inj j X pc lo (.ref d :: st) M ee := sn_gR (d + 1) (k := 3) (T := TX0) rfl iw0 (isD_obj hD) (isD_pos hD) (by decide) (isD_kR hD 3 1 rfl (by decide)) (by rw [hj]; exact w_fl_X1_69) hd k1
theorem g_X1_40 {α : Type} {inj : α → Option Value × mm_M} {j : mm_J} {X : mm_X} {pc : Nat} {lo : List (Option Value)} {st : List Value} {M : mm_M} {ee : Option α} {d : Nat} (hD : isD d = true) (hj : j.1.cls = RX1) (hd : decode j.2.1 pc = .ok (.getfield 40, 3)) (k1 : Snd inj j X (pc + 3) lo (.int (mI M d 0) :: st) M ee) : Snd inj j X pc lo (.ref d :: st) M ee := sn_gI (k := 0) (T := TX0) rfl iw0 (isD_obj hD) (isD_pos hD) (by decide) (isD_k0 hD 0 (by decide)) (by rw [hj]; exact w_fl_X1_40) hd k1
theorem g_X1_25 {α : Type} {inj : α → Option Value × mm_M} {j : mm_J} {X : mm_X} {pc : Nat} {lo : List (Option Value)} {st : List Value} {M : mm_M} {ee : Option α} (hj : j.1.cls = RX1) (hd : decode j.2.1 pc = .ok (.getfield 25, 3)) (k1 : Snd inj j X (pc + 3) lo (.int (mI M 23 4) :: st) M ee) : Snd inj j X pc lo (.ref 23 :: st) M ee := sn_gI (k := 4) (T := TX1) rfl iw1 rfl ⟨by decide, by decide⟩ (by decide) rfl (by rw [hj]; exact w_fl_X1_25) hd k1
theorem p_X1_25 {α : Type} {inj : α → Option Value × mm_M} {j : mm_J} {X : mm_X} {pc : Nat} {lo : List (Option Value)} {st : List Value} {M : mm_M} {ex : mm_M → Option α} {v : Int32} (hj : j.1.cls = RX1) (hd : decode j.2.1 pc = .ok (.putfield 25, 3)) (k1 : ∀ M, Snd inj j X (pc + 3) lo st M (ex M)) : Snd inj j X pc lo (.int v :: .ref 23 :: st) M (bM (sI M 23 4 v) ex) := sn_pI (k := 4) (T := TX1) tyX1 tyX1_ok nmX1 rfl iw1 rfl ⟨by decide, by decide⟩ (by decide) rfl rfl (tyX1_ok 4 (by decide)) (by rw [hj]; exact w_fl_X1_25) hd k1
theorem g_X1_15 {α : Type} {inj : α → Option Value × mm_M} {j : mm_J} {X : mm_X} {pc : Nat} {lo : List (Option Value)} {st : List Value} {M : mm_M} {ee : Option α} (hj : j.1.cls = RX1) (hd : decode j.2.1 pc = .ok (.getfield 15, 3)) (k1 : Snd inj j X (pc + 3) lo (.ref 25 :: st) M ee) : Snd inj j X pc lo (.ref 23 :: st) M ee := sn_gR 25 (k := 1) (T := TX1) rfl iw1 rfl ⟨by decide, by decide⟩ (by decide) rfl (by rw [hj]; exact w_fl_X1_15) hd k1
theorem g_X1_18 {α : Type} {inj : α → Option Value × mm_M} {j : mm_J} {X : mm_X} {pc : Nat} {lo : List (Option Value)} {st : List Value} {M : mm_M} {ee : Option α} (hj : j.1.cls = RX1) (hd : decode j.2.1 pc = .ok (.getfield 18, 3)) (k1 : Snd inj j X (pc + 3) lo (.int (mI M 23 2) :: st) M ee) : Snd inj j X pc lo (.ref 23 :: st) M ee := sn_gI (k := 2) (T := TX1) rfl iw1 rfl ⟨by decide, by decide⟩ (by decide) rfl (by rw [hj]; exact w_fl_X1_18) hd k1
theorem g_X1_47 {α : Type} {inj : α → Option Value × mm_M} {j : mm_J} {X : mm_X} {pc : Nat} {lo : List (Option Value)} {st : List Value} {M : mm_M} {ee : Option α} {d : Nat} (hD : isD d = true) (hj : j.1.cls = RX1) (hd : decode j.2.1 pc = .ok (.getfield 47, 3)) (k1 : Snd inj j X (pc + 3) lo (.ref (d + 2) :: st) M ee) : Snd inj j X pc lo (.ref d :: st) M ee := sn_gR (d + 2) (k := 4) (T := TX0) rfl iw0 (isD_obj hD) (isD_pos hD) (by decide) (isD_kR hD 4 2 rfl (by decide)) (by rw [hj]; exact w_fl_X1_47) hd k1
theorem p_X1_18 {α : Type} {inj : α → Option Value × mm_M} {j : mm_J} {X : mm_X} {pc : Nat} {lo : List (Option Value)} {st : List Value} {M : mm_M} {ex : mm_M → Option α} {v : Int32} (hj : j.1.cls = RX1) (hd : decode j.2.1 pc = .ok (.putfield 18, 3)) (k1 : ∀ M, Snd inj j X (pc + 3) lo st M (ex M)) : Snd inj j X pc lo (.int v :: .ref 23 :: st) M (bM (sI M 23 2 v) ex) := sn_pI (k := 2) (T := TX1) tyX1 tyX1_ok nmX1 rfl iw1 rfl ⟨by decide, by decide⟩ (by decide) rfl rfl (tyX1_ok 2 (by decide)) (by rw [hj]; exact w_fl_X1_18) hd k1
theorem g_X1_28 {α : Type} {inj : α → Option Value × mm_M} {j : mm_J} {X : mm_X} {pc : Nat} {lo : List (Option Value)} {st : List Value} {M : mm_M} {ee : Option α} (hj : j.1.cls = RX1) (hd : decode j.2.1 pc = .ok (.getfield 28, 3)) (k1 : Snd inj j X (pc + 3) lo (.int (mI M 23 5) :: st) M ee) : Snd inj j X pc lo (.ref 23 :: st) M ee := sn_gI (k := 5) (T := TX1) rfl iw1 rfl ⟨by decide, by decide⟩ (by decide) rfl (by rw [hj]; exact w_fl_X1_28) hd k1
theorem p_X1_28 {α : Type} {inj : α → Option Value × mm_M} {j : mm_J} {X : mm_X} {pc : Nat} {lo : List (Option Value)} {st : List Value} {M : mm_M} {ex : mm_M → Option α} {v : Int32} (hj : j.1.cls = RX1) (hd : decode j.2.1 pc = .ok (.putfield 28, 3)) (k1 : ∀ M, Snd inj j X (pc + 3) lo st M (ex M)) : Snd inj j X pc lo (.int v :: .ref 23 :: st) M (bM (sI M 23 5 v) ex) := sn_pI (k := 5) (T := TX1) tyX1 tyX1_ok nmX1 rfl iw1 rfl ⟨by decide, by decide⟩ (by decide) rfl rfl (tyX1_ok 5 (by decide)) (by rw [hj]; exact w_fl_X1_28) hd k1
theorem g_X1_22 {α : Type} {inj : α → Option Value × mm_M} {j : mm_J} {X : mm_X} {pc : Nat} {lo : List (Option Value)} {st : List Value} {M : mm_M} {ee : Option α} (hj : j.1.cls = RX1) (hd : decode j.2.1 pc = .ok (.getfield 22, 3)) (k1 : Snd inj j X (pc + 3) lo (.int (mI M 23 3) :: st) M ee) : Snd inj j X pc lo (.ref 23 :: st) M ee := sn_gI (k := 3) (T := TX1) rfl iw1 rfl ⟨by decide, by decide⟩ (by decide) rfl (by rw [hj]; exact w_fl_X1_22) hd k1
theorem p_X1_22 {α : Type} {inj : α → Option Value × mm_M} {j : mm_J} {X : mm_X} {pc : Nat} {lo : List (Option Value)} {st : List Value} {M : mm_M} {ex : mm_M → Option α} {v : Int32} (hj : j.1.cls = RX1) (hd : decode j.2.1 pc = .ok (.putfield 22, 3)) (k1 : ∀ M, Snd inj j X (pc + 3) lo st M (ex M)) : Snd inj j X pc lo (.int v :: .ref 23 :: st) M (bM (sI M 23 3 v) ex) := sn_pI (k := 3) (T := TX1) tyX1 tyX1_ok nmX1 rfl iw1 rfl ⟨by decide, by decide⟩ (by decide) rfl rfl (tyX1_ok 3 (by decide)) (by rw [hj]; exact w_fl_X1_22) hd k1
theorem g_X2_15 {α : Type} {inj : α → Option Value × mm_M} {j : mm_J} {X : mm_X} {pc : Nat} {lo : List (Option Value)} {st : List Value} {M : mm_M} {ee : Option α} (hj : j.1.cls = RX2) (hd : decode j.2.1 pc = .ok (.getfield 15, 3)) (k1 : Snd inj j X (pc + 3) lo (.ref 28 :: st) M ee) : Snd inj j X pc lo (.ref 26 :: st) M ee := sn_gR 28 (k := 1) (T := TX2) rfl iw2 rfl ⟨by decide, by decide⟩ (by decide) rfl (by rw [hj]; exact w_fl_X2_15) hd k1
theorem p_X2_68 {α : Type} {inj : α → Option Value × mm_M} {j : mm_J} {X : mm_X} {pc : Nat} {lo : List (Option Value)} {st : List Value} {M : mm_M} {ex : mm_M → Option α} {d : Nat} (hj : j.1.cls = RX2) (hd : decode j.2.1 pc = .ok (.putfield 68, 3)) (k1 : ∀ M, Snd inj j X (pc + 3) lo st M (ex M)) : Snd inj j X pc lo (.ref d :: .ref 26 :: st) M (bM (sDep M d) ex) := sn_pDep iw2 (by rw [hj]; exact w_fl_X2_68) hd k1
theorem p_X2_18 {α : Type} {inj : α → Option Value × mm_M} {j : mm_J} {X : mm_X} {pc : Nat} {lo : List (Option Value)} {st : List Value} {M : mm_M} {ex : mm_M → Option α} {v : Int32} (hj : j.1.cls = RX2) (hd : decode j.2.1 pc = .ok (.putfield 18, 3)) (k1 : ∀ M, Snd inj j X (pc + 3) lo st M (ex M)) : Snd inj j X pc lo (.int v :: .ref 26 :: st) M (bM (sI M 26 2 v) ex) := sn_pI (k := 2) (T := TX2) tyX2 tyX2_ok nmX2 rfl iw2 rfl ⟨by decide, by decide⟩ (by decide) rfl rfl (tyX2_ok 2 (by decide)) (by rw [hj]; exact w_fl_X2_18) hd k1
theorem g_X2_72 {α : Type} {inj : α → Option Value × mm_M} {j : mm_J} {X : mm_X} {pc : Nat} {lo : List (Option Value)} {st : List Value} {M : mm_M} {ee : Option α} {d : Nat} (hD : isD d = true) (hj : j.1.cls = RX2) (hd : decode j.2.1 pc = .ok (.getfield 72, 3)) (k1 : Snd inj j X (pc + 3) lo (.ref (d + 1) :: st) M ee) : Snd inj j X pc lo (.ref d :: st) M ee := sn_gR (d + 1) (k := 3) (T := TX0) rfl iw0 (isD_obj hD) (isD_pos hD) (by decide) (isD_kR hD 3 1 rfl (by decide)) (by rw [hj]; exact w_fl_X2_72) hd k1
theorem g_X2_11 {α : Type} {inj : α → Option Value × mm_M} {j : mm_J} {X : mm_X} {pc : Nat} {lo : List (Option Value)} {st : List Value} {M : mm_M} {ee : Option α} (hj : j.1.cls = RX2) (hd : decode j.2.1 pc = .ok (.getfield 11, 3)) (k1 : Snd inj j X (pc + 3) lo (.ref 27 :: st) M ee) : Snd inj j X pc lo (.ref 26 :: st) M ee := sn_gR 27 (k := 0) (T := TX2) rfl iw2 rfl ⟨by decide, by decide⟩ (by decide) rfl (by rw [hj]; exact w_fl_X2_11) hd k1
theorem g_X2_25 {α : Type} {inj : α → Option Value × mm_M} {j : mm_J} {X : mm_X} {pc : Nat} {lo : List (Option Value)} {st : List Value} {M : mm_M} {ee : Option α} (hj : j.1.cls = RX2) (hd : decode j.2.1 pc = .ok (.getfield 25, 3)) (k1 : Snd inj j X (pc + 3) lo (.ref 30 :: st) M ee) : Snd inj j X pc lo (.ref 26 :: st) M ee := sn_gR 30 (k := 5) (T := TX2) rfl iw2 rfl ⟨by decide, by decide⟩ (by decide) rfl (by rw [hj]; exact w_fl_X2_25) hd k1
theorem g_X2_31 {α : Type} {inj : α → Option Value × mm_M} {j : mm_J} {X : mm_X} {pc : Nat} {lo : List (Option Value)} {st : List Value} {M : mm_M} {ee : Option α} (hj : j.1.cls = RX2) (hd : decode j.2.1 pc = .ok (.getfield 31, 3)) (k1 : Snd inj j X (pc + 3) lo (.ref 32 :: st) M ee) : Snd inj j X pc lo (.ref 26 :: st) M ee := sn_gR 32 (k := 7) (T := TX2) rfl iw2 rfl ⟨by decide, by decide⟩ (by decide) rfl (by rw [hj]; exact w_fl_X2_31) hd k1
theorem g_X2_22 {α : Type} {inj : α → Option Value × mm_M} {j : mm_J} {X : mm_X} {pc : Nat} {lo : List (Option Value)} {st : List Value} {M : mm_M} {ee : Option α} (hj : j.1.cls = RX2) (hd : decode j.2.1 pc = .ok (.getfield 22, 3)) (k1 : Snd inj j X (pc + 3) lo (.ref 29 :: st) M ee) : Snd inj j X pc lo (.ref 26 :: st) M ee := sn_gR 29 (k := 4) (T := TX2) rfl iw2 rfl ⟨by decide, by decide⟩ (by decide) rfl (by rw [hj]; exact w_fl_X2_22) hd k1
theorem g_X2_68 {α : Type} {inj : α → Option Value × mm_M} {j : mm_J} {X : mm_X} {pc : Nat} {lo : List (Option Value)} {st : List Value} {M : mm_M} {ex : Nat → Option α} (hj : j.1.cls = RX2) (hd : decode j.2.1 pc = .ok (.getfield 68, 3)) (k1 : ∀ d, Snd inj j X (pc + 3) lo (.ref d :: st) M (ex d)) : Snd inj j X pc lo (.ref 26 :: st) M (bN (mDep M) ex) := sn_gDep iw2 (by rw [hj]; exact w_fl_X2_68) hd k1
theorem g_X2_28 {α : Type} {inj : α → Option Value × mm_M} {j : mm_J} {X : mm_X} {pc : Nat} {lo : List (Option Value)} {st : List Value} {M : mm_M} {ee : Option α} (hj : j.1.cls = RX2) (hd : decode j.2.1 pc = .ok (.getfield 28, 3)) (k1 : Snd inj j X (pc + 3) lo (.ref 31 :: st) M ee) : Snd inj j X pc lo (.ref 26 :: st) M ee := sn_gR 31 (k := 6) (T := TX2) rfl iw2 rfl ⟨by decide, by decide⟩ (by decide) rfl (by rw [hj]; exact w_fl_X2_28) hd k1
theorem g_X2_34 {α : Type} {inj : α → Option Value × mm_M} {j : mm_J} {X : mm_X} {pc : Nat} {lo : List (Option Value)} {st : List Value} {M : mm_M} {ee : Option α} (hj : j.1.cls = RX2) (hd : decode j.2.1 pc = .ok (.getfield 34, 3)) (k1 : Snd inj j X (pc + 3) lo (.ref 33 :: st) M ee) : Snd inj j X pc lo (.ref 26 :: st) M ee := sn_gR 33 (k := 8) (T := TX2) rfl iw2 rfl ⟨by decide, by decide⟩ (by decide) rfl (by rw [hj]; exact w_fl_X2_34) hd k1
theorem g_X2_103 {α : Type} {inj : α → Option Value × mm_M} {j : mm_J} {X : mm_X} {pc : Nat} {lo : List (Option Value)} {st : List Value} {M : mm_M} {ee : Option α} {d : Nat} (hD : isD d = true) (hj : j.1.cls = RX2) (hd : decode j.2.1 pc = .ok (.getfield 103, 3)) (k1 : Snd inj j X (pc + 3) lo (.int (mI M d 2) :: st) M ee) : Snd inj j X pc lo (.ref d :: st) M ee := sn_gI (k := 2) (T := TX0) rfl iw0 (isD_obj hD) (isD_pos hD) (by decide) (isD_k0 hD 2 (by decide)) (by rw [hj]; exact w_fl_X2_103) hd k1
theorem g_X2_18 {α : Type} {inj : α → Option Value × mm_M} {j : mm_J} {X : mm_X} {pc : Nat} {lo : List (Option Value)} {st : List Value} {M : mm_M} {ee : Option α} (hj : j.1.cls = RX2) (hd : decode j.2.1 pc = .ok (.getfield 18, 3)) (k1 : Snd inj j X (pc + 3) lo (.int (mI M 26 2) :: st) M ee) : Snd inj j X pc lo (.ref 26 :: st) M ee := sn_gI (k := 2) (T := TX2) rfl iw2 rfl ⟨by decide, by decide⟩ (by decide) rfl (by rw [hj]; exact w_fl_X2_18) hd k1
theorem g_X2_100 {α : Type} {inj : α → Option Value × mm_M} {j : mm_J} {X : mm_X} {pc : Nat} {lo : List (Option Value)} {st : List Value} {M : mm_M} {ee : Option α} {d : Nat} (hD : isD d = true) (hj : j.1.cls = RX2) (hd : decode j.2.1 pc = .ok (.getfield 100, 3)) (k1 : Snd inj j X (pc + 3) lo (.int (mI M d 0) :: st) M ee) : Snd inj j X pc lo (.ref d :: st) M ee := sn_gI (k := 0) (T := TX0) rfl iw0 (isD_obj hD) (isD_pos hD) (by decide) (isD_k0 hD 0 (by decide)) (by rw [hj]; exact w_fl_X2_100) hd k1
theorem g_X2_44 {α : Type} {inj : α → Option Value × mm_M} {j : mm_J} {X : mm_X} {pc : Nat} {lo : List (Option Value)} {st : List Value} {M : mm_M} {ee : Option α} (hj : j.1.cls = RX2) (hd : decode j.2.1 pc = .ok (.getfield 44, 3)) (k1 : Snd inj j X (pc + 3) lo (.ref 36 :: st) M ee) : Snd inj j X pc lo (.ref 26 :: st) M ee := sn_gR 36 (k := 11) (T := TX2) rfl iw2 rfl ⟨by decide, by decide⟩ (by decide) rfl (by rw [hj]; exact w_fl_X2_44) hd k1
theorem g_X2_47 {α : Type} {inj : α → Option Value × mm_M} {j : mm_J} {X : mm_X} {pc : Nat} {lo : List (Option Value)} {st : List Value} {M : mm_M} {ee : Option α} (hj : j.1.cls = RX2) (hd : decode j.2.1 pc = .ok (.getfield 47, 3)) (k1 : Snd inj j X (pc + 3) lo (.ref 37 :: st) M ee) : Snd inj j X pc lo (.ref 26 :: st) M ee := sn_gR 37 (k := 12) (T := TX2) rfl iw2 rfl ⟨by decide, by decide⟩ (by decide) rfl (by rw [hj]; exact w_fl_X2_47) hd k1
theorem g_X2_59 {α : Type} {inj : α → Option Value × mm_M} {j : mm_J} {X : mm_X} {pc : Nat} {lo : List (Option Value)} {st : List Value} {M : mm_M} {ee : Option α} (hj : j.1.cls = RX2) (hd : decode j.2.1 pc = .ok (.getfield 59, 3)) (k1 : Snd inj j X (pc + 3) lo (.int (mI M 26 16) :: st) M ee) : Snd inj j X pc lo (.ref 26 :: st) M ee := sn_gI (k := 16) (T := TX2) rfl iw2 rfl ⟨by decide, by decide⟩ (by decide) rfl (by rw [hj]; exact w_fl_X2_59) hd k1
theorem p_X2_59 {α : Type} {inj : α → Option Value × mm_M} {j : mm_J} {X : mm_X} {pc : Nat} {lo : List (Option Value)} {st : List Value} {M : mm_M} {ex : mm_M → Option α} {v : Int32} (hj : j.1.cls = RX2) (hd : decode j.2.1 pc = .ok (.putfield 59, 3)) (k1 : ∀ M, Snd inj j X (pc + 3) lo st M (ex M)) : Snd inj j X pc lo (.int v :: .ref 26 :: st) M (bM (sI M 26 16 v) ex) := sn_pI (k := 16) (T := TX2) tyX2 tyX2_ok nmX2 rfl iw2 rfl ⟨by decide, by decide⟩ (by decide) rfl rfl (tyX2_ok 16 (by decide)) (by rw [hj]; exact w_fl_X2_59) hd k1
theorem g_X2_56 {α : Type} {inj : α → Option Value × mm_M} {j : mm_J} {X : mm_X} {pc : Nat} {lo : List (Option Value)} {st : List Value} {M : mm_M} {ee : Option α} (hj : j.1.cls = RX2) (hd : decode j.2.1 pc = .ok (.getfield 56, 3)) (k1 : Snd inj j X (pc + 3) lo (.int (mI M 26 15) :: st) M ee) : Snd inj j X pc lo (.ref 26 :: st) M ee := sn_gI (k := 15) (T := TX2) rfl iw2 rfl ⟨by decide, by decide⟩ (by decide) rfl (by rw [hj]; exact w_fl_X2_56) hd k1
theorem p_X2_56 {α : Type} {inj : α → Option Value × mm_M} {j : mm_J} {X : mm_X} {pc : Nat} {lo : List (Option Value)} {st : List Value} {M : mm_M} {ex : mm_M → Option α} {v : Int32} (hj : j.1.cls = RX2) (hd : decode j.2.1 pc = .ok (.putfield 56, 3)) (k1 : ∀ M, Snd inj j X (pc + 3) lo st M (ex M)) : Snd inj j X pc lo (.int v :: .ref 26 :: st) M (bM (sI M 26 15 v) ex) := sn_pI (k := 15) (T := TX2) tyX2 tyX2_ok nmX2 rfl iw2 rfl ⟨by decide, by decide⟩ (by decide) rfl rfl (tyX2_ok 15 (by decide)) (by rw [hj]; exact w_fl_X2_56) hd k1
theorem g_X2_50 {α : Type} {inj : α → Option Value × mm_M} {j : mm_J} {X : mm_X} {pc : Nat} {lo : List (Option Value)} {st : List Value} {M : mm_M} {ee : Option α} (hj : j.1.cls = RX2) (hd : decode j.2.1 pc = .ok (.getfield 50, 3)) (k1 : Snd inj j X (pc + 3) lo (.ref 38 :: st) M ee) : Snd inj j X pc lo (.ref 26 :: st) M ee := sn_gR 38 (k := 13) (T := TX2) rfl iw2 rfl ⟨by decide, by decide⟩ (by decide) rfl (by rw [hj]; exact w_fl_X2_50) hd k1
theorem p_X2_62 {α : Type} {inj : α → Option Value × mm_M} {j : mm_J} {X : mm_X} {pc : Nat} {lo : List (Option Value)} {st : List Value} {M : mm_M} {ex : mm_M → Option α} {v : Int32} (hj : j.1.cls = RX2) (hd : decode j.2.1 pc = .ok (.putfield 62, 3)) (k1 : ∀ M, Snd inj j X (pc + 3) lo st M (ex M)) : Snd inj j X pc lo (.int v :: .ref 26 :: st) M (bM (sI M 26 17 v) ex) := sn_pI (k := 17) (T := TX2) tyX2 tyX2_ok nmX2 rfl iw2 rfl ⟨by decide, by decide⟩ (by decide) rfl rfl (tyX2_ok 17 (by decide)) (by rw [hj]; exact w_fl_X2_62) hd k1
theorem g_X2_53 {α : Type} {inj : α → Option Value × mm_M} {j : mm_J} {X : mm_X} {pc : Nat} {lo : List (Option Value)} {st : List Value} {M : mm_M} {ee : Option α} (hj : j.1.cls = RX2) (hd : decode j.2.1 pc = .ok (.getfield 53, 3)) (k1 : Snd inj j X (pc + 3) lo (.ref 39 :: st) M ee) : Snd inj j X pc lo (.ref 26 :: st) M ee := sn_gR 39 (k := 14) (T := TX2) rfl iw2 rfl ⟨by decide, by decide⟩ (by decide) rfl (by rw [hj]; exact w_fl_X2_53) hd k1
theorem g_X2_62 {α : Type} {inj : α → Option Value × mm_M} {j : mm_J} {X : mm_X} {pc : Nat} {lo : List (Option Value)} {st : List Value} {M : mm_M} {ee : Option α} (hj : j.1.cls = RX2) (hd : decode j.2.1 pc = .ok (.getfield 62, 3)) (k1 : Snd inj j X (pc + 3) lo (.int (mI M 26 17) :: st) M ee) : Snd inj j X pc lo (.ref 26 :: st) M ee := sn_gI (k := 17) (T := TX2) rfl iw2 rfl ⟨by decide, by decide⟩ (by decide) rfl (by rw [hj]; exact w_fl_X2_62) hd k1
theorem g_X2_37 {α : Type} {inj : α → Option Value × mm_M} {j : mm_J} {X : mm_X} {pc : Nat} {lo : List (Option Value)} {st : List Value} {M : mm_M} {ee : Option α} (hj : j.1.cls = RX2) (hd : decode j.2.1 pc = .ok (.getfield 37, 3)) (k1 : Snd inj j X (pc + 3) lo (.ref 34 :: st) M ee) : Snd inj j X pc lo (.ref 26 :: st) M ee := sn_gR 34 (k := 9) (T := TX2) rfl iw2 rfl ⟨by decide, by decide⟩ (by decide) rfl (by rw [hj]; exact w_fl_X2_37) hd k1
theorem g_X2_41 {α : Type} {inj : α → Option Value × mm_M} {j : mm_J} {X : mm_X} {pc : Nat} {lo : List (Option Value)} {st : List Value} {M : mm_M} {ee : Option α} (hj : j.1.cls = RX2) (hd : decode j.2.1 pc = .ok (.getfield 41, 3)) (k1 : Snd inj j X (pc + 3) lo (.ref 35 :: st) M ee) : Snd inj j X pc lo (.ref 26 :: st) M ee := sn_gR 35 (k := 10) (T := TX2) rfl iw2 rfl ⟨by decide, by decide⟩ (by decide) rfl (by rw [hj]; exact w_fl_X2_41) hd k1
theorem g_X2_65 {α : Type} {inj : α → Option Value × mm_M} {j : mm_J} {X : mm_X} {pc : Nat} {lo : List (Option Value)} {st : List Value} {M : mm_M} {ee : Option α} (hj : j.1.cls = RX2) (hd : decode j.2.1 pc = .ok (.getfield 65, 3)) (k1 : Snd inj j X (pc + 3) lo (.ref 40 :: st) M ee) : Snd inj j X pc lo (.ref 26 :: st) M ee := sn_gR 40 (k := 18) (T := TX2) rfl iw2 rfl ⟨by decide, by decide⟩ (by decide) rfl (by rw [hj]; exact w_fl_X2_65) hd k1
theorem g_X2_138 {α : Type} {inj : α → Option Value × mm_M} {j : mm_J} {X : mm_X} {pc : Nat} {lo : List (Option Value)} {st : List Value} {M : mm_M} {ee : Option α} {d : Nat} (hD : isD d = true) (hj : j.1.cls = RX2) (hd : decode j.2.1 pc = .ok (.getfield 138, 3)) (k1 : Snd inj j X (pc + 3) lo (.ref (d + 2) :: st) M ee) : Snd inj j X pc lo (.ref d :: st) M ee := sn_gR (d + 2) (k := 4) (T := TX0) rfl iw0 (isD_obj hD) (isD_pos hD) (by decide) (isD_kR hD 4 2 rfl (by decide)) (by rw [hj]; exact w_fl_X2_138) hd k1
theorem g_X5_9 {α : Type} {inj : α → Option Value × mm_M} {j : mm_J} {X : mm_X} {pc : Nat} {lo : List (Option Value)} {st : List Value} {M : mm_M} {ee : Option α} (hj : j.1.cls = RX5) (hd : decode j.2.1 pc = .ok (.getfield 9, 3)) (k1 : Snd inj j X (pc + 3) lo (.ref 21 :: st) M ee) : Snd inj j X pc lo (.ref 20 :: st) M ee := sn_gR 21 (k := 0) (T := TX5) rfl iw5 rfl ⟨by decide, by decide⟩ (by decide) rfl (by rw [hj]; exact w_fl_X5_9) hd k1
theorem g_X5_28 {α : Type} {inj : α → Option Value × mm_M} {j : mm_J} {X : mm_X} {pc : Nat} {lo : List (Option Value)} {st : List Value} {M : mm_M} {ee : Option α} (hj : j.1.cls = RX5) (hd : decode j.2.1 pc = .ok (.getfield 28, 3)) (k1 : Snd inj j X (pc + 3) lo (.int (mI M 20 5) :: st) M ee) : Snd inj j X pc lo (.ref 20 :: st) M ee := sn_gI (k := 5) (T := TX5) rfl iw5 rfl ⟨by decide, by decide⟩ (by decide) rfl (by rw [hj]; exact w_fl_X5_28) hd k1
theorem g_X5_22 {α : Type} {inj : α → Option Value × mm_M} {j : mm_J} {X : mm_X} {pc : Nat} {lo : List (Option Value)} {st : List Value} {M : mm_M} {ee : Option α} (hj : j.1.cls = RX5) (hd : decode j.2.1 pc = .ok (.getfield 22, 3)) (k1 : Snd inj j X (pc + 3) lo (.int (mI M 20 3) :: st) M ee) : Snd inj j X pc lo (.ref 20 :: st) M ee := sn_gI (k := 3) (T := TX5) rfl iw5 rfl ⟨by decide, by decide⟩ (by decide) rfl (by rw [hj]; exact w_fl_X5_22) hd k1
theorem p_X5_25 {α : Type} {inj : α → Option Value × mm_M} {j : mm_J} {X : mm_X} {pc : Nat} {lo : List (Option Value)} {st : List Value} {M : mm_M} {ex : mm_M → Option α} {v : Int32} (hj : j.1.cls = RX5) (hd : decode j.2.1 pc = .ok (.putfield 25, 3)) (k1 : ∀ M, Snd inj j X (pc + 3) lo st M (ex M)) : Snd inj j X pc lo (.int v :: .ref 20 :: st) M (bM (sI M 20 4 v) ex) := sn_pI (k := 4) (T := TX5) tyX5 tyX5_ok nmX5 rfl iw5 rfl ⟨by decide, by decide⟩ (by decide) rfl rfl (tyX5_ok 4 (by decide)) (by rw [hj]; exact w_fl_X5_25) hd k1
theorem p_X5_28 {α : Type} {inj : α → Option Value × mm_M} {j : mm_J} {X : mm_X} {pc : Nat} {lo : List (Option Value)} {st : List Value} {M : mm_M} {ex : mm_M → Option α} {v : Int32} (hj : j.1.cls = RX5) (hd : decode j.2.1 pc = .ok (.putfield 28, 3)) (k1 : ∀ M, Snd inj j X (pc + 3) lo st M (ex M)) : Snd inj j X pc lo (.int v :: .ref 20 :: st) M (bM (sI M 20 5 v) ex) := sn_pI (k := 5) (T := TX5) tyX5 tyX5_ok nmX5 rfl iw5 rfl ⟨by decide, by decide⟩ (by decide) rfl rfl (tyX5_ok 5 (by decide)) (by rw [hj]; exact w_fl_X5_28) hd k1
theorem g_X5_15 {α : Type} {inj : α → Option Value × mm_M} {j : mm_J} {X : mm_X} {pc : Nat} {lo : List (Option Value)} {st : List Value} {M : mm_M} {ee : Option α} (hj : j.1.cls = RX5) (hd : decode j.2.1 pc = .ok (.getfield 15, 3)) (k1 : Snd inj j X (pc + 3) lo (.int (mI M 20 1) :: st) M ee) : Snd inj j X pc lo (.ref 20 :: st) M ee := sn_gI (k := 1) (T := TX5) rfl iw5 rfl ⟨by decide, by decide⟩ (by decide) rfl (by rw [hj]; exact w_fl_X5_15) hd k1
theorem g_X5_25 {α : Type} {inj : α → Option Value × mm_M} {j : mm_J} {X : mm_X} {pc : Nat} {lo : List (Option Value)} {st : List Value} {M : mm_M} {ee : Option α} (hj : j.1.cls = RX5) (hd : decode j.2.1 pc = .ok (.getfield 25, 3)) (k1 : Snd inj j X (pc + 3) lo (.int (mI M 20 4) :: st) M ee) : Snd inj j X pc lo (.ref 20 :: st) M ee := sn_gI (k := 4) (T := TX5) rfl iw5 rfl ⟨by decide, by decide⟩ (by decide) rfl (by rw [hj]; exact w_fl_X5_25) hd k1
theorem p_X5_19 {α : Type} {inj : α → Option Value × mm_M} {j : mm_J} {X : mm_X} {pc : Nat} {lo : List (Option Value)} {st : List Value} {M : mm_M} {ex : mm_M → Option α} {v : Int32} (hj : j.1.cls = RX5) (hd : decode j.2.1 pc = .ok (.putfield 19, 3)) (k1 : ∀ M, Snd inj j X (pc + 3) lo st M (ex M)) : Snd inj j X pc lo (.int v :: .ref 20 :: st) M (bM (sI M 20 2 v) ex) := sn_pI (k := 2) (T := TX5) tyX5 tyX5_ok nmX5 rfl iw5 rfl ⟨by decide, by decide⟩ (by decide) rfl rfl (tyX5_ok 2 (by decide)) (by rw [hj]; exact w_fl_X5_19) hd k1
theorem p_X5_22 {α : Type} {inj : α → Option Value × mm_M} {j : mm_J} {X : mm_X} {pc : Nat} {lo : List (Option Value)} {st : List Value} {M : mm_M} {ex : mm_M → Option α} {v : Int32} (hj : j.1.cls = RX5) (hd : decode j.2.1 pc = .ok (.putfield 22, 3)) (k1 : ∀ M, Snd inj j X (pc + 3) lo st M (ex M)) : Snd inj j X pc lo (.int v :: .ref 20 :: st) M (bM (sI M 20 3 v) ex) := sn_pI (k := 3) (T := TX5) tyX5 tyX5_ok nmX5 rfl iw5 rfl ⟨by decide, by decide⟩ (by decide) rfl rfl (tyX5_ok 3 (by decide)) (by rw [hj]; exact w_fl_X5_22) hd k1
theorem g_X5_19 {α : Type} {inj : α → Option Value × mm_M} {j : mm_J} {X : mm_X} {pc : Nat} {lo : List (Option Value)} {st : List Value} {M : mm_M} {ee : Option α} (hj : j.1.cls = RX5) (hd : decode j.2.1 pc = .ok (.getfield 19, 3)) (k1 : Snd inj j X (pc + 3) lo (.int (mI M 20 2) :: st) M ee) : Snd inj j X pc lo (.ref 20 :: st) M ee := sn_gI (k := 2) (T := TX5) rfl iw5 rfl ⟨by decide, by decide⟩ (by decide) rfl (by rw [hj]; exact w_fl_X5_19) hd k1
theorem g_X3_9 {α : Type} {inj : α → Option Value × mm_M} {j : mm_J} {X : mm_X} {pc : Nat} {lo : List (Option Value)} {st : List Value} {M : mm_M} {ee : Option α} (hj : j.1.cls = RX3) (hd : decode j.2.1 pc = .ok (.getfield 9, 3)) (k1 : Snd inj j X (pc + 3) lo (.int (mI M 22 1) :: st) M ee) : Snd inj j X pc lo (.ref 22 :: st) M ee := sn_gI (k := 1) (T := TX3) rfl iw3 rfl ⟨by decide, by decide⟩ (by decide) rfl (by rw [hj]; exact w_fl_X3_9) hd k1
theorem g_X3_15 {α : Type} {inj : α → Option Value × mm_M} {j : mm_J} {X : mm_X} {pc : Nat} {lo : List (Option Value)} {st : List Value} {M : mm_M} {ee : Option α} (hj : j.1.cls = RX3) (hd : decode j.2.1 pc = .ok (.getfield 15, 3)) (k1 : Snd inj j X (pc + 3) lo (.ref 20 :: st) M ee) : Snd inj j X pc lo (.ref 22 :: st) M ee := sn_gR 20 (k := 0) (T := TX3) rfl iw3 rfl ⟨by decide, by decide⟩ (by decide) rfl (by rw [hj]; exact w_fl_X3_15) hd k1
theorem g_X3_31 {α : Type} {inj : α → Option Value × mm_M} {j : mm_J} {X : mm_X} {pc : Nat} {lo : List (Option Value)} {st : List Value} {M : mm_M} {ee : Option α} (hj : j.1.cls = RX3) (hd : decode j.2.1 pc = .ok (.getfield 31, 3)) (k1 : Snd inj j X (pc + 3) lo (.int (mI M 20 3) :: st) M ee) : Snd inj j X pc lo (.ref 20 :: st) M ee := sn_gI (k := 3) (T := TX5) rfl iw5 rfl ⟨by decide, by decide⟩ (by decide) rfl (by rw [hj]; exact w_fl_X3_31) hd k1
theorem p_X3_9 {α : Type} {inj : α → Option Value × mm_M} {j : mm_J} {X : mm_X} {pc : Nat} {lo : List (Option Value)} {st : List Value} {M : mm_M} {ex : mm_M → Option α} {v : Int32} (hj : j.1.cls = RX3) (hd : decode j.2.1 pc = .ok (.putfield 9, 3)) (k1 : ∀ M, Snd inj j X (pc + 3) lo st M (ex M)) : Snd inj j X pc lo (.int v :: .ref 22 :: st) M (bM (sI M 22 1 v) ex) := sn_pI (k := 1) (T := TX3) tyX3 tyX3_ok nmX3 rfl iw3 rfl ⟨by decide, by decide⟩ (by decide) rfl rfl (tyX3_ok 1 (by decide)) (by rw [hj]; exact w_fl_X3_9) hd k1
theorem g_X3_24 {α : Type} {inj : α → Option Value × mm_M} {j : mm_J} {X : mm_X} {pc : Nat} {lo : List (Option Value)} {st : List Value} {M : mm_M} {ee : Option α} (hj : j.1.cls = RX3) (hd : decode j.2.1 pc = .ok (.getfield 24, 3)) (k1 : Snd inj j X (pc + 3) lo (.int (mI M 20 2) :: st) M ee) : Snd inj j X pc lo (.ref 20 :: st) M ee := sn_gI (k := 2) (T := TX5) rfl iw5 rfl ⟨by decide, by decide⟩ (by decide) rfl (by rw [hj]; exact w_fl_X3_24) hd k1
theorem g_X3_87 {α : Type} {inj : α → Option Value × mm_M} {j : mm_J} {X : mm_X} {pc : Nat} {lo : List (Option Value)} {st : List Value} {M : mm_M} {ee : Option α} (hj : j.1.cls = RX3) (hd : decode j.2.1 pc = .ok (.getfield 87, 3)) (k1 : Snd inj j X (pc + 3) lo (.int (mI M 20 4) :: st) M ee) : Snd inj j X pc lo (.ref 20 :: st) M ee := sn_gI (k := 4) (T := TX5) rfl iw5 rfl ⟨by decide, by decide⟩ (by decide) rfl (by rw [hj]; exact w_fl_X3_87) hd k1
theorem g_X3_103 {α : Type} {inj : α → Option Value × mm_M} {j : mm_J} {X : mm_X} {pc : Nat} {lo : List (Option Value)} {st : List Value} {M : mm_M} {ee : Option α} {d : Nat} (hD : isD d = true) (hj : j.1.cls = RX3) (hd : decode j.2.1 pc = .ok (.getfield 103, 3)) (k1 : Snd inj j X (pc + 3) lo (.int (mI M d 0) :: st) M ee) : Snd inj j X pc lo (.ref d :: st) M ee := sn_gI (k := 0) (T := TX0) rfl iw0 (isD_obj hD) (isD_pos hD) (by decide) (isD_k0 hD 0 (by decide)) (by rw [hj]; exact w_fl_X3_103) hd k1
theorem g_X3_116 {α : Type} {inj : α → Option Value × mm_M} {j : mm_J} {X : mm_X} {pc : Nat} {lo : List (Option Value)} {st : List Value} {M : mm_M} {ee : Option α} {d : Nat} (hD : isD d = true) (hj : j.1.cls = RX3) (hd : decode j.2.1 pc = .ok (.getfield 116, 3)) (k1 : Snd inj j X (pc + 3) lo (.int (mI M d 1) :: st) M ee) : Snd inj j X pc lo (.ref d :: st) M ee := sn_gI (k := 1) (T := TX0) rfl iw0 (isD_obj hD) (isD_pos hD) (by decide) (isD_k0 hD 1 (by decide)) (by rw [hj]; exact w_fl_X3_116) hd k1
theorem p_X3_116 {α : Type} {inj : α → Option Value × mm_M} {j : mm_J} {X : mm_X} {pc : Nat} {lo : List (Option Value)} {st : List Value} {M : mm_M} {d : Nat} {v : Int32} {ex : mm_M → Option α} (hD : isD d = true) (hj : j.1.cls = RX3) (hd : decode j.2.1 pc = .ok (.putfield 116, 3)) (k1 : ∀ M, Snd inj j X (pc + 3) lo st M (ex M)) : Snd inj j X pc lo (.int v :: .ref d :: st) M (bM (sI M d 1 v) ex) := sn_pI (k := 1) (T := TX0) tyX0 tyX0_ok nmX0 rfl iw0 (isD_obj hD) (isD_pos hD) (by decide) rfl (isD_k0 hD 1 (by decide)) (tyX0_ok 1 (by decide)) (by rw [hj]; exact w_fl_X3_116) hd k1
theorem g_X3_119 {α : Type} {inj : α → Option Value × mm_M} {j : mm_J} {X : mm_X} {pc : Nat} {lo : List (Option Value)} {st : List Value} {M : mm_M} {ee : Option α} {d : Nat} (hD : isD d = true) (hj : j.1.cls = RX3) (hd : decode j.2.1 pc = .ok (.getfield 119, 3)) (k1 : Snd inj j X (pc + 3) lo (.ref (d + 4) :: st) M ee) : Snd inj j X pc lo (.ref d :: st) M ee := sn_gR (d + 4) (k := 6) (T := TX0) rfl iw0 (isD_obj hD) (isD_pos hD) (by decide) (isD_kR hD 6 4 rfl (by decide)) (by rw [hj]; exact w_fl_X3_119) hd k1
theorem g_X3_126 {α : Type} {inj : α → Option Value × mm_M} {j : mm_J} {X : mm_X} {pc : Nat} {lo : List (Option Value)} {st : List Value} {M : mm_M} {ee : Option α} {d : Nat} (hD : isD d = true) (hj : j.1.cls = RX3) (hd : decode j.2.1 pc = .ok (.getfield 126, 3)) (k1 : Snd inj j X (pc + 3) lo (.int (mI M d 2) :: st) M ee) : Snd inj j X pc lo (.ref d :: st) M ee := sn_gI (k := 2) (T := TX0) rfl iw0 (isD_obj hD) (isD_pos hD) (by decide) (isD_k0 hD 2 (by decide)) (by rw [hj]; exact w_fl_X3_126) hd k1
theorem g_X3_142 {α : Type} {inj : α → Option Value × mm_M} {j : mm_J} {X : mm_X} {pc : Nat} {lo : List (Option Value)} {st : List Value} {M : mm_M} {ee : Option α} {d : Nat} (hD : isD d = true) (hj : j.1.cls = RX3) (hd : decode j.2.1 pc = .ok (.getfield 142, 3)) (k1 : Snd inj j X (pc + 3) lo (.ref (d + 3) :: st) M ee) : Snd inj j X pc lo (.ref d :: st) M ee := sn_gR (d + 3) (k := 5) (T := TX0) rfl iw0 (isD_obj hD) (isD_pos hD) (by decide) (isD_kR hD 5 3 rfl (by decide)) (by rw [hj]; exact w_fl_X3_142) hd k1
theorem g_X4_15 {α : Type} {inj : α → Option Value × mm_M} {j : mm_J} {X : mm_X} {pc : Nat} {lo : List (Option Value)} {st : List Value} {M : mm_M} {ee : Option α} (hj : j.1.cls = RX4) (hd : decode j.2.1 pc = .ok (.getfield 15, 3)) (k1 : Snd inj j X (pc + 3) lo (.ref 43 :: st) M ee) : Snd inj j X pc lo (.ref 41 :: st) M ee := sn_gR 43 (k := 1) (T := TX4) rfl iw4 rfl ⟨by decide, by decide⟩ (by decide) rfl (by rw [hj]; exact w_fl_X4_15) hd k1
theorem g_X4_18 {α : Type} {inj : α → Option Value × mm_M} {j : mm_J} {X : mm_X} {pc : Nat} {lo : List (Option Value)} {st : List Value} {M : mm_M} {ee : Option α} (hj : j.1.cls = RX4) (hd : decode j.2.1 pc = .ok (.getfield 18, 3)) (k1 : Snd inj j X (pc + 3) lo (.ref 44 :: st) M ee) : Snd inj j X pc lo (.ref 41 :: st) M ee := sn_gR 44 (k := 2) (T := TX4) rfl iw4 rfl ⟨by decide, by decide⟩ (by decide) rfl (by rw [hj]; exact w_fl_X4_18) hd k1
theorem g_X4_49 {α : Type} {inj : α → Option Value × mm_M} {j : mm_J} {X : mm_X} {pc : Nat} {lo : List (Option Value)} {st : List Value} {M : mm_M} {ee : Option α} {d : Nat} (hD : isD d = true) (hj : j.1.cls = RX4) (hd : decode j.2.1 pc = .ok (.getfield 49, 3)) (k1 : Snd inj j X (pc + 3) lo (.ref (d + 1) :: st) M ee) : Snd inj j X pc lo (.ref d :: st) M ee := sn_gR (d + 1) (k := 3) (T := TX0) rfl iw0 (isD_obj hD) (isD_pos hD) (by decide) (isD_kR hD 3 1 rfl (by decide)) (by rw [hj]; exact w_fl_X4_49) hd k1
theorem g_X4_21 {α : Type} {inj : α → Option Value × mm_M} {j : mm_J} {X : mm_X} {pc : Nat} {lo : List (Option Value)} {st : List Value} {M : mm_M} {ee : Option α} {d : Nat} (hD : isD d = true) (hj : j.1.cls = RX4) (hd : decode j.2.1 pc = .ok (.getfield 21, 3)) (k1 : Snd inj j X (pc + 3) lo (.int (mI M d 2) :: st) M ee) : Snd inj j X pc lo (.ref d :: st) M ee := sn_gI (k := 2) (T := TX0) rfl iw0 (isD_obj hD) (isD_pos hD) (by decide) (isD_k0 hD 2 (by decide)) (by rw [hj]; exact w_fl_X4_21) hd k1
theorem g_X4_9 {α : Type} {inj : α → Option Value × mm_M} {j : mm_J} {X : mm_X} {pc : Nat} {lo : List (Option Value)} {st : List Value} {M : mm_M} {ee : Option α} (hj : j.1.cls = RX4) (hd : decode j.2.1 pc = .ok (.getfield 9, 3)) (k1 : Snd inj j X (pc + 3) lo (.ref 42 :: st) M ee) : Snd inj j X pc lo (.ref 41 :: st) M ee := sn_gR 42 (k := 0) (T := TX4) rfl iw4 rfl ⟨by decide, by decide⟩ (by decide) rfl (by rw [hj]; exact w_fl_X4_9) hd k1
theorem g_X4_31 {α : Type} {inj : α → Option Value × mm_M} {j : mm_J} {X : mm_X} {pc : Nat} {lo : List (Option Value)} {st : List Value} {M : mm_M} {ee : Option α} {d : Nat} (hD : isD d = true) (hj : j.1.cls = RX4) (hd : decode j.2.1 pc = .ok (.getfield 31, 3)) (k1 : Snd inj j X (pc + 3) lo (.int (mI M d 0) :: st) M ee) : Snd inj j X pc lo (.ref d :: st) M ee := sn_gI (k := 0) (T := TX0) rfl iw0 (isD_obj hD) (isD_pos hD) (by decide) (isD_k0 hD 0 (by decide)) (by rw [hj]; exact w_fl_X4_31) hd k1
theorem p_X5_15 {α : Type} {inj : α → Option Value × mm_M} {j : mm_J} {X : mm_X} {pc : Nat} {lo : List (Option Value)} {st : List Value} {M : mm_M} {ex : mm_M → Option α} {v : Int32} (hj : j.1.cls = RX5) (hd : decode j.2.1 pc = .ok (.putfield 15, 3)) (k1 : ∀ M, Snd inj j X (pc + 3) lo st M (ex M)) : Snd inj j X pc lo (.int v :: .ref 20 :: st) M (bM (sI M 20 1 v) ex) := sn_pI (k := 1) (T := TX5) tyX5 tyX5_ok nmX5 rfl iw5 rfl ⟨by decide, by decide⟩ (by decide) rfl rfl (tyX5_ok 1 (by decide)) (by rw [hj]; exact w_fl_X5_15) hd k1
theorem g_X6_22 {α : Type} {inj : α → Option Value × mm_M} {j : mm_J} {X : mm_X} {pc : Nat} {lo : List (Option Value)} {st : List Value} {M : mm_M} {ee : Option α} (hj : j.1.cls = RX6) (hd : decode j.2.1 pc = .ok (.getfield 22, 3)) (k1 : Snd inj j X (pc + 3) lo (.ref 20 :: st) M ee) : Snd inj j X pc lo (.ref 1 :: st) M ee := sn_gR 20 (k := 2) (T := TX6) rfl iw6 rfl ⟨by decide, by decide⟩ (by decide) rfl (by rw [hj]; exact w_fl_X6_22) hd k1
theorem g_X6_66 {α : Type} {inj : α → Option Value × mm_M} {j : mm_J} {X : mm_X} {pc : Nat} {lo : List (Option Value)} {st : List Value} {M : mm_M} {ee : Option α} (hj : j.1.cls = RX6) (hd : decode j.2.1 pc = .ok (.getfield 66, 3)) (k1 : Snd inj j X (pc + 3) lo (.int (mI M 20 1) :: st) M ee) : Snd inj j X pc lo (.ref 20 :: st) M ee := sn_gI (k := 1) (T := TX5) rfl iw5 rfl ⟨by decide, by decide⟩ (by decide) rfl (by rw [hj]; exact w_fl_X6_66) hd k1
theorem p_X6_66 {α : Type} {inj : α → Option Value × mm_M} {j : mm_J} {X : mm_X} {pc : Nat} {lo : List (Option Value)} {st : List Value} {M : mm_M} {ex : mm_M → Option α} {v : Int32} (hj : j.1.cls = RX6) (hd : decode j.2.1 pc = .ok (.putfield 66, 3)) (k1 : ∀ M, Snd inj j X (pc + 3) lo st M (ex M)) : Snd inj j X pc lo (.int v :: .ref 20 :: st) M (bM (sI M 20 1 v) ex) := sn_pI (k := 1) (T := TX5) tyX5 tyX5_ok nmX5 rfl iw5 rfl ⟨by decide, by decide⟩ (by decide) rfl rfl (tyX5_ok 1 (by decide)) (by rw [hj]; exact w_fl_X6_66) hd k1
theorem g_X6_16 {α : Type} {inj : α → Option Value × mm_M} {j : mm_J} {X : mm_X} {pc : Nat} {lo : List (Option Value)} {st : List Value} {M : mm_M} {ex : Nat → Option α} (hj : j.1.cls = RX6) (hd : decode j.2.1 pc = .ok (.getfield 16, 3)) (k1 : ∀ d, Snd inj j X (pc + 3) lo (.ref d :: st) M (ex d)) : Snd inj j X pc lo (.ref 1 :: st) M (bN (mDra M) ex) := sn_gDra iw6 (by rw [hj]; exact w_fl_X6_16) hd k1
theorem g_X6_12 {α : Type} {inj : α → Option Value × mm_M} {j : mm_J} {X : mm_X} {pc : Nat} {lo : List (Option Value)} {st : List Value} {M : mm_M} {ex : Nat → Option α} (hj : j.1.cls = RX6) (hd : decode j.2.1 pc = .ok (.getfield 12, 3)) (k1 : ∀ d, Snd inj j X (pc + 3) lo (.ref d :: st) M (ex d)) : Snd inj j X pc lo (.ref 1 :: st) M (bN (mNow M) ex) := sn_gNow iw6 (by rw [hj]; exact w_fl_X6_12) hd k1
theorem g_X6_31 {α : Type} {inj : α → Option Value × mm_M} {j : mm_J} {X : mm_X} {pc : Nat} {lo : List (Option Value)} {st : List Value} {M : mm_M} {ee : Option α} (hj : j.1.cls = RX6) (hd : decode j.2.1 pc = .ok (.getfield 31, 3)) (k1 : Snd inj j X (pc + 3) lo (.ref 22 :: st) M ee) : Snd inj j X pc lo (.ref 1 :: st) M ee := sn_gR 22 (k := 3) (T := TX6) rfl iw6 rfl ⟨by decide, by decide⟩ (by decide) rfl (by rw [hj]; exact w_fl_X6_31) hd k1
theorem p_X6_12 {α : Type} {inj : α → Option Value × mm_M} {j : mm_J} {X : mm_X} {pc : Nat} {lo : List (Option Value)} {st : List Value} {M : mm_M} {ex : mm_M → Option α} {d : Nat} (hj : j.1.cls = RX6) (hd : decode j.2.1 pc = .ok (.putfield 12, 3)) (k1 : ∀ M, Snd inj j X (pc + 3) lo st M (ex M)) : Snd inj j X pc lo (.ref d :: .ref 1 :: st) M (bM (sNow M d) ex) := sn_pNow iw6 (by rw [hj]; exact w_fl_X6_12) hd k1
theorem p_X6_16 {α : Type} {inj : α → Option Value × mm_M} {j : mm_J} {X : mm_X} {pc : Nat} {lo : List (Option Value)} {st : List Value} {M : mm_M} {ex : mm_M → Option α} {d : Nat} (hj : j.1.cls = RX6) (hd : decode j.2.1 pc = .ok (.putfield 16, 3)) (k1 : ∀ M, Snd inj j X (pc + 3) lo st M (ex M)) : Snd inj j X pc lo (.ref d :: .ref 1 :: st) M (bM (sDra M d) ex) := sn_pDra iw6 (by rw [hj]; exact w_fl_X6_16) hd k1
theorem p_X6_62 {α : Type} {inj : α → Option Value × mm_M} {j : mm_J} {X : mm_X} {pc : Nat} {lo : List (Option Value)} {st : List Value} {M : mm_M} {ex : mm_M → Option α} {v : Int32} (hz : v = 0 ∨ v = 1) (hj : j.1.cls = RX6) (hd : decode j.2.1 pc = .ok (.putfield 62, 3)) (k1 : ∀ M, Snd inj j X (pc + 3) lo st M (ex M)) : Snd inj j X pc lo (.int v :: .ref 1 :: st) M (bM (sI M 1 8 v) ex) := sn_pZ (k := 8) (T := TX6) hz tyX6 tyX6_ok nmX6 rfl iw6 rfl ⟨by decide, by decide⟩ (by decide) rfl rfl (tyX6_ok 8 (by decide)) (by rw [hj]; exact w_fl_X6_62) hd k1
theorem g_X6_81 {α : Type} {inj : α → Option Value × mm_M} {j : mm_J} {X : mm_X} {pc : Nat} {lo : List (Option Value)} {st : List Value} {M : mm_M} {ee : Option α} (hj : j.1.cls = RX6) (hd : decode j.2.1 pc = .ok (.getfield 81, 3)) (k1 : Snd inj j X (pc + 3) lo (.int (mI M 22 1) :: st) M ee) : Snd inj j X pc lo (.ref 22 :: st) M ee := sn_gI (k := 1) (T := TX3) rfl iw3 rfl ⟨by decide, by decide⟩ (by decide) rfl (by rw [hj]; exact w_fl_X6_81) hd k1
theorem g_X6_94 {α : Type} {inj : α → Option Value × mm_M} {j : mm_J} {X : mm_X} {pc : Nat} {lo : List (Option Value)} {st : List Value} {M : mm_M} {ee : Option α} {d : Nat} (hD : isD d = true) (hj : j.1.cls = RX6) (hd : decode j.2.1 pc = .ok (.getfield 94, 3)) (k1 : Snd inj j X (pc + 3) lo (.int (mI M d 2) :: st) M ee) : Snd inj j X pc lo (.ref d :: st) M ee := sn_gI (k := 2) (T := TX0) rfl iw0 (isD_obj hD) (isD_pos hD) (by decide) (isD_k0 hD 2 (by decide)) (by rw [hj]; exact w_fl_X6_94) hd k1
theorem g_X6_110 {α : Type} {inj : α → Option Value × mm_M} {j : mm_J} {X : mm_X} {pc : Nat} {lo : List (Option Value)} {st : List Value} {M : mm_M} {ee : Option α} {d : Nat} (hD : isD d = true) (hj : j.1.cls = RX6) (hd : decode j.2.1 pc = .ok (.getfield 110, 3)) (k1 : Snd inj j X (pc + 3) lo (.ref (d + 3) :: st) M ee) : Snd inj j X pc lo (.ref d :: st) M ee := sn_gR (d + 3) (k := 5) (T := TX0) rfl iw0 (isD_obj hD) (isD_pos hD) (by decide) (isD_kR hD 5 3 rfl (by decide)) (by rw [hj]; exact w_fl_X6_110) hd k1
theorem g_X6_38 {α : Type} {inj : α → Option Value × mm_M} {j : mm_J} {X : mm_X} {pc : Nat} {lo : List (Option Value)} {st : List Value} {M : mm_M} {ee : Option α} (hj : j.1.cls = RX6) (hd : decode j.2.1 pc = .ok (.getfield 38, 3)) (k1 : Snd inj j X (pc + 3) lo (.ref 23 :: st) M ee) : Snd inj j X pc lo (.ref 1 :: st) M ee := sn_gR 23 (k := 4) (T := TX6) rfl iw6 rfl ⟨by decide, by decide⟩ (by decide) rfl (by rw [hj]; exact w_fl_X6_38) hd k1
theorem g_X6_123 {α : Type} {inj : α → Option Value × mm_M} {j : mm_J} {X : mm_X} {pc : Nat} {lo : List (Option Value)} {st : List Value} {M : mm_M} {ee : Option α} (hj : j.1.cls = RX6) (hd : decode j.2.1 pc = .ok (.getfield 123, 3)) (k1 : Snd inj j X (pc + 3) lo (.int (mI M 23 3) :: st) M ee) : Snd inj j X pc lo (.ref 23 :: st) M ee := sn_gI (k := 3) (T := TX1) rfl iw1 rfl ⟨by decide, by decide⟩ (by decide) rfl (by rw [hj]; exact w_fl_X6_123) hd k1
theorem g_X6_126 {α : Type} {inj : α → Option Value × mm_M} {j : mm_J} {X : mm_X} {pc : Nat} {lo : List (Option Value)} {st : List Value} {M : mm_M} {ee : Option α} {d : Nat} (hD : isD d = true) (hj : j.1.cls = RX6) (hd : decode j.2.1 pc = .ok (.getfield 126, 3)) (k1 : Snd inj j X (pc + 3) lo (.int (mI M d 0) :: st) M ee) : Snd inj j X pc lo (.ref d :: st) M ee := sn_gI (k := 0) (T := TX0) rfl iw0 (isD_obj hD) (isD_pos hD) (by decide) (isD_k0 hD 0 (by decide)) (by rw [hj]; exact w_fl_X6_126) hd k1
theorem g_X6_129 {α : Type} {inj : α → Option Value × mm_M} {j : mm_J} {X : mm_X} {pc : Nat} {lo : List (Option Value)} {st : List Value} {M : mm_M} {ee : Option α} {d : Nat} (hD : isD d = true) (hj : j.1.cls = RX6) (hd : decode j.2.1 pc = .ok (.getfield 129, 3)) (k1 : Snd inj j X (pc + 3) lo (.int (mI M d 1) :: st) M ee) : Snd inj j X pc lo (.ref d :: st) M ee := sn_gI (k := 1) (T := TX0) rfl iw0 (isD_obj hD) (isD_pos hD) (by decide) (isD_k0 hD 1 (by decide)) (by rw [hj]; exact w_fl_X6_129) hd k1
theorem g_X6_132 {α : Type} {inj : α → Option Value × mm_M} {j : mm_J} {X : mm_X} {pc : Nat} {lo : List (Option Value)} {st : List Value} {M : mm_M} {ee : Option α} {d : Nat} (hD : isD d = true) (hj : j.1.cls = RX6) (hd : decode j.2.1 pc = .ok (.getfield 132, 3)) (k1 : Snd inj j X (pc + 3) lo (.ref (d + 1) :: st) M ee) : Snd inj j X pc lo (.ref d :: st) M ee := sn_gR (d + 1) (k := 3) (T := TX0) rfl iw0 (isD_obj hD) (isD_pos hD) (by decide) (isD_kR hD 3 1 rfl (by decide)) (by rw [hj]; exact w_fl_X6_132) hd k1
theorem g_X6_135 {α : Type} {inj : α → Option Value × mm_M} {j : mm_J} {X : mm_X} {pc : Nat} {lo : List (Option Value)} {st : List Value} {M : mm_M} {ee : Option α} {d : Nat} (hD : isD d = true) (hj : j.1.cls = RX6) (hd : decode j.2.1 pc = .ok (.getfield 135, 3)) (k1 : Snd inj j X (pc + 3) lo (.ref (d + 2) :: st) M ee) : Snd inj j X pc lo (.ref d :: st) M ee := sn_gR (d + 2) (k := 4) (T := TX0) rfl iw0 (isD_obj hD) (isD_pos hD) (by decide) (isD_kR hD 4 2 rfl (by decide)) (by rw [hj]; exact w_fl_X6_135) hd k1
theorem g_X6_152 {α : Type} {inj : α → Option Value × mm_M} {j : mm_J} {X : mm_X} {pc : Nat} {lo : List (Option Value)} {st : List Value} {M : mm_M} {ee : Option α} {d : Nat} (hD : isD d = true) (hj : j.1.cls = RX6) (hd : decode j.2.1 pc = .ok (.getfield 152, 3)) (k1 : Snd inj j X (pc + 3) lo (.ref (d + 4) :: st) M ee) : Snd inj j X pc lo (.ref d :: st) M ee := sn_gR (d + 4) (k := 6) (T := TX0) rfl iw0 (isD_obj hD) (isD_pos hD) (by decide) (isD_kR hD 6 4 rfl (by decide)) (by rw [hj]; exact w_fl_X6_152) hd k1
theorem g_X6_155 {α : Type} {inj : α → Option Value × mm_M} {j : mm_J} {X : mm_X} {pc : Nat} {lo : List (Option Value)} {st : List Value} {M : mm_M} {ee : Option α} {d : Nat} (hD : isD d = true) (hj : j.1.cls = RX6) (hd : decode j.2.1 pc = .ok (.getfield 155, 3)) (k1 : Snd inj j X (pc + 3) lo (.ref (d + 5) :: st) M ee) : Snd inj j X pc lo (.ref d :: st) M ee := sn_gR (d + 5) (k := 7) (T := TX0) rfl iw0 (isD_obj hD) (isD_pos hD) (by decide) (isD_kR hD 7 5 rfl (by decide)) (by rw [hj]; exact w_fl_X6_155) hd k1
theorem g_X6_158 {α : Type} {inj : α → Option Value × mm_M} {j : mm_J} {X : mm_X} {pc : Nat} {lo : List (Option Value)} {st : List Value} {M : mm_M} {ee : Option α} {d : Nat} (hD : isD d = true) (hj : j.1.cls = RX6) (hd : decode j.2.1 pc = .ok (.getfield 158, 3)) (k1 : Snd inj j X (pc + 3) lo (.ref (d + 6) :: st) M ee) : Snd inj j X pc lo (.ref d :: st) M ee := sn_gR (d + 6) (k := 8) (T := TX0) rfl iw0 (isD_obj hD) (isD_pos hD) (by decide) (isD_kR hD 8 6 rfl (by decide)) (by rw [hj]; exact w_fl_X6_158) hd k1
theorem g_X6_174 {α : Type} {inj : α → Option Value × mm_M} {j : mm_J} {X : mm_X} {pc : Nat} {lo : List (Option Value)} {st : List Value} {M : mm_M} {ee : Option α} (hj : j.1.cls = RX6) (hd : decode j.2.1 pc = .ok (.getfield 174, 3)) (k1 : Snd inj j X (pc + 3) lo (.ref 25 :: st) M ee) : Snd inj j X pc lo (.ref 23 :: st) M ee := sn_gR 25 (k := 1) (T := TX1) rfl iw1 rfl ⟨by decide, by decide⟩ (by decide) rfl (by rw [hj]; exact w_fl_X6_174) hd k1
theorem g_X6_62 {α : Type} {inj : α → Option Value × mm_M} {j : mm_J} {X : mm_X} {pc : Nat} {lo : List (Option Value)} {st : List Value} {M : mm_M} {ee : Option α} (hj : j.1.cls = RX6) (hd : decode j.2.1 pc = .ok (.getfield 62, 3)) (k1 : Snd inj j X (pc + 3) lo (.int (mI M 1 8) :: st) M ee) : Snd inj j X pc lo (.ref 1 :: st) M ee := sn_gI (k := 8) (T := TX6) rfl iw6 rfl ⟨by decide, by decide⟩ (by decide) rfl (by rw [hj]; exact w_fl_X6_62) hd k1
theorem g_X6_47 {α : Type} {inj : α → Option Value × mm_M} {j : mm_J} {X : mm_X} {pc : Nat} {lo : List (Option Value)} {st : List Value} {M : mm_M} {ee : Option α} (hj : j.1.cls = RX6) (hd : decode j.2.1 pc = .ok (.getfield 47, 3)) (k1 : Snd inj j X (pc + 3) lo (.ref 26 :: st) M ee) : Snd inj j X pc lo (.ref 1 :: st) M ee := sn_gR 26 (k := 5) (T := TX6) rfl iw6 rfl ⟨by decide, by decide⟩ (by decide) rfl (by rw [hj]; exact w_fl_X6_47) hd k1
theorem g_X6_58 {α : Type} {inj : α → Option Value × mm_M} {j : mm_J} {X : mm_X} {pc : Nat} {lo : List (Option Value)} {st : List Value} {M : mm_M} {ee : Option α} (hj : j.1.cls = RX6) (hd : decode j.2.1 pc = .ok (.getfield 58, 3)) (k1 : Snd inj j X (pc + 3) lo (.ref 45 :: st) M ee) : Snd inj j X pc lo (.ref 1 :: st) M ee := sn_gR 45 (k := 7) (T := TX6) rfl iw6 rfl ⟨by decide, by decide⟩ (by decide) rfl (by rw [hj]; exact w_fl_X6_58) hd k1
theorem g_X6_245 {α : Type} {inj : α → Option Value × mm_M} {j : mm_J} {X : mm_X} {pc : Nat} {lo : List (Option Value)} {st : List Value} {M : mm_M} {ee : Option α} (hj : j.1.cls = RX6) (hd : decode j.2.1 pc = .ok (.getfield 245, 3)) (k1 : Snd inj j X (pc + 3) lo (.ref 28 :: st) M ee) : Snd inj j X pc lo (.ref 26 :: st) M ee := sn_gR 28 (k := 1) (T := TX2) rfl iw2 rfl ⟨by decide, by decide⟩ (by decide) rfl (by rw [hj]; exact w_fl_X6_245) hd k1
theorem g_X6_248 {α : Type} {inj : α → Option Value × mm_M} {j : mm_J} {X : mm_X} {pc : Nat} {lo : List (Option Value)} {st : List Value} {M : mm_M} {ee : Option α} (hj : j.1.cls = RX6) (hd : decode j.2.1 pc = .ok (.getfield 248, 3)) (k1 : Snd inj j X (pc + 3) lo (.ref 27 :: st) M ee) : Snd inj j X pc lo (.ref 26 :: st) M ee := sn_gR 27 (k := 0) (T := TX2) rfl iw2 rfl ⟨by decide, by decide⟩ (by decide) rfl (by rw [hj]; exact w_fl_X6_248) hd k1
theorem p_X6_221 {α : Type} {inj : α → Option Value × mm_M} {j : mm_J} {X : mm_X} {pc : Nat} {lo : List (Option Value)} {st : List Value} {M : mm_M} {ex : mm_M → Option α} {v : Int32} (hj : j.1.cls = RX6) (hd : decode j.2.1 pc = .ok (.putfield 221, 3)) (k1 : ∀ M, Snd inj j X (pc + 3) lo st M (ex M)) : Snd inj j X pc lo (.int v :: .ref 26 :: st) M (bM (sI M 26 2 v) ex) := sn_pI (k := 2) (T := TX2) tyX2 tyX2_ok nmX2 rfl iw2 rfl ⟨by decide, by decide⟩ (by decide) rfl rfl (tyX2_ok 2 (by decide)) (by rw [hj]; exact w_fl_X6_221) hd k1
theorem g_X6_54 {α : Type} {inj : α → Option Value × mm_M} {j : mm_J} {X : mm_X} {pc : Nat} {lo : List (Option Value)} {st : List Value} {M : mm_M} {ee : Option α} (hj : j.1.cls = RX6) (hd : decode j.2.1 pc = .ok (.getfield 54, 3)) (k1 : Snd inj j X (pc + 3) lo (.ref 41 :: st) M ee) : Snd inj j X pc lo (.ref 1 :: st) M ee := sn_gR 41 (k := 6) (T := TX6) rfl iw6 rfl ⟨by decide, by decide⟩ (by decide) rfl (by rw [hj]; exact w_fl_X6_54) hd k1
theorem g_X6_234 {α : Type} {inj : α → Option Value × mm_M} {j : mm_J} {X : mm_X} {pc : Nat} {lo : List (Option Value)} {st : List Value} {M : mm_M} {ee : Option α} (hj : j.1.cls = RX6) (hd : decode j.2.1 pc = .ok (.getfield 234, 3)) (k1 : Snd inj j X (pc + 3) lo (.ref 42 :: st) M ee) : Snd inj j X pc lo (.ref 41 :: st) M ee := sn_gR 42 (k := 0) (T := TX4) rfl iw4 rfl ⟨by decide, by decide⟩ (by decide) rfl (by rw [hj]; exact w_fl_X6_234) hd k1
theorem g_X6_235 {α : Type} {inj : α → Option Value × mm_M} {j : mm_J} {X : mm_X} {pc : Nat} {lo : List (Option Value)} {st : List Value} {M : mm_M} {ee : Option α} (hj : j.1.cls = RX6) (hd : decode j.2.1 pc = .ok (.getfield 235, 3)) (k1 : Snd inj j X (pc + 3) lo (.int (mI M 23 4) :: st) M ee) : Snd inj j X pc lo (.ref 23 :: st) M ee := sn_gI (k := 4) (T := TX1) rfl iw1 rfl ⟨by decide, by decide⟩ (by decide) rfl (by rw [hj]; exact w_fl_X6_235) hd k1
theorem g_X6_238 {α : Type} {inj : α → Option Value × mm_M} {j : mm_J} {X : mm_X} {pc : Nat} {lo : List (Option Value)} {st : List Value} {M : mm_M} {ee : Option α} (hj : j.1.cls = RX6) (hd : decode j.2.1 pc = .ok (.getfield 238, 3)) (k1 : Snd inj j X (pc + 3) lo (.int (mI M 23 2) :: st) M ee) : Snd inj j X pc lo (.ref 23 :: st) M ee := sn_gI (k := 2) (T := TX1) rfl iw1 rfl ⟨by decide, by decide⟩ (by decide) rfl (by rw [hj]; exact w_fl_X6_238) hd k1
theorem g_X7_56 {α : Type} {inj : α → Option Value × mm_M} {j : mm_J} {X : mm_X} {pc : Nat} {lo : List (Option Value)} {st : List Value} {M : mm_M} {ee : Option α} (hj : j.1.cls = RX7) (hd : decode j.2.1 pc = .ok (.getfield 56, 3)) (k1 : Snd inj j X (pc + 3) lo (.int (mI M 46 0) :: st) M ee) : Snd inj j X pc lo (.ref 46 :: st) M ee := sn_gI (k := 0) (T := TX7) rfl iw7 rfl ⟨by decide, by decide⟩ (by decide) rfl (by rw [hj]; exact w_fl_X7_56) hd k1
theorem g_X7_7 {α : Type} {inj : α → Option Value × mm_M} {j : mm_J} {X : mm_X} {pc : Nat} {lo : List (Option Value)} {st : List Value} {M : mm_M} {ee : Option α} (hj : j.1.cls = RX7) (hd : decode j.2.1 pc = .ok (.getfield 7, 3)) (k1 : Snd inj j X (pc + 3) lo (.ref 47 :: st) M ee) : Snd inj j X pc lo (.ref 46 :: st) M ee := sn_gR 47 (k := 1) (T := TX7) rfl iw7 rfl ⟨by decide, by decide⟩ (by decide) rfl (by rw [hj]; exact w_fl_X7_7) hd k1
theorem g_X7_16 {α : Type} {inj : α → Option Value × mm_M} {j : mm_J} {X : mm_X} {pc : Nat} {lo : List (Option Value)} {st : List Value} {M : mm_M} {ee : Option α} (hj : j.1.cls = RX7) (hd : decode j.2.1 pc = .ok (.getfield 16, 3)) (k1 : Snd inj j X (pc + 3) lo (.ref 49 :: st) M ee) : Snd inj j X pc lo (.ref 46 :: st) M ee := sn_gR 49 (k := 3) (T := TX7) rfl iw7 rfl ⟨by decide, by decide⟩ (by decide) rfl (by rw [hj]; exact w_fl_X7_16) hd k1
theorem g_X7_64 {α : Type} {inj : α → Option Value × mm_M} {j : mm_J} {X : mm_X} {pc : Nat} {lo : List (Option Value)} {st : List Value} {M : mm_M} {ee : Option α} (hj : j.1.cls = RX7) (hd : decode j.2.1 pc = .ok (.getfield 64, 3)) (k1 : Snd inj j X (pc + 3) lo (.int (mI M 46 4) :: st) M ee) : Snd inj j X pc lo (.ref 46 :: st) M ee := sn_gI (k := 4) (T := TX7) rfl iw7 rfl ⟨by decide, by decide⟩ (by decide) rfl (by rw [hj]; exact w_fl_X7_64) hd k1
theorem p_X7_64 {α : Type} {inj : α → Option Value × mm_M} {j : mm_J} {X : mm_X} {pc : Nat} {lo : List (Option Value)} {st : List Value} {M : mm_M} {ex : mm_M → Option α} {v : Int32} (hj : j.1.cls = RX7) (hd : decode j.2.1 pc = .ok (.putfield 64, 3)) (k1 : ∀ M, Snd inj j X (pc + 3) lo st M (ex M)) : Snd inj j X pc lo (.int v :: .ref 46 :: st) M (bM (sI M 46 4 v) ex) := sn_pI (k := 4) (T := TX7) tyX7 tyX7_ok nmX7 rfl iw7 rfl ⟨by decide, by decide⟩ (by decide) rfl rfl (tyX7_ok 4 (by decide)) (by rw [hj]; exact w_fl_X7_64) hd k1
theorem p_X7_56 {α : Type} {inj : α → Option Value × mm_M} {j : mm_J} {X : mm_X} {pc : Nat} {lo : List (Option Value)} {st : List Value} {M : mm_M} {ex : mm_M → Option α} {v : Int32} (hj : j.1.cls = RX7) (hd : decode j.2.1 pc = .ok (.putfield 56, 3)) (k1 : ∀ M, Snd inj j X (pc + 3) lo st M (ex M)) : Snd inj j X pc lo (.int v :: .ref 46 :: st) M (bM (sI M 46 0 v) ex) := sn_pI (k := 0) (T := TX7) tyX7 tyX7_ok nmX7 rfl iw7 rfl ⟨by decide, by decide⟩ (by decide) rfl rfl (tyX7_ok 0 (by decide)) (by rw [hj]; exact w_fl_X7_56) hd k1
theorem g_X7_71 {α : Type} {inj : α → Option Value × mm_M} {j : mm_J} {X : mm_X} {pc : Nat} {lo : List (Option Value)} {st : List Value} {M : mm_M} {ee : Option α} (hj : j.1.cls = RX7) (hd : decode j.2.1 pc = .ok (.getfield 71, 3)) (k1 : Snd inj j X (pc + 3) lo (.int (mI M 46 6) :: st) M ee) : Snd inj j X pc lo (.ref 46 :: st) M ee := sn_gI (k := 6) (T := TX7) rfl iw7 rfl ⟨by decide, by decide⟩ (by decide) rfl (by rw [hj]; exact w_fl_X7_71) hd k1
theorem p_X7_71 {α : Type} {inj : α → Option Value × mm_M} {j : mm_J} {X : mm_X} {pc : Nat} {lo : List (Option Value)} {st : List Value} {M : mm_M} {ex : mm_M → Option α} {v : Int32} (hj : j.1.cls = RX7) (hd : decode j.2.1 pc = .ok (.putfield 71, 3)) (k1 : ∀ M, Snd inj j X (pc + 3) lo st M (ex M)) : Snd inj j X pc lo (.int v :: .ref 46 :: st) M (bM (sI M 46 6 v) ex) := sn_pI (k := 6) (T := TX7) tyX7 tyX7_ok nmX7 rfl iw7 rfl ⟨by decide, by decide⟩ (by decide) rfl rfl (tyX7_ok 6 (by decide)) (by rw [hj]; exact w_fl_X7_71) hd k1
theorem p_X7_74 {α : Type} {inj : α → Option Value × mm_M} {j : mm_J} {X : mm_X} {pc : Nat} {lo : List (Option Value)} {st : List Value} {M : mm_M} {ex : mm_M → Option α} {v : Int32} (hj : j.1.cls = RX7) (hd : decode j.2.1 pc = .ok (.putfield 74, 3)) (k1 : ∀ M, Snd inj j X (pc + 3) lo st M (ex M)) : Snd inj j X pc lo (.int v :: .ref 46 :: st) M (bM (sI M 46 7 v) ex) := sn_pI (k := 7) (T := TX7) tyX7 tyX7_ok nmX7 rfl iw7 rfl ⟨by decide, by decide⟩ (by decide) rfl rfl (tyX7_ok 7 (by decide)) (by rw [hj]; exact w_fl_X7_74) hd k1
theorem g_X7_89 {α : Type} {inj : α → Option Value × mm_M} {j : mm_J} {X : mm_X} {pc : Nat} {lo : List (Option Value)} {st : List Value} {M : mm_M} {ee : Option α} (hj : j.1.cls = RX7) (hd : decode j.2.1 pc = .ok (.getfield 89, 3)) (k1 : Snd inj j X (pc + 3) lo (.int (mI M 46 9) :: st) M ee) : Snd inj j X pc lo (.ref 46 :: st) M ee := sn_gI (k := 9) (T := TX7) rfl iw7 rfl ⟨by decide, by decide⟩ (by decide) rfl (by rw [hj]; exact w_fl_X7_89) hd k1
theorem p_X7_92 {α : Type} {inj : α → Option Value × mm_M} {j : mm_J} {X : mm_X} {pc : Nat} {lo : List (Option Value)} {st : List Value} {M : mm_M} {ex : mm_M → Option α} {v : Int32} (hj : j.1.cls = RX7) (hd : decode j.2.1 pc = .ok (.putfield 92, 3)) (k1 : ∀ M, Snd inj j X (pc + 3) lo st M (ex M)) : Snd inj j X pc lo (.int v :: .ref 46 :: st) M (bM (sI M 46 8 v) ex) := sn_pI (k := 8) (T := TX7) tyX7 tyX7_ok nmX7 rfl iw7 rfl ⟨by decide, by decide⟩ (by decide) rfl rfl (tyX7_ok 8 (by decide)) (by rw [hj]; exact w_fl_X7_92) hd k1
theorem g_X7_92 {α : Type} {inj : α → Option Value × mm_M} {j : mm_J} {X : mm_X} {pc : Nat} {lo : List (Option Value)} {st : List Value} {M : mm_M} {ee : Option α} (hj : j.1.cls = RX7) (hd : decode j.2.1 pc = .ok (.getfield 92, 3)) (k1 : Snd inj j X (pc + 3) lo (.int (mI M 46 8) :: st) M ee) : Snd inj j X pc lo (.ref 46 :: st) M ee := sn_gI (k := 8) (T := TX7) rfl iw7 rfl ⟨by decide, by decide⟩ (by decide) rfl (by rw [hj]; exact w_fl_X7_92) hd k1
theorem p_X7_89 {α : Type} {inj : α → Option Value × mm_M} {j : mm_J} {X : mm_X} {pc : Nat} {lo : List (Option Value)} {st : List Value} {M : mm_M} {ex : mm_M → Option α} {v : Int32} (hj : j.1.cls = RX7) (hd : decode j.2.1 pc = .ok (.putfield 89, 3)) (k1 : ∀ M, Snd inj j X (pc + 3) lo st M (ex M)) : Snd inj j X pc lo (.int v :: .ref 46 :: st) M (bM (sI M 46 9 v) ex) := sn_pI (k := 9) (T := TX7) tyX7 tyX7_ok nmX7 rfl iw7 rfl ⟨by decide, by decide⟩ (by decide) rfl rfl (tyX7_ok 9 (by decide)) (by rw [hj]; exact w_fl_X7_89) hd k1
theorem g_X7_13 {α : Type} {inj : α → Option Value × mm_M} {j : mm_J} {X : mm_X} {pc : Nat} {lo : List (Option Value)} {st : List Value} {M : mm_M} {ee : Option α} (hj : j.1.cls = RX7) (hd : decode j.2.1 pc = .ok (.getfield 13, 3)) (k1 : Snd inj j X (pc + 3) lo (.ref 48 :: st) M ee) : Snd inj j X pc lo (.ref 46 :: st) M ee := sn_gR 48 (k := 2) (T := TX7) rfl iw7 rfl ⟨by decide, by decide⟩ (by decide) rfl (by rw [hj]; exact w_fl_X7_13) hd k1
theorem g_X7_149 {α : Type} {inj : α → Option Value × mm_M} {j : mm_J} {X : mm_X} {pc : Nat} {lo : List (Option Value)} {st : List Value} {M : mm_M} {ee : Option α} (hj : j.1.cls = RX7) (hd : decode j.2.1 pc = .ok (.getfield 149, 3)) (k1 : Snd inj j X (pc + 3) lo (.int (mI M 46 10) :: st) M ee) : Snd inj j X pc lo (.ref 46 :: st) M ee := sn_gI (k := 10) (T := TX7) rfl iw7 rfl ⟨by decide, by decide⟩ (by decide) rfl (by rw [hj]; exact w_fl_X7_149) hd k1
theorem p_X7_149 {α : Type} {inj : α → Option Value × mm_M} {j : mm_J} {X : mm_X} {pc : Nat} {lo : List (Option Value)} {st : List Value} {M : mm_M} {ex : mm_M → Option α} {v : Int32} (hj : j.1.cls = RX7) (hd : decode j.2.1 pc = .ok (.putfield 149, 3)) (k1 : ∀ M, Snd inj j X (pc + 3) lo st M (ex M)) : Snd inj j X pc lo (.int v :: .ref 46 :: st) M (bM (sI M 46 10 v) ex) := sn_pI (k := 10) (T := TX7) tyX7 tyX7_ok nmX7 rfl iw7 rfl ⟨by decide, by decide⟩ (by decide) rfl rfl (tyX7_ok 10 (by decide)) (by rw [hj]; exact w_fl_X7_149) hd k1
theorem g_X7_74 {α : Type} {inj : α → Option Value × mm_M} {j : mm_J} {X : mm_X} {pc : Nat} {lo : List (Option Value)} {st : List Value} {M : mm_M} {ee : Option α} (hj : j.1.cls = RX7) (hd : decode j.2.1 pc = .ok (.getfield 74, 3)) (k1 : Snd inj j X (pc + 3) lo (.int (mI M 46 7) :: st) M ee) : Snd inj j X pc lo (.ref 46 :: st) M ee := sn_gI (k := 7) (T := TX7) rfl iw7 rfl ⟨by decide, by decide⟩ (by decide) rfl (by rw [hj]; exact w_fl_X7_74) hd k1
theorem p_X7_162 {α : Type} {inj : α → Option Value × mm_M} {j : mm_J} {X : mm_X} {pc : Nat} {lo : List (Option Value)} {st : List Value} {M : mm_M} {ex : mm_M → Option α} {v : Int32} (hj : j.1.cls = RX7) (hd : decode j.2.1 pc = .ok (.putfield 162, 3)) (k1 : ∀ M, Snd inj j X (pc + 3) lo st M (ex M)) : Snd inj j X pc lo (.int v :: .ref 46 :: st) M (bM (sI M 46 5 v) ex) := sn_pI (k := 5) (T := TX7) tyX7 tyX7_ok nmX7 rfl iw7 rfl ⟨by decide, by decide⟩ (by decide) rfl rfl (tyX7_ok 5 (by decide)) (by rw [hj]; exact w_fl_X7_162) hd k1
theorem g_X7_162 {α : Type} {inj : α → Option Value × mm_M} {j : mm_J} {X : mm_X} {pc : Nat} {lo : List (Option Value)} {st : List Value} {M : mm_M} {ee : Option α} (hj : j.1.cls = RX7) (hd : decode j.2.1 pc = .ok (.getfield 162, 3)) (k1 : Snd inj j X (pc + 3) lo (.int (mI M 46 5) :: st) M ee) : Snd inj j X pc lo (.ref 46 :: st) M ee := sn_gI (k := 5) (T := TX7) rfl iw7 rfl ⟨by decide, by decide⟩ (by decide) rfl (by rw [hj]; exact w_fl_X7_162) hd k1
theorem g_X7_185 {α : Type} {inj : α → Option Value × mm_M} {j : mm_J} {X : mm_X} {pc : Nat} {lo : List (Option Value)} {st : List Value} {M : mm_M} {ee : Option α} (hj : j.1.cls = RX7) (hd : decode j.2.1 pc = .ok (.getfield 185, 3)) (k1 : Snd inj j X (pc + 3) lo (.int (mI M 46 12) :: st) M ee) : Snd inj j X pc lo (.ref 46 :: st) M ee := sn_gI (k := 12) (T := TX7) rfl iw7 rfl ⟨by decide, by decide⟩ (by decide) rfl (by rw [hj]; exact w_fl_X7_185) hd k1
theorem g_X7_19 {α : Type} {inj : α → Option Value × mm_M} {j : mm_J} {X : mm_X} {pc : Nat} {lo : List (Option Value)} {st : List Value} {M : mm_M} {ee : Option α} (hj : j.1.cls = RX7) (hd : decode j.2.1 pc = .ok (.getfield 19, 3)) (k1 : Snd inj j X (pc + 3) lo (.ref 50 :: st) M ee) : Snd inj j X pc lo (.ref 46 :: st) M ee := sn_gR 50 (k := 14) (T := TX7) rfl iw7 rfl ⟨by decide, by decide⟩ (by decide) rfl (by rw [hj]; exact w_fl_X7_19) hd k1
theorem p_X7_201 {α : Type} {inj : α → Option Value × mm_M} {j : mm_J} {X : mm_X} {pc : Nat} {lo : List (Option Value)} {st : List Value} {M : mm_M} {ex : mm_M → Option α} {v : Int32} (hj : j.1.cls = RX7) (hd : decode j.2.1 pc = .ok (.putfield 201, 3)) (k1 : ∀ M, Snd inj j X (pc + 3) lo st M (ex M)) : Snd inj j X pc lo (.int v :: .ref 46 :: st) M (bM (sI M 46 11 v) ex) := sn_pI (k := 11) (T := TX7) tyX7 tyX7_ok nmX7 rfl iw7 rfl ⟨by decide, by decide⟩ (by decide) rfl rfl (tyX7_ok 11 (by decide)) (by rw [hj]; exact w_fl_X7_201) hd k1
theorem p_X7_185 {α : Type} {inj : α → Option Value × mm_M} {j : mm_J} {X : mm_X} {pc : Nat} {lo : List (Option Value)} {st : List Value} {M : mm_M} {ex : mm_M → Option α} {v : Int32} (hj : j.1.cls = RX7) (hd : decode j.2.1 pc = .ok (.putfield 185, 3)) (k1 : ∀ M, Snd inj j X (pc + 3) lo st M (ex M)) : Snd inj j X pc lo (.int v :: .ref 46 :: st) M (bM (sI M 46 12 v) ex) := sn_pI (k := 12) (T := TX7) tyX7 tyX7_ok nmX7 rfl iw7 rfl ⟨by decide, by decide⟩ (by decide) rfl rfl (tyX7_ok 12 (by decide)) (by rw [hj]; exact w_fl_X7_185) hd k1
theorem p_X7_204 {α : Type} {inj : α → Option Value × mm_M} {j : mm_J} {X : mm_X} {pc : Nat} {lo : List (Option Value)} {st : List Value} {M : mm_M} {ex : mm_M → Option α} {v : Int32} (hj : j.1.cls = RX7) (hd : decode j.2.1 pc = .ok (.putfield 204, 3)) (k1 : ∀ M, Snd inj j X (pc + 3) lo st M (ex M)) : Snd inj j X pc lo (.int v :: .ref 46 :: st) M (bM (sI M 46 13 v) ex) := sn_pI (k := 13) (T := TX7) tyX7 tyX7_ok nmX7 rfl iw7 rfl ⟨by decide, by decide⟩ (by decide) rfl rfl (tyX7_ok 13 (by decide)) (by rw [hj]; exact w_fl_X7_204) hd k1
theorem p_X7_207 {α : Type} {inj : α → Option Value × mm_M} {j : mm_J} {X : mm_X} {pc : Nat} {lo : List (Option Value)} {st : List Value} {M : mm_M} {ex : mm_M → Option α} {v : Int32} (hj : j.1.cls = RX7) (hd : decode j.2.1 pc = .ok (.putfield 207, 3)) (k1 : ∀ M, Snd inj j X (pc + 3) lo st M (ex M)) : Snd inj j X pc lo (.int v :: .ref 46 :: st) M (bM (sI M 46 15 v) ex) := sn_pI (k := 15) (T := TX7) tyX7 tyX7_ok nmX7 rfl iw7 rfl ⟨by decide, by decide⟩ (by decide) rfl rfl (tyX7_ok 15 (by decide)) (by rw [hj]; exact w_fl_X7_207) hd k1
theorem g_X7_25 {α : Type} {inj : α → Option Value × mm_M} {j : mm_J} {X : mm_X} {pc : Nat} {lo : List (Option Value)} {st : List Value} {M : mm_M} {ee : Option α} (hj : j.1.cls = RX7) (hd : decode j.2.1 pc = .ok (.getfield 25, 3)) (k1 : Snd inj j X (pc + 3) lo (.ref 52 :: st) M ee) : Snd inj j X pc lo (.ref 46 :: st) M ee := sn_gR 52 (k := 17) (T := TX7) rfl iw7 rfl ⟨by decide, by decide⟩ (by decide) rfl (by rw [hj]; exact w_fl_X7_25) hd k1
theorem g_X7_28 {α : Type} {inj : α → Option Value × mm_M} {j : mm_J} {X : mm_X} {pc : Nat} {lo : List (Option Value)} {st : List Value} {M : mm_M} {ee : Option α} (hj : j.1.cls = RX7) (hd : decode j.2.1 pc = .ok (.getfield 28, 3)) (k1 : Snd inj j X (pc + 3) lo (.ref 53 :: st) M ee) : Snd inj j X pc lo (.ref 46 :: st) M ee := sn_gR 53 (k := 18) (T := TX7) rfl iw7 rfl ⟨by decide, by decide⟩ (by decide) rfl (by rw [hj]; exact w_fl_X7_28) hd k1
theorem g_X7_22 {α : Type} {inj : α → Option Value × mm_M} {j : mm_J} {X : mm_X} {pc : Nat} {lo : List (Option Value)} {st : List Value} {M : mm_M} {ee : Option α} (hj : j.1.cls = RX7) (hd : decode j.2.1 pc = .ok (.getfield 22, 3)) (k1 : Snd inj j X (pc + 3) lo (.ref 51 :: st) M ee) : Snd inj j X pc lo (.ref 46 :: st) M ee := sn_gR 51 (k := 16) (T := TX7) rfl iw7 rfl ⟨by decide, by decide⟩ (by decide) rfl (by rw [hj]; exact w_fl_X7_22) hd k1
theorem g_X7_204 {α : Type} {inj : α → Option Value × mm_M} {j : mm_J} {X : mm_X} {pc : Nat} {lo : List (Option Value)} {st : List Value} {M : mm_M} {ee : Option α} (hj : j.1.cls = RX7) (hd : decode j.2.1 pc = .ok (.getfield 204, 3)) (k1 : Snd inj j X (pc + 3) lo (.int (mI M 46 13) :: st) M ee) : Snd inj j X pc lo (.ref 46 :: st) M ee := sn_gI (k := 13) (T := TX7) rfl iw7 rfl ⟨by decide, by decide⟩ (by decide) rfl (by rw [hj]; exact w_fl_X7_204) hd k1
theorem g_X7_201 {α : Type} {inj : α → Option Value × mm_M} {j : mm_J} {X : mm_X} {pc : Nat} {lo : List (Option Value)} {st : List Value} {M : mm_M} {ee : Option α} (hj : j.1.cls = RX7) (hd : decode j.2.1 pc = .ok (.getfield 201, 3)) (k1 : Snd inj j X (pc + 3) lo (.int (mI M 46 11) :: st) M ee) : Snd inj j X pc lo (.ref 46 :: st) M ee := sn_gI (k := 11) (T := TX7) rfl iw7 rfl ⟨by decide, by decide⟩ (by decide) rfl (by rw [hj]; exact w_fl_X7_201) hd k1
theorem g_X7_44 {α : Type} {inj : α → Option Value × mm_M} {j : mm_J} {X : mm_X} {pc : Nat} {lo : List (Option Value)} {st : List Value} {M : mm_M} {ee : Option α} (hj : j.1.cls = RX7) (hd : decode j.2.1 pc = .ok (.getfield 44, 3)) (k1 : Snd inj j X (pc + 3) lo (.ref 58 :: st) M ee) : Snd inj j X pc lo (.ref 46 :: st) M ee := sn_gR 58 (k := 23) (T := TX7) rfl iw7 rfl ⟨by decide, by decide⟩ (by decide) rfl (by rw [hj]; exact w_fl_X7_44) hd k1
theorem g_X7_32 {α : Type} {inj : α → Option Value × mm_M} {j : mm_J} {X : mm_X} {pc : Nat} {lo : List (Option Value)} {st : List Value} {M : mm_M} {ee : Option α} (hj : j.1.cls = RX7) (hd : decode j.2.1 pc = .ok (.getfield 32, 3)) (k1 : Snd inj j X (pc + 3) lo (.ref 54 :: st) M ee) : Snd inj j X pc lo (.ref 46 :: st) M ee := sn_gR 54 (k := 19) (T := TX7) rfl iw7 rfl ⟨by decide, by decide⟩ (by decide) rfl (by rw [hj]; exact w_fl_X7_32) hd k1
theorem g_X7_35 {α : Type} {inj : α → Option Value × mm_M} {j : mm_J} {X : mm_X} {pc : Nat} {lo : List (Option Value)} {st : List Value} {M : mm_M} {ee : Option α} (hj : j.1.cls = RX7) (hd : decode j.2.1 pc = .ok (.getfield 35, 3)) (k1 : Snd inj j X (pc + 3) lo (.ref 55 :: st) M ee) : Snd inj j X pc lo (.ref 46 :: st) M ee := sn_gR 55 (k := 20) (T := TX7) rfl iw7 rfl ⟨by decide, by decide⟩ (by decide) rfl (by rw [hj]; exact w_fl_X7_35) hd k1
theorem g_X7_38 {α : Type} {inj : α → Option Value × mm_M} {j : mm_J} {X : mm_X} {pc : Nat} {lo : List (Option Value)} {st : List Value} {M : mm_M} {ee : Option α} (hj : j.1.cls = RX7) (hd : decode j.2.1 pc = .ok (.getfield 38, 3)) (k1 : Snd inj j X (pc + 3) lo (.ref 56 :: st) M ee) : Snd inj j X pc lo (.ref 46 :: st) M ee := sn_gR 56 (k := 21) (T := TX7) rfl iw7 rfl ⟨by decide, by decide⟩ (by decide) rfl (by rw [hj]; exact w_fl_X7_38) hd k1
theorem g_X7_207 {α : Type} {inj : α → Option Value × mm_M} {j : mm_J} {X : mm_X} {pc : Nat} {lo : List (Option Value)} {st : List Value} {M : mm_M} {ee : Option α} (hj : j.1.cls = RX7) (hd : decode j.2.1 pc = .ok (.getfield 207, 3)) (k1 : Snd inj j X (pc + 3) lo (.int (mI M 46 15) :: st) M ee) : Snd inj j X pc lo (.ref 46 :: st) M ee := sn_gI (k := 15) (T := TX7) rfl iw7 rfl ⟨by decide, by decide⟩ (by decide) rfl (by rw [hj]; exact w_fl_X7_207) hd k1
theorem g_X7_47 {α : Type} {inj : α → Option Value × mm_M} {j : mm_J} {X : mm_X} {pc : Nat} {lo : List (Option Value)} {st : List Value} {M : mm_M} {ee : Option α} (hj : j.1.cls = RX7) (hd : decode j.2.1 pc = .ok (.getfield 47, 3)) (k1 : Snd inj j X (pc + 3) lo (.ref 59 :: st) M ee) : Snd inj j X pc lo (.ref 46 :: st) M ee := sn_gR 59 (k := 24) (T := TX7) rfl iw7 rfl ⟨by decide, by decide⟩ (by decide) rfl (by rw [hj]; exact w_fl_X7_47) hd k1
theorem g_X7_41 {α : Type} {inj : α → Option Value × mm_M} {j : mm_J} {X : mm_X} {pc : Nat} {lo : List (Option Value)} {st : List Value} {M : mm_M} {ee : Option α} (hj : j.1.cls = RX7) (hd : decode j.2.1 pc = .ok (.getfield 41, 3)) (k1 : Snd inj j X (pc + 3) lo (.ref 57 :: st) M ee) : Snd inj j X pc lo (.ref 46 :: st) M ee := sn_gR 57 (k := 22) (T := TX7) rfl iw7 rfl ⟨by decide, by decide⟩ (by decide) rfl (by rw [hj]; exact w_fl_X7_41) hd k1
theorem g_X7_50 {α : Type} {inj : α → Option Value × mm_M} {j : mm_J} {X : mm_X} {pc : Nat} {lo : List (Option Value)} {st : List Value} {M : mm_M} {ee : Option α} (hj : j.1.cls = RX7) (hd : decode j.2.1 pc = .ok (.getfield 50, 3)) (k1 : Snd inj j X (pc + 3) lo (.ref 60 :: st) M ee) : Snd inj j X pc lo (.ref 46 :: st) M ee := sn_gR 60 (k := 25) (T := TX7) rfl iw7 rfl ⟨by decide, by decide⟩ (by decide) rfl (by rw [hj]; exact w_fl_X7_50) hd k1
theorem g_X7_53 {α : Type} {inj : α → Option Value × mm_M} {j : mm_J} {X : mm_X} {pc : Nat} {lo : List (Option Value)} {st : List Value} {M : mm_M} {ee : Option α} (hj : j.1.cls = RX7) (hd : decode j.2.1 pc = .ok (.getfield 53, 3)) (k1 : Snd inj j X (pc + 3) lo (.ref 61 :: st) M ee) : Snd inj j X pc lo (.ref 46 :: st) M ee := sn_gR 61 (k := 26) (T := TX7) rfl iw7 rfl ⟨by decide, by decide⟩ (by decide) rfl (by rw [hj]; exact w_fl_X7_53) hd k1
end
section
theorem w_in_J0 : Cond.initialized "java/lang/String" ∈ mm_tbl := mm_in1 11 rfl rfl
theorem w_in_J1 : Cond.initialized "java/lang/StringLatin1" ∈ mm_tbl := mm_in1 12 rfl rfl
theorem w_in_J3 : Cond.initialized "jdk/internal/util/Preconditions" ∈ mm_tbl := mm_in1 13 rfl rfl
theorem w_cd_J0_length_8abf5 : Cond.code yJ0_length_8abf5 cJ0_length_8abf5 1 (some .int) ∈ mm_tbl := mm_in2 106 rfl rfl
theorem w_im_J0_length_8abf5 : Cond.instanceMethod yJ0_length_8abf5 ∈ mm_tbl := mm_in2 104 rfl rfl
theorem w_se_J0_length_8abf5 : Cond.selects yJ0_length_8abf5.cls yJ0_length_8abf5 yJ0_length_8abf5 ∈ mm_tbl := mm_in2 105 rfl rfl
theorem w_cd_J0_charAt_5068e : Cond.code yJ0_charAt_5068e cJ0_charAt_5068e 2 (some .char) ∈ mm_tbl := mm_in2 116 rfl rfl
theorem w_im_J0_charAt_5068e : Cond.instanceMethod yJ0_charAt_5068e ∈ mm_tbl := mm_in2 114 rfl rfl
theorem w_se_J0_charAt_5068e : Cond.selects yJ0_charAt_5068e.cls yJ0_charAt_5068e yJ0_charAt_5068e ∈ mm_tbl := mm_in2 115 rfl rfl
theorem w_cd_J0_coder_7d493 : Cond.code yJ0_coder_7d493 cJ0_coder_7d493 1 (some .byte) ∈ mm_tbl := mm_in2 110 rfl rfl
theorem w_im_J0_coder_7d493 : Cond.instanceMethod yJ0_coder_7d493 ∈ mm_tbl := mm_in2 108 rfl rfl
theorem w_se_J0_coder_7d493 : Cond.selects yJ0_coder_7d493.cls yJ0_coder_7d493 yJ0_coder_7d493 ∈ mm_tbl := mm_in2 109 rfl rfl
theorem w_cd_J0_isLatin1_aae02 : Cond.code yJ0_isLatin1_aae02 cJ0_isLatin1_aae02 1 (some .boolean) ∈ mm_tbl := mm_in2 120 rfl rfl
theorem w_im_J0_isLatin1_aae02 : Cond.instanceMethod yJ0_isLatin1_aae02 ∈ mm_tbl := mm_in2 118 rfl rfl
theorem w_se_J0_isLatin1_aae02 : Cond.selects yJ0_isLatin1_aae02.cls yJ0_isLatin1_aae02 yJ0_isLatin1_aae02 ∈ mm_tbl := mm_in2 119 rfl rfl
theorem w_cd_J0_checkIndex_df160 : Cond.code yJ0_checkIndex_df160 cJ0_checkIndex_df160 2 none ∈ mm_tbl := mm_in2 126 rfl rfl
theorem w_st_J0_checkIndex_df160 : Cond.static yJ0_checkIndex_df160 ∈ mm_tbl := mm_in2 125 rfl rfl
theorem w_cd_J1_charAt_3b067 : Cond.code yJ1_charAt_3b067 cJ1_charAt_3b067 2 (some .char) ∈ mm_tbl := mm_in2 123 rfl rfl
theorem w_st_J1_charAt_3b067 : Cond.static yJ1_charAt_3b067 ∈ mm_tbl := mm_in2 122 rfl rfl
theorem w_cd_J3_checkIndex_8e157 : Cond.code yJ3_checkIndex_8e157 cJ3_checkIndex_8e157 3 (some .int) ∈ mm_tbl := mm_in2 131 rfl rfl
theorem w_st_J3_checkIndex_8e157 : Cond.static yJ3_checkIndex_8e157 ∈ mm_tbl := mm_in2 130 rfl rfl
theorem w_fl_J0_38 : Cond.fieldLink "java/lang/String" 38 "java/lang/String" "COMPACT_STRINGS" "Z" ∈ mm_tbl := mm_in2 111 rfl rfl
theorem w_fl_J0_1053 : Cond.fieldLink "java/lang/String" 1053 "jdk/internal/util/Preconditions" "SIOOBE_FORMATTER" "Ljava/util/function/BiFunction;" ∈ mm_tbl := mm_in2 127 rfl rfl
theorem w_fl_J0_9 : Cond.fieldLink "java/lang/String" 9 "java/lang/String" "value" "[B" ∈ mm_tbl := mm_in6 81 rfl rfl
theorem w_fl_J0_15 : Cond.fieldLink "java/lang/String" 15 "java/lang/String" "coder" "B" ∈ mm_tbl := mm_in6 82 rfl rfl
theorem w_ml_J0_335 : Cond.methodLink RJ0 335 yJ0_coder_7d493 ∈ mm_tbl := mm_in2 107 rfl rfl
theorem w_ml_J0_492 : Cond.methodLink RJ0 492 yJ0_isLatin1_aae02 ∈ mm_tbl := mm_in2 117 rfl rfl
theorem w_ml_J0_495 : Cond.methodLink RJ0 495 yJ1_charAt_3b067 ∈ mm_tbl := mm_in2 121 rfl rfl
theorem w_ml_J1_9 : Cond.methodLink RJ1 9 yJ0_checkIndex_df160 ∈ mm_tbl := mm_in2 124 rfl rfl
theorem w_ml_J0_1059 : Cond.methodLink RJ0 1059 yJ3_checkIndex_8e157 ∈ mm_tbl := mm_in2 129 rfl rfl
abbrev jJ0_coder_7d493 : mm_J := (yJ0_coder_7d493, cJ0_coder_7d493, 1, (some .byte), 0)
theorem qJ0_coder_7d493 : mm_cl jJ0_coder_7d493 0 := ⟨w_cd_J0_coder_7d493, w_in_J0, by decide +kernel, by decide, by decide⟩
theorem dJ0_coder_7d493_0 : decode cJ0_coder_7d493 0 = .ok (.getstatic 38, 3) := by decide +kernel
theorem dJ0_coder_7d493_3 : decode cJ0_coder_7d493 3 = .ok (.ifCond .eq 10, 3) := by decide +kernel
theorem dJ0_coder_7d493_6 : decode cJ0_coder_7d493 6 = .ok (.aload_n 0, 1) := by decide +kernel
theorem dJ0_coder_7d493_7 : decode cJ0_coder_7d493 7 = .ok (.getfield 15, 3) := by decide +kernel
theorem dJ0_coder_7d493_10 : decode cJ0_coder_7d493 10 = .ok (.goto 4, 3) := by decide +kernel
theorem dJ0_coder_7d493_13 : decode cJ0_coder_7d493 13 = .ok (.iconst 1, 1) := by decide +kernel
theorem dJ0_coder_7d493_14 : decode cJ0_coder_7d493 14 = .ok (.ireturn, 1) := by decide +kernel
abbrev jJ0_isLatin1_aae02 : mm_J := (yJ0_isLatin1_aae02, cJ0_isLatin1_aae02, 1, (some .boolean), 0)
theorem qJ0_isLatin1_aae02 : mm_cl jJ0_isLatin1_aae02 0 := ⟨w_cd_J0_isLatin1_aae02, w_in_J0, by decide +kernel, by decide, by decide⟩
theorem dJ0_isLatin1_aae02_0 : decode cJ0_isLatin1_aae02 0 = .ok (.getstatic 38, 3) := by decide +kernel
theorem dJ0_isLatin1_aae02_3 : decode cJ0_isLatin1_aae02 3 = .ok (.ifCond .eq 14, 3) := by decide +kernel
theorem dJ0_isLatin1_aae02_6 : decode cJ0_isLatin1_aae02 6 = .ok (.aload_n 0, 1) := by decide +kernel
theorem dJ0_isLatin1_aae02_7 : decode cJ0_isLatin1_aae02 7 = .ok (.getfield 15, 3) := by decide +kernel
theorem dJ0_isLatin1_aae02_10 : decode cJ0_isLatin1_aae02 10 = .ok (.ifCond .ne 7, 3) := by decide +kernel
theorem dJ0_isLatin1_aae02_13 : decode cJ0_isLatin1_aae02 13 = .ok (.iconst 1, 1) := by decide +kernel
theorem dJ0_isLatin1_aae02_14 : decode cJ0_isLatin1_aae02 14 = .ok (.goto 4, 3) := by decide +kernel
theorem dJ0_isLatin1_aae02_17 : decode cJ0_isLatin1_aae02 17 = .ok (.iconst 0, 1) := by decide +kernel
theorem dJ0_isLatin1_aae02_18 : decode cJ0_isLatin1_aae02 18 = .ok (.ireturn, 1) := by decide +kernel
abbrev jJ0_length_8abf5 : mm_J := (yJ0_length_8abf5, cJ0_length_8abf5, 1, (some .int), 1)
theorem qJ0_length_8abf5 : mm_cl jJ0_length_8abf5 0 := ⟨w_cd_J0_length_8abf5, w_in_J0, by decide +kernel, by decide, by decide⟩
theorem dJ0_length_8abf5_0 : decode cJ0_length_8abf5 0 = .ok (.aload_n 0, 1) := by decide +kernel
theorem dJ0_length_8abf5_1 : decode cJ0_length_8abf5 1 = .ok (.getfield 9, 3) := by decide +kernel
theorem dJ0_length_8abf5_4 : decode cJ0_length_8abf5 4 = .ok (.arraylength, 1) := by decide +kernel
theorem dJ0_length_8abf5_5 : decode cJ0_length_8abf5 5 = .ok (.aload_n 0, 1) := by decide +kernel
theorem dJ0_length_8abf5_6 : decode cJ0_length_8abf5 6 = .ok (.invokevirtual 335, 3) := by decide +kernel
theorem dJ0_length_8abf5_9 : decode cJ0_length_8abf5 9 = .ok (.ishr, 1) := by decide +kernel
theorem dJ0_length_8abf5_10 : decode cJ0_length_8abf5 10 = .ok (.ireturn, 1) := by decide +kernel
abbrev jJ3_checkIndex_8e157 : mm_J := (yJ3_checkIndex_8e157, cJ3_checkIndex_8e157, 3, (some .int), 0)
theorem qJ3_checkIndex_8e157 : mm_cl jJ3_checkIndex_8e157 3 := ⟨w_cd_J3_checkIndex_8e157, w_in_J3, by decide +kernel, by decide, by decide⟩
theorem dJ3_checkIndex_8e157_0 : decode cJ3_checkIndex_8e157 0 = .ok (.iload_n 0, 1) := by decide +kernel
theorem dJ3_checkIndex_8e157_1 : decode cJ3_checkIndex_8e157 1 = .ok (.ifCond .lt 8, 3) := by decide +kernel
theorem dJ3_checkIndex_8e157_4 : decode cJ3_checkIndex_8e157 4 = .ok (.iload_n 0, 1) := by decide +kernel
theorem dJ3_checkIndex_8e157_5 : decode cJ3_checkIndex_8e157 5 = .ok (.iload_n 1, 1) := by decide +kernel
theorem dJ3_checkIndex_8e157_6 : decode cJ3_checkIndex_8e157 6 = .ok (.if_icmp .lt 10, 3) := by decide +kernel
theorem dJ3_checkIndex_8e157_9 : decode cJ3_checkIndex_8e157 9 = .ok (.aload_n 2, 1) := by decide +kernel
theorem dJ3_checkIndex_8e157_10 : decode cJ3_checkIndex_8e157 10 = .ok (.iload_n 0, 1) := by decide +kernel
theorem dJ3_checkIndex_8e157_11 : decode cJ3_checkIndex_8e157 11 = .ok (.iload_n 1, 1) := by decide +kernel
theorem dJ3_checkIndex_8e157_12 : decode cJ3_checkIndex_8e157 12 = .ok (.invokestatic 95, 3) := by decide +kernel
theorem dJ3_checkIndex_8e157_15 : decode cJ3_checkIndex_8e157 15 = .ok (.athrow, 1) := by decide +kernel
theorem dJ3_checkIndex_8e157_16 : decode cJ3_checkIndex_8e157 16 = .ok (.iload_n 0, 1) := by decide +kernel
theorem dJ3_checkIndex_8e157_17 : decode cJ3_checkIndex_8e157 17 = .ok (.ireturn, 1) := by decide +kernel
abbrev jJ0_checkIndex_df160 : mm_J := (yJ0_checkIndex_df160, cJ0_checkIndex_df160, 2, none, 1)
theorem qJ0_checkIndex_df160 : mm_cl jJ0_checkIndex_df160 2 := ⟨w_cd_J0_checkIndex_df160, w_in_J0, by decide +kernel, by decide, by decide⟩
theorem dJ0_checkIndex_df160_0 : decode cJ0_checkIndex_df160 0 = .ok (.iload_n 0, 1) := by decide +kernel
theorem dJ0_checkIndex_df160_1 : decode cJ0_checkIndex_df160 1 = .ok (.iload_n 1, 1) := by decide +kernel
theorem dJ0_checkIndex_df160_2 : decode cJ0_checkIndex_df160 2 = .ok (.getstatic 1053, 3) := by decide +kernel
theorem dJ0_checkIndex_df160_5 : decode cJ0_checkIndex_df160 5 = .ok (.invokestatic 1059, 3) := by decide +kernel
theorem dJ0_checkIndex_df160_8 : decode cJ0_checkIndex_df160 8 = .ok (.pop, 1) := by decide +kernel
theorem dJ0_checkIndex_df160_9 : decode cJ0_checkIndex_df160 9 = .ok (.return_, 1) := by decide +kernel
abbrev jJ1_charAt_3b067 : mm_J := (yJ1_charAt_3b067, cJ1_charAt_3b067, 2, (some .char), 2)
theorem qJ1_charAt_3b067 : mm_cl jJ1_charAt_3b067 2 := ⟨w_cd_J1_charAt_3b067, w_in_J1, by decide +kernel, by decide, by decide⟩
theorem dJ1_charAt_3b067_0 : decode cJ1_charAt_3b067 0 = .ok (.iload_n 1, 1) := by decide +kernel
theorem dJ1_charAt_3b067_1 : decode cJ1_charAt_3b067 1 = .ok (.aload_n 0, 1) := by decide +kernel
theorem dJ1_charAt_3b067_2 : decode cJ1_charAt_3b067 2 = .ok (.arraylength, 1) := by decide +kernel
theorem dJ1_charAt_3b067_3 : decode cJ1_charAt_3b067 3 = .ok (.invokestatic 9, 3) := by decide +kernel
theorem dJ1_charAt_3b067_6 : decode cJ1_charAt_3b067 6 = .ok (.aload_n 0, 1) := by decide +kernel
theorem dJ1_charAt_3b067_7 : decode cJ1_charAt_3b067 7 = .ok (.iload_n 1, 1) := by decide +kernel
theorem dJ1_charAt_3b067_8 : decode cJ1_charAt_3b067 8 = .ok (.baload, 1) := by decide +kernel
theorem dJ1_charAt_3b067_9 : decode cJ1_charAt_3b067 9 = .ok (.sipush 255, 3) := by decide +kernel
theorem dJ1_charAt_3b067_12 : decode cJ1_charAt_3b067 12 = .ok (.iand, 1) := by decide +kernel
theorem dJ1_charAt_3b067_13 : decode cJ1_charAt_3b067 13 = .ok (.i2c, 1) := by decide +kernel
theorem dJ1_charAt_3b067_14 : decode cJ1_charAt_3b067 14 = .ok (.ireturn, 1) := by decide +kernel
abbrev jJ0_charAt_5068e : mm_J := (yJ0_charAt_5068e, cJ0_charAt_5068e, 2, (some .char), 3)
theorem qJ0_charAt_5068e : mm_cl jJ0_charAt_5068e 1 := ⟨w_cd_J0_charAt_5068e, w_in_J0, by decide +kernel, by decide, by decide⟩
theorem dJ0_charAt_5068e_0 : decode cJ0_charAt_5068e 0 = .ok (.aload_n 0, 1) := by decide +kernel
theorem dJ0_charAt_5068e_1 : decode cJ0_charAt_5068e 1 = .ok (.invokevirtual 492, 3) := by decide +kernel
theorem dJ0_charAt_5068e_4 : decode cJ0_charAt_5068e 4 = .ok (.ifCond .eq 12, 3) := by decide +kernel
theorem dJ0_charAt_5068e_7 : decode cJ0_charAt_5068e 7 = .ok (.aload_n 0, 1) := by decide +kernel
theorem dJ0_charAt_5068e_8 : decode cJ0_charAt_5068e 8 = .ok (.getfield 9, 3) := by decide +kernel
theorem dJ0_charAt_5068e_11 : decode cJ0_charAt_5068e 11 = .ok (.iload_n 1, 1) := by decide +kernel
theorem dJ0_charAt_5068e_12 : decode cJ0_charAt_5068e 12 = .ok (.invokestatic 495, 3) := by decide +kernel
theorem dJ0_charAt_5068e_15 : decode cJ0_charAt_5068e 15 = .ok (.ireturn, 1) := by decide +kernel
theorem dJ0_charAt_5068e_16 : decode cJ0_charAt_5068e 16 = .ok (.aload_n 0, 1) := by decide +kernel
theorem dJ0_charAt_5068e_17 : decode cJ0_charAt_5068e 17 = .ok (.getfield 9, 3) := by decide +kernel
theorem dJ0_charAt_5068e_20 : decode cJ0_charAt_5068e 20 = .ok (.iload_n 1, 1) := by decide +kernel
theorem dJ0_charAt_5068e_21 : decode cJ0_charAt_5068e 21 = .ok (.invokestatic 498, 3) := by decide +kernel
theorem dJ0_charAt_5068e_24 : decode cJ0_charAt_5068e 24 = .ok (.ireturn, 1) := by decide +kernel
section TEXTS
variable {α : Type} {inj : α → Option Value × mm_M} {j : mm_J} {X : mm_X} {pc : Nat} {lo : List (Option Value)} {st : List Value} {M : mm_M} {ee ef : Option α}
def txL (q : Nat) : Nat := mm_txl.getD q 0
def txB (q k : Nat) : Int32 := (mm_txt.getD q []).getD k 0
theorem sn_tVal {q idx : Nat} (hq : q < 8) (hj : j.1.cls = "java/lang/String") (hw : Cond.fieldLink "java/lang/String" idx "java/lang/String" "value" "[B" ∈ mm_tbl) (hd : decode j.2.1 pc = .ok (.getfield idx, 3)) (k1 : Snd inj j X (pc + 3) lo (.ref (300 + q) :: st) M ee) : Snd inj j X pc lo (.ref (200 + q) :: st) M ee :=
  mStp.go ⟨rfl, fun p l e R s m args below meth c0 D A cs ad Q C H locs cells slots ls h1 h2 hW hL kk =>
    vk_getf (o := "java/lang/String") C.1 C.2.1 (C.2.2.2.2.2.2.2.2.2.1.2.2.2.1.1.1 q hq).2.2.1 hW.2.2 (by rw [← hj]; exact C.2.2.2.2.2.1) (C.2.2.2.2.1 _ hw) (fun _ h => h) hd (kk H locs ls hW hL)⟩ k1
theorem sn_tCod {q idx : Nat} (hq : q < 8) (hj : j.1.cls = "java/lang/String") (hw : Cond.fieldLink "java/lang/String" idx "java/lang/String" "coder" "B" ∈ mm_tbl) (hd : decode j.2.1 pc = .ok (.getfield idx, 3)) (k1 : Snd inj j X (pc + 3) lo (.int 0 :: st) M ee) : Snd inj j X pc lo (.ref (200 + q) :: st) M ee :=
  mStp.go ⟨rfl, fun p l e R s m args below meth c0 D A cs ad Q C H locs cells slots ls h1 h2 hW hL kk =>
    vk_getf (o := "java/lang/String") C.1 C.2.1 (C.2.2.2.2.2.2.2.2.2.1.2.2.2.1.1.1 q hq).2.1 hW.2.2 (by rw [← hj]; exact C.2.2.2.2.2.1) (C.2.2.2.2.1 _ hw) (fun _ h => h) hd (kk H locs ls hW hL)⟩ k1
theorem sn_tLen {q : Nat} (hq : q < 8) (hd : decode j.2.1 pc = .ok (.arraylength, 1)) (k1 : Snd inj j X (pc + 1) lo (.int (Int32.ofNat (txL q)) :: st) M ee) : Snd inj j X pc lo (.ref (300 + q) :: st) M ee :=
  mStp.go ⟨rfl, fun p l e R s m args below meth c0 D A cs ad Q C H locs cells slots ls h1 h2 hW hL kk =>
    va_tlen C.1 C.2.1 (C.2.2.2.2.2.2.2.2.2.1.2.2.2.1.1.1 q hq).2.2.2 hW.2.2 rfl hd (kk H locs ls hW hL)⟩ k1
theorem sn_tByt {q : Nat} {i : Int32} (hq : q < 8) (hi : inb i (txL q) = true) (hd : decode j.2.1 pc = .ok (.baload, 1)) (k1 : Snd inj j X (pc + 1) lo (.int (txB q i.toNatClampNeg) :: st) M ee) : Snd inj j X pc lo (.int i :: .ref (300 + q) :: st) M ee :=
  mStp.go ⟨rfl, fun p l e R s m args below meth c0 D A cs ad Q C H locs cells slots ls h1 h2 hW hL kk =>
    va_tb (v := .int (txB q i.toNatClampNeg)) C.1 C.2.1 (C.2.2.2.2.2.2.2.2.2.1.2.2.2.1.1.1 q hq).2.2.2 hW.2.2 (inb_in hi) rfl hd (kk H locs ls hW hL)⟩ k1
theorem sn_tCS {idx : Nat} (hj : j.1.cls = "java/lang/String") (hw : Cond.fieldLink "java/lang/String" idx "java/lang/String" "COMPACT_STRINGS" "Z" ∈ mm_tbl) (hd : decode j.2.1 pc = .ok (.getstatic idx, 3)) (k1 : Snd inj j X (pc + 3) lo (.int 1 :: st) M ee) : Snd inj j X pc lo st M ee :=
  mStp.go ⟨rfl, fun p l e R s m args below meth c0 D A cs ad Q C H locs cells slots ls h1 h2 hW hL kk =>
    va_gets C.1 C.2.1 C.2.2.2.2.2.2.2.2.2.1.2.2.2.2.1 hW.2.2 (by rw [← hj]; exact C.2.2.2.2.2.1) (C.2.2.2.2.1 _ hw) (fun _ h => h) hd (kk H locs ls hW hL)⟩ k1
theorem sn_tFm {idx : Nat} (hj : j.1.cls = "java/lang/String") (hw : Cond.fieldLink "java/lang/String" idx "jdk/internal/util/Preconditions" "SIOOBE_FORMATTER" "Ljava/util/function/BiFunction;" ∈ mm_tbl) (hd : decode j.2.1 pc = .ok (.getstatic idx, 3)) (k1 : ∀ v, v = .null ∨ v = .ref 400 → Snd inj j X (pc + 3) lo (v :: st) M ee) : Snd inj j X pc lo st M ee := by
  intro x hx
  obtain ⟨a1, a2⟩ := k1 .null (Or.inl rfl) x hx
  obtain ⟨b1, b2⟩ := k1 (.ref 400) (Or.inr rfl) x hx
  refine ⟨a1, ?_⟩
  intro p l e R s m args below meth c D A cs ad g0 k0 s0 Q C c1 c2 hQ H locs cells slots ls hW hL hcc hss
  rcases C.2.2.2.2.2.2.2.2.2.1.2.2.2.2.2 with hz | hz
  · exact va_gets C.1 C.2.1 hz hW.2.2 (by rw [← hj]; exact C.2.2.2.2.2.1) (C.2.2.2.2.1 _ hw) (fun _ h => h) hd (a2 p l e R s m args below meth c D A cs ad g0 k0 s0 Q C c1 c2 hQ H locs cells slots ls hW hL hcc hss)
  · exact va_gets C.1 C.2.1 hz hW.2.2 (by rw [← hj]; exact C.2.2.2.2.2.1) (C.2.2.2.2.1 _ hw) (fun _ h => h) hd (b2 p l e R s m args below meth c D A cs ad g0 k0 s0 Q C c1 c2 hQ H locs cells slots ls hW hL hcc hss)
theorem sn_nret {v : Int32} {ty : FieldType} (hr : j.2.2.2.1 = some ty) (hn : narrow ty (.int v) = .int v) (hd : decode j.2.1 pc = .ok (.ireturn, 1)) : Snd injI j X pc lo [.int v] M (some (v, M)) := by
  intro x hx
  cases hx
  refine ⟨Nat.le_refl _, ?_⟩
  intro p l e R s m args below meth c D A cs ad g0 k0 s0 Q C b1 b2 hQ H locs cells slots ls hW hL hc hs
  exact hQ H locs cells slots pc ls _ hW hc hs ⟨rfl, hd, ty, hr, hn⟩
theorem sn_if_eqF {a : Int32} {off : Int} (tgt : Nat) (h : ¬ a = 0) (ht : (pc : Int) + off = (tgt : Int)) (hd : decode j.2.1 pc = .ok (.ifCond .eq off, 3)) (k : Snd inj j X (pc + 3) lo st M ee) : Snd inj j X pc lo (.int a :: st) M ee := by
  have q := sn_if_eq (inj := inj) (a := a) (st := st) (ee := Option.none) tgt ht hd Snd.none k
  rwa [if_neg h] at q
theorem sn_if_neF {a : Int32} {off : Int} (tgt : Nat) (h : a = 0) (ht : (pc : Int) + off = (tgt : Int)) (hd : decode j.2.1 pc = .ok (.ifCond .ne off, 3)) (k : Snd inj j X (pc + 3) lo st M ee) : Snd inj j X pc lo (.int a :: st) M ee := by
  have q := sn_if_ne (inj := inj) (a := a) (st := st) (ee := Option.none) tgt ht hd Snd.none k
  rwa [if_pos h] at q
theorem sn_if_ltF {a : Int32} {off : Int} (tgt : Nat) (h : ¬ a < 0) (ht : (pc : Int) + off = (tgt : Int)) (hd : decode j.2.1 pc = .ok (.ifCond .lt off, 3)) (k : Snd inj j X (pc + 3) lo st M ee) : Snd inj j X pc lo (.int a :: st) M ee := by
  have q := sn_if_lt (inj := inj) (a := a) (st := st) (ee := Option.none) tgt ht hd Snd.none k
  rwa [if_neg h] at q
theorem sn_icmp_ltT {a b : Int32} {off : Int} (tgt : Nat) (h : a < b) (ht : (pc : Int) + off = (tgt : Int)) (hd : decode j.2.1 pc = .ok (.if_icmp .lt off, 3)) (k : Snd inj j X tgt lo st M ee) : Snd inj j X pc lo (.int b :: .int a :: st) M ee := by
  have q := sn_icmp_lt (inj := inj) (a := a) (b := b) (st := st) (ef := Option.none) tgt ht hd k Snd.none
  rwa [if_pos h] at q
theorem sn_callVT {β : Type} {jnj : β → Option Value × mm_M} {jc : mm_J} {idx n q : Nat} {st0 : List Value} {f : Option α} {ex : α → Option β} {As : List Value} (hq : q < 8) (hf : Snd inj jc mm_X0 0 ((.ref (200 + q) :: As).map some) [] M f) (hv : ∀ (x : α) r, (inj x).1 = some (.ref r) → False) (hc : ∀ v ∈ Value.ref (200 + q) :: As, v.category = 1) (hn : (Value.ref (200 + q) :: As).length ≤ jc.2.2.1) (hcl : mm_cl jc n) (hAs : As.length = n) (hlv : jc.2.2.2.2 + 1 ≤ j.2.2.2.2)
    (hC : jc.1.cls = "java/lang/String") (hl : Cond.methodLink j.1.cls idx jc.1 ∈ mm_tbl) (hin : Cond.instanceMethod jc.1 ∈ mm_tbl) (hse : Cond.selects jc.1.cls jc.1 jc.1 ∈ mm_tbl) (hst : st0 = As.reverse ++ .ref (200 + q) :: st) (hr : (st.map fun v => v.category).sum ≤ 8) (hd : decode j.2.1 pc = .ok (.invokevirtual idx, 3)) (k : ∀ x : α, f = some x → Snd jnj j X (pc + 3) lo ((inj x).1.toList ++ st) (inj x).2 (ex x)) : Snd jnj j X pc lo st0 M (f.bind ex) := by
  refine mm_call hf hv hc hn hcl hlv k ?_
  intro p l e R s m args below meth c D A cs ad H locs cells slots g ls Qc free C hls hWW hM hpc h1 h2
  have hts := C.2.2.2.2.1
  refine va_runV (C := jc.1.cls) (As := As.map (mm_v ad)) (rest := st.map (mm_v ad)) (b := ad (200 + q)) (n := n) (Ts := mm_tbl) (own := j.1.cls) ⟨C.1, C.2.1, C.2.2.1, C.2.2.2.2.2.1, hts⟩ hM ⟨callB_of n hts (mm_goodC hcl.1) rfl rfl rfl (hts _ hcl.2.1) (hts _ hl) hcl.2.2.1 ⟨Nat.le_trans hlv C.2.2.2.2.2.2.2.2.2.2.2.1, ?_⟩, hts _ hin, hts _ hse⟩ ⟨mm_blind D cs ad _ M _, ?_, fun U hU hWm => hpc U hU hWm⟩ rfl (by rw [List.length_map]; exact hAs) hls ?_ (lv_room (mm_cat8 hr)) hd ⟨h1, h2⟩
  · have q1 := C.2.2.2.2.2.2.2.2.2.2.2.2
    have q2 := hcl.2.2.2.2
    show 8 + (jc.2.2.1 + 11) + 36 * jc.2.2.2.2 ≤ R.locals
    omega
  · rw [hC]
    exact vk_recv (i := q) (adK := fun i => ad (200 + i)) C.2.2.2.2.2.2.2.2.2.1.2.2.2.1.1 hq hWW.2.2
  · rw [hst]
    show List.map (mm_v ad) (As.reverse ++ Value.ref (200 + q) :: st) = _
    rw [List.map_append, List.map_reverse]
    rfl
-- the methods
theorem sS_coder {q : Nat} (hq : q < 8) (M : mm_M) : Snd injI jJ0_coder_7d493 mm_X0 0 [some (.ref (200 + q))] [] M (some (0, M)) := by
  refine sn_tCS (j := jJ0_coder_7d493) (pc := 0) rfl w_fl_J0_38 dJ0_coder_7d493_0 ?_
  refine sn_if_eqF (j := jJ0_coder_7d493) (pc := 3) 13 (by decide) rfl dJ0_coder_7d493_3 ?_
  refine sn_aload_n (j := jJ0_coder_7d493) (pc := 6) rfl rfl dJ0_coder_7d493_6 ?_
  refine sn_tCod (j := jJ0_coder_7d493) (pc := 7) hq rfl w_fl_J0_15 dJ0_coder_7d493_7 ?_
  refine sn_goto (j := jJ0_coder_7d493) (pc := 10) 14 rfl dJ0_coder_7d493_10 ?_
  exact sn_nret (j := jJ0_coder_7d493) (pc := 14) rfl rfl dJ0_coder_7d493_14
theorem sS_isLatin1 {q : Nat} (hq : q < 8) (M : mm_M) : Snd injI jJ0_isLatin1_aae02 mm_X0 0 [some (.ref (200 + q))] [] M (some (1, M)) := by
  refine sn_tCS (j := jJ0_isLatin1_aae02) (pc := 0) rfl w_fl_J0_38 dJ0_isLatin1_aae02_0 ?_
  refine sn_if_eqF (j := jJ0_isLatin1_aae02) (pc := 3) 17 (by decide) rfl dJ0_isLatin1_aae02_3 ?_
  refine sn_aload_n (j := jJ0_isLatin1_aae02) (pc := 6) rfl rfl dJ0_isLatin1_aae02_6 ?_
  refine sn_tCod (j := jJ0_isLatin1_aae02) (pc := 7) hq rfl w_fl_J0_15 dJ0_isLatin1_aae02_7 ?_
  refine sn_if_neF (j := jJ0_isLatin1_aae02) (pc := 10) 17 rfl rfl dJ0_isLatin1_aae02_10 ?_
  refine sn_iconst (j := jJ0_isLatin1_aae02) (pc := 13) 1 rfl dJ0_isLatin1_aae02_13 ?_
  refine sn_goto (j := jJ0_isLatin1_aae02) (pc := 14) 18 rfl dJ0_isLatin1_aae02_14 ?_
  exact sn_nret (j := jJ0_isLatin1_aae02) (pc := 18) rfl narrow_b1 dJ0_isLatin1_aae02_18
theorem sS_length {q : Nat} (hq : q < 8) (M : mm_M) : Snd injI jJ0_length_8abf5 mm_X0 0 [some (.ref (200 + q))] [] M (some (Int32.ofNat (txL q), M)) := by
  refine sn_aload_n (j := jJ0_length_8abf5) (pc := 0) rfl rfl dJ0_length_8abf5_0 ?_
  refine sn_tVal (j := jJ0_length_8abf5) (pc := 1) hq rfl w_fl_J0_9 dJ0_length_8abf5_1 ?_
  refine sn_tLen (j := jJ0_length_8abf5) (pc := 4) hq dJ0_length_8abf5_4 ?_
  refine sn_aload_n (j := jJ0_length_8abf5) (pc := 5) rfl rfl dJ0_length_8abf5_5 ?_
  have e : (some (Int32.ofNat (txL q), M) : Option (Int32 × mm_M)) = (some (0, M) : Option (Int32 × mm_M)).bind (fun x => some (Int32.ofNat (txL q) >>> (x.1 &&& 31), x.2)) := by
    have : ∀ q : Fin 8, Int32.ofNat (txL q.1) >>> ((0 : Int32) &&& 31) = Int32.ofNat (txL q.1) := by decide +kernel
    have h9 := this ⟨q, hq⟩
    simp only [Option.bind_some]
    rw [h9]
  rw [e]
  refine sn_callVT (j := jJ0_length_8abf5) (pc := 6) (jc := jJ0_coder_7d493) (As := []) (f := some (0, M)) hq (sS_coder hq M) mm_hvI (by simp [Value.category]) (Nat.le_of_ble_eq_true rfl) qJ0_coder_7d493 rfl (by decide) rfl w_ml_J0_335 w_im_J0_coder_7d493 w_se_J0_coder_7d493 rfl (Nat.le_of_ble_eq_true rfl) dJ0_length_8abf5_6 ?_
  rintro ⟨r, M⟩ -
  show Snd injI jJ0_length_8abf5 mm_X0 9 _ [.int r, .int (Int32.ofNat (txL q))] M _
  refine sn_ishr (j := jJ0_length_8abf5) (pc := 9) dJ0_length_8abf5_9 ?_
  exact sn_nret (j := jJ0_length_8abf5) (pc := 10) rfl rfl dJ0_length_8abf5_10
theorem sS_pcheck {i n : Int32} {v : Value} (h1 : ¬ i < 0) (h2 : i < n) (M : mm_M) : Snd injI jJ3_checkIndex_8e157 mm_X0 0 [some (.int i), some (.int n), some v] [] M (some (i, M)) := by
  refine sn_iload_n (j := jJ3_checkIndex_8e157) (pc := 0) rfl rfl dJ3_checkIndex_8e157_0 ?_
  refine sn_if_ltF (j := jJ3_checkIndex_8e157) (pc := 1) 9 h1 rfl dJ3_checkIndex_8e157_1 ?_
  refine sn_iload_n (j := jJ3_checkIndex_8e157) (pc := 4) rfl rfl dJ3_checkIndex_8e157_4 ?_
  refine sn_iload_n (j := jJ3_checkIndex_8e157) (pc := 5) rfl rfl dJ3_checkIndex_8e157_5 ?_
  refine sn_icmp_ltT (j := jJ3_checkIndex_8e157) (pc := 6) 16 h2 rfl dJ3_checkIndex_8e157_6 ?_
  refine sn_iload_n (j := jJ3_checkIndex_8e157) (pc := 16) rfl rfl dJ3_checkIndex_8e157_16 ?_
  exact sn_iret (j := jJ3_checkIndex_8e157) (pc := 17) rfl dJ3_checkIndex_8e157_17
theorem sS_check {i n : Int32} (h1 : ¬ i < 0) (h2 : i < n) (M : mm_M) : Snd injV jJ0_checkIndex_df160 mm_X0 0 [some (.int i), some (.int n)] [] M (some M) := by
  refine sn_iload_n (j := jJ0_checkIndex_df160) (pc := 0) rfl rfl dJ0_checkIndex_df160_0 ?_
  refine sn_iload_n (j := jJ0_checkIndex_df160) (pc := 1) rfl rfl dJ0_checkIndex_df160_1 ?_
  refine sn_tFm (j := jJ0_checkIndex_df160) (pc := 2) rfl w_fl_J0_1053 dJ0_checkIndex_df160_2 (fun v hv => ?_)
  have hcat : v.category = 1 := by rcases hv with rfl | rfl <;> rfl
  refine sn_callS (j := jJ0_checkIndex_df160) (pc := 5) (jc := jJ3_checkIndex_8e157) (As := [.int i, .int n, v]) (ex := fun x => some x.2) (f := some (i, M)) (sS_pcheck h1 h2 M) mm_hvI (by rcases hv with rfl | rfl <;> simp [Value.category]) (Nat.le_of_ble_eq_true rfl) qJ3_checkIndex_8e157 rfl (by decide) w_ml_J0_1059 w_st_J3_checkIndex_8e157 rfl (Nat.le_of_ble_eq_true rfl) dJ0_checkIndex_df160_5 ?_
  rintro ⟨r, M⟩
  show Snd injV jJ0_checkIndex_df160 mm_X0 8 _ [.int r] M _
  refine sn_pop (j := jJ0_checkIndex_df160) (pc := 8) rfl dJ0_checkIndex_df160_8 ?_
  exact sn_vret (j := jJ0_checkIndex_df160) (pc := 9) rfl dJ0_checkIndex_df160_9
theorem tx_len : ∀ q, q < 8 → txL q < 100 := fun q h => by
  have : ∀ q : Fin 8, txL q.1 < 100 := by decide +kernel
  exact this ⟨q, h⟩
theorem inb_nn {i : Int32} {n : Nat} (h : inb i n = true) : ¬ i < 0 ∧ i.toNatClampNeg < n := by
  unfold inb at h
  simpa only [Bool.and_eq_true, Bool.not_eq_true', decide_eq_false_iff_not, decide_eq_true_eq] using h
theorem nn_nI {i : Int32} (h : ¬ i < 0) : nI i.toNatClampNeg = i := by
  have h0 : (0 : Int) ≤ i.toInt := by
    have := Int32.not_lt.mp h
    simpa using Int32.le_iff_toInt_le.mp this
  have hb : i.toInt < 2 ^ 31 := Int32.toInt_lt i
  apply Int32.toInt_inj.mp
  have e : i.toNatClampNeg = i.toInt.toNat := rfl
  rw [e, nI_toInt (by omega)]
  omega
theorem tx_chr : ∀ q, q < 8 → ∀ k, k < txL q → ((txB q k &&& 255).toUInt32 % 65536).toInt32 = txB q k ∧ narrow .char (.int (txB q k)) = .int (txB q k) := fun q hq k hk => by
  have : ∀ q : Fin 8, ∀ k : Fin 10, k.1 < txL q.1 → ((txB q.1 k.1 &&& 255).toUInt32 % 65536).toInt32 = txB q.1 k.1 ∧ vp_nar .char (txB q.1 k.1) = txB q.1 k.1 := by decide +kernel
  have hl : ∀ q : Fin 8, txL q.1 ≤ 10 := by decide +kernel
  have h1 := this ⟨q, hq⟩ ⟨k, Nat.lt_of_lt_of_le hk (hl ⟨q, hq⟩)⟩ hk
  refine ⟨h1.1, ?_⟩
  have h2 := h1.2
  rw [vp_nar_char] at h2
  show Value.int _ = _
  first | exact congrArg Value.int h2 | (simp only [narrow]; exact congrArg Value.int h2)
theorem sS_lchar {q : Nat} {i : Int32} (hq : q < 8) (hi : inb i (txL q) = true) (M : mm_M) : Snd injI jJ1_charAt_3b067 mm_X0 0 [some (.ref (300 + q)), some (.int i)] [] M (some (txB q i.toNatClampNeg, M)) := by
  obtain ⟨h1, h2⟩ := inb_nn hi
  have hlen := tx_len q hq
  refine sn_iload_n (j := jJ1_charAt_3b067) (pc := 0) rfl rfl dJ1_charAt_3b067_0 ?_
  refine sn_aload_n (j := jJ1_charAt_3b067) (pc := 1) rfl rfl dJ1_charAt_3b067_1 ?_
  refine sn_tLen (j := jJ1_charAt_3b067) (pc := 2) hq dJ1_charAt_3b067_2 ?_
  have hlt : i < Int32.ofNat (txL q) := by
    rw [← nn_nI h1]
    exact nI_lt h2 (by omega)
  refine sn_callS (j := jJ1_charAt_3b067) (pc := 3) (jc := jJ0_checkIndex_df160) (As := [.int i, .int (Int32.ofNat (txL q))]) (ex := fun M => some (txB q i.toNatClampNeg, M)) (f := some M) (sS_check h1 hlt M) mm_hvV (by simp [Value.category]) (Nat.le_of_ble_eq_true rfl) qJ0_checkIndex_df160 rfl (by decide) w_ml_J1_9 w_st_J0_checkIndex_df160 rfl (Nat.le_of_ble_eq_true rfl) dJ1_charAt_3b067_3 ?_
  intro M
  show Snd injI jJ1_charAt_3b067 mm_X0 6 _ [] M _
  refine sn_aload_n (j := jJ1_charAt_3b067) (pc := 6) rfl rfl dJ1_charAt_3b067_6 ?_
  refine sn_iload_n (j := jJ1_charAt_3b067) (pc := 7) rfl rfl dJ1_charAt_3b067_7 ?_
  refine sn_tByt (j := jJ1_charAt_3b067) (pc := 8) hq hi dJ1_charAt_3b067_8 ?_
  refine sn_sipush (j := jJ1_charAt_3b067) (pc := 9) 255 rfl dJ1_charAt_3b067_9 ?_
  refine sn_iand (j := jJ1_charAt_3b067) (pc := 12) dJ1_charAt_3b067_12 ?_
  refine sn_i2c (j := jJ1_charAt_3b067) (pc := 13) dJ1_charAt_3b067_13 ?_
  obtain ⟨e1, e2⟩ := tx_chr q hq _ h2
  rw [e1]
  exact sn_nret (j := jJ1_charAt_3b067) (pc := 14) rfl e2 dJ1_charAt_3b067_14
theorem sS_char {q : Nat} {i : Int32} (hq : q < 8) (hi : inb i (txL q) = true) (M : mm_M) : Snd injI jJ0_charAt_5068e mm_X0 0 [some (.ref (200 + q)), some (.int i)] [] M (some (txB q i.toNatClampNeg, M)) := by
  obtain ⟨h1, h2⟩ := inb_nn hi
  have hg : some (txB q i.toNatClampNeg, M) = (some ((1 : Int32), M) : Option (Int32 × mm_M)).bind (fun x => if ¬ x.1 = 0 then some (txB q i.toNatClampNeg, x.2) else none) := by simp
  refine sn_aload_n (j := jJ0_charAt_5068e) (pc := 0) rfl rfl dJ0_charAt_5068e_0 ?_
  rw [hg]
  refine sn_callVT (j := jJ0_charAt_5068e) (pc := 1) (jc := jJ0_isLatin1_aae02) (As := []) (f := some (1, M)) hq (sS_isLatin1 hq M) mm_hvI (by simp [Value.category]) (Nat.le_of_ble_eq_true rfl) qJ0_isLatin1_aae02 rfl (by decide) rfl w_ml_J0_492 w_im_J0_isLatin1_aae02 w_se_J0_isLatin1_aae02 rfl (Nat.le_of_ble_eq_true rfl) dJ0_charAt_5068e_1 ?_
  rintro ⟨r, M⟩ -
  show Snd injI jJ0_charAt_5068e mm_X0 4 _ [.int r] M _
  refine Snd.gd fun hr => ?_
  refine sn_if_eqF (j := jJ0_charAt_5068e) (pc := 4) 16 hr rfl dJ0_charAt_5068e_4 ?_
  refine sn_aload_n (j := jJ0_charAt_5068e) (pc := 7) rfl rfl dJ0_charAt_5068e_7 ?_
  refine sn_tVal (j := jJ0_charAt_5068e) (pc := 8) hq rfl w_fl_J0_9 dJ0_charAt_5068e_8 ?_
  refine sn_iload_n (j := jJ0_charAt_5068e) (pc := 11) rfl rfl dJ0_charAt_5068e_11 ?_
  have hg2 : some (txB q i.toNatClampNeg, M) = (some (txB q i.toNatClampNeg, M) : Option (Int32 × mm_M)).bind (fun x => if x.1 = txB q i.toNatClampNeg then some (x.1, x.2) else none) := by simp
  show Snd injI jJ0_charAt_5068e mm_X0 12 _ _ M (some (txB q i.toNatClampNeg, M))
  rw [hg2]
  refine sn_callS (j := jJ0_charAt_5068e) (pc := 12) (jc := jJ1_charAt_3b067) (As := [.ref (300 + q), .int i]) (f := some (txB q i.toNatClampNeg, M)) (sS_lchar hq hi M) mm_hvI (by simp [Value.category]) (Nat.le_of_ble_eq_true rfl) qJ1_charAt_3b067 rfl (by decide) w_ml_J0_495 w_st_J1_charAt_3b067 rfl (Nat.le_of_ble_eq_true rfl) dJ0_charAt_5068e_12 ?_
  rintro ⟨r, M⟩
  show Snd injI jJ0_charAt_5068e mm_X0 15 _ [.int r] M _
  refine Snd.gd fun hr => ?_
  have hr : r = txB q i.toNatClampNeg := hr
  subst hr
  exact sn_nret (j := jJ0_charAt_5068e) (pc := 15) rfl (tx_chr q hq _ h2).2 dJ0_charAt_5068e_15
-- as the class calls them
def strL (q : Nat) (e : Int32 → Option α) : Option α := e (Int32.ofNat (txL (q - 200)))
def strC (q : Nat) (i : Int32) (e : Int32 → Option α) : Option α := if inb i (txL (q - 200)) = true then e (txB (q - 200) i.toNatClampNeg) else none
theorem isS_q {q : Nat} (h : isS q = true) : ∃ k, k < 8 ∧ q = 200 + k := by
  simp only [isS, Bool.and_eq_true, decide_eq_true_eq] at h
  exact ⟨q - 200, by omega, by omega⟩
theorem sn_strlen {q idx : Nat} {ex : Int32 → Option α} (hS : isS q = true) (hl : Cond.methodLink j.1.cls idx yJ0_length_8abf5 ∈ mm_tbl) (hlv : 2 ≤ j.2.2.2.2) (hr : (st.map fun v => v.category).sum ≤ 8) (hd : decode j.2.1 pc = .ok (.invokevirtual idx, 3)) (k : ∀ x, Snd inj j X (pc + 3) lo (.int x :: st) M (ex x)) : Snd inj j X pc lo (.ref q :: st) M (strL q ex) := by
  obtain ⟨k0, hk, rfl⟩ := isS_q hS
  have e : strL (200 + k0) ex = (some (Int32.ofNat (txL k0), M) : Option (Int32 × mm_M)).bind (fun x => ex x.1) := by
    simp [strL]
  rw [e]
  refine sn_callVT (jc := jJ0_length_8abf5) (As := []) (f := some (Int32.ofNat (txL k0), M)) hk (sS_length hk M) mm_hvI (by simp [Value.category]) (Nat.le_of_ble_eq_true rfl) qJ0_length_8abf5 rfl hlv rfl hl w_im_J0_length_8abf5 w_se_J0_length_8abf5 rfl hr hd ?_
  rintro x hx
  cases hx
  exact k _
theorem sn_strchar {q idx : Nat} {i : Int32} {ex : Int32 → Option α} (hS : isS q = true) (hl : Cond.methodLink j.1.cls idx yJ0_charAt_5068e ∈ mm_tbl) (hlv : 4 ≤ j.2.2.2.2) (hr : (st.map fun v => v.category).sum ≤ 8) (hd : decode j.2.1 pc = .ok (.invokevirtual idx, 3)) (k : ∀ x, Snd inj j X (pc + 3) lo (.int x :: st) M (ex x)) : Snd inj j X pc lo (.int i :: .ref q :: st) M (strC q i ex) := by
  obtain ⟨k0, hk, rfl⟩ := isS_q hS
  unfold strC
  rw [show 200 + k0 - 200 = k0 by omega]
  refine Snd.ite fun hi => ?_
  have e : ex (txB k0 i.toNatClampNeg) = (some (txB k0 i.toNatClampNeg, M) : Option (Int32 × mm_M)).bind (fun x => ex x.1) := by
    simp
  rw [e]
  refine sn_callVT (jc := jJ0_charAt_5068e) (As := [.int i]) (f := some (txB k0 i.toNatClampNeg, M)) hk (sS_char hk hi M) mm_hvI (by simp [Value.category]) (Nat.le_of_ble_eq_true rfl) qJ0_charAt_5068e rfl hlv rfl hl w_im_J0_charAt_5068e w_se_J0_charAt_5068e rfl hr hd ?_
  rintro x hx
  cases hx
  exact k _
end TEXTS
end
